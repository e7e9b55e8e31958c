/-! ===== call: hall ===== -/
/-- the kinds of a fault -/
def KK (e : FT) : Prop := 1 ≤ e.1 ∧ e.1 ≤ 4
theorem nb_kk {w : TK} {l mo th : Nat} {o : Bool} {x : Nat} (h : nbO w l mo th o ≠ 0) : KK (nbO w l mo th o, x) := ⟨Nat.pos_of_ne_zero h, Nat.le_trans (nb_le w l mo th o) (by decide)⟩
theorem k1_kk (x : Nat) : KK (1, x) := ⟨Nat.le_refl _, (by decide : (1 : Nat) ≤ 4)⟩
theorem k2_kk (x : Nat) : KK (2, x) := ⟨(by decide : (1 : Nat) ≤ 2), (by decide : (2 : Nat) ≤ 4)⟩
theorem k4_kk (x : Nat) : KK (4, x) := ⟨(by decide : (1 : Nat) ≤ 4), Nat.le_refl _⟩
theorem kk_of {β : Type} {a e : FT} (k : KK a) (h : (Sum.inl a : Sum FT β) = Sum.inl e) : KK e := by cases h; exact k
theorem lk_kk {T : Nat → Nat} {n m : Nat} : ∀ (f : Nat) (w : TK) (tk pl gi : Nat) (pf gf : Nat → Nat) (e : FT), lkO T n m f w tk pl gi pf gf = Sum.inl e → KK e
  | 0, w, tk, pl, gi, pf, gf, e, h => kk_of (k1_kk _) h
  | f + 1, w, tk, pl, gi, pf, gf, e, h => by
    rw [lkO] at h
    split at h
    · next c => exact kk_of (nb_kk c) h
    · split at h
      · exact kk_of (k4_kk _) h
      · split at h
        · exact lk_kk f _ _ _ _ _ _ e h
        · split at h
          · exact lk_kk f _ _ _ _ _ _ e h
          · cases h
theorem td_kk {T : Nat → Nat} {n : Nat} : ∀ (f : Nat) (w : TK) (c : Nat) (tf : Nat → Nat) (e : FT), tdO T n f w c tf = Sum.inl e → KK e
  | 0, w, c, tf, e, h => kk_of (k1_kk _) h
  | f + 1, w, c, tf, e, h => by
    rw [tdO] at h
    split at h
    · next c => exact kk_of (nb_kk c) h
    · split at h
      · exact td_kk f _ _ _ e h
      · cases h
theorem tn_kk {T : Nat → Nat} {n m np : Nat} : ∀ (f : Nat) (w : TK) (c : Nat) (tf : Nat → Nat) (e : FT), tnO T n m np f w c tf = Sum.inl e → KK e
  | 0, w, c, tf, e, h => kk_of (k1_kk _) h
  | f + 1, w, c, tf, e, h => by
    rw [tnO] at h
    split at h
    · next c => exact kk_of (nb_kk c) h
    · split at h
      · exact tn_kk f _ _ _ e h
      · cases h
theorem ln_kk {T : Nat → Nat} {n : Nat} {w : TK} {D : DR} {e : FT} (h : lnO T n w D = Sum.inl e) : KK e := by
  unfold lnO at h
  split at h
  · unfold perO at h
    split at h
    · exact kk_of (k2_kk _) h
    · split at h
      · exact kk_of (k1_kk _) h
      · split at h
        · next c => exact kk_of (nb_kk c) h
        · split at h
          · split at h
            · next q => exact kk_of (lk_kk _ _ _ _ _ _ _ _ q) h
            · cases h
          · cases h
  · split at h
    · unfold lwO at h
      split at h
      · cases h
      · split at h
        · split at h
          · next c => exact kk_of (nb_kk c) h
          · cases h
        · split at h
          · split at h
            · next q => exact kk_of (td_kk _ _ _ _ _ q) h
            · cases h
          · exact kk_of (k1_kk _) h
    · split at h
      · unfold ltO at h
        split at h
        · next q => exact kk_of (tn_kk _ _ _ _ _ q) h
        · cases h
      · exact kk_of (k1_kk _) h
theorem sm_kk {T : Nat → Nat} {n : Nat} {r : Sum FT (TK × DR)} {e : FT} (hr : ∀ x, r = Sum.inl x → KK x) (h : smO2 T n r = Sum.inl e) : KK e := by
  unfold smO2 at h
  split at h
  · exact kk_of (hr _ rfl) h
  · split at h
    · cases h
    · exact kk_of (k1_kk _) h
theorem hl_kk {T : Nat → Nat} {n : Nat} : ∀ (f : Nat) (w : TK) (D : DR) (e : FT), hallO T n f w D = Sum.inl e → KK e
  | 0, w, D, e, h => kk_of (k1_kk _) h
  | f + 1, w, D, e, h => by
    rw [hallO] at h
    split at h
    · cases h
    · split at h
      · next q => exact kk_of (sm_kk (fun x hx => ln_kk hx) q) h
      · exact hl_kk f _ _ e h
theorem tx_kind {T : Nat → Nat} {n : Nat} {x : FT} (h : txO T n = Sum.inl x) : 1 ≤ x.1 ∧ x.1 ≤ 4 := by
  unfold txO at h
  split at h
  · exact kk_of (k1_kk _) h
  · split at h
    · next c => exact kk_of (nb_kk c) h
    · split at h
      · next q => exact kk_of (sm_kk (fun x hx => by cases hx) q) h
      · exact hl_kk _ _ _ _ h
theorem vn_if (b : Bool) : vp_nar .boolean (nI (if b = true then 1 else 0)) = nI (if b = true then 1 else 0) := by cases b <;> rfl
section HeM
variable {A : AH} {g : Nat → Nat → Nat} {σ : hsS}
theorem qm_copyG {z1 : Int32} {p : Nat} (hp : p < 8) {post : Int32 → hsS → Prop} (K : Int32 → hsS → Prop) (k : ∀ s, FRm [] [8] σ s → (∀ x, x < 10 * p ∨ 10 * p + 10 ≤ x → s.2.1 8 x = σ.2.1 8 x) → (∀ t, t < 10 → s.2.1 8 (10 * p + t) = σ.2.1 8 (10 * (8 + p) + t)) → ∀ z, K z s) : ∃ f, wX8_hall_L278 z1 (nI p) K post f 0 σ := by
  refine pk_loop (fun f j (s : hsS) => wX8_hall_L278 z1 (nI p) K post f (nI j) s) (fun j s => FRm [] [8] σ s ∧ (∀ x, x < 10 * p ∨ 10 * p + 10 ≤ x → s.2.1 8 x = σ.2.1 8 x) ∧ ∀ t, t < j → s.2.1 8 (10 * p + t) = σ.2.1 8 (10 * (8 + p) + t)) 10 0 σ (Nat.zero_le _) ⟨FRm.rf, fun _ _ => rfl, fun t ht => absurd ht (Nat.not_lt_zero _)⟩ ?_ ?_
  · intro f s e
    rw [wX8_hall_L278]
    exact br_t (nI_le (a := 10) (Nat.le_refl _) (by decide)) (k s e.1 e.2.1 e.2.2 _)
  · intro f j s hj e ih
    rw [wX8_hall_L278, show (((8 : Int32) + nI p) * (10 : Int32)) + nI j = nI (10 * (8 + p) + j) by rw [show (8 : Int32) + nI p = nI (8 + p) from nI_add 8 p, qi_10], qi_10]
    refine br_f (nI_ge (b := 10) hj (by decide)) ⟨pk_in (10 * (8 + p) + j) 160 (by omega), pk_in (10 * p + j) 160 (by omega), fun S hS => nm_e ?_⟩
    rw [nI_1]
    rw [nI_clamp (by omega), nI_clamp (by omega), e.2.1 (10 * (8 + p) + j) (by omega)] at hS
    have hat : S.2.1 8 = upd (s.2.1 8) (10 * p + j) (σ.2.1 8 (10 * (8 + p) + j)) := by rw [hS, hsA_at]
    refine ih S ⟨by rw [hS]; exact e.1.trans (FRm.arr _ (by decide)), fun x hx => ?_, fun t ht => ?_⟩
    · rw [hat, pk_un (by omega)]; exact e.2.1 x hx
    · rw [hat]
      rcases Nat.decEq t j with z | z
      · rw [pk_un (by omega)]; exact e.2.2 t (by omega)
      · rw [z, pk_us]
theorem qm_copyP {z1 : Int32} {post : Int32 → hsS → Prop} (K : Int32 → hsS → Prop) (k : ∀ s, FRm [] [7, 8, 11] σ s → (∀ p, p < 8 → s.2.1 7 p = σ.2.1 7 (8 + p) ∧ s.2.1 11 p = vp_nar .boolean (σ.2.1 11 (8 + p)) ∧ ∀ t, t < 10 → s.2.1 8 (10 * p + t) = σ.2.1 8 (10 * (8 + p) + t)) → ∀ z, K z s) : ∃ f, wX8_hall_L240 z1 K post f 0 σ := by
  refine pk_loop (fun f j (s : hsS) => wX8_hall_L240 z1 K post f (nI j) s) (fun j s => FRm [] [7, 8, 11] σ s ∧ (∀ x, 8 ≤ x → s.2.1 7 x = σ.2.1 7 x ∧ s.2.1 11 x = σ.2.1 11 x) ∧ (∀ x, 80 ≤ x → s.2.1 8 x = σ.2.1 8 x) ∧ ∀ p, p < j → s.2.1 7 p = σ.2.1 7 (8 + p) ∧ s.2.1 11 p = vp_nar .boolean (σ.2.1 11 (8 + p)) ∧ ∀ t, t < 10 → s.2.1 8 (10 * p + t) = σ.2.1 8 (10 * (8 + p) + t)) 8 0 σ (Nat.zero_le _) ⟨FRm.rf, fun _ _ => ⟨rfl, rfl⟩, fun _ _ => rfl, fun t ht => absurd ht (Nat.not_lt_zero _)⟩ ?_ ?_
  · intro f s e
    rw [wX8_hall_L240]
    exact br_t (nI_le (a := 8) (Nat.le_refl _) (by decide)) (k s e.1 e.2.2.2 _)
  · intro f j s hj e ih
    obtain ⟨e1, e2, e3, e4⟩ := e
    rw [wX8_hall_L240, show (8 : Int32) + nI j = nI (8 + j) from nI_add 8 j]
    refine br_f (nI_ge (b := 8) hj (by decide)) ⟨pk_in (8 + j) 16 (by omega), pk_in j 16 (by omega), fun s2 h2 => ⟨pk_in (8 + j) 16 (by omega), pk_in j 16 (by omega), fun s3 h3 => ?_⟩⟩
    rw [nI_clamp (by omega), nI_clamp (by omega), (e2 (8 + j) (by omega)).1] at h2
    have b11 : s2.2.1 11 = s.2.1 11 := by rw [h2, hsA_ne _ _ (by decide)]
    rw [nI_clamp (by omega), nI_clamp (by omega), b11, (e2 (8 + j) (by omega)).2] at h3
    have f3 : FRm [] [7, 8, 11] s s3 := by rw [h3, h2]; exact (FRm.arr _ (by decide)).trans (FRm.arr _ (by decide))
    have a7 : s3.2.1 7 = upd (s.2.1 7) j (σ.2.1 7 (8 + j)) := by rw [h3, hsA_ne _ _ (by decide), h2, hsA_at]
    have a11 : s3.2.1 11 = upd (s.2.1 11) j (vp_nar .boolean (σ.2.1 11 (8 + j))) := by rw [h3, hsA_at]
    have a8 : s3.2.1 8 = s.2.1 8 := by rw [h3, hsA_ne _ _ (by decide), h2, hsA_ne _ _ (by decide)]
    refine qm_copyG hj _ (fun s4 f4 x4 y4 _ => nm_e ?_)
    rw [nI_1]
    refine ih s4 ⟨(e1.trans f3).trans (f4.weak (by simp) (by decide)), fun x hx => ?_, fun x hx => ?_, fun p hp => ?_⟩
    · rw [f4.2.1 7 (by decide), f4.2.1 11 (by decide), a7, a11, pk_un (by omega), pk_un (by omega)]; exact e2 x hx
    · rw [x4 x (by omega), a8]; exact e3 x hx
    · rw [f4.2.1 7 (by decide), f4.2.1 11 (by decide), a7, a11]
      rcases Nat.decEq p j with z | z
      · rw [pk_un z, pk_un z]
        have h5 := e4 p (by omega)
        exact ⟨h5.1, h5.2.1, fun t ht => by rw [x4 _ (by omega), a8]; exact h5.2.2 t ht⟩
      · rw [z, pk_us, pk_us]
        exact ⟨rfl, rfl, fun t ht => by rw [y4 t ht, a8]; exact e3 _ (by omega)⟩
theorem qm_copyT {z1 : Int32} {post : Int32 → hsS → Prop} (K : Int32 → hsS → Prop) (k : ∀ s, FRm [] [9] σ s → (∀ p, p < 8 → s.2.1 9 p = σ.2.1 9 (8 + p)) → ∀ z, K z s) : ∃ f, wX8_hall_L323 z1 K post f 0 σ := by
  refine pk_loop (fun f j (s : hsS) => wX8_hall_L323 z1 K post f (nI j) s) (fun j s => FRm [] [9] σ s ∧ (∀ x, 8 ≤ x → s.2.1 9 x = σ.2.1 9 x) ∧ ∀ p, p < j → s.2.1 9 p = σ.2.1 9 (8 + p)) 8 0 σ (Nat.zero_le _) ⟨FRm.rf, fun _ _ => rfl, fun t ht => absurd ht (Nat.not_lt_zero _)⟩ ?_ ?_
  · intro f s e
    rw [wX8_hall_L323]
    exact br_t (nI_le (a := 8) (Nat.le_refl _) (by decide)) (k s e.1 e.2.2 _)
  · intro f j s hj e ih
    rw [wX8_hall_L323, show (8 : Int32) + nI j = nI (8 + j) from nI_add 8 j]
    refine br_f (nI_ge (b := 8) hj (by decide)) ⟨pk_in (8 + j) 16 (by omega), pk_in j 16 (by omega), fun S hS => nm_e ?_⟩
    rw [nI_1]
    rw [nI_clamp (by omega), nI_clamp (by omega), e.2.1 (8 + j) (by omega)] at hS
    have hat : S.2.1 9 = upd (s.2.1 9) j (σ.2.1 9 (8 + j)) := by rw [hS, hsA_at]
    refine ih S ⟨by rw [hS]; exact e.1.trans (FRm.arr _ (by decide)), fun x hx => ?_, fun t ht => ?_⟩
    · rw [hat, pk_un (by omega)]; exact e.2.1 x hx
    · rw [hat]
      rcases Nat.decEq t j with z | z
      · rw [pk_un z]; exact e.2.2 t (by omega)
      · rw [z, pk_us]
theorem qm_copyU {z1 : Int32} {post : Int32 → hsS → Prop} (K : Int32 → hsS → Prop) (k : ∀ s, FRm [] [10] σ s → (∀ p, p < 9 → s.2.1 10 p = σ.2.1 10 (9 + p)) → ∀ z, K z s) : ∃ f, wX8_hall_L352 z1 K post f 0 σ := by
  refine pk_loop (fun f j (s : hsS) => wX8_hall_L352 z1 K post f (nI j) s) (fun j s => FRm [] [10] σ s ∧ (∀ x, 9 ≤ x → s.2.1 10 x = σ.2.1 10 x) ∧ ∀ p, p < j → s.2.1 10 p = σ.2.1 10 (9 + p)) 9 0 σ (Nat.zero_le _) ⟨FRm.rf, fun _ _ => rfl, fun t ht => absurd ht (Nat.not_lt_zero _)⟩ ?_ ?_
  · intro f s e
    rw [wX8_hall_L352]
    exact br_t (nI_le (a := 9) (Nat.le_refl _) (by decide)) (k s e.1 e.2.2 _)
  · intro f j s hj e ih
    rw [wX8_hall_L352, show (9 : Int32) + nI j = nI (9 + j) from nI_add 9 j]
    refine br_f (nI_ge (b := 9) hj (by decide)) ⟨pk_in (9 + j) 18 (by omega), pk_in j 18 (by omega), fun S hS => nm_e ?_⟩
    rw [nI_1]
    rw [nI_clamp (by omega), nI_clamp (by omega), e.2.1 (9 + j) (by omega)] at hS
    have hat : S.2.1 10 = upd (s.2.1 10) j (σ.2.1 10 (9 + j)) := by rw [hS, hsA_at]
    refine ih S ⟨by rw [hS]; exact e.1.trans (FRm.arr _ (by decide)), fun x hx => ?_, fun t ht => ?_⟩
    · rw [hat, pk_un (by omega)]; exact e.2.1 x hx
    · rw [hat]
      rcases Nat.decEq t j with z | z
      · rw [pk_un z]; exact e.2.2 t (by omega)
      · rw [z, pk_us]
theorem c01 : (0 : Int32).toNatClampNeg ≠ (1 : Int32).toNatClampNeg := by decide
/-- the draft is the hall from now on -/
theorem qm_hallOk (ha : AW A) (htc : aTc A ≤ 8) (hd : MDR A g σ) {x1 : Int32} {post : Int32 → hsS → Prop} (k : ∀ s, FRm [12, 52] [1, 2, 3, 4, 5, 6, 7, 8, 9, 10, 11, 29] σ s → s.1 12 = σ.1 12 + 1 → s.1 52 = 0 → (∀ j, j < 8 → s.2.1 29 j = -1) → MH A g s → post 0 s) : ∀ σ35 : hsS, σ35 = hsA σ 1 (upd (σ.2.1 1) (0 : Int32).toNatClampNeg (σ.2.1 1 (1 : Int32).toNatClampNeg)) → ∀ σ36 : hsS, σ36 = hsA σ35 2 (upd (σ35.2.1 2) (0 : Int32).toNatClampNeg (σ35.2.1 2 (1 : Int32).toNatClampNeg)) → ∀ σ37 : hsS, σ37 = hsA σ36 3 (upd (σ36.2.1 3) (0 : Int32).toNatClampNeg (σ36.2.1 3 (1 : Int32).toNatClampNeg)) → ∀ σ38 : hsS, σ38 = hsA σ37 4 (upd (σ37.2.1 4) (0 : Int32).toNatClampNeg (σ37.2.1 4 (1 : Int32).toNatClampNeg)) → ∀ σ39 : hsS, σ39 = hsA σ38 5 (upd (σ38.2.1 5) (0 : Int32).toNatClampNeg (σ38.2.1 5 (1 : Int32).toNatClampNeg)) → ∀ σ40 : hsS, σ40 = hsA σ39 6 (upd (σ39.2.1 6) (0 : Int32).toNatClampNeg (σ39.2.1 6 (1 : Int32).toNatClampNeg)) → ∃ n51, wX8_hall_L240 x1 (fun v52 σ53 => ∃ n57, wX8_hall_L323 x1 (fun v58 σ59 => ∃ n63, wX8_hall_L352 x1 (fun v64 σ65 => wX8_renew (fun σ67 => post (0 : Int32) σ67) σ65) post n63 (0 : Int32) σ59) post n57 (0 : Int32) σ53) post n51 (0 : Int32) σ40 := by
  intro s35 e35 s36 e36 s37 e37 s38 e38 s39 e39 s40 e40
  have hN := aw_n ha; have hm := aw_m ha; have hnt := aw_nt ha
  obtain ⟨q1, q2, q3, q4, q5, q6, q7, q8, q9, q10, q11⟩ := hd
  have ro : ∀ q, q ≠ 1 → q ≠ 2 → q ≠ 3 → q ≠ 4 → q ≠ 5 → q ≠ 6 → s40.2.1 q = σ.2.1 q := fun q h1 h2 h3 h4 h5 h6 => by
    rw [e40, hsA_ne _ _ h6, e39, hsA_ne _ _ h5, e38, hsA_ne _ _ h4, e37, hsA_ne _ _ h3, e36, hsA_ne _ _ h2, e35, hsA_ne _ _ h1]
  have f40 : FRm [] [1, 2, 3, 4, 5, 6] σ s40 := by
    rw [e40, e39, e38, e37, e36, e35]
    exact (((((FRm.arr _ (by decide)).trans (FRm.arr _ (by decide))).trans (FRm.arr _ (by decide))).trans (FRm.arr _ (by decide))).trans (FRm.arr _ (by decide))).trans (FRm.arr _ (by decide))
  have b1 : s40.2.1 1 (0 : Int32).toNatClampNeg = σ.2.1 1 (1 : Int32).toNatClampNeg := by
    rw [e40, hsA_ne _ _ (by decide), e39, hsA_ne _ _ (by decide), e38, hsA_ne _ _ (by decide), e37, hsA_ne _ _ (by decide), e36, hsA_ne _ _ (by decide), e35, hsA_at, pk_us]
  have b2 : s40.2.1 2 (0 : Int32).toNatClampNeg = σ.2.1 2 (1 : Int32).toNatClampNeg := by
    rw [e40, hsA_ne _ _ (by decide), e39, hsA_ne _ _ (by decide), e38, hsA_ne _ _ (by decide), e37, hsA_ne _ _ (by decide), e36, hsA_at, pk_us, e35, hsA_ne _ _ (by decide)]
  have b3 : s40.2.1 3 (0 : Int32).toNatClampNeg = σ.2.1 3 (1 : Int32).toNatClampNeg := by
    rw [e40, hsA_ne _ _ (by decide), e39, hsA_ne _ _ (by decide), e38, hsA_ne _ _ (by decide), e37, hsA_at, pk_us, e36, hsA_ne _ _ (by decide), e35, hsA_ne _ _ (by decide)]
  have b4 : s40.2.1 4 (0 : Int32).toNatClampNeg = σ.2.1 4 (1 : Int32).toNatClampNeg := by
    rw [e40, hsA_ne _ _ (by decide), e39, hsA_ne _ _ (by decide), e38, hsA_at, pk_us, e37, hsA_ne _ _ (by decide), e36, hsA_ne _ _ (by decide), e35, hsA_ne _ _ (by decide)]
  have b5 : s40.2.1 5 (0 : Int32).toNatClampNeg = σ.2.1 5 (1 : Int32).toNatClampNeg := by
    rw [e40, hsA_ne _ _ (by decide), e39, hsA_at, pk_us, e38, hsA_ne _ _ (by decide), e37, hsA_ne _ _ (by decide), e36, hsA_ne _ _ (by decide), e35, hsA_ne _ _ (by decide)]
  have b6 : s40.2.1 6 (0 : Int32).toNatClampNeg = σ.2.1 6 (1 : Int32).toNatClampNeg := by
    rw [e40, hsA_at, pk_us, e39, hsA_ne _ _ (by decide), e38, hsA_ne _ _ (by decide), e37, hsA_ne _ _ (by decide), e36, hsA_ne _ _ (by decide), e35, hsA_ne _ _ (by decide)]
  refine qm_copyP _ (fun s1 f1 c1 _ => qm_copyT _ (fun s2 f2 c2 _ => qm_copyU _ (fun s3 f3 c3 _ => qm_renew (fun s4 f4 v12 v52 v29 => ?_))))
  have F : FRm [12, 52] [1, 2, 3, 4, 5, 6, 7, 8, 9, 10, 11, 29] σ s4 := ((((f40.weak (by simp) (by decide)).trans (f1.weak (by simp) (by decide))).trans (f2.weak (by simp) (by decide))).trans (f3.weak (by simp) (by decide))).trans (f4.weak (by decide) (by decide))
  have g4 : ∀ q, q ≠ 7 → q ≠ 8 → q ≠ 9 → q ≠ 10 → q ≠ 11 → q ≠ 29 → s4.2.1 q = s40.2.1 q := fun q h7 h8 h9 h10 h11 h29 => by
    rw [f4.2.1 q (by simp [h29]), f3.2.1 q (by simp [h10]), f2.2.1 q (by simp [h9]), f1.2.1 q (by simp [h7, h8, h11])]
  refine k s4 F (by rw [v12, f3.1 12 (by simp), f2.1 12 (by simp), f1.1 12 (by simp), f40.1 12 (by simp)]) v52 v29 ⟨?_, ?_, ?_, fun h1 => ?_, fun h2 => ?_, ?_, fun p hp => ?_, fun p t hp ht => ?_, fun h2 p hp => ?_, fun p hp => ?_, fun p hp => ?_⟩
  · rw [g4 1 (by decide) (by decide) (by decide) (by decide) (by decide) (by decide), b1]; exact q1
  · rw [g4 2 (by decide) (by decide) (by decide) (by decide) (by decide) (by decide), b2]; exact q2
  · rw [g4 3 (by decide) (by decide) (by decide) (by decide) (by decide) (by decide), b3]; exact q3
  · rw [g4 4 (by decide) (by decide) (by decide) (by decide) (by decide) (by decide), b4]; exact q4 h1
  · rw [g4 5 (by decide) (by decide) (by decide) (by decide) (by decide) (by decide), b5]; exact q5 h2
  · rw [g4 6 (by decide) (by decide) (by decide) (by decide) (by decide) (by decide), b6]; exact q6
  · rw [f4.2.1 7 (by decide), f3.2.1 7 (by decide), f2.2.1 7 (by decide), (c1 p (by omega)).1, ro 7 (by decide) (by decide) (by decide) (by decide) (by decide) (by decide)]; exact q7 p hp
  · rw [f4.2.1 8 (by decide), f3.2.1 8 (by decide), f2.2.1 8 (by decide), (c1 p (by omega)).2.2 t (by omega), ro 8 (by decide) (by decide) (by decide) (by decide) (by decide) (by decide)]; exact q8 p t hp ht
  · rw [f4.2.1 9 (by decide), f3.2.1 9 (by decide), c2 p (by omega), f1.2.1 9 (by decide), ro 9 (by decide) (by decide) (by decide) (by decide) (by decide) (by decide)]; exact q9 h2 p hp
  · rw [f4.2.1 10 (by decide), c3 p (by omega), f2.2.1 10 (by decide), f1.2.1 10 (by decide), ro 10 (by decide) (by decide) (by decide) (by decide) (by decide) (by decide)]; exact q10 p hp
  · rw [f4.2.1 11 (by decide), f3.2.1 11 (by decide), f2.2.1 11 (by decide), (c1 p (by omega)).2.1, ro 11 (by decide) (by decide) (by decide) (by decide) (by decide) (by decide), q11 p hp]; exact vn_if _
theorem MH.lo {σ' : hsS} (h : MH A g σ) (ha : AW A) (htc : aTc A ≤ 8) (e : ∀ k j, j < loM k → σ'.2.1 k j = σ.2.1 k j) : MH A g σ' := by
  have hN := aw_n ha; have hm := aw_m ha; have hnt := aw_nt ha
  obtain ⟨q1, q2, q3, q4, q5, q6, q7, q8, q9, q10, q11⟩ := h
  refine ⟨by rw [e 1 _ (by decide)]; exact q1, by rw [e 2 _ (by decide)]; exact q2, by rw [e 3 _ (by decide)]; exact q3, fun z => by rw [e 4 _ (by decide)]; exact q4 z, fun z => by rw [e 5 _ (by decide)]; exact q5 z, by rw [e 6 _ (by decide)]; exact q6, fun p hp => ?_, fun p t hp ht => ?_, fun z p hp => ?_, fun p hp => ?_, fun p hp => ?_⟩
  · rw [e 7 p (by show p < 8; omega)]; exact q7 p hp
  · rw [e 8 _ (by show 10 * p + t < 80; omega)]; exact q8 p t hp ht
  · rw [e 9 p (by show p < 8; omega)]; exact q9 z p hp
  · rw [e 10 p (by show p < 9; omega)]; exact q10 p hp
  · rw [e 11 p (by show p < 8; omega)]; exact q11 p hp
end HeM
/-- while the reference has read a text -/
def fhI : List Nat := [0, 14, 15, 16, 17, 18, 19, 20, 21, 22, 23]
def FH (σ σ' : hsS) : Prop := (∀ k, k ∉ fhI → σ'.1 k = σ.1 k) ∧ (∀ k, k = 0 ∨ 12 ≤ k → σ'.2.1 k = σ.2.1 k) ∧ (∀ k j, j < loM k → σ'.2.1 k j = σ.2.1 k j) ∧ σ'.2.2 = σ.2.2
theorem FH.trans {a b c : hsS} (h : FH a b) (h' : FH b c) : FH a c := ⟨fun k hk => by rw [h'.1 k hk, h.1 k hk], fun k hk => by rw [h'.2.1 k hk, h.2.1 k hk], fun k j hj => by rw [h'.2.2.1 k j hj, h.2.2.1 k j hj], by rw [h'.2.2.2, h.2.2.2]⟩
theorem FH.ofD {a b : hsS} (h : FD a b) : FH a b := ⟨fun k hk => h.1 k (fun c => hk ((by decide : ∀ k ∈ fdI, k ∈ fhI) k c)), h.2⟩
theorem FH.ofI {I : List Nat} {a b : hsS} (h : FRm I [] a b) (hI : ∀ k ∈ I, k ∈ fhI) : FH a b := ⟨fun k hk => h.1 k (fun c => hk (hI k c)), fun k _ => h.2.1 k (by simp), fun k j _ => by rw [h.2.1 k (by simp)], h.2.2⟩
section HmM
variable {T : Nat → Nat} {n len : Nat} {σ : hsS}
theorem qm_hall (h14 : σ.1 14 = nI len) (hnl : n ≤ len) (hlen : len ≤ 600) (hT : ∀ j, j < n → T j < 256 ∧ σ.2.1 12 j = nI (T j)) {post : Int32 → hsS → Prop} (kf : ∀ e s, txO T n = Sum.inl e → FH σ s → s.1 0 = 0 → s.1 14 = 0 → s.1 23 = nI e.2 → 1 ≤ e.1 → e.1 ≤ 4 → post (nI e.1) s) (ko : ∀ D s2 s, txO T n = Sum.inr D → DG D → FH σ s2 → s2.1 0 = 0 → s2.1 14 = 0 → s2.1 23 = -1 → FRm [12, 52] [1, 2, 3, 4, 5, 6, 7, 8, 9, 10, 11, 29] s2 s → s.1 12 = s2.1 12 + 1 → s.1 52 = 0 → (∀ j, j < 8 → s.2.1 29 j = -1) → MH D.1 D.2 s → post 0 s) : wX8_hall (nI n) post σ := by
  have hn : n ≤ 600 := by omega
  intro s1 e1
  have h14' : s1.1 14 = nI len := by rw [e1, hsI_ne _ _ (by decide)]; exact h14
  rw [h14']
  refine br_f (nI_pos (by omega)) (br_t (nI_le hnl (by omega)) (fun s6 e6 s7 e7 s8 e8 s9 e9 s10 e10 s11 e11 s12 e12 s13 e13 s14 e14 s15 e15 => ?_))
  have f10 : FRm [0, 14, 15, 16, 21, 23] [] σ s10 := by
    rw [e10, e9, e8, e7, e6, e1]
    exact (((((FRm.int _ (by decide)).trans (FRm.int _ (by decide))).trans (FRm.int _ (by decide))).trans (FRm.int _ (by decide))).trans (FRm.int _ (by decide))).trans (FRm.int _ (by decide))
  have g15 : FD s10 s15 := by
    have g11 : FD s10 s11 := by rw [e11]; exact FD.arr _ (by decide) (by decide) (by decide)
    have g12 : FD s11 s12 := by rw [e12]; exact FD.arr _ (by decide) (by decide) (by decide)
    have g13 : FD s12 s13 := by rw [e13]; exact FD.arr _ (by decide) (by decide) (by decide)
    have g14 : FD s13 s14 := by rw [e14]; exact FD.arr _ (by decide) (by decide) (by decide)
    have g15 : FD s14 s15 := by rw [e15]; exact FD.arr _ (by decide) (by decide) (by decide)
    exact (((g11.trans g12).trans g13).trans g14).trans g15
  have i15 : s15.1 = s10.1 := by rw [e15, e14, e13, e12, e11]; rfl
  have FH15 : FH σ s15 := (FH.ofI f10 (by decide)).trans (FH.ofD g15)
  have v0 : s15.1 0 = 0 := by rw [i15, e10, hsI_ne _ _ (by decide), e9, hsI_ne _ _ (by decide), e8, hsI_ne _ _ (by decide), e7, hsI_ne _ _ (by decide), e6, hsI_ne _ _ (by decide), e1, hsI_at]
  have v14 : s15.1 14 = 0 := by rw [i15, e10, hsI_ne _ _ (by decide), e9, hsI_ne _ _ (by decide), e8, hsI_ne _ _ (by decide), e7, hsI_ne _ _ (by decide), e6, hsI_at]
  have v16 : s15.1 16 = nI n := by rw [i15, e10, hsI_ne _ _ (by decide), e9, hsI_ne _ _ (by decide), e8, hsI_ne _ _ (by decide), e7, hsI_at]
  have v15 : s15.1 15 = nI 0 := by rw [i15, e10, hsI_ne _ _ (by decide), e9, hsI_ne _ _ (by decide), e8, hsI_at]; rfl
  have v21 : s15.1 21 = 0 := by rw [i15, e10, hsI_ne _ _ (by decide), e9, hsI_at]
  have v23 : s15.1 23 = -1 := by rw [i15, e10, hsI_at]
  have ml15 : ML T n s15 := ⟨v16, hn, by rw [FH15.2.1 12 (Or.inr (by decide))]; exact hT⟩
  have c2 : s15.2.1 2 (1 : Int32).toNatClampNeg = nI 0 := by rw [e15, hsA_ne _ _ (by decide), e14, hsA_ne _ _ (by decide), e13, hsA_ne _ _ (by decide), e12, hsA_ne _ _ (by decide), e11, hsA_at, pk_us]; rfl
  have c3 : s15.2.1 3 (1 : Int32).toNatClampNeg = nI 0 := by rw [e15, hsA_ne _ _ (by decide), e14, hsA_ne _ _ (by decide), e13, hsA_ne _ _ (by decide), e12, hsA_at, pk_us]; rfl
  have c6 : s15.2.1 6 (1 : Int32).toNatClampNeg = nI 0 := by rw [e15, hsA_at, pk_us]; rfl
  have mdr : ∀ (x : Nat) (s : hsS), s.2.1 1 (1 : Int32).toNatClampNeg = nI x → (∀ q, q ≠ 1 → s.2.1 q = s15.2.1 q) → MDR (thgA A00 x) (fun _ _ => 0) s := fun x s h1 hq => ⟨h1, by rw [hq 2 (by decide)]; exact c2, by rw [hq 3 (by decide)]; exact c3, fun z => absurd z (by show ¬ (0 : Nat) = 1; decide), fun z => absurd z (by show ¬ (0 : Nat) = 2; decide), by rw [hq 6 (by decide)]; exact c6, fun p hp => absurd hp (Nat.not_lt_zero _), fun p t hp => absurd hp (Nat.not_lt_zero _), fun z => absurd z (by show ¬ (0 : Nat) = 2; decide), fun p hp => absurd hp (Nat.not_lt_zero _), fun p hp => absurd hp (Nat.not_lt_zero _)⟩
  have KF : ∀ e s, txO T n = Sum.inl e → FD s15 s → MF e s → ∀ σ68 : hsS, σ68 = hsI s 23 (s.1 22) → post (σ68.1 21) σ68 := fun e s he f1 h1 s68 e68 => by
    rw [h1.2.2.2] at e68
    have h21 : s68.1 21 = nI e.1 := by rw [e68, hsI_ne _ _ (by decide)]; exact h1.1
    have g68 : FH s s68 := FH.ofI (I := [23]) (by rw [e68]; exact FRm.int _ (by decide)) (by decide)
    rw [h21]
    exact kf e s68 he ((FH15.trans (FH.ofD f1)).trans g68) (by rw [e68, hsI_ne _ _ (by decide), f1.1 0 (by decide)]; exact v0) (by rw [e68, hsI_ne _ _ (by decide), f1.1 14 (by decide)]; exact v14) (by rw [e68, hsI_at]) h1.2.1 h1.2.2.1
  have t1 := tok_pos T (Nat.zero_le n)
  have et : txO T n = (if wdO T (tokO T n 0) 0 = false then Sum.inl (1, tF (tokO T n 0)) else if nbO (tokO T n (tT (tokO T n 0))) 2 9 1000 false ≠ 0 then Sum.inl (nbO (tokO T n (tT (tokO T n 0))) 2 9 1000 false, tF (tokO T n (tT (tokO T n 0)))) else match smO2 T n (Sum.inr (tokO T n (tT (tokO T n (tT (tokO T n 0)))), D00 (tV (tokO T n (tT (tokO T n 0)))))) with | Sum.inl e => Sum.inl e | Sum.inr q => hallO T n 601 q.1 q.2) := rfl
  refine qm_step ml15 (Nat.zero_le _) v15 (fun s17 f17 k17 => ?_)
  have F17 : FD s15 s17 := FD.of f17 (by decide)
  have a17 : s17.2.1 = s15.2.1 := funext fun q => f17.2.1 q (by simp)
  have hS17 : MS T n (tokO T n 0) (thgA A00 (qb_N (s15.2.1 1 (1 : Int32).toNatClampNeg))) (fun _ _ => 0) s17 := ⟨ml_fd ml15 F17, k17, tg_ok T (Nat.zero_le _), by rw [f17.1 21 (by decide)]; exact v21, mdr _ _ (by rw [a17, nI_qb]) (fun q _ => by rw [a17])⟩
  refine qm_wordS hS17 (by decide) (fun w0 s19 f19 hS19 => ?_) (fun w0 s19 f19 h19 => qm_numBad h19 (fun s22 e22 => ?_))
  · rw [if_neg (by rw [w0]; decide)] at et
    have F19 := F17.trans f19
    refine qm_numS hn hS19 (least := 2) (most := 9) (there := 1000) (over := false) rfl (by decide) (by decide) (by decide) (fun e0 => fun s22 e22 => ?_) (fun r s21 hne f21 h21 => fun s22 e22 => ?_)
    · rw [if_neg (by rw [e0]; decide)] at et
      obtain ⟨c1, _, m2, m9, _, _⟩ := nb_ok e0
      have g22 : FD s19 s22 := by rw [e22]; exact FD.arr _ (by decide) (by decide) (by decide)
      have i22 : s22.1 = s19.1 := by rw [e22]; rfl
      have hS22 : MS T n (tokO T n (tT (tokO T n 0))) (D00 (tV (tokO T n (tT (tokO T n 0))))).1 (fun _ _ => 0) s22 := by
        refine ⟨ml_fd hS19.1 g22, hS19.2.1.fi i22, hS19.2.2.1, by rw [i22]; exact hS19.2.2.2.1, ?_⟩
        obtain ⟨q1, q2, q3, q4, q5, q6, q7, q8, q9, q10, q11⟩ := hS19.2.2.2.2
        have ro : ∀ q, q ≠ 1 → s22.2.1 q = s19.2.1 q := fun q hq => by rw [e22, hsA_ne _ _ hq]
        exact ⟨by rw [e22, hsA_at, pk_us]; rfl, by rw [ro 2 (by decide)]; exact q2, by rw [ro 3 (by decide)]; exact q3, fun z => absurd z (by show ¬ (0 : Nat) = 1; decide), fun z => absurd z (by show ¬ (0 : Nat) = 2; decide), by rw [ro 6 (by decide)]; exact q6, fun p hp => absurd hp (Nat.not_lt_zero _), fun p t hp => absurd hp (Nat.not_lt_zero _), fun z => absurd z (by show ¬ (0 : Nat) = 2; decide), fun p hp => absurd hp (Nat.not_lt_zero _), fun p hp => absurd hp (Nat.not_lt_zero _)⟩
      refine br_t hS22.2.2.2.1 (qm_stepS hS22 (fun s25 f25 hS25 => qm_semiS hS25 (fun c3 s27 f27 hS27 => ?_) (fun c3 s27 f27 h27 => ?_)))
      · have es : smO2 T n (Sum.inr (tokO T n (tT (tokO T n (tT (tokO T n 0)))), D00 (tV (tokO T n (tT (tokO T n 0)))))) = Sum.inr (tokO T n (tT (tokO T n (tT (tokO T n (tT (tokO T n 0)))))), D00 (tV (tokO T n (tT (tokO T n 0))))) := by
          show (if tK (tokO T n (tT (tokO T n (tT (tokO T n 0))))) = 3 then _ else _) = _
          rw [if_pos c3]
        rw [es] at et
        have F27 := ((F19.trans g22).trans f25).trans f27
        refine ⟨602, qm_lines (σ := s15) hn _ 601 _ (D00 (tV (tokO T n (tT (tokO T n 0))))) 0 s27 rfl (Nat.zero_le _) (D00_ok ⟨m2, m9⟩) hS27 F27 (fun e s' he q1 q2 => br_f (mf_ne q2) (KF e s' (by rw [et]; exact he) q1 q2)) (fun D' s' he q1 q2 q3 q4 => br_t q2 (qm_hallOk q4.1 q4.2.1 q3 (fun s u1 u2 u3 u4 u5 => ?_)))⟩
        exact ko D' s' s (by rw [et]; exact he) q4 (FH15.trans (FH.ofD q1)) (by rw [q1.1 0 (by decide)]; exact v0) (by rw [q1.1 14 (by decide)]; exact v14) (by rw [q1.1 23 (by decide)]; exact v23) u1 u2 u3 u4 u5
      · refine ⟨1, ?_⟩
        rw [wX8_hall_L125]
        refine br_f (mf_ne h27) (br_f (mf_ne h27) (KF (1, tF (tokO T n (tT (tokO T n (tT (tokO T n 0)))))) s27 ?_ (((F19.trans g22).trans f25).trans f27) h27))
        rw [et]
        show (match (if tK (tokO T n (tT (tokO T n (tT (tokO T n 0))))) = 3 then _ else Sum.inl (1, tF (tokO T n (tT (tokO T n (tT (tokO T n 0)))))) : Sum FT (TK × DR)) with | Sum.inl e => Sum.inl e | Sum.inr q => hallO T n 601 q.1 q.2) = _
        rw [if_neg c3]
    · have g22 : FD s21 s22 := by rw [e22]; exact FD.arr _ (by decide) (by decide) (by decide)
      have h22 := h21.fr (σ' := s22) (by rw [e22]; rfl)
      refine br_f (mf_ne h22) (qm_semiBad h22 ⟨1, ?_⟩)
      rw [wX8_hall_L125]
      exact br_f (mf_ne h22) (br_f (mf_ne h22) (KF _ s22 (by rw [et, if_pos hne]) ((F19.trans f21).trans g22) h22))
  · have g22 : FD s19 s22 := by rw [e22]; exact FD.arr _ (by decide) (by decide) (by decide)
    have h22 := h19.fr (σ' := s22) (by rw [e22]; rfl)
    refine br_f (mf_ne h22) (qm_semiBad h22 ⟨1, ?_⟩)
    rw [wX8_hall_L125]
    exact br_f (mf_ne h22) (br_f (mf_ne h22) (KF _ s22 (by rw [et, if_pos w0]) ((F17.trans f19).trans g22) h22))
end HmM
section OpQ
variable {A : AH} {g : Nat → Nat → Nat} {v i : Nat} {σx σm : hsS}
theorem op_1 (hi : i + 6 ≤ 3072) (f : Nat → Int64) (a1 : Int32) (h : RR i σx σm) : lo_1 f a1 (RR (i + 6)) σx σm := by
  obtain ⟨A, g, v, h⟩ := h
  unfold lo_1 wX7_hall
  obtain ⟨len, T, l1, l2, l3, l4⟩ := rb_tp h
  rw [l2]
  rcases ix_of a1 (n := len + 1) (by omega) with z | ⟨n, hn, rfl⟩
  · refine ix_le (k := len) (by omega) z (fun S hS => ?_)
    obtain ⟨h1, h2⟩ := m0 hS
    rw [h1.1 14 (by decide), l3]
    exact ix_le (k := len) (by omega) z (qm_fail h1 (fun S' g1 g2 => thr_ok g2 ⟨rfl, fun e => absurd e (by decide), h.m g1⟩))
  · have ha := rb_aw h; have htc := rb_tc h
    obtain ⟨w1, w2, w3, w4, w5, w6⟩ := rb_v h
    refine br_f (nI_pos (by omega)) (br_t (nI_le (by omega) (by omega)) (qx_read (T := T) (len := len) l2 (by omega) l1 (fun j hj => ⟨(l4 j (by omega)).1, (l4 j (by omega)).2.1⟩) (fun e s he f1 b1 b2 => ?_) (fun D s he f1 b1 b2 b3 b4 b5 => br_t rfl ?_)))
    · have hmod : 1 ≤ e.1 → e.1 ≤ 4 → wX8_hall (nI n) (fun bb σm1 => wX8_thrown (fun th σm2 => th = (0 : Int32) ∧ ((0 : Int32) = (0 : Int32) → (vp_updL f 0 ((nI e.1).toInt64) 0) = (bb.toInt64)) ∧ RR (i + 6) s σm2) σm1) σm := fun e1 e4 =>
        qm_hall (T := T) (len := len) l3 (by omega) l1 (fun j hj => ⟨(l4 j (by omega)).1, (l4 j (by omega)).2.2⟩) (fun e' s' he' g1 g2 g3 g4 _ _ => by
          rw [he] at he'
          have ee := Sum.inl.inj he'
          subst ee
          refine thr_ok g2 ⟨rfl, fun _ => rfl, A, g, v, ?_⟩
          obtain ⟨⟨h1, h2, h3, h4⟩, ⟨h5, h5a, h5b, h5c, h5d, h5e⟩, ⟨h6, h7⟩, h8, h9, ⟨h10, h11, h12⟩, h13, h14, h15⟩ := h
          refine ⟨⟨h1, h2, h3.fr f1 (by decide) (by decide), h4.lo ha htc g1.2.2.1⟩, ⟨?_, by omega, ?_, ?_, ?_, ?_⟩, ⟨⟨0, fun _ => 0, by decide, ?_, ?_, fun k hk => absurd hk (Nat.not_lt_zero _)⟩, ?_⟩, ?_, ?_, ⟨?_, ?_, ?_⟩, ?_, ?_, ?_⟩
          · rw [g1.1 12 (by decide)]; exact h5
          · rw [g1.1 28 (by decide)]; exact h5b
          · rw [g1.1 36 (by decide)]; exact h5c
          · rw [g1.1 39 (by decide)]; exact h5d
          · rw [g1.1 50 (by decide)]; exact h5e
          · exact b1
          · exact g3
          · rw [g4]; exact b2.2
          · rw [f1.1 1922 (by decide), f1.2.1 31 (by decide), f1.2.1 33 (by decide), f1.2.1 34 (by decide), f1.2.2, g1.1 52 (by decide), g1.2.1 27 (by decide), g1.2.1 28 (by decide), g1.2.1 29 (by decide), g1.2.1 30 (by decide)]; exact h8
          · rw [f1.2.1 22 (by decide)]; exact h9
          · rw [f1.1 1473 (by decide), f1.1 1474 (by decide), f1.1 1475 (by decide)]; exact h10
          · rw [g1.1 36 (by decide), g1.1 12 (by decide), g1.1 33 (by decide), g1.1 34 (by decide), g1.1 35 (by decide)]; exact h11
          · rw [g1.1 39 (by decide), g1.1 12 (by decide), g1.2.1 18 (by decide), g1.2.1 19 (by decide)]; exact h12
          · intro e28
            rw [g1.1 28 (by decide), g1.1 12 (by decide)] at e28
            obtain ⟨u, m, u1, u2, u3, u4, u5⟩ := h13 e28
            exact ⟨u, m, u1, u2, by rw [g1.1 29 (by decide)]; exact u3, by rw [g1.1 30 (by decide)]; exact u4, by rw [g1.2.1 14 (by decide)]; exact u5⟩
          · rw [f1.1 1604 (by decide), f1.1 1605 (by decide), f1.1 1606 (by decide), f1.1 1607 (by decide), f1.2.1 26 (by decide), f1.2.1 27 (by decide), f1.2.1 28 (by decide)]; exact h14
          · rw [g1.1 50 (by decide), g1.1 12 (by decide), g1.1 47 (by decide), g1.1 48 (by decide), g1.1 49 (by decide), g1.1 51 (by decide), g1.2.1 22 (by decide), g1.2.1 24 (by decide), g1.2.1 25 (by decide)]; exact h15) (fun D s2 s' he' => by rw [he] at he'; cases he')
      have hne : ∀ x, txO T n = Sum.inl x → 1 ≤ x.1 ∧ x.1 ≤ 4 := fun x hx => tx_kind hx
      have h14 := hne e he
      exact br_f (nI_ne0 (by omega) (by omega)) (hmod h14.1 h14.2)
    · refine qx_takeFrom (b0 := 1) (b1 := 13) (Or.inr (by decide)) b5.1 b5.2.1 b4 (fun s2 q1 q2 q3 q4 => qx_forget (fun s3 f3 y1 y2 y3 y4 => ?_))
      have F2 : FRm [64, 65, 66, 67, 68, 69, 70, 71] [2, 3, 4, 5] s s2 := ⟨fun k hk => q1 k (fun q hq e => hk (by rw [e]; exact (by decide : ∀ q, q < 8 → 64 * 1 + q ∈ [64, 65, 66, 67, 68, 69, 70, 71]) q hq)), fun k hk => q2 k (fun q hq h9 e => hk (by rw [e]; exact (by decide : ∀ q, q < 5 → 1 ≤ q → 1 + q ∈ [2, 3, 4, 5]) q hq h9)), q3⟩
      have x3 : HX 1 D.1 s3 := q4.fr f3 (by decide) (by decide)
      refine qm_hall (T := T) (len := len) l3 (by omega) l1 (fun j hj => ⟨(l4 j (by omega)).1, (l4 j (by omega)).2.2⟩) (fun e' s' he' => by rw [he] at he'; cases he') (fun D' t2 t he' hD' g1 g2 g3 g4 u1 u2 u3 u4 u5 => ?_)
      rw [he] at he'
      have ee := Sum.inr.inj he'
      subst ee
      have t12 : t.1 12 = nI (v + 1) := by rw [u2, g1.1 12 (by decide), w1, nI_1]
      have r22 : s3.2.1 22 0 = 0 := by rw [f3.2.1 22 (by decide), F2.2.1 22 (by decide), f1.2.1 22 (by decide)]; exact rb_e0 h
      refine thr_ok (by rw [u1.1 0 (by decide)]; exact g2) ⟨rfl, fun _ => rfl, D.1, D.2, v + 1, rb_new hD'.1 hD'.2.1 hD'.2.2.1 x3 u5 t12 (by omega) (by omega) ?_ ?_ ?_ ?_ ⟨0, fun _ => 0, by decide, ?_, ?_, fun k hk => absurd hk (Nat.not_lt_zero _)⟩ ?_ y3 u3 y4 u4 r22 y1 y2⟩
      · rw [u1.1 28 (by decide), g1.1 28 (by decide)]; exact w3
      · rw [u1.1 36 (by decide), g1.1 36 (by decide)]; exact w4
      · rw [u1.1 39 (by decide), g1.1 39 (by decide)]; exact w5
      · rw [u1.1 50 (by decide), g1.1 50 (by decide)]; exact w6
      · rw [f3.1 706 (by decide), F2.1 706 (by decide)]; exact b1
      · rw [u1.1 14 (by decide)]; exact g3
      · rw [f3.1 713 (by decide), F2.1 713 (by decide), u1.1 23 (by decide), g4]; exact b3
end OpQ
