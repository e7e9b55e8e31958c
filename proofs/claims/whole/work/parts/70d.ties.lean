/-! ===== ties: the reference's table; whom to ask ===== -/
def TM (A : AH) (σ : hsS) : Prop := σ.1 47 = nI (wyA A) ∧ (∀ p, p < aN A → σ.2.1 22 p = nI (orA A p)) ∧ σ.1 51 = (if wyA A ≤ 240 then 0 else 1) ∧ (wyA A ≤ 240 → σ.1 49 = nI (waO rkM A (wyA A)) ∧ σ.1 48 = nI (wsO rkM A (wyA A)) ∧ ∀ p k, p < aN A → k < orA A p → σ.2.1 24 (240 * p + k) = nI (ksO rkM A p k (wyA A)) ∧ σ.2.1 25 (240 * p + k) = nI (kaO rkM A p k (wyA A)))
section Tt
variable {A : AH} {g : Nat → Nat → Nat} {σ : hsS}
theorem oi_lt (A : AH) (w p : Nat) : oiO A w p < orA A p := Nat.mod_lt _ (orA_pos A p)
theorem or_le (A : AH) (p : Nat) : orA A p ≤ 241 := Nat.min_le_left _ _
theorem wy_step {A : AH} (hW : wyA A ≤ 240) {j : Nat} (hj : j < aN A) : wyO A (j + 1) = wyO A j * orA A j ∧ orA A j ≤ 240 := by
  have h := wy_pr (A := A) (n := aN A) hW
  have h1 := h j (by omega); have h2 := h (j + 1) (by omega)
  refine ⟨by rw [h2.1, h1.1]; rfl, ?_⟩
  rw [(h1.2 hj).1]; exact (h1.2 hj).2
theorem qm_wayLook (ha : AW A) (hg : GW A g) (h : MH A g σ) (hW : wyA A ≤ 240) (ho : ∀ p, p < aN A → σ.2.1 22 p = nI (orA A p)) {w : Nat} (hw : w < 2 ^ 31) {post : Int32 → hsS → Prop} (K : Int32 → Int32 → hsS → Prop) (k : ∀ σ', FRm [] [13, 26] σ σ' → (∀ p t, p < aN A → t < aM A → σ'.2.1 13 (10 * p + t) = nI (wpO rkM A w p t)) → ∀ y z, K y z σ') : ∃ n, wX8_tellTies_L182 (nI w) K post n (nI w) 0 σ := by
  have hm := aw_m ha; have hn := aw_n ha
  refine pk_loop (fun n j (y : Int32 × hsS) => wX8_tellTies_L182 (nI w) K post n y.1 (nI j) y.2) (fun j y => y.1 = nI (w / wyO A j) ∧ FRm [] [13, 26] σ y.2 ∧ ∀ p t, p < j → t < aM A → y.2.2.1 13 (10 * p + t) = nI (wpO rkM A w p t)) (aN A) 0 (nI w, σ) (Nat.zero_le _) ⟨by show nI w = nI (w / 1); rw [Nat.div_one], FRm.rf, fun p t hp => absurd hp (Nat.not_lt_zero _)⟩ ?_ ?_
  · intro n y e
    rw [wX8_tellTies_L182]
    exact br_t (by rw [mh_n (h.fr e.2.1 (by decide))]; exact nI_le (Nat.le_refl _) (by omega)) (k _ e.2.1 e.2.2 _ _)
  · intro n j y hj e ih
    obtain ⟨y1, s⟩ := y
    obtain ⟨e1, e2, e3⟩ := e
    dsimp only at e1 e2 e3 ⊢
    have hM := h.fr e2 (by decide)
    have hop := orA_pos A j; have hol := or_le A j; have hoi := oi_lt A w j
    have hdl : w / wyO A j ≤ w := Nat.div_le_self _ _
    have o1 : s.2.1 22 j = nI (orA A j) := by rw [e2.2.1 22 (by decide)]; exact ho j hj
    rw [wX8_tellTies_L182, nI_clamp (by omega), o1]
    refine br_f (by rw [mh_n hM]; exact nI_ge hj (by omega)) ⟨pk_in j 8 (by omega), nI_ne0 hop (by omega), nm_r (e' := nI (oiO A w j)) (by rw [e1]; exact pk_rem (by omega) hop (by omega)) (qm_lookOrder ha hg hM hj (by omega) (fun s2 f2 p2 q2 => ?_))⟩
    have o2 : s2.2.1 22 j = nI (orA A j) := by rw [f2.2.1 22 (by decide)]; exact o1
    rw [o2]
    refine ⟨pk_in j 8 (by omega), nI_ne0 hop (by omega), nm_r (e' := nI (w / wyO A (j + 1))) (by rw [e1, (wy_step hW hj).1, ← Nat.div_div_eq_div_mul]; exact pk_div (by omega) hop (by omega)) (nm_e ?_)⟩
    rw [nI_1]
    refine ih (_, s2) ⟨rfl, e2.trans f2, fun p t hp ht => ?_⟩
    show s2.2.1 13 _ = _
    rcases Nat.decEq p j with z | z
    · rw [q2 _ (by omega)]; exact e3 p t (by omega) ht
    · subst z; exact p2 t ht
theorem ks_lt (rk : Nat → Nat → Nat → Nat) (A : AH) (p k : Nat) : ∀ j, ksO rk A p k j < 2 ^ aM A
  | 0 => Nat.two_pow_pos _
  | j + 1 => by
    show (if oiO A j p = k then ksO rk A p k j ||| wcO rk A j else ksO rk A p k j) < _
    split
    · exact Nat.or_lt_two_pow (ks_lt rk A p k j) (coO_lt _ _ _ _)
    · exact ks_lt rk A p k j
theorem qm_wayKeep (ha : AW A) (h : MH A g σ) (hW : wyA A ≤ 240) (ho : ∀ p, p < aN A → σ.2.1 22 p = nI (orA A p)) {w : Nat} (hw : w < 2 ^ 31) (ht : ∀ p k, p < aN A → k < orA A p → σ.2.1 24 (240 * p + k) = nI (ksO rkM A p k w) ∧ σ.2.1 25 (240 * p + k) = nI (kaO rkM A p k w)) {post : Int32 → hsS → Prop} (K : Int32 → Int32 → hsS → Prop) (k : ∀ σ', FRm [] [24, 25] σ σ' → (∀ p k, p < aN A → k < orA A p → σ'.2.1 24 (240 * p + k) = nI (ksO rkM A p k (w + 1)) ∧ σ'.2.1 25 (240 * p + k) = nI (kaO rkM A p k (w + 1))) → ∀ y z, K y z σ') : ∃ n, wX8_tellTies_L258 (nI w) (nI (wcO rkM A w)) K post n (nI w) 0 σ := by
  have hm := aw_m ha; have hn := aw_n ha
  refine pk_loop (fun n j (y : Int32 × hsS) => wX8_tellTies_L258 (nI w) (nI (wcO rkM A w)) K post n y.1 (nI j) y.2) (fun j y => y.1 = nI (w / wyO A j) ∧ FRm [] [24, 25] σ y.2 ∧ ∀ p k, p < aN A → k < orA A p → y.2.2.1 24 (240 * p + k) = nI (ksO rkM A p k (if p < j then w + 1 else w)) ∧ y.2.2.1 25 (240 * p + k) = nI (kaO rkM A p k (if p < j then w + 1 else w))) (aN A) 0 (nI w, σ) (Nat.zero_le _) ⟨by show nI w = nI (w / 1); rw [Nat.div_one], FRm.rf, fun p k hp hk => by rw [if_neg (Nat.not_lt_zero _)]; exact ht p k hp hk⟩ ?_ ?_
  · intro n y e
    rw [wX8_tellTies_L258]
    refine br_t (by rw [mh_n (h.fr e.2.1 (by decide))]; exact nI_le (Nat.le_refl _) (by omega)) (k _ e.2.1 (fun p k hp hk => ?_) _ _)
    have := e.2.2 p k hp hk
    rw [if_pos hp] at this; exact this
  · intro n j y hj e ih
    obtain ⟨y1, s⟩ := y
    obtain ⟨e1, e2, e3⟩ := e
    dsimp only at e1 e2 e3 ⊢
    have hM := h.fr e2 (by decide)
    have hop := orA_pos A j; have hol := (wy_step hW hj).2; have hoi := oi_lt A w j
    have hdl : w / wyO A j ≤ w := Nat.div_le_self _ _
    have o1 : s.2.1 22 j = nI (orA A j) := by rw [e2.2.1 22 (by decide)]; exact ho j hj
    have hix : (240 : Int32) * nI j + nI (oiO A w j) = nI (240 * j + oiO A w j) := by rw [show (240 : Int32) = nI 240 from rfl, pk_mul, nI_add]
    have hrem : y1 - y1 / nI (orA A j) * nI (orA A j) = nI (oiO A w j) := by rw [e1]; exact pk_rem (by omega) hop (by omega)
    rw [wX8_tellTies_L258, nI_clamp (n := j) (by omega), o1]
    refine br_f (by rw [mh_n hM]; exact nI_ge hj (by omega)) ⟨pk_in j 8 (by omega), nI_ne0 hop (by omega), nm_r (e' := nI (240 * j + oiO A w j)) (by rw [hrem, hix]) ⟨pk_in (240 * j + oiO A w j) 1920 (by omega), pk_in (240 * j + oiO A w j) 1920 (by omega), fun s7 e7 => ⟨pk_in (240 * j + oiO A w j) 1920 (by omega), pk_in (240 * j + oiO A w j) 1920 (by omega), fun s8 e8 => ?_⟩⟩⟩
    have h3 := e3 j (oiO A w j) hj hoi
    rw [if_neg (Nat.lt_irrefl _)] at h3
    rw [nI_clamp (by omega), h3.1, fa_or] at e7
    have b7 : s7.2.1 25 = s.2.1 25 := by rw [e7, hsA_ne _ _ (by decide)]
    rw [nI_clamp (by omega), b7, h3.2, fa_and] at e8
    have a24 : s8.2.1 24 = upd (s.2.1 24) (240 * j + oiO A w j) (nI (ksO rkM A j (oiO A w j) w ||| wcO rkM A w)) := by rw [e8, hsA_ne _ _ (by decide), e7, hsA_at]
    have a25 : s8.2.1 25 = upd (s.2.1 25) (240 * j + oiO A w j) (nI (kaO rkM A j (oiO A w j) w &&& wcO rkM A w)) := by rw [e8, hsA_at]
    have f8 : FRm [] [24, 25] s s8 := by rw [e8, e7]; exact (FRm.arr _ (by decide)).trans (FRm.arr _ (by decide))
    have o8 : s8.2.1 22 j = nI (orA A j) := by rw [f8.2.1 22 (by decide)]; exact o1
    rw [o8]
    refine ⟨pk_in j 8 (by omega), nI_ne0 hop (by omega), nm_r (e' := nI (w / wyO A (j + 1))) (by rw [e1, (wy_step hW hj).1, ← Nat.div_div_eq_div_mul]; exact pk_div (by omega) hop (by omega)) (nm_e ?_)⟩
    rw [nI_1]
    refine ih (_, s8) ⟨rfl, e2.trans f8, fun p k hp hk => ?_⟩
    show s8.2.1 24 _ = _ ∧ s8.2.1 25 _ = _
    rw [a24, a25]
    have h4 := e3 p k hp hk
    rcases Nat.decEq p j with z | z
    · have hkl := (wy_step hW hp).2
      rw [pk_un (by omega), pk_un (by omega)]
      have hif : (if p < j + 1 then w + 1 else w) = if p < j then w + 1 else w := by
        rcases Nat.lt_or_ge p j with y | y
        · rw [if_pos y, if_pos (by omega)]
        · rw [if_neg (by omega), if_neg (by omega)]
      rw [hif]; exact h4
    · subst z
      rw [if_neg (Nat.lt_irrefl _)] at h4
      rw [if_pos (Nat.lt_succ_self _)]
      have es : ksO rkM A p k (w + 1) = if oiO A w p = k then ksO rkM A p k w ||| wcO rkM A w else ksO rkM A p k w := rfl
      have ea : kaO rkM A p k (w + 1) = if oiO A w p = k then kaO rkM A p k w &&& wcO rkM A w else kaO rkM A p k w := rfl
      rw [es, ea]
      rcases Nat.decEq (oiO A w p) k with y | y
      · rw [if_neg y, if_neg y, pk_un (by omega), pk_un (by omega)]; exact h4
      · rw [if_pos y, if_pos y, ← y, pk_us, pk_us]; exact ⟨rfl, rfl⟩
theorem qm_ways (ha : AW A) (hg : GW A g) (h : MH A g σ) (hMM : MM A σ) (hW : wyA A ≤ 240) (h25 : σ.1 25 = nI (aM A)) (h47 : σ.1 47 = nI (wyA A)) (ho : ∀ p, p < aN A → σ.2.1 22 p = nI (orA A p)) (h48 : σ.1 48 = 0) (h49 : σ.1 49 = nI (2 ^ aM A - 1)) (ht : ∀ q, q < 1920 → σ.2.1 24 q = 0 ∧ σ.2.1 25 q = nI (2 ^ aM A - 1)) {post : Int32 → hsS → Prop} (K : Int32 → hsS → Prop) (k : ∀ s, FRm [28, 29, 30, 48, 49] [13, 14, 15, 24, 25, 26] σ s → (s.1 28 = σ.1 28 ∨ s.1 28 = σ.1 12) → MM A s → s.1 48 = nI (wsO rkM A (wyA A)) → s.1 49 = nI (waO rkM A (wyA A)) → (∀ p k, p < aN A → k < orA A p → s.2.1 24 (240 * p + k) = nI (ksO rkM A p k (wyA A)) ∧ s.2.1 25 (240 * p + k) = nI (kaO rkM A p k (wyA A))) → ∀ z, K z s) : ∃ n, wX8_tellTies_L170 K post n 0 σ := by
  have hm := aw_m ha; have hn := aw_n ha
  refine pk_loop (fun n w (s : hsS) => wX8_tellTies_L170 K post n (nI w) s) (fun w s => FRm [28, 29, 30, 48, 49] [13, 14, 15, 24, 25, 26] σ s ∧ (s.1 28 = σ.1 28 ∨ s.1 28 = σ.1 12) ∧ MM A s ∧ s.1 48 = nI (wsO rkM A w) ∧ s.1 49 = nI (waO rkM A w) ∧ ∀ p k, p < aN A → k < orA A p → s.2.1 24 (240 * p + k) = nI (ksO rkM A p k w) ∧ s.2.1 25 (240 * p + k) = nI (kaO rkM A p k w)) (wyA A) 0 σ (Nat.zero_le _) ⟨FRm.rf, Or.inl rfl, hMM, h48, h49, fun p k hp hk => by have := (wy_step hW hp).2; exact ht _ (by omega)⟩ ?_ ?_
  · intro n s e
    obtain ⟨e1, e2, e3, e4, e5, e6⟩ := e
    rw [wX8_tellTies_L170]
    exact br_t (by rw [e1.1 47 (by decide), h47]; exact nI_le (Nat.le_refl _) (by omega)) (k s e1 e2 e3 e4 e5 e6 _)
  · intro n w s hw e ih
    obtain ⟨e1, e2, e3, e4, e5, e6⟩ := e
    rw [wX8_tellTies_L170]
    have hM := h.fr e1 (by decide)
    refine br_f (by rw [e1.1 47 (by decide), h47]; exact nI_ge hw (by omega)) (qm_wayLook ha hg hM hW (by rw [e1.2.1 22 (by decide)]; exact ho) (by omega) _ (fun s2 f2 p2 _ _ => ?_))
    have F2 := e1.trans (f2.weak (by simp) (by decide))
    have hM2 := h.fr F2 (by decide)
    have hlk : LK (wpO rkM A w) (aM A) (aN A) s2 := ⟨by rw [F2.1 25 (by decide)]; exact h25, by omega, hn, fun p t hp ht => ⟨p2 p t hp ht, by
      have := (pl_lt ha hg hp ((wy_pr (A := A) (n := aN A) hW p (by omega)).2 hp).2 (oiO A w p) ht).2
      show plO rkM (aP A p) (aM A) (oiO A w p) t ≤ 10; omega⟩⟩
    have hpp := Nat.two_pow_pos (aN A)
    refine qm_everybody ha hM2 (qm_coreOf ha hM2 (e3.fr f2 (by decide) (by decide) (by decide) (by decide) (by decide)) hlk (by omega) (by omega) (fun s3 f3 v3 m3 => ?_))
    have ev : coM (wpO rkM A w) (aM A) (aN A) (2 ^ aN A - 1) (aMay A (aM A) (aWt A (2 ^ aN A - 1) (aN A))) = wcO rkM A w := by rw [aWt_all ha, coM_all]; rfl
    rw [ev]
    intro s43 e43 s44 e44
    have F3 := F2.trans (f3.weak (by decide) (by decide))
    have j48 : s3.1 48 = nI (wsO rkM A w) := by rw [f3.1 48 (by decide), f2.1 48 (by decide)]; exact e4
    have j49 : s3.1 49 = nI (waO rkM A w) := by rw [f3.1 49 (by decide), f2.1 49 (by decide)]; exact e5
    have F44 : FRm [28, 29, 30, 48, 49] [13, 14, 15, 24, 25, 26] σ s44 := by rw [e44, e43]; exact (F3.trans (FRm.int _ (by decide))).trans (FRm.int _ (by decide))
    have f44 : FRm [48, 49] [] s3 s44 := by rw [e44, e43]; exact (FRm.int _ (by decide)).trans (FRm.int _ (by decide))
    have k48 : s44.1 48 = nI (wsO rkM A (w + 1)) := by
      rw [e44, hsI_ne _ _ (by decide), e43, hsI_at, j48, fa_or]; rfl
    have k49 : s44.1 49 = nI (waO rkM A (w + 1)) := by
      rw [e44, hsI_at, e43, hsI_ne _ _ (by decide), j49, fa_and]; rfl
    refine qm_wayKeep ha (h.fr F44 (by decide)) hW (by rw [F44.2.1 22 (by decide)]; exact ho) (by omega) (fun p q hp hq => ?_) _ (fun s5 f5 t5 _ _ => nm_e ?_)
    · rw [f44.2.1 24 (by decide), f44.2.1 25 (by decide), f3.2.1 24 (by decide), f3.2.1 25 (by decide), f2.2.1 24 (by decide), f2.2.1 25 (by decide)]; exact e6 p q hp hq
    · rw [nI_1]
      refine ih s5 ⟨F44.trans (f5.weak (by simp) (by decide)), Or.inr ?_, ?_, ?_, ?_, t5⟩
      · rw [f5.1 28 (by simp), f44.1 28 (by decide), v3, F2.1 12 (by decide)]
      · exact (m3.fr f44 (by decide) (by decide) (by decide) (by decide) (by decide)).fr f5 (by decide) (by decide) (by decide) (by decide) (by decide)
      · rw [f5.1 48 (by simp)]; exact k48
      · rw [f5.1 49 (by simp)]; exact k49
theorem qm_tellTies (ha : AW A) (hg : GW A g) (h : MH A g σ) (hMM : MM A σ) (hT : MT A (σ.1 50) (σ.1 12) (σ.1 47) (σ.1 48) (σ.1 49) (σ.1 51) (σ.2.1 22) (σ.2.1 24) (σ.2.1 25)) {post : Int32 → hsS → Prop} (k : ∀ s, FRm [25, 28, 29, 30, 47, 48, 49, 50, 51] [13, 14, 15, 22, 24, 25, 26] σ s → s.1 50 = σ.1 12 → (s.1 28 = σ.1 28 ∨ s.1 28 = σ.1 12) → MM A s → TM A s → post (if wyA A ≤ 240 then 1 else 0) s) : wX8_tellTies post σ := by
  have hm := aw_m ha; have hn := aw_n ha
  have hwl : wyA A ≤ 241 := wyO_le A _
  have hpp := Nat.two_pow_pos (aM A)
  refine br_c (fun c => ?_) (fun c => fun s3 e3 s4 e4 => ?_)
  · have hh := hT c
    have kk := k σ FRm.rf c (Or.inl rfl) hMM hh
    rw [hh.2.2.1]
    by_cases cw : wyA A ≤ 240
    · rw [if_pos cw] at kk ⊢; exact br_t rfl kk
    · rw [if_neg cw] at kk ⊢; exact br_f (by decide) kk
  · have f4 : FRm [47, 50] [] σ s4 := by rw [e4, e3]; exact (FRm.int _ (by decide)).trans (FRm.int _ (by decide))
    have b4 : s4.1 50 = σ.1 12 := by rw [e4, hsI_ne _ _ (by decide), e3, hsI_at]
    have c4 : s4.1 47 = nI 1 := by rw [e4, hsI_at]; rfl
    refine pk_loop (fun n j (s : hsS) => wX8_tellTies_L39 _ post n (nI j) s) (fun j s => FRm [47] [22] s4 s ∧ s.1 47 = nI (wyO A j) ∧ ∀ q, q < j → s.2.1 22 q = nI (orA A q)) (aN A) 0 s4 (Nat.zero_le _) ⟨FRm.rf, c4, fun q hq => absurd hq (Nat.not_lt_zero _)⟩ ?_ ?_
    · intro n s e
      obtain ⟨d1, d2, d3⟩ := e
      rw [wX8_tellTies_L39]
      have F := (f4.weak (I' := [25, 28, 29, 30, 47, 48, 49, 50, 51]) (R' := [13, 14, 15, 22, 24, 25, 26]) (by decide) (by decide)).trans (d1.weak (by decide) (by decide))
      refine br_t (by rw [mh_n ((h.fr f4 (by decide)).fr d1 (by decide))]; exact nI_le (Nat.le_refl _) (by omega)) ?_
      rw [d2]
      refine pk_le (wyO A (aN A)) 240 (fun cw => fun s15 e15 => ?_) (fun cw => fun s15 e15 => ?_) rfl rfl (by have : wyO A (aN A) ≤ 241 := hwl; omega) (by decide)
      · have cw2 : wyA A ≤ 240 := cw
        rw [if_pos cw2] at k
        have g51 : s15.1 51 = 0 := by rw [e15, hsI_at]
        have f15 : FRm [51] [] s s15 := by rw [e15]; exact FRm.int _ (by decide)
        have F15 := F.trans (f15.weak (by decide) (by decide))
        refine br_t g51 (qm_look ha hg (h.fr F15 (by decide)) (fun s18 f18 l18 => fun s19 e19 s20 e20 => ?_))
        have l19 : s19.1 25 = nI (aM A) := by rw [e19, hsI_ne _ _ (by decide)]; exact lk_m l18
        rw [l19, qb_all (by omega)] at e20
        have f20 : FRm [48, 49] [] s18 s20 := by rw [e20, e19]; exact (FRm.int _ (by decide)).trans (FRm.int _ (by decide))
        have F20 := (F15.trans (f18.weak (by decide) (by decide))).trans (f20.weak (by decide) (by decide))
        have g48 : s20.1 48 = 0 := by rw [e20, hsI_ne _ _ (by decide), e19, hsI_at]
        have g49 : s20.1 49 = nI (2 ^ aM A - 1) := by rw [e20, hsI_at]
        have g25 : s20.1 25 = nI (aM A) := by rw [f20.1 25 (by decide)]; exact lk_m l18
        have L : ∀ K : Int32 → hsS → Prop, (∀ t, FRm [] [24, 25] s20 t → (∀ q, q < 1920 → t.2.1 24 q = 0 ∧ t.2.1 25 q = nI (2 ^ aM A - 1)) → ∀ z, K z t) → ∃ n, wX8_tellTies_L138 K post n 0 s20 := fun K k2 =>
          pk_loop (fun n j (t : hsS) => wX8_tellTies_L138 K post n (nI j) t) (fun j t => FRm [] [24, 25] s20 t ∧ ∀ q, q < j → t.2.1 24 q = 0 ∧ t.2.1 25 q = nI (2 ^ aM A - 1)) 1920 0 s20 (Nat.zero_le _) ⟨FRm.rf, fun q hq => absurd hq (Nat.not_lt_zero _)⟩
            (fun n t d => by
              rw [wX8_tellTies_L138]
              exact br_t (nI_le (a := 1920) (Nat.le_refl _) (by decide)) (k2 t d.1 d.2 _))
            (fun n j t hj d ih => by
              rw [wX8_tellTies_L138]
              refine br_f (nI_ge (b := 1920) hj (by decide)) ⟨pk_in j 1920 hj, fun S hS => ⟨pk_in j 1920 hj, fun S2 hS2 => nm_e ?_⟩⟩
              rw [nI_1]
              rw [nI_clamp (by omega)] at hS hS2
              have hS49 : S.1 49 = nI (2 ^ aM A - 1) := by rw [hS]; show t.1 49 = _; rw [d.1.1 49 (by simp)]; exact g49
              rw [hS49] at hS2
              have a24 : S2.2.1 24 = upd (t.2.1 24) j 0 := by rw [hS2, hsA_ne _ _ (by decide), hS, hsA_at]
              have a25 : S2.2.1 25 = upd (t.2.1 25) j (nI (2 ^ aM A - 1)) := by rw [hS2, hsA_at, hS, hsA_ne _ _ (by decide)]
              refine ih S2 ⟨by rw [hS2, hS]; exact (d.1.trans (FRm.arr _ (by decide))).trans (FRm.arr _ (by decide)), fun q hq => ?_⟩
              rw [a24, a25]
              rcases Nat.decEq q j with z | z
              · rw [pk_un z, pk_un z]; exact d.2 q (by omega)
              · rw [z, pk_us, pk_us]; exact ⟨rfl, rfl⟩)
        refine L _ (fun t ft tt _ => ?_)
        have Ft := F20.trans (ft.weak (by simp) (by decide))
        have t47 : t.1 47 = nI (wyA A) := by rw [ft.1 47 (by simp), f20.1 47 (by decide), f18.1 47 (by decide), f15.1 47 (by decide)]; exact d2
        have t22 : ∀ p, p < aN A → t.2.1 22 p = nI (orA A p) := by rw [ft.2.1 22 (by decide), f20.2.1 22 (by decide), f18.2.1 22 (by decide), f15.2.1 22 (by decide)]; exact d3
        have t12 : t.1 12 = σ.1 12 := Ft.1 12 (by decide)
        have t28 : t.1 28 = σ.1 28 := by rw [ft.1 28 (by simp), f20.1 28 (by decide), f18.1 28 (by decide), f15.1 28 (by decide), d1.1 28 (by decide), f4.1 28 (by decide)]
        have tMM : MM A t := ((((hMM.fr f4 (by decide) (by decide) (by decide) (by decide) (by decide)).fr d1 (by decide) (by decide) (by decide) (by decide) (by decide)).fr f15 (by decide) (by decide) (by decide) (by decide) (by decide)).fr f18 (by decide) (by decide) (by decide) (by decide) (by decide)).fr f20 (by decide) (by decide) (by decide) (by decide) (by decide) |>.fr ft (by decide) (by decide) (by decide) (by decide) (by decide)
        refine qm_ways ha hg (h.fr Ft (by decide)) tMM cw2 (by rw [ft.1 25 (by simp)]; exact g25) t47 t22 (by rw [ft.1 48 (by simp)]; exact g48) (by rw [ft.1 49 (by simp)]; exact g49) tt _ (fun u q1 q2 q3 q4 q5 q6 _ => ?_)
        refine k u (Ft.trans (q1.weak (by decide) (by decide))) ?_ ?_ q3 ⟨?_, ?_, ?_, fun _ => ⟨q5, q4, q6⟩⟩
        · rw [q1.1 50 (by decide), ft.1 50 (by simp), f20.1 50 (by decide), f18.1 50 (by decide), f15.1 50 (by decide), d1.1 50 (by decide)]; exact b4
        · rcases q2 with q2 | q2
          · exact Or.inl (by rw [q2, t28])
          · exact Or.inr (by rw [q2, t12])
        · rw [q1.1 47 (by decide)]; exact t47
        · rw [q1.2.1 22 (by decide)]; exact t22
        · rw [if_pos cw2, q1.1 51 (by decide), ft.1 51 (by simp), f20.1 51 (by decide), f18.1 51 (by decide)]; exact g51
      · have cw2 : ¬ wyA A ≤ 240 := by have : 240 < wyA A := cw; omega
        rw [if_neg cw2] at k
        have g51 : s15.1 51 = 1 := by rw [e15, hsI_at]
        have f15 : FRm [51] [] s s15 := by rw [e15]; exact FRm.int _ (by decide)
        refine br_f (by rw [g51]; decide) (k s15 (F.trans (f15.weak (by decide) (by decide))) ?_ (Or.inl ?_) ?_ ⟨?_, ?_, ?_, fun y => absurd y cw2⟩)
        · rw [f15.1 50 (by decide), d1.1 50 (by decide)]; exact b4
        · rw [f15.1 28 (by decide), d1.1 28 (by decide), f4.1 28 (by decide)]
        · exact ((hMM.fr f4 (by decide) (by decide) (by decide) (by decide) (by decide)).fr d1 (by decide) (by decide) (by decide) (by decide) (by decide)).fr f15 (by decide) (by decide) (by decide) (by decide) (by decide)
        · rw [f15.1 47 (by decide)]; exact d2
        · rw [f15.2.1 22 (by decide)]; exact d3
        · rw [if_neg cw2]; exact g51
    · intro n j s hj e ih
      obtain ⟨d1, d2, d3⟩ := e
      rw [wX8_tellTies_L39]
      have hM := (h.fr f4 (by decide)).fr d1 (by decide)
      refine br_f (by rw [mh_n hM]; exact nI_ge hj (by omega)) (qm_ordersOf ha hg hM hj ⟨pk_in j 8 (by omega), fun s8 e8 => ⟨pk_in j 8 (by omega), fun s9 e9 => nm_e ?_⟩⟩)
      rw [nI_1]
      rw [nI_clamp (by omega)] at e8 e9
      have a22 : s8.2.1 22 = upd (s.2.1 22) j (nI (orA A j)) := by rw [e8, hsA_at]
      have i8 : s8.1 47 = nI (wyO A j) := by rw [e8]; exact d2
      rw [i8, a22, pk_us, pk_mul] at e9
      have hmul : wyO A j * orA A j ≤ 241 * 241 := Nat.mul_le_mul (wyO_le A j) (or_le A j)
      have hv := nI_min (a := wyO A j * orA A j) (c := 241) (by omega) (by decide)
      have e9' : s9 = hsI s8 47 (nI (wyO A (j + 1))) := by
        show s9 = hsI s8 47 (nI (min 241 (wyO A j * orA A j)))
        rw [← hv]; exact e9
      refine ih s9 ⟨by rw [e9', e8]; exact (d1.trans (FRm.arr _ (by decide))).trans (FRm.int _ (by decide)), by rw [e9', hsI_at], fun q hq => ?_⟩
      have b22 : s9.2.1 22 = upd (s.2.1 22) j (nI (orA A j)) := by rw [e9']; exact a22
      rw [b22]
      rcases Nat.decEq q j with z | z
      · rw [pk_un z]; exact d3 q (by omega)
      · rw [z, pk_us]
end Tt
