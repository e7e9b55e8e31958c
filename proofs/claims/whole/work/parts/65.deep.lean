/-! ===== who sees to the end ===== -/
theorem qs_sz_lt {m s : Nat} (hm : m ≤ 12) (h : s < 2 ^ m) : qs_sz s ≤ m := by
  unfold qs_sz
  have e := fb_ct_split s.testBit m (12 - m)
  rw [show m + (12 - m) = 12 by omega] at e
  have z : fb_ct (fun k => s.testBit (m + k)) (12 - m) = 0 := fb_ct_zero.mpr (fun k _ => qs_hi h (by omega))
  have := fb_ct_le s.testBit m
  omega
theorem dfO_succ (f : Nat → Nat) (m : Nat) (e : Nat → Nat) (left t : Nat) : dfO f m e left (t + 1) = if left.testBit t = true then (if (dfO f m e left t).2 = none then (e t, some t) else if betO f m (e t) (dfO f m e left t).1 = true then (e t, some t) else dfO f m e left t) else dfO f m e left t := rfl
theorem dfO_cong {f : Nat → Nat} {m left : Nat} {e e' : Nat → Nat} : ∀ j, (∀ t, t < j → left.testBit t = true → e t = e' t) → dfO f m e left j = dfO f m e' left j
  | 0, _ => rfl
  | j + 1, h => by
    have ih := dfO_cong (f := f) (m := m) j (fun t ht => h t (by omega))
    rw [dfO_succ, dfO_succ, ih]
    by_cases hb : left.testBit j = true
    · rw [h j (by omega) hb]
    · rw [if_neg hb, if_neg hb]
theorem dfO_in (f : Nat → Nat) (m : Nat) (e : Nat → Nat) (left : Nat) : ∀ j, (dfO f m e left j = (left, none) ∧ ∀ t, t < j → left.testBit t = false) ∨ ∃ w, w < j ∧ left.testBit w = true ∧ dfO f m e left j = (e w, some w)
  | 0 => Or.inl ⟨rfl, fun t ht => absurd ht (Nat.not_lt_zero _)⟩
  | j + 1 => by
    have ih := dfO_in f m e left j
    rw [dfO_succ]
    by_cases hb : left.testBit j = true
    · rw [if_pos hb]
      rcases ih with ⟨h1, h2⟩ | ⟨w, h1, h2, h3⟩
      · rw [h1]; exact Or.inr ⟨j, by omega, hb, if_pos rfl⟩
      · rw [h3, if_neg (by simp)]
        by_cases hc : betO f m (e j) (e w) = true
        · exact Or.inr ⟨j, by omega, hb, if_pos hc⟩
        · exact Or.inr ⟨w, by omega, h2, if_neg hc⟩
    · rw [if_neg hb]
      rcases ih with ⟨h1, h2⟩ | ⟨w, h1, h2, h3⟩
      · refine Or.inl ⟨h1, fun t ht => ?_⟩
        rcases Nat.decEq t j with z | z
        · exact h2 t (by omega)
        · subst z; exact ts_nt hb
      · exact Or.inr ⟨w, by omega, h2, h3⟩
theorem deO_le (P : Nat → Nat → Nat) (m : Nat) (u : Nat → Nat) (nt : Nat) : ∀ k left, (deO P m u nt k left).1 ≤ left
  | 0, _ => Nat.le_refl _
  | k + 1, left => by
    show (dfO (P (u (nt - (k + 1)))) m (fun t => (deO P m u nt k (qs_cl left t)).1) left m).1 ≤ left
    rcases dfO_in (P (u (nt - (k + 1)))) m (fun t => (deO P m u nt k (qs_cl left t)).1) left m with ⟨h1, -⟩ | ⟨w, -, -, h3⟩
    · rw [h1]; exact Nat.le_refl _
    · rw [h3]; exact Nat.le_trans (deO_le P m u nt k _) (qs_cl_le _ _)
theorem deA_le (A : AH) (left : Nat) : (deA A left).1 ≤ left := deO_le _ _ _ _ _ _
theorem de_end {A : AH} {left : Nat} (h : aNt A ≤ aM A - qs_sz left) : deA A left = (left, none) := by
  unfold deA
  rw [show aNt A - (aM A - qs_sz left) = 0 by omega]; rfl
theorem de_step {A : AH} (ha : AW A) {left : Nat} (hl : left < 2 ^ aM A) (h : aM A - qs_sz left < aNt A) : deA A left = dfO (aP A (aU A (aM A - qs_sz left))) (aM A) (fun t => (deA A (qs_cl left t)).1) left (aM A) := by
  have hm := aw_m ha; have hnt := aw_nt ha
  have hs := qs_sz_lt (by omega) hl
  obtain ⟨k, hk⟩ : ∃ k, aNt A - (aM A - qs_sz left) = k + 1 := ⟨aNt A - (aM A - qs_sz left) - 1, by omega⟩
  have e1 : deA A left = dfO (aP A (aU A (aNt A - (k + 1)))) (aM A) (fun t => (deO (aP A) (aM A) (aU A) (aNt A) k (qs_cl left t)).1) left (aM A) := by
    unfold deA; rw [hk]; rfl
  rw [e1, show aNt A - (k + 1) = aM A - qs_sz left by omega]
  exact dfO_cong _ (fun t ht hb => by
    have := qs_sz_cl (s := left) (t := t) (by omega) hb
    unfold deA
    rw [show aNt A - (aM A - qs_sz (qs_cl left t)) = k by omega])
theorem qs_cl_ne {s t : Nat} (h : s.testBit t = true) : qs_cl s t ≠ s := fun e => by
  have := qs_cl_bit s t t
  rw [e, h] at this; simp at this
theorem qs_cl_less {s t : Nat} (h : s.testBit t = true) : qs_cl s t < s := by
  have h1 := qs_cl_le s t; have h2 := qs_cl_ne h; omega
section DeepM
variable {P : Nat → Nat → Nat} {m n : Nat} {σ : hsS}
theorem qm_deepIn (h : LK P m n σ) {post : hsS → Prop} {z2 : Int32} {p left : Nat} (hp : p < n) (hl : left < 2 ^ m) {e : Nat → Nat} (he : ∀ t, t < m → left.testBit t = true → σ.2.1 18 (qs_cl left t) = nI (e t) ∧ e t < 2 ^ 31) (h0 : σ.2.1 18 left = nI left) (h1 : σ.2.1 19 left = -1) (K : Int32 → hsS → Prop) (k : ∀ σ', FRm [] [18, 19] σ σ' → (∀ q, q ≠ left → σ'.2.1 18 q = σ.2.1 18 q ∧ σ'.2.1 19 q = σ.2.1 19 q) → σ'.2.1 18 left = nI (dfO (P p) m e left m).1 → σ'.2.1 19 left = eO (dfO (P p) m e left m).2 → ∀ z, K z σ') : ∃ f, wX8_tellDeep_L83 (nI left) z2 (nI p) K post f 0 σ := by
  have hm := h.2.1
  have hm10 : 2 ^ m ≤ 2 ^ 10 := Nat.pow_le_pow_right (by decide) hm
  have hP : ∀ t, t < m → P p t < 11 := fun t ht => by have := lk_le h hp ht; omega
  refine pk_loop (fun f j (s : hsS) => wX8_tellDeep_L83 (nI left) z2 (nI p) K post f (nI j) s) (fun j s => FRm [] [18, 19] σ s ∧ (∀ q, q ≠ left → s.2.1 18 q = σ.2.1 18 q ∧ s.2.1 19 q = σ.2.1 19 q) ∧ s.2.1 18 left = nI (dfO (P p) m e left j).1 ∧ s.2.1 19 left = eO (dfO (P p) m e left j).2) m 0 σ (Nat.zero_le _) ⟨FRm.rf, fun _ _ => ⟨rfl, rfl⟩, h0, h1⟩ ?_ ?_
  · intro f s e1
    obtain ⟨e1, e2, e3, e4⟩ := e1
    rw [wX8_tellDeep_L83]
    exact br_t (by rw [lk_m (h.fr e1 (by decide) (by decide))]; exact nI_le (Nat.le_refl _) (by omega)) (k s e1 e2 e3 e4 _)
  · intro f j s hj e1 ih
    obtain ⟨e1, e2, e3, e4⟩ := e1
    rw [wX8_tellDeep_L83]
    have hls := h.fr e1 (by decide) (by decide)
    have hcl := qs_cl_le left j
    have skip : dfO (P p) m e left (j + 1) = dfO (P p) m e left j → ∀ v : Int32, v = nI j + (1 : Int32) → wX8_tellDeep_L83 (nI left) z2 (nI p) K post f v s := fun hq => by
      refine nm_e ?_
      rw [nI_1]
      exact ih s ⟨e1, e2, by rw [hq]; exact e3, by rw [hq]; exact e4⟩
    have fin : dfO (P p) m e left (j + 1) = (e j, some j) → (vp_in (nI left) 1024 ∧ ∀ σ19 : hsS, σ19 = hsA s 18 (upd (s.2.1 18) (nI left).toNatClampNeg (nI (e j))) → vp_in (nI left) 1024 ∧ ∀ σ20 : hsS, σ20 = hsA σ19 19 (upd (σ19.2.1 19) (nI left).toNatClampNeg (nI j)) → ∀ v21 : Int32, v21 = nI j + (1 : Int32) → wX8_tellDeep_L83 (nI left) z2 (nI p) K post f v21 σ20) := fun hq => by
      refine ⟨pk_in left 1024 (by omega), fun S hS => ⟨pk_in left 1024 (by omega), fun S2 hS2 => nm_e ?_⟩⟩
      rw [nI_1]
      rw [nI_clamp (by omega)] at hS hS2
      have a18 : S2.2.1 18 = upd (s.2.1 18) left (nI (e j)) := by rw [hS2, hsA_ne _ _ (by decide), hS, hsA_at]
      have a19 : S2.2.1 19 = upd (s.2.1 19) left (nI j) := by rw [hS2, hsA_at, hS, hsA_ne _ _ (by decide)]
      refine ih S2 ⟨by rw [hS2, hS]; exact (e1.trans (FRm.arr _ (by decide))).trans (FRm.arr _ (by decide)), fun q hq => ?_, ?_, ?_⟩
      · rw [a18, a19, pk_un hq, pk_un hq]; exact e2 q hq
      · rw [a18, pk_us, hq]
      · rw [a19, pk_us, hq]; rfl
    refine br_f (by rw [lk_m hls]; exact nI_ge hj (by omega)) (ek_if (qb_test0 (by omega) (by omega)) (fun c => ?_) (fun c => ?_))
    · exact skip (by rw [dfO_succ, if_neg (by rw [c]; decide)])
    · have hb : left.testBit j = true := ts_nf c
      obtain ⟨he1, he2⟩ := he j hj hb
      refine ⟨pk_in (qs_cl left j) 1024 (by omega) (qb_cl _ (by omega)), nm_r (e' := nI (e j)) ?_ ⟨pk_in left 1024 (by omega), nm_r (e' := nI (dfO (P p) m e left j).1) ?_ ⟨pk_in left 1024 (by omega), ?_⟩⟩⟩
      · rw [qb_cl _ (by omega), nI_clamp (by omega), (e2 _ (qs_cl_ne hb)).1]; exact he1
      · rw [nI_clamp (by omega)]; exact e3
      rw [nI_clamp (n := left) (by omega), e4]
      rcases dfO_in (P p) m e left j with ⟨d1, -⟩ | ⟨w, d1, d2, d3⟩
      · rw [d1]
        refine br_t rfl ?_
        have := fin (by rw [dfO_succ, if_pos hb, d1]; exact if_pos rfl)
        rw [nI_clamp (n := left) (by omega)] at this
        exact this
      · rw [d3]
        have hw2 := (he w (by omega) d2).2
        have g1 := gpO_le (f := P p) (m := 11) (e j) m hP; have g2 := gpO_le (f := P p) (m := 11) (e w) m hP
        have u1 := suO_le (f := P p) (m := 11) (e j) hP; have u2 := suO_le (f := P p) (m := 11) (e w) hP
        have no : ¬ betO (P p) m (e j) (e w) = true → dfO (P p) m e left (j + 1) = dfO (P p) m e left j := fun hc => by
          rw [dfO_succ, if_pos hb, d3, if_neg (by simp), if_neg hc]
        have yes : betO (P p) m (e j) (e w) = true → dfO (P p) m e left (j + 1) = (e j, some j) := fun hc => by
          rw [dfO_succ, if_pos hb, d3, if_neg (by simp), if_pos hc]
        rw [nI_clamp (n := left) (by omega)] at fin
        refine br_f (pk_nm1 (by omega)) (qm_worst hls hp he2 (qm_worst hls hp hw2 (pk_lt (gpO (P p) (e j) m) (gpO (P p) (e w) m) (fun c1 => fin (yes ?_)) (fun c1 => qm_worst hls hp he2 (qm_worst hls hp hw2 (pk_eq (gpO (P p) (e j) m) (gpO (P p) (e w) m) (fun c2 => qm_sum hls hp he2 (qm_sum hls hp hw2 (pk_le (suO (P p) (e w) m) (suO (P p) (e j) m) (fun c3 => skip (no ?_)) (fun c3 => fin (yes ?_))))) (fun c2 => skip (no ?_))))))))
        · unfold betO; simp [c1]
        · unfold betO; simp; omega
        · unfold betO; simp [c2, c3]
        · unfold betO; simp; omega
end DeepM
section DeepN
variable {A : AH} {g : Nat → Nat → Nat} {σ : hsS}
theorem qm_tellDeep (ha : AW A) (hg : GW A g) (h : MH A g σ) (hd : MD A (σ.1 39) (σ.1 12) (σ.2.1 18) (σ.2.1 19)) {post : hsS → Prop} (k : ∀ σ', FRm [25, 39] [13, 18, 19] σ σ' → σ'.1 39 = σ.1 12 → LK (aP A) (aM A) (aN A) σ' → σ'.2.1 18 (2 ^ aM A - 1) = nI (deA A (2 ^ aM A - 1)).1 → σ'.2.1 19 (2 ^ aM A - 1) = eO (deA A (2 ^ aM A - 1)).2 → post σ') : wX8_tellDeep post σ := by
  have hm := aw_m ha; have hnt := aw_nt ha
  have hm9 : 2 ^ aM A ≤ 2 ^ 9 := Nat.pow_le_pow_right (by decide) hm.2
  have hpp := Nat.two_pow_pos (aM A)
  refine qm_look ha hg h (fun s1 f1 l1 => br_c (fun c => ?_) (fun c => fun s2 hs2 => ?_))
  · have hd2 := hd (by rw [← f1.1 39 (by decide), ← f1.1 12 (by decide)]; exact c)
    exact k s1 (f1.weak (by decide) (by decide)) (by rw [c, f1.1 12 (by decide)]) l1 (by rw [f1.2.1 18 (by decide)]; exact hd2.1) (by rw [f1.2.1 19 (by decide)]; exact hd2.2)
  · have f2 : FRm [25, 39] [13] σ s2 := by rw [hs2]; exact (f1.weak (by decide) (by decide)).trans (FRm.int _ (by decide))
    have h39 : s2.1 39 = σ.1 12 := by rw [hs2, hsI_at, f1.1 12 (by decide)]
    have l2 : LK (aP A) (aM A) (aN A) s2 := by rw [hs2]; exact l1.fr (FRm.int (I := [39]) (R := []) _ (by decide)) (by decide) (by decide)
    have hM2 := h.fr f2 (by decide)
    refine pk_loop (fun n j (s : hsS) => wX8_tellDeep_L26 _ post n (nI j) s) (fun j s => FRm [] [18, 19] s2 s ∧ ∀ q, q < j → s.2.1 18 q = nI (deA A q).1 ∧ s.2.1 19 q = eO (deA A q).2) (2 ^ aM A) 0 s2 (Nat.zero_le _) ⟨FRm.rf, fun q hq => absurd hq (Nat.not_lt_zero _)⟩ ?_ ?_
    · intro n s e
      obtain ⟨e1, e2⟩ := e
      have hls := l2.fr e1 (by decide) (by decide)
      rw [wX8_tellDeep_L26]
      have hq := e2 (2 ^ aM A - 1) (by omega)
      exact br_t (by rw [lk_m hls, qb_one _ (by omega)]; exact nI_le (Nat.le_refl _) (by omega)) (k s ((f2.weak (by decide) (by decide)).trans (e1.weak (by decide) (by decide))) (by rw [e1.1 39 (by decide)]; exact h39) hls hq.1 hq.2)
    · intro n j s hj e ih
      obtain ⟨e1, e2⟩ := e
      have hls := l2.fr e1 (by decide) (by decide)
      have hsz := qs_sz_lt (by omega) hj
      rw [wX8_tellDeep_L26]
      refine br_f (by rw [lk_m hls, qb_one _ (by omega)]; exact nI_ge hj (by omega)) (qm_sizeOf (by omega) (nm_r (e' := nI (aM A - qs_sz j)) (by rw [lk_m hls, pk_sub hsz]) ⟨pk_in j 1024 (by omega), fun s3 h3 => ⟨pk_in j 1024 (by omega), fun s4 h4 => ?_⟩⟩))
      rw [nI_clamp (by omega)] at h3 h4
      have f4 : FRm [] [18, 19] s s4 := by rw [h4, h3]; exact (FRm.arr _ (by decide)).trans (FRm.arr _ (by decide))
      have a18 : s4.2.1 18 = upd (s.2.1 18) j (nI j) := by rw [h4, hsA_ne _ _ (by decide), h3, hsA_at]
      have a19 : s4.2.1 19 = upd (s.2.1 19) j (-1) := by rw [h4, hsA_at, h3, hsA_ne _ _ (by decide)]
      have hM4 := (hM2.fr e1 (by decide)).fr f4 (by decide)
      have l4 := hls.fr f4 (by decide) (by decide)
      rw [mh_nt hM4]
      refine pk_lt (aM A - qs_sz j) (aNt A) (fun c => ⟨pk_in (aM A - qs_sz j) 18 (by omega), nm_r (e' := nI (aU A (aM A - qs_sz j))) (by rw [nI_clamp (by omega)]; exact mh_u hM4 c) ?_⟩) (fun c => nm_e ?_)
      · refine qm_deepIn l4 (aw_u ha c) hj (e := fun t => (deA A (qs_cl j t)).1) (fun t ht hb => ⟨?_, ?_⟩) ?_ ?_ _ (fun s5 f5 f6 f7 f8 z => nm_e ?_)
        · rw [a18, pk_un (qs_cl_ne hb)]; exact (e2 _ (qs_cl_less hb)).1
        · have h1 := deA_le A (qs_cl j t); have h2 := qs_cl_le j t
          show (deA A (qs_cl j t)).1 < 2 ^ 31
          omega
        · rw [a18, pk_us]
        · rw [a19, pk_us]
        · rw [← de_step ha hj c] at f7 f8
          rw [nI_1]
          refine ih s5 ⟨(e1.trans f4).trans f5, fun q hq => ?_⟩
          rcases Nat.decEq q j with z | z
          · rw [(f6 q z).1, (f6 q z).2, a18, a19, pk_un z, pk_un z]; exact e2 q (by omega)
          · subst z; exact ⟨f7, f8⟩
      · rw [nI_1]
        refine ih s4 ⟨e1.trans f4, fun q hq => ?_⟩
        rcases Nat.decEq q j with z | z
        · rw [a18, a19, pk_un z, pk_un z]; exact e2 q (by omega)
        · subst z
          rw [a18, a19, pk_us, pk_us, de_end c]; exact ⟨rfl, rfl⟩
end DeepN
section DeepX
variable {b0 b1 : Nat} {A : AH} {σ : hsS}
theorem qx_bestStrike (ha : AW A) (h : HX b1 A σ) {post : Int32 → hsS → Prop} {p left : Nat} (hp : p < aN A) (hl : left < 2 ^ aM A) {e : Nat → Nat} (he : ∀ t, t < aM A → left.testBit t = true → σ.2.1 (b0 + 1) (qs_cl left t) = nI (e t) ∧ e t < 2 ^ 31) (h0 : left ≠ 0) (k : ∀ w, w < aM A → left.testBit w = true → dfO (aP A p) (aM A) e left (aM A) = (e w, some w) → post (nI w) σ) : wX5_bestStrike b0 b1 (nI p) (nI left) post σ := by
  have hm := aw_m ha
  have hm9 : 2 ^ aM A ≤ 2 ^ 9 := Nat.pow_le_pow_right (by decide) hm.2
  have hP : ∀ t, t < aM A → aP A p t < 9 := fun t ht => by have := aw_p ha hp ht; omega
  have L : ∀ K : Int32 → Int32 → Int32 → hsS → Prop, (∀ w, w < aM A → left.testBit w = true → dfO (aP A p) (aM A) e left (aM A) = (e w, some w) → ∀ y z, K (nI w) y z σ) → ∃ n, wX5_bestStrike_L10 b0 b1 (nI p) (nI left) K post n 0 1000000 0 σ := fun K kk =>
    pk_loop (fun n j (y : Int32 × Int32) => wX5_bestStrike_L10 b0 b1 (nI p) (nI left) K post n y.1 y.2 (nI j) σ) (fun j y => ((dfO (aP A p) (aM A) e left j = (left, none) ∧ ∀ t, t < j → left.testBit t = false) ∧ y = (0, 1000000)) ∨ ∃ w, w < j ∧ left.testBit w = true ∧ dfO (aP A p) (aM A) e left j = (e w, some w) ∧ y = (nI w, nI (gpO (aP A p) (e w) (aM A) * 1000 + suO (aP A p) (e w) (aM A)))) (aM A) 0 (0, 1000000) (Nat.zero_le _) (Or.inl ⟨⟨rfl, fun t ht => absurd ht (Nat.not_lt_zero _)⟩, rfl⟩)
      (fun n y e1 => by
        rw [wX5_bestStrike_L10]
        refine br_t (by rw [hx_m h]; exact nI_le (Nat.le_refl _) (by omega)) ?_
        rcases e1 with ⟨⟨_, h2⟩, _⟩ | ⟨w, w1, w2, w3, w4⟩
        · obtain ⟨t, ht, hb⟩ := qs_some hl h0
          rw [h2 t ht] at hb; exact absurd hb (by decide)
        · rw [w4]; exact kk w w1 w2 w3 _ _)
      (fun n j y hj e1 ih => by
        obtain ⟨y1, y2⟩ := y
        dsimp only
        rw [wX5_bestStrike_L10]
        have hcl := qs_cl_le left j
        refine br_f (by rw [hx_m h]; exact nI_ge hj (by omega)) (ek_if (qb_testN (by omega) (by omega)) (fun c => ?_) (fun c => ?_))
        · obtain ⟨he1, he2⟩ := he j hj c
          have g1 := gpO_le (f := aP A p) (m := 9) (e j) (aM A) hP
          have u1 := suO_le (f := aP A p) (m := 9) (e j) hP
          refine ⟨pk_in (qs_cl left j) 512 (by omega) (qb_cl _ (by omega)), nm_r (e' := nI (e j)) (by rw [qb_cl _ (by omega), nI_clamp (by omega)]; exact he1) (qx_greatestPlace ha h hp he2 (qx_sumOfPlaces ha h hp he2 (nm_r (e' := nI (gpO (aP A p) (e j) (aM A) * 1000 + suO (aP A p) (e j) (aM A))) (by rw [show (1000 : Int32) = nI 1000 from rfl, pk_mul, nI_add]) ?_)))⟩
          have hs81 : aM A * 9 ≤ 81 := by omega
          rcases e1 with ⟨⟨d1, d2⟩, d3⟩ | ⟨w, w1, w2, w3, w4⟩
          · obtain ⟨rfl, rfl⟩ := Prod.mk.inj d3
            refine pk_le 1000000 (gpO (aP A p) (e j) (aM A) * 1000 + suO (aP A p) (e j) (aM A)) (fun c2 => ?_) (fun c2 => nm_e ?_)
            · omega
            · rw [nI_1]
              exact ih (nI j, nI (gpO (aP A p) (e j) (aM A) * 1000 + suO (aP A p) (e j) (aM A))) (Or.inr ⟨j, by omega, c, by rw [dfO_succ, if_pos c, d1]; exact if_pos rfl, rfl⟩)
          · obtain ⟨rfl, rfl⟩ := Prod.mk.inj w4
            have g2 := gpO_le (f := aP A p) (m := 9) (e w) (aM A) hP
            have u2 := suO_le (f := aP A p) (m := 9) (e w) hP
            refine pk_le (gpO (aP A p) (e w) (aM A) * 1000 + suO (aP A p) (e w) (aM A)) (gpO (aP A p) (e j) (aM A) * 1000 + suO (aP A p) (e j) (aM A)) (fun c2 => nm_e ?_) (fun c2 => nm_e ?_)
            · rw [nI_1]
              refine ih (nI w, _) (Or.inr ⟨w, by omega, w2, ?_, rfl⟩)
              rw [dfO_succ, if_pos c, w3, if_neg (by simp), if_neg]
              unfold betO; simp; omega
            · rw [nI_1]
              refine ih (nI j, _) (Or.inr ⟨j, by omega, c, ?_, rfl⟩)
              rw [dfO_succ, if_pos c, w3, if_neg (by simp), if_pos]
              unfold betO; simp; omega
        · refine nm_e ?_
          rw [nI_1]
          have hd : dfO (aP A p) (aM A) e left (j + 1) = dfO (aP A p) (aM A) e left j := by rw [dfO_succ, if_neg c]
          refine ih (y1, y2) ?_
          rw [hd]
          rcases e1 with ⟨⟨d1, d2⟩, d3⟩ | ⟨w, w1, w2, w3, w4⟩
          · refine Or.inl ⟨⟨d1, fun t ht => ?_⟩, d3⟩
            rcases Nat.decEq t j with z | z
            · exact d2 t (by omega)
            · subst z; exact ts_nt c
          · exact Or.inr ⟨w, by omega, w2, w3, w4⟩)
  exact L _ (fun w h1 h2 h3 _ _ => k w h1 h2 h3)
theorem qx_lookBack (ha : AW A) (h : HX b1 A σ) (hb : b1 + 4 < b0) (h0 : σ.2.1 (b0 + 1) 0 = 0) {post : hsS → Prop} (k : ∀ σ', FRm [] [b0 + 1] σ σ' → (∀ q, q < 2 ^ aM A → σ'.2.1 (b0 + 1) q = nI (deA A q).1) → post σ') : wX5_lookBack b0 b1 post σ := by
  have hm := aw_m ha; have hnt := aw_nt ha
  have hm9 : 2 ^ aM A ≤ 2 ^ 9 := Nat.pow_le_pow_right (by decide) hm.2
  have hpp := Nat.two_pow_pos (aM A)
  refine qx_allThings ha h (nm_r (e' := nI (2 ^ aM A - 1)) (if_neg (by rw [show (512 : Int32) - 1 = nI 511 from by decide]; exact nI_nlt (by omega) (by omega))) ?_)
  have L : ∀ K : Int32 → hsS → Prop, (∀ s, FRm [] [b0 + 1] σ s → (∀ q, q < 2 ^ aM A → s.2.1 (b0 + 1) q = nI (deA A q).1) → ∀ z, K z s) → ∃ n, wX5_lookBack_L17 b0 b1 (nI (2 ^ aM A - 1)) K post n 1 σ := fun K kk =>
    pk_loop (fun n j (s : hsS) => wX5_lookBack_L17 b0 b1 (nI (2 ^ aM A - 1)) K post n (nI j) s) (fun j s => 1 ≤ j ∧ FRm [] [b0 + 1] σ s ∧ ∀ q, q < j → s.2.1 (b0 + 1) q = nI (deA A q).1) (2 ^ aM A) 1 σ (by omega) ⟨Nat.le_refl _, FRm.rf, fun q hq => by
        have : q = 0 := by omega
        subst this
        have := deA_le A 0
        rw [h0, show (deA A 0).1 = 0 by omega, nI_0]⟩
      (fun n s e => by
        rw [wX5_lookBack_L17]
        exact br_t (nI_lt (by omega) (by omega)) (kk s e.2.1 e.2.2 _))
      (fun n j s hj e ih => by
        obtain ⟨hj0, e1, e2⟩ := e
        rw [wX5_lookBack_L17]
        have hxs : HX b1 A s := h.frA e1 (by omega)
        have hsz := qs_sz_lt (by omega) hj
        refine br_f (nI_nlt (by omega) (by omega)) (qx_bitCount (by omega) (nm_r (e' := nI (aM A - qs_sz j)) (by rw [hx_m hxs, pk_sub hsz]) ?_))
        rw [hx_nt hxs]
        refine pk_lt (aM A - qs_sz j) (aNt A) (fun c => ⟨pk_in (aM A - qs_sz j) 8 (by omega), ?_⟩) (fun c => ⟨pk_in j 512 (by omega), fun S hS => nm_e ?_⟩)
        · rw [nI_clamp (n := aM A - qs_sz j) (by omega), hx_u hxs c]
          refine qx_bestStrike ha hxs (aw_u ha c) hj (e := fun t => (deA A (qs_cl j t)).1) (fun t ht hb => ⟨e2 _ (qs_cl_less hb), ?_⟩) (by omega) (fun w hw hbw hd => ⟨pk_in (qs_cl j w) 512 (by have := qs_cl_le j w; omega) (qb_cl _ (by omega)), pk_in j 512 (by omega), fun S hS => nm_e ?_⟩)
          · have h1 := deA_le A (qs_cl j t); have h2 := qs_cl_le j t
            show (deA A (qs_cl j t)).1 < 2 ^ 31
            omega
          · have hcw := qs_cl_le j w
            rw [← de_step ha hj c] at hd
            rw [nI_1]
            rw [qb_cl _ (by omega), nI_clamp (n := j) (by omega), nI_clamp (n := qs_cl j w) (by omega), e2 _ (qs_cl_less hbw)] at hS
            have hat : S.2.1 (b0 + 1) = upd (s.2.1 (b0 + 1)) j (nI (deA A (qs_cl j w)).1) := by rw [hS, hsA_at]
            refine ih S ⟨by omega, by rw [hS]; exact e1.trans (FRm.arr _ (by simp)), fun q hq => ?_⟩
            rw [hat]
            rcases Nat.decEq q j with z | z
            · rw [pk_un z]; exact e2 q (by omega)
            · subst z; rw [pk_us, hd]
        · rw [nI_1]
          rw [nI_clamp (by omega)] at hS
          have hat : S.2.1 (b0 + 1) = upd (s.2.1 (b0 + 1)) j (nI j) := by rw [hS, hsA_at]
          refine ih S ⟨by omega, by rw [hS]; exact e1.trans (FRm.arr _ (by simp)), fun q hq => ?_⟩
          rw [hat]
          rcases Nat.decEq q j with z | z
          · rw [pk_un z]; exact e2 q (by omega)
          · subst z; rw [pk_us, de_end c])
  exact L _ (fun s h1 h2 _ => k s h1 h2)
end DeepX
section OpJ
variable {A : AH} {g : Nat → Nat → Nat} {v i : Nat} {σx σm : hsS}
theorem RB.x22 (h : RB A g v i σx σm) {σ' : hsS} (hf : FRm [] [22] σx σ') (h0 : σ'.2.1 22 0 = 0) : RB A g v i σ' σm := by
  obtain ⟨⟨h1, h2, h3, h4⟩, h5, ⟨h6, h7⟩, h8, h9, ⟨h10, h11, h12⟩, h13, h14, h15⟩ := h
  refine ⟨⟨h1, h2, h3.fr hf (by decide) (by decide), h4⟩, h5, ⟨?_, ?_⟩, ?_, h0, ⟨?_, h11, h12⟩, h13, ?_, h15⟩
  · rw [hf.1 706 (by decide), hf.2.1 12 (by decide)]; exact h6
  · rw [hf.1 713 (by decide)]; exact h7
  · rw [hf.1 1922 (by decide), hf.2.1 31 (by decide), hf.2.1 33 (by decide), hf.2.1 34 (by decide), hf.2.2]; exact h8
  · rw [hf.1 1473 (by decide), hf.1 1474 (by decide), hf.1 1475 (by decide)]; exact h10
  · rw [hf.1 1604 (by decide), hf.1 1605 (by decide), hf.1 1606 (by decide), hf.1 1607 (by decide), hf.2.1 26 (by decide), hf.2.1 27 (by decide), hf.2.1 28 (by decide)]; exact h14
theorem RB.mdp (h : RB A g v i σx σm) {σ' : hsS} (hf : FRm [0, 25, 39] [13, 18, 19] σm σ') (h39 : σ'.1 39 = σm.1 12) (d1 : σ'.2.1 18 (2 ^ aM A - 1) = nI (deA A (2 ^ aM A - 1)).1) (d2 : σ'.2.1 19 (2 ^ aM A - 1) = eO (deA A (2 ^ aM A - 1)).2) : RB A g v i σx σ' := by
  obtain ⟨⟨h1, h2, h3, h4⟩, ⟨h5, h5a, h5b, h5c, h5d, h5e⟩, ⟨h6, h7⟩, h8, h9, ⟨h10, h11, h12⟩, h13, h14, h15⟩ := h
  refine ⟨⟨h1, h2, h3, h4.fr hf (by decide)⟩, ⟨?_, h5a, ?_, ?_, Or.inr ⟨v, Nat.le_refl _, ?_⟩, ?_⟩, ⟨?_, ?_⟩, ?_, h9, ⟨h10, ?_, fun _ => ⟨d1, d2⟩⟩, h13.fr hf (by decide) (by decide) (by decide) (by decide) (by decide), h14, ?_⟩
  · rw [hf.1 12 (by decide)]; exact h5
  · rw [hf.1 28 (by decide)]; exact h5b
  · rw [hf.1 36 (by decide)]; exact h5c
  · rw [h39]; exact h5
  · rw [hf.1 50 (by decide)]; exact h5e
  · rw [hf.1 14 (by decide), hf.2.1 12 (by decide)]; exact h6
  · rw [hf.1 23 (by decide)]; exact h7
  · rw [hf.1 52 (by decide), hf.2.1 27 (by decide), hf.2.1 28 (by decide), hf.2.1 29 (by decide), hf.2.1 30 (by decide)]; exact h8
  · rw [hf.1 36 (by decide), hf.1 12 (by decide), hf.1 33 (by decide), hf.1 34 (by decide), hf.1 35 (by decide)]; exact h11
  · rw [hf.1 50 (by decide), hf.1 12 (by decide), hf.1 47 (by decide), hf.1 48 (by decide), hf.1 49 (by decide), hf.1 51 (by decide), hf.2.1 22 (by decide), hf.2.1 24 (by decide), hf.2.1 25 (by decide)]; exact h15
theorem op_14 (h : RR i σx σm) : lo_14 (RR (i + 6)) σx σm := by
  obtain ⟨A, g, v, h⟩ := h
  unfold lo_14 wX7_deep wX5_endOf
  have ha := rb_aw h; have hm := aw_m ha; have hx := rb_hx h
  have hm9 : 2 ^ aM A ≤ 2 ^ 9 := Nat.pow_le_pow_right (by decide) hm.2
  have hpp := Nat.two_pow_pos (aM A)
  refine qx_lookBack ha hx (by decide) (rb_e0 h) (fun s1 f1 f2 => qx_allThings ha (hx.frA f1 (by decide)) ⟨pk_in (2 ^ aM A - 1) 512 (by omega), ?_⟩)
  rw [nI_clamp (by omega), f2 _ (by omega)]
  have hX : RB A g v i s1 σm := h.x22 f1 (by
    have := f2 0 (by omega); have h2 := deA_le A 0
    rw [show (deA A 0).1 = 0 by omega] at this; exact this)
  intro S hS
  obtain ⟨h1, h2⟩ := m0 hS
  have hM := (rb_mh h).fr h1 (by decide)
  refine qm_tellDeep ha (rb_gw h) hM (by rw [h1.1 39 (by decide), h1.1 12 (by decide), h1.2.1 18 (by decide), h1.2.1 19 (by decide)]; exact rb_md h) (fun S2 g1 g2 g3 g4 g5 => ?_)
  rw [lk_m g3, qb_all (by omega)]
  refine ⟨pk_in (2 ^ aM A - 1) 1024 (by omega), ?_⟩
  rw [nI_clamp (by omega), g4]
  exact ⟨rfl, A, g, v, (hX.mdp ((h1.weak (by decide) (by decide)).trans (g1.weak (by decide) (by decide))) (by rw [g2, h1.1 12 (by decide)]) g4 g5).up (by omega)⟩
theorem op_15 (h : RR i σx σm) : lo_15 (RR (i + 6)) σx σm := by
  obtain ⟨A, g, v, h⟩ := h
  unfold lo_15 wX7_first wX5_openingStrike
  have ha := rb_aw h; have hm := aw_m ha; have hx := rb_hx h; have hnt := aw_nt ha
  have hm9 : 2 ^ aM A ≤ 2 ^ 9 := Nat.pow_le_pow_right (by decide) hm.2
  have hpp := Nat.two_pow_pos (aM A)
  have hsz : qs_sz (2 ^ aM A - 1) = aM A := qs_sz_full _ (by omega)
  have hmod : ∀ s1 : hsS, RB A g v i s1 σm → wX8_first (fun bb σm1 => eO (deA A (2 ^ aM A - 1)).2 = bb ∧ RR (i + 6) s1 σm1) σm := fun s1 hX => by
    intro S hS
    obtain ⟨h1, h2⟩ := m0 hS
    have hM := (rb_mh h).fr h1 (by decide)
    refine qm_tellDeep ha (rb_gw h) hM (by rw [h1.1 39 (by decide), h1.1 12 (by decide), h1.2.1 18 (by decide), h1.2.1 19 (by decide)]; exact rb_md h) (fun S2 g1 g2 g3 g4 g5 => ?_)
    rw [lk_m g3, qb_all (by omega)]
    refine ⟨pk_in (2 ^ aM A - 1) 1024 (by omega), ?_⟩
    rw [nI_clamp (by omega), g5]
    exact ⟨rfl, A, g, v, (hX.mdp ((h1.weak (by decide) (by decide)).trans (g1.weak (by decide) (by decide))) (by rw [g2, h1.1 12 (by decide)]) g4 g5).up (by omega)⟩
  rw [hx_nt hx]
  refine pk_eq (aNt A) 0 (fun c => ?_) (fun c => ?_)
  · have e := hmod σx h
    rw [de_end (by omega)] at e; exact e
  · refine qx_lookBack ha hx (by decide) (rb_e0 h) (fun s1 f1 f2 => ?_)
    have hx1 : HX 1 A s1 := hx.frA f1 (by decide)
    have hX : RB A g v i s1 σm := h.x22 f1 (by
      have := f2 0 (by omega); have h2 := deA_le A 0
      rw [show (deA A 0).1 = 0 by omega] at this; exact this)
    refine qx_allThings ha hx1 ?_
    rw [cl0, hx_u hx1 (k := 0) (by omega)]
    refine qx_bestStrike ha hx1 (aw_u ha (by omega)) (by omega) (e := fun t => (deA A (qs_cl (2 ^ aM A - 1) t)).1) (fun t ht hb => ⟨f2 _ ?_, ?_⟩) ?_ (fun w hw hbw hd => ?_)
    · have := qs_cl_le (2 ^ aM A - 1) t; omega
    · have h1 := deA_le A (qs_cl (2 ^ aM A - 1) t); have h2 := qs_cl_le (2 ^ aM A - 1) t
      show (deA A (qs_cl (2 ^ aM A - 1) t)).1 < 2 ^ 31
      omega
    · have : 2 ^ 2 ≤ 2 ^ aM A := Nat.pow_le_pow_right (by decide) hm.1
      omega
    · have hs := de_step ha (left := 2 ^ aM A - 1) (by omega) (by rw [hsz]; omega)
      rw [hsz, Nat.sub_self, hd] at hs
      have e := hmod s1 hX
      rw [hs] at e; exact e
end OpJ
