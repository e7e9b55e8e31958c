/-! ===== the spare hall: taken over, with a copy, without one ===== -/
theorem tk_int {b0 b1 k : Nat} {σ s s' : hsS} (hk : k < 8) (hd : b0 ≠ b1) (e : s' = hsI s (64 * b0 + k) (s.1 (64 * b1 + k))) (F : (∀ j, (∀ q, q < 8 → j ≠ 64 * b0 + q) → s.1 j = σ.1 j) ∧ (∀ j, j < k → s.1 (64 * b0 + j) = σ.1 (64 * b1 + j)) ∧ s.2 = σ.2) : (∀ j, (∀ q, q < 8 → j ≠ 64 * b0 + q) → s'.1 j = σ.1 j) ∧ (∀ j, j < k + 1 → s'.1 (64 * b0 + j) = σ.1 (64 * b1 + j)) ∧ s'.2 = σ.2 := by
  obtain ⟨F, G, H⟩ := F
  refine ⟨fun j hj => ?_, fun j hj => ?_, ?_⟩
  · rw [e, hsI_ne _ _ (hj k hk)]; exact F j hj
  · rw [e]
    rcases Nat.decEq j k with z | z
    · rw [hsI_ne _ _ (by omega)]; exact G j (by omega)
    · subst z; rw [hsI_at]; exact F _ (fun q hq => by omega)
  · rw [e]; exact H
theorem tk_arr {b0 b1 k : Nat} {N : Nat → Nat} {σ s s' : hsS} {n : Int32} (hn : n.toNatClampNeg = N k) (hk : k < 5) (hk1 : 1 ≤ k) (hd : b1 + 4 < b0 ∨ b0 + 4 < b1) (e : s' = hsA s (b0 + k) (va_cpy (s.2.1 (b1 + k)) (s.2.1 (b0 + k)) (0 : Int32).toNatClampNeg (0 : Int32).toNatClampNeg n.toNatClampNeg)) (F : (∀ j, (∀ q, q < 5 → 1 ≤ q → j ≠ b0 + q) → s.2.1 j = σ.2.1 j) ∧ (∀ j, j < k → 1 ≤ j → ∀ q, q < N j → s.2.1 (b0 + j) q = σ.2.1 (b1 + j) q) ∧ s.2.2 = σ.2.2) : (∀ j, (∀ q, q < 5 → 1 ≤ q → j ≠ b0 + q) → s'.2.1 j = σ.2.1 j) ∧ (∀ j, j < k + 1 → 1 ≤ j → ∀ q, q < N j → s'.2.1 (b0 + j) q = σ.2.1 (b1 + j) q) ∧ s'.2.2 = σ.2.2 := by
  obtain ⟨F, G, H⟩ := F
  refine ⟨fun j hj => ?_, fun j hj hj1 q hq => ?_, ?_⟩
  · rw [e, hsA_ne _ _ (hj k hk hk1)]; exact F j hj
  · rw [e]
    rcases Nat.decEq j k with z | z
    · rw [hsA_ne _ _ (by omega)]; exact G j (by omega) hj1 q hq
    · subst z
      rw [hsA_at, cl0, hn, pk_cpy_in (Nat.zero_le _) (by omega), F _ (fun q hq h1 => by omega), Nat.sub_zero, Nat.zero_add]
  · rw [e]; exact H
def tkN (k : Nat) : Nat := if k = 2 then 72 else 8
theorem qx_takeFrom {b0 b1 : Nat} {A : AH} {σ : hsS} (hd : b1 + 4 < b0 ∨ b0 + 4 < b1) (ha : AW A) (htc : aTc A ≤ 8) (h : HX b1 A σ) {post : hsS → Prop} (k : ∀ σ', (∀ j, (∀ q, q < 8 → j ≠ 64 * b0 + q) → σ'.1 j = σ.1 j) → (∀ j, (∀ q, q < 5 → 1 ≤ q → j ≠ b0 + q) → σ'.2.1 j = σ.2.1 j) → σ'.2.2 = σ.2.2 → HX b0 A σ' → post σ') : wX1_takeFrom b0 b1 post σ := by
  have hne : b0 ≠ b1 := by omega
  have hn := aw_n ha; have hm := aw_m ha; have hnt := aw_nt ha
  intro s1 e1 s2 e2 s3 e3 s4 e4 s5 e5 s6 e6 s7 e7 s8 e8 s9 e9 s10 e10 s11 e11 s12 e12
  have f0 : (∀ j, (∀ q, q < 8 → j ≠ 64 * b0 + q) → σ.1 j = σ.1 j) ∧ (∀ j, j < 0 → σ.1 (64 * b0 + j) = σ.1 (64 * b1 + j)) ∧ σ.2 = σ.2 := ⟨fun _ _ => rfl, fun j hj => absurd hj (Nat.not_lt_zero _), rfl⟩
  have f1 := tk_int (k := 0) (by decide) hne e1 f0
  have f2 := tk_int (k := 1) (by decide) hne e2 f1
  have f3 := tk_int (k := 2) (by decide) hne e3 f2
  have f4 := tk_int (k := 3) (by decide) hne e4 f3
  have f5 := tk_int (k := 4) (by decide) hne e5 f4
  have f6 := tk_int (k := 5) (by decide) hne e6 f5
  have f7 := tk_int (k := 6) (by decide) hne e7 f6
  obtain ⟨k1, k2, k3⟩ := tk_int (k := 7) (by decide) hne e8 f7
  have g0 : (∀ j, (∀ q, q < 5 → 1 ≤ q → j ≠ b0 + q) → s8.2.1 j = σ.2.1 j) ∧ (∀ j, j < 1 → 1 ≤ j → ∀ q, q < tkN j → s8.2.1 (b0 + j) q = σ.2.1 (b1 + j) q) ∧ s8.2.2 = σ.2.2 := ⟨fun j _ => by rw [k3], fun j h1 h2 => by omega, by rw [k3]⟩
  have g1 := tk_arr (N := tkN) (k := 1) (n := 8) (by decide) (by decide) (by decide) hd e9 g0
  have g2 := tk_arr (N := tkN) (k := 2) (n := 72) (by decide) (by decide) (by decide) hd e10 g1
  have g3 := tk_arr (N := tkN) (k := 3) (n := 8) (by decide) (by decide) (by decide) hd e11 g2
  obtain ⟨l1, l2, l3⟩ := tk_arr (N := tkN) (k := 4) (n := 8) (by decide) (by decide) (by decide) hd e12 g3
  have ei : s12.1 = s8.1 := by rw [e12, e11, e10, e9]; rfl
  refine k s12 (fun j hj => by rw [ei]; exact k1 j hj) l1 l3 ⟨fun j hj => ?_, fun p hp => ?_, fun p t hp ht => ?_, fun j hj => ?_, fun j hj => ?_⟩
  · rw [ei, k2 j (by omega)]; exact h.1 j hj
  · rw [l2 1 (by decide) (by decide) p (by show p < 8; omega)]; exact hx_w h hp
  · rw [l2 2 (by decide) (by decide) (9 * p + t) (by show 9 * p + t < 72; omega)]; exact hx_p h hp ht
  · rw [l2 3 (by decide) (by decide) j (by show j < 8; omega)]; exact hx_t h hj
  · rw [l2 4 (by decide) (by decide) j (by show j < 8; omega)]; exact hx_u h hj
/-- the spare hall takes over the hall -/
theorem qx_takeSpare {A : AH} {σ : hsS} (ha : AW A) (htc : aTc A ≤ 8) (h : HX 1 A σ) {post : hsS → Prop} (k : ∀ σ', FRm [384, 385, 386, 387, 388, 389, 390, 391] [7, 8, 9, 10] σ σ' → HX 6 A σ' → post σ') : wX1_takeFrom 6 1 post σ :=
  qx_takeFrom (Or.inl (by decide)) ha htc h (fun σ' h1 h2 h3 h4 => k σ' ⟨fun j hj => h1 j (fun q hq e => hj (by rw [e]; exact (by decide : ∀ q, q < 8 → 64 * 6 + q ∈ [384, 385, 386, 387, 388, 389, 390, 391]) q hq)), fun j hj => h2 j (fun q hq h9 e => hj (by rw [e]; exact (by decide : ∀ q, q < 5 → 1 ≤ q → 6 + q ∈ [7, 8, 9, 10]) q hq h9)), h3⟩ h4)
section Raw
variable {σ : hsS} {b p t : Nat}
theorem qx_placeRaw {post : Int32 → hsS → Prop} (h : 9 * p + t < 72) (k : post (σ.2.1 (b + 2) (9 * p + t)) σ) : wX1_placeOf b (nI p) (nI t) post σ := by
  refine ⟨pk_in (9 * p + t) 72 h (qi_9 p t), ?_⟩
  rw [pk_cl (9 * p + t) (qi_9 p t)]; exact k
theorem qx_putRaw {x : Int32} {post : hsS → Prop} (h : 9 * p + t < 72) (k : ∀ σ', σ' = hsA σ (b + 2) (upd (σ.2.1 (b + 2)) (9 * p + t) x) → post σ') : wX1_putPlace b (nI p) (nI t) x post σ := by
  refine ⟨pk_in (9 * p + t) 72 h (qi_9 p t), ?_⟩
  rw [pk_cl (9 * p + t) (qi_9 p t)]; exact k
theorem qx_groupRaw {m q : Nat} {f : Nat → Nat} (hm : m ≤ 9) (hp : p < 8) (e : σ.1 (64 * b + 0) = nI m) (hf : ∀ s, s < m → σ.2.1 (b + 2) (9 * p + s) = nI (f s) ∧ f s < 2 ^ 31) (hq : q < 2 ^ 31) {post : Int32 → hsS → Prop} (k : post (nI (gsO f m q)) σ) : wX1_groupSize b (nI p) (nI q) post σ := by
  have L : ∀ K : Int32 → Int32 → hsS → Prop, K (nI (gsO f m q)) (nI m) σ → ∃ n, wX1_groupSize_L5 b (nI p) (nI q) K post n 0 0 σ := fun K kk =>
    pk_loop (fun n j y => wX1_groupSize_L5 b (nI p) (nI q) K post n y (nI j) σ) (fun j y => y = nI (fb_ct (fun t => decide (f t = q)) j)) m 0 0 (Nat.zero_le _) rfl
      (fun n y e1 => by
        rw [wX1_groupSize_L5]
        exact br_t (by rw [e]; exact nI_le (Nat.le_refl _) (by omega)) (by rw [e1]; exact kk))
      (fun n j y hj e1 ih => by
        rw [wX1_groupSize_L5]
        refine br_f (by rw [e]; exact nI_ge hj (by omega)) (qx_placeRaw (by omega) ?_)
        rw [(hf j hj).1]
        refine pk_eq (f j) q (fun c => ?_) (fun c => ?_) rfl rfl (hf j hj).2 hq
        · refine nm_e (nm_e ?_)
          rw [e1, nI_1, nI_1]
          refine ih _ ?_
          rw [fb_ct_succ]; simp [c]
        · refine nm_e ?_
          rw [nI_1]
          refine ih _ ?_
          rw [fb_ct_succ]; simp [c]; exact e1)
  exact L _ k
end Raw
/-- places with a copy of t -/
def cpP (f : Nat → Nat) (m t k : Nat) : Nat := if k < m then (if f t < f k then f k + 1 else f k) else f t + gsO f m (f t)
def cpA (A : AH) (t : Nat) : AH := (fun k => if k = 0 then aM A + 1 else A.1 k, fun r k => if r < 3 then A.2 r k else cpP (A.2 r) (aM A) t k)
theorem cpA_P (A : AH) (t p k : Nat) : aP (cpA A t) p k = cpP (aP A p) (aM A) t k := by
  show (if p + 3 < 3 then A.2 (p + 3) k else cpP (A.2 (p + 3)) (aM A) t k) = cpP (A.2 (p + 3)) (aM A) t k
  exact if_neg (by omega)
theorem gw_lt {A : AH} {g : Nat → Nat → Nat} (hg : GW A g) {p s t : Nat} (hp : p < aN A) (hs : s < aM A) (ht : t < aM A) : g p s < g p t ↔ aP A p s < aP A p t := by
  rw [(hg p s hp hs).2, (hg p t hp ht).2]
  constructor
  · intro h
    have h1 := fb_ct_upd (fun k => decide (g p k < g p s)) true (i := s) (n := aM A) hs
    have h2 : fb_ct (fun k => if k = s then true else decide (g p k < g p s)) (aM A) ≤ fb_ct (fun k => decide (g p k < g p t)) (aM A) := fb_ct_sub (fun k hk hb => by
      rcases Nat.decEq k s with z | z
      · simp [z] at hb; simp; omega
      · subst z; simp; exact h)
    rw [if_neg (show ¬ decide (g p s < g p s) = true by simp), if_pos rfl] at h1
    omega
  · intro h
    apply Classical.byContradiction
    intro hc
    have : fb_ct (fun k => decide (g p k < g p t)) (aM A) ≤ fb_ct (fun k => decide (g p k < g p s)) (aM A) := fb_ct_sub (fun k hk hb => by
      simp at hb ⊢; omega)
    omega
theorem gw_eq {A : AH} {g : Nat → Nat → Nat} (hg : GW A g) {p s t : Nat} (hp : p < aN A) (hs : s < aM A) (ht : t < aM A) : g p s = g p t ↔ aP A p s = aP A p t := by
  have h1 := gw_lt hg hp hs ht; have h2 := gw_lt hg hp ht hs
  constructor
  · intro e; omega
  · intro e; omega
theorem gw_le {A : AH} {g : Nat → Nat → Nat} (hg : GW A g) {p t : Nat} (hp : p < aN A) (ht : t < aM A) : fb_ct (fun k => decide (g p k ≤ g p t)) (aM A) = aP A p t + gsO (aP A p) (aM A) (aP A p t) := by
  have h1 : fb_ct (fun k => decide (g p k < g p t) || decide (g p k = g p t)) (aM A) = fb_ct (fun k => decide (g p k < g p t)) (aM A) + fb_ct (fun k => decide (g p k = g p t)) (aM A) := fb_ct_or (fun k hk hb => by simp at hb; omega)
  have h2 : fb_ct (fun k => decide (g p k ≤ g p t)) (aM A) = fb_ct (fun k => decide (g p k < g p t) || decide (g p k = g p t)) (aM A) := fb_ct_cong (fun k hk => by
    rw [← Bool.decide_or]; apply decide_eq_decide.mpr; omega)
  have h3 : fb_ct (fun k => decide (g p k = g p t)) (aM A) = gsO (aP A p) (aM A) (aP A p t) := fb_ct_cong (fun k hk => decide_eq_decide.mpr (gw_eq hg hp hk ht))
  rw [h2, h1, h3, ← (hg p t hp ht).2]
theorem cpP_le {A : AH} {g : Nat → Nat → Nat} (ha : AW A) (hg : GW A g) {p t : Nat} (hp : p < aN A) (ht : t < aM A) (k : Nat) : cpP (aP A p) (aM A) t k < aM A + 1 := by
  unfold cpP
  split
  · rename_i c
    have := aw_p ha hp c
    split <;> omega
  · rw [← gw_le hg hp ht]
    have := fb_ct_le (fun k => decide (g p k ≤ g p t)) (aM A); omega
theorem cpA_aw {A : AH} {g : Nat → Nat → Nat} (ha : AW A) (hg : GW A g) {t : Nat} (ht : t < aM A) (hm : aM A < 9) : AW (cpA A t) := by
  obtain ⟨h1, h2, h3, h4, h5, h6, ⟨h7, h7b⟩, h8, h9, h10⟩ := ha
  refine ⟨⟨?_, ?_⟩, h2, h3, h4, h5, h6, ⟨?_, h7b⟩, h8, h9, fun p k hp hk => ?_⟩
  · show 2 ≤ aM A + 1; omega
  · show aM A + 1 ≤ 9; omega
  · show aNt A + 1 ≤ aM A + 1; omega
  · rw [cpA_P]; exact cpP_le ⟨h1, h2, h3, h4, h5, h6, ⟨h7, h7b⟩, h8, h9, h10⟩ hg hp ht k
theorem qx_putCopy {b : Nat} {A : AH} {g : Nat → Nat → Nat} {σ : hsS} (ha : AW A) (hg : GW A g) (h : HX b A σ) {t : Nat} (ht : t < aM A) (hm9 : aM A < 9) {post : hsS → Prop} (k : ∀ σ', FRm [64 * b + 0] [b + 2] σ σ' → HX b (cpA A t) σ' → post σ') : wX1_putCopy b (nI t) post σ := by
  have hn := aw_n ha; have hm := aw_m ha
  have hin : ∀ (w : Nat), w < aN A → ∀ (K : Int32 → hsS → Prop) (s1 : hsS), (FRm [] [b + 2] σ s1 ∧ (∀ p k, p < w → k < aM A + 1 → s1.2.1 (b + 2) (9 * p + k) = nI (cpP (aP A p) (aM A) t k)) ∧ (∀ p k, w ≤ p → p < aN A → k < aM A → s1.2.1 (b + 2) (9 * p + k) = nI (aP A p k))) → (∀ s2, FRm [] [b + 2] σ s2 → (∀ p k, p < w → k < aM A + 1 → s2.2.1 (b + 2) (9 * p + k) = nI (cpP (aP A p) (aM A) t k)) → (∀ k, k < aM A → s2.2.1 (b + 2) (9 * w + k) = nI (cpP (aP A w) (aM A) t k)) → (∀ p k, w < p → p < aN A → k < aM A → s2.2.1 (b + 2) (9 * p + k) = nI (aP A p k)) → ∀ z, K z s2) → ∃ n, wX1_putCopy_L30 b (nI t) (nI w) (nI (aP A w t)) (nI (aP A w t + gsO (aP A w) (aM A) (aP A w t))) K post n 0 s1 := fun w hw K s1 f1 kk =>
    pk_loop (fun n j (s : hsS) => wX1_putCopy_L30 b (nI t) (nI w) (nI (aP A w t)) (nI (aP A w t + gsO (aP A w) (aM A) (aP A w t))) K post n (nI j) s) (fun j s => FRm [] [b + 2] σ s ∧ (∀ p k, p < w → k < aM A + 1 → s.2.1 (b + 2) (9 * p + k) = nI (cpP (aP A p) (aM A) t k)) ∧ (∀ k, k < j → s.2.1 (b + 2) (9 * w + k) = nI (cpP (aP A w) (aM A) t k)) ∧ (∀ k, j ≤ k → k < aM A → s.2.1 (b + 2) (9 * w + k) = nI (aP A w k)) ∧ (∀ p k, w < p → p < aN A → k < aM A → s.2.1 (b + 2) (9 * p + k) = nI (aP A p k))) (aM A) 0 s1 (Nat.zero_le _) ⟨f1.1, f1.2.1, fun k hk => absurd hk (Nat.not_lt_zero _), fun k _ hk => f1.2.2 w k (Nat.le_refl _) hw hk, fun p k h1 h2 h3 => f1.2.2 p k (by omega) h2 h3⟩
      (fun n s e => by
        obtain ⟨e1, e2, e3, e4, e5⟩ := e
        rw [wX1_putCopy_L30]
        have e64 : s.1 (64 * b + 0) = nI (aM A) := by rw [e1.1 _ (by simp)]; exact hx_m h
        exact br_t (by rw [e64]; exact nI_le (Nat.le_refl _) (by omega)) (kk s e1 e2 e3 e5 _))
      (fun n j s hj e ih => by
        obtain ⟨e1, e2, e3, e4, e5⟩ := e
        rw [wX1_putCopy_L30]
        have e64 : s.1 (64 * b + 0) = nI (aM A) := by rw [e1.1 _ (by simp)]; exact hx_m h
        have h1 := aw_p ha hw ht; have h2 := aw_p ha hw hj
        refine br_f (by rw [e64]; exact nI_ge hj (by omega)) (qx_placeRaw (by omega) ?_)
        rw [e4 j (Nat.le_refl _) hj]
        refine pk_le (aP A w j) (aP A w t) (fun c => ?_) (fun c => ?_)
        · refine nm_e ?_
          rw [nI_1]
          refine ih s ⟨e1, e2, fun k hk => ?_, fun k h3 h4 => e4 k (by omega) h4, e5⟩
          rcases Nat.lt_or_ge k j with z | z
          · exact e3 k z
          · have : k = j := by omega
            subst this
            rw [e4 k (Nat.le_refl _) hj]; unfold cpP; rw [if_pos hj, if_neg (by omega)]
        · refine qx_placeRaw (by omega) ?_
          rw [e4 j (Nat.le_refl _) hj]
          refine qx_putRaw (by omega) (fun S hS => nm_e ?_)
          rw [nI_1]
          have hat : S.2.1 (b + 2) = upd (s.2.1 (b + 2)) (9 * w + j) (nI (aP A w j) + 1) := by rw [hS, hsA_at]
          refine ih S ⟨by rw [hS]; exact e1.trans (FRm.arr _ (by simp)), fun p k hp hk => ?_, fun k hk => ?_, fun k h3 h4 => ?_, fun p k h3 h4 h5 => ?_⟩
          · rw [hat, pk_un (by omega)]; exact e2 p k hp hk
          · rw [hat]
            rcases Nat.lt_or_ge k j with z | z
            · rw [pk_un (by omega)]; exact e3 k z
            · have : k = j := by omega
              subst this
              rw [pk_us, nI_1]; unfold cpP; rw [if_pos hj, if_pos c]
          · rw [hat, pk_un (by omega)]; exact e4 k (by omega) h4
          · rw [hat, pk_un (by omega)]; exact e5 p k h3 h4 h5)
  refine pk_loop (fun n j (s : hsS) => wX1_putCopy_L2 b (nI t) _ post n (nI j) s) (fun w s => FRm [] [b + 2] σ s ∧ (∀ p k, p < w → k < aM A + 1 → s.2.1 (b + 2) (9 * p + k) = nI (cpP (aP A p) (aM A) t k)) ∧ (∀ p k, w ≤ p → p < aN A → k < aM A → s.2.1 (b + 2) (9 * p + k) = nI (aP A p k))) (aN A) 0 σ (Nat.zero_le _) ⟨FRm.rf, fun p k hp => absurd hp (Nat.not_lt_zero _), fun p k _ hp hk => hx_p h hp hk⟩ ?_ ?_
  · intro n s e
    obtain ⟨e1, e2, e3⟩ := e
    rw [wX1_putCopy_L2]
    have e65 : s.1 (64 * b + 1) = nI (aN A) := by rw [e1.1 _ (by simp)]; exact hx_n h
    have e64 : s.1 (64 * b + 0) = nI (aM A) := by rw [e1.1 _ (by simp)]; exact hx_m h
    refine br_t (by rw [e65]; exact nI_le (Nat.le_refl _) (by omega)) (fun S hS => ?_)
    have hF : FRm [64 * b + 0] [b + 2] σ S := by rw [hS]; exact (e1.weak (by simp) (by simp)).trans (FRm.int _ (by simp))
    have hA : S.2.1 = s.2.1 := by rw [hS]; rfl
    refine k S hF ⟨fun q hq => ?_, fun p hp => ?_, fun p q hp hq => ?_, fun q hq => ?_, fun q hq => ?_⟩
    · show _ = nI (if q = 0 then aM A + 1 else A.1 q)
      rcases Nat.decEq q 0 with z | z
      · rw [if_neg z, hF.1 _ (by simp; omega)]; exact h.1 q hq
      · subst z; rw [if_pos rfl, hS, hsI_at, e64, nI_1]
    · rw [hF.2.1 _ (by simp)]; exact hx_w h hp
    · rw [hA, cpA_P]; exact e2 p q hp hq
    · rw [hF.2.1 _ (by simp)]; exact hx_t h hq
    · rw [hF.2.1 _ (by simp)]; exact hx_u h hq
  · intro n w s hw e ih
    obtain ⟨e1, e2, e3⟩ := e
    rw [wX1_putCopy_L2]
    have e65 : s.1 (64 * b + 1) = nI (aN A) := by rw [e1.1 _ (by simp)]; exact hx_n h
    have e64 : s.1 (64 * b + 0) = nI (aM A) := by rw [e1.1 _ (by simp)]; exact hx_m h
    have hpt := aw_p ha hw ht
    refine br_f (by rw [e65]; exact nI_ge hw (by omega)) (qx_placeRaw (by omega) ?_)
    rw [e3 w t (Nat.le_refl _) hw ht]
    refine qx_groupRaw (f := aP A w) (m := aM A) (by omega) (by omega) e64 (fun q hq => ⟨e3 w q (Nat.le_refl _) hw hq, by have := aw_p ha hw hq; omega⟩) (by omega) (nm_r (nI_add _ _) (hin w hw _ s ⟨e1, e2, e3⟩ (fun s2 f1 f2 f3 f4 z => ?_)))
    have f64 : s2.1 (64 * b + 0) = nI (aM A) := by rw [f1.1 _ (by simp)]; exact hx_m h
    rw [f64]
    refine qx_putRaw (by omega) (fun S hS => nm_e ?_)
    rw [nI_1]
    have hat : S.2.1 (b + 2) = upd (s2.2.1 (b + 2)) (9 * w + aM A) (nI (aP A w t + gsO (aP A w) (aM A) (aP A w t))) := by rw [hS, hsA_at]
    refine ih S ⟨by rw [hS]; exact f1.trans (FRm.arr _ (by simp)), fun p q hp hq => ?_, fun p q h1 h2 h3 => ?_⟩
    · rw [hat]
      rcases Nat.lt_or_ge p w with y | y
      · rw [pk_un (by omega)]; exact f2 p q y hq
      · have : p = w := by omega
        subst this
        rcases Nat.lt_or_ge q (aM A) with y2 | y2
        · rw [pk_un (by omega)]; exact f3 q y2
        · have : q = aM A := by omega
          subst this
          rw [pk_us]; unfold cpP; rw [if_neg (by omega)]
    · rw [hat, pk_un (by omega)]; exact f4 p q (by omega) h2 h3
