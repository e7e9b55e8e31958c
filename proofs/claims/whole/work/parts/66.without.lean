/-! ===== calls: without ===== -/
theorem qs_mk_cong {f f' : Nat → Bool} : ∀ {n : Nat}, (∀ k, k < n → f k = f' k) → qs_mk f n = qs_mk f' n
  | 0, _ => rfl
  | n + 1, h => by rw [qs_mk_succ, qs_mk_succ, qs_mk_cong (fun k hk => h k (by omega)), h n (by omega)]
theorem fb_sm_del (f : Nat → Nat) {p : Nat} : ∀ n, p ≤ n → fb_sm f (n + 1) = fb_sm (fun i => if i < p then f i else f (i + 1)) n + f p
  | 0, h => by
    have : p = 0 := by omega
    subst this; rfl
  | n + 1, h => by
    rcases Nat.decEq p (n + 1) with z | z
    · have ih := fb_sm_del f n (p := p) (by omega)
      rw [fb_sm_succ, ih, fb_sm_succ (fun i => if i < p then f i else f (i + 1)) n, if_neg (by omega)]
      omega
    · subst z
      rw [fb_sm_succ]
      have : fb_sm (fun i => if i < n + 1 then f i else f (i + 1)) (n + 1) = fb_sm f (n + 1) := fb_sm_cong (fun k hk => if_pos hk)
      rw [this]
theorem fb_ct_sm (q : Nat → Bool) : ∀ n, fb_ct q n = fb_sm (fun k => if q k = true then 1 else 0) n
  | 0 => rfl
  | n + 1 => by rw [fb_ct_succ, fb_sm_succ, fb_ct_sm q n]
theorem nI_qb (x : Int32) : nI (qb_N x) = x := by
  obtain ⟨n, hn, rfl⟩ := wb_of32 x
  rw [qb_N_nI hn]
def drA (A : AH) (p : Nat) : AH := (fun k => if k = 1 then aN A - 1 else if k = 2 then aAW A - aW A p else A.1 k, fun r k => if r = 0 then (if k < p then aW A k else aW A (k + 1)) else if r < 3 then A.2 r k else if r < p + 3 then A.2 r k else A.2 (r + 1) k)
theorem drA_P (A : AH) (p q t : Nat) : aP (drA A p) q t = if q < p then aP A q t else aP A (q + 1) t := by
  show (if q + 3 = 0 then (if t < p then aW A t else aW A (t + 1)) else if q + 3 < 3 then A.2 (q + 3) t else if q + 3 < p + 3 then A.2 (q + 3) t else A.2 (q + 3 + 1) t) = if q < p then A.2 (q + 3) t else A.2 (q + 1 + 3) t
  rw [if_neg (by omega), if_neg (by omega)]
  rcases Nat.lt_or_ge q p with z | z
  · rw [if_pos (by omega), if_pos z]
  · rw [if_neg (by omega), if_neg (by omega)]
theorem drA_W (A : AH) (p q : Nat) : aW (drA A p) q = if q < p then aW A q else aW A (q + 1) := rfl
theorem dr_sum {A : AH} (ha : AW A) {p : Nat} (hp : p < aN A) : aAW A = fb_sm (aW (drA A p)) (aN A - 1) + aW A p := by
  have e := fb_sm_del (aW A) (p := p) (aN A - 1) (by omega)
  rw [show aN A - 1 + 1 = aN A by omega] at e
  rw [aw_aw ha, e]; rfl
/-- turns and names stay those of all: the core asks for neither -/
theorem drA_awc {A : AH} (ha : AW A) {p : Nat} (hp : p < aN A) : AWc (drA A p) := by
  have hn := aw_n ha; have hs := dr_sum ha hp
  refine ⟨(aw_m ha : 2 ≤ aM A ∧ aM A ≤ 9), ?_, ?_, (aw_law ha : aLaw A ≤ 2), (aw_step ha : aLaw A = 1 → 1 ≤ aStep A ∧ aStep A ≤ 999), (aw_told ha : aLaw A = 2 → 1 ≤ aTc A ∧ aTc A ≤ 8 ∧ ∀ k, k < aTc A → aT A k ≤ 9), fun q hq => ?_, fun q t hq ht => ?_⟩
  · show aN A - 1 ≤ 8; omega
  · show aAW A - aW A p = fb_sm (aW (drA A p)) (aN A - 1); omega
  · have hq : q < aN A - 1 := hq
    rw [drA_W]
    split
    · exact aw_w ha (by omega)
    · exact aw_w ha (by omega)
  · have hq : q < aN A - 1 := hq
    rw [drA_P]
    split
    · exact aw_p ha (by omega) ht
    · exact aw_p ha (by omega) ht
theorem qx_dropPerson {b : Nat} {A : AH} {σ : hsS} (ha : AW A) (h : HX b A σ) {p : Nat} (hp : p < aN A) {post : hsS → Prop} (k : ∀ σ', FRm [64 * b + 1, 64 * b + 2] [b + 1, b + 2] σ σ' → HX b (drA A p) σ' → post σ') : wX1_dropPerson b (nI p) post σ := by
  have hn := aw_n ha; have hm := aw_m ha; have hs := dr_sum ha hp
  refine ⟨pk_in p 8 (by omega), fun s1 e1 s2 e2 => ?_⟩
  rw [nI_clamp (by omega), hx_aw h, hx_w h hp, pk_sub (by omega)] at e1
  have f2 : FRm [64 * b + 1, 64 * b + 2] [b + 1, b + 2] σ s2 := by
    rw [e2, e1]
    exact (FRm.int _ (by simp)).trans (FRm.int _ (by simp))
  have hA2 : s2.2 = σ.2 := by rw [e2, e1]; rfl
  have c2 : s2.1 (64 * b + 2) = nI (aAW A - aW A p) := by rw [e2, hsI_ne _ _ (by omega), e1, hsI_at]
  have c1 : s2.1 (64 * b + 1) = nI (aN A - 1) := by
    rw [e2, hsI_at, e1, hsI_ne _ _ (by omega), hx_n h]
    exact pk_sub (a := aN A) (b := 1) (by omega)
  have c0 : s2.1 (64 * b + 0) = nI (aM A) := by rw [f2.1 _ (by simp)]; exact hx_m h
  have hin : ∀ (w : Nat), w + 1 < aN A → ∀ (K : Int32 → hsS → Prop) (s5 : hsS), s5.1 (64 * b + 0) = nI (aM A) → (∀ t, t < aM A → s5.2.1 (b + 2) (9 * (w + 1) + t) = nI (aP A (w + 1) t)) → (∀ s6, FRm [] [b + 2] s5 s6 → (∀ x, (x < 9 * w ∨ 9 * w + 9 ≤ x) → s6.2.1 (b + 2) x = s5.2.1 (b + 2) x) → (∀ t, t < aM A → s6.2.1 (b + 2) (9 * w + t) = nI (aP A (w + 1) t)) → ∀ z, K z s6) → ∃ n, wX1_dropPerson_L51 b (nI p) (nI w) K post n 0 s5 := fun w hw K s5 h5 h6 kk =>
    pk_loop (fun n j (s : hsS) => wX1_dropPerson_L51 b (nI p) (nI w) K post n (nI j) s) (fun j s => FRm [] [b + 2] s5 s ∧ (∀ x, (x < 9 * w ∨ 9 * w + 9 ≤ x) → s.2.1 (b + 2) x = s5.2.1 (b + 2) x) ∧ ∀ t, t < j → s.2.1 (b + 2) (9 * w + t) = nI (aP A (w + 1) t)) (aM A) 0 s5 (Nat.zero_le _) ⟨FRm.rf, fun _ _ => rfl, fun t ht => absurd ht (Nat.not_lt_zero _)⟩
      (fun n s e => by
        rw [wX1_dropPerson_L51]
        exact br_t (by rw [e.1.1 _ (by simp), h5]; exact nI_le (Nat.le_refl _) (by omega)) (kk s e.1 e.2.1 e.2.2 _))
      (fun n j s hj e ih => by
        obtain ⟨d1, d2, d3⟩ := e
        rw [wX1_dropPerson_L51]
        refine br_f (by rw [d1.1 _ (by simp), h5]; exact nI_ge hj (by omega)) ?_
        rw [nI_1]
        refine qx_placeRaw (by omega) ?_
        rw [d2 _ (by omega), h6 j hj]
        refine qx_putRaw (by omega) (fun S hS => nm_e ?_)
        rw [nI_1]
        have hat : S.2.1 (b + 2) = upd (s.2.1 (b + 2)) (9 * w + j) (nI (aP A (w + 1) j)) := by rw [hS, hsA_at]
        refine ih S ⟨by rw [hS]; exact d1.trans (FRm.arr _ (by simp)), fun x hx => ?_, fun t ht => ?_⟩
        · rw [hat, pk_un (by omega)]; exact d2 x hx
        · rw [hat]
          rcases Nat.decEq t j with z | z
          · rw [pk_un (by omega)]; exact d3 t (by omega)
          · subst z; exact pk_us)
  refine pk_loop (fun n j (s : hsS) => wX1_dropPerson_L27 b (nI p) _ post n (nI j) s) (fun w s => p ≤ w ∧ FRm [] [b + 1, b + 2] s2 s ∧ (∀ q, q < w → s.2.1 (b + 1) q = nI (aW (drA A p) q)) ∧ (∀ q, w ≤ q → q < aN A → s.2.1 (b + 1) q = nI (aW A q)) ∧ (∀ q t, q < w → t < aM A → s.2.1 (b + 2) (9 * q + t) = nI (aP (drA A p) q t)) ∧ (∀ q t, w ≤ q → q < aN A → t < aM A → s.2.1 (b + 2) (9 * q + t) = nI (aP A q t))) (aN A - 1) p s2 (by omega) ⟨Nat.le_refl _, FRm.rf, fun q hq => ?_, fun q _ hq => ?_, fun q t hq ht => ?_, fun q t _ hq ht => ?_⟩ ?_ ?_
  · rw [hA2, drA_W, if_pos hq]; exact hx_w h (by omega)
  · rw [hA2]; exact hx_w h hq
  · rw [hA2, drA_P, if_pos hq]; exact hx_p h (by omega) ht
  · rw [hA2]; exact hx_p h hq ht
  · intro n s e
    obtain ⟨_, d1, d2, _, d4, _⟩ := e
    rw [wX1_dropPerson_L27]
    have F := f2.trans (d1.weak (by simp) (by simp))
    refine br_t (by rw [d1.1 _ (by simp), c1]; exact nI_le (Nat.le_refl _) (by omega)) (k s F ⟨fun q hq => ?_, fun q hq => d2 q hq, fun q t hq ht => d4 q t hq ht, fun q hq => ?_, fun q hq => ?_⟩)
    · rw [d1.1 _ (by simp)]
      show _ = nI (if q = 1 then aN A - 1 else if q = 2 then aAW A - aW A p else A.1 q)
      rcases Nat.decEq q 1 with z1 | z1
      · rw [if_neg z1]
        rcases Nat.decEq q 2 with z2 | z2
        · rw [if_neg z2, f2.1 _ (by simp; omega)]; exact h.1 q hq
        · rw [if_pos z2, z2]; exact c2
      · rw [if_pos z1, z1]; exact c1
    · rw [F.2.1 _ (by simp)]; exact hx_t h hq
    · rw [F.2.1 _ (by simp)]; exact hx_u h hq
  · intro n w s hw e ih
    obtain ⟨d0, d1, d2, d3, d4, d5⟩ := e
    rw [wX1_dropPerson_L27]
    refine br_f (by rw [d1.1 _ (by simp), c1]; exact nI_ge hw (by omega)) ?_
    rw [nI_1]
    refine ⟨pk_in (w + 1) 8 (by omega), pk_in w 8 (by omega), fun s5 h5 => ?_⟩
    rw [nI_clamp (by omega), nI_clamp (by omega), d3 (w + 1) (by omega) (by omega)] at h5
    have a1 : s5.2.1 (b + 1) = upd (s.2.1 (b + 1)) w (nI (aW A (w + 1))) := by rw [h5, hsA_at]
    have a2 : s5.2.1 (b + 2) = s.2.1 (b + 2) := by rw [h5, hsA_ne _ _ (by omega)]
    have f5 : FRm [] [b + 1, b + 2] s2 s5 := by rw [h5]; exact d1.trans (FRm.arr _ (by simp))
    refine hin w (by omega) _ s5 (by rw [f5.1 _ (by simp)]; exact c0) (fun t ht => by rw [a2]; exact d5 (w + 1) t (by omega) (by omega) ht) (fun s6 g1 g2 g3 z => nm_e ?_)
    refine ih s6 ⟨by omega, f5.trans (g1.weak (by simp) (by simp)), fun q hq => ?_, fun q h1 h2 => ?_, fun q t hq ht => ?_, fun q t h1 h2 ht => ?_⟩
    · rw [g1.2.1 _ (by simp), a1]
      rcases Nat.decEq q w with z | z
      · rw [pk_un z]; exact d2 q (by omega)
      · subst z; rw [pk_us, drA_W, if_neg (by omega)]
    · rw [g1.2.1 _ (by simp), a1, pk_un (by omega)]; exact d3 q (by omega) h2
    · rcases Nat.decEq q w with z | z
      · rw [g2 _ (by omega), a2]; exact d4 q t (by omega) ht
      · subst z; rw [g3 t ht, drA_P, if_neg (by omega)]
    · rw [g2 _ (by omega), a2]; exact d5 q t (by omega) h2 ht
/-- a set of the others, in the numbers of all -/
def insO (p s : Nat) : Nat := qs_mk (fun i => if i < p then s.testBit i else if i = p then false else s.testBit (i - 1)) 12
def delO (p s : Nat) : Nat := qs_mk (fun i => if i < p then s.testBit i else s.testBit (i + 1)) 11
section Ins
variable {p s n : Nat}
theorem ins_lo {i : Nat} (h : i < p) (h2 : i < 12) : (insO p s).testBit i = s.testBit i := by
  unfold insO; rw [qs_mk_bit, if_pos h]; simp [h2]
theorem ins_at : (insO p s).testBit p = false := by
  unfold insO; rw [qs_mk_bit, if_neg (by omega), if_pos rfl]; simp
theorem ins_hi {i : Nat} (h : p ≤ i) (h2 : i + 1 < 12) : (insO p s).testBit (i + 1) = s.testBit i := by
  unfold insO; rw [qs_mk_bit, if_neg (by omega), if_neg (by omega)]; simp [h2]
theorem ins_lt (hp : p < n) (hn : n ≤ 8) (hs : s < 2 ^ (n - 1)) : insO p s < 2 ^ n := qs_lt (fun i hi => by
  rcases Nat.lt_or_ge i 12 with z | z
  · have := ins_hi (p := p) (s := s) (i := i - 1) (by omega) (by omega)
    rw [show i - 1 + 1 = i by omega] at this
    rw [this]; exact qs_hi hs (by omega)
  · exact qs_hi (qs_mk_lt _ 12) z)
theorem ins_del (hp : p < n) (hn : n ≤ 8) (hs : s < 2 ^ n) (h : s.testBit p = false) : delO p s < 2 ^ (n - 1) ∧ insO p (delO p s) = s := by
  have hb : ∀ i, i < 11 → (delO p s).testBit i = if i < p then s.testBit i else s.testBit (i + 1) := fun i hi => by
    unfold delO; rw [qs_mk_bit]; simp [hi]
  have hlt : delO p s < 2 ^ (n - 1) := qs_lt (fun i hi => by
    rcases Nat.lt_or_ge i 11 with z | z
    · rw [hb i z, if_neg (by omega)]; exact qs_hi hs (by omega)
    · exact qs_hi (qs_mk_lt _ 11) z)
  refine ⟨hlt, qs_ext (n := 12) (qs_mk_lt _ 12) (Nat.lt_of_lt_of_le hs (Nat.pow_le_pow_right (by decide) (by omega))) (fun i hi => ?_)⟩
  rcases Nat.lt_trichotomy i p with z | z | z
  · rw [ins_lo z hi, hb i (by omega), if_pos z]
  · subst z; rw [ins_at, h]
  · have := ins_hi (p := p) (s := delO p s) (i := i - 1) (by omega) (by omega)
    rw [show i - 1 + 1 = i by omega] at this
    rw [this, hb (i - 1) (by omega), if_neg (by omega), show i - 1 + 1 = i by omega]
theorem ins_sz (hp : p < n) (hn : n ≤ 8) (hs : s < 2 ^ (n - 1)) : qs_sz (insO p s) = qs_sz s := by
  unfold qs_sz
  rw [fb_ct_sm, fb_sm_del _ (p := p) 11 (by omega), ins_at, fb_ct_sm, fb_sm_succ (fun k => if s.testBit k = true then 1 else 0) 11]
  have h11 : s.testBit 11 = false := qs_hi hs (by omega)
  rw [h11]
  have : fb_sm (fun i => if i < p then (if (insO p s).testBit i = true then 1 else 0) else (if (insO p s).testBit (i + 1) = true then 1 else 0)) 11 = fb_sm (fun k => if s.testBit k = true then 1 else 0) 11 := fb_sm_cong (fun i hi => by
    rcases Nat.lt_or_ge i p with z | z
    · rw [if_pos z, ins_lo z (by omega)]
    · rw [if_neg (by omega), ins_hi z (by omega)])
  rw [this]
end Ins
theorem dr_wt {A : AH} (ha : AW A) {p s : Nat} (hp : p < aN A) : aWt (drA A p) s (aN A - 1) = aWt A (insO p s) (aN A) := by
  have hn := aw_n ha
  have e := fb_sm_del (fun q => if (insO p s).testBit q = true then aW A q else 0) (p := p) (aN A - 1) (by omega)
  rw [show aN A - 1 + 1 = aN A by omega, ins_at] at e
  unfold aWt
  rw [e]
  show _ = _ + 0
  rw [Nat.add_zero]
  refine fb_sm_cong (fun i hi => ?_)
  rw [drA_W]
  rcases Nat.lt_or_ge i p with z | z
  · rw [if_pos z, if_pos z, ins_lo z (by omega)]
  · rw [if_neg (show ¬ i < p by omega), if_neg (show ¬ i < p by omega), ins_hi z (by omega)]
theorem dr_u {A : AH} (ha : AW A) {p : Nat} (hp : p < aN A) : aWt A (qs_cl (2 ^ aN A - 1) p) (aN A) = aAW A - aW A p := by
  have hn := aw_n ha; have hs := dr_sum ha hp
  have e := fb_sm_del (fun q => if (qs_cl (2 ^ aN A - 1) p).testBit q = true then aW A q else 0) (p := p) (aN A - 1) (by omega)
  rw [show aN A - 1 + 1 = aN A by omega] at e
  unfold aWt
  rw [e]
  have e2 : fb_sm (fun i => if i < p then (if (qs_cl (2 ^ aN A - 1) p).testBit i = true then aW A i else 0) else (if (qs_cl (2 ^ aN A - 1) p).testBit (i + 1) = true then aW A (i + 1) else 0)) (aN A - 1) = fb_sm (aW (drA A p)) (aN A - 1) := fb_sm_cong (fun i hi => by
    rw [drA_W]
    rcases Nat.lt_or_ge i p with z | z
    · rw [if_pos z, if_pos z, qs_cl_bit, qs_full, if_pos (by simp; omega)]
    · rw [if_neg (show ¬ i < p by omega), if_neg (show ¬ i < p by omega), qs_cl_bit, qs_full, if_pos (by simp; omega)])
  rw [e2, qs_cl_bit]
  simp
  omega
theorem dr_hit {A : AH} (ha : AW A) {p t s : Nat} (hp : p < aN A) (hs : s < 2 ^ (aN A - 1)) : hitO (aP (drA A p)) (aM A) (aN A - 1) (aMay (drA A p) (aM A) (aAW A - aW A p)) t s = hitO (aP A) (aM A) (aN A) (aMay A (aM A) (aWt A (qs_cl (2 ^ aN A - 1) p) (aN A))) t (insO p s) := by
  have hn := aw_n ha
  have e0 : s = 0 ↔ insO p s = 0 := by
    have h1 := qs_pos (s := s) (Nat.lt_of_lt_of_le hs (Nat.pow_le_pow_right (by decide) (by omega)))
    have h2 := qs_pos (s := insO p s) (qs_mk_lt _ 12)
    rw [ins_sz hp hn hs] at h2
    constructor
    · intro e; exact Classical.byContradiction (fun c => absurd e (h1.mp (h2.mpr c)))
    · intro e; exact Classical.byContradiction (fun c => absurd e (h2.mp (h1.mpr c)))
  have e1 : kpO (aP (drA A p)) (aM A) s t (aN A - 1) = kpO (aP A) (aM A) (insO p s) t (aN A) := kpO_ext (fun k hk => by
    constructor
    · intro hj j hjn hb
      rcases Nat.lt_trichotomy j p with z | z | z
      · have := hj j (by omega) (by rw [← ins_lo (p := p) z (by omega)]; exact hb)
        rw [drA_P, drA_P, if_pos z, if_pos z] at this; exact this
      · subst z; rw [ins_at] at hb; exact absurd hb (by decide)
      · have hb2 := ins_hi (p := p) (s := s) (i := j - 1) (by omega) (by omega)
        rw [show j - 1 + 1 = j by omega, hb] at hb2
        have := hj (j - 1) (by omega) hb2.symm
        rw [drA_P, drA_P, if_neg (by omega), if_neg (by omega), show j - 1 + 1 = j by omega] at this; exact this
    · intro hj j hjn hb
      rw [drA_P, drA_P]
      rcases Nat.lt_or_ge j p with z | z
      · rw [if_pos z, if_pos z]; exact hj j (by omega) (by rw [ins_lo z (by omega)]; exact hb)
      · rw [if_neg (by omega), if_neg (by omega)]; exact hj (j + 1) (by omega) (by rw [ins_hi z (by omega)]; exact hb))
  have e2 : aMay (drA A p) (aM A) (aAW A - aW A p) s = aMay A (aM A) (aWt A (qs_cl (2 ^ aN A - 1) p) (aN A)) (insO p s) := by
    have g : aGv (drA A p) (aM A) (aAW A - aW A p) s = aGv A (aM A) (aWt A (qs_cl (2 ^ aN A - 1) p) (aN A)) (insO p s) := by
      rw [dr_u ha hp]
      unfold aGv
      rw [ins_sz hp hn hs, ← dr_wt ha hp]; rfl
    unfold aMay
    rw [g]
    rcases Nat.decEq s 0 with z | z
    · rw [if_neg z, if_neg (fun c => z (e0.mpr c))]
    · rw [if_pos z, if_pos (e0.mp z)]
  unfold hitO
  rw [e1, e2]
  congr 1
  exact decide_eq_decide.mpr (not_congr e0)
theorem co_drop {A : AH} (ha : AW A) {p : Nat} (hp : p < aN A) : coA (drA A p) = coM (aP A) (aM A) (aN A) (qs_cl (2 ^ aN A - 1) p) (aMay A (aM A) (aWt A (qs_cl (2 ^ aN A - 1) p) (aN A))) := by
  have hn := aw_n ha
  show qs_mk (fun t => decide (∀ s, s < 2 ^ (aN A - 1) → hitO (aP (drA A p)) (aM A) (aN A - 1) (aMay (drA A p) (aM A) (aAW A - aW A p)) t s = false)) (aM A) = _
  unfold coM
  refine qs_mk_cong (fun t ht => decide_eq_decide.mpr ⟨fun H s hs hsu => ?_, fun H s hs => ?_⟩)
  · have hb : s.testBit p = false := by
      have h1 := subO_iff.mp hsu
      cases e : s.testBit p with
      | false => rfl
      | true => have := h1 p e; rw [qs_cl_bit] at this; simp at this
    obtain ⟨d1, d2⟩ := ins_del hp hn hs hb
    have := H _ d1
    rw [dr_hit ha hp d1, d2] at this; exact this
  · rw [dr_hit ha hp hs]
    refine H _ (ins_lt hp hn hs) (subO_iff.mpr (fun q hq => ?_))
    rw [qs_cl_bit, qs_full]
    have h1 : q < aN A := by
      rcases Nat.lt_or_ge q (aN A) with z | z
      · exact z
      · rw [qs_hi (ins_lt hp hn hs) z] at hq; exact absurd hq (by decide)
    have h2 : q ≠ p := fun e => by rw [e, ins_at] at hq; exact absurd hq (by decide)
    simp [h1, h2]
section OpK
variable {A : AH} {g : Nat → Nat → Nat} {v i : Nat} {σx σm : hsS}
theorem op_24 (f : Nat → Int64) (a1 : Int32) (h : RR i σx σm) : lo_24 f a1 (RR (i + 6)) σx σm := by
  obtain ⟨A, g, v, h⟩ := h
  unfold lo_24 wX7_without
  have ha := rb_aw h; have hn := aw_n ha; have hm := aw_m ha; have hx := rb_hx h; have hg := rb_gw h
  rcases ix_of a1 (n := aN A) (by omega) with z | ⟨p, hp, rfl⟩
  · refine qx_personNo (rb_x65 h) z (fun S hS => ?_)
    obtain ⟨h1, h2⟩ := m0 hS
    exact qm_oneNo (mh_n ((rb_mh h).fr h1 (by decide))) (by omega) z (br_t rfl (qm_fail h1 (fun S' g1 g2 => thr_ok g2 ⟨rfl, fun e => absurd e (by decide), h.m g1⟩)))
  · refine qx_person (rb_x65 h) (by omega) hp (qx_takeSpare ha (rb_tc h) hx (fun s1 f1 x1 => qx_dropPerson ha x1 hp (fun s2 f2 x2 => qx_coreOf_c (drA_awc ha hp) x2 (by decide) (fun s3 f3 => ?_))))
    have hX : RB A g v i s3 σm := h.frx (((f1.weak (by decide) (by decide)).trans (f2.weak (by decide) (by decide))).trans (f3.weak (by decide) (by decide)))
    intro S hS
    obtain ⟨h1, h2⟩ := m0 hS
    have hM := (rb_mh h).fr h1 (by decide)
    refine qm_one (mh_n hM) (by omega) hp (br_f (by decide) (qm_look ha hg hM (fun S2 g1 g2 => ?_)))
    have hM2 := hM.fr g1 (by decide)
    have hF := h1.f0.trans (g1.weak (by decide) (by decide))
    have hpp := Nat.two_pow_pos (aN A)
    refine qm_everybody ha hM2 ?_
    rw [qb_cl _ (by omega)]
    refine qm_coreOf ha hM2 ((rb_mm h).fr hF (by decide) (by decide) (by decide) (by decide) (by decide)) g2 (by omega) (by have := qs_cl_le (2 ^ aN A - 1) p; omega) (fun S3 u1 u2 u3 => ?_)
    rw [← co_drop ha hp]
    exact thr_ok (by rw [u1.1 0 (by decide), g1.1 0 (by decide)]; exact h2) ⟨rfl, fun _ => rfl, hX.mc ((hF.weak (by decide) (by decide)).trans (u1.weak (by decide) (by decide))) (by rw [u2, hF.1 12 (by decide)]) u3⟩
end OpK
