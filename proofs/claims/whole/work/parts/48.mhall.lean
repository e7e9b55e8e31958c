/-! ===== the reference's hall ===== -/
def MH (A : AH) (g : Nat → Nat → Nat) (σ : hsS) : Prop := σ.2.1 1 (0 : Int32).toNatClampNeg = nI (aM A) ∧ σ.2.1 2 (0 : Int32).toNatClampNeg = nI (aN A) ∧ σ.2.1 3 (0 : Int32).toNatClampNeg = nI (aLaw A) ∧ (aLaw A = 1 → σ.2.1 4 (0 : Int32).toNatClampNeg = nI (aStep A)) ∧ (aLaw A = 2 → σ.2.1 5 (0 : Int32).toNatClampNeg = nI (aTc A)) ∧ σ.2.1 6 (0 : Int32).toNatClampNeg = nI (aNt A) ∧ (∀ p, p < aN A → σ.2.1 7 p = nI (aW A p)) ∧ (∀ p t, p < aN A → t < aM A → σ.2.1 8 (10 * p + t) = nI (g p t)) ∧ (aLaw A = 2 → ∀ k, k < aTc A → σ.2.1 9 k = nI (aT A k)) ∧ (∀ k, k < aNt A → σ.2.1 10 k = nI (aU A k)) ∧ (∀ p, p < aN A → σ.2.1 11 p = nI (if (aNm A).testBit p = true then 1 else 0))
/-- the groups behind the places -/
def GW (A : AH) (g : Nat → Nat → Nat) : Prop := ∀ p t, p < aN A → t < aM A → g p t ≤ 9 + aM A ∧ aP A p t = fb_ct (fun k => decide (g p k < g p t)) (aM A)
/-- what the reference has looked at: places P of m things -/
def LK (P : Nat → Nat → Nat) (m n : Nat) (σ : hsS) : Prop := σ.1 25 = nI m ∧ m ≤ 10 ∧ n ≤ 8 ∧ ∀ p t, p < n → t < m → σ.2.1 13 (10 * p + t) = nI (P p t) ∧ P p t ≤ 10
/-- two states that differ in the numbers I and the rows R alone -/
def FRm (I R : List Nat) (σ σ' : hsS) : Prop := (∀ k, k ∉ I → σ'.1 k = σ.1 k) ∧ (∀ k, k ∉ R → σ'.2.1 k = σ.2.1 k) ∧ σ'.2.2 = σ.2.2
theorem FRm.rf {I R : List Nat} {σ : hsS} : FRm I R σ σ := ⟨fun _ _ => rfl, fun _ _ => rfl, rfl⟩
theorem FRm.trans {I R : List Nat} {σ σ' σ'' : hsS} (h : FRm I R σ σ') (h' : FRm I R σ' σ'') : FRm I R σ σ'' :=
  ⟨fun k hk => (h'.1 k hk).trans (h.1 k hk), fun k hk => (h'.2.1 k hk).trans (h.2.1 k hk), h'.2.2.trans h.2.2⟩
theorem FRm.weak {I R I' R' : List Nat} {σ σ' : hsS} (h : FRm I R σ σ') (hI : ∀ k ∈ I, k ∈ I') (hR : ∀ k ∈ R, k ∈ R') : FRm I' R' σ σ' :=
  ⟨fun k hk => h.1 k (fun z => hk (hI k z)), fun k hk => h.2.1 k (fun z => hk (hR k z)), h.2.2⟩
theorem FRm.int {I R : List Nat} {σ : hsS} {k : Nat} (v : Int32) (hk : k ∈ I) : FRm I R σ (hsI σ k v) :=
  ⟨fun j hj => by show va_up σ.1 k v j = _; unfold va_up; rw [if_neg (fun e => hj (by rw [e]; exact hk))], fun _ _ => rfl, rfl⟩
theorem FRm.arr {I R : List Nat} {σ : hsS} {k : Nat} (f : Nat → Int32) (hk : k ∈ R) : FRm I R σ (hsA σ k f) :=
  ⟨fun _ _ => rfl, fun j hj => by show va_up σ.2.1 k f j = _; unfold va_up; rw [if_neg (fun e => hj (by rw [e]; exact hk))], rfl⟩
theorem hsA_at (σ : hsS) (k : Nat) (f : Nat → Int32) : (hsA σ k f).2.1 k = f := by show va_up σ.2.1 k f k = f; unfold va_up; rw [if_pos rfl]
theorem hsI_at (σ : hsS) (k : Nat) (v : Int32) : (hsI σ k v).1 k = v := by show va_up σ.1 k v k = v; unfold va_up; rw [if_pos rfl]
theorem hsA_ne (σ : hsS) {k j : Nat} (f : Nat → Int32) (h : j ≠ k) : (hsA σ k f).2.1 j = σ.2.1 j := by show va_up σ.2.1 k f j = _; unfold va_up; rw [if_neg h]
theorem hsI_ne (σ : hsS) {k j : Nat} (v : Int32) (h : j ≠ k) : (hsI σ k v).1 j = σ.1 j := by show va_up σ.1 k v j = _; unfold va_up; rw [if_neg h]
theorem MH.mono {A : AH} {g : Nat → Nat → Nat} {σ σ' : hsS} (h : MH A g σ) (e : ∀ k, 1 ≤ k → k ≤ 11 → σ'.2.1 k = σ.2.1 k) : MH A g σ' := by
  obtain ⟨h1, h2, h3, h4, h5, h6, h7, h8, h9, h10, h11⟩ := h
  refine ⟨?_, ?_, ?_, ?_, ?_, ?_, ?_, ?_, ?_, ?_, ?_⟩
  · rw [e 1 (by decide) (by decide)]; exact h1
  · rw [e 2 (by decide) (by decide)]; exact h2
  · rw [e 3 (by decide) (by decide)]; exact h3
  · rw [e 4 (by decide) (by decide)]; exact h4
  · rw [e 5 (by decide) (by decide)]; exact h5
  · rw [e 6 (by decide) (by decide)]; exact h6
  · rw [e 7 (by decide) (by decide)]; exact h7
  · rw [e 8 (by decide) (by decide)]; exact h8
  · rw [e 9 (by decide) (by decide)]; exact h9
  · rw [e 10 (by decide) (by decide)]; exact h10
  · rw [e 11 (by decide) (by decide)]; exact h11
theorem MH.fr {A : AH} {g : Nat → Nat → Nat} {I R : List Nat} {σ σ' : hsS} (h : MH A g σ) (hf : FRm I R σ σ') (hR : ∀ k, k < 12 → 1 ≤ k → k ∉ R) : MH A g σ' :=
  h.mono (fun k h1 h2 => hf.2.1 k (hR k (by omega) h1))
theorem LK.fr {P : Nat → Nat → Nat} {m n : Nat} {I R : List Nat} {σ σ' : hsS} (h : LK P m n σ) (hf : FRm I R σ σ') (hI : 25 ∉ I) (hR : 13 ∉ R) : LK P m n σ' := by
  obtain ⟨h1, h2, h3, h4⟩ := h
  refine ⟨by rw [hf.1 25 hI]; exact h1, h2, h3, ?_⟩
  rw [hf.2.1 13 hR]; exact h4
section MhG
variable {A : AH} {g : Nat → Nat → Nat} {σ : hsS}
theorem mh_m (h : MH A g σ) : σ.2.1 1 (0 : Int32).toNatClampNeg = nI (aM A) := h.1
theorem mh_n (h : MH A g σ) : σ.2.1 2 (0 : Int32).toNatClampNeg = nI (aN A) := h.2.1
theorem mh_law (h : MH A g σ) : σ.2.1 3 (0 : Int32).toNatClampNeg = nI (aLaw A) := h.2.2.1
theorem mh_step (h : MH A g σ) : aLaw A = 1 → σ.2.1 4 (0 : Int32).toNatClampNeg = nI (aStep A) := h.2.2.2.1
theorem mh_tc (h : MH A g σ) : aLaw A = 2 → σ.2.1 5 (0 : Int32).toNatClampNeg = nI (aTc A) := h.2.2.2.2.1
theorem mh_nt (h : MH A g σ) : σ.2.1 6 (0 : Int32).toNatClampNeg = nI (aNt A) := h.2.2.2.2.2.1
theorem mh_w (h : MH A g σ) {p : Nat} (hp : p < aN A) : σ.2.1 7 p = nI (aW A p) := h.2.2.2.2.2.2.1 p hp
theorem mh_g (h : MH A g σ) {p t : Nat} (hp : p < aN A) (ht : t < aM A) : σ.2.1 8 (10 * p + t) = nI (g p t) := h.2.2.2.2.2.2.2.1 p t hp ht
theorem mh_t (h : MH A g σ) (hl : aLaw A = 2) {k : Nat} (hk : k < aTc A) : σ.2.1 9 k = nI (aT A k) := h.2.2.2.2.2.2.2.2.1 hl k hk
theorem mh_u (h : MH A g σ) {k : Nat} (hk : k < aNt A) : σ.2.1 10 k = nI (aU A k) := h.2.2.2.2.2.2.2.2.2.1 k hk
theorem mh_nm (h : MH A g σ) {p : Nat} (hp : p < aN A) : σ.2.1 11 p = nI (if (aNm A).testBit p = true then 1 else 0) := h.2.2.2.2.2.2.2.2.2.2 p hp
theorem qm_weightOf (ha : AW A) (h : MH A g σ) {post : Int32 → hsS → Prop} (s : Int32) (k : post (nI (aWt A (qb_N s) (aN A))) σ) : wX8_weightOf s post σ := by
  have hn := aw_n ha
  have L : ∀ K : Int32 → Int32 → hsS → Prop, K (nI (aWt A (qb_N s) (aN A))) (nI (aN A)) σ → ∃ n, wX8_weightOf_L4 s K post n 0 0 σ := fun K kk =>
    pk_loop (fun n j y => wX8_weightOf_L4 s K post n y (nI j) σ) (fun j y => y = nI (aWt A (qb_N s) j)) (aN A) 0 0 (Nat.zero_le _) rfl
      (fun n y e => by
        rw [wX8_weightOf_L4]
        exact br_t (by rw [mh_n h]; exact nI_le (Nat.le_refl _) (by omega)) (by rw [e]; exact kk))
      (fun n j y hj e ih => by
        rw [wX8_weightOf_L4]
        refine br_f (by rw [mh_n h]; exact nI_ge hj (by omega)) (ek_if (qb_test s (j := j) (by omega)) (fun c => ?_) (fun c => ?_))
        · refine ⟨pk_in j 16 (by omega), nm_e (nm_e ?_)⟩
          rw [nI_clamp (by omega), mh_w h hj, nI_1, e, nI_add]
          refine ih _ ?_
          show _ = nI (fb_sm _ (j + 1)); rw [fb_sm_succ]; simp only [c, if_true]; rfl
        · refine nm_e (nm_e ?_)
          rw [nI_1]
          refine ih _ ?_
          show _ = nI (fb_sm _ (j + 1)); rw [fb_sm_succ, e]; simp only [c, ← nI_0, nI_add]; rfl)
  exact L _ k
theorem qm_sizeOf {post : Int32 → hsS → Prop} {s : Nat} (hs : s < 2 ^ 31) (k : post (nI (qs_sz s)) σ) : wX8_sizeOf (nI s) post σ := by
  have L : ∀ K : Int32 → Int32 → hsS → Prop, K (nI (qs_sz s)) (nI 12) σ → ∃ n, wX8_sizeOf_L4 (nI s) K post n 0 0 σ := fun K kk =>
    pk_loop (fun n j y => wX8_sizeOf_L4 (nI s) K post n y (nI j) σ) (fun j y => y = nI (fb_ct s.testBit j)) 12 0 0 (Nat.zero_le _) rfl
      (fun n y e => by
        rw [wX8_sizeOf_L4]
        exact br_t (nI_le (a := 12) (Nat.le_refl _) (by omega)) (by rw [e]; exact kk))
      (fun n j y hj e ih => by
        rw [wX8_sizeOf_L4]
        refine br_f (nI_ge (b := 12) hj (by omega)) (nm_e (nm_e ?_))
        rw [nI_1, e, qb_shr1 _ (by omega), qb_N_nI (by omega), nI_add]
        exact ih _ rfl)
  exact L _ k
theorem qm_everybody (ha : AW A) (h : MH A g σ) {post : Int32 → hsS → Prop} (k : post (nI (2 ^ aN A - 1)) σ) : wX8_everybody post σ := by
  have := aw_n ha
  show post (((1 : Int32) <<< ((σ.2.1 2 (0 : Int32).toNatClampNeg) &&& 31)) - (1 : Int32)) σ
  rw [mh_n h, qb_all (by omega)]; exact k
theorem aWt_all (ha : AW A) : aWt A (2 ^ aN A - 1) (aN A) = aAW A := by
  rw [aw_aw ha]; exact fb_sm_cong (fun p hp => by rw [qs_full]; simp [hp])
theorem aWt_sub (A : AH) {s u : Nat} (h : ∀ p, s.testBit p = true → u.testBit p = true) (j : Nat) : aWt A s j ≤ aWt A u j :=
  fb_sm_le (fun p hp => by
    cases e : s.testBit p
    · simp
    · simp [h p e])
theorem qm_mayOf (ha : AW A) (h : MH A g σ) {post : Int32 → hsS → Prop} {s u m : Nat} (hm : 1 ≤ m ∧ m ≤ 10) (hs : s < 2 ^ aN A) (hu : u < 2 ^ aN A) (hsu : ∀ p, s.testBit p = true → u.testBit p = true) (k : post (nI (aMay A m (aWt A u (aN A)) s)) σ) : wX8_mayOf (nI s) (nI u) (nI m) post σ := by
  have hn := aw_n ha
  have hp8 : 2 ^ aN A ≤ 2 ^ 8 := Nat.pow_le_pow_right (by decide) hn
  have hNs : qb_N (nI s) = s := qb_N_nI (by omega)
  have hNu : qb_N (nI u) = u := qb_N_nI (by omega)
  have hwl := aWt_le ha s (Nat.le_refl (aN A)); have hul := aWt_le ha u (Nat.le_refl (aN A))
  have hus := aWt_sub A hsu (aN A)
  refine pk_eq s 0 (fun c => ?_) (fun c => ?_)
  · have e : aMay A m (aWt A u (aN A)) s = 0 := by unfold aMay; rw [if_pos c]
    rw [e] at k; exact k
  have hwp := aWt_pos ha hs c
  have hlt := aGv_lt ha (m := m) (aw := aWt A u (aN A)) hm.2 (by omega) (qs_sz_pos (s := s) (by omega) c)
  have e0 : aMay A m (aWt A u (aN A)) s = min (m - 1) (aGv A m (aWt A u (aN A)) s) := by unfold aMay; rw [if_neg c]
  have em : nI m - (1 : Int32) = nI (m - 1) := pk_sub (b := 1) hm.1
  rw [e0] at k
  refine pk_eq (aLaw A) 0 (fun c1 => ?_) (fun c1 => ?_) (mh_law h) rfl (by have := aw_law ha; omega)
  · refine qm_weightOf ha h _ (qm_weightOf ha h _ ⟨?_, nm_e ?_⟩)
    · rw [hNu]; exact nI_ne0 (by omega) (by omega)
    have hmw : m * aWt A s (aN A) ≤ 10 * 792 := Nat.mul_le_mul hm.2 (by omega)
    have hmw1 : 1 ≤ m * aWt A s (aN A) := Nat.mul_pos (by omega) (by omega)
    have hdv : 1 ≤ (m * aWt A s (aN A) + aWt A u (aN A) - 1) / aWt A u (aN A) := by
      rw [Nat.le_div_iff_mul_le (by omega)]; omega
    have e2 : aGv A m (aWt A u (aN A)) s = (m * aWt A s (aN A) + aWt A u (aN A) - 1) / aWt A u (aN A) - 1 := by unfold aGv; rw [if_neg (by omega), if_neg (by omega)]
    rw [em, hNs, hNu, pk_mul, nI_add, show (1 : Int32) = nI 1 from rfl, pk_sub (by omega), pk_div (by omega) (by omega) (by omega), pk_sub hdv, ← e2, nI_min (by omega) (by omega)]; exact k
  · refine pk_eq (aLaw A) 1 (fun c2 => ?_) (fun c2 => ?_) (mh_law h) rfl (by have := aw_law ha; omega)
    · have hst := aw_step ha c2
      refine qm_weightOf ha h _ ⟨?_, nm_e ?_⟩
      · rw [mh_step h c2]; exact nI_ne0 (by omega) (by omega)
      have e2 : aGv A m (aWt A u (aN A)) s = aWt A s (aN A) / aStep A := by unfold aGv; rw [if_pos c2]
      rw [em, mh_step h c2, hNs, pk_div (by omega) (by omega) (by omega), ← e2, nI_min (by omega) (by omega)]; exact k
    · have c3 : aLaw A = 2 := by have := aw_law ha; omega
      have htc := aw_told ha c3
      refine qm_sizeOf (by omega) ?_
      have hsz := qs_sz_pos (s := s) (by omega) c
      have hsl := qs_sz_le s
      have e : (if (σ.2.1 5 (0 : Int32).toNatClampNeg) < nI (qs_sz s) then (σ.2.1 5 (0 : Int32).toNatClampNeg) else nI (qs_sz s)) - (1 : Int32) = nI (min (qs_sz s) (aTc A) - 1) := by
        rw [mh_tc h c3, nI_min (by omega) (by omega)]; exact pk_sub (b := 1) (by omega)
      refine ⟨pk_in (min (qs_sz s) (aTc A) - 1) 16 (by omega) e, nm_e ?_⟩
      have e2 : aGv A m (aWt A u (aN A)) s = aT A (min (qs_sz s) (aTc A) - 1) := by unfold aGv; rw [if_neg (by omega), if_pos c3]
      rw [em, e, nI_clamp (by omega), mh_t h c3 (by omega), ← e2, nI_min (by omega) (by omega)]; exact k
end MhG
