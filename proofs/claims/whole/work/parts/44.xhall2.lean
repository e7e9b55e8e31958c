def qb_bc (x0 : Int32) : Int32 :=
  (fun v1 : Int32 => (fun v2 : Int32 => (fun v3 : Int32 => (fun v4 : Int32 => (fun v5 : Int32 => v5 &&& (63 : Int32)) (v4 + ((v4.toUInt32 >>> ((16 : Int32).toUInt32 &&& Int32.toUInt32 31)).toInt32))) (v3 + ((v3.toUInt32 >>> ((8 : Int32).toUInt32 &&& Int32.toUInt32 31)).toInt32))) ((v2 + ((v2.toUInt32 >>> ((4 : Int32).toUInt32 &&& Int32.toUInt32 31)).toInt32)) &&& (252645135 : Int32))) ((v1 &&& (858993459 : Int32)) + (((v1.toUInt32 >>> ((2 : Int32).toUInt32 &&& Int32.toUInt32 31)).toInt32) &&& (858993459 : Int32)))) (x0 - (((x0.toUInt32 >>> ((1 : Int32).toUInt32 &&& Int32.toUInt32 31)).toInt32) &&& (1431655765 : Int32)))
set_option maxRecDepth 100000 in
theorem qb_bc_all : ∀ s : Fin 4096, qb_bc (nI s.val) = nI (qs_sz s.val) := by decide +kernel
theorem qx_bitCount {σ : hsS} {post : Int32 → hsS → Prop} {s : Nat} (hs : s < 2 ^ 12) (k : post (nI (qs_sz s)) σ) : wJ6_bitCount_0f7a4 (nI s) post σ := by
  intro v1 e1 v2 e2 v3 e3 v4 e4 v5 e5
  have e : v5 &&& (63 : Int32) = qb_bc (nI s) := by subst e1; subst e2; subst e3; subst e4; subst e5; rfl
  rw [e, qb_bc_all ⟨s, hs⟩]; exact k
theorem qs_sz_pos {s : Nat} (hs : s < 2 ^ 12) (h0 : s ≠ 0) : 0 < qs_sz s := (qs_pos hs).mpr h0
/-- what the law gives to a set, and what a set may strike -/
def aGv (A : AH) (m aw : Nat) (s : Nat) : Nat := if aLaw A = 1 then aWt A s (aN A) / aStep A else if aLaw A = 2 then aT A (min (qs_sz s) (aTc A) - 1) else (m * aWt A s (aN A) + aw - 1) / aw - 1
def aMay (A : AH) (m aw : Nat) (s : Nat) : Nat := if s = 0 then 0 else min (m - 1) (aGv A m aw s)
theorem aWt_pos_c {A : AH} (h : AWc A) {s : Nat} (hs : s < 2 ^ aN A) (h0 : s ≠ 0) : 1 ≤ aWt A s (aN A) := by
  apply Classical.byContradiction
  intro hc
  have h1 : fb_sm (fun p => if s.testBit p = true then aW A p else 0) (aN A) = 0 := by
    have : aWt A s (aN A) = 0 := by omega
    exact this
  have h2 := fb_sm_zero h1
  apply h0
  apply Nat.eq_of_testBit_eq; intro i; rw [Nat.zero_testBit]
  rcases Nat.lt_or_ge i (aN A) with hi | hi
  · have h3 := h2 i hi
    have h4 := (awc_w h hi).1
    cases e : s.testBit i
    · rfl
    · simp only [e, if_true] at h3; omega
  · exact qs_hi hs hi
theorem aWt_pos {A : AH} (h : AW A) {s : Nat} (hs : s < 2 ^ aN A) (h0 : s ≠ 0) : 1 ≤ aWt A s (aN A) := aWt_pos_c (awc_of h) hs h0
section HxH
variable {b : Nat} {A : AH} {σ : hsS}
theorem qx_lawGives_c (ha : AWc A) (h : HX b A σ) {post : Int32 → hsS → Prop} {s : Nat} (hs : s < 2 ^ aN A) (h0 : s ≠ 0) (k : post (nI (aGv A (aM A) (aAW A) s)) σ) : wX1_lawGives b (nI s) post σ := by
  have hn := awc_n ha; have hm := awc_m ha
  have hs8 : s < 2 ^ 8 := Nat.lt_of_lt_of_le hs (Nat.pow_le_pow_right (by decide) hn)
  have hN : qb_N (nI s) = s := qb_N_nI (by omega)
  have hwl := aWt_le_c ha s (Nat.le_refl (aN A))
  have hwp := aWt_pos_c ha hs h0
  have hwa := aWt_le_aw_c ha s
  have haw : aAW A ≤ 8 * 99 := by
    have h9 := aWt_le_c ha (2 ^ 8 - 1) (Nat.le_refl (aN A))
    have e9 : aWt A (2 ^ 8 - 1) (aN A) = aAW A := by
      rw [awc_aw ha]; exact fb_sm_cong (fun p hp => by rw [qs_full]; simp [show p < 8 by omega])
    omega
  refine pk_eq (aLaw A) 1 (fun c => ?_) (fun c => ?_) (hx_law h) rfl (by have := awc_law ha; omega)
  · have hst := awc_step ha c
    refine pk_le (aStep A) 0 (fun c2 => absurd c2 (by omega)) (fun c2 => ?_) (hx_step h) rfl (by omega)
    refine qx_weightOf_c ha h _ ?_
    refine ⟨by rw [hx_step h]; exact nI_ne0 (by omega) (by omega), ?_⟩
    rw [hx_step h, hN, pk_div (by omega) (by omega) (by omega)]
    have e : aGv A (aM A) (aAW A) s = aWt A s (aN A) / aStep A := by unfold aGv; rw [if_pos c]
    rw [← e]; exact k
  · refine pk_eq (aLaw A) 2 (fun c1 => ?_) (fun c1 => ?_) (hx_law h) rfl (by have := awc_law ha; omega)
    · have htc := awc_told ha c1
      refine pk_le (aTc A) 0 (fun c2 => absurd c2 (by omega)) (fun c2 => ?_) (hx_tc h) rfl (by omega)
      refine qx_bitCount (by omega) ?_
      have hsz := qs_sz_pos (s := s) (by omega) h0
      have hsl := qs_sz_le s
      have e : (if (σ.1 (64 * b + 5)) < nI (qs_sz s) then (σ.1 (64 * b + 5)) else nI (qs_sz s)) - (1 : Int32) = nI (min (qs_sz s) (aTc A) - 1) := by
        rw [hx_tc h]
        rcases Nat.lt_or_ge (aTc A) (qs_sz s) with z | z
        · rw [if_pos (nI_lt z (by omega)), show min (qs_sz s) (aTc A) = aTc A by omega]; exact pk_sub (b := 1) (by omega)
        · rw [if_neg (nI_nlt z (by omega)), show min (qs_sz s) (aTc A) = qs_sz s by omega]; exact pk_sub (b := 1) (by omega)
      refine ⟨pk_in (min (qs_sz s) (aTc A) - 1) 8 (by omega) e, ?_⟩
      rw [e, nI_clamp (by omega), hx_t h (by omega)]
      have e2 : aGv A (aM A) (aAW A) s = aT A (min (qs_sz s) (aTc A) - 1) := by unfold aGv; rw [if_neg c, if_pos c1]
      rw [← e2]; exact k
    · refine pk_le (aAW A) 0 (fun c2 => absurd c2 (by omega)) (fun c2 => ?_) (hx_aw h) rfl (by omega)
      refine qx_weightOf_c ha h _ ?_
      refine ⟨by rw [hx_aw h]; exact nI_ne0 (by omega) (by omega), ?_⟩
      have hmw : aM A * aWt A s (aN A) ≤ 9 * 792 := Nat.mul_le_mul hm.2 (by omega)
      have hmw1 : 1 ≤ aM A * aWt A s (aN A) := Nat.mul_pos (by omega) (by omega)
      have hdv : 1 ≤ (aM A * aWt A s (aN A) + aAW A - 1) / aAW A := by
        rw [Nat.le_div_iff_mul_le (by omega)]; omega
      have e2 : aGv A (aM A) (aAW A) s = (aM A * aWt A s (aN A) + aAW A - 1) / aAW A - 1 := by unfold aGv; rw [if_neg c, if_neg c1]
      rw [hx_m h, hx_aw h, hN, pk_mul, nI_add, show (1 : Int32) = nI 1 from rfl, pk_sub (by omega), pk_div (by omega) (by omega) (by omega), pk_sub hdv, ← e2]; exact k
theorem qx_lawGives (ha : AW A) (h : HX b A σ) {post : Int32 → hsS → Prop} {s : Nat} (hs : s < 2 ^ aN A) (h0 : s ≠ 0) (k : post (nI (aGv A (aM A) (aAW A) s)) σ) : wX1_lawGives b (nI s) post σ := qx_lawGives_c (awc_of ha) h hs h0 k
theorem aGv_lt_c {A : AH} (ha : AWc A) {m aw : Nat} (hm : m ≤ 10) (haw : aw ≤ 792) {s : Nat} (h0 : 0 < qs_sz s) : aGv A m aw s < 10000 := by
  have hwl := aWt_le_c ha s (Nat.le_refl (aN A)); have hn := awc_n ha
  unfold aGv
  split
  · exact Nat.lt_of_le_of_lt (Nat.div_le_self _ _) (by omega)
  · split
    · rename_i c
      have := awc_told ha c
      have := this.2.2 (min (qs_sz s) (aTc A) - 1) (by omega)
      omega
    · have h1 : m * aWt A s (aN A) ≤ 10 * 792 := Nat.mul_le_mul hm (by omega)
      have h2 := Nat.div_le_self (m * aWt A s (aN A) + aw - 1) aw
      omega
theorem aGv_lt {A : AH} (ha : AW A) {m aw : Nat} (hm : m ≤ 10) (haw : aw ≤ 792) {s : Nat} (h0 : 0 < qs_sz s) : aGv A m aw s < 10000 := aGv_lt_c (awc_of ha) hm haw h0
theorem aAW_le_c (ha : AWc A) : aAW A ≤ 792 := by
  have hn := awc_n ha
  have h9 := aWt_le_c ha (2 ^ 8 - 1) (Nat.le_refl (aN A))
  have e9 : aWt A (2 ^ 8 - 1) (aN A) = aAW A := by
    rw [awc_aw ha]; exact fb_sm_cong (fun p hp => by rw [qs_full]; simp [show p < 8 by omega])
  omega
theorem aAW_le (ha : AW A) : aAW A ≤ 792 := aAW_le_c (awc_of ha)
theorem nI_min {a c : Nat} (ha : a < 2 ^ 31) (hc : c < 2 ^ 31) : (if nI a < nI c then nI a else nI c) = nI (min c a) := by
  rcases Nat.lt_or_ge a c with z | z
  · rw [if_pos (nI_lt z hc), show min c a = a by omega]
  · rw [if_neg (nI_nlt z ha), show min c a = c by omega]
/-- a set as an argument: those of it that there are -/
def qb_in (n : Nat) (x : Int32) : Nat := qb_N x % 2 ^ n
theorem qb_in_lt (n : Nat) (x : Int32) : qb_in n x < 2 ^ n := Nat.mod_lt _ (Nat.two_pow_pos n)
theorem qb_in_eq {n : Nat} (hn : n ≤ 30) (x : Int32) : x &&& nI (2 ^ n - 1) = nI (qb_in n x) := pk_and x n (by
  have : 2 ^ n ≤ 2 ^ 30 := Nat.pow_le_pow_right (by decide) hn
  exact pk_tn (by omega))
theorem qx_mayStrike_c (ha : AWc A) (h : HX b A σ) {post : Int32 → hsS → Prop} (x : Int32) (k : post (nI (aMay A (aM A) (aAW A) (qb_in (aN A) x))) σ) : wX1_mayStrike b x post σ := by
  have hn := awc_n ha; have hm := awc_m ha
  refine qx_allPeople_c ha h ?_
  refine nm_e ?_
  rw [qb_in_eq (by omega)]
  have hl := qb_in_lt (aN A) x
  have hs8 : qb_in (aN A) x < 2 ^ 8 := Nat.lt_of_lt_of_le hl (Nat.pow_le_pow_right (by decide) hn)
  refine pk_eq (qb_in (aN A) x) 0 (fun c => ?_) (fun c => ?_)
  · have e : aMay A (aM A) (aAW A) (qb_in (aN A) x) = 0 := by unfold aMay; rw [if_pos c]
    rw [e] at k; exact k
  · refine qx_lawGives_c ha h hl c ?_
    have h9 := aGv_lt_c ha (m := aM A) (aw := aAW A) (by omega) (aAW_le_c ha) (qs_sz_pos (by omega) c)
    rw [hx_m h, show (1 : Int32) = nI 1 from rfl, pk_sub (by omega), nI_min (by omega) (by omega)]
    have e : aMay A (aM A) (aAW A) (qb_in (aN A) x) = min (aM A - 1) (aGv A (aM A) (aAW A) (qb_in (aN A) x)) := by unfold aMay; rw [if_neg c]
    rw [← e]; exact k
theorem qx_mayStrike (ha : AW A) (h : HX b A σ) {post : Int32 → hsS → Prop} (x : Int32) (k : post (nI (aMay A (aM A) (aAW A) (qb_in (aN A) x))) σ) : wX1_mayStrike b x post σ := qx_mayStrike_c (awc_of ha) h x k
end HxH
