/-! ===== the abstract hall: numbers (.1 k, in the class's order of fields), weights (.2 0), told (.2 1), turns (.2 2), places of p (.2 (p + 3)) ===== -/
abbrev AH : Type := (Nat → Nat) × (Nat → Nat → Nat)
abbrev aM (A : AH) : Nat := A.1 0
abbrev aN (A : AH) : Nat := A.1 1
abbrev aAW (A : AH) : Nat := A.1 2
abbrev aLaw (A : AH) : Nat := A.1 3
abbrev aStep (A : AH) : Nat := A.1 4
abbrev aTc (A : AH) : Nat := A.1 5
abbrev aNt (A : AH) : Nat := A.1 6
abbrev aNm (A : AH) : Nat := A.1 7
abbrev aW (A : AH) (p : Nat) : Nat := A.2 0 p
abbrev aT (A : AH) (k : Nat) : Nat := A.2 1 k
abbrev aU (A : AH) (k : Nat) : Nat := A.2 2 k
abbrev aP (A : AH) (p t : Nat) : Nat := A.2 (p + 3) t
/-- a hall that was told well -/
def AW (A : AH) : Prop := (2 ≤ aM A ∧ aM A ≤ 9) ∧ aN A ≤ 8 ∧ aAW A = fb_sm (aW A) (aN A) ∧ aLaw A ≤ 2 ∧ (aLaw A = 1 → 1 ≤ aStep A ∧ aStep A ≤ 999) ∧ (aLaw A = 2 → 1 ≤ aTc A ∧ aTc A ≤ 8 ∧ ∀ k, k < aTc A → aT A k ≤ 9) ∧ (aNt A + 1 ≤ aM A ∧ ∀ k, k < aNt A → aU A k < aN A) ∧ aNm A < 256 ∧ (∀ p, p < aN A → 1 ≤ aW A p ∧ aW A p ≤ 99) ∧ (∀ p t, p < aN A → t < aM A → aP A p t < aM A)
/-- the hall at the class's cell b -/
def HX (b : Nat) (A : AH) (σ : hsS) : Prop := (∀ k, k < 8 → σ.1 (64 * b + k) = nI (A.1 k)) ∧ (∀ p, p < aN A → σ.2.1 (b + 1) p = nI (aW A p)) ∧ (∀ p t, p < aN A → t < aM A → σ.2.1 (b + 2) (9 * p + t) = nI (aP A p t)) ∧ (∀ k, k < aTc A → σ.2.1 (b + 3) k = nI (aT A k)) ∧ (∀ k, k < aNt A → σ.2.1 (b + 4) k = nI (aU A k))
theorem aw_m {A : AH} (h : AW A) : 2 ≤ aM A ∧ aM A ≤ 9 := h.1
theorem aw_n {A : AH} (h : AW A) : aN A ≤ 8 := h.2.1
theorem aw_aw {A : AH} (h : AW A) : aAW A = fb_sm (aW A) (aN A) := h.2.2.1
theorem aw_law {A : AH} (h : AW A) : aLaw A ≤ 2 := h.2.2.2.1
theorem aw_step {A : AH} (h : AW A) : aLaw A = 1 → 1 ≤ aStep A ∧ aStep A ≤ 999 := h.2.2.2.2.1
theorem aw_told {A : AH} (h : AW A) : aLaw A = 2 → 1 ≤ aTc A ∧ aTc A ≤ 8 ∧ ∀ k, k < aTc A → aT A k ≤ 9 := h.2.2.2.2.2.1
theorem aw_nt {A : AH} (h : AW A) : aNt A + 1 ≤ aM A := h.2.2.2.2.2.2.1.1
theorem aw_u {A : AH} (h : AW A) {k : Nat} (hk : k < aNt A) : aU A k < aN A := h.2.2.2.2.2.2.1.2 k hk
theorem aw_nm {A : AH} (h : AW A) : aNm A < 256 := h.2.2.2.2.2.2.2.1
theorem aw_w {A : AH} (h : AW A) {p : Nat} (hp : p < aN A) : 1 ≤ aW A p ∧ aW A p ≤ 99 := h.2.2.2.2.2.2.2.2.1 p hp
theorem aw_p {A : AH} (h : AW A) {p t : Nat} (hp : p < aN A) (ht : t < aM A) : aP A p t < aM A := h.2.2.2.2.2.2.2.2.2 p t hp ht
/-- what the core rests on: a hall that was told well, but for turns and names -/
def AWc (A : AH) : Prop := (2 ≤ aM A ∧ aM A ≤ 9) ∧ aN A ≤ 8 ∧ aAW A = fb_sm (aW A) (aN A) ∧ aLaw A ≤ 2 ∧ (aLaw A = 1 → 1 ≤ aStep A ∧ aStep A ≤ 999) ∧ (aLaw A = 2 → 1 ≤ aTc A ∧ aTc A ≤ 8 ∧ ∀ k, k < aTc A → aT A k ≤ 9) ∧ (∀ p, p < aN A → 1 ≤ aW A p ∧ aW A p ≤ 99) ∧ (∀ p t, p < aN A → t < aM A → aP A p t < aM A)
theorem awc_m {A : AH} (h : AWc A) : 2 ≤ aM A ∧ aM A ≤ 9 := h.1
theorem awc_n {A : AH} (h : AWc A) : aN A ≤ 8 := h.2.1
theorem awc_aw {A : AH} (h : AWc A) : aAW A = fb_sm (aW A) (aN A) := h.2.2.1
theorem awc_law {A : AH} (h : AWc A) : aLaw A ≤ 2 := h.2.2.2.1
theorem awc_step {A : AH} (h : AWc A) : aLaw A = 1 → 1 ≤ aStep A ∧ aStep A ≤ 999 := h.2.2.2.2.1
theorem awc_told {A : AH} (h : AWc A) : aLaw A = 2 → 1 ≤ aTc A ∧ aTc A ≤ 8 ∧ ∀ k, k < aTc A → aT A k ≤ 9 := h.2.2.2.2.2.1
theorem awc_w {A : AH} (h : AWc A) {p : Nat} (hp : p < aN A) : 1 ≤ aW A p ∧ aW A p ≤ 99 := h.2.2.2.2.2.2.1 p hp
theorem awc_p {A : AH} (h : AWc A) {p t : Nat} (hp : p < aN A) (ht : t < aM A) : aP A p t < aM A := h.2.2.2.2.2.2.2 p t hp ht
theorem awc_of {A : AH} (h : AW A) : AWc A := ⟨h.1, h.2.1, h.2.2.1, h.2.2.2.1, h.2.2.2.2.1, h.2.2.2.2.2.1, h.2.2.2.2.2.2.2.2.1, h.2.2.2.2.2.2.2.2.2⟩
section HxG
variable {b : Nat} {A : AH} {σ : hsS}
theorem hx_m (h : HX b A σ) : σ.1 (64 * b + 0) = nI (aM A) := h.1 0 (by decide)
theorem hx_n (h : HX b A σ) : σ.1 (64 * b + 1) = nI (aN A) := h.1 1 (by decide)
theorem hx_aw (h : HX b A σ) : σ.1 (64 * b + 2) = nI (aAW A) := h.1 2 (by decide)
theorem hx_law (h : HX b A σ) : σ.1 (64 * b + 3) = nI (aLaw A) := h.1 3 (by decide)
theorem hx_step (h : HX b A σ) : σ.1 (64 * b + 4) = nI (aStep A) := h.1 4 (by decide)
theorem hx_tc (h : HX b A σ) : σ.1 (64 * b + 5) = nI (aTc A) := h.1 5 (by decide)
theorem hx_nt (h : HX b A σ) : σ.1 (64 * b + 6) = nI (aNt A) := h.1 6 (by decide)
theorem hx_nm (h : HX b A σ) : σ.1 (64 * b + 7) = nI (aNm A) := h.1 7 (by decide)
theorem hx_w (h : HX b A σ) {p : Nat} (hp : p < aN A) : σ.2.1 (b + 1) p = nI (aW A p) := h.2.1 p hp
theorem hx_p (h : HX b A σ) {p t : Nat} (hp : p < aN A) (ht : t < aM A) : σ.2.1 (b + 2) (9 * p + t) = nI (aP A p t) := h.2.2.1 p t hp ht
theorem hx_t (h : HX b A σ) {k : Nat} (hk : k < aTc A) : σ.2.1 (b + 3) k = nI (aT A k) := h.2.2.2.1 k hk
theorem hx_u (h : HX b A σ) {k : Nat} (hk : k < aNt A) : σ.2.1 (b + 4) k = nI (aU A k) := h.2.2.2.2 k hk
theorem qi_9 (p k : Nat) : (nI p * (9 : Int32)) + nI k = nI (9 * p + k) := by
  rw [show (9 : Int32) = nI 9 from rfl, pk_mul, nI_add, Nat.mul_comm]
theorem qi_10 (p k : Nat) : (nI p * (10 : Int32)) + nI k = nI (10 * p + k) := by
  rw [show (10 : Int32) = nI 10 from rfl, pk_mul, nI_add, Nat.mul_comm]
theorem qx_placeOf_c (ha : AWc A) (h : HX b A σ) {post : Int32 → hsS → Prop} {p t : Nat} (hp : p < aN A) (ht : t < aM A) (k : post (nI (aP A p t)) σ) : wX1_placeOf b (nI p) (nI t) post σ := by
  have := awc_n ha; have := (awc_m ha).2
  have e : (nI p * (9 : Int32)) + nI t = nI (9 * p + t) := qi_9 p t
  refine ⟨pk_in (9 * p + t) 72 (by omega) e, ?_⟩
  rw [pk_cl (9 * p + t) e, hx_p h hp ht]; exact k
theorem qx_placeOf (ha : AW A) (h : HX b A σ) {post : Int32 → hsS → Prop} {p t : Nat} (hp : p < aN A) (ht : t < aM A) (k : post (nI (aP A p t)) σ) : wX1_placeOf b (nI p) (nI t) post σ := qx_placeOf_c (awc_of ha) h hp ht k
theorem qx_allThings_c (ha : AWc A) (h : HX b A σ) {post : Int32 → hsS → Prop} (k : post (nI (2 ^ aM A - 1)) σ) : wX1_allThings b post σ := by
  have := (awc_m ha).2
  show post (((1 : Int32) <<< ((σ.1 (64 * b + 0)) &&& 31)) - (1 : Int32)) σ
  rw [hx_m h, qb_all (by omega)]; exact k
theorem qx_allThings (ha : AW A) (h : HX b A σ) {post : Int32 → hsS → Prop} (k : post (nI (2 ^ aM A - 1)) σ) : wX1_allThings b post σ := qx_allThings_c (awc_of ha) h k
theorem qx_allPeople_c (ha : AWc A) (h : HX b A σ) {post : Int32 → hsS → Prop} (k : post (nI (2 ^ aN A - 1)) σ) : wX1_allPeople b post σ := by
  have := awc_n ha
  show post (((1 : Int32) <<< ((σ.1 (64 * b + 1)) &&& 31)) - (1 : Int32)) σ
  rw [hx_n h, qb_all (by omega)]; exact k
theorem qx_allPeople (ha : AW A) (h : HX b A σ) {post : Int32 → hsS → Prop} (k : post (nI (2 ^ aN A - 1)) σ) : wX1_allPeople b post σ := qx_allPeople_c (awc_of ha) h k
end HxG
/-- the weight of a set -/
def aWt (A : AH) (s : Nat) (j : Nat) : Nat := fb_sm (fun p => if s.testBit p = true then aW A p else 0) j
theorem aWt_le_c {A : AH} (h : AWc A) (s : Nat) {j : Nat} (hj : j ≤ aN A) : aWt A s j ≤ j * 99 := by
  have h1 : fb_sm (fun p => if s.testBit p = true then aW A p else 0) j ≤ fb_sm (fun _ => 99) j := fb_sm_le (fun k hk => by
    have := (awc_w h (p := k) (by omega)).2
    split <;> omega)
  rw [fb_sm_const] at h1; exact h1
theorem aWt_le {A : AH} (h : AW A) (s : Nat) {j : Nat} (hj : j ≤ aN A) : aWt A s j ≤ j * 99 := aWt_le_c (awc_of h) s hj
theorem aWt_le_aw_c {A : AH} (h : AWc A) (s : Nat) : aWt A s (aN A) ≤ aAW A := by
  rw [awc_aw h]
  exact fb_sm_le (fun k hk => by split <;> omega)
theorem aWt_le_aw {A : AH} (h : AW A) (s : Nat) : aWt A s (aN A) ≤ aAW A := aWt_le_aw_c (awc_of h) s
theorem qx_weightOf_c {b : Nat} {A : AH} {σ : hsS} (ha : AWc A) (h : HX b A σ) {post : Int32 → hsS → Prop} (s : Int32) (k : post (nI (aWt A (qb_N s) (aN A))) σ) : wX1_weightOf b s post σ := by
  have hn := awc_n ha
  have L : ∀ K : Int32 → Int32 → hsS → Prop, K (nI (aWt A (qb_N s) (aN A))) (nI (aN A)) σ → ∃ n, wX1_weightOf_L4 b s K post n 0 0 σ := fun K kk =>
    pk_loop (fun n j y => wX1_weightOf_L4 b s K post n y (nI j) σ) (fun j y => y = nI (aWt A (qb_N s) j)) (aN A) 0 0 (Nat.zero_le _) rfl
      (fun n y e => by
        rw [wX1_weightOf_L4]
        exact br_t (by rw [hx_n h]; exact nI_le (Nat.le_refl _) (by omega)) (by rw [e]; exact kk))
      (fun n j y hj e ih => by
        rw [wX1_weightOf_L4]
        refine br_f (by rw [hx_n h]; exact nI_ge hj (by omega)) (ek_if (qb_test s (j := j) (by omega)) (fun c => ?_) (fun c => ?_))
        · refine ⟨pk_in j 8 (by omega), nm_e (nm_e ?_)⟩
          rw [nI_clamp (by omega), hx_w h hj, nI_1, e, nI_add]
          refine ih _ ?_
          show _ = nI (fb_sm _ (j + 1)); rw [fb_sm_succ]; simp only [c, if_true]; rfl
        · refine nm_e ?_
          rw [nI_1]
          refine ih _ ?_
          show _ = nI (fb_sm _ (j + 1)); rw [fb_sm_succ]; simp only [c]; rw [e]; rfl)
  exact L _ k
theorem qx_weightOf {b : Nat} {A : AH} {σ : hsS} (ha : AW A) (h : HX b A σ) {post : Int32 → hsS → Prop} (s : Int32) (k : post (nI (aWt A (qb_N s) (aN A))) σ) : wX1_weightOf b s post σ := qx_weightOf_c (awc_of ha) h s k