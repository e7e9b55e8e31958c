/-! ===== sets of people: what each may, what it keeps, who strikes ===== -/
theorem HX.fr {b : Nat} {A : AH} {I R : List Nat} {σ σ' : hsS} (h : HX b A σ) (hf : FRm I R σ σ') (hI : ∀ k, k < 8 → 64 * b + k ∉ I) (hR : ∀ j, j < 5 → 1 ≤ j → b + j ∉ R) : HX b A σ' := by
  obtain ⟨h1, h2, h3, h4, h5⟩ := h
  refine ⟨fun k hk => ?_, fun p hp => ?_, fun p t hp ht => ?_, fun k hk => ?_, fun k hk => ?_⟩
  · rw [hf.1 _ (hI k hk)]; exact h1 k hk
  · rw [hf.2.1 _ (hR 1 (by decide) (by decide))]; exact h2 p hp
  · rw [hf.2.1 _ (hR 2 (by decide) (by decide))]; exact h3 p t hp ht
  · rw [hf.2.1 _ (hR 3 (by decide) (by decide))]; exact h4 k hk
  · rw [hf.2.1 _ (hR 4 (by decide) (by decide))]; exact h5 k hk
theorem HX.frA {b : Nat} {A : AH} {q : Nat} {σ σ' : hsS} (h : HX b A σ) (hf : FRm [] [q] σ σ') (hq : b + 4 < q) : HX b A σ' :=
  h.fr hf (fun _ _ => by simp) (fun j h1 _ => by simp only [List.mem_singleton]; omega)
theorem kpO_bit (P : Nat → Nat → Nat) (m s t : Nat) : ∀ (n k : Nat), (kpO P m s t n).testBit k = true ↔ k < m ∧ ∀ j, j < n → s.testBit j = true → P j k < P j t
  | 0, k => by
    show (2 ^ m - 1).testBit k = true ↔ _
    rw [qs_full]; simp
  | n + 1, k => by
    have ih := kpO_bit P m s t n k
    show (if s.testBit n = true then kpO P m s t n &&& dearO (P n) t m else kpO P m s t n).testBit k = true ↔ _
    split
    · rename_i c
      rw [Nat.testBit_and, Bool.and_eq_true, ih]
      unfold dearO
      rw [qs_mk_bit]
      simp only [Bool.and_eq_true, decide_eq_true_eq]
      constructor
      · rintro ⟨⟨h1, h2⟩, h3, h4⟩
        exact ⟨h1, fun j hj hs => by
          rcases Nat.lt_or_ge j n with z | z
          · exact h2 j z hs
          · have : j = n := by omega
            subst this; exact h4⟩
      · rintro ⟨h1, h2⟩
        exact ⟨⟨h1, fun j hj hs => h2 j (by omega) hs⟩, h1, h2 n (by omega) c⟩
    · rename_i c
      rw [ih]
      constructor
      · rintro ⟨h1, h2⟩
        exact ⟨h1, fun j hj hs => by
          rcases Nat.lt_or_ge j n with z | z
          · exact h2 j z hs
          · have : j = n := by omega
            subst this; exact absurd hs c⟩
      · rintro ⟨h1, h2⟩
        exact ⟨h1, fun j hj hs => h2 j (by omega) hs⟩
theorem kpO_ext {P P' : Nat → Nat → Nat} {m s s' t n n' : Nat} (h : ∀ k, k < m → ((∀ j, j < n → s.testBit j = true → P j k < P j t) ↔ (∀ j, j < n' → s'.testBit j = true → P' j k < P' j t))) : kpO P m s t n = kpO P' m s' t n' := by
  apply Nat.eq_of_testBit_eq; intro k
  apply Bool.eq_iff_iff.mpr
  rw [kpO_bit, kpO_bit]
  constructor
  · rintro ⟨h1, h2⟩; exact ⟨h1, (h k h1).mp h2⟩
  · rintro ⟨h1, h2⟩; exact ⟨h1, (h k h1).mpr h2⟩
theorem kpO_top {P : Nat → Nat → Nat} {m s t w n : Nat} (hs : s < 2 ^ w) (hw : w ≤ n) : kpO P m s t n = kpO P m s t w :=
  kpO_ext (fun k _ => ⟨fun h j hj hb => h j (by omega) hb, fun h j hj hb => by
    rcases Nat.lt_or_ge j w with z | z
    · exact h j z hb
    · rw [qs_hi hs z] at hb; exact absurd hb (by decide)⟩)
theorem qs_two {o w : Nat} (ho : o < 2 ^ w) (j : Nat) : (2 ^ w + o).testBit j = (o.testBit j || decide (j = w)) := by
  have e : 2 ^ w + o = o ||| 2 ^ w := by
    have h := Nat.two_pow_add_eq_or_of_lt ho 1
    rw [Nat.mul_one] at h
    rw [h, Nat.or_comm]
  rw [e, fb_bit_set]
theorem kpO_step {P : Nat → Nat → Nat} {m o t w n : Nat} (hw : w < n) (ho : o < 2 ^ w) : kpO P m (2 ^ w + o) t n = kpO P m o t n &&& dearO (P w) t m := by
  have h1 : 2 ^ w + o < 2 ^ (w + 1) := by rw [Nat.pow_succ]; omega
  rw [kpO_top h1 hw, kpO_top ho (Nat.le_of_lt hw)]
  show (if (2 ^ w + o).testBit w = true then kpO P m (2 ^ w + o) t w &&& dearO (P w) t m else kpO P m (2 ^ w + o) t w) = _
  rw [if_pos (by rw [qs_two ho]; simp), kpO_cong (s := 2 ^ w + o) (s' := o) w (fun p hp => by rw [qs_two ho]; simp [show ¬ p = w by omega])]
theorem kpO_none (P : Nat → Nat → Nat) (m t n : Nat) : kpO P m 0 t n = 2 ^ m - 1 := kpO_top (w := 0) (by decide) (Nat.zero_le _)
/-- does the set s strike the end t -/
def hitO (P : Nat → Nat → Nat) (m n : Nat) (may : Nat → Nat) (t s : Nat) : Bool := decide (s ≠ 0) && decide (m ≤ qs_sz (kpO P m s t n) + may s)
theorem hitO_0 (P : Nat → Nat → Nat) (m n : Nat) (may : Nat → Nat) (t : Nat) : hitO P m n may t 0 = false := rfl
theorem hitO_t {P : Nat → Nat → Nat} {m n : Nat} {may : Nat → Nat} {t s : Nat} (h0 : s ≠ 0) (h : m ≤ qs_sz (kpO P m s t n) + may s) : hitO P m n may t s = true := by
  unfold hitO; simp [h0, h]
theorem hitO_f {P : Nat → Nat → Nat} {m n : Nat} {may : Nat → Nat} {t s : Nat} (h : qs_sz (kpO P m s t n) + may s < m) : hitO P m n may t s = false := by
  unfold hitO; simp; intro _; omega
def lowO (u : Nat) : Nat := fa_first u.testBit 12
def befO (a b : Nat) : Bool := if qs_sz a = qs_sz b then a.testBit (lowO (a ^^^ b)) else decide (qs_sz a < qs_sz b)
/-- the striker among the sets below j -/
def bsO (hit : Nat → Bool) : Nat → Nat
  | 0 => 0
  | j + 1 => if hit j = true then (if bsO hit j = 0 then j else if befO j (bsO hit j) = true then j else bsO hit j) else bsO hit j
theorem bsO_succ (hit : Nat → Bool) (j : Nat) : bsO hit (j + 1) = if hit j = true then (if bsO hit j = 0 then j else if befO j (bsO hit j) = true then j else bsO hit j) else bsO hit j := rfl
theorem bsO_lt (hit : Nat → Bool) : ∀ j, bsO hit (j + 1) ≤ j
  | 0 => by rw [bsO_succ]; show (if hit 0 = true then (if (0 : Nat) = 0 then 0 else _) else 0) ≤ 0; split <;> simp
  | j + 1 => by
    have ih := bsO_lt hit j
    rw [bsO_succ]
    split
    · split
      · exact Nat.le_refl _
      · split
        · exact Nat.le_refl _
        · omega
    · omega
theorem bsO_le (hit : Nat → Bool) (j : Nat) : bsO hit j ≤ j := by
  cases j with
  | zero => exact Nat.le_refl _
  | succ j => have := bsO_lt hit j; omega
theorem bsO_1 {hit : Nat → Bool} (h : hit 0 = false) : bsO hit 1 = 0 := by
  rw [bsO_succ, if_neg (by rw [h]; decide)]; rfl
set_option maxRecDepth 100000 in
theorem qx_low : ∀ u : Fin 256, u.val ≠ 0 → nI u.val &&& (-(nI u.val)) = nI (2 ^ lowO u.val) ∧ lowO u.val < 8 := by decide +kernel
theorem qs_xor_lt {a c n : Nat} (ha : a < 2 ^ n) (hc : c < 2 ^ n) : a ^^^ c < 2 ^ n := qs_lt (fun i hi => by rw [Nat.testBit_xor, qs_hi ha hi, qs_hi hc hi]; rfl)
theorem qs_xor_ne {a c : Nat} (h : a ≠ c) : a ^^^ c ≠ 0 := fun e => h (Nat.eq_of_testBit_eq (fun i => by
  have h1 : (a ^^^ c).testBit i = (0 : Nat).testBit i := congrArg (fun z => z.testBit i) e
  rw [Nat.testBit_xor, Nat.zero_testBit] at h1
  cases h2 : a.testBit i <;> cases h3 : c.testBit i <;> simp [h2, h3] at h1 ⊢))
theorem lowO_on {u : Nat} (h : lowO u < 12) : u.testBit (lowO u) = true := fa_first_yes _ 12 h
theorem qx_ahead {σ : hsS} {post : Int32 → hsS → Prop} {a c : Nat} (ha : a < 256) (hc : c < 256) (hne : a ≠ c) (k : post (nI (if befO c a = true then c else a)) σ) : wX4_ahead (nI a) (nI c) post σ := by
  refine qx_bitCount (by omega) (qx_bitCount (by omega) (nm_e ?_))
  have hsa := qs_sz_le a; have hsc := qs_sz_le c
  rcases Nat.lt_trichotomy (qs_sz a) (qs_sz c) with z | z | z
  · have hneg : nI (qs_sz a) - nI (qs_sz c) < 0 := pk_sneg (by omega) z
    have hb : befO c a = false := by
      unfold befO; rw [if_neg (by omega)]; simp; omega
    rw [hb] at k
    refine br_f (fun e => ?_) (br_f (fun e => ?_) k)
    · rw [e] at hneg; exact absurd hneg (by decide)
    · rw [Int32.le_iff_toInt_le] at e; rw [Int32.lt_iff_toInt_lt] at hneg; omega
  · have hlow := qx_low ⟨a ^^^ c, qs_xor_lt (n := 8) ha hc⟩ (qs_xor_ne hne)
    have hon : (a ^^^ c).testBit (lowO (a ^^^ c)) = true := lowO_on (by have := hlow.2; dsimp only at this; omega)
    have hl8 : lowO (a ^^^ c) < 8 := hlow.2
    have hl1 : nI (a ^^^ c) &&& (-(nI (a ^^^ c))) = nI (2 ^ lowO (a ^^^ c)) := hlow.1
    have hb : befO c a = c.testBit (lowO (a ^^^ c)) := by
      unfold befO; rw [if_pos z.symm, Nat.xor_comm]
    rw [Nat.testBit_xor] at hon
    rw [hb] at k
    refine br_t (by rw [z, Int32.sub_self]) (nm_e (nm_e ?_))
    rw [fb_xorI, hl1]
    refine ek_if (fa_bit (n := a) (by omega)) (fun c1 => ?_) (fun c1 => ?_)
    · rw [c1] at hon
      have h2 : c.testBit (lowO (a ^^^ c)) = true := by simpa using hon
      rw [h2] at k; exact k
    · have h1 : a.testBit (lowO (a ^^^ c)) = true := by simpa using c1
      rw [h1] at hon
      have h2 : c.testBit (lowO (a ^^^ c)) = false := by simpa using hon
      rw [h2] at k; exact k
  · have hb : befO c a = true := by
      unfold befO; rw [if_neg (by omega)]; simp; omega
    rw [hb] at k
    rw [pk_sub (by omega)]
    exact br_f (nI_ne0 (by omega) (by omega)) (br_t (nI_pos' (by omega)) k)
theorem qb_in_nI {n j : Nat} (hn : n ≤ 30) (hj : j < 2 ^ n) : qb_in n (nI j) = j := by
  have h1 : 2 ^ n ≤ 2 ^ 30 := Nat.pow_le_pow_right (by decide) hn
  unfold qb_in; rw [qb_N_nI (by omega), Nat.mod_eq_of_lt hj]
theorem aMay_le {A : AH} {m aw s : Nat} : aMay A m aw s ≤ m - 1 := by
  unfold aMay; split <;> omega
theorem cl0 : (0 : Int32).toNatClampNeg = 0 := by decide
theorem cl1 : (1 : Int32).toNatClampNeg = 1 := by decide
section SetX
variable {b b0 : Nat} {A : AH} {σ : hsS}
theorem qx_weigh_c (ha : AWc A) (h : HX b A σ) (hb : b + 4 < b0) {post : hsS → Prop} (k : ∀ σ', FRm [] [b0 + 1] σ σ' → (∀ q, q < 2 ^ aN A → σ'.2.1 (b0 + 1) q = nI (aMay A (aM A) (aAW A) q)) → post σ') : wX4_weigh b0 b post σ := by
  have hn := awc_n ha
  have hp8 : 2 ^ aN A ≤ 2 ^ 8 := Nat.pow_le_pow_right (by decide) hn
  have L : ∀ K : Int32 → hsS → Prop, (∀ σ', FRm [] [b0 + 1] σ σ' → (∀ q, q < 2 ^ aN A → σ'.2.1 (b0 + 1) q = nI (aMay A (aM A) (aAW A) q)) → ∀ z, K z σ') → ∃ n, wX4_weigh_L17 b0 b (nI (2 ^ aN A)) K post n 0 σ := fun K kk =>
    pk_loop (fun n j (s : hsS) => wX4_weigh_L17 b0 b (nI (2 ^ aN A)) K post n (nI j) s) (fun j s => FRm [] [b0 + 1] σ s ∧ ∀ q, q < j → s.2.1 (b0 + 1) q = nI (aMay A (aM A) (aAW A) q)) (2 ^ aN A) 0 σ (Nat.zero_le _) ⟨FRm.rf, fun q hq => absurd hq (Nat.not_lt_zero _)⟩
      (fun n s e => by
        rw [wX4_weigh_L17]
        exact br_t (nI_le (Nat.le_refl _) (by omega)) (kk s e.1 e.2 _))
      (fun n j s hj e ih => by
        rw [wX4_weigh_L17]
        refine br_f (nI_ge hj (by omega)) (qx_mayStrike_c ha (h.frA e.1 (by omega)) (nI j) ⟨pk_in j 256 (by omega), nm_e (nm_e ?_)⟩)
        rw [nI_1, nI_clamp (by omega), qb_in_nI (by omega) hj]
        refine ih _ ⟨e.1.trans (FRm.arr _ (by simp)), fun q hq => ?_⟩
        rw [hsA_at]
        rcases Nat.decEq q j with z | z
        · rw [pk_un (by omega)]; exact e.2 q (by omega)
        · subst z; exact pk_us)
  refine nm_r (e' := nI (2 ^ aN A)) ?_ (L _ (fun σ' h1 h2 _ => k σ' h1 h2))
  rw [hx_n h, qb_one _ (by omega), if_neg]
  exact nI_nlt (a := 256) (by omega) (by decide)
theorem qx_weigh (ha : AW A) (h : HX b A σ) (hb : b + 4 < b0) {post : hsS → Prop} (k : ∀ σ', FRm [] [b0 + 1] σ σ' → (∀ q, q < 2 ^ aN A → σ'.2.1 (b0 + 1) q = nI (aMay A (aM A) (aAW A) q)) → post σ') : wX4_weigh b0 b post σ := qx_weigh_c (awc_of ha) h hb k
theorem qx_strikerOf0 (ha : AW A) (h : HX b A σ) (hb : b + 4 < b0) {may : Nat → Nat} (hmay : ∀ q, q < 2 ^ aN A → σ.2.1 (b0 + 1) q = nI (may q) ∧ may q + 1 ≤ aM A) {post : Int32 → hsS → Prop} {t : Nat} (ht : t < aM A) (k : ∀ σ', FRm [] [b0 + 2] σ σ' → post (nI (bsO (hitO (aP A) (aM A) (aN A) may t) (2 ^ aN A))) σ') : wX4_strikerOf b0 b (nI t) 0 post σ := by
  have hn := aw_n ha; have hm := aw_m ha
  have hp8 : 2 ^ aN A ≤ 2 ^ 8 := Nat.pow_le_pow_right (by decide) hn
  have hm9 : 2 ^ aM A ≤ 2 ^ 9 := Nat.pow_le_pow_right (by decide) hm.2
  obtain ⟨hit, hhit⟩ : ∃ f, f = hitO (aP A) (aM A) (aN A) may t := ⟨_, rfl⟩
  obtain ⟨kp, hkp⟩ : ∃ f : Nat → Nat, f = fun q => kpO (aP A) (aM A) q t (aN A) := ⟨_, rfl⟩
  have hkl : ∀ q, kp q < 2 ^ aM A := fun q => by rw [hkp]; exact kpO_lt _ _ _ _ _
  have hks : ∀ w o, w < aN A → o < 2 ^ w → kp (2 ^ w + o) = kp o &&& dearO (aP A w) t (aM A) := fun w o h1 h2 => by rw [hkp]; exact kpO_step h1 h2
  rw [← hhit] at k
  have hin : ∀ (w : Nat), w < aN A → ∀ (K1 K2 : Int32 → Int32 → hsS → Prop) (s1 : hsS), FRm [] [b0 + 2] σ s1 → (∀ q, q < 2 ^ w → s1.2.1 (b0 + 2) q = nI (kp q)) → (∀ s2, FRm [] [b0 + 2] σ s2 → (∀ q, q < 2 ^ (w + 1) → s2.2.1 (b0 + 2) q = nI (kp q)) → ∀ z, K2 (nI (bsO hit (2 ^ (w + 1)))) z s2) → ∃ n, wX4_strikerOf_L50 b0 b (nI t) 0 (nI (2 ^ w)) (nI w) (nI (dearO (aP A w) t (aM A))) K1 K2 post n (nI (bsO hit (2 ^ w))) 0 s1 := fun w hw K1 K2 s1 f1 f2 kk => by
    have hw1 : 2 ^ (w + 1) = 2 ^ w + 2 ^ w := by rw [Nat.pow_succ]; omega
    have hw2 : 2 ^ (w + 1) ≤ 2 ^ aN A := Nat.pow_le_pow_right (by decide) hw
    exact pk_loop (fun n j (y : Int32 × hsS) => wX4_strikerOf_L50 b0 b (nI t) 0 (nI (2 ^ w)) (nI w) (nI (dearO (aP A w) t (aM A))) K1 K2 post n y.1 (nI j) y.2) (fun j y => y.1 = nI (bsO hit (2 ^ w + j)) ∧ FRm [] [b0 + 2] σ y.2 ∧ ∀ q, q < 2 ^ w + j → y.2.2.1 (b0 + 2) q = nI (kp q)) (2 ^ w) 0 (nI (bsO hit (2 ^ w)), s1) (Nat.zero_le _) ⟨rfl, f1, f2⟩
      (fun n y e => by
        obtain ⟨e1, e2, e3⟩ := e
        rw [wX4_strikerOf_L50]
        rw [← hw1] at e1 e3
        refine br_t (nI_le (Nat.le_refl _) (by omega)) ?_
        rw [e1]; exact kk y.2 e2 e3 _)
      (fun n j y hj e ih => by
        obtain ⟨y, s⟩ := y
        obtain ⟨e1, e2, e3⟩ := e
        dsimp only at e1 e2 e3 ⊢
        rw [wX4_strikerOf_L50]
        have hbl := bsO_le hit (2 ^ w + j)
        refine br_f (nI_ge hj (by omega)) (nm_r (nI_add _ _) ⟨pk_in j 256 (by omega), pk_in (2 ^ w + j) 256 (by omega), fun S hSe => ⟨pk_in (2 ^ w + j) 256 (by omega), ?_⟩⟩)
        have hF : FRm [] [b0 + 2] σ S := by rw [hSe]; exact e2.trans (FRm.arr _ (by simp))
        have h3 : ∀ q, q < 2 ^ w + j + 1 → S.2.1 (b0 + 2) q = nI (kp q) := by
          intro q hq
          rw [hSe, hsA_at, nI_clamp (by omega), nI_clamp (by omega)]
          rcases Nat.decEq q (2 ^ w + j) with z | z
          · rw [pk_un z]; exact e3 q (by omega)
          · subst z; rw [pk_us, e3 j (by omega), fa_and, hks w j hw hj]
        have hl := hkl (2 ^ w + j); have hsz := qs_sz_le (kp (2 ^ w + j))
        have hmq := hmay (2 ^ w + j) (by omega)
        rw [nI_clamp (by omega), h3 _ (by omega)]
        refine qx_bitCount (by omega) ⟨pk_in (2 ^ w + j) 256 (by omega), ?_⟩
        refine pk_lt (qs_sz (kp (2 ^ w + j))) (aM A - may (2 ^ w + j)) (fun c => ?_) (fun c => ?_) rfl (by rw [hx_m (h.frA hF (by omega)), hF.2.1 (b0 + 1) (by simp), hmq.1, pk_sub (by omega)])
        · refine nm_e ?_
          rw [nI_1]
          refine ih (y, S) ⟨?_, hF, h3⟩
          have hf : hit (2 ^ w + j) = false := by rw [hhit]; exact hitO_f (by rw [hkp] at c; dsimp only at c; omega)
          show y = nI (bsO hit (2 ^ w + j + 1))
          rw [bsO_succ, if_neg (by rw [hf]; decide)]; exact e1
        · have hf : hit (2 ^ w + j) = true := by rw [hhit]; exact hitO_t (by have := Nat.two_pow_pos w; omega) (by rw [hkp] at c; dsimp only at c; omega)
          refine pk_eq (bsO hit (2 ^ w + j)) 0 (fun c0 => ?_) (fun c0 => ?_) e1 rfl (by omega)
          · refine br_t rfl (nm_e ?_)
            rw [nI_1]
            refine ih (nI (2 ^ w + j), S) ⟨?_, hF, h3⟩
            show nI (2 ^ w + j) = nI (bsO hit (2 ^ w + j + 1))
            rw [bsO_succ, if_pos hf, if_pos c0]
          · rw [e1]
            have hlt := bsO_lt hit (2 ^ w + j - 1)
            have hpw := Nat.two_pow_pos w
            rw [show 2 ^ w + j - 1 + 1 = 2 ^ w + j by omega] at hlt
            refine qx_ahead (by omega) (by omega) (by omega) (br_t rfl (nm_e ?_))
            rw [nI_1]
            refine ih (_, S) ⟨?_, hF, h3⟩
            show _ = nI (bsO hit (2 ^ w + j + 1))
            rw [bsO_succ, if_pos hf, if_neg c0]; rfl)
  have L : ∀ (K1 K2 : Int32 → Int32 → Int32 → hsS → Prop) (s1 : hsS), FRm [] [b0 + 2] σ s1 → s1.2.1 (b0 + 2) 0 = nI (kp 0) → (∀ s2, FRm [] [b0 + 2] σ s2 → ∀ z1 z2, K2 (nI (bsO hit (2 ^ aN A))) z1 z2 s2) → ∃ n, wX4_strikerOf_L19 b0 b (nI t) 0 K1 K2 post n 0 1 0 s1 := fun K1 K2 s1 f1 f2 kk =>
    pk_loop (fun n j (y : Int32 × Int32 × hsS) => wX4_strikerOf_L19 b0 b (nI t) 0 K1 K2 post n y.1 y.2.1 (nI j) y.2.2) (fun j y => y.1 = nI (bsO hit (2 ^ j)) ∧ y.2.1 = nI (2 ^ j) ∧ FRm [] [b0 + 2] σ y.2.2 ∧ ∀ q, q < 2 ^ j → y.2.2.2.1 (b0 + 2) q = nI (kp q)) (aN A) 0 (0, 1, s1) (Nat.zero_le _) ⟨by rw [Nat.pow_zero, bsO_1 (by rw [hhit]; exact hitO_0 _ _ _ _ _)]; rfl, rfl, f1, fun q hq => by
        have : q = 0 := by rw [Nat.pow_zero] at hq; omega
        subst this; exact f2⟩
      (fun n y e => by
        obtain ⟨e1, e2, e3, e4⟩ := e
        rw [wX4_strikerOf_L19]
        refine br_t (by rw [hx_n (h.frA e3 (by omega))]; exact nI_le (Nat.le_refl _) (by omega)) ?_
        rw [e1]; exact kk _ e3 _ _)
      (fun n j y hj e ih => by
        obtain ⟨y, z, s⟩ := y
        obtain ⟨e1, e2, e3, e4⟩ := e
        dsimp only at e1 e2 e3 e4 ⊢
        rw [wX4_strikerOf_L19]
        have hS := h.frA e3 (by omega : b + 4 < b0 + 2)
        have hj7 : 2 ^ j ≤ 2 ^ 7 := Nat.pow_le_pow_right (by decide) (by omega)
        have hw1 : 2 ^ (j + 1) = 2 ^ j + 2 ^ j := by rw [Nat.pow_succ]; omega
        refine br_f (by rw [hx_n hS]; exact nI_ge hj (by omega)) (br_f (by rw [e2]; exact nI_ge (b := 256) (by omega) (by decide)) (qx_dearerThan ha hS hj ht ?_))
        rw [e1, e2]
        refine hin j hj _ _ s e3 e4 (fun s2 g1 g2 z => nm_e (nm_e ?_))
        rw [nI_add, nI_1, ← hw1]
        exact ih (_, _, s2) ⟨rfl, rfl, g1, g2⟩)
  refine qx_allThings ha h (fun S hSe => ?_)
  refine L _ _ S (by rw [hSe]; exact FRm.arr _ (by simp)) ?_ (fun s2 g1 _ _ => k s2 g1)
  rw [hSe, hsA_at, cl0, pk_us, hkp]; exact congrArg nI (kpO_none _ _ _ _).symm
end SetX
