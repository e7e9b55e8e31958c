/-! ===== sets of people and of things: a Nat by its bits ===== -/
theorem qb_bt (a : Nat) {i : Nat} (hi : i < 32) : bt (nI a) i = a.testBit i := by
  show (BitVec.ofNat 32 a).getLsbD i = _
  rw [BitVec.getLsbD_ofNat]; simp [hi]
theorem qb_and1 (y : Int32) : y &&& 1 = nI (if bt y 0 = true then 1 else 0) := by
  rw [pk_and y 1 (m := 1) (by decide)]
  have h2 : bt y 0 = decide (y.toBitVec.toNat % 2 = 1) := Nat.testBit_zero _
  rw [h2]
  rcases Nat.mod_two_eq_zero_or_one y.toBitVec.toNat with h | h <;> simp [h]
def qb_N (x : Int32) : Nat := x.toBitVec.toNat
theorem qb_N_nI {k : Nat} (h : k < 2 ^ 32) : qb_N (nI k) = k := pk_tn h
theorem qb_N_lt (x : Int32) : qb_N x < 2 ^ 32 := x.toBitVec.isLt
theorem qb_shr1 (x : Int32) {j : Nat} (hj : j < 32) : (x >>> (nI j &&& 31)) &&& 1 = nI (if (qb_N x).testBit j = true then 1 else 0) := by
  have h := b_sshr j hj x (i := 0) (by decide)
  rw [if_pos (show j + 0 < 32 by omega)] at h
  rw [qb_and1, h]; rfl
theorem qb_test (x : Int32) {j : Nat} (hj : j < 32) : ((x >>> (nI j &&& 31)) &&& 1) = 1 ↔ (qb_N x).testBit j = true := by
  rw [qb_shr1 x hj]
  cases (qb_N x).testBit j <;> decide
theorem qb_testN {s j : Nat} (hs : s < 2 ^ 31) (hj : j < 32) : ((nI s >>> (nI j &&& 31)) &&& 1) = 1 ↔ s.testBit j = true := by
  rw [qb_test _ hj, qb_N_nI (by omega)]
theorem qb_test0 {s j : Nat} (hs : s < 2 ^ 31) (hj : j < 32) : ((nI s >>> (nI j &&& 31)) &&& 1) = 0 ↔ s.testBit j = false := by
  rw [qb_shr1 _ hj, qb_N_nI (by omega)]
  cases s.testBit j <;> decide
theorem qb_one : ∀ j, j < 31 → ((1 : Int32) <<< (nI j &&& 31)) = nI (2 ^ j) := by decide
theorem qb_all {j : Nat} (h : j < 31) : ((1 : Int32) <<< (nI j &&& 31)) - 1 = nI (2 ^ j - 1) := by
  rw [qb_one j h]; exact pk_sub (a := 2 ^ j) (b := 1) (Nat.one_le_two_pow)
/-- a set without one -/
def qs_cl (s t : Nat) : Nat := s ^^^ (s &&& 2 ^ t)
theorem qs_cl_bit (s t i : Nat) : (qs_cl s t).testBit i = (s.testBit i && !decide (i = t)) := by
  unfold qs_cl
  rw [Nat.testBit_xor, Nat.testBit_and, Nat.testBit_two_pow]
  rcases Nat.decEq i t with h | h
  · have h2 : ¬ t = i := fun e => h e.symm
    simp [h, h2]
  · subst h; cases s.testBit i <;> simp
theorem qs_cl_le (s t : Nat) : qs_cl s t ≤ s := by
  have e : qs_cl s t = s &&& qs_cl s t := by
    apply Nat.eq_of_testBit_eq; intro i
    rw [Nat.testBit_and, qs_cl_bit]
    cases s.testBit i <;> rfl
  rw [e]; exact Nat.and_le_left
theorem qb_cl (s : Nat) {t : Nat} (ht : t < 31) : nI s &&& (((1 : Int32) <<< (nI t &&& 31)) ^^^ (-1)) = nI (qs_cl s t) := by
  apply b_ext; intro i hi
  rw [b_and, b_xor, b_m1 i hi, qb_one t ht, qb_bt _ hi, qb_bt _ hi, qb_bt _ hi, qs_cl_bit, Nat.testBit_two_pow]
  rcases Nat.decEq i t with h | h
  · have h2 : ¬ t = i := fun e => h e.symm
    simp [h, h2]
  · simp [h]
theorem qb_nand (s u : Nat) : nI s &&& (nI u ^^^ (-1)) = nI (s ^^^ (s &&& u)) := by
  apply b_ext; intro i hi
  rw [b_and, b_xor, b_m1 i hi, qb_bt _ hi, qb_bt _ hi, qb_bt _ hi, Nat.testBit_xor, Nat.testBit_and]
  cases s.testBit i <;> cases u.testBit i <;> rfl
/-- the set of those k below n with f k -/
def qs_mk (f : Nat → Bool) : Nat → Nat
  | 0 => 0
  | n + 1 => if f n = true then qs_mk f n ||| 2 ^ n else qs_mk f n
theorem qs_mk_succ (f : Nat → Bool) (n : Nat) : qs_mk f (n + 1) = if f n = true then qs_mk f n ||| 2 ^ n else qs_mk f n := rfl
theorem qs_mk_bit (f : Nat → Bool) (n k : Nat) : (qs_mk f n).testBit k = (decide (k < n) && f k) := by
  induction n with
  | zero => simp [qs_mk]
  | succ n ih =>
    rw [qs_mk_succ]
    rcases Nat.lt_trichotomy k n with h | h | h
    · have h1 : ¬ k = n := by omega
      have h2 : k < n + 1 := by omega
      split
      · rw [fb_bit_set, ih]; simp [h, h1, h2]
      · rw [ih]; simp [h, h2]
    · subst h
      split
      · rename_i hf; rw [fb_bit_set, ih]; simp [hf]
      · rename_i hf; rw [ih]; simp [hf]
    · have h1 : ¬ k = n := by omega
      have h2 : ¬ k < n + 1 := by omega
      have h3 : ¬ k < n := by omega
      split
      · rw [fb_bit_set, ih]; simp [h1, h2, h3]
      · rw [ih]; simp [h2, h3]
theorem qs_lt {a n : Nat} (h : ∀ i, n ≤ i → a.testBit i = false) : a < 2 ^ n := Nat.lt_pow_two_of_testBit _ (fun i hi => h i hi)
theorem qs_hi {a n i : Nat} (h : a < 2 ^ n) (hi : n ≤ i) : a.testBit i = false := Nat.testBit_lt_two_pow (Nat.lt_of_lt_of_le h (Nat.pow_le_pow_right (by decide) hi))
theorem qs_mk_lt (f : Nat → Bool) (n : Nat) : qs_mk f n < 2 ^ n := qs_lt (fun i hi => by rw [qs_mk_bit]; simp [Nat.not_lt.mpr hi])
theorem qs_full (m i : Nat) : (2 ^ m - 1).testBit i = decide (i < m) := Nat.testBit_two_pow_sub_one m i
theorem qs_ext {a b n : Nat} (ha : a < 2 ^ n) (hb : b < 2 ^ n) (h : ∀ i, i < n → a.testBit i = b.testBit i) : a = b := by
  apply Nat.eq_of_testBit_eq; intro i
  rcases Nat.lt_or_ge i n with hi | hi
  · exact h i hi
  · rw [qs_hi ha hi, qs_hi hb hi]
/-- how many -/
def qs_sz (s : Nat) : Nat := fb_ct s.testBit 12
theorem qs_and_lt {a b n : Nat} (h : b < 2 ^ n) : a &&& b < 2 ^ n := Nat.and_lt_two_pow _ h
theorem qs_and_lt' {a b n : Nat} (h : a < 2 ^ n) : a &&& b < 2 ^ n := Nat.lt_of_le_of_lt Nat.and_le_left h
theorem qs_cl_lt {a t n : Nat} (h : a < 2 ^ n) : qs_cl a t < 2 ^ n := Nat.lt_of_le_of_lt (qs_cl_le a t) h
theorem qs_sz_le (s : Nat) : qs_sz s ≤ 12 := fb_ct_le _ _
theorem qs_sz_cl {s t : Nat} (ht : t < 12) (h : s.testBit t = true) : qs_sz (qs_cl s t) + 1 = qs_sz s := by
  unfold qs_sz
  have e : fb_ct (qs_cl s t).testBit 12 = fb_ct (fun k => if k = t then false else s.testBit k) 12 := fb_ct_cong (fun k _ => by
    rw [qs_cl_bit]
    rcases Nat.decEq k t with h | h
    · simp [h]
    · simp [h])
  have e2 := fb_ct_upd s.testBit false (i := t) (n := 12) ht
  rw [h] at e2
  rw [e]; simpa using e2
theorem qs_sz_full : ∀ m, m ≤ 12 → qs_sz (2 ^ m - 1) = m := by decide
theorem qs_pos {s : Nat} (hs : s < 2 ^ 12) : 0 < qs_sz s ↔ s ≠ 0 := by
  unfold qs_sz
  rw [fb_ct_pos]
  constructor
  · rintro ⟨k, _, h⟩ e; rw [e, Nat.zero_testBit] at h; exact absurd h (by decide)
  · intro h
    apply Classical.byContradiction
    intro h2
    apply h
    apply Nat.eq_of_testBit_eq; intro i; rw [Nat.zero_testBit]
    rcases Nat.lt_or_ge i 12 with hi | hi
    · cases e : s.testBit i
      · rfl
      · exact absurd ⟨i, hi, e⟩ h2
    · exact qs_hi hs hi
