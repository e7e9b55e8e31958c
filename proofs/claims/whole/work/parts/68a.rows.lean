/-! ===== turns in all rows: the class ===== -/
theorem fmO_mem {f : Nat → List Nat} {e : Nat} : ∀ {n : Nat}, e ∈ fmO f n ↔ ∃ p, p < n ∧ e ∈ f p
  | 0 => ⟨fun h => absurd h List.not_mem_nil, fun ⟨p, h, _⟩ => absurd h (Nat.not_lt_zero _)⟩
  | n + 1 => by
    show e ∈ fmO f n ++ f n ↔ _
    rw [List.mem_append, fmO_mem]
    constructor
    · rintro (⟨p, h1, h2⟩ | h)
      · exact ⟨p, by omega, h2⟩
      · exact ⟨n, by omega, h⟩
    · rintro ⟨p, h1, h2⟩
      rcases Nat.decEq p n with z | z
      · exact Or.inl ⟨p, by omega, h2⟩
      · subst z; exact Or.inr h2
theorem orL_bit : ∀ (l : List Nat) (a i : Nat), (orL a l).testBit i = true ↔ a.testBit i = true ∨ ∃ e, e ∈ l ∧ e.testBit i = true
  | [], a, i => ⟨fun h => Or.inl h, fun h => by
      rcases h with h | ⟨e, h, _⟩
      · exact h
      · cases h⟩
  | x :: l, a, i => by
    show (orL (a ||| x) l).testBit i = true ↔ _
    rw [orL_bit l, Nat.testBit_or, Bool.or_eq_true]
    constructor
    · rintro ((h | h) | ⟨e, h1, h2⟩)
      · exact Or.inl h
      · exact Or.inr ⟨x, List.mem_cons_self, h⟩
      · exact Or.inr ⟨e, List.mem_cons_of_mem _ h1, h2⟩
    · rintro (h | ⟨e, h1, h2⟩)
      · exact Or.inl (Or.inl h)
      · rcases List.mem_cons.mp h1 with h1 | h1
        · subst h1; exact Or.inl (Or.inr h2)
        · exact Or.inr ⟨e, h1, h2⟩
theorem andL_bit : ∀ (l : List Nat) (a i : Nat), (andL a l).testBit i = true ↔ a.testBit i = true ∧ ∀ e, e ∈ l → e.testBit i = true
  | [], a, i => ⟨fun h => ⟨h, fun e he => by cases he⟩, fun h => h.1⟩
  | x :: l, a, i => by
    show (andL (a &&& x) l).testBit i = true ↔ _
    rw [andL_bit l, Nat.testBit_and, Bool.and_eq_true]
    constructor
    · rintro ⟨⟨h1, h2⟩, h3⟩
      refine ⟨h1, fun e he => ?_⟩
      rcases List.mem_cons.mp he with he | he
      · subst he; exact h2
      · exact h3 e he
    · rintro ⟨h1, h2⟩
      exact ⟨⟨h1, h2 x List.mem_cons_self⟩, fun e he => h2 e (List.mem_cons_of_mem _ he)⟩
def dgG (u : Nat → Nat) (nt g p : Nat) : Nat := fb_ct (fun i => decide (u i = p) && !g.testBit i) nt
def kG (nt g : Nat) : Nat := fb_ct (fun i => !g.testBit i) nt
/-- the ends behind the turns g, when r are left -/
def eG (A : AH) (g r : Nat) : List Nat := rgL (aP A) (aM A) (aN A) (kG (aNt A) g) (dgG (aU A) (aNt A) g) r
def newG (u : Nat → Nat) (g i : Nat) : Prop := g.testBit i = false ∧ ∀ j, j < i → g.testBit j = false → u j ≠ u i
theorem eG_0 (A : AH) (r : Nat) : eG A 0 r = rgL (aP A) (aM A) (aN A) (aNt A) (dueO (aU A) (aNt A)) r := by
  unfold eG
  have e1 : kG (aNt A) 0 = aNt A := fb_ct_all.mpr (fun k _ => by simp)
  have e2 : dgG (aU A) (aNt A) 0 = dueO (aU A) (aNt A) := funext (fun p => fb_ct_cong (fun k _ => by simp))
  rw [e1, e2]
theorem kG_step {nt g i : Nat} (hi : i < nt) (hg : g.testBit i = false) : kG nt (g ||| 2 ^ i) + 1 = kG nt g := by
  have h := fb_ct_upd (fun k => !g.testBit k) false (i := i) (n := nt) hi
  have e : fb_ct (fun k => if k = i then false else !g.testBit k) nt = kG nt (g ||| 2 ^ i) := fb_ct_cong (fun k _ => by
    rw [fb_bit_set]
    rcases Nat.decEq k i with z | z
    · simp [z]
    · simp [z])
  rw [e] at h
  rw [hg] at h
  simpa [kG] using h
theorem dgG_step {u : Nat → Nat} {nt g i : Nat} (hi : i < nt) (hg : g.testBit i = false) : dgG u nt (g ||| 2 ^ i) = decO (dgG u nt g) (u i) := by
  funext q
  have h := fb_ct_upd (fun k => decide (u k = q) && !g.testBit k) false (i := i) (n := nt) hi
  have e : fb_ct (fun k => if k = i then false else (decide (u k = q) && !g.testBit k)) nt = dgG u nt (g ||| 2 ^ i) q := fb_ct_cong (fun k _ => by
    rw [fb_bit_set]
    rcases Nat.decEq k i with z | z
    · simp [z]
    · simp [z])
  rw [e, hg] at h
  unfold decO
  rcases Nat.decEq q (u i) with z | z
  · rw [if_neg z]
    have z2 : ¬ u i = q := fun c => z c.symm
    simp [z2] at h
    exact h
  · rw [if_pos z]
    simp [z] at h
    show _ = dgG u nt g q - 1
    have : dgG u nt g q = fb_ct (fun k => decide (u k = u i) && !g.testBit k) nt := by rw [z]; rfl
    rw [z] at this ⊢
    omega
theorem eG_full {A : AH} {g r : Nat} (h : ∀ i, i < aNt A → g.testBit i = true) : eG A g r = [r] := by
  unfold eG
  rw [show kG (aNt A) g = 0 from fb_ct_zero.mpr (fun k hk => by rw [h k hk]; rfl)]; rfl
theorem eG_step {A : AH} (ha : AW A) {g r e : Nat} (h : ∃ i, i < aNt A ∧ g.testBit i = false) : e ∈ eG A g r ↔ ∃ i, i < aNt A ∧ newG (aU A) g i ∧ e ∈ eG A (g ||| 2 ^ i) (spO (aP A (aU A i)) (aM A) r) := by
  obtain ⟨i0, hi0, hg0⟩ := h
  have hpos : 0 < kG (aNt A) g := fb_ct_pos.mpr ⟨i0, hi0, by rw [hg0]; rfl⟩
  obtain ⟨k, hk⟩ : ∃ k, kG (aNt A) g = k + 1 := ⟨kG (aNt A) g - 1, by omega⟩
  have e1 : eG A g r = fmO (fun p => if dgG (aU A) (aNt A) g p = 0 then [] else rgL (aP A) (aM A) (aN A) k (decO (dgG (aU A) (aNt A) g) p) (spO (aP A p) (aM A) r)) (aN A) := by
    unfold eG; rw [hk]; rfl
  have e2 : ∀ i, i < aNt A → g.testBit i = false → eG A (g ||| 2 ^ i) (spO (aP A (aU A i)) (aM A) r) = rgL (aP A) (aM A) (aN A) k (decO (dgG (aU A) (aNt A) g) (aU A i)) (spO (aP A (aU A i)) (aM A) r) := fun i hi hg => by
    unfold eG
    rw [dgG_step hi hg, show kG (aNt A) (g ||| 2 ^ i) = k by have := kG_step hi hg; omega]
  rw [e1, fmO_mem]
  constructor
  · rintro ⟨p, hp, he⟩
    by_cases hz : dgG (aU A) (aNt A) g p = 0
    · rw [if_pos hz] at he; cases he
    · rw [if_neg hz] at he
      have hq : 0 < dgG (aU A) (aNt A) g p := by omega
      obtain ⟨j, hj, hjb⟩ := fb_ct_pos.mp hq
      have hjb2 : aU A j = p ∧ g.testBit j = false := by simpa using hjb
      obtain ⟨i, hi, ⟨hu, hg⟩, hmin⟩ := fb_first (p := fun i => aU A i = p ∧ g.testBit i = false) ⟨j, hj, hjb2⟩
      subst hu
      refine ⟨i, hi, ⟨hg, fun q h1 h2 h3 => hmin q h1 ⟨h3, h2⟩⟩, ?_⟩
      rw [e2 i hi hg]; exact he
  · rintro ⟨i, hi, ⟨hg, _⟩, he⟩
    refine ⟨aU A i, aw_u ha hi, ?_⟩
    rw [if_neg]
    · rw [← e2 i hi hg]; exact he
    · intro hz
      have := fb_ct_zero.mp hz i hi
      simp [hg] at this
theorem qs_notfull {n g : Nat} (hg : g < 2 ^ n) (h : g ≠ 2 ^ n - 1) : ∃ i, i < n ∧ g.testBit i = false := by
  apply Classical.byContradiction
  intro c
  apply h
  have hp := Nat.two_pow_pos n
  refine qs_ext hg (by omega) (fun i hi => ?_)
  rw [qs_full]
  cases e : g.testBit i with
  | false => exact absurd ⟨i, hi, e⟩ c
  | true => simp [hi]
theorem qs_or_gt {g i : Nat} (h : g.testBit i = false) : g < g ||| 2 ^ i := by
  have h1 : g ≤ g ||| 2 ^ i := Nat.left_le_or
  have h2 : g ≠ g ||| 2 ^ i := fun e => by
    have := fb_bit_set g i i
    rw [← e, h] at this; simp at this
  omega
/-! bits of a row of longs -/
theorem lb_one (y : Int64) : y &&& 1 = 1 ↔ y.toBitVec.getLsbD 0 = true := by
  obtain ⟨n, hn, rfl⟩ := wb_of y
  rw [wb_a1 hn, show (1 : Int64) = lN 1 from rfl, fb_lN_inj (by omega) (by omega), wb_tb, BitVec.getLsbD_ofNat, Nat.testBit_zero]
  simp
theorem lb_sm : ∀ k, k < 64 → (((nI k).toInt64 &&& 63).toBitVec.smod 64).toNat = k := by decide +kernel
theorem lb_shr (z : Int64) {k : Nat} (hk : k < 64) : (z >>> ((nI k).toInt64 &&& 63)).toBitVec.getLsbD 0 = z.toBitVec.getLsbD k := by
  rw [Int64.toBitVec_shiftRight]
  show (z.toBitVec.sshiftRight (((nI k).toInt64 &&& 63).toBitVec.smod 64).toNat).getLsbD 0 = _
  rw [lb_sm k hk, BitVec.getLsbD_sshiftRight]
  simp [hk]
theorem lb_test (z : Int64) {k : Nat} (hk : k < 64) : (z >>> ((nI k).toInt64 &&& 63)) &&& (1 : Int64) = (1 : Int64) ↔ z.toBitVec.getLsbD k = true := by
  rw [lb_one, lb_shr z hk]
theorem lb_pow {k j : Nat} (hj : j < 64) : ((1 : Int64) <<< ((nI k).toInt64 &&& 63)).toBitVec.getLsbD j = decide (j = k) ∨ 64 ≤ k := by
  rcases Nat.lt_or_ge k 64 with hk | hk
  · left
    rw [show (1 : Int64) = lN 1 from rfl, wb_shl 1 hk, wb_tb, BitVec.getLsbD_ofNat, Nat.one_mul, Nat.testBit_two_pow]
    rcases Nat.decEq j k with z | z
    · have z2 : ¬ k = j := fun c => z c.symm
      simp [z, z2]
    · subst z; simp [hj]
  · exact Or.inr hk
def SN (s : hsS) (c : Nat) : Bool := decide (c < 131072) && (s.2.2 24 (c / 64)).toBitVec.getLsbD (c % 64)
def FRl (I : List Nat) (σ σ' : hsS) : Prop := (∀ k, k ∉ I → σ'.1 k = σ.1 k) ∧ σ'.2.1 = σ.2.1 ∧ ∀ k, k ≠ 24 → σ'.2.2 k = σ.2.2 k
theorem FRl.rf {I : List Nat} {σ : hsS} : FRl I σ σ := ⟨fun _ _ => rfl, rfl, fun _ _ => rfl⟩
theorem FRl.trans {I : List Nat} {σ σ' σ'' : hsS} (h : FRl I σ σ') (h' : FRl I σ' σ'') : FRl I σ σ'' := ⟨fun k hk => by rw [h'.1 k hk, h.1 k hk], by rw [h'.2.1, h.2.1], fun k hk => by rw [h'.2.2 k hk, h.2.2 k hk]⟩
theorem FRl.weak {I I' : List Nat} {σ σ' : hsS} (h : FRl I σ σ') (hI : ∀ k ∈ I, k ∈ I') : FRl I' σ σ' := ⟨fun k hk => h.1 k (fun c => hk (hI k c)), h.2⟩
theorem FRl.int {I : List Nat} {σ : hsS} {k : Nat} (v : Int32) (hk : k ∈ I) : FRl I σ (hsI σ k v) := ⟨fun j hj => hsI_ne _ _ (fun e => hj (by rw [e]; exact hk)), rfl, fun _ _ => rfl⟩
theorem FRl.lng {I : List Nat} {σ : hsS} (f : Nat → Int64) : FRl I σ (hsL σ 24 f) := ⟨fun _ _ => rfl, rfl, fun k hk => by
  show va_up σ.2.2 24 f k = _
  exact va_up_ne _ _ hk⟩
theorem hsL_at (σ : hsS) (k : Nat) (f : Nat → Int64) : (hsL σ k f).2.2 k = f := by show va_up σ.2.2 k f k = f; exact va_up_self _ _ _
theorem HX.frl {b : Nat} {A : AH} {I : List Nat} {σ σ' : hsS} (h : HX b A σ) (hf : FRl I σ σ') (hI : ∀ k, k < 8 → 64 * b + k ∉ I) : HX b A σ' := by
  obtain ⟨h1, h2, h3, h4, h5⟩ := h
  refine ⟨fun k hk => by rw [hf.1 _ (hI k hk)]; exact h1 k hk, ?_, ?_, ?_, ?_⟩
  · rw [hf.2.1]; exact h2
  · rw [hf.2.1]; exact h3
  · rw [hf.2.1]; exact h4
  · rw [hf.2.1]; exact h5
theorem qx_mark {σ : hsS} {g r : Nat} (hg : g < 256) (hr : r < 512) {post : hsS → Prop} (k : ∀ σ', FRl [] σ σ' → (∀ c, SN σ' c = true ↔ SN σ c = true ∨ c = 512 * g + r) → post σ') : wX6_mark 23 (nI g) (nI r) post σ := by
  refine nm_r (e' := nI (8 * g + r / 64)) ?_ (br_f (nI_pos (by omega)) (br_f (nI_ge (b := 2048) (by omega) (by decide)) ⟨pk_in (8 * g + r / 64) 2048 (by omega), pk_in (8 * g + r / 64) 2048 (by omega), fun S hS => ?_⟩))
  · rw [show (8 : Int32) = nI 8 from rfl, pk_mul, pk_shrN (by omega) ((6 : Int32) &&& 31) 6 (by decide), nI_add, Nat.mul_comm]
  · rw [nI_clamp (by omega), pk_andN (by omega) 6 (by decide)] at hS
    have hat : S.2.2 24 = vp_updL (σ.2.2 24) (8 * g + r / 64) (σ.2.2 24 (8 * g + r / 64) ||| ((1 : Int64) <<< ((nI (r % 2 ^ 6)).toInt64 &&& 63))) := by rw [hS]; exact hsL_at _ _ _
    refine k S (by rw [hS]; exact FRl.lng _) (fun c => ?_)
    unfold SN
    rw [hat]
    rcases Nat.decEq (c / 64) (8 * g + r / 64) with z | z
    · rw [pk_uLn z]
      constructor
      · intro h; exact Or.inl h
      · intro h
        rcases h with h | h
        · exact h
        · exact absurd (by omega) z
    · rw [z, pk_uLs, Int64.toBitVec_or, BitVec.getLsbD_or]
      have hp := lb_pow (k := r % 2 ^ 6) (j := c % 64) (by omega)
      have hlt : r % 2 ^ 6 < 64 := Nat.mod_lt _ (by decide)
      have hp2 : ((1 : Int64) <<< ((nI (r % 2 ^ 6)).toInt64 &&& 63)).toBitVec.getLsbD (c % 64) = decide (c % 64 = r % 2 ^ 6) := by
        rcases hp with hp | hp
        · exact hp
        · omega
      rw [hp2]
      have hc : c < 131072 := by omega
      simp only [hc, decide_true, Bool.true_and, Bool.or_eq_true, decide_eq_true_eq]
      constructor
      · intro h
        rcases h with h | h
        · exact Or.inl h
        · right
          have h64 : r % 2 ^ 6 = r % 64 := rfl
          omega
      · intro h
        rcases h with h | h
        · exact Or.inl h
        · right
          have h64 : r % 2 ^ 6 = r % 64 := rfl
          omega
/-- at c: what was collected, and what is still to be reached -/
def IV (A : AH) (c : Nat) (s : hsS) : Prop := (∀ c', SN s c' = true → c' / 512 < 2 ^ aNt A ∧ c' % 512 < 2 ^ aM A) ∧ ∃ (C : Nat → Prop) (x y : Nat), s.1 1474 = nI x ∧ s.1 1475 = nI y ∧ y < 2 ^ aM A ∧ (∀ i, x.testBit i = true ↔ ∃ e, C e ∧ e.testBit i = true) ∧ (∀ i, i < aM A → (y.testBit i = true ↔ ∀ e, C e → e.testBit i = true)) ∧ ∀ e, e ∈ rwL A ↔ C e ∨ ∃ c', c ≤ c' ∧ SN s c' = true ∧ e ∈ eG A (c' / 512) (c' % 512)
theorem IV.skip {A : AH} {s : hsS} : ∀ (d : Nat) {c : Nat}, IV A c s → (∀ j, j < d → SN s (c + j) = false) → IV A (c + d) s := by
  intro d c h hd
  obtain ⟨h1, C, x, y, h2, h3, h4, h5, h6, h7⟩ := h
  refine ⟨h1, C, x, y, h2, h3, h4, h5, h6, fun e => ?_⟩
  rw [h7 e]
  constructor
  · rintro (h | ⟨c', g1, g2, g3⟩)
    · exact Or.inl h
    · refine Or.inr ⟨c', ?_, g2, g3⟩
      rcases Nat.lt_or_ge c' (c + d) with z | z
      · have := hd (c' - c) (by omega)
        rw [show c + (c' - c) = c' by omega, g2] at this; exact absurd this (by decide)
      · exact z
  · rintro (h | ⟨c', g1, g2, g3⟩)
    · exact Or.inl h
    · exact Or.inr ⟨c', by omega, g2, g3⟩
section RowX
variable {A : AH} {σ : hsS}
theorem qx_takeEach (ha : AW A) (hx : HX 1 A σ) {g r : Nat} (hg : g < 2 ^ aNt A) (hr : r < 2 ^ aM A) (hi : IV A (512 * g + r) σ) (hs : SN σ (512 * g + r) = true) {post : hsS → Prop} (k : ∀ σ', FRl [1474, 1475] σ σ' → IV A (512 * g + r + 1) σ' → (∀ c', c' / 512 = g → SN σ' c' = SN σ c') → post σ') : wX6_takeEachTurn 23 1 (nI g) (nI r) post σ := by
  have hm := aw_m ha; have hnt := aw_nt ha; have hn := aw_n ha
  have hm9 : 2 ^ aM A ≤ 2 ^ 9 := Nat.pow_le_pow_right (by decide) hm.2
  have hn8 : 2 ^ aNt A ≤ 2 ^ 8 := Nat.pow_le_pow_right (by decide) (by omega)
  have hpp := Nat.two_pow_pos (aNt A)
  have hd1 : (512 * g + r) / 512 = g := by omega
  have hd2 : (512 * g + r) % 512 = r := by omega
  obtain ⟨h1, C, x, y, h2, h3, h4, h5, h6, h7⟩ := hi
  unfold wX6_takeEachTurn
  rw [hx_nt hx, qb_all (by omega)]
  refine pk_eq g (2 ^ aNt A - 1) (fun c => fun s2 e2 s3 e3 => ?_) (fun c => ?_)
  · have hfull : ∀ i, i < aNt A → g.testBit i = true := fun i hi => by rw [c, qs_full]; simp [hi]
    have f3 : FRl [1474, 1475] σ s3 := by rw [e3, e2]; exact (FRl.int _ (by decide)).trans (FRl.int _ (by decide))
    have a4 : s3.1 1474 = nI (x ||| r) := by
      rw [← fa_or, ← h2, e3, hsI_ne _ _ (by decide), e2]; exact hsI_at _ _ _
    have a5 : s3.1 1475 = nI (y &&& r) := by
      have : s2.1 1475 = nI y := by rw [e2, hsI_ne _ _ (by decide)]; exact h3
      rw [← fa_and, ← this, e3]; exact hsI_at _ _ _
    have hS : ∀ c', SN s3 c' = SN σ c' := fun c' => by unfold SN; rw [e3, e2]; rfl
    refine k s3 f3 ⟨fun c' hc' => h1 c' (by rw [← hS]; exact hc'), fun e => C e ∨ e = r, x ||| r, y &&& r, a4, a5, qs_and_lt hr, fun i => ?_, fun i hi => ?_, fun e => ?_⟩ (fun c' _ => hS c')
    · rw [Nat.testBit_or, Bool.or_eq_true, h5 i]
      constructor
      · rintro (⟨e, q1, q2⟩ | q)
        · exact ⟨e, Or.inl q1, q2⟩
        · exact ⟨r, Or.inr rfl, q⟩
      · rintro ⟨e, q1 | q1, q2⟩
        · exact Or.inl ⟨e, q1, q2⟩
        · subst q1; exact Or.inr q2
    · rw [Nat.testBit_and, Bool.and_eq_true, h6 i hi]
      constructor
      · rintro ⟨q1, q2⟩ e (q3 | q3)
        · exact q1 e q3
        · subst q3; exact q2
      · intro q
        exact ⟨fun e he => q e (Or.inl he), q r (Or.inr rfl)⟩
    · rw [h7 e]
      constructor
      · rintro (q | ⟨c', q1, q2, q3⟩)
        · exact Or.inl (Or.inl q)
        · rcases Nat.decEq c' (512 * g + r) with z | z
          · exact Or.inr ⟨c', by omega, by rw [hS]; exact q2, q3⟩
          · subst z
            rw [hd1, hd2, eG_full hfull] at q3
            exact Or.inl (Or.inr (List.mem_singleton.mp q3))
      · rintro ((q | q) | ⟨c', q1, q2, q3⟩)
        · exact Or.inl q
        · refine Or.inr ⟨512 * g + r, Nat.le_refl _, hs, ?_⟩
          rw [hd1, hd2, eG_full hfull, q]; exact List.mem_singleton.mpr rfl
        · exact Or.inr ⟨c', by omega, by rw [← hS]; exact q2, q3⟩
  · have hne := qs_notfull hg c
    have L : ∀ K : Int32 → Int32 → hsS → Prop, (∀ s, FRl [] σ s → (∀ c', SN s c' = true ↔ SN σ c' = true ∨ ∃ j, j < aNt A ∧ newG (aU A) g j ∧ c' = 512 * (g ||| 2 ^ j) + spO (aP A (aU A j)) (aM A) r) → ∀ z1 z2, K z1 z2 s) → ∃ n, wX6_takeEachTurn_L39 23 1 (nI g) (nI r) K post n 0 0 σ := fun K kk =>
      pk_loop (fun n i (q : Int32 × hsS) => wX6_takeEachTurn_L39 23 1 (nI g) (nI r) K post n q.1 (nI i) q.2) (fun i q => ∃ T, q.1 = nI T ∧ T < 256 ∧ (∀ w, T.testBit w = true ↔ ∃ j, j < i ∧ g.testBit j = false ∧ aU A j = w) ∧ FRl [] σ q.2 ∧ ∀ c', SN q.2 c' = true ↔ SN σ c' = true ∨ ∃ j, j < i ∧ newG (aU A) g j ∧ c' = 512 * (g ||| 2 ^ j) + spO (aP A (aU A j)) (aM A) r) (aNt A) 0 (0, σ) (Nat.zero_le _) ⟨0, rfl, by decide, fun w => ⟨fun h => by simp at h, fun ⟨j, h, _⟩ => absurd h (Nat.not_lt_zero _)⟩, FRl.rf, fun c' => ⟨fun h => Or.inl h, fun h => by
          rcases h with h | ⟨j, h, _⟩
          · exact h
          · exact absurd h (Nat.not_lt_zero _)⟩⟩
        (fun n q e => by
          obtain ⟨T, t1, t2, t3, t4, t5⟩ := e
          rw [wX6_takeEachTurn_L39]
          exact br_t (by rw [hx_nt (hx.frl t4 (by simp))]; exact nI_le (Nat.le_refl _) (by omega)) (kk _ t4 t5 _ _))
        (fun n i q hi e ih => by
          obtain ⟨q1, s⟩ := q
          obtain ⟨T, t1, t2, t3, t4, t5⟩ := e
          dsimp only at t1 t4 t5 ⊢
          have hxs := hx.frl t4 (by simp)
          have hu := aw_u ha hi
          rw [wX6_takeEachTurn_L39]
          refine br_f (by rw [hx_nt hxs]; exact nI_ge hi (by omega)) ⟨pk_in i 8 (by omega), nm_r (e' := nI (aU A i)) (by rw [nI_clamp (by omega)]; exact hx_u hxs hi) ?_⟩
          refine ek_if (qb_test0 (by omega) (by omega)) (fun c1 => ?_) (fun c1 => nm_e ?_)
          · rw [t1]
            refine ek_if (qb_test0 (by omega) (by omega)) (fun c2 => ?_) (fun c2 => nm_e ?_)
            · have hnew : newG (aU A) g i := ⟨c1, fun j h1 h2 h3 => by
                have := (t3 (aU A i)).mpr ⟨j, h1, h2, h3⟩
                rw [c2] at this; exact absurd this (by decide)⟩
              refine nm_r (e' := nI (T ||| 2 ^ aU A i)) (by rw [qb_one _ (by omega), fa_or]) (qx_strikePlainly ha hxs hu hr ?_)
              rw [qb_one _ (by omega), fa_or]
              have hG : g ||| 2 ^ i < 2 ^ aNt A := Nat.or_lt_two_pow hg (Nat.pow_lt_pow_right (by decide) hi)
              have hR := spO_lt (f := aP A (aU A i)) hr
              refine qx_mark (by omega) (by omega) (fun S f1 f2 => nm_e ?_)
              rw [nI_1]
              refine ih (_, S) ⟨T ||| 2 ^ aU A i, rfl, Nat.or_lt_two_pow (n := 8) t2 (Nat.pow_lt_pow_right (by decide) (by omega)), fun w => ?_, t4.trans f1, fun c' => ?_⟩
              · rw [fb_bit_set, Bool.or_eq_true, t3 w, decide_eq_true_eq]
                constructor
                · rintro (⟨j, p1, p2, p3⟩ | p)
                  · exact ⟨j, by omega, p2, p3⟩
                  · exact ⟨i, by omega, c1, p.symm⟩
                · rintro ⟨j, p1, p2, p3⟩
                  rcases Nat.decEq j i with z | z
                  · exact Or.inl ⟨j, by omega, p2, p3⟩
                  · subst z; exact Or.inr p3.symm
              · rw [f2 c', t5 c']
                constructor
                · rintro ((p | ⟨j, p1, p2, p3⟩) | p)
                  · exact Or.inl p
                  · exact Or.inr ⟨j, by omega, p2, p3⟩
                  · exact Or.inr ⟨i, by omega, hnew, p⟩
                · rintro (p | ⟨j, p1, p2, p3⟩)
                  · exact Or.inl (Or.inl p)
                  · rcases Nat.decEq j i with z | z
                    · exact Or.inl (Or.inr ⟨j, by omega, p2, p3⟩)
                    · subst z; exact Or.inr p3
            · rw [nI_1]
              have hT : T.testBit (aU A i) = true := ts_nf c2
              obtain ⟨j0, p1, p2, p3⟩ := (t3 _).mp hT
              refine ih (nI T, s) ⟨T, rfl, t2, fun w => ?_, t4, fun c' => ?_⟩
              · rw [t3 w]
                constructor
                · rintro ⟨j, p1, p2, p3⟩; exact ⟨j, by omega, p2, p3⟩
                · rintro ⟨j, q1, q2, q3⟩
                  rcases Nat.decEq j i with z | z
                  · exact ⟨j, by omega, q2, q3⟩
                  · subst z; exact ⟨j0, p1, p2, by rw [p3, q3]⟩
              · show SN s c' = true ↔ _
                rw [t5 c']
                constructor
                · rintro (p | ⟨j, p1, p2, p3⟩)
                  · exact Or.inl p
                  · exact Or.inr ⟨j, by omega, p2, p3⟩
                · rintro (p | ⟨j, q1, q2, q3⟩)
                  · exact Or.inl p
                  · rcases Nat.decEq j i with z | z
                    · exact Or.inr ⟨j, by omega, q2, q3⟩
                    · subst z; exact absurd p3 (q2.2 j0 p1 p2)
          · rw [nI_1]
            have hb : g.testBit i = true := ts_nf c1
            refine ih (q1, s) ⟨T, t1, t2, fun w => ?_, t4, fun c' => ?_⟩
            · rw [t3 w]
              constructor
              · rintro ⟨j, p1, p2, p3⟩; exact ⟨j, by omega, p2, p3⟩
              · rintro ⟨j, q1, q2, q3⟩
                rcases Nat.decEq j i with z | z
                · exact ⟨j, by omega, q2, q3⟩
                · subst z; rw [hb] at q2; exact absurd q2 (by decide)
            · show SN s c' = true ↔ _
              rw [t5 c']
              constructor
              · rintro (p | ⟨j, p1, p2, p3⟩)
                · exact Or.inl p
                · exact Or.inr ⟨j, by omega, p2, p3⟩
              · rintro (p | ⟨j, q1, q2, q3⟩)
                · exact Or.inl p
                · rcases Nat.decEq j i with z | z
                  · exact Or.inr ⟨j, by omega, q2, q3⟩
                  · subst z; rw [q2.1] at hb; exact absurd hb (by decide))
    refine L _ (fun s f1 f2 z1 z2 => ?_)
    have hdm : ∀ j, j < aNt A → newG (aU A) g j → (512 * (g ||| 2 ^ j) + spO (aP A (aU A j)) (aM A) r) / 512 = g ||| 2 ^ j ∧ (512 * (g ||| 2 ^ j) + spO (aP A (aU A j)) (aM A) r) % 512 = spO (aP A (aU A j)) (aM A) r ∧ g < g ||| 2 ^ j ∧ g ||| 2 ^ j < 2 ^ aNt A ∧ spO (aP A (aU A j)) (aM A) r < 2 ^ aM A := fun j hj hw => by
      have hG : g ||| 2 ^ j < 2 ^ aNt A := Nat.or_lt_two_pow hg (Nat.pow_lt_pow_right (by decide) hj)
      have hR := spO_lt (f := aP A (aU A j)) hr
      exact ⟨by omega, by omega, qs_or_gt hw.1, hG, hR⟩
    refine k s (f1.weak (by simp)) ⟨fun c' hc' => ?_, C, x, y, by rw [f1.1 _ (by simp)]; exact h2, by rw [f1.1 _ (by simp)]; exact h3, h4, h5, h6, fun e => ?_⟩ (fun c' hc' => ?_)
    · rcases (f2 c').mp hc' with p | ⟨j, p1, p2, p3⟩
      · exact h1 c' p
      · obtain ⟨w1, w2, w3, w4, w5⟩ := hdm j p1 p2
        rw [p3, w1, w2]; exact ⟨w4, w5⟩
    · rw [h7 e]
      constructor
      · rintro (q | ⟨c', q1, q2, q3⟩)
        · exact Or.inl q
        · rcases Nat.decEq c' (512 * g + r) with z | z
          · exact Or.inr ⟨c', by omega, (f2 c').mpr (Or.inl q2), q3⟩
          · subst z
            rw [hd1, hd2] at q3
            obtain ⟨j, p1, p2, p3⟩ := (eG_step ha hne).mp q3
            obtain ⟨w1, w2, w3, w4, w5⟩ := hdm j p1 p2
            exact Or.inr ⟨512 * (g ||| 2 ^ j) + spO (aP A (aU A j)) (aM A) r, by omega, (f2 _).mpr (Or.inr ⟨j, p1, p2, rfl⟩), by rw [w1, w2]; exact p3⟩
      · rintro (q | ⟨c', q1, q2, q3⟩)
        · exact Or.inl q
        · rcases (f2 c').mp q2 with p | ⟨j, p1, p2, p3⟩
          · exact Or.inr ⟨c', by omega, p, q3⟩
          · obtain ⟨w1, w2, w3, w4, w5⟩ := hdm j p1 p2
            rw [p3, w1, w2] at q3
            refine Or.inr ⟨512 * g + r, Nat.le_refl _, hs, ?_⟩
            rw [hd1, hd2]
            exact (eG_step ha hne).mpr ⟨j, p1, p2, q3⟩
    · have : SN s c' = true ↔ SN σ c' = true := by
        rw [f2 c']
        constructor
        · rintro (p | ⟨j, p1, p2, p3⟩)
          · exact p
          · obtain ⟨w1, w2, w3, w4, w5⟩ := hdm j p1 p2
            rw [p3, w1] at hc'; omega
        · exact fun p => Or.inl p
      cases e1 : SN s c' <;> cases e2 : SN σ c'
      · rfl
      · rw [e1, e2] at this; exact absurd (this.mpr rfl) (by decide)
      · rw [e1, e2] at this; exact absurd (this.mp rfl) (by decide)
      · rfl
theorem qx_goOnFrom (ha : AW A) (hx : HX 1 A σ) {g w : Nat} (hg : g < 2 ^ aNt A) (hw : w < 8) (hi : IV A (512 * g + 64 * w) σ) {post : hsS → Prop} (k : ∀ σ', FRl [1474, 1475] σ σ' → IV A (512 * g + 64 * w + 64) σ' → post σ') : wX6_goOnFrom 23 1 (nI g) (nI w) post σ := by
  have hm := aw_m ha; have hnt := aw_nt ha
  have hn8 : 2 ^ aNt A ≤ 2 ^ 8 := Nat.pow_le_pow_right (by decide) (by omega)
  have e8 : nI g * (8 : Int32) + nI w = nI (8 * g + w) := by rw [show (8 : Int32) = nI 8 from rfl, pk_mul, nI_add, Nat.mul_comm]
  refine ⟨pk_in (8 * g + w) 2048 (by omega) e8, nm_r (e' := σ.2.2 24 (8 * g + w)) (by rw [e8, nI_clamp (by omega)]) ?_⟩
  have L : ∀ K : Int32 → hsS → Prop, (∀ s, FRl [1474, 1475] σ s → IV A (512 * g + 64 * w + 64) s → ∀ z, K z s) → ∃ n, wX6_goOnFrom_L16 23 1 (nI g) (nI w) (σ.2.2 24 (8 * g + w)) K post n 0 σ := fun K kk =>
    pk_loop (fun n b (s : hsS) => wX6_goOnFrom_L16 23 1 (nI g) (nI w) (σ.2.2 24 (8 * g + w)) K post n (nI b) s) (fun b s => FRl [1474, 1475] σ s ∧ IV A (512 * g + 64 * w + b) s ∧ ∀ c', c' / 512 = g → SN s c' = SN σ c') 64 0 σ (Nat.zero_le _) ⟨FRl.rf, hi, fun _ _ => rfl⟩
      (fun n s e => by
        rw [wX6_goOnFrom_L16]
        exact br_t (nI_le (a := 64) (Nat.le_refl _) (by decide)) (kk s e.1 e.2.1 _))
      (fun n b s hb e ih => by
        obtain ⟨e1, e2, e3⟩ := e
        rw [wX6_goOnFrom_L16]
        have hsn : SN s (512 * g + 64 * w + b) = (σ.2.2 24 (8 * g + w)).toBitVec.getLsbD b := by
          rw [e3 _ (by omega)]
          unfold SN
          rw [show (512 * g + 64 * w + b) / 64 = 8 * g + w by omega, show (512 * g + 64 * w + b) % 64 = b by omega]
          simp [show 512 * g + 64 * w + b < 131072 by omega]
        refine br_f (nI_ge (b := 64) hb (by decide)) (ek_if (lb_test _ hb) (fun c => ?_) (fun c => nm_e ?_))
        · rw [show nI w * (64 : Int32) + nI b = nI (64 * w + b) by rw [show (64 : Int32) = nI 64 from rfl, pk_mul, nI_add, Nat.mul_comm]]
          rw [c] at hsn
          have hr := (e2.1 _ hsn).2
          rw [show (512 * g + 64 * w + b) % 512 = 64 * w + b by omega] at hr
          rw [show 512 * g + 64 * w + b = 512 * g + (64 * w + b) by omega] at e2 hsn
          refine qx_takeEach ha (hx.frl e1 (by decide)) hg hr e2 hsn (fun S f1 f2 f3 => nm_e ?_)
          rw [nI_1]
          refine ih S ⟨e1.trans f1, by rw [show 512 * g + 64 * w + (b + 1) = 512 * g + (64 * w + b) + 1 by omega]; exact f2, fun c' hc' => by rw [f3 c' hc']; exact e3 c' hc'⟩
        · rw [nI_1]
          refine ih s ⟨e1, ?_, e3⟩
          have := e2.skip 1 (fun j hj => by
            have : j = 0 := by omega
            subst this
            rw [Nat.add_zero, hsn]; exact ts_nt c)
          exact this)
  exact L _ (fun s h1 h2 _ => k s h1 h2)
theorem qx_learn (ha : AW A) (hx : HX 1 A σ) (hr : XR A (σ.1 1473) (σ.1 1474) (σ.1 1475)) {post : hsS → Prop} (k : ∀ σ', FRl [1473, 1474, 1475] σ σ' → σ'.1 1474 = nI (rwS A) → σ'.1 1475 = nI (rwA A) → post σ') : wX6_learn 23 1 post σ := by
  have hm := aw_m ha; have hnt := aw_nt ha
  have hm9 : 2 ^ aM A ≤ 2 ^ 9 := Nat.pow_le_pow_right (by decide) hm.2
  have hn8 : 2 ^ aNt A ≤ 2 ^ 8 := Nat.pow_le_pow_right (by decide) (by omega)
  have hpp := Nat.two_pow_pos (aM A); have hpn := Nat.two_pow_pos (aNt A)
  refine br_c (fun c => fun s2 e2 => ?_) (fun c => ?_)
  · have f2 : FRl [1473, 1474, 1475] σ s2 := by rw [e2]; exact FRl.int _ (by decide)
    have LF : ∀ (K : Int32 → hsS → Prop) (po : hsS → Prop), (∀ s, FRl [] s2 s → (∀ c', SN s c' = false) → ∀ z, K z s) → ∃ n, wJ7_fill_d0a16_L6 (23 + 1) 0 2048 K po n 0 s2 := fun K po kk =>
      pk_loop (fun n j (s : hsS) => wJ7_fill_d0a16_L6 (23 + 1) 0 2048 K po n (nI j) s) (fun j s => FRl [] s2 s ∧ ∀ q, q < j → s.2.2 24 q = 0) 2048 0 s2 (Nat.zero_le _) ⟨FRl.rf, fun q hq => absurd hq (Nat.not_lt_zero _)⟩
        (fun n s e => by
          rw [wJ7_fill_d0a16_L6]
          refine br_t (nI_le (a := 2048) (Nat.le_refl _) (by decide)) (kk s e.1 (fun c' => ?_) _)
          unfold SN
          rcases Nat.lt_or_ge c' 131072 with z | z
          · rw [e.2 (c' / 64) (by omega), show (0 : Int64) = lN 0 from rfl, wb_tb, BitVec.getLsbD_ofNat]; simp
          · simp [Nat.not_lt.mpr z])
        (fun n j s hj e ih => by
          rw [wJ7_fill_d0a16_L6]
          refine br_f (nI_ge (b := 2048) hj (by decide)) ⟨pk_in j 2048 hj, fun S hS => nm_e ?_⟩
          rw [nI_1]
          rw [nI_clamp (by omega)] at hS
          have hat : S.2.2 24 = vp_updL (s.2.2 24) j 0 := by rw [hS]; exact hsL_at _ _ _
          refine ih S ⟨by rw [hS]; exact e.1.trans (FRl.lng _), fun q hq => ?_⟩
          rw [hat]
          rcases Nat.decEq q j with z | z
          · rw [pk_uLn z]; exact e.2 q (by omega)
          · subst z; exact pk_uLs)
    refine LF _ _ (fun s4 f4 z4 _ => ?_)
    have hx4 : HX 1 A s4 := (hx.frl f2 (by decide)).frl f4 (by simp)
    refine qx_allThings ha hx4 (qx_mark (g := 0) (by decide) (by omega) (fun s8 f8 z8 => fun s9 e9 => ?_))
    have hx9 : HX 1 A s9 := by rw [e9]; exact (hx4.frl f8 (by simp)).frl (FRl.int (I := [1474]) _ (by decide)) (by decide)
    refine qx_allThings ha hx9 (fun s12 e12 => ?_)
    have hx12 : HX 1 A s12 := by rw [e12]; exact hx9.frl (FRl.int (I := [1475]) _ (by decide)) (by decide)
    rw [hx_nt hx12, qb_one _ (by omega)]
    have f12 : FRl [1473, 1474, 1475] σ s12 := by
      rw [e12, e9]
      exact (((f2.trans (f4.weak (by simp))).trans (f8.weak (by simp))).trans (FRl.int _ (by decide))).trans (FRl.int _ (by decide))
    have a4 : s12.1 1474 = 0 := by rw [e12, hsI_ne _ _ (by decide), e9]; exact hsI_at _ _ _
    have a5 : s12.1 1475 = nI (2 ^ aM A - 1) := by rw [e12]; exact hsI_at _ _ _
    have hS : ∀ c', SN s12 c' = true ↔ c' = 2 ^ aM A - 1 := fun c' => by
      have e : SN s12 c' = SN s8 c' := by unfold SN; rw [e12, e9]; rfl
      rw [e, z8 c', z4 c']
      constructor
      · rintro (h | h)
        · exact absurd h (by decide)
        · omega
      · intro h; exact Or.inr (by omega)
    have i0 : IV A 0 s12 := by
      refine ⟨fun c' hc' => ?_, fun _ => False, 0, 2 ^ aM A - 1, a4, a5, by omega, fun i => ⟨fun h => by simp at h, fun ⟨_, h, _⟩ => absurd h id⟩, fun i hi => ⟨fun _ _ h => absurd h id, fun _ => by rw [qs_full]; simp [hi]⟩, fun e => ?_⟩
      · have := (hS c').mp hc'
        subst this
        exact ⟨by omega, by omega⟩
      · have he : eG A 0 (2 ^ aM A - 1) = rwL A := eG_0 A _
        constructor
        · intro h
          exact Or.inr ⟨2 ^ aM A - 1, Nat.zero_le _, (hS _).mpr rfl, by rw [show (2 ^ aM A - 1) / 512 = 0 by omega, show (2 ^ aM A - 1) % 512 = 2 ^ aM A - 1 by omega, he]; exact h⟩
        · rintro (h | ⟨c', _, h1, h2⟩)
          · exact absurd h id
          · have := (hS c').mp h1
            subst this
            rw [show (2 ^ aM A - 1) / 512 = 0 by omega, show (2 ^ aM A - 1) % 512 = 2 ^ aM A - 1 by omega, he] at h2; exact h2
    have LW : ∀ (g : Nat), g < 2 ^ aNt A → ∀ (K : Int32 → hsS → Prop) (s : hsS), FRl [1474, 1475] s12 s → IV A (512 * g) s → (∀ s', FRl [1474, 1475] s12 s' → IV A (512 * (g + 1)) s' → ∀ z, K z s') → ∃ n, wX6_learn_L66 23 1 (nI (2 ^ aNt A)) (nI g) K post n 0 s := fun g hg K s q1 q2 kk =>
      pk_loop (fun n w (s : hsS) => wX6_learn_L66 23 1 (nI (2 ^ aNt A)) (nI g) K post n (nI w) s) (fun w s => FRl [1474, 1475] s12 s ∧ IV A (512 * g + 64 * w) s) 8 0 s (Nat.zero_le _) ⟨q1, q2⟩
        (fun n s e => by
          rw [wX6_learn_L66]
          exact br_t (nI_le (a := 8) (Nat.le_refl _) (by decide)) (kk s e.1 (by rw [show 512 * (g + 1) = 512 * g + 64 * 8 by omega]; exact e.2) _))
        (fun n w s hw e ih => by
          rw [wX6_learn_L66]
          have e8 : nI g * (8 : Int32) + nI w = nI (8 * g + w) := by rw [show (8 : Int32) = nI 8 from rfl, pk_mul, nI_add, Nat.mul_comm]
          refine br_f (nI_ge (b := 8) hw (by decide)) ⟨pk_in (8 * g + w) 2048 (by omega) e8, ?_⟩
          rw [e8, nI_clamp (by omega)]
          refine br_c (fun c => nm_e ?_) (fun c => ?_)
          · rw [nI_1]
            refine ih s ⟨e.1, ?_⟩
            rw [show 512 * g + 64 * (w + 1) = 512 * g + 64 * w + 64 by omega]
            refine e.2.skip 64 (fun j hj => ?_)
            unfold SN
            have c2 : s.2.2 24 (8 * g + w) = 0 := c
            rw [show (512 * g + 64 * w + j) / 64 = 8 * g + w by omega, c2, show (0 : Int64) = lN 0 from rfl, wb_tb, BitVec.getLsbD_ofNat]; simp
          · refine qx_goOnFrom ha (hx12.frl e.1 (by decide)) hg hw e.2 (fun S f1 f2 => nm_e ?_)
            rw [nI_1]
            exact ih S ⟨e.1.trans f1, by rw [show 512 * g + 64 * (w + 1) = 512 * g + 64 * w + 64 by omega]; exact f2⟩)
    refine nm_r (e' := nI (2 ^ aNt A)) (if_neg (nI_nlt (a := 256) (by omega) (by decide))) ?_
    refine pk_loop (fun n g (s : hsS) => wX6_learn_L58 23 1 (nI (2 ^ aNt A)) _ post n (nI g) s) (fun g s => FRl [1474, 1475] s12 s ∧ IV A (512 * g) s) (2 ^ aNt A) 0 s12 (Nat.zero_le _) ⟨FRl.rf, i0⟩ ?_ ?_
    · intro n s e
      obtain ⟨e1, h1, C, x, y, h2, h3, h4, h5, h6, h7⟩ := e
      rw [wX6_learn_L58]
      have hC : ∀ e, e ∈ rwL A ↔ C e := fun e => by
        rw [h7 e]
        constructor
        · rintro (h | ⟨c', q1, q2, _⟩)
          · exact h
          · have := (h1 c' q2).1; omega
        · exact fun h => Or.inl h
      refine br_t (nI_le (Nat.le_refl _) (by omega)) (k s (f12.trans (e1.weak (by decide))) ?_ ?_)
      · rw [h2]; congr 1
        apply Nat.eq_of_testBit_eq; intro i
        have : x.testBit i = true ↔ (rwS A).testBit i = true := by
          unfold rwS
          rw [h5 i, orL_bit]
          simp [hC]
        exact Bool.eq_iff_iff.mpr this
      · rw [h3]; congr 1
        have hlt : rwA A < 2 ^ aM A := qs_lt (fun i hi => by
          cases e : (rwA A).testBit i with
          | false => rfl
          | true =>
            unfold rwA at e
            have := ((andL_bit _ _ _).mp e).1
            rw [qs_full] at this; simp at this; omega)
        refine qs_ext h4 hlt (fun i hi => Bool.eq_iff_iff.mpr ?_)
        unfold rwA
        rw [h6 i hi, andL_bit, qs_full]
        simp [hi, hC]
    · intro n g s hg e ih
      rw [wX6_learn_L58]
      refine br_f (nI_ge hg (by omega)) (LW g hg _ s e.1 e.2 (fun s' q1 q2 _ => nm_e ?_))
      rw [nI_1]
      exact ih s' ⟨q1, q2⟩
  · rcases hr with hr | hr
    · exact absurd hr c
    · exact k σ FRl.rf hr.1 hr.2
end RowX
