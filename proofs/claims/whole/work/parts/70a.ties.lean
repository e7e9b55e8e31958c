/-! ===== ties: numbers of orders and of ways; the two numberings reach the same ===== -/
def mkO (f d : Nat → Nat) (n : Nat) : Nat := fb_sm (fun q => d q * prO f q) n
theorem mkO_succ (f d : Nat → Nat) (n : Nat) : mkO f d (n + 1) = mkO f d n + d n * prO f n := rfl
theorem prO_succ (f : Nat → Nat) (n : Nat) : prO f (n + 1) = prO f n * f n := rfl
theorem mk_lt {f d : Nat → Nat} : ∀ {n : Nat}, (∀ q, q < n → d q < f q) → mkO f d n < prO f n
  | 0, _ => Nat.one_pos
  | n + 1, h => by
    have ih := mk_lt (n := n) (fun q hq => h q (by omega))
    have hd := h n (by omega)
    rw [mkO_succ, prO_succ, Nat.mul_comm (prO f n)]
    have h2 : (d n + 1) * prO f n ≤ f n * prO f n := Nat.mul_le_mul_right _ hd
    rw [Nat.add_mul, Nat.one_mul] at h2
    omega
theorem mk_dig {f d : Nat → Nat} : ∀ {n : Nat}, (∀ q, q < n → d q < f q) → ∀ q, q < n → mkO f d n / prO f q % f q = d q
  | 0, _, q, hq => absurd hq (Nat.not_lt_zero _)
  | n + 1, h, q, hq => by
    have hpos : ∀ {j}, j ≤ n → 0 < prO f j := fun {j} hj => prO_pos (fun k hk => by have := h k (by omega); omega)
    rw [mkO_succ]
    rcases Nat.decEq q n with z | z
    · have ih := mk_dig (n := n) (fun q hq => h q (by omega)) q (by omega)
      obtain ⟨R, hR⟩ := prO_tail f (n := n) (j := q + 1) (by omega)
      rw [prO_succ] at hR
      rw [hR, show d n * (prO f q * f q * R) = (d n * R * f q) * prO f q by rw [Nat.mul_comm (prO f q) (f q), Nat.mul_assoc (f q), Nat.mul_comm (prO f q) R, ← Nat.mul_assoc (f q), ← Nat.mul_assoc, Nat.mul_comm (f q) R, ← Nat.mul_assoc]]
      rw [Nat.add_mul_div_right _ _ (hpos (by omega)), Nat.add_mul_mod_self_right]; exact ih
    · subst z
      have hl := mk_lt (n := q) (f := f) (d := d) (fun k hk => h k (by omega))
      rw [Nat.add_mul_div_right _ _ (hpos (Nat.le_refl _)), Nat.div_eq_of_lt hl, Nat.zero_add, Nat.mod_eq_of_lt (h q (by omega))]
theorem dig_low (f : Nat → Nat) {n q : Nat} (hq : q < n) (k : Nat) : k % prO f n / prO f q % f q = k / prO f q % f q := by
  obtain ⟨R, hR⟩ := prO_tail f (n := n) (j := q + 1) hq
  rw [prO_succ] at hR
  rw [hR, Nat.mul_assoc, Nat.mod_mul_right_div_self, Nat.mod_mul_right_mod]
theorem mk_self {f : Nat → Nat} : ∀ {n : Nat}, (∀ q, q < n → 0 < f q) → ∀ k, k < prO f n → mkO f (fun q => k / prO f q % f q) n = k
  | 0, _, k, hk => by
    have hk : k < 1 := hk
    show 0 = k; omega
  | n + 1, h, k, hk => by
    have hp : 0 < prO f n := prO_pos (fun q hq => h q (by omega))
    have ih := mk_self (n := n) (fun q hq => h q (by omega)) (k % prO f n) (Nat.mod_lt _ hp)
    rw [prO_succ] at hk
    rw [mkO_succ, Nat.mod_eq_of_lt (Nat.div_lt_of_lt_mul hk)]
    have e : mkO f (fun q => k / prO f q % f q) n = mkO f (fun q => k % prO f n / prO f q % f q) n := fb_sm_cong (fun q hq => by
      show k / prO f q % f q * prO f q = k % prO f n / prO f q % f q * prO f q
      rw [dig_low f hq])
    rw [e, ih]
    exact Nat.mod_add_div' k (prO f n)
/-- from the class's number of a row to the reference's, and back -/
def taX : Nat → List Nat
  | 3 => [0, 3, 1, 2, 4, 5]
  | 4 => [0, 12, 4, 8, 16, 20, 1, 13, 2, 3, 14, 15, 5, 9, 6, 7, 10, 11, 17, 21, 18, 19, 22, 23]
  | 5 => [0, 60, 20, 40, 80, 100, 5, 65, 10, 15, 70, 75, 25, 45, 30, 35, 50, 55, 85, 105, 90, 95, 110, 115, 1, 61, 21, 41, 81, 101, 2, 62, 3, 4, 63, 64, 22, 42, 23, 24, 43, 44, 82, 102, 83, 84, 103, 104, 6, 66, 11, 16, 71, 76, 7, 67, 8, 9, 68, 69, 12, 17, 13, 14, 18, 19, 72, 77, 73, 74, 78, 79, 26, 46, 31, 36, 51, 56, 27, 47, 28, 29, 48, 49, 32, 37, 33, 34, 38, 39, 52, 57, 53, 54, 58, 59, 86, 106, 91, 96, 111, 116, 87, 107, 88, 89, 108, 109, 92, 97, 93, 94, 98, 99, 112, 117, 113, 114, 118, 119]
  | _ => [0, 1]
def tiX : Nat → List Nat
  | 3 => [0, 2, 3, 1, 4, 5]
  | 4 => [0, 6, 8, 9, 2, 12, 14, 15, 3, 13, 16, 17, 1, 7, 10, 11, 4, 18, 20, 21, 5, 19, 22, 23]
  | 5 => [0, 24, 30, 32, 33, 6, 48, 54, 56, 57, 8, 50, 60, 62, 63, 9, 51, 61, 64, 65, 2, 26, 36, 38, 39, 12, 72, 78, 80, 81, 14, 74, 84, 86, 87, 15, 75, 85, 88, 89, 3, 27, 37, 40, 41, 13, 73, 79, 82, 83, 16, 76, 90, 92, 93, 17, 77, 91, 94, 95, 1, 25, 31, 34, 35, 7, 49, 55, 58, 59, 10, 52, 66, 68, 69, 11, 53, 67, 70, 71, 4, 28, 42, 44, 45, 18, 96, 102, 104, 105, 20, 98, 108, 110, 111, 21, 99, 109, 112, 113, 5, 29, 43, 46, 47, 19, 97, 103, 106, 107, 22, 100, 114, 116, 117, 23, 101, 115, 118, 119]
  | _ => [0, 1]
def taO (s c : Nat) : Nat := (taX s).getD c 0
def tiO (s c : Nat) : Nat := (tiX s).getD c 0
theorem ta_ok : ∀ s, s < 6 → ∀ c, c < faO s → taO s c < faO s ∧ tiO s (taO s c) = c ∧ ∀ j, j < s → rkX s c j = rkM s (taO s c) j := by decide +kernel
theorem ti_ok : ∀ s, s < 6 → ∀ c, c < faO s → tiO s c < faO s ∧ taO s (tiO s c) = c ∧ ∀ j, j < s → rkM s c j = rkX s (tiO s c) j := by decide +kernel
theorem fa_small : ∀ s, s < 10 → faO s ≤ 240 → s < 6 := by decide +kernel
theorem prO_ge {f : Nat → Nat} {n q : Nat} (hf : ∀ k, k < n → 0 < f k) (hq : q < n) : f q ≤ prO f n := by
  obtain ⟨R, hR⟩ := prO_tail f (n := n) (j := q + 1) hq
  have h0 : 0 < prO f n := prO_pos hf
  have hR0 : 0 < R := Nat.pos_of_ne_zero (fun e => by rw [e, Nat.mul_zero] at hR; omega)
  have h1 : 0 < prO f q := prO_pos (fun k hk => hf k (by omega))
  rw [hR, prO_succ]
  calc f q ≤ prO f q * f q := Nat.le_mul_of_pos_left _ h1
    _ ≤ prO f q * f q * R := Nat.le_mul_of_pos_right _ hR0
theorem gs_small {f : Nat → Nat} {m q : Nat} (hm : m ≤ 9) (h : odO f m ≤ 240) (hq : q < m) : gsO f m q < 6 := by
  have h1 : faO (gsO f m q) ≤ odO f m := prO_ge (f := fun q => faO (gsO f m q)) (fun k _ => faO_pos _) hq
  have h2 := fb_ct_le (fun t => decide (f t = q)) m
  exact fa_small _ (by unfold gsO; omega) (by omega)
theorem ix_lt {f : Nat → Nat} {m t : Nat} (ht : t < m) : ixO f t < gsO f m (f t) := by
  unfold ixO gsO
  have h1 : fb_ct (fun s => decide (f s = f t)) (t + 1) = fb_ct (fun s => decide (f s = f t)) t + 1 := by rw [fb_ct_succ]; simp
  have h2 := fb_ct_mono (fun s => decide (f s = f t)) (m := t + 1) (n := m) ht
  omega
theorem dg_lt (f : Nat → Nat) (m k q : Nat) : dgO f m k q < faO (gsO f m q) := Nat.mod_lt _ (faO_pos _)
def pmO (ta : Nat → Nat → Nat) (f : Nat → Nat) (m k : Nat) : Nat := mkO (fun q => faO (gsO f m q)) (fun q => ta (gsO f m q) (dgO f m k q)) m
section Pm
variable {ta ti : Nat → Nat → Nat} {rk rk' : Nat → Nat → Nat → Nat}
theorem pm_dig (hta : ∀ s, s < 6 → ∀ c, c < faO s → ta s c < faO s ∧ ti s (ta s c) = c ∧ ∀ j, j < s → rk s c j = rk' s (ta s c) j) {f : Nat → Nat} {m : Nat} (hm : m ≤ 9) (h : odO f m ≤ 240) (k : Nat) : pmO ta f m k < odO f m ∧ ∀ q, q < m → dgO f m (pmO ta f m k) q = ta (gsO f m q) (dgO f m k q) := by
  have hd : ∀ q, q < m → ta (gsO f m q) (dgO f m k q) < faO (gsO f m q) := fun q hq => (hta _ (gs_small hm h hq) _ (dg_lt f m k q)).1
  exact ⟨mk_lt (f := fun q => faO (gsO f m q)) hd, fun q hq => mk_dig (f := fun q => faO (gsO f m q)) hd q hq⟩
theorem pm_back (hta : ∀ s, s < 6 → ∀ c, c < faO s → ta s c < faO s ∧ ti s (ta s c) = c ∧ ∀ j, j < s → rk s c j = rk' s (ta s c) j) {f : Nat → Nat} {m : Nat} (hm : m ≤ 9) (h : odO f m ≤ 240) {k : Nat} (hk : k < odO f m) : pmO ti f m (pmO ta f m k) = k := by
  have hd := (pm_dig hta hm h k).2
  have e : pmO ti f m (pmO ta f m k) = mkO (fun q => faO (gsO f m q)) (fun q => k / prO (fun q => faO (gsO f m q)) q % faO (gsO f m q)) m := fb_sm_cong (fun q hq => by
    show ti (gsO f m q) (dgO f m (pmO ta f m k) q) * _ = _ * _
    rw [hd q hq, (hta _ (gs_small hm h hq) _ (dg_lt f m k q)).2.1]; rfl)
  rw [e]
  exact mk_self (f := fun q => faO (gsO f m q)) (fun q _ => faO_pos _) k hk
theorem pm_pl (hta : ∀ s, s < 6 → ∀ c, c < faO s → ta s c < faO s ∧ ti s (ta s c) = c ∧ ∀ j, j < s → rk s c j = rk' s (ta s c) j) {f : Nat → Nat} {m : Nat} (hm : m ≤ 9) (h : odO f m ≤ 240) (hf : ∀ t, t < m → f t < m) (k : Nat) {t : Nat} (ht : t < m) : plO rk f m k t = plO rk' f m (pmO ta f m k) t := by
  unfold plO
  rw [(pm_dig hta hm h k).2 _ (hf t ht), (hta _ (gs_small hm h (hf t ht)) _ (dg_lt f m k (f t))).2.2 _ (ix_lt ht)]
end Pm
theorem orA_pos (A : AH) (p : Nat) : 0 < orA A p := by
  have h : 0 < odO (aP A p) (aM A) := prO_pos (fun k _ => faO_pos _)
  unfold orA; omega
theorem wyO_pos (A : AH) : ∀ j, 0 < wyO A j
  | 0 => Nat.one_pos
  | j + 1 => by
    show 0 < min 241 (wyO A j * orA A j)
    have := Nat.mul_pos (wyO_pos A j) (orA_pos A j)
    omega
theorem wyO_le (A : AH) : ∀ j, wyO A j ≤ 241
  | 0 => (by decide : 1 ≤ 241)
  | j + 1 => Nat.min_le_left _ _
theorem wy_pr {A : AH} : ∀ {n : Nat}, wyO A n ≤ 240 → ∀ j, j ≤ n → wyO A j = prO (orA A) j ∧ (j < n → orA A j = odO (aP A j) (aM A) ∧ odO (aP A j) (aM A) ≤ 240)
  | 0, _, j, hj => by
    have : j = 0 := by omega
    subst this
    exact ⟨rfl, fun h => absurd h (Nat.lt_irrefl _)⟩
  | n + 1, h, j, hj => by
    have h : min 241 (wyO A n * orA A n) ≤ 240 := h
    have h1 := Nat.le_mul_of_pos_right (wyO A n) (orA_pos A n)
    have h2 := Nat.le_mul_of_pos_left (orA A n) (wyO_pos A n)
    have hn : wyO A n ≤ 240 := by omega
    have ho : orA A n ≤ 240 := by omega
    have ho2 : orA A n = odO (aP A n) (aM A) := by unfold orA at ho ⊢; omega
    rcases Nat.lt_or_ge j n with z | z
    · have ih := wy_pr hn j (by omega)
      exact ⟨ih.1, fun _ => ih.2 z⟩
    · have ih := wy_pr hn n (Nat.le_refl _)
      rcases Nat.decEq j n with y | y
      · have : j = n + 1 := by omega
        subst this
        refine ⟨?_, fun y => absurd y (Nat.lt_irrefl _)⟩
        show min 241 (wyO A n * orA A n) = prO (orA A) n * orA A n
        rw [← ih.1]; omega
      · subst y
        exact ⟨ih.1, fun _ => ⟨ho2, by omega⟩⟩
theorem coO_cong {P P' : Nat → Nat → Nat} {m n : Nat} {may : Nat → Nat} (h : ∀ p t, p < n → t < m → P p t = P' p t) : coO P m n may = coO P' m n may := by
  unfold coO
  refine qs_mk_cong (fun t ht => ?_)
  have e : ∀ s, hitO P m n may t s = hitO P' m n may t s := fun s => by
    have : kpO P m s t n = kpO P' m s t n := kpO_ext (fun k hk => by
      constructor
      · intro H j hj hb; rw [← h j k hj hk, ← h j t hj ht]; exact H j hj hb
      · intro H j hj hb; rw [h j k hj hk, h j t hj ht]; exact H j hj hb)
    unfold hitO; rw [this]
  exact decide_eq_decide.mpr ⟨fun H s hs => by rw [← e s]; exact H s hs, fun H s hs => by rw [e s]; exact H s hs⟩
def wmO (ta : Nat → Nat → Nat) (A : AH) (w : Nat) : Nat := mkO (orA A) (fun p => pmO ta (aP A p) (aM A) (oiO A w p)) (aN A)
section Wm
variable {ta ti : Nat → Nat → Nat} {rk rk' : Nat → Nat → Nat → Nat} {A : AH}
theorem wm_ok (ha : AW A) (hW : wyA A ≤ 240) (hta : ∀ s, s < 6 → ∀ c, c < faO s → ta s c < faO s ∧ ti s (ta s c) = c ∧ ∀ j, j < s → rk s c j = rk' s (ta s c) j) (w : Nat) : wmO ta A w < wyA A ∧ (∀ p, p < aN A → oiO A (wmO ta A w) p = pmO ta (aP A p) (aM A) (oiO A w p)) ∧ wcO rk A w = wcO rk' A (wmO ta A w) := by
  have hm := aw_m ha
  have hy := wy_pr (A := A) (n := aN A) hW
  have hd : ∀ p, p < aN A → pmO ta (aP A p) (aM A) (oiO A w p) < orA A p := fun p hp => by
    have h1 := (hy p (by omega)).2 hp
    rw [h1.1]; exact (pm_dig hta hm.2 h1.2 _).1
  have hoi : ∀ p, p < aN A → oiO A (wmO ta A w) p = pmO ta (aP A p) (aM A) (oiO A w p) := fun p hp => by
    show wmO ta A w / wyO A p % orA A p = _
    rw [(hy p (by omega)).1]
    exact mk_dig hd p hp
  refine ⟨?_, hoi, ?_⟩
  · show _ < wyO A (aN A)
    rw [(hy (aN A) (Nat.le_refl _)).1]; exact mk_lt hd
  · unfold wcO
    refine coO_cong (fun p t hp ht => ?_)
    unfold wpO
    rw [hoi p hp]
    have h1 := (hy p (by omega)).2 hp
    exact pm_pl hta hm.2 h1.2 (fun t ht => aw_p ha hp ht) _ ht
end Wm
section Wb
variable {rk : Nat → Nat → Nat → Nat} {A : AH}
theorem wa_bit (i : Nat) : ∀ j, (waO rk A j).testBit i = true ↔ (2 ^ aM A - 1).testBit i = true ∧ ∀ w, w < j → (wcO rk A w).testBit i = true
  | 0 => ⟨fun h => ⟨h, fun w hw => absurd hw (Nat.not_lt_zero _)⟩, fun h => h.1⟩
  | j + 1 => by
    show (waO rk A j &&& wcO rk A j).testBit i = true ↔ _
    rw [Nat.testBit_and, Bool.and_eq_true, wa_bit i j]
    constructor
    · rintro ⟨⟨h1, h2⟩, h3⟩
      refine ⟨h1, fun w hw => ?_⟩
      rcases Nat.decEq w j with z | z
      · exact h2 w (by omega)
      · subst z; exact h3
    · rintro ⟨h1, h2⟩
      exact ⟨⟨h1, fun w hw => h2 w (by omega)⟩, h2 j (by omega)⟩
theorem ws_bit (i : Nat) : ∀ j, (wsO rk A j).testBit i = true ↔ ∃ w, w < j ∧ (wcO rk A w).testBit i = true
  | 0 => ⟨fun h => by rw [show wsO rk A 0 = 0 from rfl, Nat.zero_testBit] at h; exact absurd h (by decide), fun ⟨w, h, _⟩ => absurd h (Nat.not_lt_zero _)⟩
  | j + 1 => by
    show (wsO rk A j ||| wcO rk A j).testBit i = true ↔ _
    rw [Nat.testBit_or, Bool.or_eq_true, ws_bit i j]
    constructor
    · rintro (⟨w, h1, h2⟩ | h)
      · exact ⟨w, by omega, h2⟩
      · exact ⟨j, by omega, h⟩
    · rintro ⟨w, h1, h2⟩
      rcases Nat.decEq w j with z | z
      · exact Or.inl ⟨w, by omega, h2⟩
      · subst z; exact Or.inr h2
theorem ka_bit (p k i : Nat) : ∀ j, (kaO rk A p k j).testBit i = true ↔ (2 ^ aM A - 1).testBit i = true ∧ ∀ w, w < j → oiO A w p = k → (wcO rk A w).testBit i = true
  | 0 => ⟨fun h => ⟨h, fun w hw => absurd hw (Nat.not_lt_zero _)⟩, fun h => h.1⟩
  | j + 1 => by
    show (if oiO A j p = k then kaO rk A p k j &&& wcO rk A j else kaO rk A p k j).testBit i = true ↔ _
    by_cases c : oiO A j p = k
    · rw [if_pos c, Nat.testBit_and, Bool.and_eq_true, ka_bit p k i j]
      constructor
      · rintro ⟨⟨h1, h2⟩, h3⟩
        refine ⟨h1, fun w hw hk => ?_⟩
        rcases Nat.decEq w j with z | z
        · exact h2 w (by omega) hk
        · subst z; exact h3
      · rintro ⟨h1, h2⟩
        exact ⟨⟨h1, fun w hw => h2 w (by omega)⟩, h2 j (by omega) c⟩
    · rw [if_neg c, ka_bit p k i j]
      constructor
      · rintro ⟨h1, h2⟩
        refine ⟨h1, fun w hw hk => ?_⟩
        rcases Nat.decEq w j with z | z
        · exact h2 w (by omega) hk
        · subst z; exact absurd hk c
      · rintro ⟨h1, h2⟩
        exact ⟨h1, fun w hw => h2 w (by omega)⟩
theorem ks_bit (p k i : Nat) : ∀ j, (ksO rk A p k j).testBit i = true ↔ ∃ w, w < j ∧ oiO A w p = k ∧ (wcO rk A w).testBit i = true
  | 0 => ⟨fun h => by rw [show ksO rk A p k 0 = 0 from rfl, Nat.zero_testBit] at h; exact absurd h (by decide), fun ⟨w, h, _⟩ => absurd h (Nat.not_lt_zero _)⟩
  | j + 1 => by
    show (if oiO A j p = k then ksO rk A p k j ||| wcO rk A j else ksO rk A p k j).testBit i = true ↔ _
    by_cases c : oiO A j p = k
    · rw [if_pos c, Nat.testBit_or, Bool.or_eq_true, ks_bit p k i j]
      constructor
      · rintro (⟨w, h1, h2⟩ | h)
        · exact ⟨w, by omega, h2⟩
        · exact ⟨j, by omega, c, h⟩
      · rintro ⟨w, h1, h2, h3⟩
        rcases Nat.decEq w j with z | z
        · exact Or.inl ⟨w, by omega, h2, h3⟩
        · subst z; exact Or.inr h3
    · rw [if_neg c, ks_bit p k i j]
      constructor
      · rintro ⟨w, h1, h2⟩; exact ⟨w, by omega, h2⟩
      · rintro ⟨w, h1, h2, h3⟩
        rcases Nat.decEq w j with z | z
        · exact ⟨w, by omega, h2, h3⟩
        · subst z; exact absurd h2 c
end Wb
section Wq
variable {A : AH}
theorem wa_eq (ha : AW A) (hW : wyA A ≤ 240) : waO rkX A (wyA A) = waO rkM A (wyA A) := by
  apply Nat.eq_of_testBit_eq; intro i
  refine Bool.eq_iff_iff.mpr ?_
  rw [wa_bit, wa_bit]
  refine and_congr_right (fun _ => ⟨fun H w hw => ?_, fun H w hw => ?_⟩)
  · obtain ⟨h1, _, h3⟩ := wm_ok ha hW ti_ok w
    rw [h3]; exact H _ h1
  · obtain ⟨h1, _, h3⟩ := wm_ok ha hW ta_ok w
    rw [h3]; exact H _ h1
theorem ws_eq (ha : AW A) (hW : wyA A ≤ 240) : wsO rkX A (wyA A) = wsO rkM A (wyA A) := by
  apply Nat.eq_of_testBit_eq; intro i
  refine Bool.eq_iff_iff.mpr ?_
  rw [ws_bit, ws_bit]
  constructor
  · rintro ⟨w, hw, hb⟩
    obtain ⟨h1, _, h3⟩ := wm_ok ha hW ta_ok w
    rw [h3] at hb; exact ⟨_, h1, hb⟩
  · rintro ⟨w, hw, hb⟩
    obtain ⟨h1, _, h3⟩ := wm_ok ha hW ti_ok w
    rw [h3] at hb; exact ⟨_, h1, hb⟩
theorem kk_eq (ha : AW A) (hW : wyA A ≤ 240) {p k : Nat} (hp : p < aN A) (hk : k < orA A p) : ksO rkX A p k (wyA A) = ksO rkM A p (pmO taO (aP A p) (aM A) k) (wyA A) ∧ kaO rkX A p k (wyA A) = kaO rkM A p (pmO taO (aP A p) (aM A) k) (wyA A) := by
  have hm := aw_m ha
  have hy := (wy_pr (A := A) (n := aN A) hW p (by omega)).2 hp
  have hback : pmO tiO (aP A p) (aM A) (pmO taO (aP A p) (aM A) k) = k := pm_back ta_ok hm.2 hy.2 (by rw [← hy.1]; exact hk)
  constructor
  · apply Nat.eq_of_testBit_eq; intro i
    refine Bool.eq_iff_iff.mpr ?_
    rw [ks_bit, ks_bit]
    constructor
    · rintro ⟨w, hw, h2, hb⟩
      obtain ⟨h1, h2', h3⟩ := wm_ok ha hW ta_ok w
      rw [h3] at hb; exact ⟨_, h1, by rw [h2' p hp, h2], hb⟩
    · rintro ⟨w, hw, h2, hb⟩
      obtain ⟨h1, h2', h3⟩ := wm_ok ha hW ti_ok w
      rw [h3] at hb; exact ⟨_, h1, by rw [h2' p hp, h2, hback], hb⟩
  · apply Nat.eq_of_testBit_eq; intro i
    refine Bool.eq_iff_iff.mpr ?_
    rw [ka_bit, ka_bit]
    refine and_congr_right (fun _ => ⟨fun H w hw h2 => ?_, fun H w hw h2 => ?_⟩)
    · obtain ⟨h1, h2', h3⟩ := wm_ok ha hW ti_ok w
      rw [h3]; exact H _ h1 (by rw [h2' p hp, h2, hback])
    · obtain ⟨h1, h2', h3⟩ := wm_ok ha hW ta_ok w
      rw [h3]; exact H _ h1 (by rw [h2' p hp, h2])
/-- open ends once p's order is k; the most of them -/
def opO (rk : Nat → Nat → Nat → Nat) (A : AH) (p k : Nat) : Nat := qs_sz (ksO rk A p k (wyA A) ^^^ (ksO rk A p k (wyA A) &&& kaO rk A p k (wyA A)))
def mxO (v : Nat → Nat) : Nat → Nat
  | 0 => 0
  | k + 1 => max (mxO v k) (v k)
theorem mx_le (v : Nat → Nat) (B : Nat) : ∀ n, mxO v n ≤ B ↔ ∀ k, k < n → v k ≤ B
  | 0 => ⟨fun _ k hk => absurd hk (Nat.not_lt_zero _), fun _ => Nat.zero_le _⟩
  | n + 1 => by
    show max (mxO v n) (v n) ≤ B ↔ _
    rw [Nat.max_le, mx_le v B n]
    constructor
    · rintro ⟨h1, h2⟩ k hk
      rcases Nat.decEq k n with z | z
      · exact h1 k (by omega)
      · subst z; exact h2
    · intro h; exact ⟨fun k hk => h k (by omega), h n (by omega)⟩
def moO (rk : Nat → Nat → Nat → Nat) (A : AH) (p : Nat) : Nat := mxO (opO rk A p) (orA A p)
theorem mo_eq (ha : AW A) (hW : wyA A ≤ 240) {p : Nat} (hp : p < aN A) : moO rkX A p = moO rkM A p := by
  have hm := aw_m ha
  have hy := (wy_pr (A := A) (n := aN A) hW p (by omega)).2 hp
  have e1 : ∀ k, k < orA A p → opO rkX A p k = opO rkM A p (pmO taO (aP A p) (aM A) k) := fun k hk => by
    unfold opO; rw [(kk_eq ha hW hp hk).1, (kk_eq ha hW hp hk).2]
  apply Nat.le_antisymm
  · refine (mx_le _ _ _).mpr (fun k hk => ?_)
    rw [e1 k hk]
    exact (mx_le (opO rkM A p) _ _).mp (Nat.le_refl _) _ (by rw [hy.1]; exact (pm_dig ta_ok hm.2 hy.2 k).1)
  · refine (mx_le _ _ _).mpr (fun k hk => ?_)
    have hk2 : pmO tiO (aP A p) (aM A) k < orA A p := by rw [hy.1]; exact (pm_dig ti_ok hm.2 hy.2 k).1
    have hb : pmO taO (aP A p) (aM A) (pmO tiO (aP A p) (aM A) k) = k := pm_back ti_ok hm.2 hy.2 (by rw [← hy.1]; exact hk)
    have := (mx_le (opO rkX A p) _ _).mp (Nat.le_refl _) _ hk2
    rw [e1 _ hk2, hb] at this; exact this
/-- whom to ask -/
def akO (mo od : Nat → Nat) : Nat → Option (Nat × Nat)
  | 0 => none
  | p + 1 => if od p = 1 then akO mo od p else match akO mo od p with | none => some (p, mo p) | some q => if mo p < q.2 then some (p, mo p) else some q
theorem ak_cong {mo mo' od : Nat → Nat} : ∀ {n : Nat}, (∀ p, p < n → mo p = mo' p) → akO mo od n = akO mo' od n
  | 0, _ => rfl
  | n + 1, h => by
    show (if od n = 1 then akO mo od n else match akO mo od n with | none => some (n, mo n) | some q => if mo n < q.2 then some (n, mo n) else some q) = (if od n = 1 then akO mo' od n else match akO mo' od n with | none => some (n, mo' n) | some q => if mo' n < q.2 then some (n, mo' n) else some q)
    rw [ak_cong (fun p hp => h p (by omega)), h n (by omega)]
def akA (rk : Nat → Nat → Nat → Nat) (A : AH) : Option (Nat × Nat) := akO (moO rk A) (orA A) (aN A)
theorem ak_eq (ha : AW A) (hW : wyA A ≤ 240) : akA rkX A = akA rkM A := ak_cong (fun _ hp => mo_eq ha hW hp)
end Wq
