/-- those dearer than t -/
def dearO (f : Nat → Nat) (t m : Nat) : Nat := qs_mk (fun k => decide (f k < f t)) m
/-- what a set keeps, its first j people -/
def kpO (P : Nat → Nat → Nat) (m s t : Nat) : Nat → Nat
  | 0 => 2 ^ m - 1
  | j + 1 => if s.testBit j = true then kpO P m s t j &&& dearO (P j) t m else kpO P m s t j
/-- the worst of what is left, the last of them; none if none is left -/
def psO (f : Nat → Nat) (left : Nat) : Nat → Option Nat
  | 0 => none
  | j + 1 => if left.testBit j = true then (match psO f left j with | none => some j | some w => if f j < f w then some w else some j) else psO f left j
def eO : Option Nat → Int32
  | none => -1
  | some t => nI t
theorem psO_succ (f : Nat → Nat) (left j : Nat) : psO f left (j + 1) = if left.testBit j = true then (match psO f left j with | none => some j | some w => if f j < f w then some w else some j) else psO f left j := rfl
theorem psO_in (f : Nat → Nat) (left : Nat) : ∀ (j w : Nat), psO f left j = some w → w < j ∧ left.testBit w = true := by
  intro j
  induction j with
  | zero => intro w h; exact absurd h (by simp [psO])
  | succ j ih =>
    intro w h
    rw [psO_succ] at h
    split at h
    · rename_i c
      split at h
      · cases h; exact ⟨by omega, c⟩
      · rename_i v e
        split at h
        · cases h; have := ih w e; exact ⟨by omega, this.2⟩
        · cases h; exact ⟨by omega, c⟩
    · have := ih w h; exact ⟨by omega, this.2⟩
theorem psO_some (f : Nat → Nat) (left : Nat) : ∀ (j t : Nat), t < j → left.testBit t = true → ∃ w, psO f left j = some w := by
  intro j
  induction j with
  | zero => intro t h; omega
  | succ j ih =>
    intro t ht hb
    rw [psO_succ]
    rcases Nat.lt_or_ge t j with z | z
    · obtain ⟨w, e⟩ := ih t z hb
      rw [e]
      split
      · dsimp only; split
        · exact ⟨_, rfl⟩
        · exact ⟨_, rfl⟩
      · exact ⟨_, rfl⟩
    · have : t = j := by omega
      subst this
      rw [if_pos hb]
      split
      · exact ⟨_, rfl⟩
      · split
        · exact ⟨_, rfl⟩
        · exact ⟨_, rfl⟩
theorem qs_some {s m : Nat} (hs : s < 2 ^ m) (h0 : s ≠ 0) : ∃ t, t < m ∧ s.testBit t = true := by
  apply Classical.byContradiction
  intro hc
  apply h0
  apply Nat.eq_of_testBit_eq; intro i; rw [Nat.zero_testBit]
  rcases Nat.lt_or_ge i m with z | z
  · cases e : s.testBit i
    · rfl
    · exact absurd ⟨i, z, e⟩ hc
  · exact qs_hi hs z
/-- one strikes plainly; the last thing is never struck -/
def spO (f : Nat → Nat) (m left : Nat) : Nat := if qs_sz left < 2 then left else match psO f left m with | none => left | some t => qs_cl left t
theorem spO_lt {f : Nat → Nat} {m left : Nat} (h : left < 2 ^ m) : spO f m left < 2 ^ m := by
  unfold spO
  split
  · exact h
  · split
    · exact h
    · exact qs_cl_lt h
theorem spO_sz {f : Nat → Nat} {m left : Nat} (hm : m ≤ 12) (h : left < 2 ^ m) (h2 : 2 ≤ qs_sz left) : qs_sz (spO f m left) + 1 = qs_sz left := by
  unfold spO
  rw [if_neg (by omega)]
  have h0 : left ≠ 0 := fun e => by rw [e] at h2; revert h2; decide
  obtain ⟨t, ht, hb⟩ := qs_some h h0
  obtain ⟨w, e⟩ := psO_some f left m t ht hb
  rw [e]
  have := psO_in f left m w e
  exact qs_sz_cl (by omega) this.2
/-- turns in the row u, one after the other, struck plainly -/
def peO (P : Nat → Nat → Nat) (m : Nat) (u : Nat → Nat) : Nat → Nat
  | 0 => 2 ^ m - 1
  | i + 1 => spO (P (u i)) m (peO P m u i)
theorem peO_lt (P : Nat → Nat → Nat) (m : Nat) (u : Nat → Nat) : ∀ i, peO P m u i < 2 ^ m
  | 0 => by have := Nat.one_le_two_pow (n := m); show 2 ^ m - 1 < 2 ^ m; omega
  | i + 1 => spO_lt (peO_lt P m u i)
theorem peO_sz (P : Nat → Nat → Nat) {m : Nat} (hm : m ≤ 12) (u : Nat → Nat) : ∀ i, i + 1 ≤ m → qs_sz (peO P m u i) + i = m
  | 0, _ => qs_sz_full m hm
  | i + 1, h => by
    have ih := peO_sz P hm u i (by omega)
    have h1 := spO_sz (f := P (u i)) hm (peO_lt P m u i) (by omega)
    show qs_sz (spO (P (u i)) m (peO P m u i)) + (i + 1) = m
    omega
def gpO (f : Nat → Nat) (bits : Nat) : Nat → Nat
  | 0 => 0
  | j + 1 => if bits.testBit j = true then max (gpO f bits j) (f j) else gpO f bits j
def suO (f : Nat → Nat) (bits j : Nat) : Nat := fb_sm (fun t => if bits.testBit t = true then f t else 0) j
def ggO (P : Nat → Nat → Nat) (t : Nat) : Nat → Nat
  | 0 => 0
  | j + 1 => max (ggO P t j) (P j t)
def wgO (P : Nat → Nat → Nat) (W : Nat → Nat) (t j : Nat) : Nat := fb_sm (fun p => P p t * W p) j
def hwO (P : Nat → Nat → Nat) (W : Nat → Nat) (nm t j : Nat) : Nat := fb_sm (fun p => if nm.testBit p = true ∧ P p t = 0 then W p else 0) j
def tmO (hw : Nat → Nat) : Nat → Nat
  | 0 => 0
  | j + 1 => if hw (tmO hw j) < hw (j + 1) then j + 1 else tmO hw j
theorem tmO_le (hw : Nat → Nat) : ∀ j, tmO hw j ≤ j
  | 0 => Nat.le_refl _
  | j + 1 => by have := tmO_le hw j; unfold tmO; split <;> omega
theorem gpO_le {f : Nat → Nat} {m : Nat} (bits : Nat) : ∀ j, (∀ t, t < j → f t < m) → gpO f bits j ≤ m
  | 0, _ => Nat.zero_le _
  | j + 1, h => by
    have ih := gpO_le (f := f) (m := m) bits j (fun t ht => h t (by omega)); have := h j (by omega)
    unfold gpO; split <;> omega
theorem ggO_le {P : Nat → Nat → Nat} {t m : Nat} : ∀ j, (∀ p, p < j → P p t < m) → ggO P t j ≤ m
  | 0, _ => Nat.zero_le _
  | j + 1, h => by
    have ih := ggO_le (P := P) (t := t) (m := m) j (fun p hp => h p (by omega)); have := h j (by omega)
    unfold ggO; omega
theorem suO_le {f : Nat → Nat} {m : Nat} (bits : Nat) {j : Nat} (h : ∀ t, t < j → f t < m) : suO f bits j ≤ j * m := by
  have h1 : fb_sm (fun t => if bits.testBit t = true then f t else 0) j ≤ fb_sm (fun _ => m) j := fb_sm_le (fun k hk => by have := h k hk; split <;> omega)
  rw [fb_sm_const] at h1; exact h1
theorem wgO_le {P : Nat → Nat → Nat} {W : Nat → Nat} {t j : Nat} (h : ∀ p, p < j → P p t < 9 ∧ W p ≤ 99) : wgO P W t j ≤ j * 891 := by
  have h1 : fb_sm (fun p => P p t * W p) j ≤ fb_sm (fun _ => 891) j := fb_sm_le (fun k hk => by
    have := h k hk; have h2 : P k t * W k ≤ 9 * 99 := Nat.mul_le_mul (by omega) (by omega); omega)
  rw [fb_sm_const] at h1; exact h1
theorem hwO_le {P : Nat → Nat → Nat} {W : Nat → Nat} {nm t j : Nat} (h : ∀ p, p < j → W p ≤ 99) : hwO P W nm t j ≤ j * 99 := by
  have h1 : fb_sm (fun p => if nm.testBit p = true ∧ P p t = 0 then W p else 0) j ≤ fb_sm (fun _ => 99) j := fb_sm_le (fun k hk => by have := h k hk; split <;> omega)
  rw [fb_sm_const] at h1; exact h1
theorem dearO_lt (f : Nat → Nat) (t m : Nat) : dearO f t m < 2 ^ m := qs_mk_lt _ _
theorem kpO_lt (P : Nat → Nat → Nat) (m s t : Nat) : ∀ j, kpO P m s t j < 2 ^ m
  | 0 => by have := Nat.one_le_two_pow (n := m); show 2 ^ m - 1 < 2 ^ m; omega
  | j + 1 => by
    have := kpO_lt P m s t j
    unfold kpO; split
    · exact qs_and_lt (dearO_lt _ _ _)
    · exact this
theorem kpO_cong {P : Nat → Nat → Nat} {m s s' t : Nat} : ∀ j, (∀ p, p < j → s.testBit p = s'.testBit p) → kpO P m s t j = kpO P m s' t j
  | 0, _ => rfl
  | j + 1, h => by
    have ih := kpO_cong (P := P) (m := m) (t := t) j (fun p hp => h p (by omega))
    unfold kpO; rw [ih, h j (by omega)]
theorem pk_nm1 {w : Nat} (h : w < 2 ^ 31) : ¬ nI w = -1 := by
  intro e
  have h1 := congrArg Int32.toInt e
  rw [nI_toInt h] at h1
  have h2 : (-1 : Int32).toInt = -1 := by decide
  omega
