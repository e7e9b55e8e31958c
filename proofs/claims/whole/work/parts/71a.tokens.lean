/-! ===== hall: tokens, by both ===== -/
def isB (c : Nat) : Bool := decide (c = 32) || decide (c = 10)
def isL (c : Nat) : Bool := decide (97 ≤ c) && decide (c ≤ 122)
def isD (c : Nat) : Bool := decide (48 ≤ c) && decide (c ≤ 57)
/-- the end of the run of q that begins at a -/
def runO (q : Nat → Bool) (T : Nat → Nat) (n a : Nat) : Nat := a + fa_first (fun j => !q (T (a + j))) (n - a)
theorem run_ge (q : Nat → Bool) (T : Nat → Nat) (n a : Nat) : a ≤ runO q T n a := Nat.le_add_right _ _
theorem run_le (q : Nat → Bool) (T : Nat → Nat) {n a : Nat} (h : a ≤ n) : runO q T n a ≤ n := by
  have := fa_first_le (fun j => !q (T (a + j))) (n - a)
  unfold runO; omega
theorem run_in {q : Nat → Bool} {T : Nat → Nat} {n a x : Nat} (h1 : a ≤ x) (h2 : x < runO q T n a) : q (T x) = true := by
  unfold runO at h2
  have := fa_first_no (fun j => !q (T (a + j))) (n - a) (x - a) (by omega)
  rw [show a + (x - a) = x by omega] at this
  simpa using this
theorem run_at {q : Nat → Bool} {T : Nat → Nat} {n a : Nat} (h : runO q T n a < n) : q (T (runO q T n a)) = false := by
  have := fa_first_yes (fun j => !q (T (a + j))) (n - a) (by unfold runO at h; omega)
  unfold runO
  simpa using this
def dvO (T : Nat → Nat) (f : Nat) : Nat → Nat
  | 0 => 0
  | j + 1 => dvO T f j * 10 + (T (f + j) - 48)
abbrev TK : Type := Nat × Nat × Nat × Nat
abbrev tK (w : TK) : Nat := w.1
abbrev tF (w : TK) : Nat := w.2.1
abbrev tT (w : TK) : Nat := w.2.2.1
abbrev tV (w : TK) : Nat := w.2.2.2
/-- the token behind a -/
def tokO (T : Nat → Nat) (n a : Nat) : TK :=
  if n ≤ runO isB T n a then (0, runO isB T n a, runO isB T n a, 0)
  else if isL (T (runO isB T n a)) = true then (1, runO isB T n a, runO isL T n (runO isB T n a), 0)
  else if isD (T (runO isB T n a)) = true then (2, runO isB T n a, runO isD T n (runO isB T n a), dvO T (runO isB T n a) (runO isD T n (runO isB T n a) - runO isB T n a))
  else if T (runO isB T n a) = 59 then (3, runO isB T n a, runO isB T n a + 1, 0) else (4, runO isB T n a, runO isB T n a + 1, 0)
theorem run_more {q : Nat → Bool} {T : Nat → Nat} {n a : Nat} (h : a < n) (hq : q (T a) = true) : a < runO q T n a := by
  rcases Nat.lt_or_ge a (runO q T n a) with z | z
  · exact z
  · have h1 := run_ge q T n a
    have e : runO q T n a = a := by omega
    have h2 := run_at (q := q) (T := T) (n := n) (a := a) (by omega)
    rw [e, hq] at h2; exact absurd h2 (by decide)
theorem tk_ok (T : Nat → Nat) {n a : Nat} (h : a ≤ n) : tF (tokO T n a) = runO isB T n a ∧ tF (tokO T n a) ≤ tT (tokO T n a) ∧ tT (tokO T n a) ≤ n ∧ a ≤ tF (tokO T n a) ∧ (tK (tokO T n a) ≠ 0 → tF (tokO T n a) < tT (tokO T n a)) ∧ tK (tokO T n a) ≤ 4 := by
  have h1 := run_ge isB T n a; have h2 := run_le isB T h
  have e : ∀ w : TK, tokO T n a = w → tF w = runO isB T n a ∧ tF w ≤ tT w ∧ tT w ≤ n ∧ a ≤ tF w ∧ (tK w ≠ 0 → tF w < tT w) ∧ tK w ≤ 4 := by
    intro w hw
    unfold tokO at hw
    split at hw
    · rw [← hw]; exact ⟨rfl, Nat.le_refl _, h2, h1, fun c => absurd rfl c, Nat.zero_le _⟩
    · rename_i c0
      split at hw
      · rename_i c1
        rw [← hw]; exact ⟨rfl, run_ge _ _ _ _, run_le _ _ h2, h1, fun _ => run_more (a := runO isB T n a) (by omega) c1, (by decide : (1 : Nat) ≤ 4)⟩
      · split at hw
        · rename_i c1 c2
          rw [← hw]; exact ⟨rfl, run_ge _ _ _ _, run_le _ _ h2, h1, fun _ => run_more (a := runO isB T n a) (by omega) c2, (by decide : (2 : Nat) ≤ 4)⟩
        · split at hw
          · rw [← hw]; exact ⟨rfl, Nat.le_succ _, by show runO isB T n a + 1 ≤ n; omega, h1, fun _ => Nat.lt_succ_self _, (by decide : (3 : Nat) ≤ 4)⟩
          · rw [← hw]; exact ⟨rfl, Nat.le_succ _, by show runO isB T n a + 1 ≤ n; omega, h1, fun _ => Nat.lt_succ_self _, Nat.le_refl _⟩
  exact e _ rfl
def b2I (b : Bool) : Int32 := if b = true then 1 else 0
theorem b2_br {b : Bool} {A B : Prop} (f : b = false → A) (g : b = true → B) : (b2I b = (0 : Int32) → A) ∧ (¬ b2I b = (0 : Int32) → B) := by
  cases b with
  | false => exact br_t rfl (f rfl)
  | true => exact br_f (by decide) (g rfl)
section ChX
variable {σ : hsS} {post : Int32 → hsS → Prop} {c : Nat}
theorem ch_L (hc : c < 2 ^ 31) (k : post (b2I (isL c)) σ) : (nI c < (97 : Int32) → post (0 : Int32) σ) ∧ (¬ nI c < (97 : Int32) → (((122 : Int32) < nI c → post (0 : Int32) σ) ∧ (¬ (122 : Int32) < nI c → post (1 : Int32) σ))) := by
  refine pk_lt c 97 (fun h1 => ?_) (fun h1 => pk_lt 122 c (fun h2 => ?_) (fun h2 => ?_))
  · rw [show isL c = false by unfold isL; simp; omega] at k; exact k
  · rw [show isL c = false by unfold isL; simp; omega] at k; exact k
  · rw [show isL c = true by unfold isL; simp; omega] at k; exact k
theorem ch_D (hc : c < 2 ^ 31) (k : post (b2I (isD c)) σ) : (nI c < (48 : Int32) → post (0 : Int32) σ) ∧ (¬ nI c < (48 : Int32) → (((57 : Int32) < nI c → post (0 : Int32) σ) ∧ (¬ (57 : Int32) < nI c → post (1 : Int32) σ))) := by
  refine pk_lt c 48 (fun h1 => ?_) (fun h1 => pk_lt 57 c (fun h2 => ?_) (fun h2 => ?_))
  · rw [show isD c = false by unfold isD; simp; omega] at k; exact k
  · rw [show isD c = false by unfold isD; simp; omega] at k; exact k
  · rw [show isD c = true by unfold isD; simp; omega] at k; exact k
theorem qx_isBlank (hc : c < 2 ^ 31) (k : post (b2I (isB c)) σ) : wX3_isBlank (nI c) post σ := by
  refine pk_eq c 32 (fun h1 => ?_) (fun h1 => pk_eq c 10 (fun h2 => ?_) (fun h2 => ?_))
  · rw [show isB c = true by unfold isB; simp [h1]] at k; exact k
  · rw [show isB c = true by unfold isB; simp [h2]] at k; exact k
  · rw [show isB c = false by unfold isB; simp [h1, h2]] at k; exact k
theorem qx_isLetter (hc : c < 2 ^ 31) (k : post (b2I (isL c)) σ) : wX3_isLetter (nI c) post σ := ch_L hc k
theorem qx_isDigit (hc : c < 2 ^ 31) (k : post (b2I (isD c)) σ) : wX3_isDigit (nI c) post σ := ch_D hc k
theorem qm_isLetter (hc : c < 2 ^ 31) (k : post (b2I (isL c)) σ) : wX8_isLetter (nI c) post σ := ch_L hc k
theorem qm_isDigit (hc : c < 2 ^ 31) (k : post (b2I (isD c)) σ) : wX8_isDigit (nI c) post σ := ch_D hc k
end ChX
/-- the text, and a token, as the class has them -/
def CL (T : Nat → Nat) (n : Nat) (σ : hsS) : Prop := σ.1 (64 * 11 + 3) = nI n ∧ n ≤ 600 ∧ ∀ j, j < n → T j < 256 ∧ σ.2.1 (11 + 1) j &&& 255 = nI (T j)
def CK (w : TK) (σ : hsS) : Prop := σ.1 (64 * 11 + 4) = nI (tK w) ∧ σ.1 (64 * 11 + 5) = nI (tF w) ∧ σ.1 (64 * 11 + 6) = nI (tT w) ∧ (tK w = 2 → σ.1 (64 * 11 + 7) = nI (tV w))
theorem CL.fr {T : Nat → Nat} {n : Nat} {I R : List Nat} {σ σ' : hsS} (h : CL T n σ) (hf : FRm I R σ σ') (hI : 707 ∉ I) (hR : 12 ∉ R) : CL T n σ' := by
  obtain ⟨h1, h2, h3⟩ := h
  refine ⟨by rw [hf.1 _ hI]; exact h1, h2, ?_⟩
  rw [hf.2.1 _ hR]; exact h3
section NextX
variable {T : Nat → Nat} {n : Nat} {σ : hsS}
theorem qx_byteAt (h : CL T n σ) {j : Nat} (hj : j < n) {post : Int32 → hsS → Prop} (k : post (nI (T j)) σ) : wX3_byteAt 11 (nI j) post σ := by
  have hn := h.2.1
  refine br_f (nI_pos (by omega)) (br_f (by rw [h.1]; exact nI_ge hj (by omega)) (br_f (nI_ge (b := 600) (by omega) (by decide)) ⟨pk_in j 600 (by omega), ?_⟩))
  rw [nI_clamp (by omega), (h.2.2 j hj).2]; exact k
theorem qx_blanks (h : CL T n σ) {a : Nat} (ha : a ≤ n) (h5 : σ.1 (64 * 11 + 5) = nI a) {post : hsS → Prop} (K : hsS → Prop) (k : ∀ σ', FRm [709] [] σ σ' → σ'.1 (64 * 11 + 5) = nI (runO isB T n a) → K σ') : ∃ f, wX3_next_L8 11 K post f σ := by
  have hn := h.2.1
  have hle := run_le isB T ha
  refine pk_loop (fun f j (s : hsS) => wX3_next_L8 11 K post f s) (fun j s => a ≤ j ∧ FRm [709] [] σ s ∧ s.1 (64 * 11 + 5) = nI j) (runO isB T n a) a σ (run_ge _ _ _ _) ⟨Nat.le_refl _, FRm.rf, h5⟩ ?_ ?_
  · intro f s e
    obtain ⟨_, e1, e2⟩ := e
    have hs := h.fr e1 (by decide) (by decide)
    rw [wX3_next_L8, hs.1, e2]
    refine pk_le n (runO isB T n a) (fun c => k s e1 e2) (fun c => qx_byteAt hs c (qx_isBlank (by have := (hs.2.2 _ c).1; omega) ?_))
    rw [run_at c]
    exact br_t rfl (k s e1 e2)
  · intro f j s hj e ih
    obtain ⟨e0, e1, e2⟩ := e
    have hs := h.fr e1 (by decide) (by decide)
    rw [wX3_next_L8, hs.1, e2]
    refine br_f (nI_ge (by omega) (by omega)) (qx_byteAt hs (by omega) (qx_isBlank (by have := (hs.2.2 j (by omega)).1; omega) ?_))
    rw [run_in e0 hj]
    refine br_f (by decide) (fun S hS => ih S ⟨by omega, ?_, ?_⟩)
    · rw [hS]; exact e1.trans (FRm.int _ (by decide))
    · rw [hS, e2, nI_1]; exact hsI_at _ _ _
theorem qx_letters (h : CL T n σ) {a : Nat} (ha : a ≤ n) (h6 : σ.1 (64 * 11 + 6) = nI a) {post : hsS → Prop} (k : ∀ σ', FRm [710] [] σ σ' → σ'.1 (64 * 11 + 6) = nI (runO isL T n a) → post σ') : wX3_passLetters 11 post σ := by
  have hn := h.2.1
  have hle := run_le isL T ha
  refine pk_loop (fun f j (s : hsS) => wX3_passLetters_L0 11 _ post f s) (fun j s => a ≤ j ∧ FRm [710] [] σ s ∧ s.1 (64 * 11 + 6) = nI j) (runO isL T n a) a σ (run_ge _ _ _ _) ⟨Nat.le_refl _, FRm.rf, h6⟩ ?_ ?_
  · intro f s e
    obtain ⟨_, e1, e2⟩ := e
    have hs := h.fr e1 (by decide) (by decide)
    rw [wX3_passLetters_L0, hs.1, e2]
    refine pk_le n (runO isL T n a) (fun c => k s e1 e2) (fun c => qx_byteAt hs c (qx_isLetter (by have := (hs.2.2 _ c).1; omega) ?_))
    rw [run_at c]
    exact br_t rfl (k s e1 e2)
  · intro f j s hj e ih
    obtain ⟨e0, e1, e2⟩ := e
    have hs := h.fr e1 (by decide) (by decide)
    rw [wX3_passLetters_L0, hs.1, e2]
    refine br_f (nI_ge (by omega) (by omega)) (qx_byteAt hs (by omega) (qx_isLetter (by have := (hs.2.2 j (by omega)).1; omega) ?_))
    rw [run_in e0 hj]
    refine br_f (by decide) (fun S hS => ih S ⟨by omega, ?_, ?_⟩)
    · rw [hS]; exact e1.trans (FRm.int _ (by decide))
    · rw [hS, e2, nI_1]; exact hsI_at _ _ _
theorem qx_digits (h : CL T n σ) {a : Nat} (ha : a ≤ n) (h6 : σ.1 (64 * 11 + 6) = nI a) {post : hsS → Prop} (k : ∀ σ', FRm [710, 711] [] σ σ' → σ'.1 (64 * 11 + 6) = nI (runO isD T n a) → σ'.1 (64 * 11 + 7) = nI (dvO T a (runO isD T n a - a)) → post σ') : wX3_passDigits 11 post σ := by
  have hn := h.2.1
  have hle := run_le isD T ha
  intro s0 e0
  have f0 : FRm [710, 711] [] σ s0 := by rw [e0]; exact FRm.int _ (by decide)
  refine pk_loop (fun f j (s : hsS) => wX3_passDigits_L5 11 _ post f s) (fun j s => a ≤ j ∧ FRm [710, 711] [] σ s ∧ s.1 (64 * 11 + 6) = nI j ∧ s.1 (64 * 11 + 7) = nI (dvO T a (j - a))) (runO isD T n a) a s0 (run_ge _ _ _ _) ⟨Nat.le_refl _, f0, by rw [e0, hsI_ne _ _ (by decide)]; exact h6, by rw [e0, Nat.sub_self]; exact hsI_at _ _ _⟩ ?_ ?_
  · intro f s e
    obtain ⟨_, e1, e2, e3⟩ := e
    have hs := h.fr e1 (by decide) (by decide)
    rw [wX3_passDigits_L5, hs.1, e2]
    refine pk_le n (runO isD T n a) (fun c => k s e1 e2 e3) (fun c => qx_byteAt hs c (qx_isDigit (by have := (hs.2.2 _ c).1; omega) ?_))
    rw [run_at c]
    exact br_t rfl (k s e1 e2 e3)
  · intro f j s hj e ih
    obtain ⟨e0, e1, e2, e3⟩ := e
    have hs := h.fr e1 (by decide) (by decide)
    have hd := run_in e0 hj
    have h48 : 48 ≤ T j := by unfold isD at hd; simp at hd; omega
    rw [wX3_passDigits_L5, hs.1, e2]
    refine br_f (nI_ge (by omega) (by omega)) (qx_byteAt hs (by omega) (qx_isDigit (by have := (hs.2.2 j (by omega)).1; omega) ?_))
    rw [hd, e2]
    refine br_f (by decide) (qx_byteAt hs (by omega) (fun S hS S2 hS2 => ih S2 ⟨by omega, ?_, ?_, ?_⟩))
    · rw [hS2, hS]; exact (e1.trans (FRm.int _ (by decide))).trans (FRm.int _ (by decide))
    · have : S.1 (64 * 11 + 6) = nI j := by rw [hS, hsI_ne _ _ (by decide)]; exact e2
      rw [hS2, this, nI_1]; exact hsI_at _ _ _
    · rw [hS2, hsI_ne _ _ (by decide), hS, hsI_at, e3, show j + 1 - a = (j - a) + 1 by omega]
      show _ = nI (dvO T a (j - a) * 10 + (T (a + (j - a)) - 48))
      rw [show a + (j - a) = j by omega, show (10 : Int32) = nI 10 from rfl, pk_mul, nI_add, show (48 : Int32) = nI 48 from rfl, pk_sub (by omega), show dvO T a (j - a) * 10 + T j - 48 = dvO T a (j - a) * 10 + (T j - 48) by omega]
theorem qx_next (h : CL T n σ) {a : Nat} (ha : a ≤ n) (h6 : σ.1 (64 * 11 + 6) = nI a) {post : hsS → Prop} (k : ∀ σ', FRm [708, 709, 710, 711] [] σ σ' → CK (tokO T n a) σ' → post σ') : wX3_next 11 post σ := by
  have hn := h.2.1
  have hle := run_le isB T ha
  intro s1 e1
  have f1 : FRm [709] [] σ s1 := by rw [e1]; exact FRm.int _ (by decide)
  refine qx_blanks (h.fr f1 (by decide) (by decide)) ha (by rw [e1, hsI_at]; exact h6) _ (fun s2 f2 a2 => fun s3 e3 => ?_)
  have f3 : FRm [708, 709, 710, 711] [] σ s3 := by rw [e3]; exact ((f1.weak (by decide) (by decide)).trans (f2.weak (by decide) (by decide))).trans (FRm.int _ (by decide))
  have a5 : s3.1 (64 * 11 + 5) = nI (runO isB T n a) := by rw [e3, hsI_ne _ _ (by decide)]; exact a2
  have a6 : s3.1 (64 * 11 + 6) = nI (runO isB T n a) := by rw [e3, a2]; exact hsI_at _ _ _
  have hs := h.fr f3 (by decide) (by decide)
  rw [a5, hs.1]
  refine pk_lt (runO isB T n a) n (fun c => ?_) (fun c => fun s4 e4 => ?_)
  · have hb := (hs.2.2 _ c).1
    refine qx_byteAt hs c (qx_isLetter (by omega) (b2_br (fun hL => ?_) (fun hL => fun s4 e4 => ?_)))
    · rw [a5]
      refine qx_byteAt hs c (qx_isDigit (by omega) (b2_br (fun hD => ?_) (fun hD => fun s4 e4 => ?_)))
      · rw [a5]
        refine qx_byteAt hs c (pk_eq (T (runO isB T n a)) 59 (fun c59 => fun s4 e4 s5 e5 => ?_) (fun c59 => fun s4 e4 s5 e5 => ?_))
        · have et : tokO T n a = (3, runO isB T n a, runO isB T n a + 1, 0) := by unfold tokO; rw [if_neg (by omega), if_neg (by rw [hL]; decide), if_neg (by rw [hD]; decide), if_pos c59]
          have b5 : s4.1 (64 * 11 + 5) = nI (runO isB T n a) := by rw [e4, hsI_ne _ _ (by decide)]; exact a5
          rw [b5, nI_1] at e5
          refine k s5 (by rw [e5, e4]; exact (f3.trans (FRm.int _ (by decide))).trans (FRm.int _ (by decide))) ?_
          rw [et]
          exact ⟨by rw [e5, hsI_ne _ _ (by decide), e4]; exact hsI_at _ _ _, by rw [e5, hsI_ne _ _ (by decide)]; exact b5, by rw [e5]; exact hsI_at _ _ _, fun z => by simp [tK] at z⟩
        · have et : tokO T n a = (4, runO isB T n a, runO isB T n a + 1, 0) := by unfold tokO; rw [if_neg (by omega), if_neg (by rw [hL]; decide), if_neg (by rw [hD]; decide), if_neg c59]
          have b5 : s4.1 (64 * 11 + 5) = nI (runO isB T n a) := by rw [e4, hsI_ne _ _ (by decide)]; exact a5
          rw [b5, nI_1] at e5
          refine k s5 (by rw [e5, e4]; exact (f3.trans (FRm.int _ (by decide))).trans (FRm.int _ (by decide))) ?_
          rw [et]
          exact ⟨by rw [e5, hsI_ne _ _ (by decide), e4]; exact hsI_at _ _ _, by rw [e5, hsI_ne _ _ (by decide)]; exact b5, by rw [e5]; exact hsI_at _ _ _, fun z => by simp [tK] at z⟩
      · have et : tokO T n a = (2, runO isB T n a, runO isD T n (runO isB T n a), dvO T (runO isB T n a) (runO isD T n (runO isB T n a) - runO isB T n a)) := by unfold tokO; rw [if_neg (by omega), if_neg (by rw [hL]; decide), if_pos hD]
        have f4 : FRm [708, 709, 710, 711] [] s3 s4 := by rw [e4]; exact FRm.int _ (by decide)
        refine qx_digits (h.fr (f3.trans f4) (by decide) (by decide)) hle (by rw [e4, hsI_ne _ _ (by decide)]; exact a6) (fun s5 f5 b6 b7 => k s5 ((f3.trans f4).trans (f5.weak (by decide) (by decide))) ?_)
        rw [et]
        exact ⟨by rw [f5.1 _ (by decide), e4]; exact hsI_at _ _ _, by rw [f5.1 _ (by decide), e4, hsI_ne _ _ (by decide)]; exact a5, b6, fun _ => b7⟩
    · have et : tokO T n a = (1, runO isB T n a, runO isL T n (runO isB T n a), 0) := by unfold tokO; rw [if_neg (by omega), if_pos hL]
      have f4 : FRm [708, 709, 710, 711] [] s3 s4 := by rw [e4]; exact FRm.int _ (by decide)
      refine qx_letters (h.fr (f3.trans f4) (by decide) (by decide)) hle (by rw [e4, hsI_ne _ _ (by decide)]; exact a6) (fun s5 f5 b6 => k s5 ((f3.trans f4).trans (f5.weak (by decide) (by decide))) ?_)
      rw [et]
      exact ⟨by rw [f5.1 _ (by decide), e4]; exact hsI_at _ _ _, by rw [f5.1 _ (by decide), e4, hsI_ne _ _ (by decide)]; exact a5, b6, fun z => by simp [tK] at z⟩
  · have et : tokO T n a = (0, runO isB T n a, runO isB T n a, 0) := by unfold tokO; rw [if_pos c]
    refine k s4 (by rw [e4]; exact f3.trans (FRm.int _ (by decide))) ?_
    rw [et]
    exact ⟨by rw [e4]; exact hsI_at _ _ _, by rw [e4, hsI_ne _ _ (by decide)]; exact a5, by rw [e4, hsI_ne _ _ (by decide)]; exact a6, fun z => by simp [tK] at z⟩
end NextX
/-! words -/
def sB (i j : Nat) : Int32 := (sByts.getD i []).getD j 0
def sN (i : Nat) : Nat := sLens.getD i 0
def wdO (T : Nat → Nat) (w : TK) (i : Nat) : Bool := decide (tK w = 1) && (decide (tT w - tF w = sN i) && decide (∀ j, j < sN i → nI (T (tF w + j)) = sB i j))
theorem ch_eq : ∀ i, i < 11 → ∀ j, j < sN i → (((sB i j) &&& (255 : Int32)).toUInt32 % 65536).toInt32 = sB i j := by decide +kernel
theorem ln_eq : ∀ i, i < 11 → (Int32.ofNat (sN i)) >>> ((0 : Int32) &&& 31) = nI (sN i) ∧ sN i ≤ 6 := by decide +kernel
section WordX
variable {T : Nat → Nat} {n : Nat} {σ : hsS} {i : Nat}
theorem qx_len (hi : i < 11) {post : Int32 → hsS → Prop} (k : post (nI (sN i)) σ) : wJ0_length_8abf5 i post σ := by
  show post ((Int32.ofNat (sN i)) >>> ((0 : Int32) &&& 31)) σ
  rw [(ln_eq i hi).1]; exact k
theorem qx_char (hi : i < 11) {j : Nat} (hj : j < sN i) {post : Int32 → hsS → Prop} (k : post (sB i j) σ) : wJ0_charAt_5068e i (nI j) post σ := by
  have hl := (ln_eq i hi).2
  refine br_f (by decide) (br_f (nI_pos (by omega)) (br_t (nI_lt (b := sN i) hj (by omega)) ⟨pk_in j (sN i) hj, pk_nc _, pk_nc _, ?_⟩))
  rw [nI_clamp (by omega)]
  show post ((((sB i j) &&& (255 : Int32)).toUInt32 % 65536).toInt32) σ
  rw [ch_eq i hi j hj]; exact k
theorem qx_isWord (h : CL T n σ) {w : TK} (hk : CK w σ) (hw : tF w ≤ tT w) (hw2 : tT w ≤ n) (hk4 : tK w ≤ 4) (hi : i < 11) {post : Int32 → hsS → Prop} (k : post (b2I (wdO T w i)) σ) : wX3_isWord 11 i post σ := by
  have hn := h.2.1; have hl := (ln_eq i hi).2
  unfold wX3_isWord
  rw [hk.1, hk.2.1, hk.2.2.1, pk_sub hw]
  refine pk_eq (tK w) 1 (fun c => qx_len hi ?_) (fun c => ?_)
  · refine pk_eq (tT w - tF w) (sN i) (fun c2 => ?_) (fun c2 => ?_)
    · refine pk_loop (fun f j (_ : Unit) => wX3_isWord_L28 11 i _ _ post f (nI j) σ) (fun j _ => ∀ x, x < j → nI (T (tF w + x)) = sB i x) (sN i) 0 () (Nat.zero_le _) (fun x hx => absurd hx (Nat.not_lt_zero _)) ?_ ?_
      · intro f _ e
        rw [wX3_isWord_L28]
        refine qx_len hi (br_t (nI_le (Nat.le_refl _) (by omega)) ?_)
        rw [show wdO T w i = true by unfold wdO; simp [c, c2]; exact e] at k; exact k
      · intro f j _ hj e ih
        rw [wX3_isWord_L28]
        refine qx_len hi (br_f (nI_ge hj (by omega)) ?_)
        rw [hk.2.1, nI_add]
        refine qx_byteAt h (by omega) (qx_char hi hj (br_c (fun c3 => nm_e ?_) (fun c3 => ?_)))
        · rw [nI_1]
          refine ih () (fun x hx => ?_)
          rcases Nat.decEq x j with z | z
          · exact e x (by omega)
          · rw [z]; exact c3
        · rw [show wdO T w i = false by
            unfold wdO
            have : ¬ ∀ j, j < sN i → nI (T (tF w + j)) = sB i j := fun H => c3 (H j hj)
            simp only [this, decide_false, Bool.and_false]] at k
          exact k
    · rw [show wdO T w i = false by unfold wdO; simp [c2]] at k; exact k
  · rw [show wdO T w i = false by unfold wdO; simp [c]] at k; exact k
end WordX
