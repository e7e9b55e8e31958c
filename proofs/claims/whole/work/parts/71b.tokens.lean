/-! ===== hall: tokens of the reference; faults ===== -/
def ML (T : Nat → Nat) (n : Nat) (σ : hsS) : Prop := σ.1 16 = nI n ∧ n ≤ 600 ∧ ∀ j, j < n → T j < 256 ∧ σ.2.1 12 j = nI (T j)
def MK (w : TK) (σ : hsS) : Prop := σ.1 17 = nI (tK w) ∧ σ.1 19 = nI (tF w) ∧ σ.1 20 = nI (tT w) ∧ σ.1 15 = nI (tT w) ∧ (tK w = 2 → σ.1 18 = nI (min 10000 (tV w)))
theorem ML.fr {T : Nat → Nat} {n : Nat} {I R : List Nat} {σ σ' : hsS} (h : ML T n σ) (hf : FRm I R σ σ') (hI : 16 ∉ I) (hR : 12 ∉ R) : ML T n σ' := by
  obtain ⟨h1, h2, h3⟩ := h
  refine ⟨by rw [hf.1 _ hI]; exact h1, h2, ?_⟩
  rw [hf.2.1 _ hR]; exact h3
section StepM
variable {T : Nat → Nat} {n : Nat} {σ : hsS}
theorem qm_byteIn (h : ML T n σ) {j : Nat} (hj : j < n) {post : Int32 → hsS → Prop} (k : post (nI (T j)) σ) : wX8_byteAt (nI j) post σ := by
  have hn := h.2.1
  refine br_f (by rw [h.1]; exact nI_ge hj (by omega)) ⟨pk_in j 600 (by omega), ?_⟩
  rw [nI_clamp (by omega), (h.2.2 j hj).2]; exact k
theorem qm_byteOut (h : ML T n σ) {j : Nat} (hj : n ≤ j) (hj2 : j < 2 ^ 31) {post : Int32 → hsS → Prop} (k : post (-1) σ) : wX8_byteAt (nI j) post σ :=
  br_t (by rw [h.1]; exact nI_le hj hj2) k
theorem qm_letterN {post : Int32 → hsS → Prop} (k : post 0 σ) : wX8_isLetter (-1) post σ := br_t (by decide) k
theorem qm_digitN {post : Int32 → hsS → Prop} (k : post 0 σ) : wX8_isDigit (-1) post σ := br_t (by decide) k
theorem qm_blanks (h : ML T n σ) {a : Nat} (ha : a ≤ n) (h5 : σ.1 15 = nI a) {post : hsS → Prop} (K : hsS → Prop) (k : ∀ σ', FRm [15] [] σ σ' → σ'.1 15 = nI (runO isB T n a) → K σ') : ∃ f, wX8_step_L0 K post f σ := by
  have hn := h.2.1
  have hle := run_le isB T ha
  refine pk_loop (fun f j (s : hsS) => wX8_step_L0 K post f s) (fun j s => a ≤ j ∧ FRm [15] [] σ s ∧ s.1 15 = nI j) (runO isB T n a) a σ (run_ge _ _ _ _) ⟨Nat.le_refl _, FRm.rf, h5⟩ ?_ ?_
  · intro f s e
    obtain ⟨_, e1, e2⟩ := e
    have hs := h.fr e1 (by decide) (by decide)
    rw [wX8_step_L0, e2]
    rcases Nat.lt_or_ge (runO isB T n a) n with c | c
    · have hb0 := run_at c
      have hT := (hs.2.2 _ c).1
      have hb : ¬ T (runO isB T n a) = 32 ∧ ¬ T (runO isB T n a) = 10 := by
        generalize T (runO isB T n a) = y at hb0
        unfold isB at hb0; simpa using hb0
      refine qm_byteIn hs c (br_f (fun z => hb.1 ((nI_eq (b := 32) (by omega) (by decide)).mp z)) ?_)
      rw [e2]
      exact qm_byteIn hs c (br_f (fun z => hb.2 ((nI_eq (b := 10) (by omega) (by decide)).mp z)) (k s e1 e2))
    · refine qm_byteOut hs c (by omega) (br_f (by decide) ?_)
      rw [e2]
      exact qm_byteOut hs c (by omega) (br_f (by decide) (k s e1 e2))
  · intro f j s hj e ih
    obtain ⟨e0, e1, e2⟩ := e
    have hs := h.fr e1 (by decide) (by decide)
    have hb := run_in e0 hj
    have hT := (hs.2.2 j (by omega)).1
    have fin : ∀ S : hsS, S = hsI s 15 (nI j + 1) → wX8_step_L0 K post f S := fun S hS => by
      refine ih S ⟨by omega, by rw [hS]; exact e1.trans (FRm.int _ (by decide)), ?_⟩
      rw [hS, nI_1, hsI_at]
    rw [wX8_step_L0, e2]
    refine qm_byteIn hs (by omega) (pk_eq (T j) 32 (fun c => ?_) (fun c => ?_))
    · rw [e2]; exact fin
    · rw [e2]
      refine qm_byteIn hs (by omega) (br_t ?_ ?_)
      · unfold isB at hb; simp [c] at hb; rw [hb]; rfl
      · rw [e2]; exact fin
theorem qm_letters (h : ML T n σ) {a : Nat} (ha : a ≤ n) (h5 : σ.1 15 = nI a) {z1 : Int32} {post : hsS → Prop} (K : hsS → Prop) (k : ∀ σ', FRm [15] [] σ σ' → σ'.1 15 = nI (runO isL T n a) → K σ') : ∃ f, wX8_step_L76 z1 K post f σ := by
  have hn := h.2.1
  have hle := run_le isL T ha
  refine pk_loop (fun f j (s : hsS) => wX8_step_L76 z1 K post f s) (fun j s => a ≤ j ∧ FRm [15] [] σ s ∧ s.1 15 = nI j) (runO isL T n a) a σ (run_ge _ _ _ _) ⟨Nat.le_refl _, FRm.rf, h5⟩ ?_ ?_
  · intro f s e
    obtain ⟨_, e1, e2⟩ := e
    have hs := h.fr e1 (by decide) (by decide)
    rw [wX8_step_L76, e2]
    rcases Nat.lt_or_ge (runO isL T n a) n with c | c
    · refine qm_byteIn hs c (qm_isLetter (by have := (hs.2.2 _ c).1; omega) ?_)
      rw [run_at c]
      exact br_t rfl (k s e1 e2)
    · exact qm_byteOut hs c (by omega) (qm_letterN (br_t rfl (k s e1 e2)))
  · intro f j s hj e ih
    obtain ⟨e0, e1, e2⟩ := e
    have hs := h.fr e1 (by decide) (by decide)
    rw [wX8_step_L76, e2]
    refine qm_byteIn hs (by omega) (qm_isLetter (by have := (hs.2.2 j (by omega)).1; omega) ?_)
    rw [run_in e0 hj, e2]
    refine br_f (by decide) (fun S hS => ih S ⟨by omega, by rw [hS]; exact e1.trans (FRm.int _ (by decide)), ?_⟩)
    rw [hS, nI_1, hsI_at]
theorem qm_digits (h : ML T n σ) {a : Nat} (ha : a ≤ n) (h5 : σ.1 15 = nI a) (h18 : σ.1 18 = 0) {z1 : Int32} {post : hsS → Prop} (K : hsS → Prop) (k : ∀ σ', FRm [15, 18] [] σ σ' → σ'.1 15 = nI (runO isD T n a) → σ'.1 18 = nI (min 10000 (dvO T a (runO isD T n a - a))) → K σ') : ∃ f, wX8_step_L123 z1 K post f σ := by
  have hn := h.2.1
  have hle := run_le isD T ha
  refine pk_loop (fun f j (s : hsS) => wX8_step_L123 z1 K post f s) (fun j s => a ≤ j ∧ FRm [15, 18] [] σ s ∧ s.1 15 = nI j ∧ s.1 18 = nI (min 10000 (dvO T a (j - a)))) (runO isD T n a) a σ (run_ge _ _ _ _) ⟨Nat.le_refl _, FRm.rf, h5, by rw [Nat.sub_self]; exact h18⟩ ?_ ?_
  · intro f s e
    obtain ⟨_, e1, e2, e3⟩ := e
    have hs := h.fr e1 (by decide) (by decide)
    rw [wX8_step_L123, e2]
    rcases Nat.lt_or_ge (runO isD T n a) n with c | c
    · refine qm_byteIn hs c (qm_isDigit (by have := (hs.2.2 _ c).1; omega) ?_)
      rw [run_at c]
      exact br_t rfl (k s e1 e2 e3)
    · exact qm_byteOut hs c (by omega) (qm_digitN (br_t rfl (k s e1 e2 e3)))
  · intro f j s hj e ih
    obtain ⟨e0, e1, e2, e3⟩ := e
    have hs := h.fr e1 (by decide) (by decide)
    have hd := run_in e0 hj
    have hdd : 48 ≤ T j ∧ T j ≤ 57 := by unfold isD at hd; simp at hd; omega
    rw [wX8_step_L123, e2]
    refine qm_byteIn hs (by omega) (qm_isDigit (by have := (hs.2.2 j (by omega)).1; omega) ?_)
    rw [hd, e2, e3]
    refine br_f (by decide) (qm_byteIn hs (by omega) (fun S hS S2 hS2 => ih S2 ⟨by omega, ?_, ?_, ?_⟩))
    · rw [hS2, hS]; exact (e1.trans (FRm.int _ (by decide))).trans (FRm.int _ (by decide))
    · have : S.1 15 = nI j := by rw [hS, hsI_ne _ _ (by decide)]; exact e2
      rw [hS2, this, nI_1, hsI_at]
    · rw [hS2, hsI_ne _ _ (by decide), hS, hsI_at, show j + 1 - a = (j - a) + 1 by omega]
      show _ = nI (min 10000 (dvO T a (j - a) * 10 + (T (a + (j - a)) - 48)))
      rw [show a + (j - a) = j by omega, show (10 : Int32) = nI 10 from rfl, pk_mul, nI_add, show (48 : Int32) = nI 48 from rfl, pk_sub (by omega)]
      have := nI_min (a := 10 * min 10000 (dvO T a (j - a)) + T j - 48) (c := 10000) (by omega) (by decide)
      rw [show min 10000 (dvO T a (j - a) * 10 + (T j - 48)) = min 10000 (10 * min 10000 (dvO T a (j - a)) + T j - 48) by omega]
      exact this
theorem qm_step (h : ML T n σ) {a : Nat} (ha : a ≤ n) (h5 : σ.1 15 = nI a) {post : hsS → Prop} (k : ∀ σ', FRm [15, 17, 18, 19, 20] [] σ σ' → MK (tokO T n a) σ' → post σ') : wX8_step post σ := by
  have hn := h.2.1
  have hle := run_le isB T ha
  refine qm_blanks h ha h5 _ (fun s2 f2 a2 => fun s3 e3 => ?_)
  have f3 : FRm [15, 17, 18, 19, 20] [] σ s3 := by rw [e3]; exact (f2.weak (by decide) (by decide)).trans (FRm.int _ (by decide))
  have a15 : s3.1 15 = nI (runO isB T n a) := by rw [e3, hsI_ne _ _ (by decide)]; exact a2
  have a19 : s3.1 19 = nI (runO isB T n a) := by rw [e3, a2, hsI_at]
  have hs := h.fr f3 (by decide) (by decide)
  rw [a15]
  rcases Nat.lt_or_ge (runO isB T n a) n with c | c
  · have hb := (hs.2.2 _ c).1
    refine qm_byteIn hs c (br_f (pk_nm1 (by omega)) (qm_isLetter (by omega) (b2_br (fun hL => ?_) (fun hL => ?_))))
    · refine qm_isDigit (by omega) (b2_br (fun hD => fun s4 e4 => ?_) (fun hD => fun s4 e4 => ?_))
      · rw [a15, nI_1] at e4
        refine pk_eq (T (runO isB T n a)) 59 (fun c59 => fun s5 e5 s6 e6 => ?_) (fun c59 => fun s5 e5 s6 e6 => ?_)
        · have et : tokO T n a = (3, runO isB T n a, runO isB T n a + 1, 0) := by unfold tokO; rw [if_neg (by omega), if_neg (by rw [hL]; decide), if_neg (by rw [hD]; decide), if_pos c59]
          have b5 : s5.1 15 = nI (runO isB T n a + 1) := by rw [e5, hsI_ne _ _ (by decide), e4, hsI_at]
          rw [b5] at e6
          refine k s6 (by rw [e6, e5, e4]; exact ((f3.trans (FRm.int _ (by decide))).trans (FRm.int _ (by decide))).trans (FRm.int _ (by decide))) ?_
          rw [et]
          exact ⟨by rw [e6, hsI_ne _ _ (by decide), e5, hsI_at]; rfl, by rw [e6, hsI_ne _ _ (by decide), e5, hsI_ne _ _ (by decide), e4, hsI_ne _ _ (by decide)]; exact a19, by rw [e6, hsI_at], by rw [e6, hsI_ne _ _ (by decide)]; exact b5, fun z => by simp [tK] at z⟩
        · have et : tokO T n a = (4, runO isB T n a, runO isB T n a + 1, 0) := by unfold tokO; rw [if_neg (by omega), if_neg (by rw [hL]; decide), if_neg (by rw [hD]; decide), if_neg c59]
          have b5 : s5.1 15 = nI (runO isB T n a + 1) := by rw [e5, hsI_ne _ _ (by decide), e4, hsI_at]
          rw [b5] at e6
          refine k s6 (by rw [e6, e5, e4]; exact ((f3.trans (FRm.int _ (by decide))).trans (FRm.int _ (by decide))).trans (FRm.int _ (by decide))) ?_
          rw [et]
          exact ⟨by rw [e6, hsI_ne _ _ (by decide), e5, hsI_at]; rfl, by rw [e6, hsI_ne _ _ (by decide), e5, hsI_ne _ _ (by decide), e4, hsI_ne _ _ (by decide)]; exact a19, by rw [e6, hsI_at], by rw [e6, hsI_ne _ _ (by decide)]; exact b5, fun z => by simp [tK] at z⟩
      · have et : tokO T n a = (2, runO isB T n a, runO isD T n (runO isB T n a), dvO T (runO isB T n a) (runO isD T n (runO isB T n a) - runO isB T n a)) := by unfold tokO; rw [if_neg (by omega), if_neg (by rw [hL]; decide), if_pos hD]
        have f4 : FRm [15, 17, 18, 19, 20] [] s3 s4 := by rw [e4]; exact FRm.int _ (by decide)
        refine qm_digits (h.fr (f3.trans f4) (by decide) (by decide)) hle (by rw [e4, hsI_ne _ _ (by decide)]; exact a15) (by rw [e4, hsI_at]) _ (fun s5 f5 b5 b18 => fun s6 e6 s7 e7 => ?_)
        have c15 : s6.1 15 = nI (runO isD T n (runO isB T n a)) := by rw [e6, hsI_ne _ _ (by decide)]; exact b5
        rw [c15] at e7
        refine k s7 (by rw [e7, e6]; exact (((f3.trans f4).trans (f5.weak (by decide) (by decide))).trans (FRm.int _ (by decide))).trans (FRm.int _ (by decide))) ?_
        rw [et]
        exact ⟨by rw [e7, hsI_ne _ _ (by decide), e6, hsI_at]; rfl, by rw [e7, hsI_ne _ _ (by decide), e6, hsI_ne _ _ (by decide), f5.1 _ (by decide), e4, hsI_ne _ _ (by decide)]; exact a19, by rw [e7, hsI_at], by rw [e7, hsI_ne _ _ (by decide)]; exact c15, fun _ => by rw [e7, hsI_ne _ _ (by decide), e6, hsI_ne _ _ (by decide)]; exact b18⟩
    · have et : tokO T n a = (1, runO isB T n a, runO isL T n (runO isB T n a), 0) := by unfold tokO; rw [if_neg (by omega), if_pos hL]
      refine qm_letters hs hle a15 _ (fun s5 f5 b5 => fun s6 e6 s7 e7 => ?_)
      have c15 : s6.1 15 = nI (runO isL T n (runO isB T n a)) := by rw [e6, hsI_ne _ _ (by decide)]; exact b5
      rw [c15] at e7
      refine k s7 (by rw [e7, e6]; exact ((f3.trans (f5.weak (by decide) (by decide))).trans (FRm.int _ (by decide))).trans (FRm.int _ (by decide))) ?_
      rw [et]
      exact ⟨by rw [e7, hsI_ne _ _ (by decide), e6, hsI_at]; rfl, by rw [e7, hsI_ne _ _ (by decide), e6, hsI_ne _ _ (by decide), f5.1 _ (by decide)]; exact a19, by rw [e7, hsI_at], by rw [e7, hsI_ne _ _ (by decide)]; exact c15, fun z => by simp [tK] at z⟩
  · have et : tokO T n a = (0, runO isB T n a, runO isB T n a, 0) := by unfold tokO; rw [if_pos c]
    refine qm_byteOut hs c (by omega) (br_t rfl (fun s4 e4 s5 e5 => ?_))
    have c15 : s4.1 15 = nI (runO isB T n a) := by rw [e4, hsI_ne _ _ (by decide)]; exact a15
    rw [c15] at e5
    refine k s5 (by rw [e5, e4]; exact (f3.trans (FRm.int _ (by decide))).trans (FRm.int _ (by decide))) ?_
    rw [et]
    exact ⟨by rw [e5, hsI_ne _ _ (by decide), e4, hsI_at]; rfl, by rw [e5, hsI_ne _ _ (by decide), e4, hsI_ne _ _ (by decide)]; exact a19, by rw [e5, hsI_at], by rw [e5, hsI_ne _ _ (by decide)]; exact c15, fun z => by simp [tK] at z⟩
/-! words, numbers, faults -/
theorem qm_is (h : ML T n σ) {w : TK} {i : Nat} (hk : MK w σ) (hb : σ.1 21 = 0) (hw : tF w ≤ tT w) (hw2 : tT w ≤ n) (hk4 : tK w ≤ 4) (hi : i < 11) {post : Int32 → hsS → Prop} (k : post (b2I (wdO T w i)) σ) : wX8_is i post σ := by
  have hn := h.2.1; have hl := (ln_eq i hi).2
  have L0 : ∀ K : Int32 → Int32 → hsS → Prop, (∀ z, K 0 z σ) → ∃ f, wX8_is_L39 i K post f 0 0 σ := fun K kk => ⟨1, by
    rw [wX8_is_L39]; exact br_t rfl (kk _)⟩
  unfold wX8_is
  rw [hk.1]
  refine br_t hb (pk_eq (tK w) 1 (fun c => qx_len hi ?_) (fun c => L0 _ (fun _ => ⟨Or.inl rfl, ?_⟩)))
  · rw [hk.2.1, hk.2.2.1, pk_sub hw]
    refine pk_eq (sN i) (tT w - tF w) (fun c2 => ?_) (fun c2 => L0 _ (fun _ => ⟨Or.inl rfl, ?_⟩))
    · have L1 : ∀ K : Int32 → Int32 → hsS → Prop, ((∀ x, x < sN i → nI (T (tF w + x)) = sB i x) → ∀ z, K 1 z σ) → ((∃ x, x < sN i ∧ ¬ nI (T (tF w + x)) = sB i x) → ∀ z, K 0 z σ) → ∃ f, wX8_is_L39 i K post f 1 0 σ := fun K q1 q0 =>
        pk_loop (fun f j (y : Int32) => wX8_is_L39 i K post f y (nI j) σ) (fun j y => (y = 1 ∧ ∀ x, x < j → nI (T (tF w + x)) = sB i x) ∨ (y = 0 ∧ ∃ x, x < sN i ∧ ¬ nI (T (tF w + x)) = sB i x)) (sN i) 0 1 (Nat.zero_le _) (Or.inl ⟨rfl, fun x hx => absurd hx (Nat.not_lt_zero _)⟩)
          (fun f y e => by
            rw [wX8_is_L39]
            rcases e with ⟨e1, e2⟩ | ⟨e1, e2⟩
            · rw [e1]; exact br_f (by decide) (qx_len hi (br_t (nI_le (Nat.le_refl _) (by omega)) (q1 e2 _)))
            · rw [e1]; exact br_t rfl (q0 e2 _))
          (fun f j y hj e ih => by
            rw [wX8_is_L39]
            rcases e with ⟨e1, e2⟩ | ⟨e1, e2⟩
            · rw [e1]
              refine br_f (by decide) (qx_len hi (br_f (nI_ge hj (by omega)) (qx_char hi hj ?_)))
              rw [hk.2.1, nI_add]
              refine ⟨pk_in (tF w + j) 600 (by omega), ?_⟩
              rw [nI_clamp (by omega), (h.2.2 _ (show tF w + j < n by omega)).2]
              refine br_c (fun c3 => nm_e ?_) (fun c3 => nm_e ?_)
              · rw [nI_1]
                refine ih 1 (Or.inl ⟨rfl, fun x hx => ?_⟩)
                rcases Nat.decEq x j with z | z
                · exact e2 x (by omega)
                · rw [z]; exact c3.symm
              · rw [nI_1]
                exact ih 0 (Or.inr ⟨rfl, j, hj, fun z => c3 z.symm⟩)
            · rw [e1]; exact br_t rfl (q0 e2 _))
      refine L1 _ (fun H z => ⟨Or.inr rfl, ?_⟩) (fun H z => ⟨Or.inl rfl, ?_⟩)
      · rw [show wdO T w i = true by unfold wdO; simp [c, c2]; rw [c2] at H; exact H] at k; exact k
      · obtain ⟨x, hx, hne⟩ := H
        rw [show wdO T w i = false by
          unfold wdO
          have : ¬ ∀ j, j < sN i → nI (T (tF w + j)) = sB i j := fun H => hne (H x hx)
          simp only [this, decide_false, Bool.and_false]] at k
        exact k
    · have c2' : ¬ tT w - tF w = sN i := fun z => c2 z.symm
      rw [show wdO T w i = false by unfold wdO; simp [c2']] at k; exact k
  · rw [show wdO T w i = false by unfold wdO; simp [c]] at k; exact k
theorem qm_wrong {w : TK} (hk : MK w σ) (hb : σ.1 21 = 0) {x : Nat} {post : hsS → Prop} (k : ∀ σ', FRm [21, 22] [] σ σ' → σ'.1 21 = nI x → σ'.1 22 = nI (tF w) → post σ') : wX8_wrong (nI x) post σ := by
  refine br_t hb (fun s1 e1 s2 e2 => ?_)
  have : s1.1 19 = nI (tF w) := by rw [e1, hsI_ne _ _ (by decide)]; exact hk.2.1
  rw [this] at e2
  exact k s2 (by rw [e2, e1]; exact (FRm.int _ (by decide)).trans (FRm.int _ (by decide))) (by rw [e2, hsI_ne _ _ (by decide), e1, hsI_at]) (by rw [e2, hsI_at])
end StepM
/-- what is wrong with a number; 0: nothing -/
def nbO (w : TK) (least most there : Nat) (over : Bool) : Nat := if tK w = 2 then (if 3 < tT w - tF w then 2 else if tV w < least then 2 else if most < tV w then 2 else if over = true then 2 else if there ≤ tV w then 3 else 0) else 1
theorem dv_lt {T : Nat → Nat} {f : Nat} : ∀ {j : Nat}, (∀ x, x < j → T (f + x) ≤ 57) → dvO T f j < 10 ^ j
  | 0, _ => Nat.one_pos
  | j + 1, h => by
    have ih := dv_lt (T := T) (f := f) (j := j) (fun x hx => h x (by omega))
    have h1 := h j (by omega)
    show dvO T f j * 10 + (T (f + j) - 48) < 10 ^ (j + 1)
    rw [Nat.pow_succ]; omega
theorem tk_val {T : Nat → Nat} {n a : Nat} (h : tK (tokO T n a) = 2) (h3 : tT (tokO T n a) - tF (tokO T n a) ≤ 3) : tV (tokO T n a) < 1000 := by
  have e : ∀ w : TK, tokO T n a = w → tK w = 2 → tT w - tF w ≤ 3 → tV w < 1000 := by
    intro w hw hk h3
    unfold tokO at hw
    split at hw
    · rw [← hw] at hk; simp [tK] at hk
    · split at hw
      · rw [← hw] at hk; simp [tK] at hk
      · split at hw
        · rw [← hw] at h3 ⊢
          have h3 : runO isD T n (runO isB T n a) - runO isB T n a ≤ 3 := h3
          have hd := dv_lt (T := T) (f := runO isB T n a) (j := runO isD T n (runO isB T n a) - runO isB T n a) (fun x hx => by
            have := run_in (q := isD) (T := T) (n := n) (a := runO isB T n a) (x := runO isB T n a + x) (Nat.le_add_right _ _) (by omega)
            unfold isD at this; simp at this; omega)
          have hp : 10 ^ (runO isD T n (runO isB T n a) - runO isB T n a) ≤ 10 ^ 3 := Nat.pow_le_pow_right (by decide) h3
          show dvO T (runO isB T n a) (runO isD T n (runO isB T n a) - runO isB T n a) < 1000
          omega
        · split at hw
          · rw [← hw] at hk; simp [tK] at hk
          · rw [← hw] at hk; simp [tK] at hk
  exact e _ rfl h h3
/-- a good token -/
def TG (n : Nat) (w : TK) : Prop := tF w ≤ tT w ∧ tT w ≤ n ∧ tK w ≤ 4 ∧ (tK w = 2 → tT w - tF w ≤ 3 → tV w < 1000) ∧ (tK w ≠ 0 → tF w < tT w)
theorem tg_ok (T : Nat → Nat) {n a : Nat} (h : a ≤ n) : TG n (tokO T n a) := by
  obtain ⟨h1, h2, h3, h4, h5, h6⟩ := tk_ok T h
  exact ⟨h2, h3, h6, tk_val, h5⟩
section NumM
variable {n : Nat} {σ : hsS} {w : TK}
theorem qm_readNumber (hg : TG n w) (hn : n ≤ 600) (hk : MK w σ) (hb : σ.1 21 = 0) {least most there : Nat} {over : Bool} {x4 : Int32} (hx4 : x4 = b2I over) (h1 : least < 2 ^ 31) (h2 : most < 2 ^ 31) (h3 : there < 2 ^ 31) {post : Int32 → hsS → Prop} (k0 : nbO w least most there over = 0 → tV w < 1000 → post (nI (tV w)) σ) (k1 : ∀ r σ', nbO w least most there over ≠ 0 → FRm [21, 22] [] σ σ' → σ'.1 21 = nI (nbO w least most there over) → σ'.1 22 = nI (tF w) → post r σ') : wX8_readNumber (nI least) (nI most) (nI there) x4 post σ := by
  obtain ⟨g1, g2, g3, g4, g5⟩ := hg
  unfold wX8_readNumber
  rw [hk.1, hk.2.1, hk.2.2.1, pk_sub g1]
  have wr : ∀ x : Nat, nbO w least most there over = x → x ≠ 0 → wX8_wrong (nI x) (fun s => post (s.1 18) s) σ := fun x hx hx0 => qm_wrong hk hb (fun s f1 f2 f3 => k1 _ s (by rw [hx]; exact hx0) f1 (by rw [hx]; exact f2) f3)
  refine br_t hb (pk_eq (tK w) 2 (fun c => ?_) (fun c => wr 1 (by unfold nbO; rw [if_neg c]) (by decide)))
  refine pk_lt 3 (tT w - tF w) (fun c3 => wr 2 (by unfold nbO; rw [if_pos c, if_pos c3]) (by decide)) (fun c3 => ?_)
  have hv := g4 c c3
  rw [hk.2.2.2.2 c, Nat.min_eq_right (by omega)]
  refine pk_lt (tV w) least (fun c4 => wr 2 (by unfold nbO; rw [if_pos c, if_neg (by omega), if_pos c4]) (by decide)) (fun c4 => pk_lt most (tV w) (fun c5 => wr 2 (by unfold nbO; rw [if_pos c, if_neg (by omega), if_neg (by omega), if_pos c5]) (by decide)) (fun c5 => ?_))
  rw [hx4]
  refine b2_br (fun c6 => pk_lt (tV w) there (fun c7 => k0 ?_ hv) (fun c7 => wr 3 ?_ (by decide))) (fun c6 => wr 2 ?_ (by decide))
  · unfold nbO; rw [if_pos c, if_neg (by omega), if_neg (by omega), if_neg (by omega), if_neg (by rw [c6]; decide), if_neg (by omega)]
  · unfold nbO; rw [if_pos c, if_neg (by omega), if_neg (by omega), if_neg (by omega), if_neg (by rw [c6]; decide), if_pos c7]
  · unfold nbO; rw [if_pos c, if_neg (by omega), if_neg (by omega), if_neg (by omega), if_pos c6]
end NumM
