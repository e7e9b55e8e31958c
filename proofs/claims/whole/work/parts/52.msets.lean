/-! ===== the striker and the core, in the reference ===== -/
section SetM
variable {A : AH} {g : Nat → Nat → Nat} {σ : hsS} {P : Nat → Nat → Nat} {m : Nat}
theorem qm_strikesOf (ha : AW A) (h : MH A g σ) (hl : LK P m (aN A) σ) (hm : 1 ≤ m) {post : Int32 → hsS → Prop} {s t : Nat} (hs : s < 2 ^ aN A) (ht : t < m) (k : post (nI (if hitO P m (aN A) (aMay A m (aAW A)) t s = true then 1 else 0)) σ) : wX8_strikesOf (nI s) (nI t) post σ := by
  have hn := aw_n ha; have hm10 := hl.2.1
  have hp8 : 2 ^ aN A ≤ 2 ^ 8 := Nat.pow_le_pow_right (by decide) hn
  have hm9 : 2 ^ m ≤ 2 ^ 10 := Nat.pow_le_pow_right (by decide) hm10
  refine pk_eq s 0 (fun c => ?_) (fun c => ?_)
  · subst c; rw [hitO_0] at k; exact k
  · refine qm_keepOf hl (mh_n h) _ ht ?_
    rw [qb_N_nI (by omega)]
    have hkl := kpO_lt P m s t (aN A)
    refine qm_sizeOf (by omega) (qm_everybody ha h ?_)
    rw [lk_m hl]
    have hfl := qs_full (aN A)
    refine qm_mayOf ha h ⟨hm, hm10⟩ hs (by have := Nat.two_pow_pos (aN A); omega) (fun p hp => ?_) ?_
    · rw [hfl]
      rcases Nat.lt_or_ge p (aN A) with z | z
      · simp [z]
      · rw [qs_hi hs z] at hp; exact absurd hp (by decide)
    · rw [aWt_all ha]
      have hmy := aMay_le (A := A) (m := m) (aw := aAW A) (s := s)
      have hsz := qs_sz_le (kpO P m s t (aN A))
      refine pk_lt (qs_sz (kpO P m s t (aN A))) (m - aMay A m (aAW A) s) (fun c2 => ?_) (fun c2 => ?_) rfl (pk_sub (by omega))
      · rw [hitO_f (by omega)] at k; exact k
      · rw [hitO_t c (by omega)] at k; exact k
theorem qm_isBefore {post : Int32 → hsS → Prop} {a c : Nat} (ha : a < 256) (hc : c < 256) (k : post (nI (if befO a c = true then 1 else 0)) σ) : wX8_isBefore (nI a) (nI c) post σ := by
  refine qm_sizeOf (by omega) (qm_sizeOf (by omega) ?_)
  have hsa := qs_sz_le a; have hsc := qs_sz_le c
  refine pk_eq (qs_sz a) (qs_sz c) (fun z => ?_) (fun z => ?_)
  · have hb : befO a c = a.testBit (lowO (a ^^^ c)) := by unfold befO; rw [if_pos z]
    rw [hb] at k
    have hle := fa_first_le (a ^^^ c).testBit 12
    have hfin : ∀ K : Int32 → hsS → Prop, K (nI (lowO (a ^^^ c))) σ → ∃ n, wX8_isBefore_L29 (nI a) (nI c) (nI (qs_sz a)) (nI (qs_sz c)) K post n 0 σ := fun K kk =>
      pk_loop (fun n j (_ : Unit) => wX8_isBefore_L29 (nI a) (nI c) (nI (qs_sz a)) (nI (qs_sz c)) K post n (nI j) σ) (fun j _ => j ≤ lowO (a ^^^ c)) 12 0 () (Nat.zero_le _) (Nat.zero_le _)
        (fun n _ e => by
          rw [wX8_isBefore_L29]
          have : lowO (a ^^^ c) = 12 := by unfold lowO at e ⊢; omega
          rw [this] at kk
          exact br_t (nI_le (a := 12) (Nat.le_refl _) (by omega)) kk)
        (fun n j _ hj e ih => by
          rw [wX8_isBefore_L29]
          refine br_f (nI_ge (b := 12) hj (by omega)) ?_
          rw [qb_shr1 _ (by omega), qb_shr1 _ (by omega), qb_N_nI (by omega), qb_N_nI (by omega)]
          rcases Nat.lt_or_ge j (lowO (a ^^^ c)) with y | y
          · have hno := fa_first_no (a ^^^ c).testBit 12 j y
            rw [Nat.testBit_xor] at hno
            have he : a.testBit j = c.testBit j := by revert hno; cases a.testBit j <;> cases c.testBit j <;> decide
            refine br_t (by rw [he]) (nm_e ?_)
            rw [nI_1]
            exact ih () (by omega)
          · have hj' : j = lowO (a ^^^ c) := by omega
            have hon := lowO_on (u := a ^^^ c) (by omega)
            rw [← hj', Nat.testBit_xor] at hon
            refine br_f ?_ (by rw [← hj'] at kk; exact kk)
            revert hon; cases a.testBit j <;> cases c.testBit j <;> decide)
    refine hfin _ ?_
    have hle2 : lowO (a ^^^ c) ≤ 12 := hle
    refine pk_le 12 (lowO (a ^^^ c)) (fun c1 => ?_) (fun c1 => ?_) rfl rfl (by omega) (by omega)
    · rw [show lowO (a ^^^ c) = 12 by omega, qs_hi (n := 8) ha (by decide)] at k; exact k
    · refine ek_if (qb_testN (by omega) (by omega)) (fun c2 => ?_) (fun c2 => ?_)
      · rw [c2] at k; exact k
      · rw [if_neg c2] at k; exact k
  · have hb : befO a c = decide (qs_sz a < qs_sz c) := by unfold befO; rw [if_neg z]
    rw [hb] at k
    refine pk_le (qs_sz c) (qs_sz a) (fun c1 => ?_) (fun c1 => ?_)
    · rw [show decide (qs_sz a < qs_sz c) = false by simp; omega] at k; exact k
    · rw [show decide (qs_sz a < qs_sz c) = true by simp; omega] at k; exact k
theorem qm_striker (ha : AW A) (h : MH A g σ) (hl : LK P m (aN A) σ) (hm : 1 ≤ m) {post : Int32 → hsS → Prop} {t : Nat} (ht : t < m) (K : Int32 → Int32 → hsS → Prop) (k : ∀ z, K (nI (bsO (hitO P m (aN A) (aMay A m (aAW A)) t) (2 ^ aN A))) z σ) : ∃ n, wX8_striker_L27 (nI t) K post n 0 1 σ := by
  have hn := aw_n ha
  have hp8 : 2 ^ aN A ≤ 2 ^ 8 := Nat.pow_le_pow_right (by decide) hn
  have hp1 := Nat.two_pow_pos (aN A)
  exact pk_loop (fun n j (y : Int32) => wX8_striker_L27 (nI t) K post n y (nI j) σ) (fun j y => 1 ≤ j ∧ y = nI (bsO (hitO P m (aN A) (aMay A m (aAW A)) t) j)) (2 ^ aN A) 1 0 hp1 ⟨Nat.le_refl _, by rw [bsO_1 (hitO_0 _ _ _ _ _)]; rfl⟩
    (fun n y e => by
      rw [wX8_striker_L27]
      refine qm_everybody ha h (br_t (nI_lt (by omega) (by omega)) ?_)
      rw [e.2]; exact k _)
    (fun n j y hj e ih => by
      obtain ⟨e0, e⟩ := e
      rw [wX8_striker_L27]
      refine qm_everybody ha h (br_f (nI_nlt (by omega) (by omega)) (qm_strikesOf ha h hl hm hj ht ?_))
      have hbl := bsO_lt (hitO P m (aN A) (aMay A m (aAW A)) t) (j - 1)
      rw [show j - 1 + 1 = j by omega] at hbl
      cases hh : hitO P m (aN A) (aMay A m (aAW A)) t j with
      | false =>
        refine br_t rfl (nm_e ?_)
        rw [nI_1]
        refine ih _ ⟨by omega, ?_⟩
        rw [bsO_succ, if_neg (by rw [hh]; decide)]; exact e
      | true =>
        refine br_f (by decide) (pk_eq (bsO (hitO P m (aN A) (aMay A m (aAW A)) t) j) 0 (fun c0 => ?_) (fun c0 => ?_) e rfl (by omega))
        · refine nm_e ?_
          rw [nI_1]
          refine ih _ ⟨by omega, ?_⟩
          rw [bsO_succ, if_pos hh, if_pos c0]
        · rw [e]
          refine qm_isBefore (by omega) (by omega) ?_
          cases hb : befO j (bsO (hitO P m (aN A) (aMay A m (aAW A)) t) j) with
          | false =>
            refine br_t rfl (nm_e ?_)
            rw [nI_1]
            refine ih _ ⟨by omega, ?_⟩
            rw [bsO_succ, if_pos hh, if_neg c0, if_neg (by rw [hb]; decide)]
          | true =>
            refine br_f (by decide) (nm_e ?_)
            rw [nI_1]
            refine ih _ ⟨by omega, ?_⟩
            rw [bsO_succ, if_pos hh, if_neg c0, if_pos hb])
/-- s lies in u -/
def subO (s u : Nat) : Prop := ∀ p, s.testBit p = true → u.testBit p = true
theorem subO_and {s u : Nat} : s ^^^ (s &&& u) = 0 ↔ subO s u := by
  constructor
  · intro e p hp
    have h1 : (s ^^^ (s &&& u)).testBit p = (0 : Nat).testBit p := congrArg (fun z => z.testBit p) e
    rw [Nat.testBit_xor, Nat.testBit_and, Nat.zero_testBit, hp] at h1
    simpa using h1
  · intro h
    apply Nat.eq_of_testBit_eq; intro i
    rw [Nat.testBit_xor, Nat.testBit_and, Nat.zero_testBit]
    cases hs : s.testBit i
    · rfl
    · rw [h i hs]; rfl
theorem subO_lt {s u n : Nat} (h : subO s u) (hu : u < 2 ^ n) : s < 2 ^ n := qs_lt (fun i hi => by
  cases e : s.testBit i
  · rfl
  · have := h i e; rw [qs_hi hu hi] at this; exact absurd this (by decide))
theorem qm_sub {s u : Nat} (hs : s < 2 ^ 31) {A B : Prop} (f : subO s u → A) (g' : ¬ subO s u → B) : ((nI s &&& (nI u ^^^ (-1 : Int32))) = (0 : Int32) → A) ∧ (¬ (nI s &&& (nI u ^^^ (-1 : Int32))) = (0 : Int32) → B) := by
  rw [qb_nand]
  have hl : s ^^^ (s &&& u) ≤ s := by
    have e : s ^^^ (s &&& u) = s &&& (s ^^^ (s &&& u)) := by
      apply Nat.eq_of_testBit_eq; intro i
      rw [Nat.testBit_and, Nat.testBit_xor, Nat.testBit_and]
      cases s.testBit i <;> cases u.testBit i <;> rfl
    rw [e]; exact Nat.and_le_left
  refine pk_eq (s ^^^ (s &&& u)) 0 (fun c => f (subO_and.mp c)) (fun c => g' (fun e => c (subO_and.mpr e))) rfl rfl (by omega)
/-- the mays that the reference keeps -/
def MM (A : AH) (σ : hsS) : Prop := σ.1 28 = σ.1 12 → ∃ u m, u < 2 ^ aN A ∧ m ≤ 10 ∧ σ.1 29 = nI u ∧ σ.1 30 = nI m ∧ ∀ s, s < 256 → subO s u → σ.2.1 14 s = nI (aMay A m (aWt A u (aN A)) s)
theorem qm_tellMays (ha : AW A) (h : MH A g σ) (hM : MM A σ) (hl : LK P m (aN A) σ) (hm : 1 ≤ m) {post : hsS → Prop} {u : Nat} (hu : u < 2 ^ aN A) (k : ∀ σ', FRm [28, 29, 30] [14] σ σ' → σ'.1 28 = σ.1 12 → MM A σ' → (∀ s, s < 256 → subO s u → σ'.2.1 14 s = nI (aMay A m (aWt A u (aN A)) s)) → post σ') : wX8_tellMays (nI u) post σ := by
  have hn := aw_n ha; have hm10 := hl.2.1
  have hp8 : 2 ^ aN A ≤ 2 ^ 8 := Nat.pow_le_pow_right (by decide) hn
  have T : ∀ (s1 : hsS), s1 = hsI (hsI (hsI σ 28 (σ.1 12)) 29 (nI u)) 30 (nI m) → ∀ (K : Int32 → hsS → Prop), (∀ s2, post s2 → ∀ z, K z s2) → ∃ n, wX8_tellMays_L54 (nI u) K post n 0 s1 := fun s1 hs1 K kk => by
    have f1 : FRm [28, 29, 30] [14] σ s1 := by
      rw [hs1]
      exact ((FRm.int _ (by decide)).trans (FRm.int _ (by decide))).trans (FRm.int _ (by decide))
    have g1 : s1.1 28 = σ.1 12 := by rw [hs1, hsI_ne _ _ (by decide), hsI_ne _ _ (by decide), hsI_at]
    have g2 : s1.1 29 = nI u := by rw [hs1, hsI_ne _ _ (by decide), hsI_at]
    have g3 : s1.1 30 = nI m := by rw [hs1, hsI_at]
    exact pk_loop (fun n j (s : hsS) => wX8_tellMays_L54 (nI u) K post n (nI j) s) (fun j s => FRm [28, 29, 30] [14] σ s ∧ s.1 28 = σ.1 12 ∧ s.1 29 = nI u ∧ s.1 30 = nI m ∧ ∀ q, q < j → subO q u → s.2.1 14 q = nI (aMay A m (aWt A u (aN A)) q)) 256 0 s1 (Nat.zero_le _) ⟨f1, g1, g2, g3, fun q hq => absurd hq (Nat.not_lt_zero _)⟩
      (fun n s e => by
        obtain ⟨e1, e2, e3, e4, e5⟩ := e
        rw [wX8_tellMays_L54]
        exact br_t (nI_le (a := 256) (Nat.le_refl _) (by omega)) (kk s (k s e1 e2 (fun _ => ⟨u, m, hu, hm10, e3, e4, e5⟩) e5) _))
      (fun n j s hj e ih => by
        obtain ⟨e1, e2, e3, e4, e5⟩ := e
        rw [wX8_tellMays_L54]
        refine br_f (nI_ge (b := 256) hj (by omega)) (qm_sub (by omega) (fun c => ?_) (fun c => ?_))
        · rw [lk_m (hl.fr e1 (by decide) (by decide))]
          refine qm_mayOf ha (h.fr e1 (by decide)) ⟨hm, hm10⟩ (subO_lt c hu) hu c ⟨pk_in j 256 (by omega), nm_e (nm_e ?_)⟩
          rw [nI_1, nI_clamp (by omega)]
          refine ih _ ⟨e1.trans (FRm.arr _ (by decide)), e2, e3, e4, fun q hq hqs => ?_⟩
          rw [hsA_at]
          rcases Nat.decEq q j with z | z
          · rw [pk_un z]; exact e5 q (by omega) hqs
          · subst z; exact pk_us
        · refine nm_e ?_
          rw [nI_1]
          refine ih _ ⟨e1, e2, e3, e4, fun q hq hqs => ?_⟩
          rcases Nat.decEq q j with z | z
          · exact e5 q (by omega) hqs
          · subst z; exact absurd hqs c)
  have T2 : ∀ (s1 : hsS), s1 = hsI (hsI (hsI σ 28 (σ.1 12)) 29 (nI u)) 30 (nI m) → ∃ n, wX8_tellMays_L54 (nI u) (fun _ s => post s) post n 0 s1 := fun s1 hs1 => T s1 hs1 _ (fun s2 h2 _ => h2)
  have hlm : (hsI (hsI σ 28 (σ.1 12)) 29 (nI u)).1 25 = nI m := by rw [hsI_ne _ _ (by decide), hsI_ne _ _ (by decide)]; exact lk_m hl
  refine br_c (fun c1 => ?_) (fun c1 => ?_)
  · refine br_c (fun c2 => ?_) (fun c2 => ?_)
    · refine br_c (fun c3 => ?_) (fun c3 => ?_)
      · refine k σ FRm.rf c1 hM (fun s hs hsu => ?_)
        obtain ⟨u', m', h1, h2, h3, h4, h5⟩ := hM c1
        have eu : u' = u := (nI_eq (by omega) (by omega)).mp (h3.symm.trans c2)
        have em : m' = m := (nI_eq (by omega) (by omega)).mp (h4.symm.trans (c3.trans (lk_m hl)))
        subst eu; subst em
        exact h5 s hs hsu
      · refine nm_e (nm_e (nm_e ?_))
        exact T2 _ (by rw [hlm])
    · refine nm_e (nm_e (nm_e ?_))
      exact T2 _ (by rw [hlm])
  · refine nm_e (nm_e (nm_e ?_))
    exact T2 _ (by rw [hlm])
end SetM
