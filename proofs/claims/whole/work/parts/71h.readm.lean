/-! ===== hall: the reference reads turns and laws ===== -/
def MDR (A : AH) (g : Nat → Nat → Nat) (σ : hsS) : Prop := σ.2.1 1 (1 : Int32).toNatClampNeg = nI (aM A) ∧ σ.2.1 2 (1 : Int32).toNatClampNeg = nI (aN A) ∧ σ.2.1 3 (1 : Int32).toNatClampNeg = nI (aLaw A) ∧ (aLaw A = 1 → σ.2.1 4 (1 : Int32).toNatClampNeg = nI (aStep A)) ∧ (aLaw A = 2 → σ.2.1 5 (1 : Int32).toNatClampNeg = nI (aTc A)) ∧ σ.2.1 6 (1 : Int32).toNatClampNeg = nI (aNt A) ∧ (∀ p, p < aN A → σ.2.1 7 (8 + p) = nI (aW A p)) ∧ (∀ p t, p < aN A → t < aM A → σ.2.1 8 (10 * (8 + p) + t) = nI (g p t)) ∧ (aLaw A = 2 → ∀ k, k < aTc A → σ.2.1 9 (8 + k) = nI (aT A k)) ∧ (∀ k, k < aNt A → σ.2.1 10 (9 + k) = nI (aU A k)) ∧ ∀ p, p < aN A → σ.2.1 11 (8 + p) = nI (if (aNm A).testBit p = true then 1 else 0)
theorem MDR.mono {A : AH} {g : Nat → Nat → Nat} {σ σ' : hsS} (h : MDR A g σ) (e : σ'.2.1 = σ.2.1) : MDR A g σ' := by
  unfold MDR at h ⊢; rw [e]; exact h
def MF (e : FT) (σ : hsS) : Prop := σ.1 21 = nI e.1 ∧ 1 ≤ e.1 ∧ e.1 ≤ 4 ∧ σ.1 22 = nI e.2
theorem mf_ne {e : FT} {σ : hsS} (h : MF e σ) : ¬ σ.1 21 = 0 := by
  rw [h.1]; have h1 := h.2.1; have h2 := h.2.2.1; exact nI_ne0 (by omega) (by omega)
theorem MF.fr {e : FT} {σ σ' : hsS} (h : MF e σ) (e1 : σ'.1 = σ.1) : MF e σ' := by unfold MF at h ⊢; rw [e1]; exact h
def MS (T : Nat → Nat) (n : Nat) (w : TK) (A : AH) (g : Nat → Nat → Nat) (σ : hsS) : Prop := ML T n σ ∧ MK w σ ∧ TG n w ∧ σ.1 21 = 0 ∧ MDR A g σ
section RmX
variable {T : Nat → Nat} {n : Nat} {w : TK} {A : AH} {g : Nat → Nat → Nat} {σ : hsS}
theorem ml_fd {σ' : hsS} (h : ML T n σ) (hf : FD σ σ') : ML T n σ' := by
  obtain ⟨h1, h2, h3⟩ := h
  refine ⟨by rw [hf.1 16 (by decide)]; exact h1, h2, ?_⟩
  rw [hf.2.1 12 (Or.inr (by decide))]; exact h3
theorem MK.fi {σ' : hsS} (h : MK w σ) (e : σ'.1 = σ.1) : MK w σ' := by unfold MK at h ⊢; rw [e]; exact h
theorem qm_stepS (h : MS T n w A g σ) {post : hsS → Prop} (k : ∀ s, FD σ s → MS T n (tokO T n (tT w)) A g s → post s) : wX8_step post σ := by
  obtain ⟨h1, h2, h3, h4, h5⟩ := h
  refine qm_step h1 h3.2.1 h2.2.2.2.1 (fun s f1 f2 => ?_)
  have f := FD.of f1 (by decide)
  exact k s f ⟨ml_fd h1 f, f2, tg_ok T h3.2.1, by rw [f1.1 21 (by decide)]; exact h4, h5.mono (funext fun q => f1.2.1 q (by simp))⟩
theorem qm_isS (h : MS T n w A g σ) {i : Nat} (hi : i < 11) {post : Int32 → hsS → Prop} (k : post (b2I (wdO T w i)) σ) : wX8_is i post σ := qm_is h.1 h.2.1 h.2.2.2.1 h.2.2.1.1 h.2.2.1.2.1 h.2.2.1.2.2.1 hi k
theorem qm_wrongS (h : MS T n w A g σ) {x : Nat} (hx : 1 ≤ x ∧ x ≤ 4) {post : hsS → Prop} (k : ∀ s, FD σ s → MF (x, tF w) s → post s) : wX8_wrong (nI x) post σ := qm_wrong h.2.1 h.2.2.2.1 (fun s f1 f2 f3 => k s (FD.of f1 (by decide)) ⟨f2, hx.1, hx.2, f3⟩)
theorem qm_numS (hn : n ≤ 600) (h : MS T n w A g σ) {least most there : Nat} {over : Bool} {x4 : Int32} (hx4 : x4 = b2I over) (h1 : least < 2 ^ 31) (h2 : most < 2 ^ 31) (h3 : there < 2 ^ 31) {post : Int32 → hsS → Prop} (k0 : nbO w least most there over = 0 → post (nI (tV w)) σ) (k1 : ∀ r s, nbO w least most there over ≠ 0 → FD σ s → MF (nbO w least most there over, tF w) s → post r s) : wX8_readNumber (nI least) (nI most) (nI there) x4 post σ :=
  qm_readNumber h.2.2.1 hn h.2.1 h.2.2.2.1 hx4 h1 h2 h3 (fun e _ => k0 e) (fun r s hne f1 f2 f3 => k1 r s hne (FD.of f1 (by decide)) ⟨f2, by show 1 ≤ nbO w least most there over; omega, by have := nb_le w least most there over; show nbO w least most there over ≤ 4; omega, f3⟩)
theorem qm_isNumberS (h : MS T n w A g σ) {post : Int32 → hsS → Prop} (k1 : tK w = 2 → post 1 σ) (k0 : tK w ≠ 2 → post 0 σ) : wX8_isNumber post σ := by
  have h4 := h.2.2.1.2.2.1
  unfold wX8_isNumber
  rw [h.2.1.1]
  exact br_t h.2.2.2.1 (pk_eq (tK w) 2 (fun c => k1 c) (fun c => k0 c))
theorem qm_turnsL (hm : aM A ≤ 9) (hN : aN A ≤ 8) (hn : n ≤ 600) {post : hsS → Prop} (K : hsS → Prop) : ∀ (f : Nat) (w : TK) (c : Nat) (uf : Nat → Nat) (s : hsS), c + f = 9 → c + 1 ≤ aM A → MS T n w (turA A c uf) g s → FD σ s → (∀ e s', tnO T n (aM A) (aN A) f w c uf = Sum.inl e → FD σ s' → MF e s' → K s') → (∀ r s', tnO T n (aM A) (aN A) f w c uf = Sum.inr r → FD σ s' → MS T n r.1 (turA A r.2.1 r.2.2) g s' → K s') → wX8_readTurns_L11 K K post f s
  | 0, w, c, uf, s, hcf, hc, hS, hF, kf, ko => by omega
  | f + 1, w, c, uf, s, hcf, hc, hS, hF, kf, ko => by
    have ed : tnO T n (aM A) (aN A) (f + 1) w c uf = (if nbO w 0 999 (aN A) (decide (c = aM A - 1)) ≠ 0 then Sum.inl (nbO w 0 999 (aN A) (decide (c = aM A - 1)), tF w) else if tK (tokO T n (tT w)) = 2 then tnO T n (aM A) (aN A) f (tokO T n (tT w)) (c + 1) (fun k => if k = c then tV w else uf k) else Sum.inr (tokO T n (tT w), c + 1, fun k => if k = c then tV w else uf k)) := rfl
    have hd := hS.2.2.2.2
    have d1 : s.2.1 1 (1 : Int32).toNatClampNeg = nI (aM A) := hd.1
    have d2 : s.2.1 2 (1 : Int32).toNatClampNeg = nI (aN A) := hd.2.1
    have d6 : s.2.1 6 (1 : Int32).toNatClampNeg = nI c := hd.2.2.2.2.2.1
    rw [wX8_readTurns_L11, d1, d2, d6, show nI (aM A) - (1 : Int32) = nI (aM A - 1) from pk_sub (a := aM A) (b := 1) (by omega)]
    refine pk_eq c (aM A - 1) (fun ce => ?_) (fun ce => ?_)
    · rw [show decide (c = aM A - 1) = true by simp [ce]] at ed
      refine qm_numS hn hS (least := 0) (most := 999) (there := aN A) (over := true) rfl (by decide) (by decide) (by omega) (fun e0 => ?_) (fun r s' hne f1 f2 => br_f (mf_ne f2) (kf _ s' (by rw [ed, if_pos hne]) (hF.trans f1) f2))
      have := (nb_ok e0).2.2.2.2.1
      exact absurd this (by decide)
    · rw [show decide (c = aM A - 1) = false by simp [ce]] at ed
      refine qm_numS hn hS (least := 0) (most := 999) (there := aN A) (over := false) rfl (by decide) (by decide) (by omega) (fun e0 => br_t hS.2.2.2.1 ?_) (fun r s' hne f1 f2 => br_f (mf_ne f2) (kf _ s' (by rw [ed, if_pos hne]) (hF.trans f1) f2))
      rw [if_neg (by rw [e0]; decide)] at ed
      rw [d6, show (9 : Int32) + nI c = nI (9 + c) from nI_add 9 c]
      refine ⟨pk_in (9 + c) 18 (by omega), fun s8 e8 s9 e9 => ?_⟩
      rw [nI_clamp (by omega)] at e8
      have d68 : s8.2.1 6 (1 : Int32).toNatClampNeg = nI c := by rw [e8, hsA_ne _ _ (by decide)]; exact d6
      rw [d68, nI_1] at e9
      have f8 : FD s s8 := by rw [e8]; exact FD.arr _ (by decide) (by decide) (by show 9 ≤ 9 + c; omega)
      have f9 : FD s8 s9 := by rw [e9]; exact FD.arr _ (by decide) (by decide) (by decide)
      have i9 : s9.1 = s.1 := by rw [e9, e8]; rfl
      have a10 : s9.2.1 10 = upd (s.2.1 10) (9 + c) (nI (tV w)) := by rw [e9, hsA_ne _ _ (by decide), e8, hsA_at]
      have a6 : s9.2.1 6 (1 : Int32).toNatClampNeg = nI (c + 1) := by rw [e9, hsA_at, pk_us]
      have ro : ∀ q, q ≠ 10 → q ≠ 6 → s9.2.1 q = s.2.1 q := fun q h1 h2 => by rw [e9, hsA_ne _ _ h2, e8, hsA_ne _ _ h1]
      have hd9 : MDR (turA A (c + 1) (fun k => if k = c then tV w else uf k)) g s9 := by
        obtain ⟨q1, q2, q3, q4, q5, q6, q7, q8, q9, q10, q11⟩ := hd
        refine ⟨?_, ?_, ?_, ?_, ?_, a6, ?_, ?_, ?_, fun k hk => ?_, ?_⟩
        · rw [ro 1 (by decide) (by decide)]; exact q1
        · rw [ro 2 (by decide) (by decide)]; exact q2
        · rw [ro 3 (by decide) (by decide)]; exact q3
        · rw [ro 4 (by decide) (by decide)]; exact q4
        · rw [ro 5 (by decide) (by decide)]; exact q5
        · rw [ro 7 (by decide) (by decide)]; exact q7
        · rw [ro 8 (by decide) (by decide)]; exact q8
        · rw [ro 9 (by decide) (by decide)]; exact q9
        · show s9.2.1 10 (9 + k) = nI (if k = c then tV w else uf k)
          have hk : k < c + 1 := hk
          rw [a10]
          rcases Nat.decEq k c with z | z
          · rw [pk_un (by omega), if_neg z]; exact q10 k (by show k < c; omega)
          · rw [z, pk_us, if_pos rfl]
        · rw [ro 11 (by decide) (by decide)]; exact q11
      have hS9 : MS T n w (turA A (c + 1) (fun k => if k = c then tV w else uf k)) g s9 := ⟨ml_fd hS.1 (f8.trans f9), hS.2.1.fi i9, hS.2.2.1, by rw [i9]; exact hS.2.2.2.1, hd9⟩
      refine qm_stepS hS9 (fun s11 f11 hS11 => qm_isNumberS hS11 (fun c5 => br_f (by decide) ?_) (fun c5 => br_t rfl ?_))
      · rw [if_pos c5] at ed
        rw [ed] at kf ko
        have hc2 : c + 1 + 1 ≤ aM A := by omega
        exact qm_turnsL hm hN hn K f _ (c + 1) _ s11 (by omega) hc2 hS11 (((hF.trans f8).trans f9).trans f11) kf ko
      · rw [if_neg c5] at ed
        exact ko _ s11 ed (((hF.trans f8).trans f9).trans f11) hS11
/-- at the token behind 'turns', with the count set back -/
theorem qm_turnsGo (hm : 2 ≤ aM A ∧ aM A ≤ 9) (hN : aN A ≤ 8) (hn : n ≤ 600) (hS : MS T n w A g σ) {post : hsS → Prop} (K : hsS → Prop) (kf : ∀ e s', ltO T n w (A, g) = Sum.inl e → FD σ s' → MF e s' → K s') (ko : ∀ r s', ltO T n w (A, g) = Sum.inr r → FD σ s' → MS T n r.1 r.2.1 r.2.2 s' → K s') : ∀ s3 : hsS, s3 = hsA σ 6 (upd (σ.2.1 6) (1 : Int32).toNatClampNeg (0 : Int32)) → ∃ f, wX8_readTurns_L11 K K post f s3 := by
  intro s3 e3
  have f3 : FD σ s3 := by rw [e3]; exact FD.arr _ (by decide) (by decide) (by decide)
  have i3 : s3.1 = σ.1 := by rw [e3]; rfl
  have ro : ∀ q, q ≠ 6 → s3.2.1 q = σ.2.1 q := fun q h1 => by rw [e3, hsA_ne _ _ h1]
  have hd3 : MDR (turA A 0 (fun _ => 0)) g s3 := by
    obtain ⟨q1, q2, q3, q4, q5, q6, q7, q8, q9, q10, q11⟩ := hS.2.2.2.2
    refine ⟨?_, ?_, ?_, ?_, ?_, by rw [e3, hsA_at, pk_us]; rfl, ?_, ?_, ?_, fun k hk => absurd hk (Nat.not_lt_zero _), ?_⟩
    · rw [ro 1 (by decide)]; exact q1
    · rw [ro 2 (by decide)]; exact q2
    · rw [ro 3 (by decide)]; exact q3
    · rw [ro 4 (by decide)]; exact q4
    · rw [ro 5 (by decide)]; exact q5
    · rw [ro 7 (by decide)]; exact q7
    · rw [ro 8 (by decide)]; exact q8
    · rw [ro 9 (by decide)]; exact q9
    · rw [ro 11 (by decide)]; exact q11
  refine ⟨9, qm_turnsL hm.2 hN hn K 9 w 0 (fun _ => 0) s3 rfl (by omega) ⟨ml_fd hS.1 f3, hS.2.1.fi i3, hS.2.2.1, by rw [i3]; exact hS.2.2.2.1, hd3⟩ f3 (fun e s' he q1 q2 => kf e s' ?_ q1 q2) (fun r s' he q1 q2 => ko (r.1, turA A r.2.1 r.2.2, g) s' ?_ q1 q2)⟩
  · unfold ltO; dsimp only; rw [he]
  · unfold ltO; dsimp only; rw [he]
theorem qm_toldL (hn : n ≤ 600) {post : hsS → Prop} (K : hsS → Prop) : ∀ (f : Nat) (w : TK) (c : Nat) (tf : Nat → Nat) (s : hsS), c + f = 9 → c ≤ 8 → MS T n w (tolA A c tf) g s → FD σ s → (∀ e s', tdO T n f w c tf = Sum.inl e → FD σ s' → MF e s' → K s') → (∀ r s', tdO T n f w c tf = Sum.inr r → FD σ s' → MS T n r.1 (tolA A r.2.1 r.2.2) g s' → K s') → wX8_readLaw_L106 K K post f s
  | 0, w, c, tf, s, hcf, hc, hS, hF, kf, ko => by omega
  | f + 1, w, c, tf, s, hcf, hc, hS, hF, kf, ko => by
    have ed : tdO T n (f + 1) w c tf = (if nbO w 0 9 1000 (decide (c = 8)) ≠ 0 then Sum.inl (nbO w 0 9 1000 (decide (c = 8)), tF w) else if tK (tokO T n (tT w)) = 2 then tdO T n f (tokO T n (tT w)) (c + 1) (fun k => if k = c then tV w else tf k) else Sum.inr (tokO T n (tT w), c + 1, fun k => if k = c then tV w else tf k)) := rfl
    have hd := hS.2.2.2.2
    have d5 : s.2.1 5 (1 : Int32).toNatClampNeg = nI c := hd.2.2.2.2.1 rfl
    rw [wX8_readLaw_L106, d5]
    refine pk_eq c 8 (fun ce => ?_) (fun ce => ?_)
    · rw [show decide (c = 8) = true by simp [ce]] at ed
      refine qm_numS hn hS (least := 0) (most := 9) (there := 1000) (over := true) rfl (by decide) (by decide) (by decide) (fun e0 => ?_) (fun r s' hne f1 f2 => br_f (mf_ne f2) (kf _ s' (by rw [ed, if_pos hne]) (hF.trans f1) f2))
      have := (nb_ok e0).2.2.2.2.1
      exact absurd this (by decide)
    · rw [show decide (c = 8) = false by simp [ce]] at ed
      refine qm_numS hn hS (least := 0) (most := 9) (there := 1000) (over := false) rfl (by decide) (by decide) (by decide) (fun e0 => br_t hS.2.2.2.1 ?_) (fun r s' hne f1 f2 => br_f (mf_ne f2) (kf _ s' (by rw [ed, if_pos hne]) (hF.trans f1) f2))
      rw [if_neg (by rw [e0]; decide)] at ed
      rw [d5, show (8 : Int32) + nI c = nI (8 + c) from nI_add 8 c]
      refine ⟨pk_in (8 + c) 16 (by omega), fun s8 e8 s9 e9 => ?_⟩
      rw [nI_clamp (by omega)] at e8
      have d58 : s8.2.1 5 (1 : Int32).toNatClampNeg = nI c := by rw [e8, hsA_ne _ _ (by decide)]; exact d5
      rw [d58, nI_1] at e9
      have f8 : FD s s8 := by rw [e8]; exact FD.arr _ (by decide) (by decide) (by show 8 ≤ 8 + c; omega)
      have f9 : FD s8 s9 := by rw [e9]; exact FD.arr _ (by decide) (by decide) (by decide)
      have i9 : s9.1 = s.1 := by rw [e9, e8]; rfl
      have a9 : s9.2.1 9 = upd (s.2.1 9) (8 + c) (nI (tV w)) := by rw [e9, hsA_ne _ _ (by decide), e8, hsA_at]
      have a5 : s9.2.1 5 (1 : Int32).toNatClampNeg = nI (c + 1) := by rw [e9, hsA_at, pk_us]
      have ro : ∀ q, q ≠ 9 → q ≠ 5 → s9.2.1 q = s.2.1 q := fun q h1 h2 => by rw [e9, hsA_ne _ _ h2, e8, hsA_ne _ _ h1]
      have hd9 : MDR (tolA A (c + 1) (fun k => if k = c then tV w else tf k)) g s9 := by
        obtain ⟨q1, q2, q3, q4, q5, q6, q7, q8, q9, q10, q11⟩ := hd
        refine ⟨?_, ?_, ?_, ?_, fun _ => a5, ?_, ?_, ?_, fun _ k hk => ?_, ?_, ?_⟩
        · rw [ro 1 (by decide) (by decide)]; exact q1
        · rw [ro 2 (by decide) (by decide)]; exact q2
        · rw [ro 3 (by decide) (by decide)]; exact q3
        · rw [ro 4 (by decide) (by decide)]; exact q4
        · rw [ro 6 (by decide) (by decide)]; exact q6
        · rw [ro 7 (by decide) (by decide)]; exact q7
        · rw [ro 8 (by decide) (by decide)]; exact q8
        · show s9.2.1 9 (8 + k) = nI (if k = c then tV w else tf k)
          have hk : k < c + 1 := hk
          rw [a9]
          rcases Nat.decEq k c with z | z
          · rw [pk_un (by omega), if_neg z]; exact q9 rfl k (by show k < c; omega)
          · rw [z, pk_us, if_pos rfl]
        · rw [ro 10 (by decide) (by decide)]; exact q10
        · rw [ro 11 (by decide) (by decide)]; exact q11
      have hS9 : MS T n w (tolA A (c + 1) (fun k => if k = c then tV w else tf k)) g s9 := ⟨ml_fd hS.1 (f8.trans f9), hS.2.1.fi i9, hS.2.2.1, by rw [i9]; exact hS.2.2.2.1, hd9⟩
      refine qm_stepS hS9 (fun s11 f11 hS11 => qm_isNumberS hS11 (fun c5 => br_f (by decide) ?_) (fun c5 => br_t rfl ?_))
      · rw [if_pos c5] at ed
        rw [ed] at kf ko
        exact qm_toldL hn K f _ (c + 1) _ s11 (by omega) (by omega) hS11 (((hF.trans f8).trans f9).trans f11) kf ko
      · rw [if_neg c5] at ed
        exact ko _ s11 ed (((hF.trans f8).trans f9).trans f11) hS11
/-- at 'law' -/
theorem qm_readLaw (hn : n ≤ 600) (hS : MS T n w A g σ) {post : hsS → Prop} (kf : ∀ e s', lwO T n (tokO T n (tT w)) (A, g) = Sum.inl e → FD σ s' → MF e s' → post s') (ko : ∀ r s', lwO T n (tokO T n (tT w)) (A, g) = Sum.inr r → FD σ s' → MS T n r.1 r.2.1 r.2.2 s' → post s') : wX8_readLaw post σ := by
  refine qm_stepS hS (fun s2 f2 hS2 => ?_)
  generalize tokO T n (tT w) = w1 at kf ko hS2
  unfold lwO at kf ko
  dsimp only at kf ko
  refine qm_isS hS2 (by decide) (b2_br (fun w7 => qm_isS hS2 (by decide) (b2_br (fun w8 => qm_isS hS2 (by decide) (b2_br (fun w9 => ?_) (fun w9 => ?_))) (fun w8 => ?_))) (fun w7 => ?_))
  · rw [w7, w8, w9, if_neg (by decide), if_neg (by decide), if_neg (by decide)] at kf
    exact qm_wrongS hS2 (x := 1) (by decide) (fun s f1 h1 => kf _ s rfl (f2.trans f1) h1)
  · rw [w7, w8, w9, if_neg (by decide), if_neg (by decide), if_pos rfl] at kf ko
    refine qm_stepS hS2 (fun s3 f3 hS3 => fun s16 e16 s17 e17 => ?_)
    have g17 : FD s3 s17 := by
      refine (?_ : FD s3 s16).trans (by rw [e17]; exact FD.arr _ (by decide) (by decide) (by decide))
      rw [e16]; exact FD.arr _ (by decide) (by decide) (by decide)
    have i17 : s17.1 = s3.1 := by rw [e17, e16]; rfl
    have ro : ∀ q, q ≠ 3 → q ≠ 5 → s17.2.1 q = s3.2.1 q := fun q h1 h2 => by rw [e17, hsA_ne _ _ h2, e16, hsA_ne _ _ h1]
    have hd17 : MDR (tolA A 0 (fun _ => 0)) g s17 := by
      obtain ⟨q1, q2, q3, q4, q5, q6, q7, q8, q9, q10, q11⟩ := hS3.2.2.2.2
      refine ⟨?_, ?_, by rw [e17, hsA_ne _ _ (by decide), e16, hsA_at, pk_us]; rfl, fun z => absurd z (by show ¬ (2 : Nat) = 1; decide), fun _ => by rw [e17, hsA_at, pk_us]; rfl, ?_, ?_, ?_, fun _ k hk => absurd hk (Nat.not_lt_zero _), ?_, ?_⟩
      · rw [ro 1 (by decide) (by decide)]; exact q1
      · rw [ro 2 (by decide) (by decide)]; exact q2
      · rw [ro 6 (by decide) (by decide)]; exact q6
      · rw [ro 7 (by decide) (by decide)]; exact q7
      · rw [ro 8 (by decide) (by decide)]; exact q8
      · rw [ro 10 (by decide) (by decide)]; exact q10
      · rw [ro 11 (by decide) (by decide)]; exact q11
    refine ⟨9, qm_toldL hn _ 9 _ 0 (fun _ => 0) s17 rfl (by decide) ⟨ml_fd hS3.1 g17, hS3.2.1.fi i17, hS3.2.2.1, by rw [i17]; exact hS3.2.2.2.1, hd17⟩ ((f2.trans f3).trans g17) (fun e s' he q1 q2 => kf e s' (by rw [he]) q1 q2) (fun r s' he q1 q2 => ko (r.1, tolA A r.2.1 r.2.2, g) s' (by rw [he]) q1 q2)⟩
  · rw [w7, w8, if_neg (by decide), if_pos rfl] at kf ko
    refine qm_stepS hS2 (fun s3 f3 hS3 => ?_)
    have F3 := f2.trans f3
    refine qm_numS hn hS3 (least := 1) (most := 999) (there := 1000) (over := false) rfl (by decide) (by decide) (by decide) (fun e0 => fun s16 e16 s17 e17 => ?_) (fun r s' hne f1 h1 => fun s16 e16 s17 e17 => ?_)
    · have g17 : FD s3 s17 := by
        refine (?_ : FD s3 s16).trans (by rw [e17]; exact FD.arr _ (by decide) (by decide) (by decide))
        rw [e16]; exact FD.arr _ (by decide) (by decide) (by decide)
      have i17 : s17.1 = s3.1 := by rw [e17, e16]; rfl
      have ro : ∀ q, q ≠ 3 → q ≠ 4 → s17.2.1 q = s3.2.1 q := fun q h1 h2 => by rw [e17, hsA_ne _ _ h1, e16, hsA_ne _ _ h2]
      have hd17 : MDR (stpA A (tV (tokO T n (tT w1)))) g s17 := by
        obtain ⟨q1, q2, q3, q4, q5, q6, q7, q8, q9, q10, q11⟩ := hS3.2.2.2.2
        refine ⟨?_, ?_, by rw [e17, hsA_at, pk_us]; rfl, fun _ => by rw [e17, hsA_ne _ _ (by decide), e16, hsA_at, pk_us]; rfl, fun z => absurd z (by show ¬ (1 : Nat) = 2; decide), ?_, ?_, ?_, fun z => absurd z (by show ¬ (1 : Nat) = 2; decide), ?_, ?_⟩
        · rw [ro 1 (by decide) (by decide)]; exact q1
        · rw [ro 2 (by decide) (by decide)]; exact q2
        · rw [ro 6 (by decide) (by decide)]; exact q6
        · rw [ro 7 (by decide) (by decide)]; exact q7
        · rw [ro 8 (by decide) (by decide)]; exact q8
        · rw [ro 10 (by decide) (by decide)]; exact q10
        · rw [ro 11 (by decide) (by decide)]; exact q11
      have hS17 : MS T n (tokO T n (tT w1)) (stpA A (tV (tokO T n (tT w1)))) g s17 := ⟨ml_fd hS3.1 g17, hS3.2.1.fi i17, hS3.2.2.1, by rw [i17]; exact hS3.2.2.2.1, hd17⟩
      exact br_t hS17.2.2.2.1 (qm_stepS hS17 (fun s4 f4 hS4 => ko (tokO T n (tT (tokO T n (tT w1))), stpA A (tV (tokO T n (tT w1))), g) s4 (by rw [if_neg (by rw [e0]; decide)]) ((F3.trans g17).trans f4) hS4))
    · have g17 : FD s' s17 := by
        refine (?_ : FD s' s16).trans (by rw [e17]; exact FD.arr _ (by decide) (by decide) (by decide))
        rw [e16]; exact FD.arr _ (by decide) (by decide) (by decide)
      have h17 := h1.fr (σ' := s17) (by rw [e17, e16]; rfl)
      exact br_f (mf_ne h17) (kf _ s17 (by rw [if_pos hne]) ((F3.trans f1).trans g17) h17)
  · rw [w7, if_pos rfl] at ko
    refine qm_stepS hS2 (fun s3 f3 hS3 => fun s4 e4 => ?_)
    have g4 : FD s3 s4 := by rw [e4]; exact FD.arr _ (by decide) (by decide) (by decide)
    have i4 : s4.1 = s3.1 := by rw [e4]; rfl
    have ro : ∀ q, q ≠ 3 → s4.2.1 q = s3.2.1 q := fun q h1 => by rw [e4, hsA_ne _ _ h1]
    have hd4 : MDR (lawA A 0) g s4 := by
      obtain ⟨q1, q2, q3, q4, q5, q6, q7, q8, q9, q10, q11⟩ := hS3.2.2.2.2
      refine ⟨?_, ?_, by rw [e4, hsA_at, pk_us]; rfl, fun z => absurd z (by show ¬ (0 : Nat) = 1; decide), fun z => absurd z (by show ¬ (0 : Nat) = 2; decide), ?_, ?_, ?_, fun z => absurd z (by show ¬ (0 : Nat) = 2; decide), ?_, ?_⟩
      · rw [ro 1 (by decide)]; exact q1
      · rw [ro 2 (by decide)]; exact q2
      · rw [ro 6 (by decide)]; exact q6
      · rw [ro 7 (by decide)]; exact q7
      · rw [ro 8 (by decide)]; exact q8
      · rw [ro 10 (by decide)]; exact q10
      · rw [ro 11 (by decide)]; exact q11
    exact ko _ s4 rfl ((f2.trans f3).trans g4) ⟨ml_fd hS3.1 g4, hS3.2.1.fi i4, hS3.2.2.1, by rw [i4]; exact hS3.2.2.2.1, hd4⟩
end RmX
