/-! ===== hall: the reference reads people and lines ===== -/
theorem vn_b (b : Bool) : vp_nar .boolean (b2I b) = b2I b := by cases b <;> rfl
theorem nI_p0 (x : Nat) : nI x + (0 : Int32) = nI x := by rw [← nI_0, nI_add, Nat.add_zero]
section RmY
variable {T : Nat → Nat} {n : Nat} {w : TK} {A : AH} {g : Nat → Nat → Nat} {σ : hsS}
theorem qm_stepA (h : MS T n w A g σ) {post : hsS → Prop} (k : ∀ s, FD σ s → s.2.1 = σ.2.1 → MS T n (tokO T n (tT w)) A g s → post s) : wX8_step post σ := by
  obtain ⟨h1, h2, h3, h4, h5⟩ := h
  refine qm_step h1 h3.2.1 h2.2.2.2.1 (fun s f1 f2 => ?_)
  have f := FD.of f1 (by decide)
  have ea : s.2.1 = σ.2.1 := funext fun q => f1.2.1 q (by simp)
  exact k s f ea ⟨ml_fd h1 f, f2, tg_ok T h3.2.1, by rw [f1.1 21 (by decide)]; exact h4, h5.mono ea⟩
/-- cells of the new one's groups -/
theorem MDR.row {s s' : hsS} (h : MDR A g s) (hf : FRm [] [8] s s') (hm : aM A ≤ 9) (hx : ∀ x, x < 10 * (8 + aN A) → s'.2.1 8 x = s.2.1 8 x) : MDR A g s' := by
  obtain ⟨q1, q2, q3, q4, q5, q6, q7, q8, q9, q10, q11⟩ := h
  refine ⟨?_, ?_, ?_, ?_, ?_, ?_, ?_, fun p t hp ht => ?_, ?_, ?_, ?_⟩
  · rw [hf.2.1 1 (by decide)]; exact q1
  · rw [hf.2.1 2 (by decide)]; exact q2
  · rw [hf.2.1 3 (by decide)]; exact q3
  · rw [hf.2.1 4 (by decide)]; exact q4
  · rw [hf.2.1 5 (by decide)]; exact q5
  · rw [hf.2.1 6 (by decide)]; exact q6
  · rw [hf.2.1 7 (by decide)]; exact q7
  · rw [hx _ (by omega)]; exact q8 p t hp ht
  · rw [hf.2.1 9 (by decide)]; exact q9
  · rw [hf.2.1 10 (by decide)]; exact q10
  · rw [hf.2.1 11 (by decide)]; exact q11
theorem fd_row {s s' : hsS} (hf : FRm [] [8] s s') {B : Nat} (hB : 80 ≤ B) (hx : ∀ x, x < B → s'.2.1 8 x = s.2.1 8 x) : FD s s' := by
  refine ⟨fun k _ => hf.1 k (by simp), fun k hk => hf.2.1 k (by simp; omega), fun k j hj => ?_, hf.2.2⟩
  rcases Nat.decEq k 8 with z | z
  · rw [hf.2.1 k (by simp [z])]
  · subst z
    have : j < 80 := hj
    exact hx j (by omega)
theorem qm_likesL (hn : n ≤ 600) (hm : aM A ≤ 9) (hN : aN A < 8) {z1 : Int32} {post : hsS → Prop} (K67 K146 : Int32 → Int32 → Int32 → hsS → Prop) : ∀ (f : Nat) (w : TK) (tk pl gi : Nat) (pf gf : Nat → Nat) (s : hsS), qs_sz tk + f = 10 → OI (aM A) tk gi pf gf → pl = fb_ct (fun k => tk.testBit k && decide (gf k < gi)) (aM A) → MS T n w A g s → (∀ t, t < aM A → tk.testBit t = true → s.2.1 8 (10 * (8 + aN A) + t) = nI (gf t)) → FD σ s → s.2.1 7 = σ.2.1 7 → s.2.1 11 = σ.2.1 11 → (∀ e s', lkO T n (aM A) f w tk pl gi pf gf = Sum.inl e → FD σ s' → MF e s' → ∀ y z u, K67 y z u s') → (∀ r s', lkO T n (aM A) f w tk pl gi pf gf = Sum.inr r → FD σ s' → s'.2.1 7 = σ.2.1 7 → s'.2.1 11 = σ.2.1 11 → MS T n r.1 A g s' → (∀ t, t < aM A → r.2.1.testBit t = true → s'.2.1 8 (10 * (8 + aN A) + t) = nI (r.2.2.2.2 t)) → ∀ u, K146 (nI r.2.1) (nI r.2.2.1) u s') → wX8_readLikes_L16 z1 (nI (10 * (8 + aN A))) K67 K146 post (f + 1) (nI tk) (nI gi) 1 s
  | 0, w, tk, pl, gi, pf, gf, s, hf, ho, hp, hS, hgf, hF, h7, h11, kf, ko => by
    have := qs_sz_lt (by omega) ho.1
    omega
  | f + 1, w, tk, pl, gi, pf, gf, s, hf, ho, hp, hS, hgf, hF, h7, h11, kf, ko => by
    have hszl := qs_sz_lt (by omega) ho.1
    have hm9 : 2 ^ aM A ≤ 2 ^ 9 := Nat.pow_le_pow_right (by decide) hm
    have ed : lkO T n (aM A) (f + 1) w tk pl gi pf gf = (if nbO w 0 999 (aM A) false ≠ 0 then Sum.inl (nbO w 0 999 (aM A) false, tF w) else if tk.testBit (tV w) = true then Sum.inl (4, tF w) else if wdO T (tokO T n (tT w)) 4 = true then lkO T n (aM A) f (tokO T n (tT (tokO T n (tT w)))) (tk ||| 2 ^ tV w) (qs_sz (tk ||| 2 ^ tV w)) (gi + 1) (fun t => if t = tV w then pl else pf t) (fun t => if t = tV w then gi else gf t) else if wdO T (tokO T n (tT w)) 5 = true then lkO T n (aM A) f (tokO T n (tT (tokO T n (tT w)))) (tk ||| 2 ^ tV w) pl gi (fun t => if t = tV w then pl else pf t) (fun t => if t = tV w then gi else gf t) else Sum.inr (tokO T n (tT w), tk ||| 2 ^ tV w, gi, fun t => if t = tV w then pl else pf t, fun t => if t = tV w then gi else gf t)) := rfl
    have hd := hS.2.2.2.2
    rw [wX8_readLikes_L16, hd.1]
    refine br_f (by decide) (qm_numS hn hS (least := 0) (most := 999) (there := aM A) (over := false) rfl (by decide) (by decide) (by omega) (fun e0 => br_t hS.2.2.2.1 ?_) (fun r s' hne f1 h1 => br_f (mf_ne h1) (br_f (mf_ne h1) (kf _ s' (by rw [ed, if_pos hne]) (hF.trans f1) h1 _ _ _))))
    obtain ⟨c1, c2, _, _, _, hv⟩ := nb_ok e0
    have htk1 := ho.1
    rw [if_neg (by rw [e0]; decide)] at ed
    refine ek_if (qb_testN (by omega) (by omega)) (fun c => qm_wrongS hS (x := 4) (by decide) (fun s' f1 h1 => br_f (mf_ne h1) (kf _ s' (by rw [ed, if_pos c]) (hF.trans f1) h1 _ _ _))) (fun c => br_t hS.2.2.2.1 (qm_stepA hS (fun s5 f5 e5 hS5 => nm_r (e' := nI (tk ||| 2 ^ tV w)) (by rw [qb_one _ (by omega), fa_or]) ?_)))
    rw [if_neg c] at ed
    rw [nI_add]
    refine ⟨pk_in (10 * (8 + aN A) + tV w) 160 (by omega), fun s7 e7 => ?_⟩
    rw [nI_clamp (by omega)] at e7
    have f7 : FRm [] [8] s5 s7 := by rw [e7]; exact FRm.arr _ (by decide)
    have a8 : s7.2.1 8 = upd (s5.2.1 8) (10 * (8 + aN A) + tV w) (nI gi) := by rw [e7, hsA_at]
    have x7 : ∀ x, x < 10 * (8 + aN A) → s7.2.1 8 x = s5.2.1 8 x := fun x hx => by rw [a8, pk_un (by omega)]
    have g7 : FD s5 s7 := fd_row f7 (by omega) x7
    have i7 : s7.1 = s5.1 := by rw [e7]; rfl
    have hS7 : MS T n (tokO T n (tT w)) A g s7 := ⟨ml_fd hS5.1 g7, hS5.2.1.fi i7, hS5.2.2.1, by rw [i7]; exact hS5.2.2.2.1, hS5.2.2.2.2.row f7 hm x7⟩
    have hr7 : ∀ t, t < aM A → (tk ||| 2 ^ tV w).testBit t = true → s7.2.1 8 (10 * (8 + aN A) + t) = nI (if t = tV w then gi else gf t) := fun t ht hb => by
      rw [a8]
      rcases Nat.decEq t (tV w) with z | z
      · rw [pk_un (by omega), if_neg z, e5]
        rw [fb_bit_set] at hb
        exact hgf t ht (by simpa [z] using hb)
      · rw [z, pk_us, if_pos rfl]
    have F7 := (hF.trans f5).trans g7
    have k7 : s7.2.1 7 = σ.2.1 7 := by rw [f7.2.1 7 (by decide), e5]; exact h7
    have k11 : s7.2.1 11 = σ.2.1 11 := by rw [f7.2.1 11 (by decide), e5]; exact h11
    obtain ⟨o1, o2⟩ := ho.step hm hv (ts_nt c) hp
    have hsz := sz_set hm hv (ts_nt c)
    refine qm_isS hS7 (by decide) (b2_br (fun w4 => qm_isS hS7 (by decide) (b2_br (fun w5 => ?_) (fun w5 => ?_))) (fun w4 => ?_))
    · rw [w4, if_neg (by decide), w5, if_neg (by decide)] at ed
      rw [w4]
      refine br_t rfl (nm_r (nI_p0 gi) ?_)
      rw [wX8_readLikes_L16]
      exact br_t rfl (ko _ s7 ed F7 k7 k11 hS7 hr7 _)
    · rw [w4, if_neg (by decide), w5, if_pos rfl] at ed
      rw [ed] at kf ko
      rw [w4]
      refine qm_stepA hS7 (fun s8 f8 e8 hS8 => br_t rfl (nm_r (nI_p0 gi) ?_))
      exact qm_likesL hn hm hN K67 K146 f _ _ _ _ _ _ s8 (by omega) o1 o2 hS8 (by rw [e8]; exact hr7) (F7.trans f8) (by rw [e8]; exact k7) (by rw [e8]; exact k11) kf ko
    · rw [w4, if_pos rfl] at ed
      rw [ed] at kf ko
      rw [w4]
      have hgi := ho.2.1
      obtain ⟨o3, o4⟩ := o1.over hm (by omega)
      refine qm_stepA hS7 (fun s8 f8 e8 hS8 => br_f (by decide) (nm_r (nI_1 gi) ?_))
      exact qm_likesL hn hm hN K67 K146 f _ _ _ _ _ _ s8 (by omega) o3 o4 hS8 (by rw [e8]; exact hr7) (F7.trans f8) (by rw [e8]; exact k7) (by rw [e8]; exact k11) kf ko
theorem qm_likesFill {z1 z5 : Int32} {post : hsS → Prop} {tk gi B : Nat} {gf : Nat → Nat} (htk : tk < 2 ^ 9) (hB : B ≤ 150) (hgi : gi < 100) (hgf : ∀ t, t < 10 → tk.testBit t = true → σ.2.1 8 (B + t) = nI (gf t)) (K : Int32 → hsS → Prop) (k : ∀ s, FRm [] [8] σ s → (∀ x, x < B → s.2.1 8 x = σ.2.1 8 x) → (∀ t, t < 10 → s.2.1 8 (B + t) = nI (ordG tk gi gf t)) → ∀ z, K z s) : ∃ f, wX8_readLikes_L149 z1 (nI B) (nI tk) (nI gi) z5 K post f 0 σ := by
  refine pk_loop (fun f j (s : hsS) => wX8_readLikes_L149 z1 (nI B) (nI tk) (nI gi) z5 K post f (nI j) s) (fun j s => FRm [] [8] σ s ∧ (∀ x, x < B → s.2.1 8 x = σ.2.1 8 x) ∧ (∀ t, t < 10 → tk.testBit t = true → s.2.1 8 (B + t) = nI (gf t)) ∧ ∀ t, t < j → tk.testBit t = false → s.2.1 8 (B + t) = nI (gi + 1)) 10 0 σ (Nat.zero_le _) ⟨FRm.rf, fun _ _ => rfl, hgf, fun t ht => absurd ht (Nat.not_lt_zero _)⟩ ?_ ?_
  · intro f s e
    obtain ⟨e1, e2, e3, e4⟩ := e
    rw [wX8_readLikes_L149]
    refine br_t (nI_le (a := 10) (Nat.le_refl _) (by decide)) (k s e1 e2 (fun t ht => ?_) _)
    unfold ordG
    cases hb : tk.testBit t with
    | true => rw [if_pos rfl]; exact e3 t ht hb
    | false => rw [if_neg (by decide)]; exact e4 t ht hb
  · intro f j s hj e ih
    obtain ⟨e1, e2, e3, e4⟩ := e
    rw [wX8_readLikes_L149]
    refine br_f (nI_ge (b := 10) hj (by decide)) (ek_if (qb_test0 (by omega) (by omega)) (fun c => ?_) (fun c => nm_e ?_))
    · rw [nI_add, nI_1]
      refine ⟨pk_in (B + j) 160 (by omega), fun S hS => nm_e ?_⟩
      rw [nI_1]
      rw [nI_clamp (by omega)] at hS
      have hat : S.2.1 8 = upd (s.2.1 8) (B + j) (nI (gi + 1)) := by rw [hS, hsA_at]
      refine ih S ⟨by rw [hS]; exact e1.trans (FRm.arr _ (by decide)), fun x hx => ?_, fun t ht hb => ?_, fun t ht hb => ?_⟩
      · rw [hat, pk_un (by omega)]; exact e2 x hx
      · have : t ≠ j := fun z => by rw [z, c] at hb; exact absurd hb (by decide)
        rw [hat, pk_un (by omega)]; exact e3 t ht hb
      · rw [hat]
        rcases Nat.decEq t j with z | z
        · rw [pk_un (by omega)]; exact e4 t (by omega) hb
        · rw [z, pk_us]
    · rw [nI_1]
      refine ih s ⟨e1, e2, e3, fun t ht hb => ?_⟩
      rcases Nat.decEq t j with z | z
      · exact e4 t (by omega) hb
      · rw [z] at hb; exact absurd hb c
theorem qm_zeroG {z1 : Int32} {post : hsS → Prop} {p : Nat} (hp : p < 8) (K : Int32 → hsS → Prop) (k : ∀ s, FRm [] [8] σ s → (∀ x, x < 10 * (8 + p) → s.2.1 8 x = σ.2.1 8 x) → (∀ t, t < 10 → s.2.1 8 (10 * (8 + p) + t) = nI 0) → ∀ z, K z s) : ∃ f, wX8_readPerson_L92 z1 (nI p) K post f 0 σ := by
  refine pk_loop (fun f j (s : hsS) => wX8_readPerson_L92 z1 (nI p) K post f (nI j) s) (fun j s => FRm [] [8] σ s ∧ (∀ x, x < 10 * (8 + p) → s.2.1 8 x = σ.2.1 8 x) ∧ ∀ t, t < j → s.2.1 8 (10 * (8 + p) + t) = nI 0) 10 0 σ (Nat.zero_le _) ⟨FRm.rf, fun _ _ => rfl, fun t ht => absurd ht (Nat.not_lt_zero _)⟩ ?_ ?_
  · intro f s e
    rw [wX8_readPerson_L92]
    exact br_t (nI_le (a := 10) (Nat.le_refl _) (by decide)) (k s e.1 e.2.1 e.2.2 _)
  · intro f j s hj e ih
    rw [wX8_readPerson_L92, show (((8 : Int32) + nI p) * (10 : Int32)) + nI j = nI (10 * (8 + p) + j) by rw [show (8 : Int32) + nI p = nI (8 + p) from nI_add 8 p, qi_10]]
    refine br_f (nI_ge (b := 10) hj (by decide)) ⟨pk_in (10 * (8 + p) + j) 160 (by omega), fun S hS => nm_e ?_⟩
    rw [nI_1]
    rw [nI_clamp (by omega)] at hS
    have hat : S.2.1 8 = upd (s.2.1 8) (10 * (8 + p) + j) 0 := by rw [hS, hsA_at]
    refine ih S ⟨by rw [hS]; exact e.1.trans (FRm.arr _ (by decide)), fun x hx => ?_, fun t ht => ?_⟩
    · rw [hat, pk_un (by omega)]; exact e.2.1 x hx
    · rw [hat]
      rcases Nat.decEq t j with z | z
      · rw [pk_un (by omega)]; exact e.2.2 t (by omega)
      · rw [z, pk_us, nI_0]
theorem qm_wordS (h : MS T n w A g σ) {i : Nat} (hi : i < 11) {post : hsS → Prop} (k1 : wdO T w i = true → ∀ s, FD σ s → MS T n (tokO T n (tT w)) A g s → post s) (k0 : wdO T w i = false → ∀ s, FD σ s → MF (1, tF w) s → post s) : wX8_word i post σ :=
  br_t h.2.2.2.1 (qm_isS h hi (b2_br (fun c => qm_wrongS h (x := 1) (by decide) (fun s f1 f2 => br_f (mf_ne f2) (k0 c s f1 f2))) (fun c => br_t h.2.2.2.1 (qm_stepS h (fun s f1 f2 => k1 c s f1 f2)))))
theorem qm_numBad {e : FT} (h : MF e σ) {x1 x2 x3 x4 : Int32} {post : Int32 → hsS → Prop} (k : post 0 σ) : wX8_readNumber x1 x2 x3 x4 post σ := br_f (mf_ne h) k
/-- the new one stands -/
theorem MDR.add {s s' : hsS} (h : MDR A g s) (hNm : aNm A < 2 ^ aN A) (hm : aM A ≤ 9) {wv : Nat} {nm : Bool} {pf gf : Nat → Nat} (e : s' = hsA s 2 (upd (s.2.1 2) (1 : Int32).toNatClampNeg (nI (aN A + 1)))) (h7 : s.2.1 7 (8 + aN A) = nI wv) (h11 : s.2.1 11 (8 + aN A) = b2I nm) (h8 : ∀ t, t < aM A → s.2.1 8 (10 * (8 + aN A) + t) = nI (gf t)) : MDR (addA A wv nm pf) (putG g (aN A) gf) s' := by
  obtain ⟨q1, q2, q3, q4, q5, q6, q7, q8, q9, q10, q11⟩ := h
  have ro : ∀ q, q ≠ 2 → s'.2.1 q = s.2.1 q := fun q hq => by rw [e, hsA_ne _ _ hq]
  refine ⟨?_, by rw [e, hsA_at, pk_us]; rfl, ?_, ?_, ?_, ?_, fun p hp => ?_, fun p t hp ht => ?_, ?_, ?_, fun p hp => ?_⟩
  · rw [ro 1 (by decide)]; exact q1
  · rw [ro 3 (by decide)]; exact q3
  · rw [ro 4 (by decide)]; exact q4
  · rw [ro 5 (by decide)]; exact q5
  · rw [ro 6 (by decide)]; exact q6
  · have hp : p < aN A + 1 := hp
    show s'.2.1 7 (8 + p) = nI (if p = aN A then wv else aW A p)
    rw [ro 7 (by decide)]
    rcases Nat.decEq p (aN A) with z | z
    · rw [if_neg z]; exact q7 p (by omega)
    · rw [if_pos z, z]; exact h7
  · have hp : p < aN A + 1 := hp
    rw [ro 8 (by decide)]
    unfold putG
    rcases Nat.decEq p (aN A) with z | z
    · rw [if_neg z]; exact q8 p t (by omega) ht
    · rw [if_pos z, z]; exact h8 t ht
  · rw [ro 9 (by decide)]; exact q9
  · rw [ro 10 (by decide)]; exact q10
  · have hp : p < aN A + 1 := hp
    show s'.2.1 11 (8 + p) = nI (if (if nm = true then aNm A ||| 2 ^ aN A else aNm A).testBit p = true then 1 else 0)
    rw [ro 11 (by decide)]
    rcases Nat.decEq p (aN A) with z | z
    · rw [q11 p (by omega)]
      cases nm with
      | true => rw [if_pos rfl, fb_bit_set]; simp [z]
      | false => rfl
    · rw [z, h11]
      cases nm with
      | true => rw [if_pos rfl, fb_bit_set]; simp; rfl
      | false =>
        show b2I false = nI (if (aNm A).testBit (aN A) = true then 1 else 0)
        rw [qs_hi hNm (Nat.le_refl _)]; rfl
theorem qm_readPerson (hn : n ≤ 600) (hD : DG (A, g)) (hS : MS T n w A g σ) {post : hsS → Prop} (kf : ∀ e s', perO T n w (A, g) = Sum.inl e → FD σ s' → MF e s' → post s') (ko : ∀ r s', perO T n w (A, g) = Sum.inr r → FD σ s' → MS T n r.1 r.2.1 r.2.2 s' → post s') : wX8_readPerson post σ := by
  have ha : AW A := hD.1
  have hNm : aNm A < 2 ^ aN A := hD.2.2.2
  have hm := aw_m ha; have hN := aw_n ha
  unfold perO at kf ko
  dsimp only at kf ko
  unfold wX8_readPerson
  have d2 : σ.2.1 2 (1 : Int32).toNatClampNeg = nI (aN A) := hS.2.2.2.2.2.1
  rw [d2]
  refine pk_eq (aN A) 8 (fun c8 => ?_) (fun c8 => br_t hS.2.2.2.1 (qm_stepS hS (fun s1 f1 hS1 => qm_wordS hS1 (by decide) (fun w2 s2 f2 hS2 => ?_) (fun w2 s2 f2 h2 => qm_numBad h2 (br_f (mf_ne h2) ?_)))))
  · rw [if_pos (by omega)] at kf
    exact qm_wrongS hS (x := 2) (by decide) (fun s f1 h1 => br_f (mf_ne h1) (kf _ s rfl f1 h1))
  · rw [if_neg (by omega), if_neg (by rw [w2]; decide)] at kf ko
    have F2 := f1.trans f2
    refine qm_numS hn hS2 (least := 1) (most := 99) (there := 1000) (over := false) rfl (by decide) (by decide) (by decide) (fun e0 => br_t hS2.2.2.2.1 ?_) (fun r s' hne f3 h3 => br_f (mf_ne h3) (kf _ s' (by rw [if_pos hne]) (F2.trans f3) h3))
    rw [if_neg (by rw [e0]; decide)] at kf ko
    obtain ⟨c1, c2, v1, v99, _, _⟩ := nb_ok e0
    refine qm_stepS hS2 (fun s13 f13 hS13 => ?_)
    have F13 := F2.trans f13
    have d13 : s13.2.1 2 (1 : Int32).toNatClampNeg = nI (aN A) := hS13.2.2.2.2.2.1
    rw [d13]
    refine nm_e ?_
    rw [show (8 : Int32) + nI (aN A) = nI (8 + aN A) from nI_add 8 (aN A)]
    refine ⟨pk_in (8 + aN A) 16 (by omega), fun s15 e15 => ?_⟩
    rw [nI_clamp (by omega)] at e15
    have g15 : FD s13 s15 := by rw [e15]; exact FD.arr _ (by decide) (by decide) (by show 8 ≤ 8 + aN A; omega)
    have i15 : s15.1 = s13.1 := by rw [e15]; rfl
    have ro15 : ∀ q, q ≠ 7 → s15.2.1 q = s13.2.1 q := fun q hq => by rw [e15, hsA_ne _ _ hq]
    have a15 : s15.2.1 7 = upd (s13.2.1 7) (8 + aN A) (nI (tV (tokO T n (tT (tokO T n (tT w)))))) := by rw [e15, hsA_at]
    have hd15 : MDR A g s15 := by
      obtain ⟨q1, q2, q3, q4, q5, q6, q7, q8, q9, q10, q11⟩ := hS13.2.2.2.2
      refine ⟨by rw [ro15 1 (by decide)]; exact q1, by rw [ro15 2 (by decide)]; exact q2, by rw [ro15 3 (by decide)]; exact q3, by rw [ro15 4 (by decide)]; exact q4, by rw [ro15 5 (by decide)]; exact q5, by rw [ro15 6 (by decide)]; exact q6, fun p hp => by rw [a15, pk_un (by omega)]; exact q7 p hp, by rw [ro15 8 (by decide)]; exact q8, by rw [ro15 9 (by decide)]; exact q9, by rw [ro15 10 (by decide)]; exact q10, by rw [ro15 11 (by decide)]; exact q11⟩
    generalize hw3e : tokO T n (tT (tokO T n (tT (tokO T n (tT w))))) = w3 at kf ko hS13
    have hS15 : MS T n w3 A g s15 := ⟨ml_fd hS13.1 g15, hS13.2.1.fi i15, hS13.2.2.1, by rw [i15]; exact hS13.2.2.2.1, hd15⟩
    refine qm_isS hS15 (by decide) ⟨pk_in (8 + aN A) 16 (by omega), fun s18 e18 => ?_⟩
    rw [nI_clamp (by omega), vn_b] at e18
    have g18 : FD s15 s18 := by rw [e18]; exact FD.arr _ (by decide) (by decide) (by show 8 ≤ 8 + aN A; omega)
    have i18 : s18.1 = s15.1 := by rw [e18]; rfl
    have ro18 : ∀ q, q ≠ 11 → s18.2.1 q = s15.2.1 q := fun q hq => by rw [e18, hsA_ne _ _ hq]
    have a18 : s18.2.1 11 = upd (s15.2.1 11) (8 + aN A) (b2I (wdO T w3 3)) := by rw [e18, hsA_at]
    have hd18 : MDR A g s18 := by
      obtain ⟨q1, q2, q3, q4, q5, q6, q7, q8, q9, q10, q11⟩ := hd15
      refine ⟨by rw [ro18 1 (by decide)]; exact q1, by rw [ro18 2 (by decide)]; exact q2, by rw [ro18 3 (by decide)]; exact q3, by rw [ro18 4 (by decide)]; exact q4, by rw [ro18 5 (by decide)]; exact q5, by rw [ro18 6 (by decide)]; exact q6, by rw [ro18 7 (by decide)]; exact q7, by rw [ro18 8 (by decide)]; exact q8, by rw [ro18 9 (by decide)]; exact q9, by rw [ro18 10 (by decide)]; exact q10, fun p hp => by rw [a18, pk_un (by omega)]; exact q11 p hp⟩
    refine qm_zeroG (by omega) _ (fun s24 f24 x24 z24 _ => ⟨pk_in (8 + aN A) 16 (by omega), ?_⟩)
    have g24 : FD s18 s24 := fd_row f24 (by omega) x24
    have i24 : s24.1 = s13.1 := by rw [show s24.1 = s18.1 from funext (fun q => f24.1 q (by simp)), i18, i15]
    have hd24 : MDR A g s24 := hd18.row f24 hm.2 x24
    have F24 := ((F13.trans g15).trans g18).trans g24
    have hS24 : MS T n w3 A g s24 := ⟨ml_fd hS13.1 ((g15.trans g18).trans g24), hS13.2.1.fi i24, hS13.2.2.1, by rw [i24]; exact hS13.2.2.2.1, hd24⟩
    have b7 : s24.2.1 7 (8 + aN A) = nI (tV (tokO T n (tT (tokO T n (tT w))))) := by rw [f24.2.1 7 (by decide), ro18 7 (by decide), a15, pk_us]
    have b11 : s24.2.1 11 (8 + aN A) = b2I (wdO T w3 3) := by rw [f24.2.1 11 (by decide), a18, pk_us]
    rw [nI_clamp (n := 8 + aN A) (by omega), b11]
    refine b2_br (fun w3f => br_t hS24.2.2.2.1 (fun s27 e27 => ?_)) (fun w3t => ?_)
    · rw [w3f, if_neg (by decide)] at ko
      have d24 : s24.2.1 2 (1 : Int32).toNatClampNeg = nI (aN A) := hd24.2.1
      rw [d24, nI_1] at e27
      have g27 : FD s24 s27 := by rw [e27]; exact FD.arr _ (by decide) (by decide) (by decide)
      have i27 : s27.1 = s24.1 := by rw [e27]; rfl
      exact ko _ s27 rfl (F24.trans g27) ⟨ml_fd hS24.1 g27, hS24.2.1.fi i27, hS24.2.2.1, by rw [i27]; exact hS24.2.2.2.1, hd24.add hNm hm.2 e27 b7 (by rw [b11, w3f]) (fun t ht => z24 t (by omega))⟩
    · rw [w3t, if_pos rfl] at kf ko
      refine qm_stepA hS24 (fun s29 f29 e29 hS29 => nm_r (e' := nI (10 * (8 + aN A))) (by rw [show (8 : Int32) + nI (aN A) = nI (8 + aN A) from nI_add 8 (aN A), show (10 : Int32) = nI 10 from rfl, pk_mul, Nat.mul_comm]) ?_)
      have F29 := F24.trans f29
      refine ⟨11, qm_likesL (σ := s29) hn hm.2 (by omega) _ _ 10 _ 0 0 0 (fun _ => 0) (fun _ => 0) s29 rfl (OI.zero _) (by symm; exact fb_ct_zero.mpr (fun k _ => by simp)) hS29 (fun t _ hb => by simp at hb) FD.rf rfl rfl (fun e s' he q1 q2 _ _ _ => br_f (mf_ne q2) (kf e s' (by rw [he]) (F29.trans q1) q2)) (fun r s' he q1 q7 q11 q2 q3 u => ?_)⟩
      have hlk := lk_ok hm.2 10 _ 0 0 0 _ _ hS29.2.2.1 (OI.zero _) (by symm; exact fb_ct_zero.mpr (fun k _ => by simp)) r he
      have htk : r.2.1 < 2 ^ 9 := Nat.lt_of_lt_of_le hlk.2.2.1 (Nat.pow_le_pow_right (by decide) hm.2)
      have hgl : r.2.2.1 < 100 := by have h1 := hlk.2.2.2.1; have h2 := qs_sz_le r.2.1; omega
      refine qm_likesFill (gf := r.2.2.2.2) htk (by omega) hgl (fun t ht hb => q3 t ?_ hb) _ (fun s97 f97 x97 z97 _ => br_t (by rw [f97.1 21 (by simp)]; exact q2.2.2.2.1) (fun s33 e33 => ?_))
      · rcases Nat.lt_or_ge t (aM A) with y | y
        · exact y
        · rw [qs_hi hlk.2.2.1 y] at hb; exact absurd hb (by decide)
      · have g97 : FD s' s97 := fd_row f97 (by omega) x97
        have hd97 : MDR A g s97 := q2.2.2.2.2.row f97 hm.2 x97
        have d97 : s97.2.1 2 (1 : Int32).toNatClampNeg = nI (aN A) := hd97.2.1
        rw [d97, nI_1] at e33
        have g33 : FD s97 s33 := by rw [e33]; exact FD.arr _ (by decide) (by decide) (by decide)
        have i33 : s33.1 = s'.1 := by rw [e33]; exact funext (fun q => f97.1 q (by simp))
        have c7 : s97.2.1 7 (8 + aN A) = nI (tV (tokO T n (tT (tokO T n (tT w))))) := by rw [f97.2.1 7 (by decide), q7, e29]; exact b7
        have c11 : s97.2.1 11 (8 + aN A) = b2I true := by rw [f97.2.1 11 (by decide), q11, e29, b11, w3t]
        exact ko (r.1, addA A (tV (tokO T n (tT (tokO T n (tT w))))) true (ordP r.2.1 r.2.2.2.1), putG g (aN A) (ordG r.2.1 r.2.2.1 r.2.2.2.2)) s33 (by rw [he]) (((F29.trans q1).trans g97).trans g33) ⟨ml_fd q2.1 (g97.trans g33), q2.2.1.fi i33, q2.2.2.1, by rw [i33]; exact q2.2.2.2.1, hd97.add hNm hm.2 e33 c7 c11 (fun t ht => z97 t (by omega))⟩
  · rw [if_neg (by omega), if_pos w2] at kf
    exact kf _ s2 rfl (f1.trans f2) h2
theorem qm_semiBad {e : FT} (h : MF e σ) {post : hsS → Prop} (k : post σ) : wX8_semi post σ := br_f (mf_ne h) (br_f (mf_ne h) k)
theorem qm_semiS (h : MS T n w A g σ) {post : hsS → Prop} (k1 : tK w = 3 → ∀ s, FD σ s → MS T n (tokO T n (tT w)) A g s → post s) (k0 : tK w ≠ 3 → ∀ s, FD σ s → MF (1, tF w) s → post s) : wX8_semi post σ := by
  have h4 := h.2.2.1.2.2.1
  unfold wX8_semi
  rw [h.2.1.1]
  exact br_t h.2.2.2.1 (pk_eq (tK w) 3 (fun c => br_t h.2.2.2.1 (qm_stepS h (fun s f1 f2 => k1 c s f1 f2))) (fun c => qm_wrongS h (x := 1) (by decide) (fun s f1 f2 => br_f (mf_ne f2) (k0 c s f1 f2))))
theorem qm_readLine (hn : n ≤ 600) (hD : DG (A, g)) (hS : MS T n w A g σ) {post : hsS → Prop} (kf : ∀ e s', smO2 T n (lnO T n w (A, g)) = Sum.inl e → FD σ s' → MF e s' → post s') (ko : ∀ r s', smO2 T n (lnO T n w (A, g)) = Sum.inr r → FD σ s' → MS T n r.1 r.2.1 r.2.2 s' → post s') : wX8_readLine post σ := by
  have ha : AW A := hD.1
  have hm := aw_m ha; have hN := aw_n ha
  have bad : ∀ e s', lnO T n w (A, g) = Sum.inl e → FD σ s' → MF e s' → wX8_semi post s' := fun e s' he f1 h1 => qm_semiBad h1 (kf e s' (by rw [he]; rfl) f1 h1)
  have good : ∀ r s', lnO T n w (A, g) = Sum.inr r → FD σ s' → MS T n r.1 r.2.1 r.2.2 s' → wX8_semi post s' := fun r s' he f1 h1 => qm_semiS h1 (fun c s2 f2 h2 => ko (tokO T n (tT r.1), r.2) s2 (by rw [he]; show (if tK r.1 = 3 then _ else _) = _; rw [if_pos c]) (f1.trans f2) h2) (fun c s2 f2 h2 => kf _ s2 (by rw [he]; show (if tK r.1 = 3 then _ else _) = _; rw [if_neg c]) (f1.trans f2) h2)
  unfold lnO at bad good
  refine qm_isS hS (by decide) (b2_br (fun w1 => qm_isS hS (by decide) (b2_br (fun w6 => qm_isS hS (by decide) (b2_br (fun w10 => ?_) (fun w10 => ?_))) (fun w6 => ?_))) (fun w1 => ?_))
  · rw [w1, w6, w10, if_neg (by decide), if_neg (by decide), if_neg (by decide)] at bad
    exact qm_wrongS hS (x := 1) (by decide) (fun s f1 h1 => bad _ s rfl f1 h1)
  · rw [w1, w6, w10, if_neg (by decide), if_neg (by decide), if_pos rfl] at bad good
    refine qm_stepS hS (fun s2 f2 hS2 => ?_)
    exact qm_turnsGo hm hN hn hS2 _ (fun e s' he q1 q2 => bad e s' he (f2.trans q1) q2) (fun r s' he q1 q2 => good r s' he (f2.trans q1) q2)
  · rw [w1, w6, if_neg (by decide), if_pos rfl] at bad good
    exact qm_readLaw hn hS (fun e s' he q1 q2 => bad e s' he q1 q2) (fun r s' he q1 q2 => good r s' he q1 q2)
  · rw [w1, if_pos rfl] at bad good
    exact qm_readPerson hn hD hS (fun e s' he q1 q2 => bad e s' he q1 q2) (fun r s' he q1 q2 => good r s' he q1 q2)
theorem qm_lines (hn : n ≤ 600) {x1 : Int32} {post : Int32 → hsS → Prop} (K : hsS → Prop) : ∀ (f : Nat) (w : TK) (D : DR) (j : Nat) (s : hsS), j + f = 601 → j ≤ tT w → DG D → MS T n w D.1 D.2 s → FD σ s → (∀ e s', hallO T n f w D = Sum.inl e → FD σ s' → MF e s' → K s') → (∀ D' s', hallO T n f w D = Sum.inr D' → FD σ s' → s'.1 21 = 0 → MDR D'.1 D'.2 s' → DG D' → K s') → wX8_hall_L125 x1 K post (f + 1) s
  | 0, w, D, j, s, hj, hjt, hD, hS, hF, kf, ko => by
    have := hS.2.2.1.2.1
    omega
  | f + 1, w, D, j, s, hj, hjt, hD, hS, hF, kf, ko => by
    have hw2 := hS.2.2.1.2.1
    have hk4 := hS.2.2.1.2.2.1
    have ed : hallO T n (f + 1) w D = (if tK w = 0 then Sum.inr D else match smO2 T n (lnO T n w D) with | Sum.inl e => Sum.inl e | Sum.inr q => hallO T n f q.1 q.2) := rfl
    rw [wX8_hall_L125, hS.2.1.1]
    refine br_t hS.2.2.2.1 (pk_eq (tK w) 0 (fun c => ?_) (fun c => ?_))
    · rw [if_pos c] at ed
      exact ko D s ed hF hS.2.2.2.1 hS.2.2.2.2 hD
    · rw [if_neg c] at ed
      refine qm_readLine (A := D.1) (g := D.2) hn hD hS (fun e s' he q1 q2 => ?_) (fun r s' he q1 hS1 => ?_)
      · have he : smO2 T n (lnO T n w D) = Sum.inl e := he
        rw [he] at ed
        rw [wX8_hall_L125]
        exact br_f (mf_ne q2) (kf e s' ed (hF.trans q1) q2)
      · have he : smO2 T n (lnO T n w D) = Sum.inr r := he
        have hok := ln_ok (T := T) (A := D.1) (g := D.2) hS.2.2.1 hD
        have hsm := sm_ok (T := T) (n := n) (a := tT w) (q := lnO T n w D) hok r he
        rw [he] at ed
        exact qm_lines hn K f _ r.2 (j + 1) s' (by omega) (by have := hsm.2.1; omega) hsm.2.2 hS1 (hF.trans q1) (fun e s2 h1 => kf e s2 (by rw [ed]; exact h1)) (fun D' s2 h1 => ko D' s2 (by rw [ed]; exact h1))
end RmY
