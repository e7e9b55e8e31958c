/-! ===== hall: the class reads people, lines, the text ===== -/
section RdZ
variable {T : Nat → Nat} {n : Nat} {w : TK} {A : AH} {g : Nat → Nat → Nat} {σ : hsS}
theorem CK.fr {I R : List Nat} {σ' : hsS} (h : CK w σ) (hf : FRm I R σ σ') (hI : ∀ k, k < 712 → 708 ≤ k → k ∉ I) : CK w σ' := ⟨by rw [hf.1 _ (hI _ (by decide) (by decide))]; exact h.1, by rw [hf.1 _ (hI _ (by decide) (by decide))]; exact h.2.1, by rw [hf.1 _ (hI _ (by decide) (by decide))]; exact h.2.2.1, fun z => by rw [hf.1 _ (hI _ (by decide) (by decide))]; exact h.2.2.2 z⟩
theorem qx_readOrder {wv : Nat} {nm : Bool} {pf0 : Nat → Nat} (hn : n ≤ 600) (hm : aM A ≤ 9) (hN : aN A < 8) (hS : CS T n w (addA A wv nm pf0) σ) {post : Int32 → hsS → Prop} (kn : wdO T w 3 = false → ∀ s, FO σ s → CS T n w (addA A wv nm (fun _ => 0)) s → post 1 s) (kf : wdO T w 3 = true → ∀ e s, lkO T n (aM A) 10 (tokO T n (tT w)) 0 0 0 (fun _ => 0) (fun _ => 0) = Sum.inl e → FC σ s → CF e s → post 0 s) (ko : wdO T w 3 = true → ∀ r s, lkO T n (aM A) 10 (tokO T n (tT w)) 0 0 0 (fun _ => 0) (fun _ => 0) = Sum.inr r → FO σ s → CS T n r.1 (addA A wv nm (ordP r.2.1 r.2.2.2.1)) s → post 1 s) : wX3_readOrder 11 (nI (aN A)) post σ := by
  have fill : ∀ (w1 : TK) (tk : Nat) (pf pf1 : Nat → Nat) (s : hsS), tk < 2 ^ aM A → CS T n w1 (addA A wv nm pf1) s → (∀ t, t < aM A → tk.testBit t = true → pf1 t = pf t) → ∀ (z3 z4 : Int32), (∀ s', FRm [] [15] s s' → CS T n w1 (addA A wv nm (ordP tk pf)) s' → post 1 s') → ∃ f, wX3_readOrder_L115 11 (nI (aN A)) (nI tk) z3 z4 (fun _ σ59 => post (1 : Int32) σ59) post f 0 s := fun w1 tk pf pf1 s htk hS1 hpf z3 z4 kk =>
    qx_orderFill hm hN htk hS1.2.2.2 hpf _ (fun s' f1 x1 _ => kk s' f1 ⟨hS1.1.fr f1 (by simp) (by decide), hS1.2.1.fr f1 (by simp), hS1.2.2.1, x1⟩)
  refine qx_wd hS (by decide) ?_
  cases hw3 : wdO T w 3 with
  | false =>
    refine ⟨1, ?_⟩
    rw [wX3_readOrder_L15]
    have e0 : ∀ z3 z4 : Int32, ∃ f, wX3_readOrder_L115 11 (nI (aN A)) (nI 0) z3 z4 (fun _ σ59 => post (1 : Int32) σ59) post f 0 σ := fun z3 z4 => fill w 0 (fun _ => 0) pf0 σ (Nat.two_pow_pos _) hS (fun t _ hb => by simp at hb) z3 z4 (fun s' f1 h1 => kn hw3 s' (f1.weak (by simp) (by decide)) ⟨h1.1, h1.2.1, h1.2.2.1, addA_hx h1.2.2.2 (fun t _ => by unfold ordP; rw [if_neg (by simp)]; rfl)⟩)
    exact br_f (by decide) (br_t rfl (e0 _ _))
  | true =>
    refine ⟨11, qx_orderL (post := post) (σ := σ) hn hm hN _ _ 10 w 0 0 0 (fun _ => 0) (fun _ => 0) σ pf0 rfl (OI.zero _) (by symm; exact fb_ct_zero.mpr (fun k _ => by simp)) hS (fun t _ hb => by simp at hb) FRm.rf (fun e s' he f1 f2 _ _ _ _ => kf hw3 e s' he f1 f2) (fun r s' pf1 he f1 hS1 hpf z u v => ?_)⟩
    have hlk := lk_ok hm 10 _ 0 0 0 _ _ (tg_ok T hS.2.2.1.2.1) (OI.zero _) (by symm; exact fb_ct_zero.mpr (fun k _ => by simp)) r he
    exact fill r.1 r.2.1 r.2.2.2.1 pf1 s' hlk.2.2.1 hS1 hpf _ _ (fun s2 f2 h2 => ko hw3 r s2 he (f1.trans (f2.weak (by simp) (by decide))) h2)
theorem qx_readPerson (hn : n ≤ 600) (ha : AW A) (hS : CS T n w A σ) {post : Int32 → hsS → Prop} (kf : ∀ e s', perO T n w (A, g) = Sum.inl e → FC σ s' → CF e s' → post 0 s') (ko : ∀ r s', perO T n w (A, g) = Sum.inr r → FO σ s' → CS T n r.1 r.2.1 s' → post 1 s') : wX3_readPerson 11 post σ := by
  have hm := aw_m ha; have hN := aw_n ha; have haw := aAW_le ha
  unfold perO at kf ko
  dsimp only at kf ko
  unfold wX3_readPerson
  rw [show σ.1 (64 * (11 + 2) + 1) = nI (aN A) from hx_n (b := 13) hS.2.2.2]
  refine pk_lt (aN A) 8 (fun c8 => qx_nextS hS (fun s1 f1 hS1 => ?_)) (fun c8 => ?_)
  · rw [if_neg (by omega)] at kf ko
    refine qx_wd hS1 (by decide) (b2_br (fun w2 => qx_failS hS1.2.1 (x := 1) (fun s' g1 g2 => ⟨Or.inl rfl, br_t rfl (kf _ s' (by rw [if_pos w2]) ((fo_fc f1).trans g1) g2)⟩)) (fun w2 => qx_nextS hS1 (fun s2 f2 hS2 => br_f (by decide) ?_)))
    rw [if_neg (by rw [w2]; decide)] at kf ko
    have F2 := f1.trans f2
    obtain ⟨i1, i2, i3, i4⟩ := hS2
    refine qx_within i3 hn i2 (l := 1) (mo := 99) (by decide) (by decide) (fun hnb => br_f (by decide) ?_) (fun s' hnb g1 g2 => br_t rfl (kf _ s' (by rw [if_pos hnb]) ((fo_fc F2).trans g1) g2))
    rw [if_neg (by rw [hnb]; decide)] at kf ko
    obtain ⟨c1, c2, v1, v99, _, _⟩ := nb_ok hnb
    have hp2 : s2.1 (64 * (11 + 2) + 1) = nI (aN A) := hx_n (b := 13) i4
    rw [hp2, nI_1]
    refine nm_e (fun s11 e11 => ⟨pk_in (aN A) 8 c8, fun s12 e12 s13 e13 => ?_⟩)
    have v11 : s11.1 (64 * 11 + 7) = nI (tV (tokO T n (tT (tokO T n (tT w))))) := by rw [e11, hsI_ne _ _ (by decide)]; exact i2.2.2.2 c1
    rw [v11, nI_clamp (by omega)] at e12
    have v12 : s12.1 (64 * 11 + 7) = nI (tV (tokO T n (tT (tokO T n (tT w))))) := by rw [e12]; exact v11
    have w12 : s12.1 (64 * (11 + 2) + 2) = nI (aAW A) := by rw [e12]; show s11.1 _ = _; rw [e11, hsI_ne _ _ (by decide)]; exact hx_aw (b := 13) i4
    rw [v12, w12, nI_add] at e13
    have f13 : FO s2 s13 := by rw [e13, e12, e11]; exact ((FRm.int _ (by decide)).trans (FRm.arr _ (by decide))).trans (FRm.int _ (by decide))
    have a14 : s13.2.1 14 = upd (s2.2.1 14) (aN A) (nI (tV (tokO T n (tT (tokO T n (tT w)))))) := by rw [e13, e12, e11]; exact hsA_at _ _ _
    have r14 : ∀ q, q ≠ 14 → s13.2.1 q = s2.2.1 q := fun q hq => by rw [e13, e12, e11]; exact hsA_ne _ _ hq
    have i13 : ∀ q, q ≠ 833 → q ≠ 834 → s13.1 q = s2.1 q := fun q h1 h2 => by rw [e13, hsI_ne _ _ h2, e12]; show s11.1 q = _; rw [e11, hsI_ne _ _ h1]
    have x13 : HX 13 (addA A (tV (tokO T n (tT (tokO T n (tT w))))) false (fun t => qb_N (s2.2.1 15 (9 * aN A + t)))) s13 := by
      refine ⟨fun k hk => ?_, fun p hp => ?_, fun p t hp ht => ?_, fun k hk => by rw [r14 _ (by decide)]; exact hx_t i4 hk, fun k hk => by rw [r14 _ (by decide)]; exact hx_u i4 hk⟩
      · show s13.1 (64 * 13 + k) = nI (if k = 1 then aN A + 1 else if k = 2 then aAW A + tV (tokO T n (tT (tokO T n (tT w)))) else if k = 7 then (if false = true then aNm A ||| 2 ^ aN A else aNm A) else A.1 k)
        rcases Nat.decEq k 1 with z1 | z1
        · rw [if_neg z1]
          rcases Nat.decEq k 2 with z2 | z2
          · rw [if_neg z2, i13 _ (by omega) (by omega)]
            rcases Nat.decEq k 7 with z7 | z7
            · rw [if_neg z7]; exact i4.1 k hk
            · rw [if_pos z7, if_neg (by decide), z7]; exact hx_nm i4
          · rw [if_pos z2, z2, e13]; exact hsI_at _ _ _
        · rw [if_pos z1, z1, e13, hsI_ne _ _ (by decide), e12]; show s11.1 _ = _; rw [e11]; exact hsI_at _ _ _
      · have hp : p < aN A + 1 := hp
        show s13.2.1 14 p = nI (if p = aN A then tV (tokO T n (tT (tokO T n (tT w)))) else aW A p)
        rw [a14]
        rcases Nat.decEq p (aN A) with z | z
        · rw [pk_un z, if_neg z]; exact hx_w i4 (p := p) (by omega)
        · rw [if_pos z, z, pk_us]
      · have hp : p < aN A + 1 := hp
        have ht : t < aM A := ht
        rw [addA_P, r14 _ (by decide)]
        rcases Nat.decEq p (aN A) with z | z
        · rw [if_neg z]; exact hx_p i4 (by omega) ht
        · rw [if_pos z, nI_qb, z]
    refine qx_nextS (A := addA A (tV (tokO T n (tT (tokO T n (tT w))))) false (fun t => qb_N (s2.2.1 15 (9 * aN A + t)))) ⟨cl_fo i1 f13, i2.s2 (fun k _ h712 => i13 k (by omega) (by omega)), i3, x13⟩ (fun s15 f15 hS15 => ?_)
    have F15 := (F2.trans f13).trans f15
    refine qx_wd hS15 (by decide) ?_
    cases hw3 : wdO T (tokO T n (tT (tokO T n (tT (tokO T n (tT w)))))) 3 with
    | false =>
      rw [hw3, if_neg (by decide)] at ko
      refine br_t rfl (qx_readOrder hn hm.2 c8 hS15 (fun _ s q1 q2 => ⟨Or.inr rfl, ko _ s rfl (F15.trans q1) q2⟩) (fun h3 => by rw [hw3] at h3; exact absurd h3 (by decide)) (fun h3 => by rw [hw3] at h3; exact absurd h3 (by decide)))
    | true =>
      rw [hw3, if_pos rfl] at kf ko
      refine br_f (by decide) (fun s21 e21 => ?_)
      have n15 : s15.1 (64 * (11 + 2) + 7) = nI (aNm A) := hx_nm (b := 13) (A := addA A (tV (tokO T n (tT (tokO T n (tT w))))) false (fun t => qb_N (s2.2.1 15 (9 * aN A + t)))) hS15.2.2.2
      rw [n15, qb_one _ (by omega), fa_or] at e21
      have f21 : FO s15 s21 := by rw [e21]; exact FRm.int _ (by decide)
      have x21 : HX 13 (addA A (tV (tokO T n (tT (tokO T n (tT w))))) true (fun t => qb_N (s2.2.1 15 (9 * aN A + t)))) s21 := by
        have hx := hS15.2.2.2
        have har : s21.2.1 = s15.2.1 := by rw [e21]; rfl
        refine ⟨fun k hk => ?_, fun p hp => by rw [har]; exact hx.2.1 p hp, fun p t hp ht => ?_, fun k hk => by rw [har]; exact hx.2.2.2.1 k hk, fun k hk => by rw [har]; exact hx.2.2.2.2 k hk⟩
        · have h0 := hx.1 k hk
          rcases Nat.decEq k 7 with z7 | z7
          · rw [e21, hsI_ne _ _ (by omega), h0]
            show nI (if k = 1 then aN A + 1 else if k = 2 then aAW A + _ else if k = 7 then _ else A.1 k) = nI (if k = 1 then aN A + 1 else if k = 2 then aAW A + _ else if k = 7 then _ else A.1 k)
            rw [if_neg z7, if_neg z7]
          · rw [z7, e21]; exact hsI_at _ _ _
        · rw [har]
          have h0 := hx.2.2.1 p t hp ht
          rw [addA_P] at h0 ⊢; exact h0
      refine qx_readOrder hn hm.2 c8 (nm := true) ⟨cl_fo hS15.1 f21, hS15.2.1.s2 (fun k _ h712 => by rw [e21, hsI_ne _ _ (by omega)]), hS15.2.2.1, x21⟩ (fun h3 => by rw [hw3] at h3; exact absurd h3 (by decide)) (fun _ e s he q1 q2 => ⟨Or.inl rfl, kf e s ?_ ((fo_fc (F15.trans f21)).trans q1) q2⟩) (fun _ r s he q1 q2 => ⟨Or.inr rfl, ko (r.1, addA A (tV (tokO T n (tT (tokO T n (tT w))))) true (ordP r.2.1 r.2.2.2.1), putG g (aN A) (ordG r.2.1 r.2.2.1 r.2.2.2.2)) s ?_ ((F15.trans f21).trans q1) q2⟩)
      · rw [he]
      · rw [he]
  · rw [if_pos c8] at kf
    exact qx_failS hS.2.1 (x := 2) (fun s' g1 g2 => ⟨Or.inl rfl, kf _ s' rfl g1 g2⟩)
theorem qx_readLine (hn : n ≤ 600) (ha : AW A) (hS : CS T n w A σ) {post : Int32 → hsS → Prop} (kf : ∀ e s', lnO T n w (A, g) = Sum.inl e → FC σ s' → CF e s' → post 0 s') (ko : ∀ r s', lnO T n w (A, g) = Sum.inr r → FO σ s' → CS T n r.1 r.2.1 s' → post 1 s') : wX3_readLine 11 post σ := by
  have hm := aw_m ha; have hN := aw_n ha
  unfold lnO at kf ko
  refine qx_wd hS (by decide) (b2_br (fun w1 => qx_wd hS (by decide) (b2_br (fun w6 => qx_wd hS (by decide) (b2_br (fun w10 => ?_) (fun w10 => ?_))) (fun w6 => ?_))) (fun w1 => ?_))
  · rw [w1, w6, w10, if_neg (by decide), if_neg (by decide), if_neg (by decide)] at kf
    exact qx_failS hS.2.1 (x := 1) (fun s' g1 g2 => ⟨Or.inl rfl, kf _ s' rfl g1 g2⟩)
  · rw [w1, w6, w10, if_neg (by decide), if_neg (by decide), if_pos rfl] at kf ko
    exact qx_nextS hS (fun s1 f1 hS1 => qx_readTurns (g := g) hm hN hn hS1 (fun e s' he q1 q2 => ⟨Or.inl rfl, kf e s' he ((fo_fc f1).trans q1) q2⟩) (fun r s' he q1 q2 => ⟨Or.inr rfl, ko r s' he (f1.trans q1) q2⟩))
  · rw [w1, w6, if_neg (by decide), if_pos rfl] at kf ko
    exact qx_nextS hS (fun s1 f1 hS1 => qx_readLaw (g := g) hn hS1 (fun e s' he q1 q2 => ⟨Or.inl rfl, kf e s' he ((fo_fc f1).trans q1) q2⟩) (fun r s' he q1 q2 => ⟨Or.inr rfl, ko r s' he (f1.trans q1) q2⟩))
  · rw [w1, if_pos rfl] at kf ko
    exact qx_readPerson (g := g) hn ha hS (fun e s' he q1 q2 => ⟨Or.inl rfl, kf e s' he q1 q2⟩) (fun r s' he q1 q2 => ⟨Or.inr rfl, ko r s' he q1 q2⟩)
theorem qx_passSign (hS : CS T n w A σ) {post : Int32 → hsS → Prop} (k1 : tK w = 3 → ∀ s, FO σ s → CS T n (tokO T n (tT w)) A s → post 1 s) (k0 : tK w ≠ 3 → ∀ s, FC σ s → CF (1, tF w) s → post 0 s) : wX3_passSign 11 post σ := by
  have h4 := hS.2.2.1.2.2.1
  unfold wX3_passSign
  rw [hS.2.1.1]
  exact pk_eq (tK w) 3 (fun c => qx_nextS hS (fun s f1 h1 => k1 c s f1 h1)) (fun c => qx_failS hS.2.1 (x := 1) (fun s f1 f2 => ⟨Or.inl rfl, k0 c s f1 f2⟩))
theorem qx_lines (hn : n ≤ 600) {x1 : Int32} {post : Int32 → hsS → Prop} (K : Int32 → Int32 → hsS → Prop) : ∀ (f : Nat) (w : TK) (D : DR) (j : Nat) (s : hsS), j + f = 601 → j ≤ tT w → DG D → CS T n w D.1 s → FO σ s → (∀ e s', hallO T n f w D = Sum.inl e → FC σ s' → CF e s' → ∀ y z, K y z s') → (∀ D' s', hallO T n f w D = Sum.inr D' → FO σ s' → HX 13 D'.1 s' → DG D' → ∀ y z, K y z s') → wX3_read_L50 11 x1 K post (f + 1) 1 (nI j) s
  | 0, w, D, j, s, hj, hjt, hD, hS, hF, kf, ko => by
    have := hS.2.2.1.2.1
    omega
  | f + 1, w, D, j, s, hj, hjt, hD, hS, hF, kf, ko => by
    have hw2 := hS.2.2.1.2.1
    have hk4 := hS.2.2.1.2.2.1
    have ed : hallO T n (f + 1) w D = (if tK w = 0 then Sum.inr D else match smO2 T n (lnO T n w D) with | Sum.inl e => Sum.inl e | Sum.inr q => hallO T n f q.1 q.2) := rfl
    rw [wX3_read_L50]
    refine br_f (nI_nlt (a := 600) (by omega) (by decide)) (br_f (by decide) ?_)
    rw [hS.2.1.1]
    refine pk_eq (tK w) 0 (fun c => ?_) (fun c => ?_)
    · rw [if_pos c] at ed
      exact ko D s ed hF hS.2.2.2 hD _ _
    · rw [if_neg c] at ed
      have stop : ∀ e s', hallO T n (f + 1) w D = Sum.inl e → FC σ s' → CF e s' → ∀ v : Int32, v = nI j + 1 → wX3_read_L50 11 x1 K post (f + 1) 0 v s' := fun e s' he f1 f2 => by
        refine nm_e ?_
        rw [wX3_read_L50]
        exact br_c (fun _ => kf e s' he f1 f2 _ _) (fun _ => br_t rfl (kf e s' he f1 f2 _ _))
      refine qx_readLine (g := D.2) hn hD.1 hS (fun e s' he q1 q2 => br_t rfl (stop e s' ?_ ((fo_fc hF).trans q1) q2)) (fun r s' he q1 hS1 => br_f (by decide) ?_)
      · have he : lnO T n w D = Sum.inl e := he
        rw [ed, he]; rfl
      · have he : lnO T n w D = Sum.inr r := he
        have hok := ln_ok (A := D.1) (g := D.2) hS.2.2.1 hD r he
        refine qx_passSign hS1 (fun c3 s2 f2 hS2 => br_f (by decide) (nm_e ?_)) (fun c3 s2 f2 hf => br_t rfl (stop _ s2 ?_ ((fo_fc (hF.trans q1)).trans f2) hf))
        · have es : smO2 T n (lnO T n w D) = Sum.inr (tokO T n (tT r.1), r.2) := by
            rw [he]; show (if tK r.1 = 3 then _ else _) = _; rw [if_pos c3]
          have hsm := sm_ok (T := T) (n := n) (a := tT w) (q := lnO T n w D) (fun r' hr' => by rw [he] at hr'; have := Sum.inr.inj hr'; rw [← this]; exact hok) _ es
          rw [es] at ed
          rw [nI_1]
          exact qx_lines hn K f _ _ (j + 1) s2 (by omega) (by have : tT w + 1 ≤ tT (tokO T n (tT r.1)) := hsm.2.1; omega) hsm.2.2 hS2 ((hF.trans q1).trans f2) (fun e s' h1 => kf e s' (by rw [ed]; exact h1)) (fun D' s' h1 => ko D' s' (by rw [ed]; exact h1))
        · rw [ed, he]
          show (match (if tK r.1 = 3 then _ else Sum.inl (1, tF r.1) : Sum FT (TK × DR)) with | Sum.inl e => Sum.inl e | Sum.inr q => hallO T n f q.1 q.2) = _
          rw [if_neg c3]
end RdZ
