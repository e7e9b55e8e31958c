/-! ===== hall: the class reads laws and people ===== -/
theorem nb_same {n : Nat} {w : TK} (hg : TG n w) {l mo : Nat} (o : Bool) (h : nbO w l mo 1000 false ≠ 0) : nbO w l mo 1000 o = nbO w l mo 1000 false := by
  have g4 := hg.2.2.2.1
  unfold nbO at h ⊢
  by_cases c : tK w = 2
  · rw [if_pos c] at h
    rw [if_pos c, if_pos c]
    by_cases c1 : 3 < tT w - tF w
    · rw [if_pos c1, if_pos c1]
    · rw [if_neg c1] at h
      rw [if_neg c1, if_neg c1]
      have hv := g4 c (by omega)
      by_cases c2 : tV w < l
      · rw [if_pos c2, if_pos c2]
      · rw [if_neg c2] at h
        rw [if_neg c2, if_neg c2]
        by_cases c3 : mo < tV w
        · rw [if_pos c3, if_pos c3]
        · rw [if_neg c3, if_neg (by decide), if_neg (by omega)] at h; exact absurd rfl h
  · rw [if_neg c, if_neg c]
theorem nb_over {w : TK} {l mo th : Nat} (h : nbO w l mo th false = 0) : nbO w l mo th true = 2 := by
  obtain ⟨h1, h2, h3, h4, _, _⟩ := nb_ok h
  unfold nbO; rw [if_pos h1, if_neg (by omega), if_neg (by omega), if_neg (by omega), if_pos rfl]
section RdY
variable {T : Nat → Nat} {n : Nat} {w : TK} {A : AH} {σ : hsS}
theorem CK.s2 {σ' : hsS} (h : CK w σ) (e : ∀ k, 704 ≤ k → k < 712 → σ'.1 k = σ.1 k) : CK w σ' := ⟨by rw [e _ (by decide) (by decide)]; exact h.1, by rw [e _ (by decide) (by decide)]; exact h.2.1, by rw [e _ (by decide) (by decide)]; exact h.2.2.1, fun z => by rw [e _ (by decide) (by decide)]; exact h.2.2.2 z⟩
theorem qx_toldL {post : Int32 → hsS → Prop} (hn : n ≤ 600) : ∀ (f : Nat) (w : TK) (c : Nat) (tf : Nat → Nat) (s : hsS), c + f = 9 → c ≤ 8 → (c = 0 ∨ tK w = 2) → CS T n w (tolA A c tf) s → FO σ s → (∀ e s', tdO T n f w c tf = Sum.inl e → FC σ s' → CF e s' → post 0 s') → (∀ r s', tdO T n f w c tf = Sum.inr r → FO σ s' → CS T n r.1 (tolA A r.2.1 r.2.2) s' → post 1 s') → wX3_readTold_L18 11 (fun _ σ26 => post (0 : Int32) σ26) (fun _ σ28 => wX3_fail 11 (2 : Int32) (fun r29 σ30 => (r29 = 0 ∨ r29 = 1) ∧ post r29 σ30) σ28) (fun _ σ32 => post (1 : Int32) σ32) post (f + 1) (nI c) s
  | 0, w, c, tf, s, hcf, hc, hkw, hS, hF, kf, ko => by omega
  | f + 1, w, c, tf, s, hcf, hc, hkw, hS, hF, kf, ko => by
    have ed : tdO T n (f + 1) w c tf = (if nbO w 0 9 1000 (decide (c = 8)) ≠ 0 then Sum.inl (nbO w 0 9 1000 (decide (c = 8)), tF w) else if tK (tokO T n (tT w)) = 2 then tdO T n f (tokO T n (tT w)) (c + 1) (fun k => if k = c then tV w else tf k) else Sum.inr (tokO T n (tT w), c + 1, fun k => if k = c then tV w else tf k)) := rfl
    obtain ⟨h1, h2, h3, h4⟩ := hS
    rw [wX3_readTold_L18]
    refine br_f (nI_nlt (a := 8) (by omega) (by decide)) (br_or ?_ ?_)
    · rcases hkw with z | z
      · exact Or.inl (by rw [z]; rfl)
      · exact Or.inr (by rw [h2.1, z]; rfl)
    refine qx_within h3 hn h2 (l := 0) (mo := 9) (by decide) (by decide) (fun hnb => br_f (by decide) ?_) (fun s' hnb f1 f2 => br_t rfl ?_)
    · obtain ⟨c1, c2, _, _, _, _⟩ := nb_ok hnb
      have htc : s.1 (64 * (11 + 2) + 5) = nI c := hx_tc (b := 13) (A := tolA A c tf) h4
      rw [htc, h2.2.2.2 c1]
      refine pk_lt c 8 (fun c3 => ⟨pk_in c 8 (by omega), fun s9 e9 s10 e10 => ?_⟩) (fun c3 => ?_)
      · rw [show decide (c = 8) = false by simp; omega, hnb, if_neg (by decide)] at ed
        rw [nI_clamp (by omega)] at e9
        have htc9 : s9.1 (64 * (11 + 2) + 5) = nI c := by rw [e9]; exact htc
        rw [htc9, nI_1] at e10
        have f10 : FO s s10 := by rw [e10, e9]; exact (FRm.arr _ (by decide)).trans (FRm.int _ (by decide))
        have a16 : s10.2.1 16 = upd (s.2.1 16) c (nI (tV w)) := by rw [e10, e9]; exact hsA_at _ _ _
        have r16 : ∀ q, q ≠ 16 → s10.2.1 q = s.2.1 q := fun q hq => by rw [e10, e9]; exact hsA_ne _ _ hq
        have hx10 : HX 13 (tolA A (c + 1) (fun k => if k = c then tV w else tf k)) s10 := by
          refine ⟨fun k hk => ?_, fun p hp => by rw [r16 _ (by decide)]; exact hx_w h4 hp, fun p t hp ht => by rw [r16 _ (by decide), tolA_P]; have := hx_p h4 hp ht; rw [tolA_P] at this; exact this, fun k hk => ?_, fun k hk => by rw [r16 _ (by decide)]; exact hx_u h4 hk⟩
          · show s10.1 (64 * 13 + k) = nI (if k = 3 then 2 else if k = 5 then c + 1 else A.1 k)
            have hk0 : s.1 (64 * 13 + k) = nI (if k = 3 then 2 else if k = 5 then c else A.1 k) := h4.1 k hk
            rcases Nat.decEq k 5 with z | z
            · rw [if_neg z] at hk0 ⊢
              rw [e10, hsI_ne _ _ (by omega), e9]; exact hk0
            · rw [if_neg (by omega), if_pos z, z, e10]; exact hsI_at _ _ _
          · show s10.2.1 16 k = nI (if k = c then tV w else tf k)
            have hk : k < c + 1 := hk
            rw [a16]
            rcases Nat.decEq k c with z | z
            · rw [pk_un z, if_neg z]; exact hx_t h4 (k := k) (by show k < c; omega)
            · rw [z, pk_us, if_pos rfl]
        have hS10 : CS T n w (tolA A (c + 1) (fun k => if k = c then tV w else tf k)) s10 := ⟨cl_fo h1 f10, h2.s2 (fun k h704 h712 => by rw [e10, hsI_ne _ _ (by omega), e9]; rfl), h3, hx10⟩
        refine qx_nextS hS10 (fun s11 f11 h11 => nm_e ?_)
        rw [nI_1]
        have F11 : FO σ s11 := (hF.trans f10).trans f11
        by_cases c5 : tK (tokO T n (tT w)) = 2
        · rw [if_pos c5] at ed
          rw [ed] at kf ko
          exact qx_toldL hn f _ (c + 1) _ s11 (by omega) (by omega) (Or.inr c5) h11 F11 kf ko
        · rw [if_neg c5] at ed
          rw [wX3_readTold_L18]
          have fin := ko _ s11 ed F11 h11
          refine br_c (fun _ => fin) (fun _ => br_f (nI_ne0 (by omega) (by omega)) (br_f (fun z => c5 ?_) fin))
          rw [h11.2.1.1] at z
          have := h11.2.2.1.2.2.1
          exact (nI_eq (b := 2) (by omega) (by decide)).mp z
      · have hc8 : c = 8 := by omega
        rw [show decide (c = 8) = true by simp [hc8], nb_over hnb, if_pos (by decide)] at ed
        exact qx_failS h2 (x := 2) (fun s' f1 f2 => ⟨Or.inl rfl, kf _ s' ed ((fo_fc hF).trans f1) f2⟩)
    · rw [nb_same h3 _ hnb, if_pos hnb] at ed
      exact kf _ s' ed ((fo_fc hF).trans f1) f2
/-- behind 'law' -/
theorem qx_readLaw (hn : n ≤ 600) (hS : CS T n w A σ) {g : Nat → Nat → Nat} {post : Int32 → hsS → Prop} (kf : ∀ e s', lwO T n w (A, g) = Sum.inl e → FC σ s' → CF e s' → post 0 s') (ko : ∀ r s', lwO T n w (A, g) = Sum.inr r → FO σ s' → CS T n r.1 r.2.1 s' → post 1 s') : wX3_readLaw 11 post σ := by
  have hS0 := hS
  obtain ⟨h1, h2, h3, h4⟩ := hS
  unfold lwO at kf ko
  dsimp only at kf ko
  refine qx_wd hS0 (by decide) (b2_br (fun w7 => qx_wd hS0 (by decide) (b2_br (fun w8 => qx_wd hS0 (by decide) (b2_br (fun w9 => ?_) (fun w9 => ?_))) (fun w8 => ?_))) (fun w7 => fun s1 e1 => ?_))
  · rw [w7, w8, w9, if_neg (by decide), if_neg (by decide), if_neg (by decide)] at kf
    exact qx_failS h2 (x := 1) (fun s' f1 f2 => ⟨Or.inl rfl, kf _ s' rfl f1 f2⟩)
  · rw [w7, w8, w9, if_neg (by decide), if_neg (by decide), if_pos rfl] at kf ko
    refine qx_nextS hS0 (fun s1 f1 hS1 => fun s2 e2 s3 e3 => ?_)
    obtain ⟨i1, i2, i3, i4⟩ := hS1
    have f3 : FO s1 s3 := by rw [e3, e2]; exact (FRm.int _ (by decide)).trans (FRm.int _ (by decide))
    have hx3 : HX 13 (tolA A 0 (fun _ => 0)) s3 := by
      have ha : s3.2.1 = s1.2.1 := by rw [e3, e2]; rfl
      refine ⟨fun k hk => ?_, fun p hp => by rw [ha]; exact hx_w i4 hp, fun p t hp ht => by rw [ha, tolA_P]; exact hx_p i4 hp ht, fun k hk => absurd hk (Nat.not_lt_zero _), fun k hk => by rw [ha]; exact hx_u i4 hk⟩
      show s3.1 (64 * 13 + k) = nI (if k = 3 then 2 else if k = 5 then 0 else A.1 k)
      rcases Nat.decEq k 5 with z | z
      · rcases Nat.decEq k 3 with z3 | z3
        · rw [if_neg z3, if_neg z, e3, hsI_ne _ _ (by omega), e2, hsI_ne _ _ (by omega)]; exact i4.1 k hk
        · rw [if_pos z3, z3, e3, hsI_ne _ _ (by decide), e2]; exact hsI_at _ _ _
      · rw [if_neg (by omega), if_pos z, z, e3]; exact hsI_at _ _ _
    refine ⟨10, qx_toldL (post := fun r14 σ15 => (r14 = 0 ∨ r14 = 1) ∧ post r14 σ15) hn 9 _ 0 (fun _ => 0) s3 rfl (by decide) (Or.inl rfl) ⟨cl_fo i1 f3, i2.s2 (fun k h704 h712 => by rw [e3, hsI_ne _ _ (by omega), e2, hsI_ne _ _ (by omega)]), i3, hx3⟩ (f1.trans f3) (fun e s' he q1 q2 => ⟨Or.inl rfl, kf e s' ?_ q1 q2⟩) (fun r s' he q1 q2 => ⟨Or.inr rfl, ko (r.1, tolA A r.2.1 r.2.2, g) s' ?_ q1 q2⟩)⟩
    · rw [he]
    · rw [he]
  · rw [w7, w8, if_neg (by decide), if_pos rfl] at kf ko
    refine qx_nextS hS0 (fun s1 f1 hS1 => ?_)
    obtain ⟨i1, i2, i3, i4⟩ := hS1
    refine qx_within i3 hn i2 (l := 1) (mo := 999) (by decide) (by decide) (fun hnb => br_f (by decide) (fun s2 e2 s3 e3 => ?_)) (fun s' hnb g1 g2 => br_t rfl ⟨Or.inl rfl, kf _ s' (by rw [if_pos hnb]) ((fo_fc f1).trans g1) g2⟩)
    obtain ⟨c1, c2, _, _, _, _⟩ := nb_ok hnb
    have v2 : s2.1 (64 * 11 + 7) = nI (tV (tokO T n (tT w))) := by rw [e2, hsI_ne _ _ (by decide)]; exact i2.2.2.2 c1
    rw [v2] at e3
    have f3 : FO s1 s3 := by rw [e3, e2]; exact (FRm.int _ (by decide)).trans (FRm.int _ (by decide))
    have hx3 : HX 13 (stpA A (tV (tokO T n (tT w)))) s3 := by
      have ha : s3.2.1 = s1.2.1 := by rw [e3, e2]; rfl
      refine ⟨fun k hk => ?_, fun p hp => by rw [ha]; exact hx_w i4 hp, fun p t hp ht => by rw [ha]; exact hx_p i4 hp ht, fun k hk => by rw [ha]; exact hx_t i4 hk, fun k hk => by rw [ha]; exact hx_u i4 hk⟩
      show s3.1 (64 * 13 + k) = nI (if k = 3 then 1 else if k = 4 then tV (tokO T n (tT w)) else A.1 k)
      rcases Nat.decEq k 4 with z | z
      · rcases Nat.decEq k 3 with z3 | z3
        · rw [if_neg z3, if_neg z, e3, hsI_ne _ _ (by omega), e2, hsI_ne _ _ (by omega)]; exact i4.1 k hk
        · rw [if_pos z3, z3, e3, hsI_ne _ _ (by decide), e2]; exact hsI_at _ _ _
      · rw [if_neg (by omega), if_pos z, z, e3]; exact hsI_at _ _ _
    refine qx_nextS (A := stpA A (tV (tokO T n (tT w)))) ⟨cl_fo i1 f3, i2.s2 (fun k h704 h712 => by rw [e3, hsI_ne _ _ (by omega), e2, hsI_ne _ _ (by omega)]), i3, hx3⟩ (fun s4 f4 hS4 => ⟨Or.inr rfl, ko (tokO T n (tT (tokO T n (tT w))), stpA A (tV (tokO T n (tT w))), g) s4 ?_ ((f1.trans f3).trans f4) hS4⟩)
    rw [if_neg (by rw [hnb]; decide)]
  · rw [w7, if_pos rfl] at ko
    have f1 : FO σ s1 := by rw [e1]; exact FRm.int _ (by decide)
    have hx1 : HX 13 (lawA A 0) s1 := by
      have ha : s1.2.1 = σ.2.1 := by rw [e1]; rfl
      refine ⟨fun k hk => ?_, fun p hp => by rw [ha]; exact hx_w h4 hp, fun p t hp ht => by rw [ha]; exact hx_p h4 hp ht, fun k hk => by rw [ha]; exact hx_t h4 hk, fun k hk => by rw [ha]; exact hx_u h4 hk⟩
      show s1.1 (64 * 13 + k) = nI (if k = 3 then 0 else A.1 k)
      rcases Nat.decEq k 3 with z | z
      · rw [if_neg z, e1, hsI_ne _ _ (by omega)]; exact h4.1 k hk
      · rw [if_pos z, z, e1]; exact hsI_at _ _ _
    exact qx_nextS (A := lawA A 0) ⟨cl_fo h1 f1, h2.s2 (fun k h704 h712 => by rw [e1, hsI_ne _ _ (by omega)]), h3, hx1⟩ (fun s2 f2 hS2 => ko _ s2 rfl (f1.trans f2) hS2)
/-! orders -/
theorem addA_hx {wv : Nat} {nm : Bool} {pf pf' : Nat → Nat} (h : HX 13 (addA A wv nm pf) σ) (e : ∀ t, t < aM A → pf t = pf' t) : HX 13 (addA A wv nm pf') σ := by
  obtain ⟨h1, h2, h3, h4, h5⟩ := h
  refine ⟨h1, h2, fun p t hp ht => ?_, h4, h5⟩
  have := h3 p t hp ht
  rw [addA_P] at this ⊢
  rw [this]
  split
  · rw [e t ht]
  · rfl
theorem qx_putOrd {wv x t : Nat} {nm : Bool} {pf : Nat → Nat} (hm : aM A ≤ 9) (hN : aN A < 8) (ht : t < 9) (h : HX 13 (addA A wv nm pf) σ) {post : hsS → Prop} (k : ∀ s, FRm [] [15] σ s → HX 13 (addA A wv nm (fun q => if q = t then x else pf q)) s → post s) : wX1_putPlace (11 + 2) (nI (aN A)) (nI t) (nI x) post σ := by
  refine qx_putRaw (b := 13) (by omega) (fun S hS => ?_)
  have hat : S.2.1 15 = upd (σ.2.1 15) (9 * aN A + t) (nI x) := by rw [hS]; exact hsA_at _ _ _
  have hF : FRm [] [15] σ S := by rw [hS]; exact FRm.arr _ (by decide)
  refine k S hF ⟨fun q hq => by rw [hF.1 _ (by simp)]; exact h.1 q hq, fun q hq => by rw [hF.2.1 _ (by decide)]; exact h.2.1 q hq, fun q r hq hr => ?_, fun q hq => by rw [hF.2.1 _ (by decide)]; exact h.2.2.2.1 q hq, fun q hq => by rw [hF.2.1 _ (by decide)]; exact h.2.2.2.2 q hq⟩
  have hr : r < aM A := hr
  have h0 := h.2.2.1 q r hq hr
  rw [addA_P] at h0 ⊢
  show S.2.1 15 (9 * q + r) = _
  rw [hat]
  rcases Nat.decEq q (aN A) with z | z
  · rw [if_neg z] at h0 ⊢
    rw [pk_un (by omega)]; exact h0
  · rw [if_pos z] at h0 ⊢
    rcases Nat.decEq r t with y | y
    · rw [if_neg y, pk_un (by omega)]; exact h0
    · rw [if_pos y, z, y, pk_us]
theorem qx_newThing (hn : n ≤ 600) {tk : Nat} (hm : aM A ≤ 9) (htk : tk < 2 ^ aM A) (hS : CS T n w A σ) {post : Int32 → hsS → Prop} (k1 : nbO w 0 999 (aM A) false = 0 → tk.testBit (tV w) = false → post 1 σ) (k0 : ∀ e s, (nbO w 0 999 (aM A) false ≠ 0 → e = (nbO w 0 999 (aM A) false, tF w)) → (nbO w 0 999 (aM A) false = 0 → tk.testBit (tV w) = true ∧ e = (4, tF w)) → FC σ s → CF e s → post 0 s) : wX3_atNewThing 11 (nI tk) post σ := by
  obtain ⟨h1, h2, h3, h4⟩ := hS
  have hm9 : 2 ^ aM A ≤ 2 ^ 9 := Nat.pow_le_pow_right (by decide) hm
  refine qx_atNumber h3 hn h2 (fun c c2 => br_f (by decide) ?_) (fun s c f1 f2 => br_t rfl (k0 _ s (fun _ => ?_) (fun z => ?_) f1 f2))
  · have hv := h3.2.2.2.1 c c2
    have hmm : σ.1 (64 * (11 + 2) + 0) = nI (aM A) := hx_m (b := 13) h4
    rw [hmm, h2.2.2.2 c]
    refine pk_lt (tV w) (aM A) (fun c3 => ek_if (qb_test0 (by omega) (by omega)) (fun c4 => k1 ?_ c4) (fun c4 => qx_failS h2 (x := 4) (fun s f1 f2 => br_t rfl (k0 _ s (fun z => absurd ?_ z) (fun _ => ⟨ts_nf c4, rfl⟩) f1 f2)))) (fun c3 => qx_failS h2 (x := 3) (fun s f1 f2 => ⟨Or.inl rfl, k0 _ s (fun _ => ?_) (fun z => ?_) f1 f2⟩))
    · unfold nbO; rw [if_pos c, if_neg (by omega), if_neg (by omega), if_neg (by omega), if_neg (by decide), if_neg (by omega)]
    · unfold nbO; rw [if_pos c, if_neg (by omega), if_neg (by omega), if_neg (by omega), if_neg (by decide), if_neg (by omega)]
    · have : nbO w 0 999 (aM A) false = 3 := by unfold nbO; rw [if_pos c, if_neg (by omega), if_neg (by omega), if_neg (by omega), if_neg (by decide), if_pos c3]
      rw [this]
    · have : nbO w 0 999 (aM A) false = 3 := by unfold nbO; rw [if_pos c, if_neg (by omega), if_neg (by omega), if_neg (by omega), if_neg (by decide), if_pos c3]
      rw [this] at z; exact absurd z (by decide)
  · have : nbO w 0 999 (aM A) false = if tK w = 2 then 2 else 1 := by
      unfold nbO
      by_cases c3 : tK w = 2
      · rw [if_pos c3, if_pos c3, if_pos (Nat.lt_of_not_le (fun z => c ⟨c3, z⟩))]
      · rw [if_neg c3, if_neg c3]
    rw [this]
  · obtain ⟨q1, q2, _⟩ := nb_ok z
    exact absurd ⟨q1, q2⟩ c
theorem qx_orderL {wv : Nat} {nm : Bool} (hn : n ≤ 600) (hm : aM A ≤ 9) (hN : aN A < 8) {post : Int32 → hsS → Prop} (K39 K112 : Int32 → Int32 → Int32 → Int32 → hsS → Prop) : ∀ (f : Nat) (w0 : TK) (tk pl gi : Nat) (pf gf : Nat → Nat) (s : hsS) (pf0 : Nat → Nat), qs_sz tk + f = 10 → OI (aM A) tk gi pf gf → pl = fb_ct (fun k => tk.testBit k && decide (gf k < gi)) (aM A) → CS T n w0 (addA A wv nm pf0) s → (∀ t, t < aM A → tk.testBit t = true → pf0 t = pf t) → FO σ s → (∀ e s', lkO T n (aM A) f (tokO T n (tT w0)) tk pl gi pf gf = Sum.inl e → FC σ s' → CF e s' → ∀ y z u v, K39 y z u v s') → (∀ r s' pf1, lkO T n (aM A) f (tokO T n (tT w0)) tk pl gi pf gf = Sum.inr r → FO σ s' → CS T n r.1 (addA A wv nm pf1) s' → (∀ t, t < aM A → r.2.1.testBit t = true → pf1 t = r.2.2.2.1 t) → ∀ z u v, K112 (nI r.2.1) z u v s') → wX3_readOrder_L15 11 (nI (aN A)) K39 K112 post (f + 1) (nI tk) (nI pl) 1 (nI (qs_sz tk)) s
  | 0, w0, tk, pl, gi, pf, gf, s, pf0, hf, ho, hp, hS, hpf, hF, kf, ko => by
    have := qs_sz_lt (by omega) ho.1
    omega
  | f + 1, w0, tk, pl, gi, pf, gf, s, pf0, hf, ho, hp, hS, hpf, hF, kf, ko => by
    have hszl := qs_sz_lt (by omega) ho.1
    have hm9 : 2 ^ aM A ≤ 2 ^ 9 := Nat.pow_le_pow_right (by decide) hm
    rw [wX3_readOrder_L15]
    refine br_f (nI_nlt (a := 9) (by omega) (by decide)) (br_f (by decide) (qx_nextS hS (fun s1 f1 hS1 => ?_)))
    have F1 := hF.trans f1
    generalize tokO T n (tT w0) = w at kf ko hS1
    have ed : lkO T n (aM A) (f + 1) w tk pl gi pf gf = (if nbO w 0 999 (aM A) false ≠ 0 then Sum.inl (nbO w 0 999 (aM A) false, tF w) else if tk.testBit (tV w) = true then Sum.inl (4, tF w) else if wdO T (tokO T n (tT w)) 4 = true then lkO T n (aM A) f (tokO T n (tT (tokO T n (tT w)))) (tk ||| 2 ^ tV w) (qs_sz (tk ||| 2 ^ tV w)) (gi + 1) (fun t => if t = tV w then pl else pf t) (fun t => if t = tV w then gi else gf t) else if wdO T (tokO T n (tT w)) 5 = true then lkO T n (aM A) f (tokO T n (tT (tokO T n (tT w)))) (tk ||| 2 ^ tV w) pl gi (fun t => if t = tV w then pl else pf t) (fun t => if t = tV w then gi else gf t) else Sum.inr (tokO T n (tT w), tk ||| 2 ^ tV w, gi, fun t => if t = tV w then pl else pf t, fun t => if t = tV w then gi else gf t)) := rfl
    refine qx_newThing (A := addA A wv nm pf0) hn hm ho.1 hS1 (fun hnb hbt => br_f (by decide) ?_) (fun e s' q1 q2 g1 g2 => br_t rfl (kf e s' ?_ ((fo_fc F1).trans g1) g2 _ _ _ _))
    · have hnb : nbO w 0 999 (aM A) false = 0 := hnb
      obtain ⟨c1, c2, _, _, _, hv⟩ := nb_ok hnb
      rw [if_neg (by rw [hnb]; decide), if_neg (by rw [hbt]; decide)] at ed
      obtain ⟨j1, j2, j3, j4⟩ := hS1
      rw [j2.2.2.2 c1]
      refine qx_putOrd hm hN (by omega) j4 (fun s2 f2 hx2 => ?_)
      have v7 : s2.1 (64 * 11 + 7) = nI (tV w) := by rw [f2.1 _ (by simp)]; exact j2.2.2.2 c1
      have f2' : FO s1 s2 := f2.weak (by simp) (by decide)
      rw [v7]
      refine nm_r (e' := nI (tk ||| 2 ^ tV w)) (by rw [qb_one _ (by omega), fa_or]) ?_
      obtain ⟨o1, o2⟩ := ho.step hm hv hbt hp
      have hsz := sz_set hm hv hbt
      have htk2 := o1.1
      have hpf2 : ∀ t, t < aM A → (tk ||| 2 ^ tV w).testBit t = true → (if t = tV w then pl else pf0 t) = (if t = tV w then pl else pf t) := fun t ht hb => by
        rcases Nat.decEq t (tV w) with z | z
        · rw [if_neg z, if_neg z]
          rw [fb_bit_set] at hb
          exact hpf t ht (by simpa [z] using hb)
        · rw [if_pos z, if_pos z]
      refine qx_nextS (A := addA A wv nm (fun q => if q = tV w then pl else pf0 q)) ⟨cl_fo j1 f2', j2.s2 (fun k _ _ => f2.1 _ (by simp)), j3, hx2⟩ (fun s3 f3 hS3 => ?_)
      have F3 := (F1.trans f2').trans f3
      refine qx_wd hS3 (by decide) (b2_br (fun w4 => qx_wd hS3 (by decide) ?_) (fun w4 => qx_bitCount (by omega) (qx_wd hS3 (by decide) ?_)))
      · rw [w4]
        rw [w4, if_neg (by decide)] at ed
        refine br_t rfl (qx_wd hS3 (by decide) (b2_br (fun w5 => nm_e ?_) (fun w5 => nm_e ?_)))
        · rw [w5, if_neg (by decide)] at ed
          have fin := ko _ s3 _ ed F3 hS3 hpf2
          rw [wX3_readOrder_L15]
          exact br_c (fun _ => fin _ _ _) (fun _ => br_t rfl (fin _ _ _))
        · rw [w5, if_pos rfl] at ed
          rw [ed] at kf ko
          rw [nI_1, ← hsz]
          exact qx_orderL hn hm hN K39 K112 f _ _ _ _ _ _ s3 _ (by omega) o1 o2 hS3 hpf2 F3 kf ko
      · rw [w4]
        rw [w4, if_pos rfl] at ed
        rw [ed] at kf ko
        refine br_f (by decide) (nm_e ?_)
        rw [nI_1, ← hsz]
        have hgi := ho.2.1
        obtain ⟨o3, o4⟩ := o1.over hm (by omega)
        exact qx_orderL hn hm hN K39 K112 f _ _ _ _ _ _ s3 _ (by omega) o3 o4 hS3 hpf2 F3 kf ko
    · by_cases c : nbO w 0 999 (aM A) false ≠ 0
      · rw [ed, if_pos c, q1 c]; rfl
      · have q3 := q2 (Classical.not_not.mp c)
        rw [ed, if_neg c, if_pos q3.1, q3.2]
theorem qx_orderFill {wv tk : Nat} {nm : Bool} {pf pf0 : Nat → Nat} (hm : aM A ≤ 9) (hN : aN A < 8) (htk : tk < 2 ^ aM A) (h : HX 13 (addA A wv nm pf0) σ) (hpf : ∀ t, t < aM A → tk.testBit t = true → pf0 t = pf t) {z3 z4 : Int32} {post : Int32 → hsS → Prop} (K : Int32 → hsS → Prop) (k : ∀ s, FRm [] [15] σ s → HX 13 (addA A wv nm (ordP tk pf)) s → ∀ z, K z s) : ∃ f, wX3_readOrder_L115 11 (nI (aN A)) (nI tk) z3 z4 K post f 0 σ := by
  have hm9 : 2 ^ aM A ≤ 2 ^ 9 := Nat.pow_le_pow_right (by decide) hm
  refine pk_loop (fun f j (s : hsS) => wX3_readOrder_L115 11 (nI (aN A)) (nI tk) z3 z4 K post f (nI j) s) (fun j s => FRm [] [15] σ s ∧ ∃ pf1, HX 13 (addA A wv nm pf1) s ∧ (∀ t, t < aM A → tk.testBit t = true → pf1 t = pf t) ∧ ∀ t, t < j → tk.testBit t = false → pf1 t = qs_sz tk) (aM A) 0 σ (Nat.zero_le _) ⟨FRm.rf, pf0, h, hpf, fun t ht => absurd ht (Nat.not_lt_zero _)⟩ ?_ ?_
  · intro f s e
    obtain ⟨e1, pf1, e2, e3, e4⟩ := e
    rw [wX3_readOrder_L115]
    refine br_t (by rw [show s.1 (64 * (11 + 2) + 0) = nI (aM A) from hx_m (b := 13) (A := addA A wv nm pf1) e2]; exact nI_le (Nat.le_refl _) (by omega)) (k s e1 (addA_hx e2 (fun t ht => ?_)) _)
    unfold ordP
    cases hb : tk.testBit t with
    | true => rw [if_pos rfl]; exact e3 t ht hb
    | false => rw [if_neg (by decide)]; exact e4 t ht hb
  · intro f j s hj e ih
    obtain ⟨e1, pf1, e2, e3, e4⟩ := e
    rw [wX3_readOrder_L115]
    refine br_f (by rw [show s.1 (64 * (11 + 2) + 0) = nI (aM A) from hx_m (b := 13) (A := addA A wv nm pf1) e2]; exact nI_ge hj (by omega)) (ek_if (qb_test0 (by omega) (by omega)) (fun c => qx_bitCount (by omega) (qx_putOrd hm hN (by omega) e2 (fun s2 f2 x2 => nm_e ?_))) (fun c => nm_e ?_))
    · rw [nI_1]
      refine ih s2 ⟨e1.trans f2, _, x2, fun t ht hb => ?_, fun t ht hb => ?_⟩
      · show (if t = j then qs_sz tk else pf1 t) = pf t
        rw [if_neg (fun z => by rw [z, c] at hb; exact absurd hb (by decide))]; exact e3 t ht hb
      · show (if t = j then qs_sz tk else pf1 t) = qs_sz tk
        rcases Nat.decEq t j with z | z
        · rw [if_neg z]; exact e4 t (by omega) hb
        · rw [if_pos z]
    · rw [nI_1]
      refine ih s ⟨e1, pf1, e2, e3, fun t ht hb => ?_⟩
      rcases Nat.decEq t j with z | z
      · exact e4 t (by omega) hb
      · rw [z] at hb; exact absurd hb c
end RdY
