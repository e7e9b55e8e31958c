/-! ===== calls: rows told, holders ===== -/
def tkO (x : Int64) (j : Nat) : Nat := ((x >>> (((4 : Int32) * nI j).toInt64 &&& 63)).toInt32).toBitVec.toNat % 2 ^ 4
theorem tkO_eq (x : Int64) (j : Nat) : skO x j = nI (tkO x j) := pk_and _ 4 (by decide)
theorem tkO_lt (x : Int64) (j : Nat) : tkO x j < 16 := Nat.mod_lt _ (by decide)
theorem qx_sk {σ : hsS} {x : Int64} {j : Nat} {post : Int32 → hsS → Prop} (k : post (skO x j) σ) : wX0_strikeIn x (nI j) post σ := k
section OpE
variable {A : AH} {g : Nat → Nat → Nat} {v i : Nat} {σx σm : hsS}
theorem RB.board (h : RB A g v i σx σm) {s t : hsS} (hx1 : ∀ k, k ∉ [1922] → s.1 k = σx.1 k) (hx2 : ∀ k, k ∉ [31, 33, 34] → s.2.1 k = σx.2.1 k) (hg : FRm [0, 52] [27, 28, 29, 30] σm t) (hB : ∃ rc mn th, BD (aM A) (aNt A) rc mn th (s.1 1922) (t.1 52) (s.2.1 31) (t.2.1 27) (s.2.2 32) (t.2.1 28) ∧ HD (aM A) rc (s.2.1 33) (s.2.1 34) (t.2.1 29) (t.2.1 30)) : RR (i + 6) s t := by
  obtain ⟨⟨h1, h2, h3, h4⟩, ⟨h5, h5a, h5b, h5c, h5d, h5e⟩, ⟨h6, h7⟩, h8, h9, ⟨h10, h11, h12⟩, h13, h14, h15⟩ := h
  have hX : HX 1 A s := by
    obtain ⟨k1, k2, k3, k4, k5⟩ := h3
    refine ⟨fun k hk => ?_, fun p hp => ?_, fun p t hp ht => ?_, fun k hk => ?_, fun k hk => ?_⟩
    · rw [hx1 _ (by simp; omega)]; exact k1 k hk
    · rw [hx2 (1 + 1) (by decide)]; exact k2 p hp
    · rw [hx2 (1 + 2) (by decide)]; exact k3 p t hp ht
    · rw [hx2 (1 + 3) (by decide)]; exact k4 k hk
    · rw [hx2 (1 + 4) (by decide)]; exact k5 k hk
  refine ⟨A, g, v, ⟨h1, h2, hX, h4.fr hg (by decide)⟩, ⟨?_, by omega, ?_, ?_, ?_, ?_⟩, ⟨?_, ?_⟩, hB, ?_, ⟨?_, ?_, ?_⟩, ?_, ?_, ?_⟩
  · rw [hg.1 12 (by decide)]; exact h5
  · rw [hg.1 28 (by decide)]; exact h5b
  · rw [hg.1 36 (by decide)]; exact h5c
  · rw [hg.1 39 (by decide)]; exact h5d
  · rw [hg.1 50 (by decide)]; exact h5e
  · rw [hx1 706 (by decide), hx2 12 (by decide), hg.1 14 (by decide), hg.2.1 12 (by decide)]; exact h6
  · rw [hx1 713 (by decide), hg.1 23 (by decide)]; exact h7
  · rw [hx2 22 (by decide)]; exact h9
  · rw [hx1 1473 (by decide), hx1 1474 (by decide), hx1 1475 (by decide)]; exact h10
  · rw [hg.1 36 (by decide), hg.1 12 (by decide), hg.1 33 (by decide), hg.1 34 (by decide), hg.1 35 (by decide)]; exact h11
  · rw [hg.1 39 (by decide), hg.1 12 (by decide), hg.2.1 18 (by decide), hg.2.1 19 (by decide)]; exact h12
  · exact h13.fr hg (by decide) (by decide) (by decide) (by decide) (by decide)
  · rw [hx1 1604 (by decide), hx1 1605 (by decide), hx1 1606 (by decide), hx1 1607 (by decide), hx2 26 (by decide), hx2 27 (by decide), hx2 28 (by decide)]; exact h14
  · rw [hg.1 50 (by decide), hg.1 12 (by decide), hg.1 47 (by decide), hg.1 48 (by decide), hg.1 49 (by decide), hg.1 51 (by decide), hg.2.1 22 (by decide), hg.2.1 24 (by decide), hg.2.1 25 (by decide)]; exact h15
theorem op_28 (a1 : Int32) (a2 : Int64) (h : RR i σx σm) : lo_28 a1 a2 (RR (i + 6)) σx σm := by
  obtain ⟨A, g, v, h⟩ := h
  unfold lo_28 wX7_row
  have ha := rb_aw h; have hm := aw_m ha; have hnt := aw_nt ha
  obtain ⟨rc, mn, th, ⟨b1, b2, b3, b4⟩, hh⟩ := rb_bd h
  have hno : ∀ S : hsS, FRm [0] [] σm S → RR (i + 6) σx S := fun S hS => h.m hS
  have e70 := rb_x70 h
  rcases ix_of a1 (n := aNt A + 1) (by omega) with z | ⟨c, hc, rfl⟩
  · have hmod : wX8_row a1 a2 (fun bb σm1 => (-1 : Int32) = bb ∧ RR (i + 6) σx σm1) σm := by
      intro S hS
      obtain ⟨h1, h2⟩ := m0 hS
      have hM := (rb_mh h).fr h1 (by decide)
      refine pk_eq rc 12 (fun c => ⟨rfl, hno S h1⟩) (fun c => ?_) (by rw [h1.1 52 (by decide)]; exact b3)
      refine qm_inNo (n := aNt A + 1) (by omega) (by rw [mh_nt hM, nI_pred]) z (br_t rfl ⟨rfl, hno S h1⟩)
    refine br_c (fun c => hmod) (fun c => ?_)
    rw [e70]
    refine br_c (fun c2 => hmod) (fun c2 => ?_)
    rcases z with z | z
    · exact absurd z c
    · exfalso; apply c2
      rw [Int32.lt_iff_toInt_lt, nI_toInt (by omega)]
      rw [Int32.le_iff_toInt_le, nI_toInt (by omega)] at z
      omega
  · refine br_f (nI_pos (by omega)) ?_
    rw [e70]
    refine br_f (nI_nlt (by omega) (by omega)) (pk_lt rc 12 (fun cr => ?_) (fun cr => ?_) b2 rfl)
    · have hmod : ∀ (r : Int32) (s : hsS) (ok : Prop) (_ : ok ∨ ¬ ok), (ok ↔ ∀ j, j < c → tkO a2 j < aM A) → (ok → r = nI rc ∧ (∀ k, k ∉ [1922] → s.1 k = σx.1 k) ∧ (∀ k, k ∉ [31, 33, 34] → s.2.1 k = σx.2.1 k) ∧ s.1 1922 = nI (rc + 1) ∧ s.2.1 31 = upd (σx.2.1 31) rc (nI c) ∧ s.2.2 32 = vp_updL (σx.2.2 32) rc a2 ∧ s.2.1 33 = σx.2.1 33 ∧ s.2.1 34 = σx.2.1 34) → (¬ ok → r = -1 ∧ s = σx) → wX8_row (nI c) a2 (fun bb σm1 => r = bb ∧ RR (i + 6) s σm1) σm := fun r s ok hem hok k1 k2 => by
        intro S hS
        obtain ⟨h1, h2⟩ := m0 hS
        have hM := (rb_mh h).fr h1 (by decide)
        refine pk_eq rc 12 (fun c => absurd c (by omega)) (fun _ => ?_) (by rw [h1.1 52 (by decide)]; exact b3)
        refine qm_in (n := aNt A + 1) (by omega) (by rw [mh_nt hM, nI_pred]) hc (br_f (by decide) ?_)
        refine pk_loop (fun n j (q : hsS) => wX8_row_L33 (nI c) a2 _ _ _ n (nI j) q) (fun j q => FRm [] [28] S q ∧ (∀ y, y < j → tkO a2 y < aM A ∧ q.2.1 28 (9 * rc + y) = nI (tkO a2 y)) ∧ ∀ y, (∀ w, w < 9 → y ≠ 9 * rc + w) → q.2.1 28 y = σm.2.1 28 y) c 0 S (Nat.zero_le _) ⟨FRm.rf, fun y hy => absurd hy (Nat.not_lt_zero _), fun y _ => by rw [h1.2.1 28 (by decide)]⟩ ?_ ?_
        · intro n q e
          obtain ⟨e1, e2, e3⟩ := e
          rw [wX8_row_L33]
          have hk : ok := hok.mpr (fun j hj => (e2 j hj).1)
          obtain ⟨r1, r2, r3, r4, r5, r6, r7, r8⟩ := k1 hk
          have q52 : q.1 52 = nI rc := by rw [e1.1 52 (by decide), h1.1 52 (by decide)]; exact b3
          refine br_t (nI_le (Nat.le_refl _) (by omega)) ⟨pk_in rc 12 cr q52, fun T hT T2 hT2 => ?_⟩
          have t27 : T2.2.1 27 = upd (σm.2.1 27) rc (nI c) := by
            rw [hT2]; show T.2.1 27 = _
            rw [hT, hsA_at, q52, nI_clamp (by omega), e1.2.1 27 (by decide), h1.2.1 27 (by decide)]
          have t52 : T2.1 52 = nI (rc + 1) := by
            rw [hT2, hsI_at, hT]; show q.1 52 + 1 = _
            rw [q52, nI_1]
          have t28 : T2.2.1 28 = q.2.1 28 := by rw [hT2, hT]; rfl
          refine ⟨by rw [t52, r1, nI_pred], h.board r2 r3 ?_ ⟨rc + 1, fun y => if y = rc then c else mn y, fun y w => if y = rc then tkO a2 w else th y w, ⟨by omega, r4, t52, fun y hy => ?_⟩, ?_⟩⟩
          · rw [hT2, hT]
            exact (((h1.weak (by decide) (by decide)).trans (e1.weak (by decide) (by decide))).trans (FRm.arr _ (by decide))).trans (FRm.int _ (by decide))
          · rw [r5, r6, t27, t28]
            rcases Nat.decEq y rc with zz | zz
            · obtain ⟨p1, p2, p3, p4⟩ := b4 y (by omega)
              dsimp only
              rw [if_neg zz, pk_un zz, pk_un zz, pk_uLn zz]
              refine ⟨p1, p2, p3, fun w hw => ?_⟩
              obtain ⟨p5, p6, p7⟩ := p4 w hw
              rw [if_neg zz]
              exact ⟨p5, p6, by rw [e3 _ (fun u hu => by omega)]; exact p7⟩
            · subst zz
              dsimp only
              rw [if_pos rfl, pk_us, pk_us, pk_uLs]
              refine ⟨by omega, rfl, rfl, fun w hw => ?_⟩
              rw [if_pos rfl]
              exact ⟨(e2 w hw).1, tkO_eq _ _, (e2 w hw).2⟩
          · have t29 : T2.2.1 29 = σm.2.1 29 := by
              rw [hT2]; show T.2.1 29 = _
              rw [hT, hsA_ne _ _ (by decide), e1.2.1 29 (by decide), h1.2.1 29 (by decide)]
            have t30 : T2.2.1 30 = σm.2.1 30 := by
              rw [hT2]; show T.2.1 30 = _
              rw [hT, hsA_ne _ _ (by decide), e1.2.1 30 (by decide), h1.2.1 30 (by decide)]
            rw [r7, r8, t29, t30]
            intro y hy
            rcases hh y hy with w | ⟨n, w1, w2⟩ | ⟨n, w1, w2⟩
            · exact Or.inl w
            · exact Or.inr (Or.inl ⟨n, w1, w2⟩)
            · exact Or.inr (Or.inr ⟨n, by omega, w2⟩)
        · intro n j q hj e ih
          obtain ⟨e1, e2, e3⟩ := e
          rw [wX8_row_L33]
          have hMq := hM.fr e1 (by decide)
          have q52 : q.1 52 = nI rc := by rw [e1.1 52 (by decide), h1.1 52 (by decide)]; exact b3
          refine br_f (nI_ge hj (by omega)) (nm_r (tkO_eq a2 j) ?_)
          rcases Nat.lt_or_ge (tkO a2 j) (aM A) with zz | zz
          · refine qm_thing (mh_m hMq) (by omega) zz (br_f (by decide) ?_)
            have ei : (9 : Int32) * q.1 52 + nI j = nI (9 * rc + j) := by rw [q52, show (9 : Int32) = nI 9 from rfl, pk_mul, nI_add]
            refine ⟨pk_in (9 * rc + j) 108 (by omega) ei, nm_e (nm_e ?_)⟩
            rw [ei, nI_1, nI_clamp (by omega)]
            refine ih _ ⟨e1.trans (FRm.arr _ (by decide)), fun y hy => ?_, fun y hy => ?_⟩
            · rw [hsA_at]
              rcases Nat.decEq y j with w | w
              · rw [pk_un (by omega)]; exact e2 y (by omega)
              · subst w; exact ⟨zz, pk_us⟩
            · rw [hsA_at, pk_un (hy j (by omega))]; exact e3 y hy
          · refine qm_thingNo (mh_m hMq) (by omega) (Or.inr (nI_le zz (by have := tkO_lt a2 j; omega))) (br_t rfl ?_)
            have hk : ¬ ok := fun o => by have := hok.mp o j hj; omega
            obtain ⟨k3, k4⟩ := k2 hk
            subst k4
            refine ⟨k3, h.board (fun _ _ => rfl) (fun _ _ => rfl) ((h1.weak (by decide) (by decide)).trans (e1.weak (by decide) (by decide))) ⟨rc, mn, th, ⟨b1, b2, ?_, fun y hy => ?_⟩, ?_⟩⟩
            · exact q52
            · obtain ⟨p1, p2, p3, p4⟩ := b4 y hy
              refine ⟨p1, p2, by rw [e1.2.1 27 (by decide), h1.2.1 27 (by decide)]; exact p3, fun w hw => ?_⟩
              obtain ⟨p5, p6, p7⟩ := p4 w hw
              exact ⟨p5, p6, by rw [e3 _ (fun u hu => by omega)]; exact p7⟩
            · rw [e1.2.1 29 (by decide), h1.2.1 29 (by decide), e1.2.1 30 (by decide), h1.2.1 30 (by decide)]; exact hh
      refine pk_loop (fun n j (_ : Unit) => wX7_row_L32 (nI c) a2 _ _ _ n (nI j) σx) (fun j _ => ∀ y, y < j → tkO a2 y < aM A) c 0 () (Nat.zero_le _) (fun y hy => absurd hy (Nat.not_lt_zero _)) ?_ ?_
      · intro n _ e
        rw [wX7_row_L32]
        refine br_t (nI_le (Nat.le_refl _) (by omega)) (br_t (by show σx.1 1922 < 12; rw [b2]; exact nI_lt (b := 12) cr (by decide)) ⟨pk_in rc 12 cr b2, fun T1 hT1 => ⟨pk_in rc 12 cr (by rw [hT1]; exact b2), fun T2 hT2 T3 hT3 => ?_⟩⟩)
        have b2' : σx.1 (64 * 30 + 2) = nI rc := b2
        have a1' : T1.1 = σx.1 := by rw [hT1]; rfl
        have a2' : T2.1 = σx.1 := by rw [hT2]; exact a1'
        have t1922 : T3.1 1922 = nI (rc + 1) := by
          rw [hT3]
          show (hsI T2 1922 (T2.1 (64 * 30 + 2) + 1)).1 1922 = _
          rw [hsI_at, a2', b2', nI_1]
        show wX8_row (nI c) a2 (fun bb σm1 => T3.1 1922 - 1 = bb ∧ RR (i + 6) T3 σm1) σm
        rw [t1922, nI_pred]
        refine hmod (nI rc) T3 (∀ j, j < c → tkO a2 j < aM A) (Classical.em _) Iff.rfl (fun _ => ⟨rfl, fun k hk => ?_, fun k hk => ?_, t1922, ?_, ?_, ?_, ?_⟩) (fun hn => absurd e hn)
        · rw [hT3]; show (hsI T2 1922 _).1 k = _
          rw [hsI_ne _ _ (by simpa using hk), a2']
        · rw [hT3]; show T2.2.1 k = _
          rw [hT2]; show T1.2.1 k = _
          rw [hT1]; exact hsA_ne _ _ (fun z => hk (by rw [z]; decide))
        · rw [hT3]; show T2.2.1 31 = _
          rw [hT2]; show T1.2.1 31 = _
          rw [hT1, b2', nI_clamp (by omega)]; exact hsA_at _ _ _
        · have t22 : T1.2.2 = σx.2.2 := by rw [hT1]; rfl
          have t23 : T3.2.2 = va_up T1.2.2 32 (vp_updL (T1.2.2 32) (T1.1 (64 * 30 + 2)).toNatClampNeg a2) := by rw [hT3, hT2]; rfl
          rw [t23, t22, a1', b2', nI_clamp (by omega)]
          unfold va_up; exact if_pos rfl
        · rw [hT3]; show T2.2.1 33 = _
          rw [hT2]; show T1.2.1 33 = _
          rw [hT1]; exact hsA_ne _ _ (by decide)
        · rw [hT3]; show T2.2.1 34 = _
          rw [hT2]; show T1.2.1 34 = _
          rw [hT1]; exact hsA_ne _ _ (by decide)
      · intro n j _ hj e ih
        rw [wX7_row_L32]
        refine br_f (nI_ge hj (by omega)) (qx_sk ?_)
        rw [tkO_eq, rb_x64 h]
        have := tkO_lt a2 j
        refine pk_lt (tkO a2 j) (aM A) (fun zz => nm_r (nI_1 j) (ih () (fun y hy => ?_))) (fun zz => ?_)
        · rcases Nat.lt_or_ge y j with w | w
          · exact e y w
          · have : y = j := by omega
            subst this; exact zz
        · exact hmod (-1) σx (∀ j, j < c → tkO a2 j < aM A) (Classical.em _) Iff.rfl (fun ok => absurd (ok j hj) (by omega)) (fun _ => ⟨rfl, rfl⟩)
    · intro S hS
      obtain ⟨h1, h2⟩ := m0 hS
      exact pk_eq rc 12 (fun c => ⟨rfl, hno S h1⟩) (fun c => absurd (show rc = 12 by omega) c) (by rw [h1.1 52 (by decide)]; exact b3)
end OpE
