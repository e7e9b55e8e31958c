/-! ===== calls: hold, held, left ===== -/
section OpG
variable {A : AH} {g : Nat → Nat → Nat} {v i : Nat} {σx σm : hsS}
theorem hd_set {m rc : Nat} {kx nx km nm : Nat → Int32} (hh : HD m rc kx nx km nm) {j : Nat} (κ : Nat) (x : Int32) (km' : Int32) (hk : (κ = 2 ∧ km' = -1) ∨ (κ = 0 ∧ km' = 0 ∧ ∃ n, n < m ∧ x = nI n) ∨ (κ = 1 ∧ km' = 1 ∧ ∃ n, n < rc ∧ x = nI n)) : HD m rc (upd kx j (nI κ)) (upd nx j x) (upd km j km') (upd nm j x) := by
  intro q hq
  rcases Nat.decEq q j with z | z
  · rw [pk_un z, pk_un z, pk_un z, pk_un z]; exact hh q hq
  · subst z
    rw [pk_us, pk_us, pk_us, pk_us]
    rcases hk with ⟨h1, h2⟩ | ⟨h1, h2, n, h3, h4⟩ | ⟨h1, h2, n, h3, h4⟩
    · subst h1; exact Or.inl ⟨rfl, h2⟩
    · subst h1; exact Or.inr (Or.inl ⟨n, h3, rfl, h2, h4, h4⟩)
    · subst h1; exact Or.inr (Or.inr ⟨n, h3, rfl, h2, h4, h4⟩)
theorem RB.hold (h : RB A g v i σx σm) {S : hsS} (h1 : FRm [0] [] σm S) {j : Nat} (κ : Nat) (x km' : Int32) (hk : (κ = 2 ∧ km' = -1) ∨ (κ = 0 ∧ km' = 0 ∧ ∃ n, n < aM A ∧ x = nI n) ∨ (κ = 1 ∧ km' = 1 ∧ ∃ n, x = nI n ∧ ∀ rc, σx.1 1922 = nI rc → rc ≤ 12 → n < rc)) (hj : j < 8) {s5 s6 t5 t6 : hsS} (e5 : s5 = hsA σx 33 (upd (σx.2.1 33) (nI j).toNatClampNeg (nI κ))) (e6 : s6 = hsA s5 34 (upd (s5.2.1 34) (nI j).toNatClampNeg x)) (u5 : t5 = hsA S 29 (upd (S.2.1 29) (nI j).toNatClampNeg km')) (u6 : t6 = hsA t5 30 (upd (t5.2.1 30) (nI j).toNatClampNeg x)) : RR (i + 6) s6 t6 := by
  obtain ⟨rc, mn, th, ⟨b1, b2, b3, b4⟩, hh⟩ := rb_bd h
  rw [nI_clamp (by omega)] at e5 e6 u5 u6
  have a33 : s6.2.1 33 = upd (σx.2.1 33) j (nI κ) := by rw [e6, hsA_ne _ _ (by decide), e5, hsA_at]
  have a34 : s6.2.1 34 = upd (σx.2.1 34) j x := by rw [e6, hsA_at, e5, hsA_ne _ _ (by decide)]
  have a29 : t6.2.1 29 = upd (σm.2.1 29) j km' := by rw [u6, hsA_ne _ _ (by decide), u5, hsA_at, h1.2.1 29 (by decide)]
  have a30 : t6.2.1 30 = upd (σm.2.1 30) j x := by rw [u6, hsA_at, u5, hsA_ne _ _ (by decide), h1.2.1 30 (by decide)]
  have hg : FRm [0, 52] [27, 28, 29, 30] σm t6 := by
    rw [u6, u5]; exact ((h1.weak (by decide) (by decide)).trans (FRm.arr _ (by decide))).trans (FRm.arr _ (by decide))
  have a27 : t6.2.1 27 = σm.2.1 27 := by rw [u6, hsA_ne _ _ (by decide), u5, hsA_ne _ _ (by decide), h1.2.1 27 (by decide)]
  have a28 : t6.2.1 28 = σm.2.1 28 := by rw [u6, hsA_ne _ _ (by decide), u5, hsA_ne _ _ (by decide), h1.2.1 28 (by decide)]
  have a52 : t6.1 52 = σm.1 52 := by rw [u6, u5]; exact h1.1 52 (by decide)
  have a31 : s6.2.1 31 = σx.2.1 31 := by rw [e6, hsA_ne _ _ (by decide), e5, hsA_ne _ _ (by decide)]
  have a1 : s6.1 = σx.1 := by rw [e6, e5]; rfl
  have a22 : s6.2.2 = σx.2.2 := by rw [e6, e5]; rfl
  refine h.board (fun k _ => by rw [a1]) (fun k hk => ?_) hg ⟨rc, mn, th, ⟨b1, by rw [a1]; exact b2, by rw [a52]; exact b3, ?_⟩, ?_⟩
  · rw [e6, hsA_ne _ _ (fun z => hk (by rw [z]; decide)), e5, hsA_ne _ _ (fun z => hk (by rw [z]; decide))]
  · rw [a31, a27, a22, a28]; exact b4
  · rw [a33, a34, a29, a30]
    refine hd_set hh κ x km' ?_
    rcases hk with w | w | ⟨w1, w2, n, w3, w4⟩
    · exact Or.inl w
    · exact Or.inr (Or.inl w)
    · exact Or.inr (Or.inr ⟨w1, w2, n, w4 rc b2 b1, w3⟩)
theorem op_30 (f : Nat → Int64) (a1 a2 a3 : Int32) (h : RR i σx σm) : lo_30 f a1 a2 a3 (RR (i + 6)) σx σm := by
  obtain ⟨A, g, v, h⟩ := h
  unfold lo_30 wX7_hold
  have ha := rb_aw h; have hm := aw_m ha
  obtain ⟨rc, mn, th, ⟨b1, b2, b3, b4⟩, hh⟩ := rb_bd h
  have hrcu : ∀ n, n < rc → ∀ rc', σx.1 1922 = nI rc' → rc' ≤ 12 → n < rc' := fun n hn rc' e hl => by
    have : rc = rc' := (nI_eq (by omega) (by omega)).mp (b2.symm.trans e)
    omega
  rcases ix_of a2 (n := 3) (by omega) with z | ⟨κ, hκ, rfl⟩
  · refine br_f (ix_ne (j := 0) z (by decide) (by decide)) (br_f (ix_ne (j := 1) z (by decide) (by decide)) (br_f (ix_ne (j := 2) z (by decide) (by decide)) (fun S hS => ?_)))
    obtain ⟨h1, h2⟩ := m0 hS
    exact qm_inNo (n := 3) (by decide) (by decide) z (br_t rfl (qm_refuse h1 (fun S' g1 g2 => ⟨Or.inl rfl, thr_ok g2 ⟨rfl, fun e => absurd e (by decide), h.m g1⟩⟩)))
  · have hin : ∀ {post : Int32 → hsS → Prop} {S : hsS}, post 1 S → wX8_isIn (nI κ) 0 2 post S := fun k => qm_in (n := 3) (by decide) (by decide) hκ k
    refine pk_eq κ 0 (fun c0 => ?_) (fun c0 => pk_eq κ 1 (fun c1 => ?_) (fun c1 => br_t (by rw [show κ = 2 by omega]; rfl) ?_))
    · subst c0
      rcases ix_of a3 (n := aM A) (by omega) with z | ⟨n, hn, rfl⟩
      · refine qx_thingNo (rb_x64 h) z (fun S hS => ?_)
        obtain ⟨h1, h2⟩ := m0 hS
        refine hin (br_f (by decide) (br_t rfl (qm_thingNo (mh_m ((rb_mh h).fr h1 (by decide))) (by omega) z (br_t rfl ?_))))
        exact qm_refuse h1 (fun S' g1 g2 => ⟨Or.inl rfl, thr_ok g2 ⟨rfl, fun e => absurd e (by decide), h.m g1⟩⟩)
      · refine qx_thing (rb_x64 h) (by omega) hn ?_
        rcases ix_of a1 (n := 8) (by omega) with z | ⟨j, hj, rfl⟩
        · refine ix_no (n := 8) (C := True) z (fun S hS => ?_)
          obtain ⟨h1, h2⟩ := m0 hS
          refine hin (br_f (by decide) (br_t rfl (qm_thing (mh_m ((rb_mh h).fr h1 (by decide))) (by omega) hn (br_f (by decide) (br_f (by decide) (qm_holderNo z (br_t rfl ?_)))))))
          exact thr_ok h2 ⟨rfl, fun _ => rfl, h.m h1⟩
        · refine br_f (nI_pos (by omega)) (br_t (nI_lt (b := 8) hj (by decide)) ⟨pk_in j 8 hj, fun s5 e5 => ⟨pk_in j 8 hj, fun s6 e6 S hS => ?_⟩⟩)
          obtain ⟨h1, h2⟩ := m0 hS
          refine hin (br_f (by decide) (br_t rfl (qm_thing (mh_m ((rb_mh h).fr h1 (by decide))) (by omega) hn (br_f (by decide) (br_f (by decide) (qm_holder hj (br_f (by decide) (br_f (by decide) ⟨pk_in j 8 hj, fun t5 u5 => ⟨pk_in j 8 hj, fun t6 u6 => ?_⟩⟩))))))))
          exact thr_ok (by rw [u6, u5]; exact h2) ⟨rfl, fun _ => rfl, h.hold h1 0 (nI n) 0 (Or.inr (Or.inl ⟨rfl, rfl, n, hn, rfl⟩)) hj e5 e6 u5 u6⟩
    · subst c1
      rcases ix_of a3 (n := rc) (by omega) with z | ⟨n, hn, rfl⟩
      · refine qx_rowNo b2 z (fun S hS => ?_)
        obtain ⟨h1, h2⟩ := m0 hS
        refine hin (br_f (by decide) (br_f (by decide) (br_t rfl (qm_rowNo (n := rc) (by rw [h1.1 52 (by decide)]; exact b3) (by omega) z (br_t rfl ?_)))))
        exact qm_refuse h1 (fun S' g1 g2 => ⟨Or.inl rfl, thr_ok g2 ⟨rfl, fun e => absurd e (by decide), h.m g1⟩⟩)
      · refine qx_row b2 (by omega) hn ?_
        rcases ix_of a1 (n := 8) (by omega) with z | ⟨j, hj, rfl⟩
        · refine ix_no (n := 8) (C := True) z (fun S hS => ?_)
          obtain ⟨h1, h2⟩ := m0 hS
          refine hin (br_f (by decide) (br_f (by decide) (br_t rfl (qm_row (n := rc) (by rw [h1.1 52 (by decide)]; exact b3) (by omega) hn (br_f (by decide) (qm_holderNo z (br_t rfl ?_)))))))
          exact thr_ok h2 ⟨rfl, fun _ => rfl, h.m h1⟩
        · refine br_f (nI_pos (by omega)) (br_t (nI_lt (b := 8) hj (by decide)) ⟨pk_in j 8 hj, fun s5 e5 => ⟨pk_in j 8 hj, fun s6 e6 S hS => ?_⟩⟩)
          obtain ⟨h1, h2⟩ := m0 hS
          refine hin (br_f (by decide) (br_f (by decide) (br_t rfl (qm_row (n := rc) (by rw [h1.1 52 (by decide)]; exact b3) (by omega) hn (br_f (by decide) (qm_holder hj (br_f (by decide) (br_f (by decide) ⟨pk_in j 8 hj, fun t5 u5 => ⟨pk_in j 8 hj, fun t6 u6 => ?_⟩⟩))))))))
          exact thr_ok (by rw [u6, u5]; exact h2) ⟨rfl, fun _ => rfl, h.hold h1 1 (nI n) 1 (Or.inr (Or.inr ⟨rfl, rfl, n, rfl, hrcu n hn⟩)) hj e5 e6 u5 u6⟩
    · have c2 : κ = 2 := by omega
      subst c2
      rcases ix_of a1 (n := 8) (by omega) with z | ⟨j, hj, rfl⟩
      · refine ix_no (n := 8) (C := True) z (fun S hS => ?_)
        obtain ⟨h1, h2⟩ := m0 hS
        refine hin (br_f (by decide) (br_f (by decide) (br_f (by decide) (qm_holderNo z (br_t rfl ?_)))))
        exact thr_ok h2 ⟨rfl, fun _ => rfl, h.m h1⟩
      · refine br_f (nI_pos (by omega)) (br_t (nI_lt (b := 8) hj (by decide)) ⟨pk_in j 8 hj, fun s5 e5 => ⟨pk_in j 8 hj, fun s6 e6 S hS => ?_⟩⟩)
        obtain ⟨h1, h2⟩ := m0 hS
        refine hin (br_f (by decide) (br_f (by decide) (br_f (by decide) (qm_holder hj (br_f (by decide) (br_t rfl ⟨pk_in j 8 hj, fun t5 u5 => ⟨pk_in j 8 hj, fun t6 u6 => ?_⟩⟩))))))
        exact thr_ok (by rw [u6, u5]; exact h2) ⟨rfl, fun _ => rfl, h.hold h1 2 a3 (-1) (Or.inl ⟨rfl, rfl⟩) hj e5 e6 u5 u6⟩
/-- why a holder doesn't keep what is wanted, in both -/
theorem why_both {m rc : Nat} (hh : HD m rc (σx.2.1 33) (σx.2.1 34) (σm.2.1 29) (σm.2.1 30)) {j κ : Nat} (hj : j < 8) (hκ : κ < 2) : ∃ r : Nat, (∀ post : Int32 → hsS → Prop, post (nI r) σx → wX0_whyNot 30 (nI j) (nI κ) post σx) ∧ (∀ S : hsS, FRm [0] [] σm S → ∀ post : Int32 → hsS → Prop, post (nI r) S → wX8_why (nI j) (nI κ) post S) ∧ r ≤ 2 ∧ (r = 0 → ∃ n, (κ = 0 → n < m) ∧ (κ = 1 → n < rc) ∧ σx.2.1 34 j = nI n ∧ σm.2.1 30 j = nI n) := by
  have hx : ∀ (r : Nat) (w : Int32), σx.2.1 33 j = w → ((w = 2 ∧ r = 1) ∨ (¬ w = 2 ∧ w = nI κ ∧ r = 0) ∨ (¬ w = 2 ∧ ¬ w = nI κ ∧ r = 2)) → ∀ post : Int32 → hsS → Prop, post (nI r) σx → wX0_whyNot 30 (nI j) (nI κ) post σx := fun r w e hc post k => by
    have e' : σx.2.1 (30 + 3) (nI j).toNatClampNeg = w := by rw [nI_clamp (by omega)]; exact e
    refine ⟨pk_in j 8 hj, ?_⟩
    rw [e']
    rcases hc with ⟨c1, c2⟩ | ⟨c1, c2, c3⟩ | ⟨c1, c2, c3⟩
    · subst c2; exact br_t c1 k
    · subst c3; exact br_f c1 ⟨pk_in j 8 hj, br_t c2 k⟩
    · subst c3; exact br_f c1 ⟨pk_in j 8 hj, br_f c2 k⟩
  have hm : ∀ (r : Nat) (w : Int32), σm.2.1 29 j = w → ((w = -1 ∧ r = 1) ∨ (¬ w = -1 ∧ w = nI κ ∧ r = 0) ∨ (¬ w = -1 ∧ ¬ w = nI κ ∧ r = 2)) → ∀ S : hsS, FRm [0] [] σm S → ∀ post : Int32 → hsS → Prop, post (nI r) S → wX8_why (nI j) (nI κ) post S := fun r w e hc S hS post k => by
    have e' : S.2.1 29 (nI j).toNatClampNeg = w := by rw [nI_clamp (by omega), hS.2.1 29 (by decide)]; exact e
    refine ⟨pk_in j 8 hj, ?_⟩
    rw [e']
    rcases hc with ⟨c1, c2⟩ | ⟨c1, c2, c3⟩ | ⟨c1, c2, c3⟩
    · subst c2; exact br_t c1 k
    · subst c3; exact br_f c1 ⟨pk_in j 8 hj, br_t c2 k⟩
    · subst c3; exact br_f c1 ⟨pk_in j 8 hj, br_f c2 k⟩
  rcases hh j hj with ⟨y1, y2⟩ | ⟨n, y0, y1, y2, y3, y4⟩ | ⟨n, y0, y1, y2, y3, y4⟩
  · exact ⟨1, hx 1 _ y1 (Or.inl ⟨rfl, rfl⟩), hm 1 _ y2 (Or.inl ⟨rfl, rfl⟩), by decide, fun e => absurd e (by decide)⟩
  · rcases Nat.lt_or_ge κ 1 with z | z
    · have : κ = 0 := by omega
      subst this
      exact ⟨0, hx 0 _ y1 (Or.inr (Or.inl ⟨by decide, rfl, rfl⟩)), hm 0 _ y2 (Or.inr (Or.inl ⟨by decide, rfl, rfl⟩)), by decide, fun _ => ⟨n, fun _ => y0, fun e => absurd e (by decide), y3, y4⟩⟩
    · have : κ = 1 := by omega
      subst this
      exact ⟨2, hx 2 _ y1 (Or.inr (Or.inr ⟨by decide, by decide, rfl⟩)), hm 2 _ y2 (Or.inr (Or.inr ⟨by decide, by decide, rfl⟩)), by decide, fun e => absurd e (by decide)⟩
  · rcases Nat.lt_or_ge κ 1 with z | z
    · have : κ = 0 := by omega
      subst this
      exact ⟨2, hx 2 _ y1 (Or.inr (Or.inr ⟨by decide, by decide, rfl⟩)), hm 2 _ y2 (Or.inr (Or.inr ⟨by decide, by decide, rfl⟩)), by decide, fun e => absurd e (by decide)⟩
    · have : κ = 1 := by omega
      subst this
      exact ⟨0, hx 0 _ y1 (Or.inr (Or.inl ⟨by decide, rfl, rfl⟩)), hm 0 _ y2 (Or.inr (Or.inl ⟨by decide, rfl, rfl⟩)), by decide, fun _ => ⟨n, fun e => absurd e (by decide), fun _ => y0, y3, y4⟩⟩
theorem op_31 (f : Nat → Int64) (a1 a2 : Int32) (h : RR i σx σm) : lo_31 f a1 a2 (RR (i + 6)) σx σm := by
  obtain ⟨A, g, v, h⟩ := h
  unfold lo_31 wX7_held
  obtain ⟨rc, mn, th, ⟨b1, b2, b3, b4⟩, hh⟩ := rb_bd h
  rcases ix_of a2 (n := 2) (by omega) with z | ⟨κ, hκ, rfl⟩
  · refine br_f (ix_ne (j := 0) z (by decide) (by decide)) (br_f (ix_ne (j := 1) z (by decide) (by decide)) (fun S hS => ?_))
    obtain ⟨h1, h2⟩ := m0 hS
    have fl : ∀ {post : Int32 → hsS → Prop}, (∀ S', FRm [0] [] σm S' → S'.1 0 = 1 → post 0 S') → wX8_fail 1 post S := fun k => qm_fail h1 k
    rcases ix_of a1 (n := 8) (by omega) with y | ⟨j, hj, rfl⟩
    · exact qm_holderNo y (br_t rfl (qm_fail h1 (fun S' g1 g2 => thr_ok g2 ⟨rfl, fun e => absurd e (by decide), h.m g1⟩)))
    · exact qm_holder hj (br_f (by decide) (ix_le (k := 1) (by decide) z (qm_fail h1 (fun S' g1 g2 => thr_ok g2 ⟨rfl, fun e => absurd e (by decide), h.m g1⟩))))
  · rcases ix_of a1 (n := 8) (by omega) with y | ⟨j, hj, rfl⟩
    · have hmod : wX8_held a1 (nI κ) (fun bb σm1 => wX8_thrown (fun th σm2 => th = (1 : Int32) ∧ ((1 : Int32) = (0 : Int32) → (f 0) = (bb.toInt64)) ∧ RR (i + 6) σx σm2) σm1) σm := by
        intro S hS
        obtain ⟨h1, h2⟩ := m0 hS
        exact qm_holderNo y (br_t rfl (qm_fail h1 (fun S' g1 g2 => thr_ok g2 ⟨rfl, fun e => absurd e (by decide), h.m g1⟩)))
      refine pk_eq κ 0 (fun c0 => ?_) (fun c0 => br_t (by rw [show κ = 1 by omega]; rfl) ?_)
      · exact qx_holderNo y hmod
      · exact qx_holderNo y hmod
    · obtain ⟨r, w1, w2, w3, w4⟩ := why_both hh hj hκ
      have hmod : ∀ q : Int32, (q = if r = 0 then (10 : Int32) + σm.2.1 30 j else nI r) → wX8_held (nI j) (nI κ) (fun bb σm1 => wX8_thrown (fun th σm2 => th = (0 : Int32) ∧ ((0 : Int32) = (0 : Int32) → ((vp_updL f 0 (q.toInt64)) 0) = (bb.toInt64)) ∧ RR (i + 6) σx σm2) σm1) σm := fun q hq => by
        intro S hS
        obtain ⟨h1, h2⟩ := m0 hS
        refine qm_holder hj (br_f (by decide) (br_f (nI_pos (by omega)) (br_t (nI_le (b := 1) (by omega) (by decide)) (w2 S h1 _ ?_))))
        refine pk_eq r 0 (fun c => ?_) (fun c => ?_)
        · refine ⟨pk_in j 8 hj, thr_ok h2 ⟨rfl, fun _ => ?_, h.m h1⟩⟩
          rw [hq, if_pos c, nI_clamp (by omega), h1.2.1 30 (by decide)]; rfl
        · refine thr_ok h2 ⟨rfl, fun _ => ?_, h.m h1⟩
          rw [hq, if_neg c]; rfl
      have hcl : wX7_needHolder (nI j) (fun σ3 => wX0_whyNot 30 (nI j) (nI κ) (fun r4 σ5 => ((r4 = (0 : Int32) → vp_in (nI j) 8 ∧ wX8_held (nI j) (nI κ) (fun bb σm1 => wX8_thrown (fun th σm2 => th = (0 : Int32) ∧ ((0 : Int32) = (0 : Int32) → ((vp_updL f 0 (((10 : Int32) + (σ5.2.1 34 (nI j).toNatClampNeg)).toInt64)) 0) = (bb.toInt64)) ∧ RR (i + 6) σ5 σm2) σm1) σm) ∧ (¬ r4 = (0 : Int32) → wX8_held (nI j) (nI κ) (fun bb σm1 => wX8_thrown (fun th σm2 => th = (0 : Int32) ∧ ((0 : Int32) = (0 : Int32) → ((vp_updL f 0 (r4.toInt64)) 0) = (bb.toInt64)) ∧ RR (i + 6) σ5 σm2) σm1) σm))) σ3) (fun σ1 => wX8_held (nI j) (nI κ) (fun bb σm1 => wX8_thrown (fun th σm2 => th = (1 : Int32) ∧ ((1 : Int32) = (0 : Int32) → (f 0) = (bb.toInt64)) ∧ RR (i + 6) σ1 σm2) σm1) σm) σx := by
        refine qx_holder hj (w1 _ ?_)
        refine pk_eq r 0 (fun c => ⟨pk_in j 8 hj, hmod _ ?_⟩) (fun c => hmod _ (by rw [if_neg c]))
        obtain ⟨n, n1, n2, n3, n4⟩ := w4 c
        rw [if_pos c, nI_clamp (by omega), n3, n4]
      refine pk_eq κ 0 (fun c0 => ?_) (fun c0 => br_t (by rw [show κ = 1 by omega]; rfl) ?_)
      · exact hcl
      · exact hcl
theorem op_32 (f : Nat → Int64) (a1 a2 : Int32) (h : RR i σx σm) : lo_32 f a1 a2 (RR (i + 6)) σx σm := by
  obtain ⟨A, g, v, h⟩ := h
  unfold lo_32 wX7_left
  have ha := rb_aw h; have hm := aw_m ha; have hnt := aw_nt ha
  obtain ⟨rc, mn, th, ⟨b1, b2, b3, b4⟩, hh⟩ := rb_bd h
  rcases ix_of a1 (n := 8) (by omega) with y | ⟨j, hj, rfl⟩
  · refine qx_holderNo y (fun S hS => ?_)
    obtain ⟨h1, h2⟩ := m0 hS
    exact qm_holderNo y (br_t rfl (qm_fail h1 (fun S' g1 g2 => thr_ok g2 ⟨rfl, fun e => absurd e (by decide), h.m g1⟩)))
  · refine qx_holder hj ?_
    rcases ix_of a2 (n := 8) (by omega) with y | ⟨l, hl, rfl⟩
    · refine qx_holderNo y (fun S hS => ?_)
      obtain ⟨h1, h2⟩ := m0 hS
      exact qm_holder hj (br_f (by decide) (qm_holderNo y (br_t rfl (qm_fail h1 (fun S' g1 g2 => thr_ok g2 ⟨rfl, fun e => absurd e (by decide), h.m g1⟩)))))
    · refine qx_holder hl ?_
      obtain ⟨r, w1, w2, w3, w4⟩ := why_both hh hj (κ := 0) (by decide)
      obtain ⟨q, x1, x2, x3, x4⟩ := why_both hh hl (κ := 1) (by decide)
      have hmod : ∀ {post : Int32 → hsS → Prop}, (∀ S, FRm [0] [] σm S → S.1 0 = 0 → (r = 0 → q = 0 → vp_in (nI l) 8 ∧ wX8_leftBehind (S.2.1 30 (nI l).toNatClampNeg) (fun r18 σ19 => vp_in (nI j) 8 ∧ ((((r18 >>> ((σ19.2.1 30 (nI j).toNatClampNeg) &&& 31)) &&& (1 : Int32)) = (1 : Int32) → post (11 : Int32) σ19) ∧ (¬ ((r18 >>> ((σ19.2.1 30 (nI j).toNatClampNeg) &&& 31)) &&& (1 : Int32)) = (1 : Int32) → post (10 : Int32) σ19))) S) ∧ (r = 0 → q ≠ 0 → post (nI q) S) ∧ (r ≠ 0 → q = 0 → post (nI r) S) ∧ (r ≠ 0 → q ≠ 0 → post (if nI q < nI r then nI q else nI r) S)) → wX8_left (nI j) (nI l) post σm := fun k => by
        intro S hS
        obtain ⟨h1, h2⟩ := m0 hS
        obtain ⟨k1, k2, k3, k4⟩ := k S h1 h2
        refine qm_holder hj (br_f (by decide) (qm_holder hl (br_f (by decide) (w2 S h1 _ (x2 S h1 _ ?_)))))
        refine pk_eq r 0 (fun c => pk_eq q 0 (fun c2 => k1 c c2) (fun c2 => br_t (by rw [c]; rfl) (k2 c c2))) (fun c => br_f (nI_ne0 (by omega) (by omega)) (pk_eq q 0 (fun c2 => k3 c c2) (fun c2 => k4 c c2)))
      refine w1 _ (x1 _ ?_)
      refine pk_eq r 0 (fun c => br_t (by rw [c]; rfl) (pk_eq q 0 (fun c2 => ?_) (fun c2 => ?_))) (fun c => pk_eq q 0 (fun c2 => br_f (nI_ne0 (by omega) (by omega)) ?_) (fun c2 => ?_))
      · obtain ⟨n, n1, n2, n3, n4⟩ := w4 c
        obtain ⟨e, e1, e2, e3, e4⟩ := x4 c2
        have hn := n1 rfl; have he := e2 rfl
        obtain ⟨p1, p2, p3, p4⟩ := b4 e he
        have hX : RX (aM A) e (mn e) (th e) σx := ⟨by omega, by omega, hm.2, p2, fun j hj => ⟨(p4 j hj).1, (p4 j hj).2.1⟩⟩
        have hM0 : RM (aM A) e (mn e) (th e) σm := ⟨by omega, by omega, hm.2, p3, fun j hj => ⟨(p4 j hj).1, (p4 j hj).2.2⟩⟩
        have hsl := ssO_lt (th := th e) (m := aM A) (mn e) (fun q hq => (p4 q hq).1)
        have hll := lbO_lt (aM A) (th e) (mn e)
        have hm9 : 2 ^ aM A ≤ 2 ^ 9 := Nat.pow_le_pow_right (by decide) hm.2
        have hbit := lbO_bit (aM A) (th e) n (mn e)
        rw [show decide (n < aM A) = true by simp [hn], Bool.true_and] at hbit
        refine ⟨pk_in l 8 hl, ?_⟩
        rw [nI_clamp (by omega), e3]
        refine qx_struckBy hX ⟨pk_in j 8 hj, ?_⟩
        rw [nI_clamp (by omega), n3]
        have fin : ∀ q : Int32, q = (if (ssO (th e) (mn e)).testBit n = true then 10 else 11) → wX8_left (nI j) (nI l) (fun bb σm1 => wX8_thrown (fun th σm2 => th = (0 : Int32) ∧ ((0 : Int32) = (0 : Int32) → ((vp_updL f 0 (q.toInt64)) 0) = (bb.toInt64)) ∧ RR (i + 6) σx σm2) σm1) σm := fun q hq => by
          refine hmod (fun S h1 h2 => ⟨fun _ _ => ?_, fun _ z => absurd c2 z, fun z => absurd c z, fun z => absurd c z⟩)
          have hM := (rb_mh h).fr h1 (by decide)
          refine ⟨pk_in l 8 hl, ?_⟩
          rw [nI_clamp (by omega), h1.2.1 30 (by decide), e4]
          refine qm_leftBehind hM (hM0.fr h1 (by decide) (by decide)) ⟨pk_in j 8 hj, ?_⟩
          rw [nI_clamp (by omega), h1.2.1 30 (by decide), n4]
          refine ek_if (qb_testN (by omega) (by omega)) (fun y => ?_) (fun y => ?_)
          · rw [y] at hbit
            have : (ssO (th e) (mn e)).testBit n = false := by simpa using hbit.symm
            refine thr_ok h2 ⟨rfl, fun _ => ?_, h.m h1⟩
            rw [hq, this]; rfl
          · have y2 : (lbO (aM A) (th e) (mn e)).testBit n = false := by simpa using y
            rw [y2] at hbit
            have : (ssO (th e) (mn e)).testBit n = true := by simpa using hbit.symm
            refine thr_ok h2 ⟨rfl, fun _ => ?_, h.m h1⟩
            rw [hq, this]; rfl
        refine ek_if (qb_testN (by omega) (by omega)) (fun y => ?_) (fun y => ?_)
        · exact fin 10 (by rw [if_pos y])
        · exact fin 11 (by rw [if_neg y])
      · rw [if_pos (show nI r < nI q by rw [c]; exact nI_lt (by omega) (by omega))]
        exact hmod (fun S h1 h2 => ⟨fun _ z => absurd z c2, fun _ _ => thr_ok h2 ⟨rfl, fun _ => rfl, h.m h1⟩, fun z => absurd c z, fun z => absurd c z⟩)
      · rw [if_neg (show ¬ nI r < nI q by rw [c2]; exact nI_nlt (by omega) (by omega))]
        exact hmod (fun S h1 h2 => ⟨fun z => absurd z c, fun z => absurd z c, fun _ _ => thr_ok h2 ⟨rfl, fun _ => rfl, h.m h1⟩, fun _ z => absurd c2 z⟩)
      · exact hmod (fun S h1 h2 => ⟨fun z => absurd z c, fun z => absurd z c, fun _ z => absurd z c2, fun _ _ => thr_ok h2 ⟨rfl, fun _ => rfl, h.m h1⟩⟩)
end OpG
