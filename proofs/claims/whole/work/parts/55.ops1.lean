/-! ===== calls: the parts that all of them share ===== -/
theorem thr_ok {post : Int32 → hsS → Prop} {σ : hsS} {c : Int32} (h : σ.1 0 = c) (k : post c σ) : wX8_thrown post σ := by
  show post (σ.1 0) σ
  rw [h]; exact k
theorem m0 {σ S : hsS} {c : Int32} (hS : S = hsI σ 0 c) : FRm [0] [] σ S ∧ S.1 0 = c := by
  subst hS; exact ⟨FRm.int _ (by decide), hsI_at _ _ _⟩
theorem ix_of (x : Int32) {n : Nat} (hn : n < 2 ^ 31) : (x < 0 ∨ nI n ≤ x) ∨ ∃ j, j < n ∧ x = nI j := by
  rcases pk_ix x hn with z | z | z
  · exact Or.inl (Or.inl z)
  · exact Or.inl (Or.inr z)
  · exact Or.inr z
theorem ix_no {x : Int32} {n : Nat} (z : x < 0 ∨ nI n ≤ x) {A B C : Prop} (k : A) : (x < 0 → A) ∧ (¬ x < 0 → ((x < nI n → B) ∧ (¬ x < nI n → A))) := by
  refine ⟨fun _ => k, fun c => ⟨fun c2 => ?_, fun _ => k⟩⟩
  rcases z with z | z
  · exact absurd z c
  · rw [Int32.lt_iff_toInt_lt] at c2; rw [Int32.le_iff_toInt_le] at z; omega
section Need
variable {σ : hsS} {n : Nat}
theorem qx_personNo (e : σ.1 65 = nI n) {x : Int32} (z : x < 0 ∨ nI n ≤ x) {post px : hsS → Prop} (k : px σ) : wX7_needPerson x post px σ := by
  show (x < 0 → px σ) ∧ (¬ x < 0 → ((x < σ.1 65 → post σ) ∧ (¬ x < σ.1 65 → px σ)))
  rw [e]; exact ix_no (C := True) z k
theorem qx_person (e : σ.1 65 = nI n) (hn : n < 2 ^ 31) {j : Nat} (hj : j < n) {post px : hsS → Prop} (k : post σ) : wX7_needPerson (nI j) post px σ := by
  show (nI j < 0 → px σ) ∧ (¬ nI j < 0 → ((nI j < σ.1 65 → post σ) ∧ (¬ nI j < σ.1 65 → px σ)))
  rw [e]; exact br_f (nI_pos (by omega)) (br_t (nI_lt hj hn) k)
theorem qx_thingNo (e : σ.1 64 = nI n) {x : Int32} (z : x < 0 ∨ nI n ≤ x) {post px : hsS → Prop} (k : px σ) : wX7_needThing x post px σ := by
  show (x < 0 → px σ) ∧ (¬ x < 0 → ((x < σ.1 64 → post σ) ∧ (¬ x < σ.1 64 → px σ)))
  rw [e]; exact ix_no (C := True) z k
theorem qx_thing (e : σ.1 64 = nI n) (hn : n < 2 ^ 31) {j : Nat} (hj : j < n) {post px : hsS → Prop} (k : post σ) : wX7_needThing (nI j) post px σ := by
  show (nI j < 0 → px σ) ∧ (¬ nI j < 0 → ((nI j < σ.1 64 → post σ) ∧ (¬ nI j < σ.1 64 → px σ)))
  rw [e]; exact br_f (nI_pos (by omega)) (br_t (nI_lt hj hn) k)
theorem qx_rowNo (e : σ.1 1922 = nI n) {x : Int32} (z : x < 0 ∨ nI n ≤ x) {post px : hsS → Prop} (k : px σ) : wX7_needRow x post px σ := by
  show (x < 0 → px σ) ∧ (¬ x < 0 → ((x < σ.1 1922 → post σ) ∧ (¬ x < σ.1 1922 → px σ)))
  rw [e]; exact ix_no (C := True) z k
theorem qx_row (e : σ.1 1922 = nI n) (hn : n < 2 ^ 31) {j : Nat} (hj : j < n) {post px : hsS → Prop} (k : post σ) : wX7_needRow (nI j) post px σ := by
  show (nI j < 0 → px σ) ∧ (¬ nI j < 0 → ((nI j < σ.1 1922 → post σ) ∧ (¬ nI j < σ.1 1922 → px σ)))
  rw [e]; exact br_f (nI_pos (by omega)) (br_t (nI_lt hj hn) k)
theorem qx_holderNo {x : Int32} (z : x < 0 ∨ nI 8 ≤ x) {post px : hsS → Prop} (k : px σ) : wX7_needHolder x post px σ := ix_no (C := True) z k
theorem qx_holder {j : Nat} (hj : j < 8) {post px : hsS → Prop} (k : post σ) : wX7_needHolder (nI j) post px σ := br_f (nI_pos (by omega)) (br_t (nI_lt (b := 8) hj (by decide)) k)
theorem qm_inNo {x y : Int32} (hn : n < 2 ^ 30) (hy : y = nI n - 1) (z : x < 0 ∨ nI n ≤ x) {post : Int32 → hsS → Prop} (k : post 0 σ) : wX8_isIn x 0 y post σ := by
  refine ⟨fun _ => k, fun c => ⟨fun _ => k, fun c2 => ?_⟩⟩
  exfalso
  have h1 : (nI n - nI 1).toInt = (n : Int) - (1 : Nat) := pk_sub_toInt hn (by decide)
  rw [hy] at c2
  rcases z with z | z
  · exact c z
  · rw [Int32.lt_iff_toInt_lt, show (1 : Int32) = nI 1 from rfl, h1] at c2
    rw [Int32.le_iff_toInt_le, nI_toInt (by omega)] at z
    omega
theorem qm_in {y : Int32} (hn : n < 2 ^ 30) (hy : y = nI n - 1) {j : Nat} (hj : j < n) {post : Int32 → hsS → Prop} (k : post 1 σ) : wX8_isIn (nI j) 0 y post σ := by
  refine br_f (nI_pos (by omega)) (br_f ?_ k)
  rw [hy, show (1 : Int32) = nI 1 from rfl, pk_sub (by omega)]
  exact nI_nlt (by omega) (by omega)
theorem qm_oneNo (e : σ.2.1 2 (0 : Int32).toNatClampNeg = nI n) (hn : n < 2 ^ 30) {x : Int32} (z : x < 0 ∨ nI n ≤ x) {post : Int32 → hsS → Prop} (k : post 0 σ) : wX8_isOne x post σ := qm_inNo hn (by rw [e]) z ⟨Or.inl rfl, k⟩
theorem qm_one (e : σ.2.1 2 (0 : Int32).toNatClampNeg = nI n) (hn : n < 2 ^ 30) {j : Nat} (hj : j < n) {post : Int32 → hsS → Prop} (k : post 1 σ) : wX8_isOne (nI j) post σ := qm_in hn (by rw [e]) hj ⟨Or.inr rfl, k⟩
theorem qm_thingNo (e : σ.2.1 1 (0 : Int32).toNatClampNeg = nI n) (hn : n < 2 ^ 30) {x : Int32} (z : x < 0 ∨ nI n ≤ x) {post : Int32 → hsS → Prop} (k : post 0 σ) : wX8_isThing x post σ := qm_inNo hn (by rw [e]) z ⟨Or.inl rfl, k⟩
theorem qm_thing (e : σ.2.1 1 (0 : Int32).toNatClampNeg = nI n) (hn : n < 2 ^ 30) {j : Nat} (hj : j < n) {post : Int32 → hsS → Prop} (k : post 1 σ) : wX8_isThing (nI j) post σ := qm_in hn (by rw [e]) hj ⟨Or.inr rfl, k⟩
theorem qm_rowNo (e : σ.1 52 = nI n) (hn : n < 2 ^ 30) {x : Int32} (z : x < 0 ∨ nI n ≤ x) {post : Int32 → hsS → Prop} (k : post 0 σ) : wX8_isRow x post σ := qm_inNo hn (by rw [e]) z ⟨Or.inl rfl, k⟩
theorem qm_row (e : σ.1 52 = nI n) (hn : n < 2 ^ 30) {j : Nat} (hj : j < n) {post : Int32 → hsS → Prop} (k : post 1 σ) : wX8_isRow (nI j) post σ := qm_in hn (by rw [e]) hj ⟨Or.inr rfl, k⟩
theorem qm_holderNo {x : Int32} (z : x < 0 ∨ nI 8 ≤ x) {post : Int32 → hsS → Prop} (k : post 0 σ) : wX8_isHolder x post σ := qm_inNo (n := 8) (by decide) (by decide) z ⟨Or.inl rfl, k⟩
theorem qm_holder {j : Nat} (hj : j < 8) {post : Int32 → hsS → Prop} (k : post 1 σ) : wX8_isHolder (nI j) post σ := qm_in (n := 8) (by decide) (by decide) hj ⟨Or.inr rfl, k⟩
/-- the reference refuses: its state but for the code as it was -/
theorem qm_fail {S : hsS} {post : Int32 → hsS → Prop} (hF : FRm [0] [] σ S) (k : ∀ S', FRm [0] [] σ S' → S'.1 0 = 1 → post 0 S') : wX8_fail 1 post S := by
  intro S' hS'
  obtain ⟨h1, h2⟩ := m0 hS'
  exact k S' (hF.trans h1) h2
theorem qm_refuse {S : hsS} {post : Int32 → hsS → Prop} (hF : FRm [0] [] σ S) (k : ∀ S', FRm [0] [] σ S' → S'.1 0 = 1 → post 0 S') : wX8_refuse 1 post S := by
  intro S' hS'
  obtain ⟨h1, h2⟩ := m0 hS'
  exact k S' (hF.trans h1) h2
end Need
section OpA
variable {A : AH} {g : Nat → Nat → Nat} {v i : Nat} {σx σm : hsS}
theorem RB.m (h : RB A g v i σx σm) {S : hsS} (hf : FRm [0] [] σm S) : RR (i + 6) σx S := ⟨A, g, v, (h.frs (hf.weak (by decide) (by decide))).up (by omega)⟩
theorem RB.ml (h : RB A g v i σx σm) {S : hsS} (hf : FRm [0, 25] [13] σm S) : RR (i + 6) σx S := ⟨A, g, v, (h.frs (hf.weak (by decide) (by decide))).up (by omega)⟩
theorem rb_x64 (h : RB A g v i σx σm) : σx.1 64 = nI (aM A) := hx_m (rb_hx h)
theorem rb_x65 (h : RB A g v i σx σm) : σx.1 65 = nI (aN A) := hx_n (rb_hx h)
theorem rb_x70 (h : RB A g v i σx σm) : σx.1 70 = nI (aNt A) := hx_nt (rb_hx h)
theorem FRm.f0 {σ S : hsS} (hf : FRm [0] [] σ S) : FRm [0, 25] [13] σ S := hf.weak (by decide) (by decide)
theorem op_2 (h : RR i σx σm) : lo_2 (RR (i + 6)) σx σm := by
  obtain ⟨A, g, v, h⟩ := h
  intro S hS
  obtain ⟨h1, h2⟩ := m0 hS
  refine ⟨?_, h.m h1⟩
  rw [h1.1 23 (by decide)]; exact rb_fl h
theorem op_3 (f : Nat → Int64) (a1 : Int32) (h : RR i σx σm) : lo_3 f a1 (RR (i + 6)) σx σm := by
  obtain ⟨A, g, v, h⟩ := h
  have ha := rb_aw h; have hx := rb_hx h
  have fin : ∀ (S : hsS) (r : Int32), FRm [0] [] σm S → S.1 0 = 0 → wX8_thrown (fun th σm2 => th = (0 : Int32) ∧ ((0 : Int32) = (0 : Int32) → (vp_updL f 0 (r.toInt64) 0) = (r.toInt64)) ∧ RR (i + 6) σx σm2) S := fun S r h1 h2 => thr_ok h2 ⟨rfl, fun _ => rfl, h.m h1⟩
  obtain ⟨rc, mn, th, hbd, -⟩ := rb_bd h
  refine br_c (fun c0 => ?_) (fun c0 => br_c (fun c1 => ?_) (fun c1 => br_c (fun c2 => ?_) (fun c2 => br_c (fun c3 => ?_) (fun c3 => br_c (fun c4 => ?_) (fun c4 => br_c (fun c5 => ?_) (fun c5 => br_c (fun c6 => ?_) (fun c6 => ?_)))))))
  · rw [rb_x64 h]
    intro S hS; obtain ⟨h1, h2⟩ := m0 hS
    refine br_t c0 ?_
    rw [mh_m ((rb_mh h).fr h1 (by decide))]; exact fin S _ h1 h2
  · rw [rb_x65 h]
    intro S hS; obtain ⟨h1, h2⟩ := m0 hS
    refine br_f c0 (br_t c1 ?_)
    rw [mh_n ((rb_mh h).fr h1 (by decide))]; exact fin S _ h1 h2
  · rw [rb_x70 h]
    intro S hS; obtain ⟨h1, h2⟩ := m0 hS
    refine br_f c0 (br_f c1 (br_t c2 ?_))
    rw [mh_nt ((rb_mh h).fr h1 (by decide))]; exact fin S _ h1 h2
  · rw [show σx.1 67 = nI (aLaw A) from hx_law hx]
    intro S hS; obtain ⟨h1, h2⟩ := m0 hS
    refine br_f c0 (br_f c1 (br_f c2 (br_t c3 ?_)))
    rw [mh_law ((rb_mh h).fr h1 (by decide))]; exact fin S _ h1 h2
  · rw [hbd.2.1]
    intro S hS; obtain ⟨h1, h2⟩ := m0 hS
    refine br_f c0 (br_f c1 (br_f c2 (br_f c3 (br_t c4 ?_))))
    rw [h1.1 52 (by decide), hbd.2.2.1]; exact fin S _ h1 h2
  · obtain ⟨len, T, t1, t2, t3, -⟩ := rb_tp h
    rw [t2]
    intro S hS; obtain ⟨h1, h2⟩ := m0 hS
    refine br_f c0 (br_f c1 (br_f c2 (br_f c3 (br_f c4 (br_t c5 ?_)))))
    rw [h1.1 14 (by decide), t3]; exact fin S _ h1 h2
  · rw [show σx.1 66 = nI (aAW A) from hx_aw hx]
    intro S hS; obtain ⟨h1, h2⟩ := m0 hS
    have hM := (rb_mh h).fr h1 (by decide)
    have hn := aw_n ha
    refine br_f c0 (br_f c1 (br_f c2 (br_f c3 (br_f c4 (br_f c5 (br_t c6 (qm_weightOf ha hM _ ?_)))))))
    have hp8 : 2 ^ aN A ≤ 2 ^ 8 := Nat.pow_le_pow_right (by decide) hn
    rw [mh_n hM, qb_all (by omega), qb_N_nI (by omega), aWt_all ha]; exact fin S _ h1 h2
  · intro S hS; obtain ⟨h1, h2⟩ := m0 hS
    exact br_f c0 (br_f c1 (br_f c2 (br_f c3 (br_f c4 (br_f c5 (br_f c6 (qm_fail h1 (fun S' g1 g2 => thr_ok g2 ⟨rfl, fun e => absurd e (by decide), h.m g1⟩))))))))
theorem op_4 (f : Nat → Int64) (a1 a2 : Int32) (h : RR i σx σm) : lo_4 f a1 a2 (RR (i + 6)) σx σm := by
  obtain ⟨A, g, v, h⟩ := h
  unfold lo_4 wX7_place
  have ha := rb_aw h; have hn := aw_n ha; have hm := aw_m ha
  rcases ix_of a1 (n := aN A) (by omega) with z | ⟨p, hp, rfl⟩
  · refine qx_personNo (rb_x65 h) z (fun S hS => ?_)
    obtain ⟨h1, h2⟩ := m0 hS
    exact qm_oneNo (mh_n ((rb_mh h).fr h1 (by decide))) (by omega) z (br_t rfl (qm_fail h1 (fun S' g1 g2 => thr_ok g2 ⟨rfl, fun e => absurd e (by decide), h.m g1⟩)))
  · refine qx_person (rb_x65 h) (by omega) hp ?_
    rcases ix_of a2 (n := aM A) (by omega) with z | ⟨t, ht, rfl⟩
    · refine qx_thingNo (rb_x64 h) z (fun S hS => ?_)
      obtain ⟨h1, h2⟩ := m0 hS
      have hM := (rb_mh h).fr h1 (by decide)
      exact qm_one (mh_n hM) (by omega) hp (br_f (by decide) (qm_thingNo (mh_m hM) (by omega) z (br_t rfl (qm_fail h1 (fun S' g1 g2 => thr_ok g2 ⟨rfl, fun e => absurd e (by decide), h.m g1⟩)))))
    · refine qx_thing (rb_x64 h) (by omega) ht (qx_placeOf ha (rb_hx h) hp ht (fun S hS => ?_))
      obtain ⟨h1, h2⟩ := m0 hS
      have hM := (rb_mh h).fr h1 (by decide)
      refine qm_one (mh_n hM) (by omega) hp (br_f (by decide) (qm_thing (mh_m hM) (by omega) ht (br_f (by decide) ?_)))
      rw [mh_m hM]
      exact qm_placeOf ha (rb_gw h) hM hp ht (thr_ok h2 ⟨rfl, fun _ => rfl, h.m h1⟩)
theorem op_5 (f : Nat → Int64) (a1 : Int32) (h : RR i σx σm) : lo_5 f a1 (RR (i + 6)) σx σm := by
  obtain ⟨A, g, v, h⟩ := h
  have ha := rb_aw h; have hm := aw_m ha; have hnt := aw_nt ha
  show (a1 < 0 → _) ∧ (¬ a1 < 0 → ((a1 < σx.1 70 → _) ∧ (¬ a1 < σx.1 70 → _)))
  rw [rb_x70 h]
  rcases ix_of a1 (n := aNt A) (by omega) with z | ⟨t, ht, rfl⟩
  · refine ix_no (C := True) z (fun S hS => ?_)
    obtain ⟨h1, h2⟩ := m0 hS
    exact qm_inNo (n := aNt A) (by omega) (by rw [mh_nt ((rb_mh h).fr h1 (by decide))]) z (br_t rfl (qm_fail h1 (fun S' g1 g2 => thr_ok g2 ⟨rfl, fun e => absurd e (by decide), h.m g1⟩)))
  · refine br_f (nI_pos (by omega)) (br_t (nI_lt ht (by omega)) ⟨pk_in t 8 (by omega), fun S hS => ?_⟩)
    obtain ⟨h1, h2⟩ := m0 hS
    have hM := (rb_mh h).fr h1 (by decide)
    refine qm_in (n := aNt A) (by omega) (by rw [mh_nt hM]) ht (br_f (by decide) ⟨pk_in t 18 (by omega), ?_⟩)
    refine thr_ok h2 ⟨rfl, fun _ => ?_, h.m h1⟩
    rw [nI_clamp (by omega), mh_u hM ht, show σx.2.1 5 t = nI (aU A t) from hx_u (rb_hx h) ht]; rfl
theorem qm_mayOfAll {S : hsS} {m : Nat} (ha : AW A) (h : MH A g S) {post : Int32 → hsS → Prop} {s : Nat} (hm : 1 ≤ m ∧ m ≤ 10) (hs : s < 2 ^ aN A) (k : post (nI (aMay A m (aAW A) s)) S) : wX8_mayOf (nI s) (nI (2 ^ aN A - 1)) (nI m) post S := by
  have h2 := Nat.two_pow_pos (aN A)
  refine qm_mayOf ha h hm hs (by omega) (fun p hp => ?_) (by rw [aWt_all ha]; exact k)
  rw [qs_full]
  rcases Nat.lt_or_ge p (aN A) with z | z
  · simp [z]
  · rw [qs_hi hs z] at hp; exact absurd hp (by decide)
theorem op_6 (a1 : Int32) (h : RR i σx σm) : lo_6 a1 (RR (i + 6)) σx σm := by
  obtain ⟨A, g, v, h⟩ := h
  unfold lo_6 wX7_may
  have ha := rb_aw h; have hn := aw_n ha; have hm := aw_m ha
  refine qx_mayStrike ha (rb_hx h) a1 (fun S hS => ?_)
  obtain ⟨h1, h2⟩ := m0 hS
  have hM := (rb_mh h).fr h1 (by decide)
  refine qm_everybody ha hM (qm_everybody ha hM ?_)
  rw [mh_m hM, qb_in_eq (by omega)]
  exact qm_mayOfAll ha hM ⟨by omega, by omega⟩ (qb_in_lt _ _) ⟨rfl, h.m h1⟩
theorem kpO_in {P : Nat → Nat → Nat} {m t n : Nat} (x : Int32) : kpO P m (qb_in n x) t n = kpO P m (qb_N x) t n := kpO_cong n (fun p hp => by
  unfold qb_in; rw [Nat.testBit_mod_two_pow]; simp [hp])
theorem op_7 (f : Nat → Int64) (a1 a2 : Int32) (h : RR i σx σm) : lo_7 f a1 a2 (RR (i + 6)) σx σm := by
  obtain ⟨A, g, v, h⟩ := h
  unfold lo_7 wX7_keep
  have ha := rb_aw h; have hn := aw_n ha; have hm := aw_m ha
  rcases ix_of a2 (n := aM A) (by omega) with z | ⟨t, ht, rfl⟩
  · refine qx_thingNo (rb_x64 h) z (fun S hS => ?_)
    obtain ⟨h1, h2⟩ := m0 hS
    exact qm_thingNo (mh_m ((rb_mh h).fr h1 (by decide))) (by omega) z (br_t rfl (qm_fail h1 (fun S' g1 g2 => thr_ok g2 ⟨rfl, fun e => absurd e (by decide), h.m g1⟩)))
  · refine qx_thing (rb_x64 h) (by omega) ht (qx_keptBy ha (rb_hx h) a1 ht (fun S hS => ?_))
    obtain ⟨h1, h2⟩ := m0 hS
    have hM := (rb_mh h).fr h1 (by decide)
    refine qm_thing (mh_m hM) (by omega) ht (br_f (by decide) (qm_look ha (rb_gw h) hM (fun S2 g1 g2 => ?_)))
    refine qm_keepOf g2 (mh_n (hM.fr g1 (by decide))) a1 ht (thr_ok (by rw [g1.1 0 (by decide)]; exact h2) ⟨rfl, fun _ => rfl, h.ml (h1.f0.trans (g1.weak (by decide) (by decide)))⟩)
theorem op_8 (f : Nat → Int64) (a1 a2 : Int32) (h : RR i σx σm) : lo_8 f a1 a2 (RR (i + 6)) σx σm := by
  obtain ⟨A, g, v, h⟩ := h
  unfold lo_8 wX7_strikes
  have ha := rb_aw h; have hn := aw_n ha; have hm := aw_m ha
  rcases ix_of a2 (n := aM A) (by omega) with z | ⟨t, ht, rfl⟩
  · refine qx_thingNo (rb_x64 h) z (fun S hS => ?_)
    obtain ⟨h1, h2⟩ := m0 hS
    exact qm_thingNo (mh_m ((rb_mh h).fr h1 (by decide))) (by omega) z (br_t rfl (qm_refuse h1 (fun S' g1 g2 => ⟨Or.inl rfl, thr_ok g2 ⟨rfl, fun e => absurd e (by decide), h.m g1⟩⟩)))
  · have hp8 : 2 ^ aN A ≤ 2 ^ 8 := Nat.pow_le_pow_right (by decide) hn
    have hm9 : 2 ^ aM A ≤ 2 ^ 9 := Nat.pow_le_pow_right (by decide) hm.2
    have hl := qb_in_lt (aN A) a1
    have hmod : ∀ r : Nat, (r = if hitO (aP A) (aM A) (aN A) (aMay A (aM A) (aAW A)) t (qb_in (aN A) a1) = true then 1 else 0) → wX8_strikes a1 (nI t) (fun bb σm1 => wX8_thrown (fun th σm2 => th = (0 : Int32) ∧ ((0 : Int32) = (0 : Int32) → (vp_updL f 0 (if nI r = 0 then 0 else 1) 0) = (if bb = 0 then 0 else 1)) ∧ RR (i + 6) σx σm2) σm1) σm := fun r hr => by
      intro S hS
      obtain ⟨h1, h2⟩ := m0 hS
      have hM := (rb_mh h).fr h1 (by decide)
      refine qm_thing (mh_m hM) (by omega) ht (br_f (by decide) (qm_look ha (rb_gw h) hM (fun S2 g1 g2 => ?_)))
      have hM2 := hM.fr g1 (by decide)
      refine qm_everybody ha hM2 ?_
      rw [qb_in_eq (by omega)]
      refine qm_strikesOf ha hM2 g2 (by omega) hl ht ?_
      rw [← hr]
      refine ⟨?_, thr_ok (by rw [g1.1 0 (by decide)]; exact h2) ⟨rfl, fun _ => rfl, h.ml (h1.f0.trans (g1.weak (by decide) (by decide)))⟩⟩
      rw [hr]; split
      · exact Or.inr rfl
      · exact Or.inl rfl
    refine qx_thing (rb_x64 h) (by omega) ht (qx_allPeople ha (rb_hx h) (nm_r (qb_in_eq (by omega) a1) ?_))
    refine pk_eq (qb_in (aN A) a1) 0 (fun c => ?_) (fun c => ?_) rfl rfl (by omega)
    · exact hmod 0 (by rw [c, hitO_0]; rfl)
    · refine qx_keptBy ha (rb_hx h) _ ht ?_
      rw [qb_N_nI (by omega)]
      have hkl := kpO_lt (aP A) (aM A) (qb_in (aN A) a1) t (aN A)
      refine qx_bitCount (by omega) (qx_mayStrike ha (rb_hx h) _ ?_)
      rw [qb_in_nI (by omega) hl, rb_x64 h]
      have hmy := aMay_le (A := A) (m := aM A) (aw := aAW A) (s := qb_in (aN A) a1)
      have hsz := qs_sz_le (kpO (aP A) (aM A) (qb_in (aN A) a1) t (aN A))
      refine pk_lt (qs_sz (kpO (aP A) (aM A) (qb_in (aN A) a1) t (aN A))) (aM A - aMay A (aM A) (aAW A) (qb_in (aN A) a1)) (fun c2 => ?_) (fun c2 => ?_) rfl (pk_sub (by omega))
      · exact hmod 0 (by rw [hitO_f (by omega)]; rfl)
      · exact hmod 1 (by rw [hitO_t c (by omega)]; rfl)
theorem op_9 (f : Nat → Int64) (a1 : Int32) (h : RR i σx σm) : lo_9 f a1 (RR (i + 6)) σx σm := by
  obtain ⟨A, g, v, h⟩ := h
  unfold lo_9 wX7_striker
  have ha := rb_aw h; have hn := aw_n ha; have hm := aw_m ha
  rcases ix_of a1 (n := aM A) (by omega) with z | ⟨t, ht, rfl⟩
  · refine qx_thingNo (rb_x64 h) z (fun S hS => ?_)
    obtain ⟨h1, h2⟩ := m0 hS
    exact qm_thingNo (mh_m ((rb_mh h).fr h1 (by decide))) (by omega) z (br_t rfl (qm_fail h1 (fun S' g1 g2 => thr_ok g2 ⟨rfl, fun e => absurd e (by decide), h.m g1⟩)))
  · refine qx_thing (rb_x64 h) (by omega) ht (qx_weigh ha (rb_hx h) (by decide) (fun s1 f1 f2 => ?_))
    refine qx_strikerOf0 ha ((rb_hx h).frA f1 (by decide)) (by decide) (may := aMay A (aM A) (aAW A)) (fun q hq => ⟨f2 q hq, by have := aMay_le (A := A) (m := aM A) (aw := aAW A) (s := q); omega⟩) ht (fun s2 f3 => ?_)
    have hX : RB A g v i s2 σm := h.frx ((f1.weak (by decide) (by decide)).trans (f3.weak (by decide) (by decide)))
    intro S hS
    obtain ⟨h1, h2⟩ := m0 hS
    have hM := (rb_mh h).fr h1 (by decide)
    refine qm_thing (mh_m hM) (by omega) ht (br_f (by decide) (qm_look ha (rb_gw h) hM (fun S2 g1 g2 => ?_)))
    exact qm_striker ha (hM.fr g1 (by decide)) g2 (by omega) ht _ (fun _ => thr_ok (by rw [g1.1 0 (by decide)]; exact h2) ⟨rfl, fun _ => rfl, hX.ml (h1.f0.trans (g1.weak (by decide) (by decide)))⟩)
end OpA
