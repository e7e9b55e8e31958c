/-! ===== calls: add; a new hall ===== -/
theorem vs_ne {v : Nat} {x : Int32} (h : VS v x) (hv : v + 1 < 2 ^ 31) : ¬ x = nI (v + 1) := by
  rcases h with h | ⟨w, h1, h2⟩
  · rw [h]; exact fun e => pk_nm1 hv e.symm
  · rw [h2]; intro e; have := (nI_eq (by omega) hv).mp e; omega
theorem vs_up {v : Nat} {x : Int32} (h : VS v x) : VS (v + 1) x := by
  rcases h with h | ⟨w, h1, h2⟩
  · exact Or.inl h
  · exact Or.inr ⟨w, by omega, h2⟩
theorem rb_new {A : AH} {g : Nat → Nat → Nat} {v i : Nat} {s t : hsS} (ha : AW A) (htc : aTc A ≤ 8) (hg : GW A g) (hx : HX 1 A s) (hm : MH A g t) (hv : t.1 12 = nI (v + 1)) (hi : 6 * (v + 1) ≤ i) (hv31 : v + 1 < 2 ^ 31) (v1 : VS v (t.1 28)) (v2 : VS v (t.1 36)) (v3 : VS v (t.1 39)) (v4 : VS v (t.1 50)) (htp : TP (s.1 706) (t.1 14) (s.2.1 12) (t.2.1 12)) (hf : s.1 713 = t.1 23) (hr : s.1 1922 = 0) (hr2 : t.1 52 = 0) (hh : ∀ j, j < 8 → s.2.1 33 j = 2) (hh2 : ∀ j, j < 8 → t.2.1 29 j = -1) (he : s.2.1 22 0 = 0) (k1 : s.1 1473 = 0) (k2 : s.1 1604 = 0) : RB A g (v + 1) i s t := by
  refine ⟨⟨⟨ha, htc⟩, hg, hx, hm⟩, ⟨hv, hi, vs_up v1, vs_up v2, vs_up v3, vs_up v4⟩, ⟨htp, hf⟩, ⟨0, fun _ => 0, fun _ _ => 0, ⟨by decide, hr, hr2, fun r hr => absurd hr (Nat.not_lt_zero _)⟩, fun j hj => Or.inl ⟨hh j hj, hh2 j hj⟩⟩, he, ⟨Or.inl k1, fun e => ?_, fun e => ?_⟩, fun e => ?_, Or.inl k2, fun e => ?_⟩
  · rw [hv] at e; exact absurd e (vs_ne v2 hv31)
  · rw [hv] at e; exact absurd e (vs_ne v3 hv31)
  · rw [hv] at e; exact absurd e (vs_ne v1 hv31)
  · rw [hv] at e; exact absurd e (vs_ne v4 hv31)
theorem qx_forget {σ : hsS} {post : hsS → Prop} (k : ∀ σ', FRm [1473, 1604, 1922] [33] σ σ' → σ'.1 1473 = 0 → σ'.1 1604 = 0 → σ'.1 1922 = 0 → (∀ j, j < 8 → σ'.2.1 33 j = 2) → post σ') : wX7_forgetOldHall post σ := by
  intro s1 e1 s2 e2 s3 e3
  have f3 : FRm [1473, 1604, 1922] [33] σ s3 := by
    rw [e3, e2, e1]
    exact ((FRm.int _ (by decide)).trans (FRm.int _ (by decide))).trans (FRm.int _ (by decide))
  have a1 : s3.1 1473 = 0 := by rw [e3, hsI_ne _ _ (by decide), e2, hsI_ne _ _ (by decide), e1]; exact hsI_at _ _ _
  have a2 : s3.1 1604 = 0 := by rw [e3, hsI_ne _ _ (by decide), e2]; exact hsI_at _ _ _
  have a3 : s3.1 1922 = 0 := by rw [e3]; exact hsI_at _ _ _
  refine pk_loop (fun n j (s : hsS) => wJ7_fill_53178_L5 (30 + 3) 2 8 _ _ n (nI j) s) (fun j s => FRm [] [33] s3 s ∧ ∀ q, q < j → s.2.1 33 q = 2) 8 0 s3 (Nat.zero_le _) ⟨FRm.rf, fun q hq => absurd hq (Nat.not_lt_zero _)⟩ ?_ ?_
  · intro n s e
    rw [wJ7_fill_53178_L5]
    refine br_t (nI_le (a := 8) (Nat.le_refl _) (by decide)) (k s (f3.trans (e.1.weak (by decide) (by decide))) ?_ ?_ ?_ e.2)
    · rw [e.1.1 1473 (by decide)]; exact a1
    · rw [e.1.1 1604 (by decide)]; exact a2
    · rw [e.1.1 1922 (by decide)]; exact a3
  · intro n j s hj e ih
    rw [wJ7_fill_53178_L5]
    refine br_f (nI_ge (b := 8) hj (by decide)) ⟨pk_in j 8 hj, fun S hS => nm_e ?_⟩
    rw [nI_1]
    rw [nI_clamp (by omega)] at hS
    have hat : S.2.1 33 = upd (s.2.1 33) j 2 := by rw [hS]; exact hsA_at _ _ _
    refine ih S ⟨by rw [hS]; exact e.1.trans (FRm.arr _ (by decide)), fun q hq => ?_⟩
    rw [hat]
    rcases Nat.decEq q j with z | z
    · rw [pk_un z]; exact e.2 q (by omega)
    · subst z; exact pk_us
theorem qm_renew {σ : hsS} {post : hsS → Prop} (k : ∀ σ', FRm [12, 52] [29] σ σ' → σ'.1 12 = σ.1 12 + 1 → σ'.1 52 = 0 → (∀ j, j < 8 → σ'.2.1 29 j = -1) → post σ') : wX8_renew post σ := by
  intro s1 e1 s2 e2
  have f2 : FRm [12, 52] [29] σ s2 := by rw [e2, e1]; exact (FRm.int _ (by decide)).trans (FRm.int _ (by decide))
  have a1 : s2.1 12 = σ.1 12 + 1 := by rw [e2, hsI_ne _ _ (by decide), e1, hsI_at]
  have a2 : s2.1 52 = 0 := by rw [e2, hsI_at]
  refine pk_loop (fun n j (s : hsS) => wX8_renew_L17 _ _ n (nI j) s) (fun j s => FRm [] [29] s2 s ∧ ∀ q, q < j → s.2.1 29 q = -1) 8 0 s2 (Nat.zero_le _) ⟨FRm.rf, fun q hq => absurd hq (Nat.not_lt_zero _)⟩ ?_ ?_
  · intro n s e
    rw [wX8_renew_L17]
    refine br_t (nI_le (a := 8) (Nat.le_refl _) (by decide)) (k s (f2.trans (e.1.weak (by decide) (by decide))) ?_ ?_ e.2)
    · rw [e.1.1 12 (by decide)]; exact a1
    · rw [e.1.1 52 (by decide)]; exact a2
  · intro n j s hj e ih
    rw [wX8_renew_L17]
    refine br_f (nI_ge (b := 8) hj (by decide)) ⟨pk_in j 8 hj, nm_e (nm_e ?_)⟩
    rw [nI_1, nI_clamp (by omega)]
    refine ih _ ⟨e.1.trans (FRm.arr _ (by decide)), fun q hq => ?_⟩
    rw [hsA_at]
    rcases Nat.decEq q j with z | z
    · rw [pk_un z]; exact e.2 q (by omega)
    · subst z; exact pk_us
/-- groups with a copy of t -/
def cpG (f : Nat → Nat) (m t k : Nat) : Nat := if k < m then (if f t < f k then f k + 1 else f k) else f t + 1
theorem cpG_gw {A : AH} {g : Nat → Nat → Nat} (hg : GW A g) {t : Nat} (ht : t < aM A) : GW (cpA A t) (fun p k => cpG (g p) (aM A) t k) := by
  intro p k hp hk
  have hk : k < aM A + 1 := hk
  have hp : p < aN A := hp
  refine ⟨?_, ?_⟩
  · show cpG (g p) (aM A) t k ≤ 9 + (aM A + 1)
    have h1 := (hg p t hp ht).1
    unfold cpG
    split
    · rename_i c
      have h2 := (hg p k hp c).1
      split <;> omega
    · omega
  · rw [cpA_P]
    show _ = fb_ct (fun q => decide (cpG (g p) (aM A) t q < cpG (g p) (aM A) t k)) (aM A + 1)
    rw [fb_ct_succ]
    rcases Nat.lt_or_ge k (aM A) with c | c
    · have e1 : fb_ct (fun q => decide (cpG (g p) (aM A) t q < cpG (g p) (aM A) t k)) (aM A) = fb_ct (fun q => decide (g p q < g p k)) (aM A) := fb_ct_cong (fun q hq => by
        apply decide_eq_decide.mpr
        unfold cpG; rw [if_pos hq, if_pos c]
        split <;> split <;> omega)
      rw [e1, ← (hg p k hp c).2]
      have hlt := gw_lt hg hp ht c
      unfold cpP; rw [if_pos c]
      have e2 : cpG (g p) (aM A) t (aM A) = g p t + 1 := by unfold cpG; rw [if_neg (by omega)]
      have e3 : cpG (g p) (aM A) t k = if g p t < g p k then g p k + 1 else g p k := by unfold cpG; rw [if_pos c]
      rw [e2, e3]
      by_cases z : g p t < g p k
      · rw [if_pos (hlt.mp z), if_pos z]; simp; omega
      · rw [if_neg (fun y => z (hlt.mpr y)), if_neg z]; simp; omega
    · have hkm : k = aM A := by omega
      subst hkm
      have e1 : fb_ct (fun q => decide (cpG (g p) (aM A) t q < cpG (g p) (aM A) t (aM A))) (aM A) = fb_ct (fun q => decide (g p q ≤ g p t)) (aM A) := fb_ct_cong (fun q hq => by
        apply decide_eq_decide.mpr
        unfold cpG; rw [if_pos hq, if_neg (Nat.lt_irrefl _)]
        split <;> omega)
      rw [e1, gw_le hg hp ht]
      unfold cpP; rw [if_neg (by omega)]; simp
theorem qm_addLoop {A : AH} {g : Nat → Nat → Nat} {σ : hsS} (ha : AW A) (hg : GW A g) (h : MH A g σ) {t : Nat} (ht : t < aM A) (hm9 : aM A < 9) {post : Int32 → hsS → Prop} (K : Int32 → hsS → Prop) (k : ∀ σ', FRm [] [8] σ σ' → (∀ p q, p < aN A → q < aM A + 1 → σ'.2.1 8 (10 * p + q) = nI (cpG (g p) (aM A) t q)) → ∀ z, K z σ') : ∃ n, wX8_add_L41 (nI t) (nI (aM A)) K post n 0 σ := by
  have hn := aw_n ha; have hm := aw_m ha
  have hin : ∀ (w : Nat), w < aN A → ∀ (s1 : hsS), (FRm [] [8] σ s1 ∧ (∀ p k, p < w → k < aM A + 1 → s1.2.1 8 (10 * p + k) = nI (cpG (g p) (aM A) t k)) ∧ (∀ p k, w ≤ p → p < aN A → k < aM A → s1.2.1 8 (10 * p + k) = nI (g p k))) → ∀ (z3 : Int32) (K : Int32 → hsS → Prop), (∀ s2, FRm [] [8] σ s2 → (∀ p k, p < w → k < aM A + 1 → s2.2.1 8 (10 * p + k) = nI (cpG (g p) (aM A) t k)) → (∀ k, k < aM A → s2.2.1 8 (10 * w + k) = nI (cpG (g w) (aM A) t k)) → (∀ p k, w < p → p < aN A → k < aM A → s2.2.1 8 (10 * p + k) = nI (g p k)) → ∀ z, K z s2) → ∃ n, wX8_add_L71 (nI t) (nI (aM A)) z3 (nI (10 * w)) (nI (g w t)) K post n 0 s1 := fun w hw s1 f1 z3 K kk =>
    pk_loop (fun n j (s : hsS) => wX8_add_L71 (nI t) (nI (aM A)) z3 (nI (10 * w)) (nI (g w t)) K post n (nI j) s) (fun j s => FRm [] [8] σ s ∧ (∀ p k, p < w → k < aM A + 1 → s.2.1 8 (10 * p + k) = nI (cpG (g p) (aM A) t k)) ∧ (∀ k, k < j → s.2.1 8 (10 * w + k) = nI (cpG (g w) (aM A) t k)) ∧ (∀ k, j ≤ k → k < aM A → s.2.1 8 (10 * w + k) = nI (g w k)) ∧ (∀ p k, w < p → p < aN A → k < aM A → s.2.1 8 (10 * p + k) = nI (g p k))) (aM A) 0 s1 (Nat.zero_le _) ⟨f1.1, f1.2.1, fun k hk => absurd hk (Nat.not_lt_zero _), fun k _ hk => f1.2.2 w k (Nat.le_refl _) hw hk, fun p k h1 h2 h3 => f1.2.2 p k (by omega) h2 h3⟩
      (fun n s e => by
        obtain ⟨e1, e2, e3, e4, e5⟩ := e
        rw [wX8_add_L71]
        exact br_t (nI_le (Nat.le_refl _) (by omega)) (kk s e1 e2 e3 e5 _))
      (fun n j s hj e ih => by
        obtain ⟨e1, e2, e3, e4, e5⟩ := e
        rw [wX8_add_L71]
        have h1 := (hg w t hw ht).1; have h2 := (hg w j hw hj).1
        have fin : ∀ (x : Nat), x = cpG (g w) (aM A) t j → ∀ S : hsS, S = hsA s 8 (upd (s.2.1 8) (10 * w + j) (nI x)) → ∀ v19 : Int32, v19 = nI j + 1 → wX8_add_L71 (nI t) (nI (aM A)) z3 (nI (10 * w)) (nI (g w t)) K post n v19 S := fun x hx S hS => by
          refine nm_e ?_
          rw [nI_1]
          have hat : S.2.1 8 = upd (s.2.1 8) (10 * w + j) (nI x) := by rw [hS, hsA_at]
          refine ih S ⟨by rw [hS]; exact e1.trans (FRm.arr _ (by decide)), fun p k hp hk => ?_, fun k hk => ?_, fun k h3 h4 => ?_, fun p k h3 h4 h5 => ?_⟩
          · rw [hat, pk_un (by omega)]; exact e2 p k hp hk
          · rw [hat]
            rcases Nat.lt_or_ge k j with z | z
            · rw [pk_un (by omega)]; exact e3 k z
            · have : k = j := by omega
              subst this
              rw [pk_us, hx]
          · rw [hat, pk_un (by omega)]; exact e4 k (by omega) h4
          · rw [hat, pk_un (by omega)]; exact e5 p k h3 h4 h5
        refine br_f (nI_ge hj (by omega)) ⟨pk_in (10 * w + j) 160 (by omega) (qi_b w j), pk_in (10 * w + j) 160 (by omega) (qi_b w j), ?_⟩
        rw [qi_b, nI_clamp (by omega), e4 j (Nat.le_refl _) hj]
        refine pk_le (g w j) (g w t) (fun c => ⟨pk_in (10 * w + j) 160 (by omega), ?_⟩) (fun c => ⟨pk_in (10 * w + j) 160 (by omega), ?_⟩)
        · rw [← nI_0, nI_add, Nat.add_zero]
          exact fin _ (by unfold cpG; rw [if_pos hj, if_neg (by omega)])
        · rw [nI_1]
          exact fin _ (by unfold cpG; rw [if_pos hj, if_pos c]))
  refine pk_loop (fun n j (s : hsS) => wX8_add_L41 (nI t) (nI (aM A)) K post n (nI j) s) (fun w s => FRm [] [8] σ s ∧ (∀ p k, p < w → k < aM A + 1 → s.2.1 8 (10 * p + k) = nI (cpG (g p) (aM A) t k)) ∧ (∀ p k, w ≤ p → p < aN A → k < aM A → s.2.1 8 (10 * p + k) = nI (g p k))) (aN A) 0 σ (Nat.zero_le _) ⟨FRm.rf, fun p k hp => absurd hp (Nat.not_lt_zero _), fun p k _ hp hk => mh_g h hp hk⟩ ?_ ?_
  · intro n s e
    obtain ⟨e1, e2, e3⟩ := e
    rw [wX8_add_L41]
    exact br_t (by rw [e1.2.1 2 (by decide), mh_n h]; exact nI_le (Nat.le_refl _) (by omega)) (k s e1 e2 _)
  · intro n w s hw e ih
    obtain ⟨e1, e2, e3⟩ := e
    rw [wX8_add_L41]
    refine br_f (by rw [e1.2.1 2 (by decide), mh_n h]; exact nI_ge hw (by omega)) (nm_r (show nI w * (10 : Int32) = nI (10 * w) by rw [show (10 : Int32) = nI 10 from rfl, pk_mul, Nat.mul_comm]) ⟨pk_in (10 * w + t) 160 (by omega) (qi_b w t), nm_r (e' := nI (g w t)) (by rw [qi_b, nI_clamp (by omega)]; exact e3 w t (Nat.le_refl _) hw ht) (hin w hw s ⟨e1, e2, e3⟩ _ _ (fun s2 f1 f2 f3 f4 z2 => ?_))⟩)
    refine ⟨pk_in (10 * w + aM A) 160 (by omega) (qi_b w (aM A)), fun S hS => nm_e ?_⟩
    rw [nI_1 w]
    rw [qi_b, nI_clamp (by omega), nI_1] at hS
    have hat : S.2.1 8 = upd (s2.2.1 8) (10 * w + aM A) (nI (g w t + 1)) := by rw [hS, hsA_at]
    refine ih S ⟨by rw [hS]; exact f1.trans (FRm.arr _ (by decide)), fun p q hp hq => ?_, fun p q h1 h2 h3 => ?_⟩
    · rw [hat]
      rcases Nat.lt_or_ge p w with y | y
      · rw [pk_un (by omega)]; exact f2 p q y hq
      · have : p = w := by omega
        subst this
        rcases Nat.lt_or_ge q (aM A) with y2 | y2
        · rw [pk_un (by omega)]; exact f3 q y2
        · have : q = aM A := by omega
          subst this
          rw [pk_us]; unfold cpG; rw [if_neg (by omega)]
    · rw [hat, pk_un (by omega)]; exact f4 p q (by omega) h2 h3
section OpI
variable {A : AH} {g : Nat → Nat → Nat} {v i : Nat} {σx σm : hsS}
theorem op_25 (hi : i + 6 ≤ 3072) (f : Nat → Int64) (a1 : Int32) (h : RR i σx σm) : lo_25 f a1 (RR (i + 6)) σx σm := by
  obtain ⟨A, g, v, h⟩ := h
  unfold lo_25 wX7_add
  have ha := rb_aw h; have hn := aw_n ha; have hm := aw_m ha; have hx := rb_hx h; have hg := rb_gw h
  rcases ix_of a1 (n := aM A) (by omega) with z | ⟨t, ht, rfl⟩
  · refine qx_thingNo (rb_x64 h) z (fun S hS => ?_)
    obtain ⟨h1, h2⟩ := m0 hS
    exact qm_thingNo (mh_m ((rb_mh h).fr h1 (by decide))) (by omega) z (br_t rfl (qm_fail h1 (fun S' g1 g2 => thr_ok g2 ⟨rfl, fun e => absurd e (by decide), h.m g1⟩)))
  · refine qx_thing (rb_x64 h) (by omega) ht ?_
    rw [rb_x64 h]
    refine pk_lt (aM A) 9 (fun c => ?_) (fun c => ?_)
    · have hac := cpA_aw ha hg ht c
      refine qx_putCopy ha hg hx ht c (fun s1 f1 x1 => qx_forget (fun s2 f2 y1 y2 y3 y4 => ?_))
      have x2 : HX 1 (cpA A t) s2 := x1.fr f2 (by decide) (by decide)
      have x64 : s2.1 64 = nI (aM A + 1) := hx_m x2
      rw [x64, nI_pred]
      intro S hS
      obtain ⟨h1, h2⟩ := m0 hS
      have hM := (rb_mh h).fr h1 (by decide)
      refine qm_thing (mh_m hM) (by omega) ht (br_f (by decide) (br_f (by rw [mh_m hM]; exact fun e => by have := (nI_eq (b := 9) (by omega) (by decide)).mp e; omega) (nm_r (mh_m hM) (qm_addLoop ha hg hM ht c _ (fun S2 g1 g2 z => fun S3 hS3 => ?_)))))
      rw [nI_1] at hS3
      refine qm_renew (fun S4 u1 u2 u3 u4 => ?_)
      have hF3 : FRm [0] [1, 8] σm S3 := by
        rw [hS3]; exact ((h1.weak (by decide) (by decide)).trans (g1.weak (by decide) (by decide))).trans (FRm.arr _ (by decide))
      have hF : FRm [0, 12, 52] [1, 8, 29] σm S4 := (hF3.weak (by decide) (by decide)).trans (u1.weak (by decide) (by decide))
      obtain ⟨w1, w2, w3, w4, w5, w6⟩ := rb_v h
      have h0 : S4.1 0 = 0 := by rw [u1.1 0 (by decide), hS3]; show S2.1 0 = 0; rw [g1.1 0 (by decide)]; exact h2
      have v12 : S4.1 12 = nI (v + 1) := by rw [u2, hF3.1 12 (by decide), w1, nI_1]
      have a1 : S4.2.1 1 = upd (S2.2.1 1) 0 (nI (aM A + 1)) := by rw [u1.2.1 1 (by decide), hS3, hsA_at, cl0]
      have a8 : S4.2.1 8 = S2.2.1 8 := by rw [u1.2.1 8 (by decide), hS3, hsA_ne _ _ (by decide)]
      have hMn : MH (cpA A t) (fun p k => cpG (g p) (aM A) t k) S4 := by
        obtain ⟨q1, q2, q3, q4, q5, q6, q7, q8, q9, q10, q11⟩ := rb_mh h
        refine ⟨by rw [a1, cl0, pk_us]; rfl, ?_, ?_, ?_, ?_, ?_, ?_, ?_, ?_, ?_, ?_⟩
        · rw [hF.2.1 2 (by decide)]; exact q2
        · rw [hF.2.1 3 (by decide)]; exact q3
        · rw [hF.2.1 4 (by decide)]; exact q4
        · rw [hF.2.1 5 (by decide)]; exact q5
        · rw [hF.2.1 6 (by decide)]; exact q6
        · rw [hF.2.1 7 (by decide)]; exact q7
        · rw [a8]; exact g2
        · rw [hF.2.1 9 (by decide)]; exact q9
        · rw [hF.2.1 10 (by decide)]; exact q10
        · rw [hF.2.1 11 (by decide)]; exact q11
      have hX : FRm [64, 1473, 1604, 1922] [3, 33] σx s2 := (f1.weak (by decide) (by decide)).trans (f2.weak (by decide) (by decide))
      refine thr_ok h0 ⟨rfl, fun _ => rfl, cpA A t, _, v + 1, rb_new hac (show aTc A ≤ 8 from rb_tc h) (cpG_gw hg ht) x2 hMn v12 (by omega) (by omega) ?_ ?_ ?_ ?_ ?_ ?_ y3 u3 y4 u4 ?_ y1 y2⟩
      · rw [hF.1 28 (by decide)]; exact w3
      · rw [hF.1 36 (by decide)]; exact w4
      · rw [hF.1 39 (by decide)]; exact w5
      · rw [hF.1 50 (by decide)]; exact w6
      · rw [hX.1 706 (by decide), hX.2.1 12 (by decide), hF.1 14 (by decide), hF.2.1 12 (by decide)]; exact rb_tp h
      · rw [hX.1 713 (by decide), hF.1 23 (by decide)]; exact rb_fl h
      · rw [hX.2.1 22 (by decide)]; exact rb_e0 h
    · intro S hS
      obtain ⟨h1, h2⟩ := m0 hS
      have hM := (rb_mh h).fr h1 (by decide)
      refine qm_thing (mh_m hM) (by omega) ht (br_f (by decide) (br_t (by rw [mh_m hM, show aM A = 9 by omega]; rfl) ?_))
      exact thr_ok h2 ⟨rfl, fun _ => rfl, h.m h1⟩
end OpI
