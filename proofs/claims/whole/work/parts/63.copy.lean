/-! ===== calls: copy, add ===== -/
section CpM
variable {A : AH} {g : Nat → Nat → Nat} {σ : hsS}
theorem qi_b (p k : Nat) : nI (10 * p) + nI k = nI (10 * p + k) := nI_add _ _
theorem qm_lookWith (ha : AW A) (hg : GW A g) (h : MH A g σ) {t : Nat} (ht : t < aM A) (hm9 : aM A < 9) {post : hsS → Prop} (k : ∀ σ', FRm [25] [13] σ σ' → LK (aP (cpA A t)) (aM A + 1) (aN A) σ' → post σ') : wX8_lookWith (nI t) post σ := by
  have hn := aw_n ha; have hm := aw_m ha
  refine qm_look ha hg h (fun s0 f0 l0 => ?_)
  have hM0 := h.fr f0 (by decide)
  refine nm_r (mh_m hM0) ?_
  have hcnt : ∀ (w : Nat), w < aN A → ∀ (s1 : hsS), FRm [] [13] s0 s1 → ∀ (z3 : Int32) (K : Int32 → Int32 → hsS → Prop), (∀ z, K (nI (aP A w t + gsO (aP A w) (aM A) (aP A w t))) z s1) → ∃ n, wX8_lookWith_L35 (nI t) (nI (aM A)) z3 (nI (10 * w)) K post n 0 0 s1 := fun w hw s1 f1 z3 K kk => by
    have hM := hM0.fr f1 (by decide)
    exact pk_loop (fun n j (y : Int32) => wX8_lookWith_L35 (nI t) (nI (aM A)) z3 (nI (10 * w)) K post n y (nI j) s1) (fun j y => y = nI (fb_ct (fun k => decide (g w k ≤ g w t)) j)) (aM A) 0 0 (Nat.zero_le _) rfl
      (fun n y e => by
        rw [wX8_lookWith_L35]
        refine br_t (nI_le (Nat.le_refl _) (by omega)) ?_
        rw [e, gw_le hg hw ht]; exact kk _)
      (fun n j y hj e ih => by
        rw [wX8_lookWith_L35]
        have h1 := (hg w t hw ht).1; have h2 := (hg w j hw hj).1
        refine br_f (nI_ge hj (by omega)) ⟨pk_in (10 * w + j) 160 (by omega) (qi_b w j), pk_in (10 * w + t) 160 (by omega) (qi_b w t), ?_⟩
        rw [qi_b, qi_b, nI_clamp (by omega), nI_clamp (by omega), mh_g hM hw ht, mh_g hM hw hj]
        refine pk_lt (g w t) (g w j) (fun c => ?_) (fun c => ?_)
        · refine nm_e (nm_e ?_)
          rw [nI_1]
          refine ih _ ?_
          rw [fb_ct_succ, e, ← nI_0, nI_add]; simp [show ¬ g w j ≤ g w t by omega]
        · refine nm_e (nm_e ?_)
          rw [nI_1]
          refine ih _ ?_
          rw [fb_ct_succ, e, nI_1]; simp [c])
  have hadd : ∀ (w : Nat), w < aN A → ∀ (s1 : hsS), (FRm [] [13] s0 s1 ∧ (∀ p k, p < w → k < aM A + 1 → s1.2.1 13 (10 * p + k) = nI (cpP (aP A p) (aM A) t k)) ∧ (∀ p k, w ≤ p → p < aN A → k < aM A → s1.2.1 13 (10 * p + k) = nI (aP A p k))) → ∀ (z3 z5 : Int32) (K : Int32 → hsS → Prop), (∀ s2, FRm [] [13] s0 s2 → (∀ p k, p < w → k < aM A + 1 → s2.2.1 13 (10 * p + k) = nI (cpP (aP A p) (aM A) t k)) → (∀ k, k < aM A → s2.2.1 13 (10 * w + k) = nI (cpP (aP A w) (aM A) t k)) → (∀ p k, w < p → p < aN A → k < aM A → s2.2.1 13 (10 * p + k) = nI (aP A p k)) → ∀ z, K z s2) → ∃ n, wX8_lookWith_L82 (nI t) (nI (aM A)) z3 (nI (10 * w)) z5 K post n 0 s1 := fun w hw s1 f1 z3 z5 K kk =>
    pk_loop (fun n j (s : hsS) => wX8_lookWith_L82 (nI t) (nI (aM A)) z3 (nI (10 * w)) z5 K post n (nI j) s) (fun j s => FRm [] [13] s0 s ∧ (∀ p k, p < w → k < aM A + 1 → s.2.1 13 (10 * p + k) = nI (cpP (aP A p) (aM A) t k)) ∧ (∀ k, k < j → s.2.1 13 (10 * w + k) = nI (cpP (aP A w) (aM A) t k)) ∧ (∀ k, j ≤ k → k < aM A → s.2.1 13 (10 * w + k) = nI (aP A w k)) ∧ (∀ p k, w < p → p < aN A → k < aM A → s.2.1 13 (10 * p + k) = nI (aP A p k))) (aM A) 0 s1 (Nat.zero_le _) ⟨f1.1, f1.2.1, fun k hk => absurd hk (Nat.not_lt_zero _), fun k _ hk => f1.2.2 w k (Nat.le_refl _) hw hk, fun p k h1 h2 h3 => f1.2.2 p k (by omega) h2 h3⟩
      (fun n s e => by
        obtain ⟨e1, e2, e3, e4, e5⟩ := e
        rw [wX8_lookWith_L82]
        exact br_t (nI_le (Nat.le_refl _) (by omega)) (kk s e1 e2 e3 e5 _))
      (fun n j s hj e ih => by
        obtain ⟨e1, e2, e3, e4, e5⟩ := e
        rw [wX8_lookWith_L82]
        have hM := hM0.fr e1 (by decide)
        have h1 := (hg w t hw ht).1; have h2 := (hg w j hw hj).1
        have fin : ∀ (x : Nat), x = cpP (aP A w) (aM A) t j → ∀ S : hsS, S = hsA s 13 (upd (s.2.1 13) (10 * w + j) (nI x)) → ∀ v19 : Int32, v19 = nI j + 1 → wX8_lookWith_L82 (nI t) (nI (aM A)) z3 (nI (10 * w)) z5 K post n v19 S := fun x hx S hS => by
          refine nm_e ?_
          rw [nI_1]
          have hat : S.2.1 13 = upd (s.2.1 13) (10 * w + j) (nI x) := by rw [hS, hsA_at]
          refine ih S ⟨by rw [hS]; exact e1.trans (FRm.arr _ (by decide)), fun p k hp hk => ?_, fun k hk => ?_, fun k h3 h4 => ?_, fun p k h3 h4 h5 => ?_⟩
          · rw [hat, pk_un (by omega)]; exact e2 p k hp hk
          · rw [hat]
            rcases Nat.lt_or_ge k j with z | z
            · rw [pk_un (by omega)]; exact e3 k z
            · have : k = j := by omega
              subst this
              rw [pk_us, hx]
          · rw [hat, pk_un (by omega)]; exact e4 k (by omega) h4
          · rw [hat, pk_un (by omega)]; exact e5 p k h3 h4 h5
        have hlt := gw_lt hg hw ht hj
        refine br_f (nI_ge hj (by omega)) ⟨pk_in (10 * w + j) 80 (by omega) (qi_b w j), pk_in (10 * w + j) 160 (by omega) (qi_b w j), pk_in (10 * w + t) 160 (by omega) (qi_b w t), ?_⟩
        rw [qi_b, qi_b, nI_clamp (by omega), nI_clamp (by omega), mh_g hM hw ht, mh_g hM hw hj, e4 j (Nat.le_refl _) hj]
        refine pk_le (g w j) (g w t) (fun c => ⟨pk_in (10 * w + j) 80 (by omega), ?_⟩) (fun c => ⟨pk_in (10 * w + j) 80 (by omega), ?_⟩)
        · rw [← nI_0, nI_add, Nat.add_zero]
          exact fin _ (by unfold cpP; rw [if_pos hj, if_neg (fun z => by have := hlt.mpr z; omega)])
        · rw [nI_1]
          exact fin _ (by unfold cpP; rw [if_pos hj, if_pos (hlt.mp c)]))
  refine pk_loop (fun n j (s : hsS) => wX8_lookWith_L13 (nI t) (nI (aM A)) _ post n (nI j) s) (fun w s => FRm [] [13] s0 s ∧ (∀ p k, p < w → k < aM A + 1 → s.2.1 13 (10 * p + k) = nI (cpP (aP A p) (aM A) t k)) ∧ (∀ p k, w ≤ p → p < aN A → k < aM A → s.2.1 13 (10 * p + k) = nI (aP A p k))) (aN A) 0 s0 (Nat.zero_le _) ⟨FRm.rf, fun p k hp => absurd hp (Nat.not_lt_zero _), fun p k _ hp hk => lk_p l0 hp hk⟩ ?_ ?_
  · intro n s e
    obtain ⟨e1, e2, e3⟩ := e
    rw [wX8_lookWith_L13]
    refine br_t (by rw [mh_n (hM0.fr e1 (by decide))]; exact nI_le (Nat.le_refl _) (by omega)) (fun S hS => ?_)
    rw [nI_1] at hS
    refine k S (by rw [hS]; exact ((f0.weak (by decide) (by decide)).trans (e1.weak (by decide) (by decide))).trans (FRm.int _ (by decide))) ⟨by rw [hS, hsI_at], by omega, hn, fun p q hp hq => ⟨?_, ?_⟩⟩
    · rw [show S.2.1 = s.2.1 from by rw [hS]; rfl, cpA_P]; exact e2 p q hp hq
    · rw [cpA_P]; have := cpP_le ha hg hp ht q; omega
  · intro n w s hw e ih
    obtain ⟨e1, e2, e3⟩ := e
    rw [wX8_lookWith_L13]
    refine br_f (by rw [mh_n (hM0.fr e1 (by decide))]; exact nI_ge hw (by omega)) (nm_r (show nI w * (10 : Int32) = nI (10 * w) by rw [show (10 : Int32) = nI 10 from rfl, pk_mul, Nat.mul_comm]) (hcnt w hw s e1 _ _ (fun z => hadd w hw s ⟨e1, e2, e3⟩ _ _ _ (fun s2 f1 f2 f3 f4 z2 => ?_))))
    refine ⟨pk_in (10 * w + aM A) 80 (by omega) (qi_b w (aM A)), fun S hS => nm_e ?_⟩
    rw [nI_1 w]
    rw [qi_b, nI_clamp (by omega)] at hS
    have hat : S.2.1 13 = upd (s2.2.1 13) (10 * w + aM A) (nI (aP A w t + gsO (aP A w) (aM A) (aP A w t))) := by rw [hS, hsA_at]
    refine ih S ⟨by rw [hS]; exact f1.trans (FRm.arr _ (by decide)), fun p q hp hq => ?_, fun p q h1 h2 h3 => ?_⟩
    · rw [hat]
      rcases Nat.lt_or_ge p w with y | y
      · rw [pk_un (by omega)]; exact f2 p q y hq
      · have : p = w := by omega
        subst this
        rcases Nat.lt_or_ge q (aM A) with y2 | y2
        · rw [pk_un (by omega)]; exact f3 q y2
        · have : q = aM A := by omega
          subst this
          rw [pk_us]; unfold cpP; rw [if_neg (by omega)]
    · rw [hat, pk_un (by omega)]; exact f4 p q (by omega) h2 h3
end CpM
section OpH
variable {A : AH} {g : Nat → Nat → Nat} {v i : Nat} {σx σm : hsS}
theorem op_23 (f : Nat → Int64) (a1 : Int32) (h : RR i σx σm) : lo_23 f a1 (RR (i + 6)) σx σm := by
  obtain ⟨A, g, v, h⟩ := h
  unfold lo_23 wX7_copy
  have ha := rb_aw h; have hn := aw_n ha; have hm := aw_m ha; have hx := rb_hx h; have hg := rb_gw h
  rcases ix_of a1 (n := aM A) (by omega) with z | ⟨t, ht, rfl⟩
  · refine qx_thingNo (rb_x64 h) z (fun S hS => ?_)
    obtain ⟨h1, h2⟩ := m0 hS
    exact qm_thingNo (mh_m ((rb_mh h).fr h1 (by decide))) (by omega) z (br_t rfl (qm_fail h1 (fun S' g1 g2 => thr_ok g2 ⟨rfl, fun e => absurd e (by decide), h.m g1⟩)))
  · refine qx_thing (rb_x64 h) (by omega) ht ?_
    rw [rb_x64 h]
    refine pk_lt (aM A) 9 (fun c => ?_) (fun c => ?_)
    · have hac := cpA_aw ha hg ht c
      refine qx_takeSpare ha (rb_tc h) hx (fun s1 f1 x1 => qx_putCopy ha hg x1 ht c (fun s2 f2 x2 => qx_coreOf hac x2 (by decide) (fun s3 f3 => ?_)))
      have hX : RB A g v i s3 σm := h.frx (((f1.weak (by decide) (by decide)).trans (f2.weak (by decide) (by decide))).trans (f3.weak (by decide) (by decide)))
      intro S hS
      obtain ⟨h1, h2⟩ := m0 hS
      have hM := (rb_mh h).fr h1 (by decide)
      refine qm_thing (mh_m hM) (by omega) ht (br_f (by decide) (br_f (by rw [mh_m hM]; exact fun e => by have := (nI_eq (b := 9) (by omega) (by decide)).mp e; omega) (qm_lookWith ha hg hM ht c (fun S2 g1 g2 => ?_))))
      have hM2 := hM.fr g1 (by decide)
      have hF := h1.f0.trans (g1.weak (by decide) (by decide))
      refine qm_everybody ha hM2 (qm_coreOf ha hM2 ((rb_mm h).fr hF (by decide) (by decide) (by decide) (by decide) (by decide)) g2 (by omega) (by have := Nat.two_pow_pos (aN A); omega) (fun S3 u1 u2 u3 => ?_))
      have ev : coM (aP (cpA A t)) (aM A + 1) (aN A) (2 ^ aN A - 1) (aMay A (aM A + 1) (aWt A (2 ^ aN A - 1) (aN A))) = coA (cpA A t) := by rw [aWt_all ha, coM_all]; rfl
      rw [ev]
      refine thr_ok (by rw [u1.1 0 (by decide), g1.1 0 (by decide)]; exact h2) ⟨rfl, fun _ => rfl, hX.mc ((hF.weak (by decide) (by decide)).trans (u1.weak (by decide) (by decide))) (by rw [u2, hF.1 12 (by decide)]) u3⟩
    · intro S hS
      obtain ⟨h1, h2⟩ := m0 hS
      have hM := (rb_mh h).fr h1 (by decide)
      refine qm_thing (mh_m hM) (by omega) ht (br_f (by decide) (br_t (by rw [mh_m hM, show aM A = 9 by omega]; rfl) ?_))
      exact thr_ok h2 ⟨rfl, fun _ => rfl, h.m h1⟩
end OpH
