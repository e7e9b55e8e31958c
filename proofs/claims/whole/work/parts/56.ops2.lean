/-! ===== calls: core, plain and back ends, what one often strikes, grumble, heads ===== -/
theorem ix_ne {x : Int32} {n j : Nat} (z : x < 0 ∨ nI n ≤ x) (hj : j < n) (hn : n < 2 ^ 31) : ¬ x = nI j := by
  rintro rfl
  rcases z with z | z
  · exact nI_pos (by omega) z
  · exact nI_ge hj hn z
theorem ix_le {x : Int32} {k : Nat} (hk : k < 2 ^ 30) (z : x < 0 ∨ nI (k + 1) ≤ x) {A B : Prop} (a : A) : (x < 0 → A) ∧ (¬ x < 0 → ((x ≤ nI k → B) ∧ (¬ x ≤ nI k → A))) := by
  refine ⟨fun _ => a, fun c => ⟨fun c2 => ?_, fun _ => a⟩⟩
  rcases z with z | z
  · exact absurd z c
  · rw [Int32.le_iff_toInt_le, nI_toInt (by omega)] at z c2; omega
section OpB
variable {A : AH} {g : Nat → Nat → Nat} {v i : Nat} {σx σm : hsS}
theorem RB.mc (h : RB A g v i σx σm) {S : hsS} (hf : FRm [0, 25, 28, 29, 30] [13, 14, 15] σm S) (h28 : S.1 28 = σm.1 12) (hM : MM A S) : RR (i + 6) σx S :=
  ⟨A, g, v, (h.frm (hf.weak (by decide) (by decide)) (Or.inr ⟨v, Nat.le_refl _, by rw [h28]; exact (rb_v h).1⟩) hM).up (by omega)⟩
/-- the reference looks and finds the core -/
theorem qm_lookCore {σ S : hsS} (h : RB A g v i σx σ) (h1 : FRm [0] [] σ S) {post : Int32 → hsS → Prop} (k : ∀ S', FRm [0, 25, 28, 29, 30] [13, 14, 15] σ S' → S'.1 0 = S.1 0 → S'.1 28 = σ.1 12 → MM A S' → LK (aP A) (aM A) (aN A) S' → post (nI (coA A)) S') : wX8_look (fun σ3 => wX8_everybody (fun r4 σ5 => wX8_coreOf r4 post σ5) σ3) S := by
  have ha := rb_aw h; have hm := aw_m ha
  have hM := (rb_mh h).fr h1 (by decide)
  refine qm_look ha (rb_gw h) hM (fun S2 g1 g2 => qm_everybody ha (hM.fr g1 (by decide)) ?_)
  have hF := h1.f0.trans (g1.weak (by decide) (by decide))
  refine qm_coreOf ha (hM.fr g1 (by decide)) ((rb_mm h).fr hF (by decide) (by decide) (by decide) (by decide) (by decide)) g2 (by omega) (by have := Nat.two_pow_pos (aN A); omega) (fun S3 f1 f2 f3 => ?_)
  rw [aWt_all ha, coM_all]
  refine k S3 ((hF.weak (by decide) (by decide)).trans (f1.weak (by decide) (by decide))) ?_ ?_ f3 (g2.fr f1 (by decide) (by decide))
  · rw [f1.1 0 (by decide), g1.1 0 (by decide)]
  · rw [f2, hF.1 12 (by decide)]
theorem op_10 (h : RR i σx σm) : lo_10 (RR (i + 6)) σx σm := by
  obtain ⟨A, g, v, h⟩ := h
  unfold lo_10 wX7_core
  have ha := rb_aw h
  refine qx_coreOf ha (rb_hx h) (by decide) (fun s2 f3 => ?_)
  have hX : RB A g v i s2 σm := h.frx (f3.weak (by decide) (by decide))
  intro S hS
  obtain ⟨h1, h2⟩ := m0 hS
  exact qm_lookCore h h1 (fun S' g1 g2 g3 g4 g5 => ⟨rfl, hX.mc g1 g3 g4⟩)
theorem qm_takeTurns {σ : hsS} (ha : AW A) (hg : GW A g) (h : MH A g σ) {post : hsS → Prop} (k : ∀ σ', FRm [25] [13, 16] σ σ' → LK (aP A) (aM A) (aN A) σ' → (∀ j, j < aNt A → σ'.2.1 16 j = nI (aU A j)) → post σ') : wX8_takeTurns post σ := by
  have hm := aw_m ha; have hnt := aw_nt ha
  refine qm_look ha hg h (fun s1 f1 f2 => ?_)
  have L : ∀ (K : Int32 → hsS → Prop), (∀ s2, FRm [] [16] s1 s2 → (∀ j, j < aNt A → s2.2.1 16 j = nI (aU A j)) → ∀ z, K z s2) → ∃ n, wX8_takeTurns_L6 K post n 0 s1 := fun K kk =>
    pk_loop (fun n j (s : hsS) => wX8_takeTurns_L6 K post n (nI j) s) (fun j s => FRm [] [16] s1 s ∧ ∀ q, q < j → s.2.1 16 q = nI (aU A q)) (aNt A) 0 s1 (Nat.zero_le _) ⟨FRm.rf, fun q hq => absurd hq (Nat.not_lt_zero _)⟩
      (fun n s e => by
        rw [wX8_takeTurns_L6]
        exact br_t (by rw [mh_nt ((h.fr f1 (by decide)).fr e.1 (by decide))]; exact nI_le (Nat.le_refl _) (by omega)) (kk s e.1 e.2 _))
      (fun n j s hj e ih => by
        rw [wX8_takeTurns_L6]
        have hM := (h.fr f1 (by decide)).fr e.1 (by decide)
        refine br_f (by rw [mh_nt hM]; exact nI_ge hj (by omega)) ⟨pk_in j 18 (by omega), pk_in j 9 (by omega), nm_e (nm_e ?_)⟩
        rw [nI_1, nI_clamp (by omega), mh_u hM hj]
        refine ih _ ⟨e.1.trans (FRm.arr _ (by decide)), fun q hq => ?_⟩
        rw [hsA_at]
        rcases Nat.decEq q j with z | z
        · rw [pk_un z]; exact e.2 q (by omega)
        · subst z; exact pk_us)
  refine L _ (fun s2 g1 g2 _ => k s2 ((f1.weak (by decide) (by decide)).trans (g1.weak (by decide) (by decide))) (f2.fr g1 (by decide) (by decide)) g2)
theorem RB.mt (h : RB A g v i σx σm) {S : hsS} (hf : FRm [0, 25] [13, 16, 20, 21] σm S) : RR (i + 6) σx S := ⟨A, g, v, (h.frs (hf.weak (by decide) (by decide))).up (by omega)⟩
theorem op_12 (h : RR i σx σm) : lo_12 (RR (i + 6)) σx σm := by
  obtain ⟨A, g, v, h⟩ := h
  unfold lo_12 wX7_plain
  have ha := rb_aw h
  refine qx_plainEnd ha (rb_hx h) (fun S hS => ?_)
  obtain ⟨h1, h2⟩ := m0 hS
  have hM := (rb_mh h).fr h1 (by decide)
  refine qm_takeTurns ha (rb_gw h) hM (fun S2 g1 g2 g3 => ?_)
  rw [mh_nt (hM.fr g1 (by decide))]
  exact qm_plainEnd g2 (u := aU A) (aw_nt ha) (fun j hj => ⟨aw_u ha hj, g3 j hj⟩) ⟨rfl, h.mt ((h1.weak (by decide) (by decide)).trans (g1.weak (by decide) (by decide)))⟩
theorem op_16 (h : RR i σx σm) : lo_16 (RR (i + 6)) σx σm := by
  obtain ⟨A, g, v, h⟩ := h
  unfold lo_16 wX7_back
  have ha := rb_aw h; have hm := aw_m ha; have hnt := aw_nt ha
  refine qx_backEnd ha (rb_hx h) (fun S hS => ?_)
  obtain ⟨h1, h2⟩ := m0 hS
  have hM := (rb_mh h).fr h1 (by decide)
  refine qm_look ha (rb_gw h) hM (fun s1 g1 g2 => ?_)
  have hM1 := hM.fr g1 (by decide)
  refine nm_r (mh_nt hM1) ?_
  have L : ∀ (post : Int32 → hsS → Prop) (K : Int32 → hsS → Prop), (∀ s2, FRm [] [16] s1 s2 → (∀ j, j < aNt A → s2.2.1 16 j = nI (aU A (aNt A - 1 - j))) → ∀ z, K z s2) → ∃ n, wX8_back_L18 (nI (aNt A)) K post n 0 s1 := fun post K kk =>
    pk_loop (fun n j (s : hsS) => wX8_back_L18 (nI (aNt A)) K post n (nI j) s) (fun j s => FRm [] [16] s1 s ∧ ∀ q, q < j → s.2.1 16 q = nI (aU A (aNt A - 1 - q))) (aNt A) 0 s1 (Nat.zero_le _) ⟨FRm.rf, fun q hq => absurd hq (Nat.not_lt_zero _)⟩
      (fun n s e => by
        rw [wX8_back_L18]
        exact br_t (nI_le (Nat.le_refl _) (by omega)) (kk s e.1 e.2 _))
      (fun n j s hj e ih => by
        rw [wX8_back_L18]
        have hM2 := hM1.fr e.1 (by decide)
        have e9 : nI (aNt A) - (1 : Int32) - nI j = nI (aNt A - 1 - j) := by rw [show (1 : Int32) = nI 1 from rfl, pk_sub (by omega), pk_sub (by omega)]
        rw [e9]
        refine br_f (nI_ge hj (by omega)) ⟨pk_in (aNt A - 1 - j) 18 (by omega), pk_in j 9 (by omega), nm_e (nm_e ?_)⟩
        rw [nI_1, nI_clamp (by omega), nI_clamp (by omega), mh_u hM2 (k := aNt A - 1 - j) (by omega)]
        refine ih _ ⟨e.1.trans (FRm.arr _ (by decide)), fun q hq => ?_⟩
        rw [hsA_at]
        rcases Nat.decEq q j with z | z
        · rw [pk_un z]; exact e.2 q (by omega)
        · subst z; exact pk_us)
  refine L _ _ (fun s2 f1 f2 _ => ?_)
  exact qm_plainEnd (g2.fr f1 (by decide) (by decide)) (u := fun j => aU A (aNt A - 1 - j)) hnt (fun j hj => ⟨aw_u ha (by omega), f2 j hj⟩) ⟨rfl, h.mt (((h1.weak (by decide) (by decide)).trans (g1.weak (by decide) (by decide))).trans (f1.weak (by decide) (by decide)))⟩
/-! rows of people -/
def piO (x : Int32) (j : Nat) : Nat := (x >>> (((3 : Int32) * nI j) &&& 31)).toBitVec.toNat % 2 ^ 3
theorem piO_eq (x : Int32) (j : Nat) : (x >>> (((3 : Int32) * nI j) &&& 31)) &&& (7 : Int32) = nI (piO x j) := pk_and _ 3 (by decide)
theorem piO_lt (x : Int32) (j : Nat) : piO x j < 8 := Nat.mod_lt _ (by decide)
theorem qx_pir {σ : hsS} {x : Int32} {j : Nat} {post : Int32 → hsS → Prop} (k : post (nI (piO x j)) σ) : wX7_personInRow x (nI j) post σ := by
  show post ((x >>> (((3 : Int32) * nI j) &&& 31)) &&& (7 : Int32)) σ
  rw [piO_eq]; exact k
def snO (x : Int32) : Nat → Nat
  | 0 => 0
  | j + 1 => snO x j ||| 2 ^ piO x j
theorem snO_lt (x : Int32) : ∀ j, snO x j < 2 ^ 8
  | 0 => (by decide : (0 : Nat) < 2 ^ 8)
  | j + 1 => Nat.or_lt_two_pow (snO_lt x j) (Nat.pow_lt_pow_right (by decide) (piO_lt x j))
def okO (x : Int32) (n j : Nat) : Prop := piO x j < n ∧ (snO x j).testBit (piO x j) = false
theorem qx_wholeRow {σ : hsS} {n : Nat} (hn : n ≤ 8) (e : σ.1 65 = nI n) (x : Int32) {post px : hsS → Prop} (k : (∀ j, j < n → okO x n j) → post σ) (k2 : (∃ j, j < n ∧ ¬ okO x n j) → px σ) : wX7_needWholeRow x post px σ := by
  refine ⟨n + 1, by omega, ?_⟩
  refine loop_i (fun f j (y : Int32) => wX7_needWholeRow_L4 x _ _ post px f y (nI j) σ) (fun j y => y = nI (snO x j) ∧ ∀ q, q < j → okO x n q) n ?_ ?_ (n + 1) 0 0 (Nat.zero_le _) (by omega) ⟨rfl, fun q hq => absurd hq (Nat.not_lt_zero _)⟩
  · intro f y e1
    rw [wX7_needWholeRow_L4]
    exact br_t (by rw [e]; exact nI_le (Nat.le_refl _) (by omega)) (k e1.2)
  · intro f j y hj e1 ih
    rw [wX7_needWholeRow_L4]
    have h8 := piO_lt x j; have hs8 := snO_lt x j
    refine br_f (by rw [e]; exact nI_ge hj (by omega)) (qx_pir ?_)
    rcases Nat.lt_or_ge (piO x j) n with z | z
    · refine qx_person e (by omega) z ?_
      rw [e1.1]
      refine ek_if (qb_testN (by omega) (by omega)) (fun c => ?_) (fun c => ?_)
      · exact k2 ⟨j, hj, fun o => by have o2 := o.2; rw [c] at o2; exact absurd o2 (by decide)⟩
      · refine nm_e (nm_e ?_)
        rw [nI_1, qb_one _ (by omega), fa_or]
        refine ih _ ⟨rfl, fun q hq => ?_⟩
        rcases Nat.lt_or_ge q j with y1 | y1
        · exact e1.2 q y1
        · have : q = j := by omega
          subst this; exact ⟨z, by simpa using c⟩
    · exact qx_personNo e (Or.inr (nI_le z (by omega))) (k2 ⟨j, hj, fun o => by have := o.1; omega⟩)
theorem qm_wholeRow {σ : hsS} {n : Nat} (hn : n ≤ 8) (x : Int32) {post : Int32 → hsS → Prop} (K1 K2 : Int32 → Int32 → hsS → Prop) (k : (∀ j, j < n → okO x n j) → ∀ y z, K2 y z σ) (k2 : (∃ j, j < n ∧ ¬ okO x n j) → ∀ y z, K1 y z σ) : ∃ f, wX8_some_L17 x (nI n) K1 K2 post f 0 0 σ :=
  pk_loop (fun f j (y : Int32) => wX8_some_L17 x (nI n) K1 K2 post f y (nI j) σ) (fun j y => y = nI (snO x j) ∧ ∀ q, q < j → okO x n q) n 0 0 (Nat.zero_le _) ⟨rfl, fun q hq => absurd hq (Nat.not_lt_zero _)⟩
    (fun f y e1 => by
      rw [wX8_some_L17]
      exact br_t (nI_le (Nat.le_refl _) (by omega)) (k e1.2 _ _))
    (fun f j y hj e1 ih => by
      rw [wX8_some_L17]
      have h8 := piO_lt x j; have hs8 := snO_lt x j
      refine br_f (nI_ge hj (by omega)) (nm_r (piO_eq x j) (pk_le n (piO x j) (fun z => ?_) (fun z => ?_)))
      · exact k2 ⟨j, hj, fun o => by have := o.1; omega⟩ _ _
      · rw [e1.1]
        refine ek_if (qb_testN (by omega) (by omega)) (fun c => ?_) (fun c => ?_)
        · exact k2 ⟨j, hj, fun o => by have o2 := o.2; rw [c] at o2; exact absurd o2 (by decide)⟩ _ _
        · refine nm_e (nm_e ?_)
          rw [nI_1, qb_one _ (by omega), fa_or]
          refine ih _ ⟨rfl, fun q hq => ?_⟩
          rcases Nat.lt_or_ge q j with y1 | y1
          · exact e1.2 q y1
          · have : q = j := by omega
            subst this; exact ⟨z, by simpa using c⟩)
/-- one strikes k times -/
def soO (f : Nat → Nat) (m left : Nat) : Nat → Nat
  | 0 => left
  | k + 1 => spO f m (soO f m left k)
theorem soO_lt {f : Nat → Nat} {m left : Nat} (h : left < 2 ^ m) : ∀ k, soO f m left k < 2 ^ m
  | 0 => h
  | k + 1 => spO_lt (soO_lt h k)
theorem soO_stop {f : Nat → Nat} {m left k : Nat} (h : qs_sz (soO f m left k) < 2) : ∀ d, soO f m left (k + d) = soO f m left k
  | 0 => rfl
  | d + 1 => by
    have ih := soO_stop h d
    show spO f m (soO f m left (k + d)) = _
    rw [ih]; unfold spO; rw [if_pos h]
def smO (A : AH) (x : Int32) : Nat → Nat
  | 0 => 2 ^ aM A - 1
  | j + 1 => soO (aP A (piO x j)) (aM A) (smO A x j) (aMay A (aM A) (aAW A) (2 ^ piO x j))
theorem smO_lt (A : AH) (x : Int32) : ∀ j, smO A x j < 2 ^ aM A
  | 0 => by have := Nat.two_pow_pos (aM A); show 2 ^ aM A - 1 < _; omega
  | j + 1 => soO_lt (smO_lt A x j) _
theorem qx_strikeOften {σ : hsS} (ha : AW A) (h : HX 1 A σ) {post : Int32 → hsS → Prop} {p left k : Nat} (hp : p < aN A) (hl : left < 2 ^ aM A) (hk : k < 2 ^ 30) (kk : post (nI (soO (aP A p) (aM A) left k)) σ) : wX1_strikeOften 1 (nI p) (nI left) (nI k) post σ := by
  have L : ∀ K : Int32 → Int32 → hsS → Prop, (∀ z, K (nI (soO (aP A p) (aM A) left k)) z σ) → ∃ n, wX1_strikeOften_L6 1 (nI p) (nI left) (nI k) K post n (nI left) 0 σ := fun K kx =>
    pk_loop (fun n j (y : Int32) => wX1_strikeOften_L6 1 (nI p) (nI left) (nI k) K post n y (nI j) σ) (fun j y => y = nI (soO (aP A p) (aM A) left j)) k 0 (nI left) (Nat.zero_le _) rfl
      (fun n y e => by
        rw [wX1_strikeOften_L6]
        exact br_t (nI_le (Nat.le_refl _) (by omega)) (by rw [e]; exact kx _))
      (fun n j y hj e ih => by
        rw [wX1_strikeOften_L6]
        refine br_f (nI_ge hj (by omega)) ?_
        rw [e]
        refine qx_strikePlainly ha h hp (soO_lt hl j) (nm_e ?_)
        rw [nI_1]
        exact ih _ rfl)
  exact L _ (fun _ => kk)
theorem qm_strikeOften {σ : hsS} {P : Nat → Nat → Nat} {m n : Nat} (hl : LK P m n σ) {post : Int32 → hsS → Prop} {z1 z2 z3 z5 : Int32} {p left k : Nat} (hp : p < n) (hlt : left < 2 ^ m) (hk : k < 2 ^ 30) (K : Int32 → Int32 → hsS → Prop) (kk : ∀ z, K (nI (soO (P p) m left k)) z σ) : ∃ f, wX8_some_L124 z1 z2 z3 z5 (nI p) (nI k) K post f (nI left) 0 σ := by
  have hm := hl.2.1
  have hm9 : 2 ^ m ≤ 2 ^ 10 := Nat.pow_le_pow_right (by decide) hm
  exact pk_loop (fun f j (y : Int32) => wX8_some_L124 z1 z2 z3 z5 (nI p) (nI k) K post f y (nI j) σ) (fun j y => y = nI (soO (P p) m left j)) k 0 (nI left) (Nat.zero_le _) rfl
    (fun n y e => by
      rw [wX8_some_L124]
      exact br_t (nI_le (Nat.le_refl _) (by omega)) (by rw [e]; exact kk _))
    (fun n j y hj e ih => by
      rw [wX8_some_L124]
      have hsl := soO_lt (f := P p) hlt j
      have hsz := qs_sz_le (soO (P p) m left j)
      refine br_f (nI_ge hj (by omega)) ?_
      rw [e]
      refine qm_sizeOf (by omega) (pk_le (qs_sz (soO (P p) m left j)) 1 (fun c => ?_) (fun c => ?_))
      · have := soO_stop (f := P p) (m := m) (left := left) (k := j) (by omega) (k - j)
        rw [show j + (k - j) = k by omega] at this
        rw [← this]; exact kk _
      · refine qm_plainly hl hp (by omega) (nm_e (nm_e ?_))
        have h0 : soO (P p) m left j ≠ 0 := fun e => by rw [e] at c; revert c; decide
        obtain ⟨t, ht, hb⟩ := qs_some hsl h0
        obtain ⟨w, ew⟩ := psO_some (P p) (soO (P p) m left j) m t ht hb
        have hw := psO_in _ _ _ _ ew
        rw [ew]
        show wX8_some_L124 z1 z2 z3 z5 (nI p) (nI k) K post _ (nI _ &&& (((1 : Int32) <<< (nI w &&& 31)) ^^^ (-1 : Int32))) _ σ
        rw [qb_cl _ (by omega), nI_1]
        refine ih _ ?_
        show _ = nI (spO _ _ _)
        unfold spO; rw [if_neg (by omega), ew])
theorem op_11 (f : Nat → Int64) (a1 : Int32) (h : RR i σx σm) : lo_11 f a1 (RR (i + 6)) σx σm := by
  obtain ⟨A, g, v, h⟩ := h
  unfold lo_11 wX7_some
  have ha := rb_aw h; have hn := aw_n ha; have hm := aw_m ha; have hx := rb_hx h
  refine qx_wholeRow hn (rb_x65 h) a1 (fun hok => ?_) (fun hno => ?_)
  · have hpn : ∀ j, j < aN A → piO a1 j < aN A := fun j hj => (hok j hj).1
    have hmy : ∀ j, aMay A (aM A) (aAW A) (2 ^ piO a1 j) < 2 ^ 30 := fun j => by
      have := aMay_le (A := A) (m := aM A) (aw := aAW A) (s := 2 ^ piO a1 j); omega
    refine qx_allThings ha hx ?_
    have L : ∀ (post : Int32 → hsS → Prop) (px : hsS → Prop) (K : Int32 → Int32 → hsS → Prop), (∀ z, K (nI (smO A a1 (aN A))) z σx) → ∃ n, wX7_some_L15 a1 K post px n (nI (2 ^ aM A - 1)) 0 σx := fun post px K kk =>
      pk_loop (fun n j (y : Int32) => wX7_some_L15 a1 K post px n y (nI j) σx) (fun j y => y = nI (smO A a1 j)) (aN A) 0 (nI (2 ^ aM A - 1)) (Nat.zero_le _) rfl
        (fun n y e => by
          rw [wX7_some_L15]
          exact br_t (by rw [rb_x65 h]; exact nI_le (Nat.le_refl _) (by omega)) (by rw [e]; exact kk _))
        (fun n j y hj e ih => by
          rw [wX7_some_L15]
          refine br_f (by rw [rb_x65 h]; exact nI_ge hj (by omega)) (qx_pir ?_)
          have hp := hpn j hj
          rw [qb_one _ (by omega), e]
          refine qx_mayStrike ha hx _ ?_
          rw [qb_in_nI (by omega) (Nat.pow_lt_pow_right (by decide) hp)]
          refine qx_strikeOften ha hx hp (smO_lt A a1 j) (hmy j) (nm_e ?_)
          rw [nI_1]
          exact ih _ rfl)
    refine L _ _ _ (fun _ => ?_)
    intro S hS
    obtain ⟨h1, h2⟩ := m0 hS
    have hM := (rb_mh h).fr h1 (by decide)
    refine nm_r (mh_n hM) (qm_wholeRow hn a1 _ _ (fun _ y z => ?_) (fun hno => ?_))
    · refine qm_look ha (rb_gw h) hM (fun s1 g1 g2 => ?_)
      have hM1 := hM.fr g1 (by decide)
      refine nm_r (by rw [lk_m g2, qb_all (by omega)]) ?_
      have L2 : ∀ (post : Int32 → hsS → Prop) (K : Int32 → Int32 → hsS → Prop), (∀ z, K (nI (smO A a1 (aN A))) z s1) → ∃ n, wX8_some_L86 a1 y (nI (aN A)) K post n (nI (2 ^ aM A - 1)) 0 s1 := fun post K kk =>
        pk_loop (fun n j (y' : Int32) => wX8_some_L86 a1 y (nI (aN A)) K post n y' (nI j) s1) (fun j y' => y' = nI (smO A a1 j)) (aN A) 0 (nI (2 ^ aM A - 1)) (Nat.zero_le _) rfl
          (fun n y' e => by
            rw [wX8_some_L86]
            exact br_t (nI_le (Nat.le_refl _) (by omega)) (by rw [e]; exact kk _))
          (fun n j y' hj e ih => by
            rw [wX8_some_L86]
            have hp := hpn j hj
            refine br_f (nI_ge hj (by omega)) (nm_r (piO_eq a1 j) (qm_everybody ha hM1 ?_))
            rw [lk_m g2, qb_one _ (by omega), e]
            refine qm_mayOfAll ha hM1 ⟨by omega, by omega⟩ (Nat.pow_lt_pow_right (by decide) hp) ?_
            refine qm_strikeOften g2 hp (smO_lt A a1 j) (hmy j) _ (fun z => nm_e ?_)
            rw [nI_1]
            exact ih _ rfl)
      exact L2 _ _ (fun _ => thr_ok (by rw [g1.1 0 (by decide)]; exact h2) ⟨rfl, fun _ => rfl, h.ml (h1.f0.trans (g1.weak (by decide) (by decide)))⟩)
    · obtain ⟨j, hj, hno⟩ := hno
      exact absurd (hok j hj) hno
  · intro S hS
    obtain ⟨h1, h2⟩ := m0 hS
    have hM := (rb_mh h).fr h1 (by decide)
    refine nm_r (mh_n hM) (qm_wholeRow hn a1 _ _ (fun hok => ?_) (fun _ y z => ?_))
    · obtain ⟨j, hj, hno⟩ := hno
      exact absurd (hok j hj) hno
    · exact qm_fail h1 (fun S' g1 g2 => thr_ok g2 ⟨rfl, fun e => absurd e (by decide), h.m g1⟩)
theorem op_19 (f : Nat → Int64) (a1 a2 : Int32) (h : RR i σx σm) : lo_19 f a1 a2 (RR (i + 6)) σx σm := by
  obtain ⟨A, g, v, h⟩ := h
  unfold lo_19 wX7_grumble
  have ha := rb_aw h; have hn := aw_n ha; have hm := aw_m ha; have hx := rb_hx h
  rcases ix_of a1 (n := aM A) (by omega) with z | ⟨t, ht, rfl⟩
  · refine qx_thingNo (rb_x64 h) z (fun S hS => ?_)
    obtain ⟨h1, h2⟩ := m0 hS
    exact qm_thingNo (mh_m ((rb_mh h).fr h1 (by decide))) (by omega) z (br_t rfl (qm_fail h1 (fun S' g1 g2 => thr_ok g2 ⟨rfl, fun e => absurd e (by decide), h.m g1⟩)))
  · refine qx_thing (rb_x64 h) (by omega) ht ?_
    rcases ix_of a2 (n := 2) (by omega) with z | ⟨w, hw, rfl⟩
    · refine br_f (ix_ne (j := 0) z (by decide) (by decide)) (br_f (ix_ne (j := 1) z (by decide) (by decide)) (fun S hS => ?_))
      obtain ⟨h1, h2⟩ := m0 hS
      refine qm_thing (mh_m ((rb_mh h).fr h1 (by decide))) (by omega) ht (br_f (by decide) (ix_le (k := 1) (by decide) z ?_))
      exact qm_fail h1 (fun S' g1 g2 => thr_ok g2 ⟨rfl, fun e => absurd e (by decide), h.m g1⟩)
    · refine pk_eq w 0 (fun c => ?_) (fun c => ?_)
      · refine qx_greatestGrumble ha hx ht (fun S hS => ?_)
        obtain ⟨h1, h2⟩ := m0 hS
        have hM := (rb_mh h).fr h1 (by decide)
        refine qm_thing (mh_m hM) (by omega) ht (br_f (by decide) (br_f (nI_pos (by omega)) (br_t (nI_le (b := 1) (by omega) (by decide)) (qm_look ha (rb_gw h) hM (fun S2 g1 g2 => br_t (by rw [c]; rfl) ?_)))))
        exact qm_greatest g2 (mh_n (hM.fr g1 (by decide))) ht (thr_ok (by rw [g1.1 0 (by decide)]; exact h2) ⟨rfl, fun _ => rfl, h.ml (h1.f0.trans (g1.weak (by decide) (by decide)))⟩)
      · refine br_t (by rw [show w = 1 by omega]; rfl) (qx_wholeGrumble ha hx ht (fun S hS => ?_))
        obtain ⟨h1, h2⟩ := m0 hS
        have hM := (rb_mh h).fr h1 (by decide)
        refine qm_thing (mh_m hM) (by omega) ht (br_f (by decide) (br_f (nI_pos (by omega)) (br_t (nI_le (b := 1) (by omega) (by decide)) (qm_look ha (rb_gw h) hM (fun S2 g1 g2 => br_f (nI_ne0 (by omega) (by omega)) ?_)))))
        exact qm_weighed g2 (mh_n (hM.fr g1 (by decide))) (fun p hp => mh_w (hM.fr g1 (by decide)) hp) ht (thr_ok (by rw [g1.1 0 (by decide)]; exact h2) ⟨rfl, fun _ => rfl, h.ml (h1.f0.trans (g1.weak (by decide) (by decide)))⟩)
theorem op_21 (f : Nat → Int64) (a1 : Int32) (h : RR i σx σm) : lo_21 f a1 (RR (i + 6)) σx σm := by
  obtain ⟨A, g, v, h⟩ := h
  unfold lo_21 wX7_heads
  have ha := rb_aw h; have hn := aw_n ha; have hm := aw_m ha; have hx := rb_hx h
  rcases ix_of a1 (n := aM A) (by omega) with z | ⟨t, ht, rfl⟩
  · refine qx_thingNo (rb_x64 h) z (fun S hS => ?_)
    obtain ⟨h1, h2⟩ := m0 hS
    exact qm_thingNo (mh_m ((rb_mh h).fr h1 (by decide))) (by omega) z (br_t rfl (qm_fail h1 (fun S' g1 g2 => thr_ok g2 ⟨rfl, fun e => absurd e (by decide), h.m g1⟩)))
  · refine qx_thing (rb_x64 h) (by omega) ht (qx_headWeight ha hx ht (fun S hS => ?_))
    obtain ⟨h1, h2⟩ := m0 hS
    have hM := (rb_mh h).fr h1 (by decide)
    refine qm_thing (mh_m hM) (by omega) ht (br_f (by decide) (qm_look ha (rb_gw h) hM (fun S2 g1 g2 => ?_)))
    have hM2 := hM.fr g1 (by decide)
    exact qm_headsOf g2 (mh_n hM2) (fun p hp => mh_w hM2 hp) (fun p hp => mh_nm hM2 hp) ht (thr_ok (by rw [g1.1 0 (by decide)]; exact h2) ⟨rfl, fun _ => rfl, h.ml (h1.f0.trans (g1.weak (by decide) (by decide)))⟩)
end OpB
