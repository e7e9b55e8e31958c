/-! ===== calls: the least grumbled, the head ===== -/
def lsO (gg wg : Nat → Nat) (a c : Nat) : Bool := decide (gg a < gg c) || (decide (gg a = gg c) && decide (wg a < wg c))
/-- the least grumbled among the things below j -/
def lgO (gg wg : Nat → Nat) (am : Nat) : Nat → Option Nat
  | 0 => none
  | j + 1 => if am.testBit j = true then (match lgO gg wg am j with | none => some j | some w => if lsO gg wg j w = true then some j else some w) else lgO gg wg am j
theorem lgO_succ (gg wg : Nat → Nat) (am j : Nat) : lgO gg wg am (j + 1) = if am.testBit j = true then (match lgO gg wg am j with | none => some j | some w => if lsO gg wg j w = true then some j else some w) else lgO gg wg am j := rfl
theorem lgO_in (gg wg : Nat → Nat) (am : Nat) : ∀ (j w : Nat), lgO gg wg am j = some w → w < j
  | 0, w, h => absurd h (by simp [lgO])
  | j + 1, w, h => by
    rw [lgO_succ] at h
    split at h
    · split at h
      · cases h; omega
      · rename_i v e
        split at h
        · cases h; omega
        · cases h; have := lgO_in gg wg am j w e; omega
    · have := lgO_in gg wg am j w h; omega
theorem lgO_some (gg wg : Nat → Nat) (am : Nat) : ∀ (j t : Nat), t < j → am.testBit t = true → ∃ w, lgO gg wg am j = some w
  | 0, t, h, _ => by omega
  | j + 1, t, ht, hb => by
    rw [lgO_succ]
    split
    · split
      · exact ⟨_, rfl⟩
      · split
        · exact ⟨_, rfl⟩
        · exact ⟨_, rfl⟩
    · rename_i c
      rcases Nat.lt_or_ge t j with z | z
      · exact lgO_some gg wg am j t z hb
      · have : t = j := by omega
        subst this; exact absurd hb c
/-- the ends to choose among -/
def amA (A : AH) : Nat := if coA A = 0 then 2 ^ aM A - 1 else coA A
def ggA (A : AH) (t : Nat) : Nat := ggO (aP A) t (aN A)
def wgA (A : AH) (t : Nat) : Nat := wgO (aP A) (aW A) t (aN A)
def leA (A : AH) : Option Nat := lgO (ggA A) (wgA A) (amA A) (aM A)
theorem coA_lt (A : AH) : coA A < 2 ^ aM A := coO_lt _ _ _ _
theorem amA_lt (A : AH) : amA A < 2 ^ aM A := by
  unfold amA; split
  · have := Nat.two_pow_pos (aM A); omega
  · exact coA_lt A
theorem leA_some {A : AH} (ha : AW A) : ∃ w, leA A = some w ∧ w < aM A := by
  have hm := aw_m ha
  have h0 : amA A ≠ 0 := by
    unfold amA; split
    · have h2 : 2 ^ 2 ≤ 2 ^ aM A := Nat.pow_le_pow_right (by decide) hm.1
      omega
    · assumption
  obtain ⟨t, ht, hb⟩ := qs_some (amA_lt A) h0
  obtain ⟨w, e⟩ := lgO_some (ggA A) (wgA A) (amA A) (aM A) t ht hb
  exact ⟨w, e, lgO_in _ _ _ _ _ e⟩
theorem ggA_le {A : AH} (ha : AW A) {t : Nat} (ht : t < aM A) : ggA A t ≤ 9 := by
  have hm := aw_m ha
  have := ggO_le (P := aP A) (t := t) (m := aM A) (aN A) (fun p hp => aw_p ha hp ht)
  unfold ggA; omega
theorem wgA_le {A : AH} (ha : AW A) {t : Nat} (ht : t < aM A) : wgA A t ≤ 8 * 891 := by
  have hm := aw_m ha; have hn := aw_n ha
  have := wgO_le (P := aP A) (W := aW A) (t := t) (j := aN A) (fun p hp => ⟨by have := aw_p ha hp ht; omega, (aw_w ha hp).2⟩)
  exact Nat.le_trans this (Nat.mul_le_mul_right 891 hn)
section OpC
variable {A : AH} {g : Nat → Nat → Nat} {v i : Nat} {σx σm : hsS}
theorem qx_grumblesLess {σ : hsS} (ha : AW A) (h : HX 1 A σ) {post : Int32 → hsS → Prop} {a c : Nat} (hta : a < aM A) (htc : c < aM A) (k : post (nI (if lsO (ggA A) (wgA A) a c = true then 1 else 0)) σ) : wX7_grumblesLess (nI a) (nI c) post σ := by
  have h1 := ggA_le ha hta; have h2 := ggA_le ha htc; have h3 := wgA_le ha hta; have h4 := wgA_le ha htc
  refine qx_greatestGrumble ha h hta (qx_greatestGrumble ha h htc ?_)
  refine pk_lt (ggA A a) (ggA A c) (fun z => ?_) (fun z => ?_)
  · rw [if_pos (by unfold lsO; simp [z])] at k; exact k
  · refine pk_eq (ggA A a) (ggA A c) (fun z2 => ?_) (fun z2 => ?_)
    · refine qx_wholeGrumble ha h hta (qx_wholeGrumble ha h htc ?_)
      refine pk_le (wgA A c) (wgA A a) (fun z3 => ?_) (fun z3 => ?_)
      · rw [if_neg (by unfold lsO; simp; omega)] at k; exact k
      · rw [if_pos (by unfold lsO; simp [z2, z3])] at k; exact k
    · rw [if_neg (by unfold lsO; simp; omega)] at k; exact k
theorem qx_leastLoop {σ : hsS} (ha : AW A) (h : HX 1 A σ) {post : Int32 → hsS → Prop} {z1 : Int32} {am : Nat} (hl : am < 2 ^ aM A) (K : Int32 → Int32 → hsS → Prop) (k : ∀ z, K (eO (lgO (ggA A) (wgA A) am (aM A))) z σ) : ∃ n, wX7_leastGrumbled_L33 z1 (nI am) K post n (-1) 0 σ := by
  have hm := aw_m ha
  have hm9 : 2 ^ aM A ≤ 2 ^ 9 := Nat.pow_le_pow_right (by decide) hm.2
  have e64 : σ.1 64 = nI (aM A) := hx_m h
  exact pk_loop (fun n j (y : Int32) => wX7_leastGrumbled_L33 z1 (nI am) K post n y (nI j) σ) (fun j y => y = eO (lgO (ggA A) (wgA A) am j)) (aM A) 0 (-1) (Nat.zero_le _) rfl
    (fun n y e => by
      rw [wX7_leastGrumbled_L33]
      exact br_t (by rw [e64]; exact nI_le (Nat.le_refl _) (by omega)) (by rw [e]; exact k _))
    (fun n j y hj e ih => by
      rw [wX7_leastGrumbled_L33]
      refine br_f (by rw [e64]; exact nI_ge hj (by omega)) (ek_if (qb_testN (by omega) (by omega)) (fun c => ?_) (fun c => ?_))
      · cases e2 : lgO (ggA A) (wgA A) am j with
        | none =>
          rw [e2] at e
          refine br_t e (nm_e ?_)
          rw [nI_1]
          refine ih _ ?_
          rw [lgO_succ, if_pos c, e2]; rfl
        | some w =>
          rw [e2] at e
          have hw := lgO_in _ _ _ _ _ e2
          have e9 : y = nI w := e
          refine br_f (by rw [e9]; exact pk_nm1 (by omega)) ?_
          rw [e9]
          refine qx_grumblesLess ha h hj (by omega) ?_
          cases hb : lsO (ggA A) (wgA A) j w with
          | false =>
            refine br_t rfl (nm_e ?_)
            rw [nI_1]
            refine ih _ ?_
            rw [lgO_succ, if_pos c, e2]; dsimp only; rw [if_neg (by rw [hb]; decide)]; rfl
          | true =>
            refine br_f (by decide) (nm_e ?_)
            rw [nI_1]
            refine ih _ ?_
            rw [lgO_succ, if_pos c, e2]; dsimp only; rw [if_pos hb]; rfl
      · refine nm_e ?_
        rw [nI_1]
        refine ih _ ?_
        rw [lgO_succ, if_neg c]; exact e)
theorem qx_leastGrumbled {σ : hsS} (ha : AW A) (h : HX 1 A σ) {post : Int32 → hsS → Prop} (k : ∀ σ', FRm [] [19, 20] σ σ' → post (eO (leA A)) σ') : wX7_leastGrumbled post σ := by
  have hm := aw_m ha
  have hm9 : 2 ^ aM A ≤ 2 ^ 9 := Nat.pow_le_pow_right (by decide) hm.2
  have hcl := coA_lt A
  refine qx_coreOf ha h (by decide) (fun s2 f1 => ?_)
  have f2 : FRm [] [19, 20] σ s2 := f1
  have h2 : HX 1 A s2 := h.fr f2 (by decide) (by decide)
  refine pk_eq (coA A) 0 (fun c => ?_) (fun c => ?_) rfl rfl (by omega)
  · refine qx_allThings ha h2 (qx_leastLoop ha h2 (am := 2 ^ aM A - 1) (by have := Nat.two_pow_pos (aM A); omega) _ (fun z => ?_))
    have := k s2 f2; unfold leA amA at this; rw [if_pos c] at this; exact this
  · refine qx_leastLoop ha h2 (am := coA A) hcl _ (fun z => ?_)
    have := k s2 f2; unfold leA amA at this; rw [if_neg c] at this; exact this
theorem qm_cmp {σ : hsS} (ha : AW A) (h : MH A g σ) (hl : LK (aP A) (aM A) (aN A) σ) {a c : Nat} (hta : a < aM A) (htc : c < aM A) {Y N : hsS → Prop} (ky : lsO (ggA A) (wgA A) a c = true → Y σ) (kn : lsO (ggA A) (wgA A) a c = false → N σ) : wX8_greatest (nI a) (fun r11 σ12 => wX8_greatest (nI c) (fun r13 σ14 => ((r11 < r13 → Y σ14) ∧ (¬ r11 < r13 → wX8_greatest (nI a) (fun r17 σ18 => wX8_greatest (nI c) (fun r19 σ20 => ((r17 = r19 → wX8_weighed (nI a) (fun r22 σ23 => wX8_weighed (nI c) (fun r24 σ25 => ((r24 ≤ r22 → N σ25) ∧ (¬ r24 ≤ r22 → Y σ25))) σ23) σ20) ∧ (¬ r17 = r19 → N σ20))) σ18) σ14))) σ12) σ := by
  have h1 := ggA_le ha hta; have h2 := ggA_le ha htc; have h3 := wgA_le ha hta; have h4 := wgA_le ha htc
  have hW : ∀ p, p < aN A → σ.2.1 7 p = nI (aW A p) := fun p hp => mh_w h hp
  refine qm_greatest hl (mh_n h) hta (qm_greatest hl (mh_n h) htc ?_)
  refine pk_lt (ggA A a) (ggA A c) (fun z => ky (by unfold lsO; simp [z])) (fun z => ?_)
  refine qm_greatest hl (mh_n h) hta (qm_greatest hl (mh_n h) htc ?_)
  refine pk_eq (ggA A a) (ggA A c) (fun z2 => ?_) (fun z2 => kn (by unfold lsO; simp; omega))
  refine qm_weighed hl (mh_n h) hW hta (qm_weighed hl (mh_n h) hW htc ?_)
  exact pk_le (wgA A c) (wgA A a) (fun z3 => kn (by unfold lsO; simp; omega)) (fun z3 => ky (by unfold lsO; simp [z2, z3]))
theorem qm_leastLoop {σ : hsS} (ha : AW A) (h : MH A g σ) (hl : LK (aP A) (aM A) (aN A) σ) {post : Int32 → hsS → Prop} (K : Int32 → Int32 → hsS → Prop) (k : ∀ z, K (eO (leA A)) z σ) : ∃ n, wX8_leastOf_L17 (nI (coA A)) K post n (-1) 0 σ := by
  have hm := aw_m ha
  have hm9 : 2 ^ aM A ≤ 2 ^ 9 := Nat.pow_le_pow_right (by decide) hm.2
  have hcl := coA_lt A
  refine pk_loop (fun n j (y : Int32) => wX8_leastOf_L17 (nI (coA A)) K post n y (nI j) σ) (fun j y => y = eO (lgO (ggA A) (wgA A) (amA A) j)) (aM A) 0 (-1) (Nat.zero_le _) rfl
    (fun n y e => by
      rw [wX8_leastOf_L17]
      exact br_t (by rw [lk_m hl]; exact nI_le (Nat.le_refl _) (by omega)) (by rw [e]; exact k _)) ?_
  intro n j y hj e ih
  rw [wX8_leastOf_L17]
  refine br_f (by rw [lk_m hl]; exact nI_ge hj (by omega)) (pk_eq (coA A) 0 (fun c0 => ?_) (fun c0 => ?_) rfl rfl (by omega))
  · have c : (amA A).testBit j = true := by unfold amA; rw [if_pos c0, qs_full]; simp [hj]
    cases e2 : lgO (ggA A) (wgA A) (amA A) j with
    | none =>
      rw [e2] at e
      refine br_t e (nm_e ?_)
      rw [nI_1]
      refine ih _ ?_
      rw [lgO_succ, if_pos c, e2]; rfl
    | some w =>
      rw [e2] at e
      have hw := lgO_in _ _ _ _ _ e2
      have e9 : y = nI w := e
      refine br_f (by rw [e9]; exact pk_nm1 (by omega)) ?_
      rw [e9]
      refine qm_cmp ha h hl hj (by omega) (fun hb => nm_e ?_) (fun hb => nm_e ?_)
      · rw [nI_1]
        refine ih _ ?_
        rw [lgO_succ, if_pos c, e2]; dsimp only; rw [if_pos hb]; rfl
      · rw [nI_1]
        refine ih _ ?_
        rw [lgO_succ, if_pos c, e2]; dsimp only; rw [if_neg (by rw [hb]; decide)]; rfl
  · have ham : amA A = coA A := by unfold amA; rw [if_neg c0]
    refine ek_if (qb_test0 (by omega) (by omega)) (fun c => ?_) (fun c => ?_)
    · refine nm_e ?_
      rw [nI_1]
      refine ih _ ?_
      rw [lgO_succ, if_neg (by rw [ham, c]; decide)]; exact e
    · have c : (amA A).testBit j = true := by rw [ham]; simpa using c
      cases e2 : lgO (ggA A) (wgA A) (amA A) j with
      | none =>
        rw [e2] at e
        refine br_t e (nm_e ?_)
        rw [nI_1]
        refine ih _ ?_
        rw [lgO_succ, if_pos c, e2]; rfl
      | some w =>
        rw [e2] at e
        have hw := lgO_in _ _ _ _ _ e2
        have e9 : y = nI w := e
        refine br_f (by rw [e9]; exact pk_nm1 (by omega)) ?_
        rw [e9]
        refine qm_cmp ha h hl hj (by omega) (fun hb => nm_e ?_) (fun hb => nm_e ?_)
        · rw [nI_1]
          refine ih _ ?_
          rw [lgO_succ, if_pos c, e2]; dsimp only; rw [if_pos hb]; rfl
        · rw [nI_1]
          refine ih _ ?_
          rw [lgO_succ, if_pos c, e2]; dsimp only; rw [if_neg (by rw [hb]; decide)]; rfl
theorem qm_leastOf {σ S : hsS} (h : RB A g v i σx σ) (h1 : FRm [0] [] σ S) {post : Int32 → hsS → Prop} (k : ∀ S', FRm [0, 25, 28, 29, 30] [13, 14, 15] σ S' → S'.1 0 = S.1 0 → S'.1 28 = σ.1 12 → MM A S' → LK (aP A) (aM A) (aN A) S' → post (eO (leA A)) S') : wX8_leastOf post S :=
  qm_lookCore h h1 (fun S' g1 g2 g3 g4 g5 => qm_leastLoop (rb_aw h) ((rb_mh h).fr g1 (by decide)) g5 _ (fun _ => k S' g1 g2 g3 g4 g5))
theorem op_20 (h : RR i σx σm) : lo_20 (RR (i + 6)) σx σm := by
  obtain ⟨A, g, v, h⟩ := h
  unfold lo_20 wX7_least
  refine qx_leastGrumbled (rb_aw h) (rb_hx h) (fun s2 f3 => ?_)
  have hX : RB A g v i s2 σm := h.frx (f3.weak (by decide) (by decide))
  intro S hS
  obtain ⟨h1, h2⟩ := m0 hS
  exact qm_leastOf h h1 (fun S' g1 g2 g3 g4 g5 => ⟨rfl, hX.mc g1 g3 g4⟩)
def hdA (A : AH) : Nat := tmO (fun t => hwO (aP A) (aW A) (aNm A) t (aN A)) (aM A - 1)
theorem qm_headLoop {σ : hsS} (ha : AW A) (h : MH A g σ) (hl : LK (aP A) (aM A) (aN A) σ) {post : Int32 → hsS → Prop} {z1 z2 : Int32} (K : Int32 → Int32 → hsS → Prop) (k : ∀ z, K (nI (hdA A)) z σ) : ∃ n, wX8_head_L30 z1 z2 K post n 0 1 σ := by
  have hm := aw_m ha; have hn := aw_n ha
  have hW : ∀ p, p < aN A → σ.2.1 7 p = nI (aW A p) := fun p hp => mh_w h hp
  have hN : ∀ p, p < aN A → σ.2.1 11 p = nI (if (aNm A).testBit p = true then 1 else 0) := fun p hp => mh_nm h hp
  exact pk_loop (fun n j (y : Int32) => wX8_head_L30 z1 z2 K post n y (nI j) σ) (fun j y => 1 ≤ j ∧ y = nI (tmO (fun t => hwO (aP A) (aW A) (aNm A) t (aN A)) (j - 1))) (aM A) 1 0 (by omega) ⟨Nat.le_refl _, rfl⟩
    (fun n y e => by
      rw [wX8_head_L30]
      exact br_t (by rw [lk_m hl]; exact nI_le (Nat.le_refl _) (by omega)) (by rw [e.2]; exact k _))
    (fun n j y hj e ih => by
      rw [wX8_head_L30]
      obtain ⟨i, rfl⟩ : ∃ i, j = i + 1 := ⟨j - 1, by omega⟩
      have hb := tmO_le (fun t => hwO (aP A) (aW A) (aNm A) t (aN A)) i
      have hle : ∀ t, hwO (aP A) (aW A) (aNm A) t (aN A) ≤ 8 * 99 := fun t => by
        have := hwO_le (P := aP A) (W := aW A) (nm := aNm A) (t := t) (j := aN A) (fun p hp => (aw_w ha hp).2); omega
      have h1 := hle (i + 1); have h2 := hle (tmO (fun t => hwO (aP A) (aW A) (aNm A) t (aN A)) i)
      refine br_f (by rw [lk_m hl]; exact nI_ge hj (by omega)) (qm_headsOf hl (mh_n h) hW hN hj ?_)
      rw [e.2]
      refine qm_headsOf hl (mh_n h) hW hN (by show tmO _ i < _; omega) ?_
      refine pk_le _ _ (fun c => ?_) (fun c => ?_) rfl rfl (by omega) (by show hwO _ _ _ (tmO _ i) _ < _; omega)
      · refine nm_e ?_
        rw [nI_1]
        refine ih _ ⟨by omega, ?_⟩
        exact (congrArg nI (if_neg (Nat.not_lt.mpr c))).symm
      · refine nm_e ?_
        rw [nI_1]
        refine ih _ ⟨by omega, ?_⟩
        exact (congrArg nI (if_pos c)).symm)
theorem op_22 (f : Nat → Int64) (a1 : Int32) (h : RR i σx σm) : lo_22 f a1 (RR (i + 6)) σx σm := by
  obtain ⟨A, g, v, h⟩ := h
  unfold lo_22 wX7_head
  have ha := rb_aw h; have hn := aw_n ha; have hm := aw_m ha; have hx := rb_hx h
  obtain ⟨w, ew, hw⟩ := leA_some ha
  have hhd : hdA A < aM A := by have := tmO_le (fun t => hwO (aP A) (aW A) (aNm A) t (aN A)) (aM A - 1); unfold hdA; omega
  rcases ix_of a1 (n := 2) (by omega) with z | ⟨j, hj, rfl⟩
  · refine br_f (ix_ne (j := 0) z (by decide) (by decide)) (br_f (ix_ne (j := 1) z (by decide) (by decide)) (fun S hS => ?_))
    obtain ⟨h1, h2⟩ := m0 hS
    refine ix_le (k := 1) (by decide) z ?_
    exact qm_fail h1 (fun S' g1 g2 => thr_ok g2 ⟨rfl, fun e => absurd e (by decide), h.m g1⟩)
  · refine pk_eq j 0 (fun c => ?_) (fun c => ?_)
    · refine qx_thingOfMostHeads ha hx (fun S hS => ?_)
      obtain ⟨h1, h2⟩ := m0 hS
      refine br_f (nI_pos (by omega)) (br_t (nI_le (b := 1) (by omega) (by decide)) (qm_leastOf h h1 (fun S' g1 g2 g3 g4 g5 => ?_)))
      refine qm_headLoop ha ((rb_mh h).fr g1 (by decide)) g5 _ (fun _ => br_t (by rw [c]; rfl) ?_)
      exact thr_ok (by rw [g2]; exact h2) ⟨rfl, fun _ => rfl, h.mc g1 g3 g4⟩
    · refine br_t (by rw [show j = 1 by omega]; rfl) (qx_thingOfMostHeads ha hx (qx_greatestGrumble ha hx hhd (qx_leastGrumbled ha hx (fun s2 f3 => ?_))))
      have hX : RB A g v i s2 σm := h.frx (f3.weak (by decide) (by decide))
      rw [ew]
      refine qx_greatestGrumble ha (hx.fr f3 (by decide) (by decide)) hw (fun S hS => ?_)
      obtain ⟨h1, h2⟩ := m0 hS
      refine br_f (nI_pos (by omega)) (br_t (nI_le (b := 1) (by omega) (by decide)) (qm_leastOf h h1 (fun S' g1 g2 g3 g4 g5 => ?_)))
      have hM := (rb_mh h).fr g1 (by decide)
      rw [ew]
      refine qm_headLoop ha hM g5 _ (fun _ => br_f (nI_ne0 (by omega) (by omega)) ?_)
      refine qm_greatest g5 (mh_n hM) hhd (qm_greatest g5 (mh_n hM) hw ?_)
      exact thr_ok (by rw [g2]; exact h2) ⟨rfl, fun _ => rfl, hX.mc g1 g3 g4⟩
end OpC
