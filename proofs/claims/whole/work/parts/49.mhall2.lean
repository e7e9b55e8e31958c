section MhH
variable {A : AH} {g : Nat → Nat → Nat} {σ : hsS}
theorem qm_placeOf (ha : AW A) (hg : GW A g) (h : MH A g σ) {post : Int32 → hsS → Prop} {p t : Nat} (hp : p < aN A) (ht : t < aM A) (k : post (nI (aP A p t)) σ) : wX8_placeOf (nI p) (nI t) (nI (aM A)) post σ := by
  have hn := aw_n ha; have hm := aw_m ha
  have L : ∀ K : Int32 → Int32 → hsS → Prop, K (nI (aP A p t)) (nI (aM A)) σ → ∃ n, wX8_placeOf_L6 (nI p) (nI t) (nI (aM A)) K post n 0 0 σ := fun K kk =>
    pk_loop (fun n j y => wX8_placeOf_L6 (nI p) (nI t) (nI (aM A)) K post n y (nI j) σ) (fun j y => y = nI (fb_ct (fun k => decide (g p k < g p t)) j)) (aM A) 0 0 (Nat.zero_le _) rfl
      (fun n y e => by
        rw [wX8_placeOf_L6]
        exact br_t (nI_le (Nat.le_refl _) (by omega)) (by rw [e, ← (hg p t hp ht).2]; exact kk))
      (fun n j y hj e ih => by
        rw [wX8_placeOf_L6]
        have h1 := (hg p t hp ht).1; have h2 := (hg p j hp hj).1
        refine br_f (nI_ge hj (by omega)) ⟨pk_in (10 * p + j) 160 (by omega) (qi_10 p j), pk_in (10 * p + t) 160 (by omega) (qi_10 p t), ?_⟩
        rw [qi_10, qi_10, nI_clamp (by omega), nI_clamp (by omega), mh_g h hp ht, mh_g h hp hj]
        refine pk_le (g p t) (g p j) (fun c => ?_) (fun c => ?_)
        · refine nm_e (nm_e ?_)
          rw [nI_1]
          refine ih _ ?_
          rw [fb_ct_succ, e, ← nI_0, nI_add]; simp [Nat.not_lt.mpr c]
        · refine nm_e (nm_e ?_)
          rw [nI_1]
          refine ih _ ?_
          rw [fb_ct_succ, e, nI_1]; simp [c])
  exact L _ k
theorem qm_look (ha : AW A) (hg : GW A g) (h : MH A g σ) {post : hsS → Prop} (k : ∀ σ', FRm [25] [13] σ σ' → LK (aP A) (aM A) (aN A) σ' → post σ') : wX8_look post σ := by
  have hn := aw_n ha; have hm := aw_m ha
  refine nm_e ?_
  rw [mh_m h]
  have hI : ∀ (p : Nat), p < aN A → ∀ (K : Int32 → hsS → Prop) (σ1 : hsS), (FRm [25] [13] σ σ1 ∧ σ1.1 25 = nI (aM A) ∧ ∀ p' t', p' < p → t' < aM A → σ1.2.1 13 (10 * p' + t') = nI (aP A p' t')) → (∀ σ2, FRm [25] [13] σ σ2 → σ2.1 25 = nI (aM A) → (∀ p' t', p' < p + 1 → t' < aM A → σ2.2.1 13 (10 * p' + t') = nI (aP A p' t')) → K (nI (aM A)) σ2) → ∃ n, wX8_look_L24 (nI p) K post n 0 σ1 := fun p hp K σ1 h1 kk =>
    pk_loop (fun n j (s : hsS) => wX8_look_L24 (nI p) K post n (nI j) s) (fun j s => FRm [25] [13] σ s ∧ s.1 25 = nI (aM A) ∧ (∀ p' t', p' < p → t' < aM A → s.2.1 13 (10 * p' + t') = nI (aP A p' t')) ∧ ∀ t', t' < j → s.2.1 13 (10 * p + t') = nI (aP A p t')) (aM A) 0 σ1 (Nat.zero_le _) ⟨h1.1, h1.2.1, h1.2.2, fun t' h9 => absurd h9 (Nat.not_lt_zero _)⟩
      (fun n s e => by
        obtain ⟨e1, e2, e3, e4⟩ := e
        rw [wX8_look_L24]
        refine br_t (by rw [e2]; exact nI_le (Nat.le_refl _) (by omega)) (kk s e1 e2 (fun p' t' hp' ht' => ?_))
        rcases Nat.lt_or_ge p' p with z | z
        · exact e3 p' t' z ht'
        · have : p' = p := by omega
          subst this; exact e4 t' ht')
      (fun n j s hj e ih => by
        obtain ⟨e1, e2, e3, e4⟩ := e
        rw [wX8_look_L24]
        refine br_f (by rw [e2]; exact nI_ge hj (by omega)) ?_
        rw [e2]
        have hMs : MH A g s := h.fr e1 (by decide)
        refine qm_placeOf ha hg hMs hp hj ⟨pk_in (10 * p + j) 80 (by omega) (qi_10 p j), nm_e (nm_e ?_)⟩
        rw [nI_1, qi_10, nI_clamp (by omega)]
        refine ih _ ⟨e1.trans (FRm.arr _ (by decide)), e2, ?_, ?_⟩
        · intro p' t' hp' ht'
          rw [hsA_at, pk_un (by omega)]; exact e3 p' t' hp' ht'
        · intro t' ht'
          rw [hsA_at]
          rcases Nat.decEq t' j with z | z
          · rw [pk_un (by omega)]; exact e4 t' (by omega)
          · subst z; exact pk_us)
  have L : ∀ (K : Int32 → hsS → Prop) (σ1 : hsS), FRm [25] [13] σ σ1 → σ1.1 25 = nI (aM A) → (∀ σ2, FRm [25] [13] σ σ2 → LK (aP A) (aM A) (aN A) σ2 → K (nI (aN A)) σ2) → ∃ n, wX8_look_L12 K post n 0 σ1 := fun K σ1 f1 f2 kk =>
    pk_loop (fun n j (s : hsS) => wX8_look_L12 K post n (nI j) s) (fun j s => FRm [25] [13] σ s ∧ s.1 25 = nI (aM A) ∧ (∀ p' t', p' < j → t' < aM A → s.2.1 13 (10 * p' + t') = nI (aP A p' t'))) (aN A) 0 σ1 (Nat.zero_le _) ⟨f1, f2, fun p' t' h9 => absurd h9 (Nat.not_lt_zero _)⟩
      (fun n s e => by
        obtain ⟨e1, e2, e3⟩ := e
        rw [wX8_look_L12]
        have hMs : MH A g s := h.fr e1 (by decide)
        refine br_t (by rw [mh_n hMs]; exact nI_le (Nat.le_refl _) (by omega)) (kk s e1 ⟨e2, by omega, hn, fun p t hp ht => ⟨e3 p t hp ht, ?_⟩⟩)
        have := aw_p ha hp ht; omega)
      (fun n j s hj e ih => by
        rw [wX8_look_L12]
        have hMs : MH A g s := h.fr e.1 (by decide)
        refine br_f (by rw [mh_n hMs]; exact nI_ge hj (by omega)) (hI j hj _ s e (fun σ2 g1 g2 g3 => nm_e ?_))
        rw [nI_1]
        exact ih _ ⟨g1, g2, g3⟩)
  exact L _ _ (FRm.int _ (by decide)) (hsI_at _ _ _) k
end MhH
section MhI
variable {P : Nat → Nat → Nat} {m n : Nat} {σ : hsS}
theorem lk_m (h : LK P m n σ) : σ.1 25 = nI m := h.1
theorem lk_p (h : LK P m n σ) {p t : Nat} (hp : p < n) (ht : t < m) : σ.2.1 13 (10 * p + t) = nI (P p t) := (h.2.2.2 p t hp ht).1
theorem lk_le (h : LK P m n σ) {p t : Nat} (hp : p < n) (ht : t < m) : P p t ≤ 10 := (h.2.2.2 p t hp ht).2
theorem qm_better (h : LK P m n σ) {post : Int32 → hsS → Prop} {p t : Nat} (hp : p < n) (ht : t < m) (k : post (nI (dearO (P p) t m)) σ) : wX8_better (nI p) (nI t) post σ := by
  have hm := h.2.1; have hn := h.2.2.1
  have L : ∀ K : Int32 → Int32 → hsS → Prop, K (nI (dearO (P p) t m)) (nI m) σ → ∃ n, wX8_better_L5 (nI p) (nI t) K post n 0 0 σ := fun K kk =>
    pk_loop (fun n j y => wX8_better_L5 (nI p) (nI t) K post n y (nI j) σ) (fun j y => y = nI (dearO (P p) t j)) m 0 0 (Nat.zero_le _) rfl
      (fun n y e => by
        rw [wX8_better_L5]
        exact br_t (by rw [lk_m h]; exact nI_le (Nat.le_refl _) (by omega)) (by rw [e]; exact kk))
      (fun n j y hj e ih => by
        rw [wX8_better_L5]
        have h1 := lk_le h hp ht; have h2 := lk_le h hp hj
        refine br_f (by rw [lk_m h]; exact nI_ge hj (by omega)) ⟨pk_in (10 * p + j) 80 (by omega) (qi_10 p j), pk_in (10 * p + t) 80 (by omega) (qi_10 p t), ?_⟩
        rw [qi_10, qi_10, nI_clamp (by omega), nI_clamp (by omega), lk_p h hp ht, lk_p h hp hj]
        refine pk_le (P p t) (P p j) (fun c => ?_) (fun c => ?_)
        · refine nm_e (nm_e ?_)
          rw [nI_1]
          refine ih _ ?_
          show _ = nI (qs_mk _ (j + 1)); rw [qs_mk_succ, if_neg (by simp; omega), e, ← nI_0, fa_or, Nat.or_zero]; rfl
        · refine nm_e (nm_e ?_)
          rw [nI_1]
          refine ih _ ?_
          show _ = nI (qs_mk _ (j + 1)); rw [qs_mk_succ, if_pos (by simp; omega), e, qb_one j (by omega), fa_or]; rfl)
  exact L _ k
theorem qm_keepOf (h : LK P m n σ) (hpn : σ.2.1 2 (0 : Int32).toNatClampNeg = nI n) {post : Int32 → hsS → Prop} (s : Int32) {t : Nat} (ht : t < m) (k : post (nI (kpO P m (qb_N s) t n)) σ) : wX8_keepOf s (nI t) post σ := by
  have hm := h.2.1; have hn := h.2.2.1
  have L : ∀ K : Int32 → Int32 → hsS → Prop, K (nI (kpO P m (qb_N s) t n)) (nI n) σ → ∃ n', wX8_keepOf_L12 s (nI t) K post n' (nI (2 ^ m - 1)) 0 σ := fun K kk =>
    pk_loop (fun n' j y => wX8_keepOf_L12 s (nI t) K post n' y (nI j) σ) (fun j y => y = nI (kpO P m (qb_N s) t j)) n 0 (nI (2 ^ m - 1)) (Nat.zero_le _) rfl
      (fun n y e => by
        rw [wX8_keepOf_L12]
        exact br_t (by rw [hpn]; exact nI_le (Nat.le_refl _) (by omega)) (by rw [e]; exact kk))
      (fun n j y hj e ih => by
        rw [wX8_keepOf_L12]
        refine br_f (by rw [hpn]; exact nI_ge hj (by omega)) (ek_if (qb_test s (j := j) (by omega)) (fun c => ?_) (fun c => ?_))
        · refine qm_better h hj ht (nm_e (nm_e ?_))
          rw [nI_1]
          refine ih _ ?_
          unfold kpO; rw [if_pos c, e, fa_and]
        · refine nm_e ?_
          rw [nI_1]
          refine ih _ ?_
          unfold kpO; rw [if_neg c]; exact e)
  refine nm_e ?_
  rw [lk_m h, qb_all (by omega)]
  exact L _ k
theorem qm_plainly (h : LK P m n σ) {post : Int32 → hsS → Prop} {p left : Nat} (hp : p < n) (hl : left < 2 ^ 31) (k : post (eO (psO (P p) left m)) σ) : wX8_plainly (nI p) (nI left) post σ := by
  have hm := h.2.1; have hn := h.2.2.1
  have L : ∀ K : Int32 → Int32 → hsS → Prop, K (eO (psO (P p) left m)) (nI m) σ → ∃ n, wX8_plainly_L5 (nI p) (nI left) K post n (-1) 0 σ := fun K kk =>
    pk_loop (fun n j y => wX8_plainly_L5 (nI p) (nI left) K post n y (nI j) σ) (fun j y => y = eO (psO (P p) left j)) m 0 (-1) (Nat.zero_le _) rfl
      (fun n y e => by
        rw [wX8_plainly_L5]
        exact br_t (by rw [lk_m h]; exact nI_le (Nat.le_refl _) (by omega)) (by rw [e]; exact kk))
      (fun n j y hj e ih => by
        rw [wX8_plainly_L5]
        refine br_f (by rw [lk_m h]; exact nI_ge hj (by omega)) (ek_if (qb_testN hl (j := j) (by omega)) (fun c => ?_) (fun c => ?_))
        · cases e2 : psO (P p) left j with
          | none =>
            rw [e2] at e
            refine br_t e (nm_e ?_)
            rw [nI_1]
            refine ih _ ?_
            rw [psO_succ, if_pos c, e2]; rfl
          | some w =>
            rw [e2] at e
            have hw := psO_in _ _ _ _ e2
            have h1 := lk_le h hp hj; have h2 := lk_le h hp (t := w) (by omega)
            have e9 : y = nI w := e
            refine br_f (by rw [e9]; exact pk_nm1 (by omega)) ?_
            rw [e9]
            refine ⟨pk_in (10 * p + j) 80 (by omega) (qi_10 p j), pk_in (10 * p + w) 80 (by omega) (qi_10 p w), ?_⟩
            rw [qi_10, qi_10, nI_clamp (by omega), nI_clamp (by omega), lk_p h hp hj, lk_p h hp (by omega)]
            refine pk_lt (P p j) (P p w) (fun c2 => ?_) (fun c2 => ?_)
            · refine nm_e ?_
              rw [nI_1]
              refine ih _ ?_
              rw [psO_succ, if_pos c, e2]; dsimp only; rw [if_pos c2]; rfl
            · refine nm_e ?_
              rw [nI_1]
              refine ih _ ?_
              rw [psO_succ, if_pos c, e2]; dsimp only; rw [if_neg (by omega)]; rfl
        · refine nm_e ?_
          rw [nI_1]
          refine ih _ ?_
          rw [psO_succ, if_neg c]; exact e)
  exact L _ k
/-- the turns of the row that lies ready, one after the other; there are always two left to choose from -/
theorem qm_plainEnd (h : LK P m n σ) {post : Int32 → hsS → Prop} {u : Nat → Nat} {nt : Nat} (hnt : nt + 1 ≤ m) (hu : ∀ i, i < nt → u i < n ∧ σ.2.1 16 i = nI (u i)) (k : post (nI (peO P m u nt)) σ) : wX8_plainEnd (nI nt) post σ := by
  have hm := h.2.1; have hn := h.2.2.1
  have L : ∀ K : Int32 → Int32 → hsS → Prop, K (nI (peO P m u nt)) (nI nt) σ → ∃ n, wX8_plainEnd_L11 (nI nt) K post n (nI (2 ^ m - 1)) 0 σ := fun K kk =>
    pk_loop (fun n j y => wX8_plainEnd_L11 (nI nt) K post n y (nI j) σ) (fun j y => y = nI (peO P m u j)) nt 0 (nI (2 ^ m - 1)) (Nat.zero_le _) rfl
      (fun n y e => by
        rw [wX8_plainEnd_L11]
        exact br_t (nI_le (Nat.le_refl _) (by omega)) (by rw [e]; exact kk))
      (fun n j y hj e ih => by
        rw [wX8_plainEnd_L11]
        have hl := peO_lt P m u j
        have hl9 : 2 ^ m ≤ 2 ^ 10 := Nat.pow_le_pow_right (by decide) hm
        have hsz := peO_sz P (m := m) (by omega) u j (by omega)
        refine br_f (nI_ge hj (by omega)) ⟨pk_in j 9 (by omega), ?_⟩
        rw [nI_clamp (by omega), (hu j hj).2, e]
        refine qm_plainly h (hu j hj).1 (by omega) (nm_e (nm_e ?_))
        have h0 : peO P m u j ≠ 0 := fun e => by rw [e] at hsz; have : qs_sz 0 = 0 := by decide
                                                 omega
        obtain ⟨t, ht, hb⟩ := qs_some hl h0
        obtain ⟨w, ew⟩ := psO_some (P (u j)) (peO P m u j) m t ht hb
        have hw := psO_in _ _ _ _ ew
        rw [ew]
        show wX8_plainEnd_L11 (nI nt) K post _ (nI _ &&& (((1 : Int32) <<< (nI w &&& 31)) ^^^ (-1 : Int32))) _ σ
        rw [qb_cl _ (by omega), nI_1]
        refine ih _ ?_
        show _ = nI (spO _ _ _)
        unfold spO; rw [if_neg (by omega), ew])
  refine nm_e ?_
  rw [lk_m h, qb_all (by omega)]
  exact L _ k
theorem qm_worst (h : LK P m n σ) {post : Int32 → hsS → Prop} {p bits : Nat} (hp : p < n) (hl : bits < 2 ^ 31) (k : post (nI (gpO (P p) bits m)) σ) : wX8_worst (nI p) (nI bits) post σ := by
  have hm := h.2.1; have hn := h.2.2.1
  have L : ∀ K : Int32 → Int32 → hsS → Prop, K (nI (gpO (P p) bits m)) (nI m) σ → ∃ n, wX8_worst_L5 (nI p) (nI bits) K post n 0 0 σ := fun K kk =>
    pk_loop (fun n j y => wX8_worst_L5 (nI p) (nI bits) K post n y (nI j) σ) (fun j y => y = nI (gpO (P p) bits j)) m 0 0 (Nat.zero_le _) rfl
      (fun n y e => by
        rw [wX8_worst_L5]
        exact br_t (by rw [lk_m h]; exact nI_le (Nat.le_refl _) (by omega)) (by rw [e]; exact kk))
      (fun n j y hj e ih => by
        rw [wX8_worst_L5]
        refine br_f (by rw [lk_m h]; exact nI_ge hj (by omega)) (ek_if (qb_testN hl (j := j) (by omega)) (fun c => ?_) (fun c => ?_))
        · have h1 := lk_le h hp hj
          have h2 := gpO_le (f := P p) (m := 11) bits j (fun t ht => by have := lk_le h hp (t := t) (by omega); omega)
          refine ⟨pk_in (10 * p + j) 80 (by omega) (qi_10 p j), nm_e (nm_e ?_)⟩
          rw [qi_10, nI_clamp (by omega), lk_p h hp hj, e, nI_max (by omega) (by omega), nI_1]
          refine ih _ ?_
          show _ = nI (if _ then _ else _); rw [if_pos c]
        · refine nm_e ?_
          rw [nI_1]
          refine ih _ ?_
          show _ = nI (if _ then _ else _); rw [if_neg c]; exact e)
  exact L _ k
theorem qm_sum (h : LK P m n σ) {post : Int32 → hsS → Prop} {p bits : Nat} (hp : p < n) (hl : bits < 2 ^ 31) (k : post (nI (suO (P p) bits m)) σ) : wX8_sum (nI p) (nI bits) post σ := by
  have hm := h.2.1; have hn := h.2.2.1
  have L : ∀ K : Int32 → Int32 → hsS → Prop, K (nI (suO (P p) bits m)) (nI m) σ → ∃ n, wX8_sum_L5 (nI p) (nI bits) K post n 0 0 σ := fun K kk =>
    pk_loop (fun n j y => wX8_sum_L5 (nI p) (nI bits) K post n y (nI j) σ) (fun j y => y = nI (suO (P p) bits j)) m 0 0 (Nat.zero_le _) rfl
      (fun n y e => by
        rw [wX8_sum_L5]
        exact br_t (by rw [lk_m h]; exact nI_le (Nat.le_refl _) (by omega)) (by rw [e]; exact kk))
      (fun n j y hj e ih => by
        rw [wX8_sum_L5]
        refine br_f (by rw [lk_m h]; exact nI_ge hj (by omega)) (ek_if (qb_testN hl (j := j) (by omega)) (fun c => ?_) (fun c => ?_))
        · refine ⟨pk_in (10 * p + j) 80 (by omega) (qi_10 p j), nm_e (nm_e ?_)⟩
          rw [qi_10, nI_clamp (by omega), lk_p h hp hj, e, nI_add, nI_1]
          refine ih _ ?_
          show _ = nI (fb_sm _ (j + 1)); rw [fb_sm_succ]; simp only [c, if_true]; rfl
        · refine nm_e (nm_e ?_)
          rw [nI_1]
          refine ih _ ?_
          show _ = nI (fb_sm _ (j + 1)); rw [fb_sm_succ, e]; simp only [c, ← nI_0, nI_add]; rfl)
  exact L _ k
theorem qm_greatest (h : LK P m n σ) (hpn : σ.2.1 2 (0 : Int32).toNatClampNeg = nI n) {post : Int32 → hsS → Prop} {t : Nat} (ht : t < m) (k : post (nI (ggO P t n)) σ) : wX8_greatest (nI t) post σ := by
  have hm := h.2.1; have hn := h.2.2.1
  have L : ∀ K : Int32 → Int32 → hsS → Prop, K (nI (ggO P t n)) (nI n) σ → ∃ n', wX8_greatest_L4 (nI t) K post n' 0 0 σ := fun K kk =>
    pk_loop (fun n' j y => wX8_greatest_L4 (nI t) K post n' y (nI j) σ) (fun j y => y = nI (ggO P t j)) n 0 0 (Nat.zero_le _) rfl
      (fun n y e => by
        rw [wX8_greatest_L4]
        exact br_t (by rw [hpn]; exact nI_le (Nat.le_refl _) (by omega)) (by rw [e]; exact kk))
      (fun n' j y hj e ih => by
        rw [wX8_greatest_L4]
        have h1 := lk_le h hj ht
        have h2 := ggO_le (P := P) (t := t) (m := 11) j (fun p hp => by have := lk_le h (p := p) (by omega) ht; omega)
        refine br_f (by rw [hpn]; exact nI_ge hj (by omega)) ⟨pk_in (10 * j + t) 80 (by omega) (qi_10 j t), nm_e (nm_e ?_)⟩
        rw [qi_10, nI_clamp (by omega), lk_p h hj ht, e, nI_max (by omega) (by omega), nI_1]
        exact ih _ rfl)
  exact L _ k
theorem qm_weighed {W : Nat → Nat} (h : LK P m n σ) (hpn : σ.2.1 2 (0 : Int32).toNatClampNeg = nI n) (hW : ∀ p, p < n → σ.2.1 7 p = nI (W p)) {post : Int32 → hsS → Prop} {t : Nat} (ht : t < m) (k : post (nI (wgO P W t n)) σ) : wX8_weighed (nI t) post σ := by
  have hm := h.2.1; have hn := h.2.2.1
  have L : ∀ K : Int32 → Int32 → hsS → Prop, K (nI (wgO P W t n)) (nI n) σ → ∃ n', wX8_weighed_L4 (nI t) K post n' 0 0 σ := fun K kk =>
    pk_loop (fun n' j y => wX8_weighed_L4 (nI t) K post n' y (nI j) σ) (fun j y => y = nI (wgO P W t j)) n 0 0 (Nat.zero_le _) rfl
      (fun n y e => by
        rw [wX8_weighed_L4]
        exact br_t (by rw [hpn]; exact nI_le (Nat.le_refl _) (by omega)) (by rw [e]; exact kk))
      (fun n' j y hj e ih => by
        rw [wX8_weighed_L4]
        refine br_f (by rw [hpn]; exact nI_ge hj (by omega)) ⟨pk_in (10 * j + t) 80 (by omega) (qi_10 j t), pk_in j 16 (by omega), nm_e (nm_e ?_)⟩
        rw [qi_10, nI_clamp (by omega), nI_clamp (by omega), lk_p h hj ht, hW j hj, e, pk_mul, nI_add, nI_1]
        exact ih _ rfl)
  exact L _ k
theorem qm_headsOf {W : Nat → Nat} {nm : Nat} (h : LK P m n σ) (hpn : σ.2.1 2 (0 : Int32).toNatClampNeg = nI n) (hW : ∀ p, p < n → σ.2.1 7 p = nI (W p)) (hN : ∀ p, p < n → σ.2.1 11 p = nI (if nm.testBit p = true then 1 else 0)) {post : Int32 → hsS → Prop} {t : Nat} (ht : t < m) (k : post (nI (hwO P W nm t n)) σ) : wX8_headsOf (nI t) post σ := by
  have hm := h.2.1; have hn := h.2.2.1
  have L : ∀ K : Int32 → Int32 → hsS → Prop, K (nI (hwO P W nm t n)) (nI n) σ → ∃ n', wX8_headsOf_L4 (nI t) K post n' 0 0 σ := fun K kk =>
    pk_loop (fun n' j y => wX8_headsOf_L4 (nI t) K post n' y (nI j) σ) (fun j y => y = nI (hwO P W nm t j)) n 0 0 (Nat.zero_le _) rfl
      (fun n y e => by
        rw [wX8_headsOf_L4]
        exact br_t (by rw [hpn]; exact nI_le (Nat.le_refl _) (by omega)) (by rw [e]; exact kk))
      (fun n' j y hj e ih => by
        rw [wX8_headsOf_L4]
        refine br_f (by rw [hpn]; exact nI_ge hj (by omega)) ⟨pk_in j 16 (by omega), ?_⟩
        rw [nI_clamp (by omega), hN j hj]
        cases c : nm.testBit j
        · refine br_t (by decide) (nm_e (nm_e ?_))
          rw [nI_1]
          refine ih _ ?_
          show _ = nI (fb_sm _ (j + 1)); rw [fb_sm_succ, e]; simp only [c, ← nI_0, nI_add]; rfl
        · refine br_f (by decide) ⟨pk_in (10 * j + t) 80 (by omega) (qi_10 j t), ?_⟩
          have h1 := lk_le h hj ht
          rw [qi_10, nI_clamp (by omega), lk_p h hj ht]
          refine pk_eq (P j t) 0 (fun c2 => ?_) (fun c2 => ?_)
          · refine ⟨pk_in j 16 (by omega), nm_e (nm_e ?_)⟩
            rw [e, hW j hj, nI_add, nI_1]
            refine ih _ ?_
            show _ = nI (fb_sm _ (j + 1)); rw [fb_sm_succ]; simp only [c, c2, and_self, if_true]; rfl
          · refine nm_e (nm_e ?_)
            rw [nI_1]
            refine ih _ ?_
            show _ = nI (fb_sm _ (j + 1)); rw [fb_sm_succ, e]; simp only [c2, and_false, if_false, ← nI_0, nI_add]; rfl)
  exact L _ k
end MhI
