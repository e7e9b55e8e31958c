theorem qi_dec (x y : Int32) : x - y + (-1) = x - (y + 1) := by
  rw [Int32.sub_eq_add_neg, Int32.sub_eq_add_neg, Int32.neg_add, Int32.sub_eq_add_neg, Int32.add_assoc]
section HxJ
variable {b : Nat} {A : AH} {σ : hsS}
theorem qx_strikePlainly (ha : AW A) (h : HX b A σ) {post : Int32 → hsS → Prop} {p left : Nat} (hp : p < aN A) (hl : left < 2 ^ aM A) (k : post (nI (spO (aP A p) (aM A) left)) σ) : wX1_strikePlainly b (nI p) (nI left) post σ := by
  have hm := aw_m ha
  have hl9 : left < 2 ^ 9 := Nat.lt_of_lt_of_le hl (Nat.pow_le_pow_right (by decide) hm.2)
  refine qx_bitCount (by omega) ?_
  have hsz := qs_sz_le left
  refine pk_le 2 (qs_sz left) (fun c => ?_) (fun c => ?_)
  · refine qx_plainStrike ha h hp (by omega) ?_
    have h0 : left ≠ 0 := fun e => by rw [e] at c; revert c; decide
    obtain ⟨t, ht, hb⟩ := qs_some hl h0
    obtain ⟨w, e⟩ := psO_some (aP A p) left (aM A) t ht hb
    have hw := psO_in _ _ _ _ e
    rw [e]
    show post (nI left &&& (((1 : Int32) <<< (nI w &&& 31)) ^^^ (-1 : Int32))) σ
    rw [qb_cl left (by omega)]
    have e2 : spO (aP A p) (aM A) left = qs_cl left w := by unfold spO; rw [if_neg (by omega), e]
    rw [← e2]; exact k
  · have e2 : spO (aP A p) (aM A) left = left := by unfold spO; rw [if_pos (by omega)]
    rw [e2] at k; exact k
theorem qx_plainEnd (ha : AW A) (h : HX b A σ) {post : Int32 → hsS → Prop} (k : post (nI (peO (aP A) (aM A) (aU A) (aNt A))) σ) : wX1_plainEnd b post σ := by
  have hm := aw_m ha; have hnt := aw_nt ha
  have L : ∀ K : Int32 → Int32 → hsS → Prop, K (nI (peO (aP A) (aM A) (aU A) (aNt A))) (nI (aNt A)) σ → ∃ n, wX1_plainEnd_L7 b K post n (nI (2 ^ aM A - 1)) 0 σ := fun K kk =>
    pk_loop (fun n j y => wX1_plainEnd_L7 b K post n y (nI j) σ) (fun j y => y = nI (peO (aP A) (aM A) (aU A) j)) (aNt A) 0 (nI (2 ^ aM A - 1)) (Nat.zero_le _) rfl
      (fun n y e => by
        rw [wX1_plainEnd_L7]
        exact br_t (by rw [hx_nt h]; exact nI_le (Nat.le_refl _) (by omega)) (by rw [e]; exact kk))
      (fun n j y hj e ih => by
        rw [wX1_plainEnd_L7]
        refine br_f (by rw [hx_nt h]; exact nI_ge hj (by omega)) ⟨pk_in j 8 (by omega), ?_⟩
        rw [nI_clamp (by omega), hx_u h hj, e]
        refine qx_strikePlainly ha h (aw_u ha hj) (peO_lt _ _ _ _) (nm_e ?_)
        rw [nI_1]
        exact ih _ rfl)
  exact qx_allThings ha h (L _ k)
theorem qx_backEnd (ha : AW A) (h : HX b A σ) {post : Int32 → hsS → Prop} (k : post (nI (peO (aP A) (aM A) (fun i => aU A (aNt A - 1 - i)) (aNt A))) σ) : wX1_backEnd b post σ := by
  have hm := aw_m ha; have hnt := aw_nt ha
  have L : ∀ K : Int32 → Int32 → hsS → Prop, (∀ z, K (nI (peO (aP A) (aM A) (fun i => aU A (aNt A - 1 - i)) (aNt A))) z σ) → ∃ n, wX1_backEnd_L12 b K post n (nI (2 ^ aM A - 1)) (nI (aNt A) - 1) σ := fun K kk =>
    pk_loop (fun n j y => wX1_backEnd_L12 b K post n y (nI (aNt A) - nI (j + 1)) σ) (fun j y => y = nI (peO (aP A) (aM A) (fun i => aU A (aNt A - 1 - i)) j)) (aNt A) 0 (nI (2 ^ aM A - 1)) (Nat.zero_le _) rfl
      (fun n y e => by
        rw [wX1_backEnd_L12]
        refine br_t (pk_sneg (by omega) (by omega)) (by rw [e]; exact kk _))
      (fun n j y hj e ih => by
        rw [wX1_backEnd_L12]
        have e1 : nI (aNt A) - nI (j + 1) = nI (aNt A - 1 - j) := by rw [pk_sub (by omega)]; congr 1; omega
        rw [e1]
        refine br_f (nI_pos (by omega)) ⟨pk_in (aNt A - 1 - j) 8 (by omega), ?_⟩
        rw [nI_clamp (by omega), hx_u h (k := aNt A - 1 - j) (by omega), e]
        refine qx_strikePlainly ha h (aw_u ha (by omega)) (peO_lt _ _ _ _) (nm_e ?_)
        have e2 : nI (aNt A - 1 - j) + (-1 : Int32) = nI (aNt A) - nI (j + 1 + 1) := by
          rw [← e1, nI_succ (j + 1)]; exact qi_dec _ _
        rw [e2]
        exact ih _ rfl)
  refine qx_allThings ha h (nm_e ?_)
  rw [hx_nt h]
  exact L _ (fun _ => k)
theorem nI_max {a c : Nat} (ha : a < 2 ^ 31) (hc : c < 2 ^ 31) : (if nI a < nI c then nI c else nI a) = nI (max a c) := by
  rcases Nat.lt_or_ge a c with z | z
  · rw [if_pos (nI_lt z hc), show max a c = c by omega]
  · rw [if_neg (nI_nlt z ha), show max a c = a by omega]
theorem qx_greatestPlace (ha : AW A) (h : HX b A σ) {post : Int32 → hsS → Prop} {p bits : Nat} (hp : p < aN A) (hl : bits < 2 ^ 31) (k : post (nI (gpO (aP A p) bits (aM A))) σ) : wX1_greatestPlace b (nI p) (nI bits) post σ := by
  have hm := aw_m ha
  have L : ∀ K : Int32 → Int32 → hsS → Prop, K (nI (gpO (aP A p) bits (aM A))) (nI (aM A)) σ → ∃ n, wX1_greatestPlace_L5 b (nI p) (nI bits) K post n 0 0 σ := fun K kk =>
    pk_loop (fun n j y => wX1_greatestPlace_L5 b (nI p) (nI bits) K post n y (nI j) σ) (fun j y => y = nI (gpO (aP A p) bits j)) (aM A) 0 0 (Nat.zero_le _) rfl
      (fun n y e => by
        rw [wX1_greatestPlace_L5]
        exact br_t (by rw [hx_m h]; exact nI_le (Nat.le_refl _) (by omega)) (by rw [e]; exact kk))
      (fun n j y hj e ih => by
        rw [wX1_greatestPlace_L5]
        refine br_f (by rw [hx_m h]; exact nI_ge hj (by omega)) (ek_if (qb_testN hl (j := j) (by omega)) (fun c => ?_) (fun c => ?_))
        · have h1 := aw_p ha hp hj
          have h2 := gpO_le (f := aP A p) (m := aM A) bits j (fun t ht => aw_p ha hp (by omega))
          refine qx_placeOf ha h hp hj (nm_e (nm_e ?_))
          rw [e, nI_max (by omega) (by omega), nI_1]
          refine ih _ ?_
          show _ = nI (if _ then _ else _); rw [if_pos c]
        · refine nm_e ?_
          rw [nI_1]
          refine ih _ ?_
          show _ = nI (if _ then _ else _); rw [if_neg c]; exact e)
  exact L _ k
theorem qx_sumOfPlaces (ha : AW A) (h : HX b A σ) {post : Int32 → hsS → Prop} {p bits : Nat} (hp : p < aN A) (hl : bits < 2 ^ 31) (k : post (nI (suO (aP A p) bits (aM A))) σ) : wX1_sumOfPlaces b (nI p) (nI bits) post σ := by
  have hm := aw_m ha
  have L : ∀ K : Int32 → Int32 → hsS → Prop, K (nI (suO (aP A p) bits (aM A))) (nI (aM A)) σ → ∃ n, wX1_sumOfPlaces_L5 b (nI p) (nI bits) K post n 0 0 σ := fun K kk =>
    pk_loop (fun n j y => wX1_sumOfPlaces_L5 b (nI p) (nI bits) K post n y (nI j) σ) (fun j y => y = nI (suO (aP A p) bits j)) (aM A) 0 0 (Nat.zero_le _) rfl
      (fun n y e => by
        rw [wX1_sumOfPlaces_L5]
        exact br_t (by rw [hx_m h]; exact nI_le (Nat.le_refl _) (by omega)) (by rw [e]; exact kk))
      (fun n j y hj e ih => by
        rw [wX1_sumOfPlaces_L5]
        refine br_f (by rw [hx_m h]; exact nI_ge hj (by omega)) (ek_if (qb_testN hl (j := j) (by omega)) (fun c => ?_) (fun c => ?_))
        · refine qx_placeOf ha h hp hj (nm_e (nm_e ?_))
          rw [e, nI_add, nI_1]
          refine ih _ ?_
          show _ = nI (fb_sm _ (j + 1)); rw [fb_sm_succ]; simp only [c, if_true]; rfl
        · refine nm_e ?_
          rw [nI_1]
          refine ih _ ?_
          show _ = nI (fb_sm _ (j + 1)); rw [fb_sm_succ]; simp only [c]; exact e)
  exact L _ k
theorem qx_greatestGrumble (ha : AW A) (h : HX b A σ) {post : Int32 → hsS → Prop} {t : Nat} (ht : t < aM A) (k : post (nI (ggO (aP A) t (aN A))) σ) : wX1_greatestGrumble b (nI t) post σ := by
  have hm := aw_m ha; have hn := aw_n ha
  have L : ∀ K : Int32 → Int32 → hsS → Prop, K (nI (ggO (aP A) t (aN A))) (nI (aN A)) σ → ∃ n, wX1_greatestGrumble_L4 b (nI t) K post n 0 0 σ := fun K kk =>
    pk_loop (fun n j y => wX1_greatestGrumble_L4 b (nI t) K post n y (nI j) σ) (fun j y => y = nI (ggO (aP A) t j)) (aN A) 0 0 (Nat.zero_le _) rfl
      (fun n y e => by
        rw [wX1_greatestGrumble_L4]
        exact br_t (by rw [hx_n h]; exact nI_le (Nat.le_refl _) (by omega)) (by rw [e]; exact kk))
      (fun n j y hj e ih => by
        rw [wX1_greatestGrumble_L4]
        have h1 := aw_p ha hj ht
        have h2 := ggO_le (P := aP A) (t := t) (m := aM A) j (fun p hp => aw_p ha (by omega) ht)
        refine br_f (by rw [hx_n h]; exact nI_ge hj (by omega)) (qx_placeOf ha h hj ht (nm_e (nm_e ?_)))
        rw [e, nI_max (by omega) (by omega), nI_1]
        exact ih _ rfl)
  exact L _ k
theorem qx_wholeGrumble (ha : AW A) (h : HX b A σ) {post : Int32 → hsS → Prop} {t : Nat} (ht : t < aM A) (k : post (nI (wgO (aP A) (aW A) t (aN A))) σ) : wX1_wholeGrumble b (nI t) post σ := by
  have hm := aw_m ha; have hn := aw_n ha
  have L : ∀ K : Int32 → Int32 → hsS → Prop, K (nI (wgO (aP A) (aW A) t (aN A))) (nI (aN A)) σ → ∃ n, wX1_wholeGrumble_L4 b (nI t) K post n 0 0 σ := fun K kk =>
    pk_loop (fun n j y => wX1_wholeGrumble_L4 b (nI t) K post n y (nI j) σ) (fun j y => y = nI (wgO (aP A) (aW A) t j)) (aN A) 0 0 (Nat.zero_le _) rfl
      (fun n y e => by
        rw [wX1_wholeGrumble_L4]
        exact br_t (by rw [hx_n h]; exact nI_le (Nat.le_refl _) (by omega)) (by rw [e]; exact kk))
      (fun n j y hj e ih => by
        rw [wX1_wholeGrumble_L4]
        refine br_f (by rw [hx_n h]; exact nI_ge hj (by omega)) (qx_placeOf ha h hj ht ⟨pk_in j 8 (by omega), nm_e (nm_e ?_)⟩)
        rw [e, nI_clamp (by omega), hx_w h hj, pk_mul, nI_add, nI_1]
        exact ih _ rfl)
  exact L _ k
theorem qx_headWeight (ha : AW A) (h : HX b A σ) {post : Int32 → hsS → Prop} {t : Nat} (ht : t < aM A) (k : post (nI (hwO (aP A) (aW A) (aNm A) t (aN A))) σ) : wX1_headWeight b (nI t) post σ := by
  have hm := aw_m ha; have hn := aw_n ha; have hnm := aw_nm ha
  have L : ∀ K : Int32 → Int32 → hsS → Prop, K (nI (hwO (aP A) (aW A) (aNm A) t (aN A))) (nI (aN A)) σ → ∃ n, wX1_headWeight_L4 b (nI t) K post n 0 0 σ := fun K kk =>
    pk_loop (fun n j y => wX1_headWeight_L4 b (nI t) K post n y (nI j) σ) (fun j y => y = nI (hwO (aP A) (aW A) (aNm A) t j)) (aN A) 0 0 (Nat.zero_le _) rfl
      (fun n y e => by
        rw [wX1_headWeight_L4]
        exact br_t (by rw [hx_n h]; exact nI_le (Nat.le_refl _) (by omega)) (by rw [e]; exact kk))
      (fun n j y hj e ih => by
        rw [wX1_headWeight_L4]
        refine br_f (by rw [hx_n h]; exact nI_ge hj (by omega)) ?_
        rw [hx_nm h]
        refine ek_if (qb_testN (s := aNm A) (j := j) (by omega) (by omega)) (fun c => ?_) (fun c => ?_)
        · have h1 := aw_p ha hj ht
          refine qx_placeOf ha h hj ht (pk_eq (aP A j t) 0 (fun c2 => ?_) (fun c2 => ?_))
          · refine ⟨pk_in j 8 (by omega), nm_e (nm_e ?_)⟩
            rw [e, nI_clamp (by omega), hx_w h hj, nI_add, nI_1]
            refine ih _ ?_
            show _ = nI (fb_sm _ (j + 1)); rw [fb_sm_succ]; simp only [c, c2, and_self, if_true]; rfl
          · refine nm_e ?_
            rw [nI_1]
            refine ih _ ?_
            show _ = nI (fb_sm _ (j + 1)); rw [fb_sm_succ]; simp only [c2, and_false, if_false]; exact e
        · refine nm_e ?_
          rw [nI_1]
          refine ih _ ?_
          show _ = nI (fb_sm _ (j + 1)); rw [fb_sm_succ]; simp only [c, false_and, if_false]; exact e)
  exact L _ k
theorem qx_thingOfMostHeads (ha : AW A) (h : HX b A σ) {post : Int32 → hsS → Prop} (k : post (nI (tmO (fun t => hwO (aP A) (aW A) (aNm A) t (aN A)) (aM A - 1))) σ) : wX1_thingOfMostHeads b post σ := by
  have hm := aw_m ha; have hn := aw_n ha
  have L : ∀ K : Int32 → Int32 → hsS → Prop, K (nI (tmO (fun t => hwO (aP A) (aW A) (aNm A) t (aN A)) (aM A - 1))) (nI (aM A)) σ → ∃ n, wX1_thingOfMostHeads_L4 b K post n 0 1 σ := fun K kk =>
    pk_loop (fun n j y => wX1_thingOfMostHeads_L4 b K post n y (nI j) σ) (fun j y => 1 ≤ j ∧ y = nI (tmO (fun t => hwO (aP A) (aW A) (aNm A) t (aN A)) (j - 1))) (aM A) 1 0 (by omega) ⟨Nat.le_refl _, rfl⟩
      (fun n y e => by
        rw [wX1_thingOfMostHeads_L4]
        exact br_t (by rw [hx_m h]; exact nI_le (Nat.le_refl _) (by omega)) (by rw [e.2]; exact kk))
      (fun n j y hj e ih => by
        rw [wX1_thingOfMostHeads_L4]
        obtain ⟨i, rfl⟩ : ∃ i, j = i + 1 := ⟨j - 1, by omega⟩
        have hb := tmO_le (fun t => hwO (aP A) (aW A) (aNm A) t (aN A)) i
        have hl : ∀ t, hwO (aP A) (aW A) (aNm A) t (aN A) ≤ 8 * 99 := fun t => by
          have := hwO_le (P := aP A) (W := aW A) (nm := aNm A) (t := t) (j := aN A) (fun p hp => (aw_w ha hp).2); omega
        have h1 := hl (i + 1); have h2 := hl (tmO (fun t => hwO (aP A) (aW A) (aNm A) t (aN A)) i)
        refine br_f (by rw [hx_m h]; exact nI_ge hj (by omega)) (qx_headWeight ha h hj ?_)
        rw [e.2]
        refine qx_headWeight ha h (by show tmO _ i < _; omega) ?_
        refine pk_le _ _ (fun c => ?_) (fun c => ?_) rfl rfl (by omega) (by show hwO _ _ _ (tmO _ i) _ < _; omega)
        · refine nm_e ?_
          rw [nI_1]
          refine ih _ ⟨by omega, ?_⟩
          exact (congrArg nI (if_neg (Nat.not_lt.mpr c))).symm
        · refine nm_e ?_
          rw [nI_1]
          refine ih _ ⟨by omega, ?_⟩
          exact (congrArg nI (if_pos c)).symm)
  exact L _ k
theorem qx_groupSize (ha : AW A) (h : HX b A σ) {post : Int32 → hsS → Prop} {p q : Nat} (hp : p < aN A) (hq : q < 2 ^ 31) (k : post (nI (fb_ct (fun t => decide (aP A p t = q)) (aM A))) σ) : wX1_groupSize b (nI p) (nI q) post σ := by
  have hm := aw_m ha; have hn := aw_n ha
  have L : ∀ K : Int32 → Int32 → hsS → Prop, K (nI (fb_ct (fun t => decide (aP A p t = q)) (aM A))) (nI (aM A)) σ → ∃ n, wX1_groupSize_L5 b (nI p) (nI q) K post n 0 0 σ := fun K kk =>
    pk_loop (fun n j y => wX1_groupSize_L5 b (nI p) (nI q) K post n y (nI j) σ) (fun j y => y = nI (fb_ct (fun t => decide (aP A p t = q)) j)) (aM A) 0 0 (Nat.zero_le _) rfl
      (fun n y e => by
        rw [wX1_groupSize_L5]
        exact br_t (by rw [hx_m h]; exact nI_le (Nat.le_refl _) (by omega)) (by rw [e]; exact kk))
      (fun n j y hj e ih => by
        rw [wX1_groupSize_L5]
        have h1 := aw_p ha hp hj
        refine br_f (by rw [hx_m h]; exact nI_ge hj (by omega)) (qx_placeOf ha h hp hj (pk_eq (aP A p j) q (fun c => ?_) (fun c => ?_)))
        · refine nm_e (nm_e ?_)
          rw [e, nI_1, nI_1]
          refine ih _ ?_
          rw [fb_ct_succ]; simp [c]
        · refine nm_e ?_
          rw [nI_1]
          refine ih _ ?_
          rw [fb_ct_succ]; simp [c]; exact e)
  exact L _ k
end HxJ
