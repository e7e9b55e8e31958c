section HxI
variable {b : Nat} {A : AH} {σ : hsS}
theorem qx_dearerThan_c (ha : AWc A) (h : HX b A σ) {post : Int32 → hsS → Prop} {p t : Nat} (hp : p < aN A) (ht : t < aM A) (k : post (nI (dearO (aP A p) t (aM A))) σ) : wX1_dearerThan b (nI p) (nI t) post σ := by
  have hm := awc_m ha
  have L : ∀ K : Int32 → Int32 → hsS → Prop, K (nI (dearO (aP A p) t (aM A))) (nI (aM A)) σ → ∃ n, wX1_dearerThan_L13 b (nI p) (nI t) (nI (aP A p t)) K post n 0 0 σ := fun K kk =>
    pk_loop (fun n j y => wX1_dearerThan_L13 b (nI p) (nI t) (nI (aP A p t)) K post n y (nI j) σ) (fun j y => y = nI (dearO (aP A p) t j)) (aM A) 0 0 (Nat.zero_le _) rfl
      (fun n y e => by
        rw [wX1_dearerThan_L13]
        exact br_t (by rw [hx_m h]; exact nI_le (Nat.le_refl _) (by omega)) (by rw [e]; exact kk))
      (fun n j y hj e ih => by
        rw [wX1_dearerThan_L13]
        refine br_f (by rw [hx_m h]; exact nI_ge hj (by omega)) (qx_placeOf_c ha h hp hj ?_)
        have h1 := awc_p ha hp ht; have h2 := awc_p ha hp hj
        refine pk_le (aP A p t) (aP A p j) (fun c => ?_) (fun c => ?_)
        · refine nm_e ?_
          rw [nI_1]
          refine ih _ ?_
          show _ = nI (qs_mk _ (j + 1)); rw [qs_mk_succ, if_neg (by simp; omega)]; exact e
        · refine nm_e (nm_e ?_)
          rw [nI_1]
          refine ih _ ?_
          show _ = nI (qs_mk _ (j + 1)); rw [qs_mk_succ, if_pos (by simp; omega), e, qb_one j (by omega), fa_or]; rfl)
  exact qx_placeOf_c ha h hp ht (L _ k)
theorem qx_dearerThan (ha : AW A) (h : HX b A σ) {post : Int32 → hsS → Prop} {p t : Nat} (hp : p < aN A) (ht : t < aM A) (k : post (nI (dearO (aP A p) t (aM A))) σ) : wX1_dearerThan b (nI p) (nI t) post σ := qx_dearerThan_c (awc_of ha) h hp ht k
theorem qx_keptBy (ha : AW A) (h : HX b A σ) {post : Int32 → hsS → Prop} (s : Int32) {t : Nat} (ht : t < aM A) (k : post (nI (kpO (aP A) (aM A) (qb_N s) t (aN A))) σ) : wX1_keptBy b s (nI t) post σ := by
  have hn := aw_n ha
  have L : ∀ K : Int32 → Int32 → hsS → Prop, K (nI (kpO (aP A) (aM A) (qb_N s) t (aN A))) (nI (aN A)) σ → ∃ n, wX1_keptBy_L8 b s (nI t) K post n (nI (2 ^ aM A - 1)) 0 σ := fun K kk =>
    pk_loop (fun n j y => wX1_keptBy_L8 b s (nI t) K post n y (nI j) σ) (fun j y => y = nI (kpO (aP A) (aM A) (qb_N s) t j)) (aN A) 0 (nI (2 ^ aM A - 1)) (Nat.zero_le _) rfl
      (fun n y e => by
        rw [wX1_keptBy_L8]
        exact br_t (by rw [hx_n h]; exact nI_le (Nat.le_refl _) (by omega)) (by rw [e]; exact kk))
      (fun n j y hj e ih => by
        rw [wX1_keptBy_L8]
        refine br_f (by rw [hx_n h]; exact nI_ge hj (by omega)) (ek_if (qb_test s (j := j) (by omega)) (fun c => ?_) (fun c => ?_))
        · refine qx_dearerThan ha h hj ht (nm_e (nm_e ?_))
          rw [nI_1]
          refine ih _ ?_
          unfold kpO; rw [if_pos c, e, fa_and]
        · refine nm_e ?_
          rw [nI_1]
          refine ih _ ?_
          unfold kpO; rw [if_neg c]; exact e)
  exact qx_allThings ha h (L _ k)
theorem qx_plainStrike (ha : AW A) (h : HX b A σ) {post : Int32 → hsS → Prop} {p left : Nat} (hp : p < aN A) (hl : left < 2 ^ 31) (k : post (eO (psO (aP A p) left (aM A))) σ) : wX1_plainStrike b (nI p) (nI left) post σ := by
  have hm := aw_m ha
  have L : ∀ K : Int32 → Int32 → hsS → Prop, K (eO (psO (aP A p) left (aM A))) (nI (aM A)) σ → ∃ n, wX1_plainStrike_L5 b (nI p) (nI left) K post n (-1) 0 σ := fun K kk =>
    pk_loop (fun n j y => wX1_plainStrike_L5 b (nI p) (nI left) K post n y (nI j) σ) (fun j y => y = eO (psO (aP A p) left j)) (aM A) 0 (-1) (Nat.zero_le _) rfl
      (fun n y e => by
        rw [wX1_plainStrike_L5]
        exact br_t (by rw [hx_m h]; exact nI_le (Nat.le_refl _) (by omega)) (by rw [e]; exact kk))
      (fun n j y hj e ih => by
        rw [wX1_plainStrike_L5]
        refine br_f (by rw [hx_m h]; exact nI_ge hj (by omega)) (ek_if (qb_testN hl (j := j) (by omega)) (fun c => ?_) (fun c => ?_))
        · cases e2 : psO (aP A p) left j with
          | none =>
            rw [e2] at e
            refine br_t e (nm_e ?_)
            rw [nI_1]
            refine ih _ ?_
            rw [psO_succ, if_pos c, e2]; rfl
          | some w =>
            rw [e2] at e
            have hw := psO_in _ _ _ _ e2
            have h1 := aw_p ha hp hj; have h2 := aw_p ha hp (t := w) (by omega)
            have e9 : y = nI w := e
            refine br_f (by rw [e9]; exact pk_nm1 (by omega)) ?_
            refine qx_placeOf ha h hp hj ?_
            rw [e9]
            refine qx_placeOf ha h hp (t := w) (by omega) ?_
            refine pk_lt (aP A p j) (aP A p w) (fun c2 => ?_) (fun c2 => ?_)
            · refine nm_e ?_
              rw [nI_1]
              refine ih _ ?_
              rw [psO_succ, if_pos c, e2]; dsimp only; rw [if_pos c2]; rfl
            · refine nm_e ?_
              rw [nI_1]
              refine ih _ ?_
              rw [psO_succ, if_pos c, e2]; dsimp only; rw [if_neg (by omega)]; rfl
        · refine nm_e ?_
          rw [nI_1]
          refine ih _ ?_
          rw [psO_succ, if_neg c]; exact e)
  exact L _ k
end HxI
