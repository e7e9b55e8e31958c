/-! ===== calls: ties, ask ===== -/
theorem op_le (rk : Nat → Nat → Nat → Nat) (A : AH) (p k : Nat) : opO rk A p k ≤ 12 := qs_sz_le _
theorem mx12 (rk : Nat → Nat → Nat → Nat) (A : AH) (p j : Nat) : mxO (opO rk A p) j ≤ 12 := (mx_le _ _ _).mpr (fun k _ => op_le rk A p k)
theorem ak_lt (mo od : Nat → Nat) : ∀ n q, akO mo od n = some q → q.1 < n ∧ q.2 = mo q.1
  | 0, q, h => by cases h
  | n + 1, q, h => by
    have h : (if od n = 1 then akO mo od n else match akO mo od n with | none => some (n, mo n) | some q => if mo n < q.2 then some (n, mo n) else some q) = some q := h
    by_cases c : od n = 1
    · rw [if_pos c] at h
      have := ak_lt mo od n q h
      exact ⟨by omega, this.2⟩
    · rw [if_neg c] at h
      cases e : akO mo od n with
      | none => rw [e] at h; have := Option.some.inj h; rw [← this]; exact ⟨by show n < n + 1; omega, rfl⟩
      | some r =>
        rw [e] at h
        have h : (if mo n < r.2 then some (n, mo n) else some r) = some q := h
        by_cases c2 : mo n < r.2
        · rw [if_pos c2] at h; have := Option.some.inj h; rw [← this]; exact ⟨by show n < n + 1; omega, rfl⟩
        · rw [if_neg c2] at h; have := Option.some.inj h
          have i := ak_lt mo od n r e
          rw [← this]; exact ⟨by omega, i.2⟩
def bI (q : Option (Nat × Nat)) : Int32 := match q with | none => -1 | some r => nI r.1
theorem ak_succ (mo od : Nat → Nat) (p : Nat) : akO mo od (p + 1) = if od p = 1 then akO mo od p else match akO mo od p with | none => some (p, mo p) | some q => if mo p < q.2 then some (p, mo p) else some q := rfl
section AskX
variable {A : AH} {σ : hsS}
theorem qx_open (ha : AW A) (hW : wyA A ≤ 240) (hT : TX A σ) {p k : Nat} (hp : p < aN A) (hk : k < 2 ^ 31) {post : Int32 → hsS → Prop} (kk : post (nI (opO rkX A p k)) σ) : wX2_openOnceTold 25 (nI p) (nI k) post σ := by
  have hm := aw_m ha; have hn := aw_n ha
  have hm9 : 2 ^ aM A ≤ 2 ^ 9 := Nat.pow_le_pow_right (by decide) hm.2
  obtain ⟨t1, t2, t3⟩ := hT
  obtain ⟨t3, t4, t5⟩ := t3 hW
  refine pk_loop (fun n w (y : Int32 × Int32) => wX2_openOnceTold_L8 25 (nI p) (nI k) _ post n y.1 y.2 (nI w) σ) (fun w y => y.1 &&& nI (2 ^ aM A - 1) = nI (kaO rkX A p k w) ∧ y.2 = nI (ksO rkX A p k w)) (wyA A) 0 (-1, 0) (Nat.zero_le _) ⟨?_, rfl⟩ ?_ ?_
  · show (-1 : Int32) &&& nI (2 ^ aM A - 1) = nI (2 ^ aM A - 1)
    apply b_ext; intro i hi
    rw [b_and, b_m1 i hi, Bool.true_and]
  · intro n y e
    obtain ⟨y1, y2⟩ := y
    obtain ⟨e1, e2⟩ := e
    dsimp only at e1 e2
    rw [wX2_openOnceTold_L8]
    refine br_t (by rw [show σ.1 (64 * 25 + 5) = nI (wyA A) from t1]; exact nI_le (Nat.le_refl _) (by omega)) ?_
    have hkl := ks_lt rkX A p k (wyA A)
    have hand : y2 &&& (y1 ^^^ (-1 : Int32)) = nI (ksO rkX A p k (wyA A) ^^^ (ksO rkX A p k (wyA A) &&& kaO rkX A p k (wyA A))) := by
      apply b_ext; intro i hi
      have hb : bt (y1 &&& nI (2 ^ aM A - 1)) i = (kaO rkX A p k (wyA A)).testBit i := by rw [e1, qb_bt _ hi]
      rw [b_and, qb_bt _ hi, qs_full] at hb
      rw [b_and, b_xor, b_m1 i hi, e2, qb_bt _ hi, qb_bt _ hi, Nat.testBit_xor, Nat.testBit_and, ← hb]
      rcases Nat.lt_or_ge i (aM A) with z | z
      · simp only [z, decide_true, Bool.and_true]
        cases (ksO rkX A p k (wyA A)).testBit i <;> cases bt y1 i <;> rfl
      · rw [qs_hi hkl z]; simp
    rw [hand]
    have hxl : ksO rkX A p k (wyA A) ^^^ (ksO rkX A p k (wyA A) &&& kaO rkX A p k (wyA A)) < 2 ^ aM A := qs_xor_lt hkl (qs_and_lt' hkl)
    exact qx_bitCount (by omega) kk
  · intro n w y hw e ih
    obtain ⟨y1, y2⟩ := y
    obtain ⟨e1, e2⟩ := e
    dsimp only at e1 e2 ⊢
    have ho := t2 p hp
    have hoi := oi_lt A w p; have hol := or_le A p
    rw [wX2_openOnceTold_L8]
    refine br_f (by rw [show σ.1 (64 * 25 + 5) = nI (wyA A) from t1]; exact nI_ge hw (by omega)) (br_f (nI_ge (b := 240) (by omega) (by decide)) (qx_orderIn (A := A) (by omega) (by omega) ho.2 ho.1 ?_))
    refine pk_eq (oiO A w p) k (fun c => ⟨pk_in w 240 (by omega), ?_⟩) (fun c => nm_e ?_)
    · rw [nI_clamp (by omega), show σ.2.1 (25 + 1) w = nI (wcO rkX A w) from t5 w hw]
      refine nm_e ⟨pk_in w 240 (by omega), nm_e (nm_e ?_)⟩
      rw [nI_1]
      refine ih (_, _) ⟨?_, ?_⟩
      · show (y1 &&& nI (wcO rkX A w)) &&& nI (2 ^ aM A - 1) = nI (if oiO A w p = k then kaO rkX A p k w &&& wcO rkX A w else kaO rkX A p k w)
        rw [if_pos c, ← fa_and, ← e1]
        apply b_ext; intro i hi
        rw [b_and, b_and, b_and, b_and]
        cases bt y1 i <;> cases bt (nI (wcO rkX A w)) i <;> cases bt (nI (2 ^ aM A - 1)) i <;> rfl
      · show y2 ||| nI (wcO rkX A w) = nI (if oiO A w p = k then ksO rkX A p k w ||| wcO rkX A w else ksO rkX A p k w)
        rw [if_pos c, ← fa_or, ← e2]
    · rw [nI_1]
      refine ih (_, _) ⟨?_, ?_⟩
      · show y1 &&& nI (2 ^ aM A - 1) = nI (if oiO A w p = k then kaO rkX A p k w &&& wcO rkX A w else kaO rkX A p k w)
        rw [if_neg c]; exact e1
      · show y2 = nI (if oiO A w p = k then ksO rkX A p k w ||| wcO rkX A w else ksO rkX A p k w)
        rw [if_neg c]; exact e2
theorem qx_most (ha : AW A) (hW : wyA A ≤ 240) (hT : TX A σ) {p : Nat} (hp : p < aN A) {post : Int32 → hsS → Prop} (kk : post (nI (moO rkX A p)) σ) : wX2_mostOpenOnceTold 25 (nI p) post σ := by
  have hn := aw_n ha
  have hol := or_le A p
  have L : ∀ K : Int32 → Int32 → hsS → Prop, (∀ z, K (nI (moO rkX A p)) z σ) → ∃ n, wX2_mostOpenOnceTold_L4 25 (nI p) K post n 0 0 σ := fun K k2 =>
    pk_loop (fun n j (y : Int32) => wX2_mostOpenOnceTold_L4 25 (nI p) K post n y (nI j) σ) (fun j y => y = nI (mxO (opO rkX A p) j)) (orA A p) 0 0 (Nat.zero_le _) rfl
      (fun n y e => by
        rw [wX2_mostOpenOnceTold_L4]
        refine ⟨pk_in p 8 (by omega), br_t ?_ (by rw [e]; exact k2 _)⟩
        rw [nI_clamp (by omega), show σ.2.1 (25 + 2) p = nI (orA A p) from (hT.2.1 p hp).1]; exact nI_le (Nat.le_refl _) (by omega))
      (fun n j y hj e ih => by
        rw [wX2_mostOpenOnceTold_L4]
        refine ⟨pk_in p 8 (by omega), br_f ?_ (qx_open ha hW hT hp (by omega) ?_)⟩
        · rw [nI_clamp (by omega), show σ.2.1 (25 + 2) p = nI (orA A p) from (hT.2.1 p hp).1]; exact nI_ge hj (by omega)
        · have h1 := mx12 rkX A p j; have h2 := op_le rkX A p j
          rw [e]
          refine nm_r (nI_max (by omega) (by omega)) (nm_e ?_)
          rw [nI_1]
          exact ih _ rfl)
  exact L _ (fun _ => kk)
theorem qx_bestToAsk (ha : AW A) (hW : wyA A ≤ 240) (hT : TX A σ) {post : Int32 → hsS → Prop} (kk : post (bI (akA rkX A)) σ) : wX2_bestToAsk 25 (nI (aN A)) post σ := by
  have hn := aw_n ha
  have L : ∀ K : Int32 → Int32 → Int32 → hsS → Prop, (∀ y z, K (bI (akA rkX A)) y z σ) → ∃ n, wX2_bestToAsk_L8 25 (nI (aN A)) K post n (-1) 1000000 0 σ := fun K k2 =>
    pk_loop (fun n j (y : Int32 × Int32) => wX2_bestToAsk_L8 25 (nI (aN A)) K post n y.1 y.2 (nI j) σ) (fun j y => y.1 = bI (akO (moO rkX A) (orA A) j) ∧ y.2 = (match akO (moO rkX A) (orA A) j with | none => (1000000 : Int32) | some q => nI q.2)) (aN A) 0 (-1, 1000000) (Nat.zero_le _) ⟨rfl, rfl⟩
      (fun n y e => by
        rw [wX2_bestToAsk_L8]
        refine br_t (nI_le (Nat.le_refl _) (by omega)) ?_
        rw [e.1]; exact k2 _ _)
      (fun n j y hj e ih => by
        obtain ⟨y1, y2⟩ := y
        obtain ⟨e1, e2⟩ := e
        dsimp only at e1 e2 ⊢
        have hop := orA_pos A j; have hol := or_le A j
        have hmo : moO rkX A j ≤ 12 := mx12 rkX A j _
        rw [wX2_bestToAsk_L8]
        refine br_f (nI_ge hj (by omega)) ⟨pk_in j 8 (by omega), ?_⟩
        rw [nI_clamp (by omega), show σ.2.1 (25 + 2) j = nI (orA A j) from (hT.2.1 j hj).1]
        refine pk_le (orA A j) 1 (fun c => nm_e ?_) (fun c => qx_most ha hW hT hj ?_)
        · rw [nI_1]
          have hs : akO (moO rkX A) (orA A) (j + 1) = akO (moO rkX A) (orA A) j := by rw [ak_succ, if_pos (by omega)]
          exact ih (_, _) ⟨by rw [hs]; exact e1, by rw [hs]; exact e2⟩
        · cases hq : akO (moO rkX A) (orA A) j with
          | none =>
            have hs : akO (moO rkX A) (orA A) (j + 1) = some (j, moO rkX A j) := by rw [ak_succ, if_neg (by omega), hq]
            rw [hq] at e2
            rw [e2]
            refine pk_le 1000000 (moO rkX A j) (fun c2 => ?_) (fun c2 => nm_e ?_)
            · omega
            · rw [nI_1]
              exact ih (_, _) ⟨by rw [hs]; rfl, by rw [hs]; rfl⟩
          | some q =>
            have hql := ak_lt _ _ _ _ hq
            have hq12 : q.2 ≤ 12 := by rw [hql.2]; exact mx12 rkX A q.1 _
            have hs : akO (moO rkX A) (orA A) (j + 1) = if moO rkX A j < q.2 then some (j, moO rkX A j) else some q := by rw [ak_succ, if_neg (by omega), hq]
            rw [hq] at e2
            rw [e2]
            refine pk_le q.2 (moO rkX A j) (fun c2 => nm_e ?_) (fun c2 => nm_e ?_)
            · rw [nI_1]
              rw [if_neg (by omega)] at hs
              exact ih (y1, nI q.2) ⟨by rw [hs, ← hq]; exact e1, by rw [hs]⟩
            · rw [nI_1]
              rw [if_pos c2] at hs
              exact ih (_, _) ⟨by rw [hs]; rfl, by rw [hs]; rfl⟩)
  exact L _ (fun _ _ => kk)
end AskX
section AskM
variable {A : AH} {g : Nat → Nat → Nat} {σ : hsS}
theorem qm_most (ha : AW A) (hW : wyA A ≤ 240) (hT : TM A σ) {p : Nat} (hp : p < aN A) {z1 z2 : Int32} {post : Int32 → hsS → Prop} (K : Int32 → Int32 → hsS → Prop) (kk : ∀ z, K (nI (moO rkM A p)) z σ) : ∃ n, wX8_ask_L49 z1 z2 (nI p) K post n 0 0 σ := by
  have hn := aw_n ha; have hm := aw_m ha
  have hm9 : 2 ^ aM A ≤ 2 ^ 9 := Nat.pow_le_pow_right (by decide) hm.2
  have hol := (wy_step hW hp).2
  obtain ⟨_, t2, _, t4⟩ := hT
  obtain ⟨_, _, t5⟩ := t4 hW
  exact pk_loop (fun n j (y : Int32) => wX8_ask_L49 z1 z2 (nI p) K post n y (nI j) σ) (fun j y => y = nI (mxO (opO rkM A p) j)) (orA A p) 0 0 (Nat.zero_le _) rfl
    (fun n y e => by
      rw [wX8_ask_L49]
      refine ⟨pk_in p 8 (by omega), br_t ?_ (by rw [e]; exact kk _)⟩
      rw [nI_clamp (by omega), t2 p hp]; exact nI_le (Nat.le_refl _) (by omega))
    (fun n j y hj e ih => by
      rw [wX8_ask_L49]
      have h1 := mx12 rkM A p j; have h2 := op_le rkM A p j
      have hix : (240 : Int32) * nI p + nI j = nI (240 * p + j) := by rw [show (240 : Int32) = nI 240 from rfl, pk_mul, nI_add]
      refine ⟨pk_in p 8 (by omega), br_f (by rw [nI_clamp (by omega), t2 p hp]; exact nI_ge hj (by omega)) ?_⟩
      rw [hix]
      refine ⟨pk_in (240 * p + j) 1920 (by omega), pk_in (240 * p + j) 1920 (by omega), ?_⟩
      rw [nI_clamp (n := 240 * p + j) (by omega), (t5 p j hp hj).1, (t5 p j hp hj).2, qb_nand]
      have hkl := ks_lt rkM A p j (wyA A)
      have hxl : ksO rkM A p j (wyA A) ^^^ (ksO rkM A p j (wyA A) &&& kaO rkM A p j (wyA A)) < 2 ^ aM A := qs_xor_lt hkl (qs_and_lt' hkl)
      refine qm_sizeOf (by omega) ?_
      rw [e]
      refine nm_r (nI_max (a := mxO (opO rkM A p) j) (c := opO rkM A p j) (by omega) (by omega)) (nm_e ?_)
      rw [nI_1]
      exact ih _ rfl)
theorem qm_ask (ha : AW A) (h : MH A g σ) (hW : wyA A ≤ 240) (hT : TM A σ) {post : Int32 → hsS → Prop} (K : Int32 → Int32 → Int32 → hsS → Prop) (kk : ∀ y z, K (bI (akA rkM A)) y z σ) : ∃ n, wX8_ask_L20 K post n (-1) 0 0 σ := by
  have hn := aw_n ha
  exact pk_loop (fun n j (y : Int32 × Int32) => wX8_ask_L20 K post n y.1 y.2 (nI j) σ) (fun j y => y.1 = bI (akO (moO rkM A) (orA A) j) ∧ y.2 = (match akO (moO rkM A) (orA A) j with | none => (0 : Int32) | some q => nI q.2)) (aN A) 0 (-1, 0) (Nat.zero_le _) ⟨rfl, rfl⟩
    (fun n y e => by
      rw [wX8_ask_L20]
      refine br_t (by rw [mh_n h]; exact nI_le (Nat.le_refl _) (by omega)) ?_
      rw [e.1]; exact kk _ _)
    (fun n j y hj e ih => by
      obtain ⟨y1, y2⟩ := y
      obtain ⟨e1, e2⟩ := e
      dsimp only at e1 e2 ⊢
      have hop := orA_pos A j; have hol := or_le A j
      have hmo : moO rkM A j ≤ 12 := mx12 rkM A j _
      rw [wX8_ask_L20]
      refine br_f (by rw [mh_n h]; exact nI_ge hj (by omega)) ⟨pk_in j 8 (by omega), ?_⟩
      rw [nI_clamp (by omega), hT.2.1 j hj]
      refine pk_eq (orA A j) 1 (fun c => nm_e ?_) (fun c => qm_most ha hW hT hj _ (fun z => ?_))
      · rw [nI_1]
        have hs : akO (moO rkM A) (orA A) (j + 1) = akO (moO rkM A) (orA A) j := by rw [ak_succ, if_pos c]
        exact ih (_, _) ⟨by rw [hs]; exact e1, by rw [hs]; exact e2⟩
      · cases hq : akO (moO rkM A) (orA A) j with
        | none =>
          have hs : akO (moO rkM A) (orA A) (j + 1) = some (j, moO rkM A j) := by rw [ak_succ, if_neg c, hq]
          rw [hq] at e1
          refine br_t e1 (nm_e ?_)
          rw [nI_1]
          exact ih (_, _) ⟨by rw [hs]; rfl, by rw [hs]; rfl⟩
        | some q =>
          have hql := ak_lt _ _ _ _ hq
          have hq12 : q.2 ≤ 12 := by rw [hql.2]; exact mx12 rkM A q.1 _
          have hs : akO (moO rkM A) (orA A) (j + 1) = if moO rkM A j < q.2 then some (j, moO rkM A j) else some q := by rw [ak_succ, if_neg c, hq]
          rw [hq] at e1 e2
          have e1' : y1 = nI q.1 := e1
          refine br_f (by rw [e1']; exact pk_nm1 (by omega)) ?_
          rw [e2]
          refine pk_lt (moO rkM A j) q.2 (fun c2 => nm_e ?_) (fun c2 => nm_e ?_)
          · rw [nI_1]
            rw [if_pos c2] at hs
            exact ih (_, _) ⟨by rw [hs]; rfl, by rw [hs]; rfl⟩
          · rw [nI_1]
            rw [if_neg (by omega)] at hs
            exact ih (y1, nI q.2) ⟨by rw [hs]; exact e1, by rw [hs]⟩)
end AskM
section OpP
variable {A : AH} {g : Nat → Nat → Nat} {v i : Nat} {σx σm : hsS}
theorem RB.xti (h : RB A g v i σx σm) {σ' : hsS} (hf : FRm [384, 385, 386, 387, 388, 389, 390, 391, 1604, 1605, 1606, 1607] [7, 8, 9, 10, 19, 20, 26, 27, 28, 29] σx σ') (hT : TX A σ') : RB A g v i σ' σm := by
  obtain ⟨⟨h1, h2, h3, h4⟩, h5, ⟨h6, h7⟩, h8, h9, ⟨h10, h11, h12⟩, h13, h14, h15⟩ := h
  refine ⟨⟨h1, h2, h3.fr hf (by decide) (by decide), h4⟩, h5, ⟨?_, ?_⟩, ?_, ?_, ⟨?_, h11, h12⟩, h13, Or.inr hT, h15⟩
  · rw [hf.1 706 (by decide), hf.2.1 12 (by decide)]; exact h6
  · rw [hf.1 713 (by decide)]; exact h7
  · rw [hf.1 1922 (by decide), hf.2.1 31 (by decide), hf.2.1 33 (by decide), hf.2.1 34 (by decide), hf.2.2]; exact h8
  · rw [hf.2.1 22 (by decide)]; exact h9
  · rw [hf.1 1473 (by decide), hf.1 1474 (by decide), hf.1 1475 (by decide)]; exact h10
theorem RB.mti (h : RB A g v i σx σm) {σ' : hsS} (hf : FRm [0, 25, 28, 29, 30, 47, 48, 49, 50, 51] [13, 14, 15, 22, 24, 25, 26] σm σ') (h50 : σ'.1 50 = σm.1 12) (h28 : σ'.1 28 = σm.1 28 ∨ σ'.1 28 = σm.1 12) (hM : MM A σ') (hT : TM A σ') : RB A g v i σx σ' := by
  obtain ⟨⟨h1, h2, h3, h4⟩, ⟨h5, h5a, h5b, h5c, h5d, h5e⟩, ⟨h6, h7⟩, h8, h9, ⟨h10, h11, h12⟩, h13, h14, h15⟩ := h
  refine ⟨⟨h1, h2, h3, h4.fr hf (by decide)⟩, ⟨?_, h5a, ?_, ?_, ?_, Or.inr ⟨v, Nat.le_refl _, ?_⟩⟩, ⟨?_, ?_⟩, ?_, h9, ⟨h10, ?_, ?_⟩, hM, h14, fun _ => hT⟩
  · rw [hf.1 12 (by decide)]; exact h5
  · rcases h28 with h28 | h28
    · rw [h28]; exact h5b
    · exact Or.inr ⟨v, Nat.le_refl _, by rw [h28]; exact h5⟩
  · rw [hf.1 36 (by decide)]; exact h5c
  · rw [hf.1 39 (by decide)]; exact h5d
  · rw [h50]; exact h5
  · rw [hf.1 14 (by decide), hf.2.1 12 (by decide)]; exact h6
  · rw [hf.1 23 (by decide)]; exact h7
  · rw [hf.1 52 (by decide), hf.2.1 27 (by decide), hf.2.1 28 (by decide), hf.2.1 29 (by decide), hf.2.1 30 (by decide)]; exact h8
  · rw [hf.1 36 (by decide), hf.1 12 (by decide), hf.1 33 (by decide), hf.1 34 (by decide), hf.1 35 (by decide)]; exact h11
  · rw [hf.1 39 (by decide), hf.1 12 (by decide), hf.2.1 18 (by decide), hf.2.1 19 (by decide)]; exact h12
/-- the reference's table from the relation -/
theorem qm_tellTiesR (h : RB A g v i σx σm) {S : hsS} (h1 : FRm [0] [] σm S) {post : Int32 → hsS → Prop} (k : ∀ S2, FRm [0, 25, 28, 29, 30, 47, 48, 49, 50, 51] [13, 14, 15, 22, 24, 25, 26] σm S2 → S2.1 0 = S.1 0 → S2.1 50 = σm.1 12 → (S2.1 28 = σm.1 28 ∨ S2.1 28 = σm.1 12) → MM A S2 → TM A S2 → post (if wyA A ≤ 240 then 1 else 0) S2) : wX8_tellTies post S := by
  refine qm_tellTies (rb_aw h) (rb_gw h) ((rb_mh h).fr h1 (by decide)) ((rb_mm h).fr h1 (by decide) (by decide) (by decide) (by decide) (by decide)) ?_ (fun S2 q1 q2 q3 q4 q5 => k S2 ((h1.weak (by decide) (by decide)).trans (q1.weak (by decide) (by decide))) (q1.1 0 (by decide)) (by rw [q2, h1.1 12 (by decide)]) ?_ q4 q5)
  · rw [h1.1 50 (by decide), h1.1 12 (by decide), h1.1 47 (by decide), h1.1 48 (by decide), h1.1 49 (by decide), h1.1 51 (by decide), h1.2.1 22 (by decide), h1.2.1 24 (by decide), h1.2.1 25 (by decide)]; exact rb_mt h
  · rw [← h1.1 28 (by decide), ← h1.1 12 (by decide)]; exact q3
theorem op_27 (h : RR i σx σm) : lo_27 (RR (i + 6)) σx σm := by
  obtain ⟨A, g, v, h⟩ := h
  unfold lo_27 wX7_ask
  have ha := rb_aw h; have hx := rb_hx h
  have hwl : wyA A ≤ 241 := wyO_le A _
  refine qx_learnT ha (rb_gw h) (rb_tc h) hx (rb_xt h) (fun s1 f1 hT => ?_)
  have hX := h.xti f1 hT
  unfold wX2_spent
  rw [show s1.1 (64 * 25 + 5) = nI (wyA A) from hT.1]
  refine pk_le (wyA A) 240 (fun cw => br_t rfl ?_) (fun cw => br_f (by decide) ?_)
  · rw [show s1.1 65 = nI (aN A) from hx_n (rb_hx hX)]
    refine qx_bestToAsk ha cw hT (fun S hS => ?_)
    obtain ⟨h1, h2⟩ := m0 hS
    refine qm_tellTiesR h h1 (fun S2 q1 q2 q3 q4 q5 q6 => ?_)
    rw [if_pos cw]
    refine br_f (by decide) (qm_ask ha ((rb_mh h).fr q1 (by decide)) cw q6 _ (fun y z => ⟨by rw [ak_eq ha cw], A, g, v, (hX.mti q1 q3 q4 q5 q6).up (by omega)⟩))
  · intro S hS
    obtain ⟨h1, h2⟩ := m0 hS
    refine qm_tellTiesR h h1 (fun S2 q1 q2 q3 q4 q5 q6 => ?_)
    rw [if_neg (by omega)]
    exact br_t rfl ⟨rfl, A, g, v, (hX.mti q1 q3 q4 q5 q6).up (by omega)⟩
def pick4 (w : Nat) (a b c d : Int32) : Int32 := if w = 0 then a else if w = 1 then b else if w = 2 then c else d
theorem pick4_br {w : Nat} (hw : w < 4) {a b c d : Int32} {P : Int32 → Prop} {C : Prop} (hC : P c → C) (k : P (pick4 w a b c d)) : (nI w = (0 : Int32) → P a) ∧ (¬ nI w = (0 : Int32) → ((nI w = (1 : Int32) → P b) ∧ (¬ nI w = (1 : Int32) → ((nI w = (2 : Int32) → C) ∧ (¬ nI w = (2 : Int32) → P d))))) := by
  unfold pick4 at k
  refine pk_eq w 0 (fun z => ?_) (fun z => pk_eq w 1 (fun z1 => ?_) (fun z1 => pk_eq w 2 (fun z2 => ?_) (fun z2 => ?_)))
  · rw [if_pos z] at k; exact k
  · rw [if_neg z, if_pos z1] at k; exact k
  · rw [if_neg z, if_neg z1, if_pos z2] at k; exact hC k
  · rw [if_neg z, if_neg z1, if_neg z2] at k; exact k
theorem op_26 (f : Nat → Int64) (a1 : Int32) (h : RR i σx σm) : lo_26 f a1 (RR (i + 6)) σx σm := by
  obtain ⟨A, g, v, h⟩ := h
  unfold lo_26 wX7_ties
  have ha := rb_aw h; have hx := rb_hx h; have hm := aw_m ha
  have hwl : wyA A ≤ 241 := wyO_le A _
  rcases ix_of a1 (n := 4) (by decide) with z | ⟨w, hw, rfl⟩
  · refine ix_le (k := 3) (by decide) z (fun S hS => ?_)
    obtain ⟨h1, h2⟩ := m0 hS
    exact ix_le (k := 3) (by decide) z (qm_fail h1 (fun S' g1 g2 => thr_ok g2 ⟨rfl, fun e => absurd e (by decide), h.m g1⟩))
  · refine br_f (nI_pos (by omega)) (br_t (nI_le (b := 3) (by omega) (by decide)) (qx_learnT ha (rb_gw h) (rb_tc h) hx (rb_xt h) (fun s1 f1 hT => ?_)))
    have hX := h.xti f1 hT
    have hx1 := rb_hx hX
    unfold wX2_spent
    rw [show s1.1 (64 * 25 + 5) = nI (wyA A) from hT.1]
    refine pk_le (wyA A) 240 (fun cw => br_t rfl ?_) (fun cw => br_f (by decide) ?_)
    · obtain ⟨t3, t4, _⟩ := hT.2.2 cw
      have hmod : ∀ r : Int32, r = pick4 w (nI (wyA A)) (nI (waO rkM A (wyA A))) (nI (2 ^ aM A - 1) &&& (nI (wsO rkM A (wyA A)) ^^^ (-1 : Int32))) (nI (wsO rkM A (wyA A)) &&& (nI (waO rkM A (wyA A)) ^^^ (-1 : Int32))) → wX8_ties (nI w) (fun bb σm1 => wX8_thrown (fun th σm2 => th = (0 : Int32) ∧ ((0 : Int32) = (0 : Int32) → (vp_updL f 0 (r.toInt64) 0) = (bb.toInt64)) ∧ RR (i + 6) s1 σm2) σm1) σm := fun r hr => by
        intro S hS
        obtain ⟨h1, h2⟩ := m0 hS
        refine br_f (nI_pos (by omega)) (br_t (nI_le (b := 3) (by omega) (by decide)) (qm_tellTiesR h h1 (fun S2 q1 q2 q3 q4 q5 q6 => ?_)))
        rw [if_pos cw]
        obtain ⟨u1, _, _, u4⟩ := q6
        obtain ⟨u4, u5, _⟩ := u4 cw
        rw [u1, u4, u5, mh_m ((rb_mh h).fr q1 (by decide)), qb_all (by omega)]
        refine br_f (by decide) (pick4_br (P := fun bb => wX8_thrown (fun th σm2 => th = (0 : Int32) ∧ ((0 : Int32) = (0 : Int32) → (vp_updL f 0 (r.toInt64) 0) = (bb.toInt64)) ∧ RR (i + 6) s1 σm2) S2) hw id ?_)
        exact thr_ok (by rw [q2]; exact h2) ⟨rfl, fun _ => by rw [hr]; rfl, A, g, v, (hX.mti q1 q3 q4 q5 ⟨u1, ‹_›, ‹_›, fun _ => ⟨u4, u5, ‹_›⟩⟩).up (by omega)⟩
      rw [show s1.1 1605 = nI (wyA A) from hT.1, t3, t4]
      refine pick4_br (P := fun r => wX8_ties (nI w) (fun bb σm1 => wX8_thrown (fun th σm2 => th = (0 : Int32) ∧ ((0 : Int32) = (0 : Int32) → (vp_updL f 0 (r.toInt64) 0) = (bb.toInt64)) ∧ RR (i + 6) s1 σm2) σm1) σm) (c := nI (2 ^ aM A - 1) &&& (nI (wsO rkX A (wyA A)) ^^^ (-1 : Int32))) hw (fun hc => qx_allThings ha hx1 ?_) (hmod _ (by rw [wa_eq ha cw, ws_eq ha cw]))
      rw [t4]; exact hc
    · intro S hS
      obtain ⟨h1, h2⟩ := m0 hS
      refine br_f (nI_pos (by omega)) (br_t (nI_le (b := 3) (by omega) (by decide)) (qm_tellTiesR h h1 (fun S2 q1 q2 q3 q4 q5 q6 => ?_)))
      rw [if_neg (by omega)]
      exact br_t rfl (thr_ok (by rw [q2]; exact h2) ⟨rfl, fun _ => rfl, A, g, v, (hX.mti q1 q3 q4 q5 q6).up (by omega)⟩)
end OpP
