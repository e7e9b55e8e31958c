/-! ===== ties: the class ===== -/
def ptA (A : AH) (P : Nat → Nat → Nat) : AH := (A.1, fun r k => if r < 3 then A.2 r k else P (r - 3) k)
theorem ptA_P (A : AH) (P : Nat → Nat → Nat) : aP (ptA A P) = P := by
  funext p t
  show (if p + 3 < 3 then A.2 (p + 3) t else P (p + 3 - 3) t) = P p t
  rw [if_neg (by omega), Nat.add_sub_cancel]
theorem ptA_self (A : AH) : ptA A (aP A) = A := by
  refine Prod.ext rfl (funext fun r => funext fun k => ?_)
  show (if r < 3 then A.2 r k else A.2 (r - 3 + 3) k) = A.2 r k
  split
  · rfl
  · rw [show r - 3 + 3 = r by omega]
theorem ptA_aw {A : AH} (ha : AW A) {P : Nat → Nat → Nat} (hf : ∀ p t, p < aN A → t < aM A → P p t < aM A) : AW (ptA A P) := by
  obtain ⟨h1, h2, h3, h4, h5, h6, ⟨h7, h7b⟩, h8, h9, h10⟩ := ha
  refine ⟨h1, h2, h3, h4, h5, h6, ⟨h7, h7b⟩, h8, h9, fun q t hq ht => ?_⟩
  rw [ptA_P]; exact hf q t hq ht
theorem ptA_hx {A : AH} {P P' : Nat → Nat → Nat} {σ : hsS} (h : HX 6 (ptA A P) σ) (e : ∀ p t, p < aN A → t < aM A → P p t = P' p t) : HX 6 (ptA A P') σ := by
  obtain ⟨h1, h2, h3, h4, h5⟩ := h
  refine ⟨h1, h2, fun p t hp ht => ?_, h4, h5⟩
  have := h3 p t hp ht
  rw [ptA_P] at this ⊢
  rw [this, e p t hp ht]
def upP (P : Nat → Nat → Nat) (p t x q r : Nat) : Nat := if q = p ∧ r = t then x else P q r
section TiX
variable {A : AH} {g : Nat → Nat → Nat} {σ : hsS} {p : Nat}
theorem qx_putPt {P : Nat → Nat → Nat} {t x : Nat} (ha : AW A) (hp : p < aN A) (ht : t < aM A) (h : HX 6 (ptA A P) σ) {post : hsS → Prop} (k : ∀ σ', FRm [] [8] σ σ' → HX 6 (ptA A (upP P p t x)) σ' → post σ') : wX1_putPlace 6 (nI p) (nI t) (nI x) post σ := by
  have hm := aw_m ha; have hn := aw_n ha
  refine qx_putRaw (by omega) (fun S hS => ?_)
  have hat : S.2.1 8 = upd (σ.2.1 8) (9 * p + t) (nI x) := by rw [hS]; exact hsA_at _ _ _
  have hF : FRm [] [8] σ S := by rw [hS]; exact FRm.arr _ (by decide)
  refine k S hF ⟨fun q hq => by rw [hF.1 _ (by simp)]; exact h.1 q hq, fun q hq => by rw [hF.2.1 _ (by decide)]; exact h.2.1 q hq, fun q r hq hr => ?_, fun q hq => by rw [hF.2.1 _ (by decide)]; exact h.2.2.2.1 q hq, fun q hq => by rw [hF.2.1 _ (by decide)]; exact h.2.2.2.2 q hq⟩
  have hr : r < aM A := hr
  rw [ptA_P]
  show S.2.1 8 (9 * q + r) = _
  rw [hat]
  unfold upP
  by_cases c : q = p ∧ r = t
  · rw [if_pos c, c.1, c.2, pk_us]
  · rw [if_neg c, pk_un (fun e => c ⟨by omega, by omega⟩)]
    have := h.2.2.1 q r hq hr
    rw [ptA_P] at this; exact this
theorem qx_putRanks {P : Nat → Nat → Nat} {q : Nat} {rk : Nat → Nat} (ha : AW A) (hx : HX 1 A σ) (hp : p < aN A) (hq : q < aM A) (h : HX 6 (ptA A P) σ) (hr : ∀ j, j < gsO (aP A p) (aM A) q → σ.2.1 29 j = nI (rk j)) {post : hsS → Prop} (k : ∀ σ', FRm [] [8] σ σ' → HX 6 (ptA A (fun a t => if a = p ∧ t < aM A ∧ aP A p t = q then q + rk (ixO (aP A p) t) else P a t)) σ' → post σ') : wX2_putRanks 25 1 6 (nI p) (nI q) post σ := by
  have hm := aw_m ha; have hn := aw_n ha
  have L : ∀ K : Int32 → Int32 → hsS → Prop, (∀ s, FRm [] [8] σ s → HX 6 (ptA A (fun a t => if a = p ∧ t < aM A ∧ aP A p t = q then q + rk (ixO (aP A p) t) else P a t)) s → ∀ y z, K y z s) → ∃ n, wX2_putRanks_L6 25 1 6 (nI p) (nI q) K post n 0 0 σ := fun K kk =>
    pk_loop (fun n j (y : Int32 × hsS) => wX2_putRanks_L6 25 1 6 (nI p) (nI q) K post n y.1 (nI j) y.2) (fun j y => y.1 = nI (fb_ct (fun t => decide (aP A p t = q)) j) ∧ FRm [] [8] σ y.2 ∧ HX 6 (ptA A (fun a t => if a = p ∧ t < j ∧ aP A p t = q then q + rk (ixO (aP A p) t) else P a t)) y.2) (aM A) 0 (0, σ) (Nat.zero_le _) ⟨rfl, FRm.rf, ptA_hx h (fun a t _ _ => by rw [if_neg (by omega)])⟩
      (fun n y e => by
        rw [wX2_putRanks_L6]
        exact br_t (by rw [hx_m (hx.fr e.2.1 (by simp) (by decide))]; exact nI_le (Nat.le_refl _) (by omega)) (kk _ e.2.1 e.2.2 _ _))
      (fun n j y hj e ih => by
        obtain ⟨y1, s⟩ := y
        obtain ⟨e1, e2, e3⟩ := e
        dsimp only at e1 e2 e3 ⊢
        have hxs := hx.fr e2 (by simp) (by decide)
        have hct := fb_ct_le (fun t => decide (aP A p t = q)) j
        rw [wX2_putRanks_L6]
        rw [e1]
        refine br_f (by rw [hx_m hxs]; exact nI_ge hj (by omega)) (br_f (nI_ge (b := 9) (by omega) (by decide)) (qx_placeOf ha hxs hp hj ?_))
        have hpl := aw_p ha hp hj
        refine pk_eq (aP A p j) q (fun c => ⟨pk_in (fb_ct (fun t => decide (aP A p t = q)) j) 9 (by omega), ?_⟩) (fun c => nm_e ?_)
        · have hix : ixO (aP A p) j = fb_ct (fun t => decide (aP A p t = q)) j := by unfold ixO; rw [c]
          have hlt := ix_lt (f := aP A p) hj
          rw [c, hix] at hlt
          rw [nI_clamp (by omega), e2.2.1 29 (by decide), hr _ hlt, nI_add]
          refine qx_putPt ha hp hj e3 (fun S f1 f2 => nm_e (nm_e ?_))
          rw [nI_1, nI_1]
          refine ih (_, S) ⟨?_, e2.trans f1, ptA_hx f2 (fun a t _ ht => ?_)⟩
          · rw [fb_ct_succ]; simp [c]; rfl
          · unfold upP
            dsimp only
            by_cases z : a = p ∧ t = j
            · rw [if_pos z, if_pos ⟨z.1, by omega, by rw [z.2]; exact c⟩, z.2, hix]
            · rw [if_neg z]
              by_cases z2 : a = p ∧ t < j ∧ aP A p t = q
              · rw [if_pos z2, if_pos ⟨z2.1, by omega, z2.2.2⟩]
              · rw [if_neg z2, if_neg (fun z3 => z2 ⟨z3.1, by rcases Nat.decEq t j with w | w
                                                              · omega
                                                              · exact absurd ⟨z3.1, w⟩ z, z3.2.2⟩)]
        · rw [nI_1]
          refine ih (_, s) ⟨?_, e2, ptA_hx e3 (fun a t _ ht => ?_)⟩
          · rw [fb_ct_succ]; simp [c]
            first | done | rfl
          · by_cases z2 : a = p ∧ t < j ∧ aP A p t = q
            · rw [if_pos z2, if_pos ⟨z2.1, by omega, z2.2.2⟩]
            · rw [if_neg z2, if_neg (fun z3 => z2 ⟨z3.1, by rcases Nat.decEq t j with w | w
                                                            · omega
                                                            · rw [w] at z3; exact absurd z3.2.2 c, z3.2.2⟩)])
  exact L _ (fun s h1 h2 _ _ => k s h1 h2)
theorem rk_1 : ∀ s, s < 2 → ∀ c, c < faO s → ∀ j, j < s → rkX s c j = 0 := by decide +kernel
theorem pl_one {f : Nat → Nat} {m k t : Nat} (ht : t < m) (h : gsO f m (f t) < 2) : plO rkX f m k t = f t := by
  unfold plO
  rw [rk_1 _ h _ (dg_lt f m k (f t)) _ (ix_lt ht), Nat.add_zero]
theorem qx_putOrder {P : Nat → Nat → Nat} {k : Nat} (ha : AW A) (hx : HX 1 A σ) (hp : p < aN A) (hk : k < 2 ^ 31) (h : HX 6 (ptA A P) σ) (h1 : ∀ t, t < aM A → gsO (aP A p) (aM A) (aP A p t) < 2 → P p t = aP A p t) {post : hsS → Prop} (kk : ∀ σ' P', FRm [] [8, 29] σ σ' → HX 6 (ptA A P') σ' → (∀ a t, a ≠ p → P' a t = P a t) → (∀ t, t < aM A → P' p t = plO rkX (aP A p) (aM A) k t) → post σ') : wX2_putOrder 25 1 6 (nI p) (nI k) post σ := by
  have hm := aw_m ha; have hn := aw_n ha
  refine pk_loop (fun n q (y : Int32 × hsS) => wX2_putOrder_L7 25 1 6 (nI p) (nI k) _ post n y.1 (nI q) y.2) (fun q y => y.1 = nI (k / prO (fun r => faO (gsO (aP A p) (aM A) r)) q) ∧ FRm [] [8, 29] σ y.2 ∧ ∃ P', HX 6 (ptA A P') y.2 ∧ (∀ a t, a ≠ p → P' a t = P a t) ∧ (∀ t, t < aM A → aP A p t < q → P' p t = plO rkX (aP A p) (aM A) k t) ∧ ∀ t, t < aM A → q ≤ aP A p t → P' p t = P p t) (aM A) 0 (nI k, σ) (Nat.zero_le _) ⟨by show nI k = nI (k / 1); rw [Nat.div_one], FRm.rf, P, h, fun _ _ _ => rfl, fun t _ hc => absurd hc (Nat.not_lt_zero _), fun _ _ _ => rfl⟩ ?_ ?_
  · intro n y e
    obtain ⟨_, e2, P', e3, e4, e5, _⟩ := e
    rw [wX2_putOrder_L7]
    exact br_t (by rw [hx_m (hx.fr e2 (by simp) (by decide))]; exact nI_le (Nat.le_refl _) (by omega)) (kk _ P' e2 e3 e4 (fun t ht => e5 t ht (aw_p ha hp ht)))
  · intro n q y hq e ih
    obtain ⟨y1, s⟩ := y
    obtain ⟨e1, e2, P', e3, e4, e5, e6⟩ := e
    dsimp only at e1 e2 e3 ⊢
    have hxs := hx.fr e2 (by simp) (by decide)
    have hgl := fb_ct_le (fun t => decide (aP A p t = q)) (aM A)
    have hdl : k / prO (fun r => faO (gsO (aP A p) (aM A) r)) q ≤ k := Nat.div_le_self _ _
    rw [wX2_putOrder_L7]
    refine br_f (by rw [hx_m hxs]; exact nI_ge hq (by omega)) (qx_groupSize ha hxs hp (by omega) ?_)
    refine pk_le (gsO (aP A p) (aM A) q) 1 (fun c => nm_e ?_) (fun c => ?_) rfl rfl (by unfold gsO; omega) (by omega)
    · rw [nI_1]
      have hf1 : faO (gsO (aP A p) (aM A) q) = 1 := by
        rcases Nat.lt_or_ge (gsO (aP A p) (aM A) q) 1 with z | z
        · rw [show gsO (aP A p) (aM A) q = 0 by omega]; rfl
        · rw [show gsO (aP A p) (aM A) q = 1 by omega]; rfl
      refine ih (y1, s) ⟨?_, e2, P', e3, e4, fun t ht hc => ?_, fun t ht hc => e6 t ht (by omega)⟩
      · show y1 = _
        rw [e1, prO_succ]
        show _ = nI (k / (_ * faO (gsO (aP A p) (aM A) q)))
        rw [hf1, Nat.mul_one]
      · rcases Nat.lt_or_ge (aP A p t) q with z | z
        · exact e5 t ht z
        · have hqt : aP A p t = q := by omega
          have hg2 : gsO (aP A p) (aM A) (aP A p t) < 2 := by rw [hqt]; omega
          rw [e6 t ht z, h1 t ht hg2, pl_one ht hg2]
    · have hs9 : gsO (aP A p) (aM A) q ≤ 9 := by unfold gsO; omega
      have hfl := faO_lt (gsO (aP A p) (aM A) q) (by omega)
      have hfp := faO_pos (gsO (aP A p) (aM A) q)
      refine qx_factorial (by show gsO (aP A p) (aM A) q < 10; omega) ⟨nI_ne0 hfp (by show faO (gsO (aP A p) (aM A) q) < 2 ^ 31; omega), ?_⟩
      have hre : y1 - y1 / nI (faO (gsO (aP A p) (aM A) q)) * nI (faO (gsO (aP A p) (aM A) q)) = nI (dgO (aP A p) (aM A) k q) := by
        rw [e1]; exact pk_rem (by omega) hfp (by omega)
      have hre2 : y1 - y1 / nI (faO (fb_ct (fun t => decide (aP A p t = q)) (aM A))) * nI (faO (fb_ct (fun t => decide (aP A p t = q)) (aM A))) = nI (dgO (aP A p) (aM A) k q) := hre
      rw [hre2]
      refine qx_nthOrder (s := gsO (aP A p) (aM A) q) hs9 (dg_lt _ _ _ _) (fun s2 f2 o2 => ⟨nI_ne0 hfp (by show faO (gsO (aP A p) (aM A) q) < 2 ^ 31; omega), nm_r (e' := nI (k / prO (fun r => faO (gsO (aP A p) (aM A) r)) (q + 1))) ?_ ?_⟩)
      · rw [e1, prO_succ, ← Nat.div_div_eq_div_mul]
        exact pk_div (by omega) hfp (by show faO (gsO (aP A p) (aM A) q) < 2 ^ 31; omega)
      · refine qx_putRanks (P := P') (rk := rkX (gsO (aP A p) (aM A) q) (dgO (aP A p) (aM A) k q)) ha (hxs.fr f2 (by simp) (by decide)) hp hq (e3.fr f2 (by simp) (by decide)) o2 (fun S f3 x3 => nm_e ?_)
        rw [nI_1]
        refine ih (_, S) ⟨rfl, (e2.trans (f2.weak (by simp) (by decide))).trans (f3.weak (by simp) (by decide)), _, x3, fun a t hap => ?_, fun t ht hc => ?_, fun t ht hc => ?_⟩
        · show (if a = p ∧ t < aM A ∧ aP A p t = q then _ else P' a t) = P a t
          rw [if_neg (fun z => hap z.1)]; exact e4 a t hap
        · show (if p = p ∧ t < aM A ∧ aP A p t = q then _ else P' p t) = _
          rcases Nat.decEq (aP A p t) q with z | z
          · rw [if_neg (fun w => z w.2.2)]; exact e5 t ht (by omega)
          · rw [if_pos ⟨rfl, ht, z⟩]; unfold plO; rw [z]
        · show (if p = p ∧ t < aM A ∧ aP A p t = q then _ else P' p t) = _
          rw [if_neg (fun w => by omega)]; exact e6 t ht (by omega)
theorem qx_orderIn {w : Nat} (hp : p < 8) (hw : w < 2 ^ 31) (hst : σ.2.1 28 p = nI (wyO A p)) (hod : σ.2.1 27 p = nI (orA A p)) {post : Int32 → hsS → Prop} (k : post (nI (oiO A w p)) σ) : wX2_orderIn 25 (nI w) (nI p) post σ := by
  have h1 := wyO_pos A p; have h2 := wyO_le A p; have h3 := orA_pos A p
  have h4 : orA A p ≤ 241 := Nat.min_le_left _ _
  have m1 : ∀ x, 0 < x → x < 2 ^ 31 → (if (1 : Int32) < nI x then nI x else (1 : Int32)) = nI x := fun x hx hx2 => by
    have := nI_max (a := 1) (c := x) (by decide) hx2
    rw [show max 1 x = x by omega] at this; exact this
  have hd : w / wyO A p ≤ w := Nat.div_le_self _ _
  unfold wX2_orderIn
  show vp_in (nI p) 8 ∧ ¬ (if (1 : Int32) < (σ.2.1 28 (nI p).toNatClampNeg) then (σ.2.1 28 (nI p).toNatClampNeg) else (1 : Int32)) = 0 ∧ vp_in (nI p) 8 ∧ ¬ (if (1 : Int32) < (σ.2.1 27 (nI p).toNatClampNeg) then (σ.2.1 27 (nI p).toNatClampNeg) else (1 : Int32)) = 0 ∧ post ((nI w / (if (1 : Int32) < (σ.2.1 28 (nI p).toNatClampNeg) then (σ.2.1 28 (nI p).toNatClampNeg) else (1 : Int32))) - (nI w / (if (1 : Int32) < (σ.2.1 28 (nI p).toNatClampNeg) then (σ.2.1 28 (nI p).toNatClampNeg) else (1 : Int32))) / (if (1 : Int32) < (σ.2.1 27 (nI p).toNatClampNeg) then (σ.2.1 27 (nI p).toNatClampNeg) else (1 : Int32)) * (if (1 : Int32) < (σ.2.1 27 (nI p).toNatClampNeg) then (σ.2.1 27 (nI p).toNatClampNeg) else (1 : Int32))) σ
  rw [nI_clamp (by omega), hst, hod, m1 _ h1 (by omega), m1 _ h3 (by omega), pk_div hw h1 (by omega), pk_rem (by omega) h3 (by omega)]
  exact ⟨pk_in p 8 hp, nI_ne0 h1 (by omega), pk_in p 8 hp, nI_ne0 h3 (by omega), k⟩
theorem cut_mul (x y : Nat) (hy : 0 < y) : min 241 (min 241 x * y) = min 241 (x * y) := by
  rcases Nat.lt_or_ge x 241 with z | z
  · rw [Nat.min_eq_right (show x ≤ 241 by omega)]
  · rw [Nat.min_eq_left z]
    have h1 := Nat.le_mul_of_pos_right x hy; have h2 := Nat.le_mul_of_pos_right 241 hy
    omega
theorem qx_ordersOf (ha : AW A) (hx : HX 1 A σ) (hp : p < aN A) {post : Int32 → hsS → Prop} (k : post (nI (orA A p)) σ) : wX2_ordersOf 1 (nI p) post σ := by
  have hm := aw_m ha
  have L : ∀ K : Int32 → Int32 → hsS → Prop, (∀ z, K (nI (orA A p)) z σ) → ∃ n, wX2_ordersOf_L4 1 (nI p) K post n 1 0 σ := fun K kk =>
    pk_loop (fun n q (y : Int32) => wX2_ordersOf_L4 1 (nI p) K post n y (nI q) σ) (fun q y => y = nI (min 241 (prO (fun r => faO (gsO (aP A p) (aM A) r)) q))) (aM A) 0 1 (Nat.zero_le _) rfl
      (fun n y e => by
        rw [wX2_ordersOf_L4]
        exact br_t (by rw [hx_m hx]; exact nI_le (Nat.le_refl _) (by omega)) (by rw [e]; exact kk _))
      (fun n q y hq e ih => by
        rw [wX2_ordersOf_L4]
        have hgl := fb_ct_le (fun t => decide (aP A p t = q)) (aM A)
        refine br_f (by rw [hx_m hx]; exact nI_ge hq (by omega)) (qx_groupSize ha hx hp (by omega) (qx_factorial (by omega) ?_))
        have hfl : faO (gsO (aP A p) (aM A) q) ≤ 362880 := (by decide : ∀ s, s < 10 → faO s ≤ 362880) _ (by unfold gsO; omega)
        have hmul : min 241 (prO (fun r => faO (gsO (aP A p) (aM A) r)) q) * faO (gsO (aP A p) (aM A) q) ≤ 241 * 362880 := Nat.mul_le_mul (Nat.min_le_left _ _) hfl
        refine nm_r (e' := nI (min 241 (prO (fun r => faO (gsO (aP A p) (aM A) r)) (q + 1)))) ?_ (nm_e ?_)
        · rw [prO_succ, ← cut_mul _ _ (faO_pos _), e, pk_mul]
          have := nI_min (a := 241) (c := min 241 (prO (fun r => faO (gsO (aP A p) (aM A) r)) q) * faO (gsO (aP A p) (aM A) q)) (by decide) (by omega)
          exact this.trans (congrArg nI (Nat.min_comm _ _))
        · rw [nI_1]
          exact ih _ rfl)
  exact L _ (fun _ => k)
theorem qx_countWays (ha : AW A) (hx : HX 1 A σ) {post : hsS → Prop} (k : ∀ σ', FRm [1605] [27, 28] σ σ' → σ'.1 1605 = nI (wyA A) → (∀ q, q < aN A → σ'.2.1 27 q = nI (orA A q) ∧ σ'.2.1 28 q = nI (wyO A q)) → post σ') : wX2_countWays 25 1 post σ := by
  have hm := aw_m ha; have hn := aw_n ha
  intro s1 e1
  have f1 : FRm [1605] [27, 28] σ s1 := by rw [e1]; exact FRm.int _ (by decide)
  have a1 : s1.1 1605 = nI 1 := by rw [e1]; exact hsI_at _ _ _
  refine pk_loop (fun n j (s : hsS) => wX2_countWays_L7 25 1 _ post n (nI j) s) (fun j s => FRm [1605] [27, 28] σ s ∧ s.1 1605 = nI (wyO A j) ∧ ∀ q, q < j → s.2.1 27 q = nI (orA A q) ∧ s.2.1 28 q = nI (wyO A q)) (aN A) 0 s1 (Nat.zero_le _) ⟨f1, a1, fun q hq => absurd hq (Nat.not_lt_zero _)⟩ ?_ ?_
  · intro n s e
    rw [wX2_countWays_L7]
    exact br_t (by rw [hx_n (hx.fr e.1 (by decide) (by decide))]; exact nI_le (Nat.le_refl _) (by omega)) (k s e.1 e.2.1 e.2.2)
  · intro n j s hj e ih
    obtain ⟨d1, d2, d3⟩ := e
    rw [wX2_countWays_L7]
    refine br_f (by rw [hx_n (hx.fr d1 (by decide) (by decide))]; exact nI_ge hj (by omega)) ⟨pk_in j 8 (by omega), fun s3 e3 => ?_⟩
    rw [nI_clamp (by omega)] at e3
    have e3' : s3 = hsA s 28 (upd (s.2.1 28) j (nI (wyO A j))) := by rw [e3, ← d2]
    have f3 : FRm [1605] [27, 28] σ s3 := by rw [e3']; exact d1.trans (FRm.arr _ (by decide))
    refine qx_ordersOf ha (hx.fr f3 (by decide) (by decide)) hj ⟨pk_in j 8 (by omega), fun s6 e6 => ⟨pk_in j 8 (by omega), fun s7 e7 => nm_e ?_⟩⟩
    rw [nI_1]
    rw [nI_clamp (by omega)] at e6 e7
    have e6' : s6 = hsA s3 27 (upd (s3.2.1 27) j (nI (orA A j))) := e6
    have i6 : s6.1 1605 = nI (wyO A j) := by rw [e6', e3']; exact d2
    have o6 : s6.2.1 27 j = nI (orA A j) := by rw [e6', hsA_at, pk_us]
    have hor : orA A j ≤ 241 := Nat.min_le_left _ _
    have hwy := wyO_le A j
    have hmul : wyO A j * orA A j ≤ 241 * 241 := Nat.mul_le_mul hwy hor
    have e7' : s7 = hsI s6 1605 (nI (wyO A (j + 1))) := by
      have hv : (if (241 : Int32) < nI (wyO A j) * nI (orA A j) then (241 : Int32) else nI (wyO A j) * nI (orA A j)) = nI (wyO A (j + 1)) := by
        rw [pk_mul]
        have := nI_min (a := 241) (c := wyO A j * orA A j) (by decide) (by omega)
        rw [Nat.min_comm] at this
        exact this
      rw [← hv, ← i6, ← o6]; exact e7
    refine ih s7 ⟨by rw [e7', e6']; exact (f3.trans (FRm.arr _ (by decide))).trans (FRm.int _ (by decide)), by rw [e7', hsI_at], fun q hq => ?_⟩
    have a27 : s7.2.1 27 = upd (s.2.1 27) j (nI (orA A j)) := by rw [e7']; show s6.2.1 27 = _; rw [e6', hsA_at, e3', hsA_ne _ _ (by decide)]
    have a28 : s7.2.1 28 = upd (s.2.1 28) j (nI (wyO A j)) := by rw [e7']; show s6.2.1 28 = _; rw [e6', hsA_ne _ _ (by decide), e3', hsA_at]
    rw [a27, a28]
    rcases Nat.decEq q j with z | z
    · rw [pk_un z, pk_un z]; exact d3 q (by omega)
    · rw [z, pk_us, pk_us]; exact ⟨rfl, rfl⟩
theorem rk_lt1 : ∀ s, s < 6 → ∀ c, c < faO s → ∀ j, j < s → rkX s c j < s ∧ rkM s c j < s := by decide +kernel
theorem pl_lt (ha : AW A) (hg : GW A g) (hp : p < aN A) (ho : odO (aP A p) (aM A) ≤ 240) (k : Nat) {t : Nat} (ht : t < aM A) : plO rkX (aP A p) (aM A) k t < aM A ∧ plO rkM (aP A p) (aM A) k t < aM A := by
  have hm := aw_m ha
  have hpt := aw_p ha hp ht
  have h1 := rk_lt1 _ (gs_small hm.2 ho hpt) _ (dg_lt (aP A p) (aM A) k (aP A p t)) _ (ix_lt ht)
  have h2 := gw_le hg hp ht
  have h3 := fb_ct_le (fun k => decide (g p k ≤ g p t)) (aM A)
  unfold plO; omega
/-- what the class knows of ties -/
def TX (A : AH) (σ : hsS) : Prop := σ.1 1605 = nI (wyA A) ∧ (∀ p, p < aN A → σ.2.1 27 p = nI (orA A p) ∧ σ.2.1 28 p = nI (wyO A p)) ∧ (wyA A ≤ 240 → σ.1 1606 = nI (waO rkX A (wyA A)) ∧ σ.1 1607 = nI (wsO rkX A (wyA A)) ∧ ∀ j, j < wyA A → σ.2.1 26 j = nI (wcO rkX A j))
theorem qx_learnT (ha : AW A) (hg : GW A g) (htc : aTc A ≤ 8) (hx : HX 1 A σ) (hX : XT A (σ.1 1604) (σ.1 1605) (σ.1 1606) (σ.1 1607) (σ.2.1 26) (σ.2.1 27) (σ.2.1 28)) {post : hsS → Prop} (k : ∀ σ', FRm [384, 385, 386, 387, 388, 389, 390, 391, 1604, 1605, 1606, 1607] [7, 8, 9, 10, 19, 20, 26, 27, 28, 29] σ σ' → TX A σ' → post σ') : wX2_learn 25 1 6 18 post σ := by
  have hm := aw_m ha; have hn := aw_n ha
  refine br_c (fun c => fun s2 e2 => ?_) (fun c => ?_)
  · have f2 : FRm [384, 385, 386, 387, 388, 389, 390, 391, 1604, 1605, 1606, 1607] [7, 8, 9, 10, 19, 20, 26, 27, 28, 29] σ s2 := by rw [e2]; exact FRm.int _ (by decide)
    refine qx_countWays ha (hx.fr f2 (by decide) (by decide)) (fun s4 f4 w4 o4 => ?_)
    have F4 := f2.trans (f4.weak (by decide) (by decide))
    have hx4 : HX 1 A s4 := hx.fr F4 (by decide) (by decide)
    have hwl : wyA A ≤ 241 := wyO_le A _
    unfold wX2_spent
    rw [show s4.1 (64 * 25 + 5) = nI (wyA A) from w4]
    refine pk_le (wyA A) 240 (fun cw => br_t rfl ?_) (fun cw => br_f (by decide) (k s4 F4 ⟨w4, o4, fun h => by omega⟩))
    refine qx_takeSpare ha htc hx4 (fun s9 f9 x9 => qx_weigh ha (hx4.fr f9 (by decide) (by decide)) (by decide) (fun s11 f11 m11 => ?_))
    have F11 := (F4.trans (f9.weak (by decide) (by decide))).trans (f11.weak (by decide) (by decide))
    refine qx_allThings ha (hx.fr F11 (by decide) (by decide)) (fun s14 e14 s15 e15 => ?_)
    have f15 : FRm [1606, 1607] [] s11 s15 := by rw [e15, e14]; exact (FRm.int _ (by decide)).trans (FRm.int _ (by decide))
    have F15 := F11.trans (f15.weak (by decide) (by decide))
    have hx15 : HX 1 A s15 := hx.fr F15 (by decide) (by decide)
    have a6 : s15.1 1606 = nI (2 ^ aM A - 1) := by rw [e15, hsI_ne _ _ (by decide), e14]; exact hsI_at _ _ _
    have a7 : s15.1 1607 = nI 0 := by rw [e15]; exact hsI_at _ _ _
    have a5 : s15.1 1605 = nI (wyA A) := by rw [f15.1 1605 (by decide), f11.1 1605 (by decide), f9.1 1605 (by decide)]; exact w4
    have o15 : ∀ q, q < aN A → s15.2.1 27 q = nI (orA A q) ∧ s15.2.1 28 q = nI (wyO A q) := by
      rw [f15.2.1 27 (by decide), f11.2.1 27 (by decide), f9.2.1 27 (by decide), f15.2.1 28 (by decide), f11.2.1 28 (by decide), f9.2.1 28 (by decide)]; exact o4
    have m15 : ∀ q, q < 2 ^ aN A → s15.2.1 19 q = nI (aMay A (aM A) (aAW A) q) := by
      rw [f15.2.1 19 (by decide)]; exact m11
    have x15 : HX 6 (ptA A (aP A)) s15 := by rw [ptA_self]; exact (x9.fr f11 (by decide) (by decide)).fr f15 (by decide) (by decide)
    have hy := wy_pr (A := A) (n := aN A) cw
    refine pk_loop (fun n w (s : hsS) => wX2_learn_L52 25 1 6 18 _ post n (nI w) s) (fun w s => FRm [1606, 1607] [8, 20, 26, 29] s15 s ∧ (∃ P, HX 6 (ptA A P) s ∧ ∀ p t, p < aN A → t < aM A → gsO (aP A p) (aM A) (aP A p t) < 2 → P p t = aP A p t) ∧ s.1 1606 = nI (waO rkX A w) ∧ s.1 1607 = nI (wsO rkX A w) ∧ ∀ j, j < w → s.2.1 26 j = nI (wcO rkX A j)) (wyA A) 0 s15 (Nat.zero_le _) ⟨FRm.rf, ⟨aP A, x15, fun _ _ _ _ _ => rfl⟩, a6, a7, fun j hj => absurd hj (Nat.not_lt_zero _)⟩ ?_ ?_
    · intro n s e
      obtain ⟨d1, _, d3, d4, d5⟩ := e
      rw [wX2_learn_L52]
      refine br_t (by rw [show s.1 (64 * 25 + 5) = nI (wyA A) from by rw [d1.1 _ (by decide)]; exact a5]; exact nI_le (Nat.le_refl _) (by omega)) (k s (F15.trans (d1.weak (by decide) (by decide))) ⟨by rw [d1.1 _ (by decide)]; exact a5, ?_, fun _ => ⟨d3, d4, d5⟩⟩)
      rw [d1.2.1 27 (by decide), d1.2.1 28 (by decide)]; exact o15
    · intro n w s hw e ih
      obtain ⟨d1, ⟨P, d2, d2b⟩, d3, d4, d5⟩ := e
      rw [wX2_learn_L52]
      have L : ∀ K : Int32 → hsS → Prop, (∀ t, FRm [] [8, 29] s t → HX 6 (ptA A (wpO rkX A w)) t → ∀ z, K z t) → ∃ n, wX2_learn_L72 25 1 6 18 (nI w) K post n 0 s := fun K kk =>
        pk_loop (fun n j (t : hsS) => wX2_learn_L72 25 1 6 18 (nI w) K post n (nI j) t) (fun j t => FRm [] [8, 29] s t ∧ ∃ P, HX 6 (ptA A P) t ∧ (∀ p t, p < aN A → t < aM A → gsO (aP A p) (aM A) (aP A p t) < 2 → P p t = aP A p t) ∧ ∀ p t, p < j → t < aM A → P p t = wpO rkX A w p t) (aN A) 0 s (Nat.zero_le _) ⟨FRm.rf, P, d2, d2b, fun p t hp => absurd hp (Nat.not_lt_zero _)⟩
          (fun n t e => by
            obtain ⟨q1, P1, q2, q3, q4⟩ := e
            rw [wX2_learn_L72]
            exact br_t (by rw [hx_n ((hx15.fr d1 (by decide) (by decide)).fr q1 (by simp) (by decide))]; exact nI_le (Nat.le_refl _) (by omega)) (kk t q1 (ptA_hx q2 (fun p t hp ht => q4 p t hp ht)) _))
          (fun n j t hj e ih2 => by
            obtain ⟨q1, P1, q2, q3, q4⟩ := e
            rw [wX2_learn_L72]
            have hxt : HX 1 A t := (hx15.fr d1 (by decide) (by decide)).fr q1 (by simp) (by decide)
            have hoj : t.2.1 27 j = nI (orA A j) ∧ t.2.1 28 j = nI (wyO A j) := by
              rw [q1.2.1 27 (by decide), q1.2.1 28 (by decide), d1.2.1 27 (by decide), d1.2.1 28 (by decide)]; exact o15 j hj
            have hoi : oiO A w j < 2 ^ 31 := by
              have h1 : oiO A w j < orA A j := Nat.mod_lt _ (orA_pos A j)
              have h2 : orA A j ≤ 241 := Nat.min_le_left _ _
              omega
            refine br_f (by rw [hx_n hxt]; exact nI_ge hj (by omega)) (qx_orderIn (A := A) (by omega) (by omega) hoj.2 hoj.1 (qx_putOrder ha hxt hj hoi q2 (fun t ht hc => q3 j t hj ht hc) (fun S P2 f1 x1 p1 p2 => nm_e ?_)))
            rw [nI_1]
            refine ih2 S ⟨q1.trans f1, P2, x1, fun p t hp ht hc => ?_, fun p t hp ht => ?_⟩
            · rcases Nat.decEq p j with z | z
              · rw [p1 p t z]; exact q3 p t hp ht hc
              · subst z; rw [p2 t ht, pl_one ht hc]
            · rcases Nat.decEq p j with z | z
              · rw [p1 p t z]; exact q4 p t (by omega) ht
              · subst z; exact p2 t ht)
      have h5 : s.1 (64 * 25 + 5) = nI (wyA A) := by rw [d1.1 _ (by decide)]; exact a5
      refine br_f (by rw [h5]; exact nI_ge hw (by omega)) (br_f (nI_ge (b := 240) (by omega) (by decide)) (L _ (fun t f1 x1 _ => ?_)))
      have hPl : ∀ p q, p < aN A → q < aM A → wpO rkX A w p q < aM A := fun p q hp hq => (pl_lt ha hg hp ((hy p (by omega)).2 hp).2 _ hq).1
      have haw := ptA_aw ha hPl
      refine qx_coreAsWeighed haw x1 (by decide) (may := aMay A (aM A) (aAW A)) (fun q hq => ⟨?_, ?_⟩) (fun S g1 => ?_)
      · rw [f1.2.1 _ (by decide), d1.2.1 _ (by decide)]; exact m15 q hq
      · have := aMay_le (A := A) (m := aM A) (aw := aAW A) (s := q)
        show aMay A (aM A) (aAW A) q + 1 ≤ aM A; omega
      · rw [ptA_P]
        rw [show coO (wpO rkX A w) (aM (ptA A (wpO rkX A w))) (aN (ptA A (wpO rkX A w))) (aMay A (aM A) (aAW A)) = wcO rkX A w from rfl]
        refine ⟨pk_in w 240 (by omega), fun s29 e29 => ⟨pk_in w 240 (by omega), fun s30 e30 => ⟨pk_in w 240 (by omega), fun s31 e31 => nm_e ?_⟩⟩⟩
        rw [nI_1]
        rw [nI_clamp (by omega)] at e29 e30 e31
        have e29' : s29 = hsA S 26 (upd (S.2.1 26) w (nI (wcO rkX A w))) := e29
        have c29 : s29.2.1 26 w = nI (wcO rkX A w) := by rw [e29', hsA_at, pk_us]
        have g29 : FRm [1606, 1607] [8, 20, 26, 29] s15 s29 := by
          rw [e29']; exact ((d1.trans (f1.weak (by simp) (by decide))).trans (g1.weak (by simp) (by decide))).trans (FRm.arr _ (by decide))
        have i6 : s29.1 1606 = nI (waO rkX A w) := by rw [e29']; show S.1 1606 = _; rw [g1.1 _ (by simp), f1.1 _ (by simp)]; exact d3
        have i7 : s29.1 1607 = nI (wsO rkX A w) := by rw [e29']; show S.1 1607 = _; rw [g1.1 _ (by simp), f1.1 _ (by simp)]; exact d4
        have e30' : s30 = hsI s29 1606 (nI (waO rkX A (w + 1))) := by
          show s30 = hsI s29 1606 (nI (waO rkX A w &&& wcO rkX A w))
          rw [← fa_and, ← i6, ← c29]; exact e30
        have e31' : s31 = hsI s30 1607 (nI (wsO rkX A (w + 1))) := by
          have j7 : s30.1 1607 = nI (wsO rkX A w) := by rw [e30', hsI_ne _ _ (by decide)]; exact i7
          have j26 : s30.2.1 26 w = nI (wcO rkX A w) := by rw [e30']; exact c29
          show s31 = hsI s30 1607 (nI (wsO rkX A w ||| wcO rkX A w))
          rw [← fa_or, ← j7, ← j26]; exact e31
        have h31 : s31.2 = s29.2 := by rw [e31', e30']; rfl
        refine ih s31 ⟨by rw [e31', e30']; exact (g29.trans (FRm.int _ (by decide))).trans (FRm.int _ (by decide)), ⟨wpO rkX A w, ?_, fun p t hp ht hc => ?_⟩, ?_, ?_, fun j hj => ?_⟩
        · have xS : HX 6 (ptA A (wpO rkX A w)) S := x1.fr g1 (by simp) (by decide)
          have x29 : HX 6 (ptA A (wpO rkX A w)) s29 := by rw [e29']; exact xS.fr (FRm.arr (I := []) (R := [26]) _ (by decide)) (by simp) (by decide)
          exact (x29.fr (FRm.int (σ := s29) (I := [1606, 1607]) (R := []) (k := 1606) (nI (waO rkX A (w + 1))) (by decide)) (by decide) (by decide)) |> fun y => by
            rw [e31', e30']
            exact y.fr (FRm.int (I := [1607]) (R := []) _ (by decide)) (by decide) (by decide)
        · exact pl_one ht hc
        · rw [e31', hsI_ne _ _ (by decide), e30', hsI_at]
        · rw [e31', hsI_at]
        · rw [h31, e29', hsA_at]
          rcases Nat.decEq j w with z | z
          · rw [pk_un z, g1.2.1 26 (by decide), f1.2.1 26 (by decide)]; exact d5 j (by omega)
          · rw [z, pk_us]
  · rcases hX with hX | hX
    · exact absurd hX c
    · exact k σ FRm.rf hX
end TiX
