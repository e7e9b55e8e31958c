/-! ===== calls: trades ===== -/
def swO (u : Nat → Nat) (i j k : Nat) : Nat := if k = j then u i else if k = i then u j else u k
def swA (A : AH) (i j : Nat) : AH := (A.1, fun r k => if r = 2 then swO (A.2 2) i j k else A.2 r k)
theorem swA_P (A : AH) (i j : Nat) : aP (swA A i j) = aP A := by
  funext p t
  show (if p + 3 = 2 then swO (A.2 2) i j t else A.2 (p + 3) t) = A.2 (p + 3) t
  exact if_neg (by omega)
theorem swA_aw {A : AH} (ha : AW A) {i j : Nat} (hi : i < aNt A) (hj : j < aNt A) : AW (swA A i j) := by
  obtain ⟨h1, h2, h3, h4, h5, h6, ⟨h7, h7b⟩, h8, h9, h10⟩ := ha
  refine ⟨h1, h2, h3, h4, h5, h6, ⟨h7, fun k hk => ?_⟩, h8, h9, fun p t hp ht => ?_⟩
  · show swO (A.2 2) i j k < aN A
    unfold swO
    split
    · exact h7b i hi
    · split
      · exact h7b j hj
      · exact h7b k hk
  · rw [swA_P]; exact h10 p t hp ht
/-- the end when i and j change -/
def teO (A : AH) (i j : Nat) : Nat := peO (aP A) (aM A) (swO (aU A) i j) (aNt A)
def twO (A : AH) : Nat := peO (aP A) (aM A) (aU A) (aNt A)
def tpO (A : AH) (i j : Nat) : Bool := !decide (aU A i = aU A j) && (decide (gpO (aP A (aU A i)) (teO A i j) (aM A) < gpO (aP A (aU A i)) (twO A) (aM A)) && decide (gpO (aP A (aU A j)) (teO A i j) (aM A) < gpO (aP A (aU A j)) (twO A) (aM A)))
/-- how many pay, the first of them -/
def tsO (A : AH) (i : Nat) (acc : Nat × Option Nat) : Nat → Nat × Option Nat
  | 0 => acc
  | d + 1 => if tpO A i (i + 1 + d) = true then ((tsO A i acc d).1 + 1, some ((tsO A i acc d).2.getD (8 * i + (i + 1 + d)))) else tsO A i acc d
def trO (A : AH) : Nat → Nat × Option Nat
  | 0 => (0, none)
  | i + 1 => tsO A i (trO A i) (aNt A - (i + 1))
theorem tsO_ok {A : AH} {i : Nat} {acc : Nat × Option Nat} (h : acc.1 = 0 ↔ acc.2 = none) : ∀ d, ((tsO A i acc d).1 = 0 ↔ (tsO A i acc d).2 = none) ∧ (tsO A i acc d).1 ≤ acc.1 + d
  | 0 => ⟨h, Nat.le_refl _⟩
  | d + 1 => by
    have ih := tsO_ok (A := A) (i := i) h d
    show ((if tpO A i (i + 1 + d) = true then ((tsO A i acc d).1 + 1, some ((tsO A i acc d).2.getD (8 * i + (i + 1 + d)))) else tsO A i acc d).1 = 0 ↔ _) ∧ _
    rw [show tsO A i acc (d + 1) = (if tpO A i (i + 1 + d) = true then ((tsO A i acc d).1 + 1, some ((tsO A i acc d).2.getD (8 * i + (i + 1 + d)))) else tsO A i acc d) from rfl]
    split
    · refine ⟨?_, ?_⟩
      · simp
      · show (tsO A i acc d).1 + 1 ≤ _; omega
    · exact ⟨ih.1, by omega⟩
theorem trO_ok {A : AH} : ∀ i, ((trO A i).1 = 0 ↔ (trO A i).2 = none) ∧ (trO A i).1 ≤ i * aNt A
  | 0 => ⟨⟨fun _ => rfl, fun _ => rfl⟩, by simp [trO]⟩
  | i + 1 => by
    have ih := trO_ok (A := A) i
    have h2 := tsO_ok (A := A) (i := i) ih.1 (aNt A - (i + 1))
    refine ⟨h2.1, ?_⟩
    show (tsO A i (trO A i) (aNt A - (i + 1))).1 ≤ _
    rw [Nat.add_mul]; omega
theorem tsO_x {A : AH} {i : Nat} {acc : Nat × Option Nat} (hi : i < 10) (h : ∀ x, acc.2 = some x → x < 1000) : ∀ d, d < 10 → ∀ x, (tsO A i acc d).2 = some x → x < 1000
  | 0, _ => h
  | d + 1, hd => by
    have ih := tsO_x (A := A) hi h d (by omega)
    rw [show tsO A i acc (d + 1) = (if tpO A i (i + 1 + d) = true then ((tsO A i acc d).1 + 1, some ((tsO A i acc d).2.getD (8 * i + (i + 1 + d)))) else tsO A i acc d) from rfl]
    split
    · intro x hx
      cases hq : (tsO A i acc d).2 with
      | none => rw [hq] at hx; simp at hx; omega
      | some y => rw [hq] at hx; have := ih y hq; simp at hx; omega
    · exact ih
theorem trO_x {A : AH} (hnt : aNt A < 10) : ∀ i, i < 10 → ∀ x, (trO A i).2 = some x → x < 1000
  | 0, _ => fun x hx => by cases hx
  | i + 1, hi => tsO_x (by omega) (trO_x hnt i (by omega)) _ (by omega)
section TrX
variable {A : AH} {g : Nat → Nat → Nat} {σ : hsS}
theorem twO_lt (ha : AW A) : twO A < 2 ^ 31 := by
  have hm := aw_m ha
  have h1 := peO_lt (aP A) (aM A) (aU A) (aNt A)
  have hm9 : 2 ^ aM A ≤ 2 ^ 9 := Nat.pow_le_pow_right (by decide) hm.2
  unfold twO; omega
theorem teO_lt (ha : AW A) (i j : Nat) : teO A i j < 2 ^ 31 := by
  have hm := aw_m ha
  have h1 := peO_lt (aP A) (aM A) (swO (aU A) i j) (aNt A)
  have hm9 : 2 ^ aM A ≤ 2 ^ 9 := Nat.pow_le_pow_right (by decide) hm.2
  unfold teO; omega
theorem gp_lt (ha : AW A) {p : Nat} (hp : p < aN A) (bits : Nat) : gpO (aP A p) bits (aM A) < 2 ^ 31 := by
  have hm := aw_m ha
  have := gpO_le (f := aP A p) (m := aM A) bits (aM A) (fun t ht => aw_p ha hp ht)
  omega
theorem qx_tradePays (ha : AW A) (hx : HX 1 A σ) (hs : HX 6 A σ) {i j : Nat} (hij : i < j) (hj : j < aNt A) {post : Int32 → hsS → Prop} (k : ∀ σ', FRm [] [10] σ σ' → HX 6 A σ' → post (nI (if tpO A i j = true then 1 else 0)) σ') : wX7_tradePays (nI i) (nI j) (nI (twO A)) post σ := by
  have hm := aw_m ha; have hnt := aw_nt ha
  have hi : i < aNt A := by omega
  have hui := aw_u ha hi; have huj := aw_u ha hj; have hn := aw_n ha
  have h5 : ∀ k, k < aNt A → σ.2.1 5 k = nI (aU A k) := fun k hk => hx_u hx hk
  have h10 : ∀ k, k < aNt A → σ.2.1 10 k = nI (aU A k) := fun k hk => hx_u hs hk
  refine ⟨pk_in i 8 (by omega), nm_r (e' := nI (aU A i)) (by rw [nI_clamp (by omega)]; exact h5 i hi) ⟨pk_in j 8 (by omega), nm_r (e' := nI (aU A j)) (by rw [nI_clamp (by omega)]; exact h5 j hj) (pk_eq (aU A i) (aU A j) (fun c => ?_) (fun c => ?_))⟩⟩
  · have e := k σ FRm.rf hs
    rw [if_neg (by unfold tpO; simp [c])] at e; exact e
  · refine ⟨pk_in i 8 (by omega), fun s4 e4 => ⟨pk_in j 8 (by omega), fun s5 e5 => ?_⟩⟩
    rw [nI_clamp (by omega)] at e4 e5
    have f5 : FRm [] [10] σ s5 := by rw [e5, e4]; exact (FRm.arr _ (by decide)).trans (FRm.arr _ (by decide))
    have a5 : s5.2.1 10 = upd (upd (σ.2.1 10) i (nI (aU A j))) j (nI (aU A i)) := by rw [e5, hsA_at, e4, hsA_at]
    have x5 : HX 6 (swA A i j) s5 := by
      refine ⟨fun q hq => by rw [f5.1 _ (by simp)]; exact hs.1 q hq, fun p hp => by rw [f5.2.1 _ (by decide)]; exact hx_w hs hp, fun p t hp ht => by rw [f5.2.1 _ (by decide), swA_P]; exact hx_p hs hp ht, fun q hq => by rw [f5.2.1 _ (by decide)]; exact hx_t hs hq, fun q hq => ?_⟩
      show s5.2.1 10 q = nI (swO (aU A) i j q)
      rw [a5]; unfold swO
      rcases Nat.decEq q j with z | z
      · rw [pk_un z, if_neg z]
        rcases Nat.decEq q i with z2 | z2
        · rw [pk_un z2, if_neg z2]; exact h10 q hq
        · subst z2; rw [pk_us, if_pos rfl]
      · subst z; rw [pk_us, if_pos rfl]
    refine qx_plainEnd (swA_aw ha hi hj) x5 ?_
    have eP : peO (aP (swA A i j)) (aM (swA A i j)) (aU (swA A i j)) (aNt (swA A i j)) = teO A i j := by rw [swA_P]; rfl
    rw [eP]
    refine ⟨pk_in i 8 (by omega), fun s8 e8 => ⟨pk_in j 8 (by omega), fun s9 e9 => ?_⟩⟩
    rw [nI_clamp (by omega)] at e8 e9
    have f9 : FRm [] [10] σ s9 := by rw [e9, e8]; exact (f5.trans (FRm.arr _ (by decide))).trans (FRm.arr _ (by decide))
    have a9 : ∀ q, q < aNt A → s9.2.1 10 q = nI (aU A q) := fun q hq => by
      have : s9.2.1 10 = upd (upd (s5.2.1 10) i (nI (aU A i))) j (nI (aU A j)) := by rw [e9, hsA_at, e8, hsA_at]
      rw [this, a5]
      rcases Nat.decEq q j with z | z
      · rw [pk_un z]
        rcases Nat.decEq q i with z2 | z2
        · rw [pk_un z2, pk_un z, pk_un z2]; exact h10 q hq
        · subst z2; exact pk_us
      · subst z; exact pk_us
    have x9 : HX 6 A s9 := ⟨fun q hq => by rw [f9.1 _ (by simp)]; exact hs.1 q hq, fun p hp => by rw [f9.2.1 _ (by decide)]; exact hx_w hs hp, fun p t hp ht => by rw [f9.2.1 _ (by decide)]; exact hx_p hs hp ht, fun q hq => by rw [f9.2.1 _ (by decide)]; exact hx_t hs hq, a9⟩
    have hx9 : HX 1 A s9 := hx.fr f9 (by simp) (by decide)
    have l1 := twO_lt ha; have l2 := teO_lt ha i j
    have q1 := gp_lt ha hui (teO A i j); have q2 := gp_lt ha hui (twO A); have q3 := gp_lt ha huj (teO A i j); have q4 := gp_lt ha huj (twO A)
    have fin := k s9 f9 x9
    refine qx_greatestPlace ha hx9 hui l2 (qx_greatestPlace ha hx9 hui l1 (pk_le _ _ (fun c1 => ?_) (fun c1 => qx_greatestPlace ha hx9 huj l2 (qx_greatestPlace ha hx9 huj l1 (pk_le _ _ (fun c2 => ?_) (fun c2 => ?_) rfl rfl q4 q3))) rfl rfl q2 q1))
    · rw [if_neg (by unfold tpO; simp; intro _ c3; omega)] at fin; exact fin
    · rw [if_neg (by unfold tpO; simp; intro _ _; omega)] at fin; exact fin
    · rw [if_pos (by unfold tpO; simp; exact ⟨c, c1, c2⟩)] at fin; exact fin
theorem qx_trades (ha : AW A) (hx : HX 1 A σ) (hs : HX 6 A σ) {z1 : Int32} {post : Int32 → hsS → Prop} {px : hsS → Prop} (K : Int32 → Int32 → Int32 → hsS → Prop) (k : ∀ σ', FRm [] [10] σ σ' → ∀ z, K (eO (trO A (aNt A)).2) (nI (trO A (aNt A)).1) z σ') : ∃ n, wX7_trades_L46 z1 (nI (twO A)) K post px n (-1) 0 0 σ := by
  have hm := aw_m ha; have hnt := aw_nt ha
  refine pk_loop (fun n j (y : Int32 × Int32 × hsS) => wX7_trades_L46 z1 (nI (twO A)) K post px n y.1 y.2.1 (nI j) y.2.2) (fun j y => y.1 = eO (trO A j).2 ∧ y.2.1 = nI (trO A j).1 ∧ FRm [] [10] σ y.2.2 ∧ HX 6 A y.2.2) (aNt A) 0 (-1, 0, σ) (Nat.zero_le _) ⟨rfl, rfl, FRm.rf, hs⟩ ?_ ?_
  · intro n y e
    obtain ⟨e1, e2, e3, e4⟩ := e
    rw [wX7_trades_L46]
    refine br_t (by rw [e3.1 70 (by decide), show σ.1 70 = nI (aNt A) from hx_nt hx]; exact nI_le (Nat.le_refl _) (by omega)) ?_
    rw [e1, e2]; exact k _ e3 _
  · intro n i y hi e ih
    obtain ⟨e1, e2, e3, e4⟩ := e
    rw [wX7_trades_L46]
    refine br_f (by rw [e3.1 70 (by decide), show σ.1 70 = nI (aNt A) from hx_nt hx]; exact nI_ge hi (by omega)) (nm_r (nI_1 i) ?_)
    have hok := trO_ok (A := A) i
    have L : ∀ K2 : Int32 → Int32 → Int32 → hsS → Prop, (∀ s, FRm [] [10] σ s → HX 6 A s → ∀ z, K2 (eO (trO A (i + 1)).2) (nI (trO A (i + 1)).1) z s) → ∃ n, wX7_trades_L64 z1 (nI (twO A)) (nI i) K2 post px n y.1 y.2.1 (nI (i + 1)) y.2.2 := fun K2 kk =>
      pk_loop (fun n j (w : Int32 × Int32 × hsS) => wX7_trades_L64 z1 (nI (twO A)) (nI i) K2 post px n w.1 w.2.1 (nI j) w.2.2) (fun j w => i + 1 ≤ j ∧ w.1 = eO (tsO A i (trO A i) (j - (i + 1))).2 ∧ w.2.1 = nI (tsO A i (trO A i) (j - (i + 1))).1 ∧ FRm [] [10] σ w.2.2 ∧ HX 6 A w.2.2) (aNt A) (i + 1) y (by omega) ⟨Nat.le_refl _, by rw [Nat.sub_self]; exact e1, by rw [Nat.sub_self]; exact e2, e3, e4⟩
        (fun n w d => by
          obtain ⟨_, d1, d2, d3, d4⟩ := d
          rw [wX7_trades_L64]
          refine br_t (by rw [d3.1 70 (by decide), show σ.1 70 = nI (aNt A) from hx_nt hx]; exact nI_le (Nat.le_refl _) (by omega)) ?_
          rw [d1, d2]; exact kk _ d3 d4 _)
        (fun n j w hj d ih2 => by
          obtain ⟨d0, d1, d2, d3, d4⟩ := d
          have hok2 := tsO_ok (A := A) (i := i) hok.1 (j - (i + 1))
          have hij : i * aNt A ≤ 8 * 8 := Nat.mul_le_mul (by omega) (by omega)
          have es : tsO A i (trO A i) (j + 1 - (i + 1)) = if tpO A i j = true then ((tsO A i (trO A i) (j - (i + 1))).1 + 1, some ((tsO A i (trO A i) (j - (i + 1))).2.getD (8 * i + j))) else tsO A i (trO A i) (j - (i + 1)) := by
            rw [show j + 1 - (i + 1) = (j - (i + 1)) + 1 by omega]
            show (if tpO A i (i + 1 + (j - (i + 1))) = true then ((tsO A i (trO A i) (j - (i + 1))).1 + 1, some ((tsO A i (trO A i) (j - (i + 1))).2.getD (8 * i + (i + 1 + (j - (i + 1)))))) else tsO A i (trO A i) (j - (i + 1))) = _
            rw [show i + 1 + (j - (i + 1)) = j by omega]
          rw [wX7_trades_L64]
          refine br_f (by rw [d3.1 70 (by decide), show σ.1 70 = nI (aNt A) from hx_nt hx]; exact nI_ge hj (by omega)) (qx_tradePays ha (hx.fr d3 (by simp) (by decide)) d4 (by omega) hj (fun s f1 f2 => ?_))
          by_cases hp : tpO A i j = true
          · rw [if_pos hp] at es ⊢
            refine br_f (by decide) ?_
            rw [d2]
            refine pk_eq (tsO A i (trO A i) (j - (i + 1))).1 0 (fun c => ?_) (fun c => ?_)
            · refine nm_e (nm_e (nm_e ?_))
              rw [nI_1, nI_1]
              refine ih2 (_, _, s) ⟨by omega, ?_, ?_, d3.trans f1, f2⟩
              · rw [es, hok2.1.mp c]
                show (8 : Int32) * nI i + nI j = nI (8 * i + j)
                rw [show (8 : Int32) = nI 8 from rfl, pk_mul, nI_add]
              · rw [es]; rfl
            · refine nm_e (nm_e ?_)
              rw [nI_1, nI_1]
              refine ih2 (_, _, s) ⟨by omega, ?_, ?_, d3.trans f1, f2⟩
              · rw [es]
                show w.1 = _
                rw [d1]
                cases hq : (tsO A i (trO A i) (j - (i + 1))).2 with
                | none => exact absurd (hok2.1.mpr hq) c
                | some x => rfl
              · rw [es]; rfl
          · rw [if_neg hp] at es ⊢
            refine br_t rfl (nm_e ?_)
            rw [nI_1]
            exact ih2 (w.1, w.2.1, s) ⟨by omega, by rw [es]; exact d1, by rw [es]; exact d2, d3.trans f1, f2⟩)
    refine L _ (fun s f1 f2 z => nm_e ?_)
    rw [nI_1]
    exact ih (_, _, s) ⟨rfl, rfl, f1, f2⟩
end TrX
section TrM
variable {A : AH} {g : Nat → Nat → Nat} {σ : hsS}
theorem qm_trades (ha : AW A) (h : MH A g σ) (hl : LK (aP A) (aM A) (aN A) σ) (hr : ∀ j, j < aNt A → σ.2.1 16 j = nI (aU A j)) {z1 : Int32} {post : Int32 → hsS → Prop} (K : Int32 → Int32 → Int32 → hsS → Prop) (k : ∀ σ', FRm [] [16] σ σ' → ∀ z, K (nI (trO A (aNt A)).1) (eO (trO A (aNt A)).2) z σ') : ∃ n, wX8_trades_L43 z1 (nI (twO A)) K post n 0 (-1) 0 σ := by
  have hm := aw_m ha; have hnt := aw_nt ha
  refine pk_loop (fun n j (y : Int32 × Int32 × hsS) => wX8_trades_L43 z1 (nI (twO A)) K post n y.1 y.2.1 (nI j) y.2.2) (fun j y => y.1 = nI (trO A j).1 ∧ y.2.1 = eO (trO A j).2 ∧ FRm [] [16] σ y.2.2 ∧ ∀ q, q < aNt A → y.2.2.2.1 16 q = nI (aU A q)) (aNt A) 0 (0, -1, σ) (Nat.zero_le _) ⟨rfl, rfl, FRm.rf, hr⟩ ?_ ?_
  · intro n y e
    obtain ⟨e1, e2, e3, e4⟩ := e
    rw [wX8_trades_L43]
    refine br_t (by rw [mh_nt (h.fr e3 (by decide))]; exact nI_le (Nat.le_refl _) (by omega)) ?_
    rw [e1, e2]; exact k _ e3 _
  · intro n i y hi e ih
    obtain ⟨e1, e2, e3, e4⟩ := e
    rw [wX8_trades_L43]
    refine br_f (by rw [mh_nt (h.fr e3 (by decide))]; exact nI_ge hi (by omega)) (nm_r (nI_1 i) ?_)
    have hok := trO_ok (A := A) i
    have L : ∀ K2 : Int32 → Int32 → Int32 → hsS → Prop, (∀ s, FRm [] [16] σ s → (∀ q, q < aNt A → s.2.1 16 q = nI (aU A q)) → ∀ z, K2 (nI (trO A (i + 1)).1) (eO (trO A (i + 1)).2) z s) → ∃ n, wX8_trades_L60 z1 (nI (twO A)) (nI i) K2 post n y.1 y.2.1 (nI (i + 1)) y.2.2 := fun K2 kk =>
      pk_loop (fun n j (w : Int32 × Int32 × hsS) => wX8_trades_L60 z1 (nI (twO A)) (nI i) K2 post n w.1 w.2.1 (nI j) w.2.2) (fun j w => i + 1 ≤ j ∧ w.1 = nI (tsO A i (trO A i) (j - (i + 1))).1 ∧ w.2.1 = eO (tsO A i (trO A i) (j - (i + 1))).2 ∧ FRm [] [16] σ w.2.2 ∧ ∀ q, q < aNt A → w.2.2.2.1 16 q = nI (aU A q)) (aNt A) (i + 1) y (by omega) ⟨Nat.le_refl _, by rw [Nat.sub_self]; exact e1, by rw [Nat.sub_self]; exact e2, e3, e4⟩
        (fun n w d => by
          obtain ⟨_, d1, d2, d3, d4⟩ := d
          rw [wX8_trades_L60]
          refine br_t (by rw [mh_nt (h.fr d3 (by decide))]; exact nI_le (Nat.le_refl _) (by omega)) ?_
          rw [d1, d2]; exact kk _ d3 d4 _)
        (fun n j w hj d ih2 => by
          obtain ⟨w1, w2, s⟩ := w
          obtain ⟨d0, d1, d2, d3, d4⟩ := d
          dsimp only at d1 d2 d3 d4 ⊢
          have hM := h.fr d3 (by decide)
          have hls := hl.fr d3 (by decide) (by decide)
          have hok2 := tsO_ok (A := A) (i := i) hok.1 (j - (i + 1))
          have hij : i * aNt A ≤ 8 * 8 := Nat.mul_le_mul (by omega) (by omega)
          have hui := aw_u ha hi; have huj := aw_u ha hj; have hn := aw_n ha
          have es : tsO A i (trO A i) (j + 1 - (i + 1)) = if tpO A i j = true then ((tsO A i (trO A i) (j - (i + 1))).1 + 1, some ((tsO A i (trO A i) (j - (i + 1))).2.getD (8 * i + j))) else tsO A i (trO A i) (j - (i + 1)) := by
            rw [show j + 1 - (i + 1) = (j - (i + 1)) + 1 by omega]
            show (if tpO A i (i + 1 + (j - (i + 1))) = true then ((tsO A i (trO A i) (j - (i + 1))).1 + 1, some ((tsO A i (trO A i) (j - (i + 1))).2.getD (8 * i + (i + 1 + (j - (i + 1)))))) else tsO A i (trO A i) (j - (i + 1))) = _
            rw [show i + 1 + (j - (i + 1)) = j by omega]
          rw [wX8_trades_L60]
          have skip : ∀ S : hsS, FRm [] [16] s S → (∀ q, q < aNt A → S.2.1 16 q = nI (aU A q)) → ¬ tpO A i j = true → ∀ v : Int32, v = nI j + (1 : Int32) → wX8_trades_L60 z1 (nI (twO A)) (nI i) K2 post n w1 w2 v S := fun S g1 g2 hp => by
            refine nm_e ?_
            rw [nI_1]
            rw [if_neg hp] at es
            exact ih2 (w1, w2, S) ⟨by omega, by rw [es]; exact d1, by rw [es]; exact d2, d3.trans g1, g2⟩
          refine br_f (by rw [mh_nt hM]; exact nI_ge hj (by omega)) ⟨pk_in i 18 (by omega), pk_in j 18 (by omega), ?_⟩
          rw [nI_clamp (n := i) (by omega), nI_clamp (n := j) (by omega), mh_u hM hi, mh_u hM hj]
          refine pk_eq (aU A i) (aU A j) (fun c => skip s FRm.rf d4 (by unfold tpO; simp [c])) (fun c => ⟨pk_in j 18 (by omega), pk_in i 9 (by omega), fun s5 e5 => ⟨pk_in i 18 (by omega), pk_in j 9 (by omega), fun s6 e6 => ?_⟩⟩)
          have u10 : s5.2.1 10 i = nI (aU A i) := by rw [e5, hsA_ne _ _ (by decide)]; exact mh_u hM hi
          rw [u10] at e6
          have f6 : FRm [] [16] s s6 := by rw [e6, e5]; exact (FRm.arr _ (by decide)).trans (FRm.arr _ (by decide))
          have a6 : s6.2.1 16 = upd (upd (s.2.1 16) i (nI (aU A j))) j (nI (aU A i)) := by rw [e6, hsA_at, e5, hsA_at]
          have hM6 := hM.fr f6 (by decide)
          rw [mh_nt hM6]
          refine qm_plainEnd (hls.fr f6 (by decide) (by decide)) (u := swO (aU A) i j) hnt (fun q hq => ⟨?_, ?_⟩) ?_
          · unfold swO
            split
            · exact hui
            · split
              · exact huj
              · exact aw_u ha hq
          · rw [a6]; unfold swO
            rcases Nat.decEq q j with z | z
            · rw [pk_un z, if_neg z]
              rcases Nat.decEq q i with z2 | z2
              · rw [pk_un z2, if_neg z2]; exact d4 q hq
              · subst z2; rw [pk_us, if_pos rfl]
            · subst z; rw [pk_us, if_pos rfl]
          rw [show peO (aP A) (aM A) (swO (aU A) i j) (aNt A) = teO A i j from rfl]
          refine ⟨pk_in i 18 (by omega), pk_in i 9 (by omega), fun s8 e8 => ⟨pk_in j 18 (by omega), pk_in j 9 (by omega), fun s9 e9 => ?_⟩⟩
          rw [mh_u hM6 hi] at e8
          have u8 : s8.2.1 10 j = nI (aU A j) := by rw [e8, hsA_ne _ _ (by decide)]; exact mh_u hM6 hj
          rw [u8] at e9
          have f9 : FRm [] [16] s s9 := by rw [e9, e8]; exact (f6.trans (FRm.arr _ (by decide))).trans (FRm.arr _ (by decide))
          have a9 : ∀ q, q < aNt A → s9.2.1 16 q = nI (aU A q) := fun q hq => by
            have : s9.2.1 16 = upd (upd (s6.2.1 16) i (nI (aU A i))) j (nI (aU A j)) := by rw [e9, hsA_at, e8, hsA_at]
            rw [this, a6]
            rcases Nat.decEq q j with z | z
            · rw [pk_un z]
              rcases Nat.decEq q i with z2 | z2
              · rw [pk_un z2, pk_un z, pk_un z2]; exact d4 q hq
              · subst z2; exact pk_us
            · subst z; exact pk_us
          have hM9 := hM.fr f9 (by decide)
          have hl9 := hls.fr f9 (by decide) (by decide)
          have l1 := twO_lt ha; have l2 := teO_lt ha i j
          have q1 := gp_lt ha hui (teO A i j); have q2 := gp_lt ha hui (twO A); have q3 := gp_lt ha huj (teO A i j); have q4 := gp_lt ha huj (twO A)
          have yes : tpO A i j = true → ∀ v32 : Int32, v32 = w1 + (1 : Int32) → ((w2 = (-1 : Int32) → ∀ v34 : Int32, v34 = ((8 : Int32) * nI i) + nI j → ∀ v35 : Int32, v35 = nI j + (1 : Int32) → wX8_trades_L60 z1 (nI (twO A)) (nI i) K2 post n v32 v34 v35 s9) ∧ (¬ w2 = (-1 : Int32) → ∀ v36 : Int32, v36 = nI j + (1 : Int32) → wX8_trades_L60 z1 (nI (twO A)) (nI i) K2 post n v32 w2 v36 s9)) := fun hp => by
            rw [if_pos hp] at es
            rw [d1, d2]
            refine nm_e ?_
            rw [nI_1]
            cases hq : (tsO A i (trO A i) (j - (i + 1))).2 with
            | none =>
              refine br_t rfl (nm_e (nm_e ?_))
              rw [nI_1]
              refine ih2 (_, _, s9) ⟨by omega, by rw [es]; rfl, ?_, d3.trans f9, a9⟩
              rw [es, hq]
              show (8 : Int32) * nI i + nI j = nI (8 * i + j)
              rw [show (8 : Int32) = nI 8 from rfl, pk_mul, nI_add]
            | some x =>
              refine br_c (fun c9 => ?_) (fun c9 => nm_e ?_)
              · have h0 := tsO_x (A := A) (i := i) (by omega) (trO_x (by omega) i (by omega)) (j - (i + 1)) (by omega) x hq
                exact absurd c9 (pk_nm1 (w := x) (by omega))
              · rw [nI_1]
                refine ih2 (_, _, s9) ⟨by omega, by rw [es]; rfl, ?_, d3.trans f9, a9⟩
                rw [es, hq]; rfl
          refine ⟨pk_in i 18 (by omega), ?_⟩
          rw [mh_u hM9 hi]
          refine qm_worst hl9 hui l2 ⟨pk_in i 18 (by omega), ?_⟩
          rw [mh_u hM9 hi]
          refine qm_worst hl9 hui l1 (pk_le _ _ (fun c1 => skip s9 f9 a9 ?_) (fun c1 => ⟨pk_in j 18 (by omega), ?_⟩) rfl rfl q2 q1)
          · unfold tpO; simp; intro _ c3; omega
          rw [mh_u hM9 hj]
          refine qm_worst hl9 huj l2 ⟨pk_in j 18 (by omega), ?_⟩
          rw [mh_u hM9 hj]
          refine qm_worst hl9 huj l1 (pk_lt _ _ (fun c2 => yes ?_) (fun c2 => skip s9 f9 a9 ?_) rfl rfl q3 q4)
          · unfold tpO; simp; exact ⟨c, c1, c2⟩
          · unfold tpO; simp; intro _ _; omega)
    refine L _ (fun s f1 f2 z => nm_e ?_)
    rw [nI_1]
    exact ih (_, _, s) ⟨rfl, rfl, f1, f2⟩
end TrM
section OpL
variable {A : AH} {g : Nat → Nat → Nat} {v i : Nat} {σx σm : hsS}
theorem qx_tradesAll {σ : hsS} (ha : AW A) (htc : aTc A ≤ 8) (hx : HX 1 A σ) {w : Nat} (hw : w < 2) {post : Int32 → hsS → Prop} {px : hsS → Prop} (k : ∀ σ', FRm [384, 385, 386, 387, 388, 389, 390, 391] [7, 8, 9, 10] σ σ' → post (if w = 0 then nI (trO A (aNt A)).1 else eO (trO A (aNt A)).2) σ') : wX7_trades (nI w) post px σ := by
  unfold wX7_trades
  refine pk_eq w 0 (fun c => ?_) (fun c => br_t (by rw [show w = 1 by omega]; rfl) ?_)
  · rw [if_pos c] at k
    refine qx_plainEnd ha hx (qx_takeSpare ha htc hx (fun s1 f1 x1 => qx_trades ha (hx.fr f1 (by decide) (by decide)) x1 _ (fun s2 f2 z => br_t (by rw [c]; rfl) ?_)))
    exact k s2 (f1.trans (f2.weak (by decide) (by decide)))
  · rw [if_neg c] at k
    refine qx_plainEnd ha hx (qx_takeSpare ha htc hx (fun s1 f1 x1 => qx_trades ha (hx.fr f1 (by decide) (by decide)) x1 _ (fun s2 f2 z => br_f (nI_ne0 (by omega) (by omega)) ?_)))
    exact k s2 (f1.trans (f2.weak (by decide) (by decide)))
theorem op_18 (f : Nat → Int64) (a1 : Int32) (h : RR i σx σm) : lo_18 f a1 (RR (i + 6)) σx σm := by
  obtain ⟨A, g, v, h⟩ := h
  unfold lo_18
  have ha := rb_aw h; have hn := aw_n ha; have hm := aw_m ha; have hx := rb_hx h
  rcases ix_of a1 (n := 2) (by decide) with z | ⟨w, hw, rfl⟩
  · unfold wX7_trades
    refine br_f (ix_ne (j := 0) z (by decide) (by decide)) (br_f (ix_ne (j := 1) z (by decide) (by decide)) (fun S hS => ?_))
    obtain ⟨h1, h2⟩ := m0 hS
    exact ix_le (k := 1) (by decide) z (qm_fail h1 (fun S' g1 g2 => thr_ok g2 ⟨rfl, fun e => absurd e (by decide), h.m g1⟩))
  · refine qx_tradesAll ha (rb_tc h) hx hw (fun s1 f1 => ?_)
    have hX : RB A g v i s1 σm := h.frx (f1.weak (by decide) (by decide))
    intro S hS
    obtain ⟨h1, h2⟩ := m0 hS
    have hM := (rb_mh h).fr h1 (by decide)
    refine br_f (nI_pos (by omega)) (br_t (nI_le (b := 1) (by omega) (by decide)) (qm_takeTurns ha (rb_gw h) hM (fun S2 g1 g2 g3 => ?_)))
    have hM2 := hM.fr g1 (by decide)
    rw [mh_nt hM2]
    refine qm_plainEnd g2 (u := aU A) (aw_nt ha) (fun j hj => ⟨aw_u ha hj, g3 j hj⟩) (qm_trades ha hM2 g2 g3 _ (fun S3 u1 z => ?_))
    have hF : FRm [0, 25] [13, 16, 20, 21] σm S3 := ((h1.weak (by decide) (by decide)).trans (g1.weak (by decide) (by decide))).trans (u1.weak (by decide) (by decide))
    have h0 : S3.1 0 = 0 := by rw [u1.1 0 (by decide), g1.1 0 (by decide)]; exact h2
    refine pk_eq w 0 (fun c => ?_) (fun c => ?_)
    · rw [if_pos c]
      exact thr_ok h0 ⟨rfl, fun _ => rfl, hX.mt hF⟩
    · rw [if_neg c]
      exact thr_ok h0 ⟨rfl, fun _ => rfl, hX.mt hF⟩
end OpL
