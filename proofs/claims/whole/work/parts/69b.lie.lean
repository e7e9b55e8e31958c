/-! ===== calls: lie ===== -/
/-- where t lies in the row o of i things -/
def pcO (o : Nat → Nat) : Nat → Nat → Nat
  | 0, _ => 0
  | i + 1, t => if t = o i then i else pcO o i t
theorem pcO_le (o : Nat → Nat) (t : Nat) : ∀ i, pcO o i t ≤ i - 1
  | 0 => Nat.le_refl _
  | i + 1 => by
    show (if t = o i then i else pcO o i t) ≤ i
    have := pcO_le o t i
    split <;> omega
def rpP (P : Nat → Nat → Nat) (p : Nat) (f : Nat → Nat) (q t : Nat) : Nat := if q = p then f t else P q t
def rpA (A : AH) (p : Nat) (f : Nat → Nat) : AH := (A.1, fun r k => if r < 3 then A.2 r k else if r = p + 3 then f k else A.2 r k)
theorem rpA_P (A : AH) (p : Nat) (f : Nat → Nat) : aP (rpA A p f) = rpP (aP A) p f := by
  funext q t
  show (if q + 3 < 3 then A.2 (q + 3) t else if q + 3 = p + 3 then f t else A.2 (q + 3) t) = if q = p then f t else A.2 (q + 3) t
  rw [if_neg (by omega)]
  rcases Nat.decEq q p with z | z
  · rw [if_neg (by omega), if_neg z]
  · rw [if_pos (by omega), if_pos z]
theorem rpA_self (A : AH) (p : Nat) : rpA A p (aP A p) = A := by
  refine Prod.ext rfl (funext fun r => funext fun k => ?_)
  show (if r < 3 then A.2 r k else if r = p + 3 then A.2 (p + 3) k else A.2 r k) = A.2 r k
  split
  · rfl
  · split
    · rename_i e; rw [e]
    · rfl
theorem rpA_aw {A : AH} (ha : AW A) (p : Nat) {f : Nat → Nat} (hf : ∀ t, t < aM A → f t < aM A) : AW (rpA A p f) := by
  obtain ⟨h1, h2, h3, h4, h5, h6, ⟨h7, h7b⟩, h8, h9, h10⟩ := ha
  refine ⟨h1, h2, h3, h4, h5, h6, ⟨h7, h7b⟩, h8, h9, fun q t hq ht => ?_⟩
  rw [rpA_P]; unfold rpP
  split
  · exact hf t ht
  · exact h10 q t hq ht
def leO (A : AH) (p c : Nat) : Nat := peO (rpP (aP A) p (pcO (rkX (aM A) c) (aM A))) (aM A) (aU A) (aNt A)
def lhO (A : AH) (p : Nat) : Nat := gpO (aP A p) (twO A) (aM A)
def lyO (A : AH) (p c : Nat) : Bool := decide (gpO (aP A p) (leO A p c) (aM A) < lhO A p)
def lfO (A : AH) (p : Nat) : Nat := fa_first (lyO A p) (faO (aM A))
def pvI (m c : Nat) : Nat → Int32
  | 0 => 0
  | i + 1 => pvI m c i ||| (nI (rkX m c i) <<< (((4 : Int32) * nI i) &&& 31))
def lrO (A : AH) (p : Nat) : Int32 := if lfO A p < faO (aM A) then pvI (aM A) (lfO A p) (aM A) else -1
theorem first_eq {q : Nat → Bool} {n c : Nat} (hc : c < n) (h : q c = true) (hn : ∀ j, j < c → q j = false) : fa_first q n = c := by
  rcases Nat.lt_trichotomy (fa_first q n) c with z | z | z
  · have h1 := fa_first_yes q n (by omega)
    rw [hn _ z] at h1; exact absurd h1 (by decide)
  · exact z
  · have h1 := fa_first_no q n c z
    rw [h] at h1; exact absurd h1 (by decide)
theorem first_no {q : Nat → Bool} {n : Nat} (hn : ∀ j, j < n → q j = false) : ¬ fa_first q n < n := fun z => by
  have h1 := fa_first_yes q n z
  rw [hn _ z] at h1; exact absurd h1 (by decide)
theorem lr_yes {A : AH} {p c : Nat} (hc : c < faO (aM A)) (h : lyO A p c = true) (hn : ∀ j, j < c → lyO A p j = false) : lrO A p = pvI (aM A) c (aM A) := by
  have e : lfO A p = c := first_eq hc h hn
  unfold lrO; rw [e, if_pos hc]
theorem lr_no {A : AH} {p : Nat} (hn : ∀ j, j < faO (aM A) → lyO A p j = false) : lrO A p = -1 := by
  unfold lrO; exact if_neg (first_no hn)
theorem leO_lt {A : AH} (ha : AW A) (p c : Nat) : leO A p c < 2 ^ 31 := by
  have hm := aw_m ha
  have h1 := peO_lt (rpP (aP A) p (pcO (rkX (aM A) c) (aM A))) (aM A) (aU A) (aNt A)
  have hm9 : 2 ^ aM A ≤ 2 ^ 9 := Nat.pow_le_pow_right (by decide) hm.2
  unfold leO; omega
theorem fa_x2 : ∀ j, j < 10 → xfact j = nI (faO j) := by decide +kernel
section LieX
variable {A : AH} {σ : hsS} {p : Nat}
theorem qx_putStrict {f o : Nat → Nat} (ha : AW A) (hp : p < aN A) (h : HX 6 (rpA A p f) σ) (ho : ∀ j, j < aM A → σ.2.1 35 j = nI (o j) ∧ o j < aM A) (hon : ∀ t, t < aM A → ∃ j, j < aM A ∧ o j = t) {post : hsS → Prop} (k : ∀ σ', FRm [] [8] σ σ' → HX 6 (rpA A p (pcO o (aM A))) σ' → post σ') : wX1_putStrictOrder 6 (nI p) 35 post σ := by
  have hm := aw_m ha; have hn := aw_n ha
  have h0 : ∀ q t, q < aN A → t < aM A → σ.2.1 8 (9 * q + t) = nI (rpP (aP A) p f q t) := fun q t hq ht => by
    have := hx_p h hq ht
    rw [rpA_P] at this; exact this
  refine pk_loop (fun n i (s : hsS) => wX1_putStrictOrder_L2 6 35 (nI p) _ post n (nI i) s) (fun i s => FRm [] [8] σ s ∧ (∀ q t, q < aN A → q ≠ p → t < aM A → s.2.1 8 (9 * q + t) = nI (aP A q t)) ∧ ∀ t, t < aM A → (∃ j, j < i ∧ o j = t) → s.2.1 8 (9 * p + t) = nI (pcO o i t)) (aM A) 0 σ (Nat.zero_le _) ⟨FRm.rf, fun q t hq hqp ht => ?_, fun t _ ⟨j, hj, _⟩ => absurd hj (Nat.not_lt_zero _)⟩ ?_ ?_
  · rw [h0 q t hq ht]; unfold rpP; rw [if_neg hqp]
  · intro n s e
    obtain ⟨e1, e2, e3⟩ := e
    rw [wX1_putStrictOrder_L2]
    have e64 : s.1 (64 * 6 + 0) = nI (aM A) := by rw [e1.1 _ (by simp)]; exact hx_m (A := rpA A p f) h
    refine br_t (by rw [e64]; exact nI_le (Nat.le_refl _) (by omega)) (k s e1 ⟨fun q hq => by rw [e1.1 _ (by simp)]; exact h.1 q hq, fun q hq => by rw [e1.2.1 _ (by decide)]; exact hx_w h hq, fun q t hq ht => ?_, fun q hq => by rw [e1.2.1 _ (by decide)]; exact hx_t h hq, fun q hq => by rw [e1.2.1 _ (by decide)]; exact hx_u h hq⟩)
    rw [rpA_P]; unfold rpP
    have hq : q < aN A := hq
    have ht : t < aM A := ht
    rcases Nat.decEq q p with z | z
    · rw [if_neg z]; exact e2 q t hq z ht
    · rw [if_pos z, z]; exact e3 t ht (hon t ht)
  · intro n i s hi e ih
    obtain ⟨e1, e2, e3⟩ := e
    rw [wX1_putStrictOrder_L2]
    have e64 : s.1 (64 * 6 + 0) = nI (aM A) := by rw [e1.1 _ (by simp)]; exact hx_m (A := rpA A p f) h
    refine br_f (by rw [e64]; exact nI_ge hi (by omega)) (br_f (nI_ge (b := 9) (by omega) (by decide)) ⟨pk_in i 9 (by omega), ?_⟩)
    have hoi := (ho i hi).2
    rw [nI_clamp (by omega), e1.2.1 35 (by decide), (ho i hi).1]
    refine qx_putRaw (by omega) (fun S hS => nm_e ?_)
    rw [nI_1]
    have hat : S.2.1 8 = upd (s.2.1 8) (9 * p + o i) (nI i) := by rw [hS]; exact hsA_at _ _ _
    refine ih S ⟨by rw [hS]; exact e1.trans (FRm.arr _ (by decide)), fun q t hq hqp ht => ?_, fun t ht hj => ?_⟩
    · rw [hat, pk_un (by omega)]; exact e2 q t hq hqp ht
    · rw [hat]
      show _ = nI (if t = o i then i else pcO o i t)
      rcases Nat.decEq t (o i) with z | z
      · rw [pk_un (by omega), if_neg z]
        obtain ⟨j, hj1, hj2⟩ := hj
        rcases Nat.decEq j i with z2 | z2
        · exact e3 t ht ⟨j, by omega, hj2⟩
        · subst z2; exact absurd hj2.symm z
      · rw [if_pos z, z, pk_us]
theorem qx_packed {b m c : Nat} (hm : m ≤ 5) (ho : ∀ j, j < m → σ.2.1 b j = nI (rkX m c j)) {post : Int32 → hsS → Prop} (k : post (pvI m c m) σ) : wX7_packed b (nI m) post σ := by
  have L : ∀ K : Int32 → Int32 → hsS → Prop, (∀ z, K (pvI m c m) z σ) → ∃ n, wX7_packed_L4 b (nI m) K post n 0 0 σ := fun K kk =>
    pk_loop (fun n j (y : Int32) => wX7_packed_L4 b (nI m) K post n y (nI j) σ) (fun j y => y = pvI m c j) m 0 0 (Nat.zero_le _) rfl
      (fun n y e => by
        rw [wX7_packed_L4]
        exact br_t (nI_le (Nat.le_refl _) (by omega)) (by rw [e]; exact kk _))
      (fun n j y hj e ih => by
        rw [wX7_packed_L4]
        refine br_f (nI_ge hj (by omega)) (br_f (nI_ge (b := 9) (by omega) (by decide)) ⟨pk_in j 9 (by omega), nm_e (nm_e ?_)⟩)
        rw [nI_1, nI_clamp (by omega), ho j hj]
        exact ih _ (by rw [e]; rfl))
  exact L _ (fun _ => k)
theorem qx_lie (ha : AW A) (htc : aTc A ≤ 8) (hx : HX 1 A σ) (hp : p < aN A) {post : Int32 → hsS → Prop} {px : hsS → Prop} (k : aM A ≤ 5 → ∀ σ', FRm [384, 385, 386, 387, 388, 389, 390, 391] [7, 8, 9, 10, 35] σ σ' → post (lrO A p) σ') (k2 : 5 < aM A → post (-1) σ) : wX7_lie (nI p) post px σ := by
  have hm := aw_m ha; have hn := aw_n ha
  unfold wX7_lie
  refine qx_person (show σ.1 65 = nI (aN A) from hx_n hx) (by omega) hp ?_
  rw [show σ.1 64 = nI (aM A) from hx_m hx]
  refine pk_le (aM A) 5 (fun c5 => ?_) (fun c5 => k2 c5)
  have hgh := gp_lt ha hp (twO A)
  refine qx_plainEnd ha hx (qx_greatestPlace ha hx hp (twO_lt ha) (qx_takeSpare ha htc hx (fun s1 f1 x1 => ?_)))
  have e64 : s1.1 64 = nI (aM A) := by rw [f1.1 64 (by decide)]; exact hx_m hx
  rw [e64]
  have hfl := faO_lt (aM A) (by omega)
  refine ⟨pk_in (aM A) 10 (by omega), nm_r (e' := nI (faO (aM A))) (by rw [nI_clamp (by omega)]; exact fa_x2 _ (by omega)) ?_⟩
  refine pk_loop (fun n c (s : hsS) => wX7_lie_L60 (nI p) (nI (lhO A p)) (nI (faO (aM A))) _ _ post px n (nI c) s) (fun c s => FRm [384, 385, 386, 387, 388, 389, 390, 391] [7, 8, 9, 10, 35] σ s ∧ (∃ f, HX 6 (rpA A p f) s) ∧ ∀ j, j < c → lyO A p j = false) (faO (aM A)) 0 s1 (Nat.zero_le _) ⟨f1.weak (by decide) (by decide), ⟨aP A p, by rw [rpA_self]; exact x1⟩, fun j hj => absurd hj (Nat.not_lt_zero _)⟩ ?_ ?_
  · intro n s e
    rw [wX7_lie_L60]
    refine br_t (nI_le (Nat.le_refl _) (by omega)) ?_
    rw [← lr_no (A := A) (p := p) e.2.2]; exact k c5 s e.1
  · intro n c s hc e ih
    obtain ⟨e1, ⟨f, e2⟩, e3⟩ := e
    rw [wX7_lie_L60]
    have e64s : s.1 64 = nI (aM A) := by rw [e1.1 64 (by decide)]; exact hx_m hx
    refine br_f (nI_ge hc (by omega)) ?_
    rw [e64s]
    refine qx_nthOrder (by omega) hc (fun s2 f2 o2 => ?_)
    have x2 : HX 6 (rpA A p f) s2 := e2.fr f2 (by decide) (by decide)
    refine qx_putStrict ha hp x2 (fun j hj => ⟨o2 j hj, rk_lt _ (by omega) hm.1 c hc j hj⟩) (rk_on _ (by omega) hm.1 c hc) (fun s3 f3 x3 => ?_)
    have haw : AW (rpA A p (pcO (rkX (aM A) c) (aM A))) := rpA_aw ha p (fun t _ => by have := pcO_le (rkX (aM A) c) t (aM A); omega)
    refine qx_plainEnd haw x3 ?_
    have eP : peO (aP (rpA A p (pcO (rkX (aM A) c) (aM A)))) (aM (rpA A p (pcO (rkX (aM A) c) (aM A)))) (aU (rpA A p (pcO (rkX (aM A) c) (aM A)))) (aNt (rpA A p (pcO (rkX (aM A) c) (aM A)))) = leO A p c := by rw [rpA_P]; rfl
    rw [eP]
    have F3 : FRm [384, 385, 386, 387, 388, 389, 390, 391] [7, 8, 9, 10, 35] σ s3 := (e1.trans (f2.weak (by decide) (by decide))).trans (f3.weak (by decide) (by decide))
    have hx3 : HX 1 A s3 := hx.fr F3 (by decide) (by decide)
    have hgl := gp_lt ha hp (leO A p c)
    refine qx_greatestPlace ha hx3 hp (leO_lt ha p c) (pk_le (lhO A p) (gpO (aP A p) (leO A p c) (aM A)) (fun c1 => nm_e ?_) (fun c1 => ?_) rfl rfl hgh hgl)
    · rw [nI_1]
      refine ih s3 ⟨F3, ⟨_, x3⟩, fun j hj => ?_⟩
      rcases Nat.decEq j c with z | z
      · exact e3 j (by omega)
      · subst z; unfold lyO; simp; omega
    · have e64t : s3.1 64 = nI (aM A) := by rw [F3.1 64 (by decide)]; exact hx_m hx
      rw [e64t]
      refine qx_packed c5 (c := c) (fun j hj => by rw [f3.2.1 35 (by decide)]; exact o2 j hj) ?_
      rw [← lr_yes hc (by unfold lyO; simp; exact c1) e3]; exact k c5 s3 F3
end LieX
section LieM
variable {A : AH} {g : Nat → Nat → Nat} {σ : hsS} {p : Nat}
theorem qm_lieWrite {f o : Nat → Nat} {m n : Nat} {P : Nat → Nat → Nat} {z3 z4 : Int32} {post : Int32 → hsS → Prop} (hm : m ≤ 5) (hp : p < n) (h : LK (rpP P p f) m n σ) (hP : ∀ q t, q < n → t < m → P q t ≤ 10) (ho : ∀ j, j < m → σ.2.1 20 j = nI (o j) ∧ o j < m) (hon : ∀ t, t < m → ∃ j, j < m ∧ o j = t) (K : Int32 → hsS → Prop) (k : ∀ σ', FRm [] [13] σ σ' → LK (rpP P p (pcO o m)) m n σ' → ∀ z, K z σ') : ∃ w, wX8_lie_L107 (nI p) (nI m) z3 z4 K post w 0 σ := by
  have hn := h.2.2.1
  refine pk_loop (fun w i (s : hsS) => wX8_lie_L107 (nI p) (nI m) z3 z4 K post w (nI i) s) (fun i s => FRm [] [13] σ s ∧ (∀ q t, q < n → q ≠ p → t < m → s.2.1 13 (10 * q + t) = nI (P q t)) ∧ ∀ t, t < m → (∃ j, j < i ∧ o j = t) → s.2.1 13 (10 * p + t) = nI (pcO o i t)) m 0 σ (Nat.zero_le _) ⟨FRm.rf, fun q t hq hqp ht => ?_, fun t _ ⟨j, hj, _⟩ => absurd hj (Nat.not_lt_zero _)⟩ ?_ ?_
  · rw [lk_p h hq ht]; unfold rpP; rw [if_neg hqp]
  · intro w s e
    obtain ⟨e1, e2, e3⟩ := e
    rw [wX8_lie_L107]
    refine br_t (nI_le (Nat.le_refl _) (by omega)) (k s e1 ⟨by rw [e1.1 25 (by decide)]; exact h.1, h.2.1, hn, fun q t hq ht => ?_⟩ _)
    unfold rpP
    rcases Nat.decEq q p with z | z
    · rw [if_neg z]; exact ⟨e2 q t hq z ht, hP q t hq ht⟩
    · rw [if_pos z, z]
      have := pcO_le o t m
      exact ⟨e3 t ht (hon t ht), by omega⟩
  · intro w i s hi e ih
    obtain ⟨e1, e2, e3⟩ := e
    rw [wX8_lie_L107]
    have hoi := (ho i hi).2
    refine br_f (nI_ge hi (by omega)) ⟨pk_in i 5 (by omega), ?_⟩
    rw [nI_clamp (n := i) (by omega), e1.2.1 20 (by decide), (ho i hi).1, qi_10]
    refine ⟨pk_in (10 * p + o i) 80 (by omega), fun S hS => nm_e ?_⟩
    rw [nI_1]
    rw [nI_clamp (by omega)] at hS
    have hat : S.2.1 13 = upd (s.2.1 13) (10 * p + o i) (nI i) := by rw [hS]; exact hsA_at _ _ _
    refine ih S ⟨by rw [hS]; exact e1.trans (FRm.arr _ (by decide)), fun q t hq hqp ht => ?_, fun t ht hj => ?_⟩
    · rw [hat, pk_un (by omega)]; exact e2 q t hq hqp ht
    · rw [hat]
      show _ = nI (if t = o i then i else pcO o i t)
      rcases Nat.decEq t (o i) with z | z
      · rw [pk_un (by omega), if_neg z]
        obtain ⟨j, hj1, hj2⟩ := hj
        rcases Nat.decEq j i with z2 | z2
        · exact e3 t ht ⟨j, by omega, hj2⟩
        · subst z2; exact absurd hj2.symm z
      · rw [if_pos z, z, pk_us]
theorem qm_lieMax {f : Nat → Nat} {m e : Nat} {z1 z3 z4 : Int32} {post : Int32 → hsS → Prop} (hm : m ≤ 5) (he : e < 2 ^ 31) (hs : ∀ t, t < m → σ.2.1 21 t = nI (f t) ∧ f t < 100) (K : Int32 → Int32 → hsS → Prop) (k : ∀ z, K (nI (gpO f e m)) z σ) : ∃ w, wX8_lie_L156 z1 (nI m) z3 z4 (nI e) K post w 0 0 σ :=
  pk_loop (fun w j (y : Int32) => wX8_lie_L156 z1 (nI m) z3 z4 (nI e) K post w y (nI j) σ) (fun j y => y = nI (gpO f e j)) m 0 0 (Nat.zero_le _) rfl
    (fun w y e1 => by
      rw [wX8_lie_L156]
      exact br_t (nI_le (Nat.le_refl _) (by omega)) (by rw [e1]; exact k _))
    (fun w j y hj e1 ih => by
      rw [wX8_lie_L156]
      have hg := gpO_le (f := f) (m := 100) e j (fun t ht => (hs t (by omega)).2)
      refine br_f (nI_ge hj (by omega)) (ek_if (qb_testN he (by omega)) (fun c => ⟨pk_in j 10 (by omega), ?_⟩) (fun c => nm_e ?_))
      · have hsj := (hs j hj).2
        rw [nI_clamp (by omega), (hs j hj).1, e1]
        refine nm_r (nI_max (by omega) (by omega)) (nm_e ?_)
        rw [nI_1]
        refine ih _ ?_
        show _ = nI (if e.testBit j = true then max (gpO f e j) (f j) else gpO f e j)
        rw [if_pos c]
      · rw [nI_1]
        refine ih _ ?_
        show _ = nI (if e.testBit j = true then max (gpO f e j) (f j) else gpO f e j)
        rw [if_neg c]; exact e1)
theorem qm_liePack {m c : Nat} {z1 z3 z4 : Int32} {post : Int32 → hsS → Prop} (hm : m ≤ 5) (ho : ∀ j, j < m → σ.2.1 20 j = nI (rkX m c j)) (K : Int32 → Int32 → hsS → Prop) (k : ∀ z, K (pvI m c m) z σ) : ∃ w, wX8_lie_L205 z1 (nI m) z3 z4 K post w 0 0 σ :=
  pk_loop (fun w j (y : Int32) => wX8_lie_L205 z1 (nI m) z3 z4 K post w y (nI j) σ) (fun j y => y = pvI m c j) m 0 0 (Nat.zero_le _) rfl
    (fun n y e => by
      rw [wX8_lie_L205]
      exact br_t (nI_le (Nat.le_refl _) (by omega)) (by rw [e]; exact k _))
    (fun n j y hj e ih => by
      rw [wX8_lie_L205]
      refine br_f (nI_ge hj (by omega)) ⟨pk_in j 5 (by omega), nm_e (nm_e ?_)⟩
      rw [nI_1, nI_clamp (by omega), ho j hj]
      exact ih _ (by rw [e]; rfl))
theorem rpP_self (P : Nat → Nat → Nat) (p : Nat) : rpP P p (P p) = P := by
  funext q t
  unfold rpP
  split
  · rename_i e; rw [e]
  · rfl
theorem qm_lie (ha : AW A) (h : MH A g σ) (hl : LK (aP A) (aM A) (aN A) σ) (hr : ∀ j, j < aNt A → σ.2.1 16 j = nI (aU A j)) (hp : p < aN A) (hm5 : aM A ≤ 5) {z : Int32} {post : Int32 → hsS → Prop} (K1 K2 : Int32 → hsS → Prop) (k1 : ∀ c s, FRm [] [13, 20, 21] σ s → (∀ j, j < aM A → s.2.1 20 j = nI (rkX (aM A) c j)) → lrO A p = pvI (aM A) c (aM A) → ∀ z, K1 z s) (k2 : ∀ s, FRm [] [13, 20, 21] σ s → lrO A p = -1 → ∀ z, K2 z s) : ∃ n19, wX8_lie_L56 (nI p) (nI (aM A)) z (fun v20 σ21 => ∃ n43, wX8_lie_L99 (nI p) (nI (aM A)) (nI (lhO A p)) K1 K2 post n43 (1 : Int32) σ21) post n19 (0 : Int32) σ := by
  have hm := aw_m ha; have hn := aw_n ha; have hnt := aw_nt ha
  refine pk_loop (fun n j (s : hsS) => wX8_lie_L56 (nI p) (nI (aM A)) z _ post n (nI j) s) (fun j s => FRm [] [20, 21] σ s ∧ ∀ t, t < j → s.2.1 21 t = nI (aP A p t) ∧ s.2.1 20 t = nI t) (aM A) 0 σ (Nat.zero_le _) ⟨FRm.rf, fun t ht => absurd ht (Nat.not_lt_zero _)⟩ ?_ ?_
  · intro n s e
    obtain ⟨e1, e2⟩ := e
    rw [wX8_lie_L56]
    refine br_t (nI_le (Nat.le_refl _) (by omega)) ?_
    have hgh := gp_lt ha hp (twO A)
    have hfp := faO_pos (aM A)
    have L : ∃ n43, wX8_lie_L99 (nI p) (nI (aM A)) (nI (lhO A p)) K1 K2 post n43 (if 0 < faO (aM A) then (1 : Int32) else 0) s :=
      pk_loop (fun n c (t : hsS) => wX8_lie_L99 (nI p) (nI (aM A)) (nI (lhO A p)) K1 K2 post n (if c < faO (aM A) then (1 : Int32) else 0) t) (fun c t => FRm [] [13, 20] s t ∧ (∀ j, j < c → lyO A p j = false) ∧ (c < faO (aM A) → ∀ j, j < aM A → t.2.1 20 j = nI (rkX (aM A) c j)) ∧ ∃ f, LK (rpP (aP A) p f) (aM A) (aN A) t) (faO (aM A)) 0 s (Nat.zero_le _) ⟨FRm.rf, fun j hj => absurd hj (Nat.not_lt_zero _), fun _ j hj => by rw [rk_0 _ (by omega) hm.1 j hj]; exact (e2 j hj).2, aP A p, by rw [rpP_self]; exact hl.fr e1 (by decide) (by decide)⟩
        (fun n t d => by
          rw [wX8_lie_L99, if_neg (Nat.lt_irrefl _)]
          exact br_t rfl (k2 t ((e1.weak (by decide) (by decide)).trans (d.1.weak (by decide) (by decide))) (lr_no d.2.1) _))
        (fun n c t hc d ih => by
          obtain ⟨d1, d2, d3, f, d4⟩ := d
          have d3 := d3 hc
          rw [wX8_lie_L99, if_pos hc]
          have hgl := gp_lt ha hp (leO A p c)
          refine br_f (by decide) (qm_lieWrite hm5 hp d4 (fun q t hq ht => by have := aw_p ha hq ht; omega) (fun j hj => ⟨d3 j hj, rk_lt _ (by omega) hm.1 c hc j hj⟩) (rk_on _ (by omega) hm.1 c hc) _ (fun t2 f2 l2 _ => ?_))
          have F2 : FRm [] [13, 20, 21] σ t2 := ((e1.weak (by decide) (by decide)).trans (d1.weak (by decide) (by decide))).trans (f2.weak (by decide) (by decide))
          rw [mh_nt (h.fr F2 (by decide))]
          refine qm_plainEnd l2 (u := aU A) hnt (fun j hj => ⟨aw_u ha hj, by rw [F2.2.1 16 (by decide)]; exact hr j hj⟩) ?_
          refine qm_lieMax (f := aP A p) hm5 (leO_lt ha p c) (fun q hq => ⟨?_, by have := aw_p ha hp hq; omega⟩) _ (fun _ => ?_)
          · rw [f2.2.1 21 (by decide), d1.2.1 21 (by decide)]; exact (e2 q hq).1
          · refine pk_le (lhO A p) (gpO (aP A p) (leO A p c) (aM A)) (fun c1 => ?_) (fun c1 => ?_) rfl rfl hgh hgl
            · have hno : ∀ j, j < c + 1 → lyO A p j = false := fun j hj => by
                rcases Nat.decEq j c with y | y
                · exact d2 j (by omega)
                · subst y; unfold lyO; simp; omega
              have hnx := nx_ok (aM A) (by omega) hm.1 c hc
              refine qm_nextOrder (o := rkX (aM A) c) hm5 hm.1 (fun j hj => ⟨by rw [f2.2.1 20 (by decide)]; exact d3 j hj, by have := rk_lt _ (by omega) hm.1 c hc j hj; omega⟩) (fun h0 => ?_) (fun i t3 h1 f3 o3 => ?_)
              · rw [h0] at hnx
                have hcc : ¬ c + 1 < faO (aM A) := fun y => by rw [if_pos y] at hnx; cases hnx
                have := ih t2 ⟨d1.trans (f2.weak (by decide) (by decide)), hno, fun y => absurd y hcc, _, l2⟩
                rw [if_neg hcc] at this; exact this
              · rw [h1] at hnx
                by_cases hcc : c + 1 < faO (aM A)
                · rw [if_pos hcc] at hnx
                  have hnx2 : (List.range (aM A)).map (nxF (aM A) (rkX (aM A) c) i) = (List.range (aM A)).map (rkX (aM A) (c + 1)) := Option.some.inj hnx
                  have hnx3 := List.map_inj_left.mp hnx2
                  have := ih t3 ⟨(d1.trans (f2.weak (by decide) (by decide))).trans (f3.weak (by decide) (by decide)), hno, fun _ j hj => by rw [o3 j hj, hnx3 j (List.mem_range.mpr hj)], _, l2.fr f3 (by decide) (by decide)⟩
                  rw [if_pos hcc] at this; exact this
                · rw [if_neg hcc] at hnx; cases hnx
            · exact k1 c t2 F2 (fun j hj => by rw [f2.2.1 20 (by decide)]; exact d3 j hj) (lr_yes hc (by unfold lyO; simp; exact c1) d2) _)
    rw [if_pos hfp] at L; exact L
  · intro n j s hj e ih
    obtain ⟨e1, e2⟩ := e
    rw [wX8_lie_L56]
    refine br_f (nI_ge hj (by omega)) ?_
    rw [qi_10]
    refine ⟨pk_in (10 * p + j) 80 (by omega), pk_in j 10 (by omega), fun S hS => ⟨pk_in j 5 (by omega), fun S2 hS2 => nm_e ?_⟩⟩
    rw [nI_1]
    rw [nI_clamp (n := j) (by omega), nI_clamp (n := 10 * p + j) (by omega), e1.2.1 13 (by decide), lk_p hl hp hj] at hS
    rw [nI_clamp (by omega)] at hS2
    have a20 : S2.2.1 20 = upd (s.2.1 20) j (nI j) := by rw [hS2, hsA_at, hS, hsA_ne _ _ (by decide)]
    have a21 : S2.2.1 21 = upd (s.2.1 21) j (nI (aP A p j)) := by rw [hS2, hsA_ne _ _ (by decide), hS, hsA_at]
    refine ih S2 ⟨by rw [hS2, hS]; exact (e1.trans (FRm.arr _ (by decide))).trans (FRm.arr _ (by decide)), fun t ht => ?_⟩
    rw [a20, a21]
    rcases Nat.decEq t j with y | y
    · rw [pk_un y, pk_un y]; exact e2 t (by omega)
    · rw [y, pk_us, pk_us]; exact ⟨rfl, rfl⟩
end LieM
section OpN
variable {A : AH} {g : Nat → Nat → Nat} {v i : Nat} {σx σm : hsS}
theorem op_17 (f : Nat → Int64) (a1 : Int32) (h : RR i σx σm) : lo_17 f a1 (RR (i + 6)) σx σm := by
  obtain ⟨A, g, v, h⟩ := h
  unfold lo_17
  have ha := rb_aw h; have hn := aw_n ha; have hm := aw_m ha; have hx := rb_hx h; have hg := rb_gw h
  rcases ix_of a1 (n := aN A) (by omega) with z | ⟨p, hp, rfl⟩
  · unfold wX7_lie
    refine qx_personNo (rb_x65 h) z (fun S hS => ?_)
    obtain ⟨h1, h2⟩ := m0 hS
    exact qm_oneNo (mh_n ((rb_mh h).fr h1 (by decide))) (by omega) z (br_t rfl (qm_fail h1 (fun S' g1 g2 => thr_ok g2 ⟨rfl, fun e => absurd e (by decide), h.m g1⟩)))
  · refine qx_lie ha (rb_tc h) hx hp (fun c5 s1 f1 => ?_) (fun c5 => ?_)
    · have hX : RB A g v i s1 σm := h.frx (f1.weak (by decide) (by decide))
      intro S hS
      obtain ⟨h1, h2⟩ := m0 hS
      have hM := (rb_mh h).fr h1 (by decide)
      refine qm_one (mh_n hM) (by omega) hp (br_f (by decide) (nm_r (mh_m hM) (br_t (nI_le (b := 5) c5 (by decide)) (qm_takeTurns ha hg hM (fun S2 g1 g2 g3 => ?_)))))
      have hM2 := hM.fr g1 (by decide)
      rw [mh_nt hM2]
      refine qm_plainEnd g2 (u := aU A) (aw_nt ha) (fun j hj => ⟨aw_u ha hj, g3 j hj⟩) (qm_worst g2 hp (twO_lt ha) ?_)
      have fin : ∀ S3, FRm [] [13, 20, 21] S2 S3 → FRm [0, 25] [13, 16, 20, 21] σm S3 ∧ S3.1 0 = 0 := fun S3 u1 => ⟨((h1.weak (by decide) (by decide)).trans (g1.weak (by decide) (by decide))).trans (u1.weak (by decide) (by decide)), by rw [u1.1 0 (by decide), g1.1 0 (by decide)]; exact h2⟩
      refine qm_lie ha hM2 g2 g3 hp c5 _ _ (fun c S3 u1 u2 u3 _ => qm_liePack c5 u2 _ (fun _ => ?_)) (fun S3 u1 u2 _ => ?_)
      · rw [← u3]
        exact thr_ok (fin S3 u1).2 ⟨rfl, fun _ => rfl, hX.mt (fin S3 u1).1⟩
      · rw [← u2]
        exact thr_ok (fin S3 u1).2 ⟨rfl, fun _ => rfl, hX.mt (fin S3 u1).1⟩
    · intro S hS
      obtain ⟨h1, h2⟩ := m0 hS
      have hM := (rb_mh h).fr h1 (by decide)
      refine qm_one (mh_n hM) (by omega) hp (br_f (by decide) (nm_r (mh_m hM) (br_f (nI_ge (a := 5) c5 (by omega)) ?_)))
      exact thr_ok h2 ⟨rfl, fun _ => rfl, h.m h1⟩
end OpN
