/-! ===== calls: judge, hold, held, left ===== -/
/-- the first of n with p, as an answer -/
def fxO (p : Nat → Bool) (n : Nat) : Int32 := if fa_first p n < n then nI (fa_first p n) else -1
theorem fxO_hit {p : Nat → Bool} {n j : Nat} (h : ∀ q, q < j → p q = false) (hj : j < n) (hp : p j = true) : fxO p n = nI j := by
  have h1 : fa_first p n = j := by
    rcases Nat.lt_trichotomy (fa_first p n) j with z | z | z
    · have := fa_first_yes p n (by omega); rw [h _ z] at this; exact absurd this (by decide)
    · exact z
    · have := fa_first_no p n j z; rw [hp] at this; exact absurd this (by decide)
  unfold fxO; rw [h1, if_pos hj]
theorem fxO_none {p : Nat → Bool} {n : Nat} (h : ∀ q, q < n → p q = false) : fxO p n = -1 := by
  unfold fxO
  rw [if_neg]
  intro z
  have := fa_first_yes p n z; rw [h _ z] at this; exact absurd this (by decide)
/-- what the strikes th strike; what is left behind them -/
def ssO (th : Nat → Nat) : Nat → Nat
  | 0 => 0
  | j + 1 => ssO th j ||| 2 ^ th j
def lbO (m : Nat) (th : Nat → Nat) : Nat → Nat
  | 0 => 2 ^ m - 1
  | j + 1 => qs_cl (lbO m th j) (th j)
theorem lbO_lt (m : Nat) (th : Nat → Nat) : ∀ j, lbO m th j < 2 ^ m
  | 0 => by have := Nat.two_pow_pos m; show 2 ^ m - 1 < _; omega
  | j + 1 => qs_cl_lt (lbO_lt m th j)
theorem ssO_lt {th : Nat → Nat} {m : Nat} : ∀ j, (∀ q, q < j → th q < m) → ssO th j < 2 ^ m
  | 0, _ => Nat.two_pow_pos m
  | j + 1, h => Nat.or_lt_two_pow (ssO_lt j (fun q hq => h q (by omega))) (Nat.pow_lt_pow_right (by decide) (h j (by omega)))
theorem lbO_bit (m : Nat) (th : Nat → Nat) (k : Nat) : ∀ j, (lbO m th j).testBit k = (decide (k < m) && !(ssO th j).testBit k)
  | 0 => by show (2 ^ m - 1).testBit k = _; rw [qs_full]; simp [ssO]
  | j + 1 => by
    show (qs_cl (lbO m th j) (th j)).testBit k = (decide (k < m) && !(ssO th j ||| 2 ^ th j).testBit k)
    rw [qs_cl_bit, lbO_bit m th k j, fb_bit_set]
    cases decide (k < m) <;> cases (ssO th j).testBit k <;> cases decide (k = th j) <;> rfl
theorem lbO_eq (m : Nat) (th : Nat → Nat) (j : Nat) : (2 ^ m - 1) ^^^ ((2 ^ m - 1) &&& ssO th j) = lbO m th j := by
  apply Nat.eq_of_testBit_eq; intro k
  rw [Nat.testBit_xor, Nat.testBit_and, qs_full, lbO_bit]
  cases decide (k < m) <;> cases (ssO th j).testBit k <;> rfl
section OpF
variable {A : AH} {g : Nat → Nat → Nat} {v i : Nat} {σx σm : hsS}
/-- the row r, as the class has it -/
def RX (m : Nat) (r c : Nat) (th : Nat → Nat) (σ : hsS) : Prop := r < 12 ∧ c ≤ 8 ∧ m ≤ 9 ∧ σ.2.1 31 r = nI c ∧ ∀ j, j < c → th j < m ∧ skO (σ.2.2 32 r) j = nI (th j)
/-- .. and the reference -/
def RM (m : Nat) (r c : Nat) (th : Nat → Nat) (σ : hsS) : Prop := r < 12 ∧ c ≤ 8 ∧ m ≤ 9 ∧ σ.2.1 27 r = nI c ∧ ∀ j, j < c → th j < m ∧ σ.2.1 28 (9 * r + j) = nI (th j)
theorem RM.fr {m r c : Nat} {th : Nat → Nat} {σ σ' : hsS} {I R : List Nat} (h : RM m r c th σ) (hf : FRm I R σ σ') (h1 : 27 ∉ R) (h2 : 28 ∉ R) : RM m r c th σ' := by
  unfold RM at h ⊢; rw [hf.2.1 27 h1, hf.2.1 28 h2]; exact h
theorem qx_struckBy {σ : hsS} {m r c : Nat} {th : Nat → Nat} (h : RX m r c th σ) {post : Int32 → hsS → Prop} (k : post (nI (ssO th c)) σ) : wX0_struckBy 30 (nI r) post σ := by
  obtain ⟨h1, h2, h9, h3, h4⟩ := h
  have h3' : σ.2.1 (30 + 1) r = nI c := h3
  have L : ∀ K : Int32 → Int32 → hsS → Prop, (∀ z, K (nI (ssO th c)) z σ) → ∃ n, wX0_struckBy_L4 30 (nI r) K post n 0 0 σ := fun K kk =>
    pk_loop (fun n j (y : Int32) => wX0_struckBy_L4 30 (nI r) K post n y (nI j) σ) (fun j y => y = nI (ssO th j)) c 0 0 (Nat.zero_le _) rfl
      (fun n y e => by
        rw [wX0_struckBy_L4]
        refine ⟨pk_in r 12 h1, br_t (by rw [nI_clamp (by omega), h3']; exact nI_le (Nat.le_refl _) (by omega)) ?_⟩
        rw [e]; exact kk _)
      (fun n j y hj e ih => by
        rw [wX0_struckBy_L4]
        have ht := (h4 j hj).1
        refine ⟨pk_in r 12 h1, br_f (by rw [nI_clamp (by omega), h3']; exact nI_ge hj (by omega)) ⟨pk_in r 12 h1, qx_sk ?_⟩⟩
        rw [nI_clamp (by omega), show skO (σ.2.2 (30 + 2) r) j = nI (th j) from (h4 j hj).2]
        refine nm_e (nm_e ?_)
        rw [e, qb_one _ (by omega), fa_or, nI_1]
        exact ih _ rfl)
  exact L _ (fun _ => k)
theorem qx_firstUnlawful {σ : hsS} {m r c : Nat} {th : Nat → Nat} (h : RX m r c th σ) {post : Int32 → hsS → Prop} (k : post (fxO (fun j => (ssO th j).testBit (th j)) c) σ) : wX0_firstUnlawful 30 (nI r) post σ := by
  obtain ⟨h1, h2, h9, h3, h4⟩ := h
  have h3' : σ.2.1 (30 + 1) r = nI c := h3
  have hm9 : 2 ^ m ≤ 2 ^ 9 := Nat.pow_le_pow_right (by decide) h9
  refine pk_loop (fun n j (y : Int32) => wX0_firstUnlawful_L4 30 (nI r) _ _ post n y (nI j) σ) (fun j y => y = nI (ssO th j) ∧ ∀ q, q < j → (ssO th q).testBit (th q) = false) c 0 0 (Nat.zero_le _) ⟨rfl, fun q hq => absurd hq (Nat.not_lt_zero _)⟩ ?_ ?_
  · intro n y e
    rw [wX0_firstUnlawful_L4]
    refine ⟨pk_in r 12 h1, br_t (by rw [nI_clamp (by omega), h3']; exact nI_le (Nat.le_refl _) (by omega)) ?_⟩
    rw [fxO_none e.2] at k; exact k
  · intro n j y hj e ih
    obtain ⟨e, e2⟩ := e
    rw [wX0_firstUnlawful_L4]
    have ht := (h4 j hj).1
    have hsl := ssO_lt (th := th) (m := m) j (fun q hq => (h4 q (by omega)).1)
    refine ⟨pk_in r 12 h1, br_f (by rw [nI_clamp (by omega), h3']; exact nI_ge hj (by omega)) ⟨pk_in r 12 h1, qx_sk ?_⟩⟩
    rw [nI_clamp (by omega), show skO (σ.2.2 (30 + 2) r) j = nI (th j) from (h4 j hj).2, e]
    refine ek_if (qb_testN (by omega) (by omega)) (fun c1 => ?_) (fun c1 => ?_)
    · rw [fxO_hit (p := fun j => (ssO th j).testBit (th j)) e2 hj c1] at k; exact k
    · refine nm_e (nm_e ?_)
      rw [qb_one _ (by omega), fa_or, nI_1]
      refine ih _ ⟨rfl, fun q hq => ?_⟩
      rcases Nat.lt_or_ge q j with z | z
      · exact e2 q z
      · have : q = j := by omega
        subst this; simpa using c1
def npO (A : AH) (th : Nat → Nat) (j : Nat) : Bool := !decide (psO (aP A (aU A j)) (lbO (aM A) th j) (aM A) = some (th j))
theorem eO_eq {o : Option Nat} {t : Nat} (ho : ∀ w, o = some w → w < 2 ^ 31) (ht : t < 2 ^ 31) : eO o = nI t ↔ o = some t := by
  cases o with
  | none => exact ⟨fun e => absurd e.symm (pk_nm1 ht), fun e => by cases e⟩
  | some w =>
    have := ho w rfl
    show nI w = nI t ↔ _
    rw [nI_eq this ht]
    exact ⟨fun e => by rw [e], fun e => by cases e; rfl⟩
theorem qx_firstNotPlain {σ : hsS} (ha : AW A) (hx : HX 1 A σ) {r c : Nat} {th : Nat → Nat} (hc : c ≤ aNt A) (h : RX (aM A) r c th σ) {post : Int32 → hsS → Prop} (k : post (fxO (npO A th) c) σ) : wX0_firstNotPlain 30 (nI r) 1 post σ := by
  obtain ⟨h1, h2, h9, h3, h4⟩ := h
  have h3' : σ.2.1 (30 + 1) r = nI c := h3
  have hm9 : 2 ^ aM A ≤ 2 ^ 9 := Nat.pow_le_pow_right (by decide) h9
  have hnt := aw_nt ha
  refine qx_allThings ha hx ?_
  refine pk_loop (fun n j (y : Int32) => wX0_firstNotPlain_L8 30 1 (nI r) _ _ post n y (nI j) σ) (fun j y => y = nI (lbO (aM A) th j) ∧ ∀ q, q < j → npO A th q = false) c 0 (nI (2 ^ aM A - 1)) (Nat.zero_le _) ⟨rfl, fun q hq => absurd hq (Nat.not_lt_zero _)⟩ ?_ ?_
  · intro n y e
    rw [wX0_firstNotPlain_L8]
    refine ⟨pk_in r 12 h1, br_t (by rw [nI_clamp (by omega), h3']; exact nI_le (Nat.le_refl _) (by omega)) ?_⟩
    rw [fxO_none e.2] at k; exact k
  · intro n j y hj e ih
    obtain ⟨e, e2⟩ := e
    rw [wX0_firstNotPlain_L8]
    have ht := (h4 j hj).1
    have hll := lbO_lt (aM A) th j
    refine ⟨pk_in r 12 h1, br_f (by rw [nI_clamp (by omega), h3']; exact nI_ge hj (by omega)) (br_f (by rw [hx_nt hx]; exact nI_ge (by omega) (by omega)) ⟨pk_in r 12 h1, qx_sk ⟨pk_in j 8 (by omega), ?_⟩⟩)⟩
    rw [nI_clamp (by omega), nI_clamp (by omega), hx_u hx (k := j) (by omega), e]
    refine qx_plainStrike ha hx (aw_u ha (by omega)) (by omega) ?_
    rw [show skO (σ.2.2 (30 + 2) r) j = nI (th j) from (h4 j hj).2]
    have hiff : nI (th j) = eO (psO (aP A (aU A j)) (lbO (aM A) th j) (aM A)) ↔ npO A th j = false := by
      unfold npO
      rw [eq_comm, eO_eq (fun w hw => by have := psO_in _ _ _ _ hw; omega) (by omega)]
      simp
    refine ek_if hiff (fun c1 => ?_) (fun c1 => ?_)
    · refine nm_e (nm_e ?_)
      rw [qb_cl _ (by omega), nI_1]
      refine ih _ ⟨rfl, fun q hq => ?_⟩
      rcases Nat.lt_or_ge q j with z | z
      · exact e2 q z
      · have : q = j := by omega
        subst this; exact c1
    · rw [fxO_hit (p := npO A th) e2 hj (by simpa using c1)] at k; exact k
theorem qm_leftBehind {σ : hsS} (h : MH A g σ) {r c : Nat} {th : Nat → Nat} (hr : RM (aM A) r c th σ) {post : Int32 → hsS → Prop} (k : post (nI (lbO (aM A) th c)) σ) : wX8_leftBehind (nI r) post σ := by
  obtain ⟨h1, h2, h9, h3, h4⟩ := hr
  refine nm_r (by rw [mh_m h, qb_all (by omega)]) ?_
  have L : ∀ K : Int32 → Int32 → hsS → Prop, (∀ z, K (nI (lbO (aM A) th c)) z σ) → ∃ n, wX8_leftBehind_L13 (nI r) K post n (nI (2 ^ aM A - 1)) 0 σ := fun K kk =>
    pk_loop (fun n j (y : Int32) => wX8_leftBehind_L13 (nI r) K post n y (nI j) σ) (fun j y => y = nI (lbO (aM A) th j)) c 0 (nI (2 ^ aM A - 1)) (Nat.zero_le _) rfl
      (fun n y e => by
        rw [wX8_leftBehind_L13]
        refine ⟨pk_in r 12 h1, br_t (by rw [nI_clamp (by omega), h3]; exact nI_le (Nat.le_refl _) (by omega)) ?_⟩
        rw [e]; exact kk _)
      (fun n j y hj e ih => by
        rw [wX8_leftBehind_L13]
        have ht := (h4 j hj).1
        have ei : (9 : Int32) * nI r + nI j = nI (9 * r + j) := by rw [show (9 : Int32) = nI 9 from rfl, pk_mul, nI_add]
        refine ⟨pk_in r 12 h1, br_f (by rw [nI_clamp (by omega), h3]; exact nI_ge hj (by omega)) ⟨pk_in (9 * r + j) 108 (by omega) ei, nm_e (nm_e ?_)⟩⟩
        rw [ei, nI_clamp (by omega), (h4 j hj).2, e, qb_cl _ (by omega), nI_1]
        exact ih _ rfl)
  exact L _ (fun _ => k)
theorem qm_judgeLoop {σ : hsS} (ha : AW A) (h : MH A g σ) (hl : LK (aP A) (aM A) (aN A) σ) {r c w : Nat} {th : Nat → Nat} (hc : c ≤ aNt A) (hr : RM (aM A) r c th σ) (hw : w = 1 ∨ w = 2) {post : Int32 → hsS → Prop} (K1 K2 : Int32 → Int32 → hsS → Prop) (k1 : ∀ y z, fxO (if w = 1 then fun j => (ssO th j).testBit (th j) else npO A th) c = z → K1 y z σ) (k2 : fxO (if w = 1 then fun j => (ssO th j).testBit (th j) else npO A th) c = -1 → ∀ y z, K2 y z σ) : ∃ n, wX8_judge_L66 (nI r) (nI w) K1 K2 post n (nI (2 ^ aM A - 1)) 0 σ := by
  obtain ⟨h1, h2, h9, h3, h4⟩ := hr
  have hm9 : 2 ^ aM A ≤ 2 ^ 9 := Nat.pow_le_pow_right (by decide) h9
  have hnt := aw_nt ha
  obtain ⟨p, hp⟩ : ∃ f : Nat → Bool, f = if w = 1 then fun j => (ssO th j).testBit (th j) else npO A th := ⟨_, rfl⟩
  rw [← hp] at k1 k2
  refine pk_loop (fun n j (y : Int32) => wX8_judge_L66 (nI r) (nI w) K1 K2 post n y (nI j) σ) (fun j y => y = nI (lbO (aM A) th j) ∧ ∀ q, q < j → p q = false) c 0 (nI (2 ^ aM A - 1)) (Nat.zero_le _) ⟨rfl, fun q hq => absurd hq (Nat.not_lt_zero _)⟩ ?_ ?_
  · intro n y e
    rw [wX8_judge_L66]
    exact ⟨pk_in r 12 h1, br_t (by rw [nI_clamp (by omega), h3]; exact nI_le (Nat.le_refl _) (by omega)) (k2 (fxO_none e.2) _ _)⟩
  · intro n j y hj e ih
    obtain ⟨e, e2⟩ := e
    rw [wX8_judge_L66]
    have ht := (h4 j hj).1
    have hll := lbO_lt (aM A) th j
    have ei : (9 : Int32) * nI r + nI j = nI (9 * r + j) := by rw [show (9 : Int32) = nI 9 from rfl, pk_mul, nI_add]
    have nxt : p j = false → wX8_judge_L66 (nI r) (nI w) K1 K2 post n (nI (lbO (aM A) th j) &&& (((1 : Int32) <<< (nI (th j) &&& 31)) ^^^ (-1 : Int32))) (nI j + 1) σ := fun hpj => by
      rw [qb_cl _ (by omega), nI_1]
      refine ih _ ⟨rfl, fun q hq => ?_⟩
      rcases Nat.lt_or_ge q j with z | z
      · exact e2 q z
      · have : q = j := by omega
        subst this; exact hpj
    have hno : p j = true → ∀ y, K1 y (nI j) σ := fun hpj y => k1 y _ (fxO_hit e2 hj hpj)
    have hbit := lbO_bit (aM A) th (th j) j
    rw [show decide (th j < aM A) = true by simp [ht], Bool.true_and] at hbit
    refine ⟨pk_in r 12 h1, br_f (by rw [nI_clamp (by omega), h3]; exact nI_ge hj (by omega)) ⟨pk_in (9 * r + j) 108 (by omega) ei, nm_r (by rw [ei, nI_clamp (by omega), (h4 j hj).2]) ?_⟩⟩
    rw [e]
    refine ek_if (qb_testN (by omega) (by omega)) (fun c1 => ?_) (fun c1 => ?_)
    · rw [c1] at hbit
      have hss : (ssO th j).testBit (th j) = false := by simpa using hbit.symm
      refine pk_eq w 1 (fun c2 => ?_) (fun c2 => ?_) rfl rfl (by omega)
      · exact nm_e (nm_e (nxt (by rw [hp, if_pos c2]; exact hss)))
      · refine ⟨pk_in j 18 (by omega), ?_⟩
        rw [nI_clamp (by omega), mh_u h (k := j) (by omega)]
        refine qm_plainly hl (aw_u ha (by omega)) (by omega) ?_
        have hiff : eO (psO (aP A (aU A j)) (lbO (aM A) th j) (aM A)) = nI (th j) ↔ p j = false := by
          rw [hp, if_neg c2]
          unfold npO
          rw [eO_eq (fun w hw => by have := psO_in _ _ _ _ hw; omega) (by omega)]
          simp
        exact ek_if hiff (fun c3 => nm_e (nm_e (nxt c3))) (fun c3 => hno (by simpa using c3) _)
    · have hlf : (lbO (aM A) th j).testBit (th j) = false := by simpa using c1
      refine hno ?_ _
      rw [hp]
      rcases hw with z | z
      · rw [if_pos z]; rw [hlf] at hbit
        have : (ssO th j).testBit (th j) = true := by simpa using hbit.symm
        exact this
      · rw [if_neg (by omega)]
        unfold npO
        have : ¬ psO (aP A (aU A j)) (lbO (aM A) th j) (aM A) = some (th j) := fun e => by
          have := (psO_in _ _ _ _ e).2; rw [hlf] at this; exact absurd this (by decide)
        simp [this]
theorem op_29 (f : Nat → Int64) (a1 a2 : Int32) (h : RR i σx σm) : lo_29 f a1 a2 (RR (i + 6)) σx σm := by
  obtain ⟨A, g, v, h⟩ := h
  unfold lo_29 wX7_judge
  have ha := rb_aw h; have hm := aw_m ha; have hnt := aw_nt ha; have hx := rb_hx h
  obtain ⟨rc, mn, th, ⟨b1, b2, b3, b4⟩, hh⟩ := rb_bd h
  rcases ix_of a1 (n := rc) (by omega) with z | ⟨r, hr, rfl⟩
  · refine qx_rowNo b2 z (fun S hS => ?_)
    obtain ⟨h1, h2⟩ := m0 hS
    exact qm_rowNo (n := rc) (by rw [h1.1 52 (by decide)]; exact b3) (by omega) z (br_t rfl (qm_fail h1 (fun S' g1 g2 => thr_ok g2 ⟨rfl, fun e => absurd e (by decide), h.m g1⟩)))
  · obtain ⟨p1, p2, p3, p4⟩ := b4 r hr
    have hX : RX (aM A) r (mn r) (th r) σx := ⟨by omega, by omega, hm.2, p2, fun j hj => ⟨(p4 j hj).1, (p4 j hj).2.1⟩⟩
    have hM0 : RM (aM A) r (mn r) (th r) σm := ⟨by omega, by omega, hm.2, p3, fun j hj => ⟨(p4 j hj).1, (p4 j hj).2.2⟩⟩
    refine qx_row b2 (by omega) hr ?_
    have hst : ∀ {post : Int32 → hsS → Prop} {S : hsS}, FRm [0] [] σm S → post 1 S → wX8_isRow (nI r) post S := fun h1 k => qm_row (n := rc) (by rw [h1.1 52 (by decide)]; exact b3) (by omega) hr k
    rcases ix_of a2 (n := 4) (by omega) with z | ⟨w, hw, rfl⟩
    · refine br_f (ix_ne (j := 0) z (by decide) (by decide)) (br_f (ix_ne (j := 1) z (by decide) (by decide)) (br_f (ix_ne (j := 2) z (by decide) (by decide)) (br_f (ix_ne (j := 3) z (by decide) (by decide)) (fun S hS => ?_))))
      obtain ⟨h1, h2⟩ := m0 hS
      exact hst h1 (br_f (by decide) (qm_inNo (n := 4) (by decide) (by decide) z (br_t rfl (qm_fail h1 (fun S' g1 g2 => thr_ok g2 ⟨rfl, fun e => absurd e (by decide), h.m g1⟩)))))
    · refine pk_eq w 0 (fun c0 => ?_) (fun c0 => pk_eq w 1 (fun c1 => ?_) (fun c1 => pk_eq w 2 (fun c2 => ?_) (fun c2 => br_t (by rw [show w = 3 by omega]; rfl) ?_)))
      · refine ⟨pk_in r 12 (by omega), fun S hS => ?_⟩
        obtain ⟨h1, h2⟩ := m0 hS
        refine hst h1 (br_f (by decide) (qm_in (n := 4) (by decide) (by decide) hw (br_f (by decide) (br_t (by rw [c0]; rfl) ⟨pk_in r 12 (by omega), thr_ok h2 ⟨rfl, fun _ => ?_, h.m h1⟩⟩))))
        rw [nI_clamp (by omega), h1.2.1 27 (by decide), p3, p2]; rfl
      · refine qx_firstUnlawful hX (fun S hS => ?_)
        obtain ⟨h1, h2⟩ := m0 hS
        have hM := (rb_mh h).fr h1 (by decide)
        refine hst h1 (br_f (by decide) (qm_in (n := 4) (by decide) (by decide) hw (br_f (by decide) (br_f (nI_ne0 (by omega) (by omega)) (br_f (by rw [c1]; decide) (qm_look ha (rb_gw h) hM (fun S2 g1 g2 => nm_r (by rw [lk_m g2, qb_all (by omega)]) ?_)))))))
        have hRR : RR (i + 6) σx S2 := h.ml (h1.f0.trans (g1.weak (by decide) (by decide)))
        have h0 : S2.1 0 = 0 := by rw [g1.1 0 (by decide)]; exact h2
        refine qm_judgeLoop ha (hM.fr g1 (by decide)) g2 p1 ((hM0.fr h1 (by decide) (by decide)).fr g1 (by decide) (by decide)) (Or.inl c1) _ _ (fun y z e => ?_) (fun e y z => ?_)
        · rw [if_pos c1] at e; rw [e]; exact thr_ok h0 ⟨rfl, fun _ => rfl, hRR⟩
        · rw [if_pos c1] at e; rw [e]; exact thr_ok h0 ⟨rfl, fun _ => rfl, hRR⟩
      · refine qx_firstNotPlain ha hx p1 hX (fun S hS => ?_)
        obtain ⟨h1, h2⟩ := m0 hS
        have hM := (rb_mh h).fr h1 (by decide)
        refine hst h1 (br_f (by decide) (qm_in (n := 4) (by decide) (by decide) hw (br_f (by decide) (br_f (nI_ne0 (by omega) (by omega)) (br_f (by rw [c2]; decide) (qm_look ha (rb_gw h) hM (fun S2 g1 g2 => nm_r (by rw [lk_m g2, qb_all (by omega)]) ?_)))))))
        have hRR : RR (i + 6) σx S2 := h.ml (h1.f0.trans (g1.weak (by decide) (by decide)))
        have h0 : S2.1 0 = 0 := by rw [g1.1 0 (by decide)]; exact h2
        refine qm_judgeLoop ha (hM.fr g1 (by decide)) g2 p1 ((hM0.fr h1 (by decide) (by decide)).fr g1 (by decide) (by decide)) (Or.inr c2) _ _ (fun y z e => ?_) (fun e y z => ?_)
        · rw [if_neg c1] at e; rw [e]; exact thr_ok h0 ⟨rfl, fun _ => rfl, hRR⟩
        · rw [if_neg c1] at e; rw [e]; exact thr_ok h0 ⟨rfl, fun _ => rfl, hRR⟩
      · refine qx_allThings ha hx (qx_struckBy hX ?_)
        rw [qb_nand, lbO_eq]
        intro S hS
        obtain ⟨h1, h2⟩ := m0 hS
        have hM := (rb_mh h).fr h1 (by decide)
        refine hst h1 (br_f (by decide) (qm_in (n := 4) (by decide) (by decide) hw (br_f (by decide) (br_f (nI_ne0 (by omega) (by omega)) (br_t (by rw [show w = 3 by omega]; rfl) (qm_leftBehind hM (hM0.fr h1 (by decide) (by decide)) ?_))))))
        exact thr_ok h2 ⟨rfl, fun _ => rfl, h.m h1⟩
end OpF
