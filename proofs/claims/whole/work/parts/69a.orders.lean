/-! ===== rows of things: the c-th; the next one ===== -/
theorem nuO_le (used : Nat) : ∀ f skip t, nuO used f skip t ≤ t + f
  | 0, _, _ => Nat.zero_le _
  | f + 1, skip, t => by
    show (if used.testBit t = true then nuO used f skip (t + 1) else if skip = 0 then t else nuO used f (skip - 1) (t + 1)) ≤ _
    have h1 := nuO_le used f skip (t + 1); have h2 := nuO_le used f (skip - 1) (t + 1)
    split
    · omega
    · split <;> omega
section Nth
variable {σ : hsS}
theorem qx_nthUnused {used nth s : Nat} (hu : used < 2 ^ 31) (hn : nth < 2 ^ 31) (hs : s ≤ 9) {post : Int32 → hsS → Prop} (k : post (nI (nuO used s nth 0)) σ) : wX7_nthUnused (nI used) (nI nth) (nI s) post σ := by
  have L : ∀ K1 K2 : Int32 → Int32 → hsS → Prop, (∀ t, nuO used s nth 0 = t → ∀ y, K1 y (nI t) σ) → (nuO used s nth 0 = 0 → ∀ y z, K2 y z σ) → ∃ n, wX7_nthUnused_L5 (nI used) (nI nth) (nI s) K1 K2 post n (nI nth) 0 σ := fun K1 K2 k1 k2 =>
    pk_loop (fun n t (y : Int32) => wX7_nthUnused_L5 (nI used) (nI nth) (nI s) K1 K2 post n y (nI t) σ) (fun t y => ∃ skip, y = nI skip ∧ skip < 2 ^ 31 ∧ nuO used s nth 0 = nuO used (s - t) skip t) s 0 (nI nth) (Nat.zero_le _) ⟨nth, rfl, hn, rfl⟩
      (fun n y e => by
        obtain ⟨skip, e1, e2, e3⟩ := e
        rw [wX7_nthUnused_L5]
        exact br_t (nI_le (Nat.le_refl _) (by omega)) (k2 (by rw [e3, Nat.sub_self]; rfl) _ _))
      (fun n t y ht e ih => by
        obtain ⟨skip, e1, e2, e3⟩ := e
        rw [wX7_nthUnused_L5]
        obtain ⟨f, hf⟩ : ∃ f, s - t = f + 1 := ⟨s - t - 1, by omega⟩
        have hf2 : s - (t + 1) = f := by omega
        rw [hf] at e3
        have e3 : nuO used s nth 0 = if used.testBit t = true then nuO used f skip (t + 1) else if skip = 0 then t else nuO used f (skip - 1) (t + 1) := e3
        refine br_f (nI_ge ht (by omega)) (ek_if (qb_test0 hu (by omega)) (fun c => ?_) (fun c => nm_e ?_))
        · rw [if_neg (by rw [c]; decide)] at e3
          rw [e1]
          refine pk_eq skip 0 (fun c2 => ?_) (fun c2 => ?_)
          · rw [if_pos c2] at e3
            exact k1 t e3 _
          · rw [if_neg c2] at e3
            obtain ⟨q, hq⟩ : ∃ q, skip = q + 1 := ⟨skip - 1, by omega⟩
            rw [hq]
            refine nm_r (pk_m1 q) (nm_e ?_)
            rw [nI_1]
            exact ih _ ⟨q, rfl, by omega, by rw [hf2, e3, hq, Nat.add_sub_cancel]⟩
        · rw [nI_1]
          rw [if_pos (ts_nf c)] at e3
          exact ih _ ⟨skip, e1, e2, by rw [hf2]; exact e3⟩)
  exact L _ _ (fun t ht _ => by rw [ht] at k; exact k) (fun h0 _ _ => by rw [h0] at k; exact k)
theorem qx_nthOrder {b2 c s : Nat} (hs : s ≤ 9) (hc : c < faO s) {post : hsS → Prop} (k : ∀ σ', FRm [] [b2] σ σ' → (∀ j, j < s → σ'.2.1 b2 j = nI (rkX s c j)) → post σ') : wX7_nthOrder (nI c) (nI s) b2 post σ := by
  have hfs := faO_lt s (by omega)
  refine pk_loop (fun n i (y : Int32 × Int32 × hsS) => wX7_nthOrder_L8 b2 (nI c) (nI s) _ post n y.1 y.2.1 (nI i) y.2.2) (fun i y => ∃ used rest, y.1 = nI used ∧ y.2.1 = nI rest ∧ used < 2 ^ 10 ∧ rest < faO (s - i) ∧ (∀ j, j < s - i → rkX s c (i + j) = (noO s (s - i) used rest).getD j 0) ∧ FRm [] [b2] σ y.2.2 ∧ ∀ j, j < i → y.2.2.2.1 b2 j = nI (rkX s c j)) s 0 (0, nI c, σ) (Nat.zero_le _) ⟨0, c, rfl, rfl, by decide, hc, fun j _ => by rw [Nat.zero_add]; rfl, FRm.rf, fun j hj => absurd hj (Nat.not_lt_zero _)⟩ ?_ ?_
  · intro n y e
    obtain ⟨used, rest, -, -, -, -, -, e6, e7⟩ := e
    rw [wX7_nthOrder_L8]
    exact br_t (nI_le (Nat.le_refl _) (by omega)) (k _ e6 e7)
  · intro n i y hi e ih
    obtain ⟨used, rest, e1, e2, e3, e4, e5, e6, e7⟩ := e
    obtain ⟨f, hf⟩ : ∃ f, s - i = f + 1 := ⟨s - i - 1, by omega⟩
    have hf2 : s - (i + 1) = f := by omega
    have hff := faO_lt f (by omega); have hfi := faO_lt (s - i) (by omega)
    have hfp := faO_pos f
    have hch := nuO_le used s (rest / faO f) 0
    rw [hf] at e5
    have h0 : rkX s c i = nuO used s (rest / faO f) 0 := by
      have := e5 0 (by omega)
      rw [Nat.add_zero] at this; rw [this]; rfl
    have h1 : ∀ j, j < f → rkX s c (i + 1 + j) = (noO s f (used ||| 2 ^ nuO used s (rest / faO f) 0) (rest % faO f)).getD j 0 := fun j hj => by
      have := e5 (j + 1) (by omega)
      rw [show i + 1 + j = i + (j + 1) by omega, this]
      show (nuO used s (rest / faO f) 0 :: noO s f (used ||| 2 ^ nuO used s (rest / faO f) 0) (rest % faO f)).getD (j + 1) 0 = _
      exact List.getD_cons_succ
    rw [wX7_nthOrder_L8]
    refine br_f (nI_ge hi (by omega)) (br_f (nI_ge (b := 9) (by omega) (by decide)) ?_)
    have hz : (nI s - (1 : Int32)) - nI i = nI f := by
      rw [show nI s - (1 : Int32) = nI (s - 1) from pk_sub (a := s) (b := 1) (by omega), pk_sub (by omega), show s - 1 - i = f by omega]
    rw [hz]
    have hdl : rest / faO f ≤ rest := Nat.div_le_self _ _
    refine qx_factorial (by omega) ⟨nI_ne0 hfp (by omega), ?_⟩
    rw [e2, pk_div (by omega) hfp (by omega), e1]
    refine qx_nthUnused (by omega) (by omega) hs ⟨pk_in i 9 (by omega), fun S hS => nm_r (e' := nI (used ||| 2 ^ nuO used s (rest / faO f) 0)) (by rw [qb_one _ (by omega), fa_or]) ⟨nI_ne0 hfp (by omega), nm_r (e' := nI (rest % faO f)) (by rw [← pk_div (by omega) hfp (by omega)]; exact pk_rem (by omega) hfp (by omega)) (nm_e ?_)⟩⟩
    rw [nI_1]
    rw [nI_clamp (by omega)] at hS
    have hat : S.2.1 b2 = upd (y.2.2.2.1 b2) i (nI (nuO used s (rest / faO f) 0)) := by rw [hS, hsA_at]
    refine ih (_, _, S) ⟨_, _, rfl, rfl, Nat.or_lt_two_pow e3 (Nat.pow_lt_pow_right (by decide) (by omega)), by rw [hf2]; exact Nat.mod_lt _ hfp, by rw [hf2]; exact h1, by rw [hS]; exact e6.trans (FRm.arr _ (by simp)), fun j hj => ?_⟩
    show S.2.1 b2 j = _
    rw [hat]
    rcases Nat.decEq j i with z | z
    · rw [pk_un z]; exact e7 j (by omega)
    · subst z; rw [pk_us, h0]
end Nth
/-- where the row may still rise -/
def pvO (o : Nat → Nat) : Nat → Option Nat
  | 0 => none
  | k + 1 => if o k ≤ o (k + 1) then some k else pvO o k
def jvO (o : Nat → Nat) (i : Nat) : Nat → Nat
  | 0 => 0
  | k + 1 => if o i ≤ o k then k else jvO o i k
def rvO : Nat → (Nat → Nat) → Nat → Nat → (Nat → Nat)
  | 0, o, _, _ => o
  | f + 1, o, a, b => if b ≤ a then o else rvO f (swO o a b) (a + 1) (b - 1)
def nxF (m : Nat) (o : Nat → Nat) (i : Nat) : Nat → Nat := rvO m (swO o i (jvO o i m)) (i + 1) (m - 1)
theorem pvO_lt (o : Nat → Nat) : ∀ k i, pvO o k = some i → i < k
  | 0, i, h => by cases h
  | k + 1, i, h => by
    have h : (if o k ≤ o (k + 1) then some k else pvO o k) = some i := h
    by_cases c : o k ≤ o (k + 1)
    · rw [if_pos c] at h; have := Option.some.inj h; omega
    · rw [if_neg c] at h; have := pvO_lt o k i h; omega
theorem jvO_lt (o : Nat → Nat) (i : Nat) : ∀ k, i < k → jvO o i k < k
  | 0, h => absurd h (Nat.not_lt_zero _)
  | k + 1, h => by
    show (if o i ≤ o k then k else jvO o i k) < k + 1
    split
    · omega
    · rename_i c
      rcases Nat.decEq i k with z | z
      · have := jvO_lt o i k (by omega); omega
      · subst z; exact absurd (Nat.le_refl _) c
theorem nx_ok : ∀ m, m < 6 → 2 ≤ m → ∀ c, c < faO m → ((pvO (rkX m c) (m - 1)).map (fun i => (List.range m).map (nxF m (rkX m c) i)) = if c + 1 < faO m then some ((List.range m).map (rkX m (c + 1))) else none) := by decide +kernel
theorem rk_lt : ∀ m, m < 6 → 2 ≤ m → ∀ c, c < faO m → ∀ j, j < m → rkX m c j < m := by decide +kernel
theorem rk_on : ∀ m, m < 6 → 2 ≤ m → ∀ c, c < faO m → ∀ t, t < m → ∃ j, j < m ∧ rkX m c j = t := by
  have h : ∀ m, m < 6 → 2 ≤ m → ∀ c, c < faO m → ∀ t, t < m → (List.range m).any (fun j => decide (rkX m c j = t)) = true := by decide +kernel
  intro m h1 h2 c hc t ht
  have := h m h1 h2 c hc t ht
  rw [List.any_eq_true] at this
  obtain ⟨j, hj, e⟩ := this
  exact ⟨j, List.mem_range.mp hj, by simpa using e⟩
theorem rk_0 : ∀ m, m < 6 → 2 ≤ m → ∀ j, j < m → rkX m 0 j = j := by decide +kernel
section Next
variable {σ : hsS} {m : Nat}
theorem qm_rev {z1 z2 z3 : Int32} {post : Int32 → hsS → Prop} (K : Int32 → Int32 → Int32 → hsS → Prop) (hm : m ≤ 5) : ∀ (f : Nat) (o : Nat → Nat) (a b : Nat) (y4 : Int32) (s : hsS), b ≤ a + f → b < m → a ≤ 5 → (∀ j, j < m → s.2.1 20 j = nI (o j)) → FRm [] [20] σ s → (∀ s', FRm [] [20] σ s' → (∀ j, j < m → s'.2.1 20 j = nI (rvO f o a b j)) → ∀ y z w, K y z w s') → ∃ n, wX8_nextOrder_L100 z1 z2 z3 K post n y4 (nI a) (nI b) s
  | 0, o, a, b, y4, s, hab, hb, ha, ho, hF, k => ⟨1, by
      rw [wX8_nextOrder_L100]
      exact br_t (nI_le (by omega) (by omega)) (k s hF ho _ _ _)⟩
  | f + 1, o, a, b, y4, s, hab, hb, ha, ho, hF, k => by
      rcases Nat.lt_or_ge a b with z | z
      · obtain ⟨b', hb'⟩ : ∃ b', b = b' + 1 := ⟨b - 1, by omega⟩
        have hrv : rvO (f + 1) o a b = rvO f (swO o a b) (a + 1) (b - 1) := by
          show (if b ≤ a then o else rvO f (swO o a b) (a + 1) (b - 1)) = _
          exact if_neg (by omega)
        rw [hrv] at k
        have key : ∀ S22 S23 : hsS, S22 = hsA s 20 (upd (s.2.1 20) a (nI (o b))) → S23 = hsA S22 20 (upd (S22.2.1 20) b (nI (o a))) → ∃ n, wX8_nextOrder_L100 z1 z2 z3 K post n (nI (o a)) (nI (a + 1)) (nI (b - 1)) S23 := fun S22 S23 e22 e23 => by
          refine qm_rev K hm f (swO o a b) (a + 1) (b - 1) _ S23 (by omega) (by omega) (by omega) (fun j hj => ?_) (by rw [e23, e22]; exact (hF.trans (FRm.arr _ (by decide))).trans (FRm.arr _ (by decide))) k
          have hat : S23.2.1 20 = upd (upd (s.2.1 20) a (nI (o b))) b (nI (o a)) := by rw [e23, hsA_at, e22, hsA_at]
          rw [hat]
          unfold swO
          rcases Nat.decEq j b with y | y
          · rw [pk_un y, if_neg y]
            rcases Nat.decEq j a with y2 | y2
            · rw [pk_un y2, if_neg y2]; exact ho j hj
            · rw [if_pos y2, y2, pk_us]
          · rw [if_pos y, y, pk_us]
        obtain ⟨n, hn⟩ := key _ _ rfl rfl
        refine ⟨n + 1, ?_⟩
        rw [wX8_nextOrder_L100]
        refine br_f (nI_ge z (by omega)) ⟨pk_in a 5 (by omega), nm_r (e' := nI (o a)) (by rw [nI_clamp (by omega)]; exact ho a (by omega)) ⟨pk_in b 5 (by omega), pk_in a 5 (by omega), ?_⟩⟩
        rw [nI_clamp (n := a) (by omega), nI_clamp (n := b) (by omega), ho b hb]
        refine nm_e ⟨pk_in b 5 (by omega), nm_e (nm_r (e' := nI (b - 1)) (by rw [hb', pk_m1, Nat.add_sub_cancel]) (nm_r (nI_1 a) hn))⟩
      · refine ⟨1, ?_⟩
        rw [wX8_nextOrder_L100]
        refine br_t (nI_le z (by omega)) (k s hF (fun j hj => ?_) _ _ _)
        have hrv : rvO (f + 1) o a b = o := by
          show (if b ≤ a then o else rvO f (swO o a b) (a + 1) (b - 1)) = _
          exact if_pos z
        rw [hrv]; exact ho j hj
theorem qm_nextOrder {o : Nat → Nat} (hm : m ≤ 5) (hm2 : 2 ≤ m) (ho : ∀ j, j < m → σ.2.1 20 j = nI (o j) ∧ o j < 2 ^ 31) {post : Int32 → hsS → Prop} (k0 : pvO o (m - 1) = none → post 0 σ) (k1 : ∀ i σ', pvO o (m - 1) = some i → FRm [] [20] σ σ' → (∀ j, j < m → σ'.2.1 20 j = nI (nxF m o i j)) → post 1 σ') : wX8_nextOrder (nI m) post σ := by
  refine nm_r (e' := nI (m - 1) - 1) (by
    rw [show nI m - (2 : Int32) = nI (m - 2) from pk_sub (a := m) (b := 2) hm2, show nI (m - 1) - (1 : Int32) = nI (m - 1 - 1) from pk_sub (a := m - 1) (b := 1) (by omega), show m - 1 - 1 = m - 2 by omega]) ?_
  have L : ∀ K : Int32 → hsS → Prop, (pvO o (m - 1) = none → K (nI 0 - 1) σ) → (∀ i, pvO o (m - 1) = some i → K (nI i) σ) → ∃ n, wX8_nextOrder_L4 (nI m) K post n (nI (m - 1) - 1) σ := fun K q0 q1 => by
    refine ⟨m - 1 + 1, pk_loopD (fun n i (_ : Unit) => wX8_nextOrder_L4 (nI m) K post n (nI i - 1) σ) (fun i _ => i ≤ m - 1 ∧ pvO o (m - 1) = pvO o i) (fun n _ e => ?_) (fun n i _ e ih => ?_) (m - 1) () ⟨Nat.le_refl _, rfl⟩⟩
    · rw [wX8_nextOrder_L4]
      exact br_t (by decide) (q0 e.2)
    · obtain ⟨e0, e⟩ := e
      have e : pvO o (m - 1) = if o i ≤ o (i + 1) then some i else pvO o i := e
      rw [wX8_nextOrder_L4, nI_pred, nI_1]
      refine br_f (nI_pos (by omega)) ⟨pk_in i 5 (by omega), pk_in (i + 1) 5 (by omega), ?_⟩
      rw [nI_clamp (by omega), nI_clamp (by omega), (ho i (by omega)).1, (ho (i + 1) (by omega)).1]
      refine pk_le (o i) (o (i + 1)) (fun c => ?_) (fun c => nm_r (e' := nI i - 1) (Int32.sub_eq_add_neg ..).symm ?_) rfl rfl (ho i (by omega)).2 (ho (i + 1) (by omega)).2
      · rw [if_pos c] at e; exact q1 i e
      · rw [if_neg (by omega)] at e
        exact ih () ⟨by omega, e⟩
  refine L _ (fun h => br_f (by decide) (k0 h)) (fun i hi => ?_)
  have him := pvO_lt _ _ _ hi
  have hjm := jvO_lt o i m (by omega)
  refine br_t (nI_pos' (by omega)) (nm_r (e' := nI (m - 1)) (pk_sub (a := m) (b := 1) (by omega)) ?_)
  have L2 : ∀ K : Int32 → hsS → Prop, K (nI (jvO o i m)) σ → ∃ n, wX8_nextOrder_L41 (nI m) (nI i) K post n (nI (m - 1)) σ := fun K q1 => by
    refine ⟨m - 1 + 1, ?_⟩
    have key : ∀ k, i ≤ k → k < m → jvO o i m = jvO o i (k + 1) → wX8_nextOrder_L41 (nI m) (nI i) K post (k + 1) (nI k) σ := by
      intro k
      induction k with
      | zero =>
        intro h1 h2 h3
        have : i = 0 := by omega
        subst this
        rw [wX8_nextOrder_L41]
        refine ⟨pk_in 0 5 (by omega), pk_in 0 5 (by omega), br_t (by rw [Int32.le_iff_toInt_le]; exact Int.le_refl _) ?_⟩
        have h3 : jvO o 0 m = if o 0 ≤ o 0 then 0 else jvO o 0 0 := h3
        rw [if_pos (Nat.le_refl _)] at h3
        rw [h3] at q1; exact q1
      | succ k ih =>
        intro h1 h2 h3
        have h3 : jvO o i m = if o i ≤ o (k + 1) then k + 1 else jvO o i (k + 1) := h3
        rw [wX8_nextOrder_L41]
        refine ⟨pk_in (k + 1) 5 (by omega), pk_in i 5 (by omega), ?_⟩
        rw [nI_clamp (by omega), nI_clamp (by omega), (ho i (by omega)).1, (ho (k + 1) (by omega)).1]
        refine pk_le (o i) (o (k + 1)) (fun c => ?_) (fun c => nm_r (pk_m1 k) ?_) rfl rfl (ho i (by omega)).2 (ho (k + 1) (by omega)).2
        · rw [if_pos c] at h3
          rw [h3] at q1; exact q1
        · rw [if_neg (by omega)] at h3
          rcases Nat.decEq i (k + 1) with z | z
          · exact ih (by omega) (by omega) h3
          · rw [z] at c; omega
    exact key (m - 1) (by omega) (by omega) (by rw [show m - 1 + 1 = m by omega])
  refine L2 _ ⟨pk_in i 5 (by omega), nm_r (e' := nI (o i)) (by rw [nI_clamp (by omega)]; exact (ho i (by omega)).1) ⟨pk_in (jvO o i m) 5 (by omega), pk_in i 5 (by omega), fun s16 e16 => ⟨pk_in (jvO o i m) 5 (by omega), fun s17 e17 => nm_r (nI_1 i) (nm_r (e' := nI (m - 1)) (pk_sub (a := m) (b := 1) (by omega)) ?_)⟩⟩⟩
  rw [nI_clamp (n := i) (by omega), nI_clamp (n := jvO o i m) (by omega), (ho _ hjm).1] at e16
  rw [nI_clamp (by omega)] at e17
  refine qm_rev _ hm m (swO o i (jvO o i m)) (i + 1) (m - 1) _ s17 (by omega) (by omega) (by omega) (fun j hj => ?_) (by rw [e17, e16]; exact (FRm.arr _ (by decide)).trans (FRm.arr _ (by decide))) (fun s' f1 f2 _ _ _ => k1 i s' hi f1 f2)
  have hat : s17.2.1 20 = upd (upd (σ.2.1 20) i (nI (o (jvO o i m)))) (jvO o i m) (nI (o i)) := by rw [e17, hsA_at, e16, hsA_at]
  rw [hat]
  unfold swO
  rcases Nat.decEq j (jvO o i m) with y | y
  · rw [pk_un y, if_neg y]
    rcases Nat.decEq j i with y2 | y2
    · rw [pk_un y2, if_neg y2]; exact (ho j hj).1
    · rw [if_pos y2, y2, pk_us]
  · rw [if_pos y, y, pk_us]
end Next
