/-! ===== the core, in the reference ===== -/
theorem MM.fr {A : AH} {I R : List Nat} {σ σ' : hsS} (h : MM A σ) (hf : FRm I R σ σ') (h12 : 12 ∉ I) (h28 : 28 ∉ I) (h29 : 29 ∉ I) (h30 : 30 ∉ I) (h14 : 14 ∉ R) : MM A σ' := by
  unfold MM at h ⊢
  rw [hf.1 12 h12, hf.1 28 h28, hf.1 29 h29, hf.1 30 h30, hf.2.1 14 h14]; exact h
theorem subO_iff {s u : Nat} : s &&& u = s ↔ subO s u := by
  constructor
  · intro e p hp
    rw [← e, Nat.testBit_and] at hp
    simp only [Bool.and_eq_true] at hp; exact hp.2
  · intro h
    apply Nat.eq_of_testBit_eq; intro i
    rw [Nat.testBit_and]
    cases hs : s.testBit i
    · rfl
    · rw [h i hs]; rfl
theorem subO_le {s u : Nat} (h : subO s u) : s ≤ u := by rw [← subO_iff.mpr h]; exact Nat.and_le_right
theorem subO_cl {s u p : Nat} (h : subO s u) : subO (qs_cl s p) u := fun q hq => by
  rw [qs_cl_bit] at hq
  simp only [Bool.and_eq_true] at hq
  exact h q hq.1
theorem lowO_lt {s : Nat} (hs : s < 2 ^ 12) (h0 : s ≠ 0) : lowO s < 12 := by
  apply Classical.byContradiction
  intro hc
  have hle := fa_first_le s.testBit 12
  have he : fa_first s.testBit 12 = 12 := by unfold lowO at hc; omega
  apply h0
  apply Nat.eq_of_testBit_eq; intro i; rw [Nat.zero_testBit]
  rcases Nat.lt_or_ge i 12 with z | z
  · exact fa_first_no s.testBit 12 i (by omega)
  · exact qs_hi hs z
theorem kpO_cl {P : Nat → Nat → Nat} {m s t n p : Nat} (hb : s.testBit p = true) : kpO P m s t n = kpO P m (qs_cl s p) t n &&& kpO P m (2 ^ p) t n := by
  apply Nat.eq_of_testBit_eq; intro k
  apply Bool.eq_iff_iff.mpr
  rw [Nat.testBit_and, Bool.and_eq_true, kpO_bit, kpO_bit, kpO_bit]
  constructor
  · rintro ⟨h1, h2⟩
    refine ⟨⟨h1, fun j hj hs => h2 j hj ?_⟩, h1, fun j hj hs => h2 j hj ?_⟩
    · rw [qs_cl_bit] at hs; simp only [Bool.and_eq_true] at hs; exact hs.1
    · rw [Nat.testBit_two_pow] at hs
      have : p = j := by simpa using hs
      subst this; exact hb
  · rintro ⟨⟨h1, h2⟩, _, h3⟩
    refine ⟨h1, fun j hj hs => ?_⟩
    rcases Nat.decEq j p with z | z
    · exact h2 j hj (by rw [qs_cl_bit, hs]; simp [z])
    · subst z; exact h3 j hj (by rw [Nat.testBit_two_pow]; simp)
theorem qs_single {s p : Nat} (hb : s.testBit p = true) (h : qs_cl s p = 0) : s = 2 ^ p := by
  apply Nat.eq_of_testBit_eq; intro i
  rw [Nat.testBit_two_pow]
  have h1 : (qs_cl s p).testBit i = (0 : Nat).testBit i := congrArg (fun z => z.testBit i) h
  rw [qs_cl_bit, Nat.zero_testBit] at h1
  rcases Nat.decEq i p with z | z
  · have : s.testBit i = false := by simpa [z] using h1
    rw [this]; simp [show ¬ p = i from fun e => z e.symm]
  · subst z; rw [hb]; simp
theorem kpO_one {P : Nat → Nat → Nat} {m t n p : Nat} (hp : p < n) : kpO P m (2 ^ p) t n = dearO (P p) t m := by
  have h := kpO_step (P := P) (m := m) (t := t) (n := n) hp (Nat.two_pow_pos p)
  rw [Nat.add_zero, kpO_none] at h
  rw [h]
  apply Nat.eq_of_testBit_eq; intro k
  rw [Nat.testBit_and, qs_full]
  unfold dearO
  rw [qs_mk_bit]
  cases decide (k < m) <;> rfl
theorem qs_bit_le {s p : Nat} (hb : s.testBit p = true) : 2 ^ p ≤ s := Nat.ge_two_pow_of_testBit hb
section CoreM
variable {A : AH} {g : Nat → Nat → Nat} {σ : hsS} {P : Nat → Nat → Nat} {m : Nat}
theorem qm_low {post : Int32 → hsS → Prop} {z1 z2 z3 z4 : Int32} {s : Nat} (hs : s < 2 ^ 12) (h0 : s ≠ 0) (K : Int32 → hsS → Prop) (k : K (nI (lowO s)) σ) : ∃ n, wX8_coreOf_L63 z1 z2 z3 z4 (nI s) K post n 0 σ := by
  have hl := lowO_lt hs h0
  exact pk_loop (fun n j (_ : Unit) => wX8_coreOf_L63 z1 z2 z3 z4 (nI s) K post n (nI j) σ) (fun _ _ => True) (lowO s) 0 () (Nat.zero_le _) trivial
    (fun n _ _ => by
      rw [wX8_coreOf_L63]
      refine br_f ?_ k
      rw [qb_test0 (by omega) (by omega), lowO_on hl]; decide)
    (fun n j _ hj _ ih => by
      rw [wX8_coreOf_L63]
      refine br_t ?_ (nm_e ?_)
      · rw [qb_test0 (by omega) (by omega)]; exact fa_first_no s.testBit 12 j hj
      · rw [nI_1]; exact ih () trivial)
theorem qm_tail {S : hsS} {n j kv my : Nat} (hl : LK P m n S) (hj : j < 256) (hk : S.2.1 15 j = nI kv) (hkl : kv < 2 ^ 31) (hmy : S.2.1 14 j = nI my) (hml : my ≤ m) {A1 B1 : hsS → Prop} (f : m ≤ qs_sz kv + my → A1 S) (f2 : qs_sz kv + my < m → B1 S) : vp_in (nI j) 256 ∧ wX8_sizeOf (S.2.1 15 (nI j).toNatClampNeg) (fun r18 σ19 => vp_in (nI j) 256 ∧ ((((σ19.1 25) - (σ19.2.1 14 (nI j).toNatClampNeg)) ≤ r18 → A1 σ19) ∧ (¬ ((σ19.1 25) - (σ19.2.1 14 (nI j).toNatClampNeg)) ≤ r18 → B1 σ19))) S := by
  have hm10 := hl.2.1
  refine ⟨pk_in j 256 hj, ?_⟩
  rw [nI_clamp (by omega), hk]
  refine qm_sizeOf hkl ⟨pk_in j 256 hj, ?_⟩
  have hsz := qs_sz_le kv
  exact pk_le (m - my) (qs_sz kv) (fun c => f (by omega)) (fun c => f2 (by omega)) (by rw [lk_m hl, hmy, pk_sub hml]) rfl
/-- the core, of the people in u alone -/
def coM (P : Nat → Nat → Nat) (m n u : Nat) (may : Nat → Nat) : Nat := qs_mk (fun t => decide (∀ s, s < 2 ^ n → s &&& u = s → hitO P m n may t s = false)) m
theorem coM_all (P : Nat → Nat → Nat) (m n : Nat) (may : Nat → Nat) : coM P m n (2 ^ n - 1) may = coO P m n may := by
  unfold coM coO
  congr 1
  funext t
  apply decide_eq_decide.mpr
  constructor
  · intro h s hs; exact h s hs (by rw [Nat.and_two_pow_sub_one_eq_mod, Nat.mod_eq_of_lt hs])
  · intro h s hs _; exact h s hs
theorem qm_coreT {n : Nat} (hl : LK P m n σ) (hn : n ≤ 8) {u : Nat} (hu : u < 2 ^ n) {may : Nat → Nat} (hmay : ∀ s, s < 256 → subO s u → σ.2.1 14 s = nI (may s)) (hml : ∀ s, may s ≤ m) {post : Int32 → hsS → Prop} {z2 : Int32} {t : Nat} (ht : t < m) (hk0 : σ.2.1 15 0 = nI (2 ^ m - 1)) (K : Int32 → Int32 → hsS → Prop) (k : ∀ s2 v, FRm [] [15] σ s2 → (v = (0 : Int32) ↔ ¬ ∀ s, s < 2 ^ n → s &&& u = s → hitO P m n may t s = false) → ∀ z, K v z s2) : ∃ f, wX8_coreOf_L37 (nI u) z2 (nI t) K post f 1 1 σ := by
  have hm10 := hl.2.1
  have hp8 : 2 ^ n ≤ 2 ^ 8 := Nat.pow_le_pow_right (by decide) hn
  have hm9 : 2 ^ m ≤ 2 ^ 10 := Nat.pow_le_pow_right (by decide) hm10
  obtain ⟨hit, hhit⟩ : ∃ f, f = hitO P m n may t := ⟨_, rfl⟩
  rw [← hhit] at k
  obtain ⟨kp, hkp⟩ : ∃ f : Nat → Nat, f = fun q => kpO P m q t n := ⟨_, rfl⟩
  have hkl : ∀ q, kp q < 2 ^ m := fun q => by rw [hkp]; exact kpO_lt _ _ _ _ _
  refine pk_loop (fun f j (y : Int32 × hsS) => wX8_coreOf_L37 (nI u) z2 (nI t) K post f y.1 (nI j) y.2) (fun j y => 1 ≤ j ∧ FRm [] [15] σ y.2 ∧ (∀ q, q < j → subO q u → y.2.2.1 15 q = nI (kp q)) ∧ ((y.1 = 1 ∧ ∀ q, q < j → subO q u → hit q = false) ∨ (y.1 = 0 ∧ ∃ q, q < 2 ^ n ∧ q &&& u = q ∧ hit q = true))) (u + 1) 1 (1, σ) (by omega) ⟨Nat.le_refl _, FRm.rf, fun q hq _ => ?_, Or.inl ⟨rfl, fun q hq _ => ?_⟩⟩ ?_ ?_
  · have : q = 0 := by omega
    subst this; rw [hk0, hkp]; exact congrArg nI (kpO_none _ _ _ _).symm
  · have : q = 0 := by omega
    subst this; rw [hhit]; exact hitO_0 _ _ _ _ _
  · rintro f ⟨y, s⟩ ⟨e0, e1, e2, e3⟩
    dsimp only at e1 e2 e3 ⊢
    rw [wX8_coreOf_L37]
    refine br_t (nI_lt (by omega) (by omega)) ?_
    rcases e3 with ⟨h1, h2⟩ | ⟨h1, q, h2, h3, h4⟩
    · refine k s y e1 ⟨fun e => ?_, fun e => ?_⟩ _
      · rw [h1] at e; exact absurd e (by decide)
      · exact absurd (fun q hq hqu => h2 q (by have := subO_le (subO_iff.mp hqu); omega) (subO_iff.mp hqu)) e
    · refine k s y e1 ⟨fun _ e => ?_, fun _ => h1⟩ _
      rw [e q h2 h3] at h4; exact absurd h4 (by decide)
  · rintro f j ⟨y, s⟩ hj ⟨e0, e1, e2, e3⟩ ih
    dsimp only at e1 e2 e3 ⊢
    rw [wX8_coreOf_L37]
    refine br_f (nI_nlt (by omega) (by omega)) ?_
    rcases e3 with ⟨h1, h2⟩ | ⟨h1, q, h2, h3, h4⟩
    · refine br_f (by rw [h1]; decide) (qm_sub (by omega) (fun c => ?_) (fun c => ?_))
      · refine qm_low (by omega) (by omega) _ ?_
        have hlo := lowO_lt (s := j) (by omega) (by omega)
        have hon := lowO_on hlo
        have hpn : lowO j < n := by
          rcases Nat.lt_or_ge (lowO j) n with z | z
          · exact z
          · rw [qs_hi (subO_lt c hu) z] at hon; exact absurd hon (by decide)
        have hcl := qs_cl_le j (lowO j)
        have fin : ∀ S : hsS, FRm [] [15] σ S → (∀ q, q < j + 1 → subO q u → S.2.1 15 q = nI (kp q)) → ∀ (v : Int32), (v = 0 ∧ hit j = true) ∨ (v = 1 ∧ hit j = false) → ∀ v21 : Int32, v21 = nI j + (1 : Int32) → wX8_coreOf_L37 (nI u) z2 (nI t) K post f v v21 S := fun S g1 g2 v hv => by
          refine nm_e ?_
          rw [nI_1]
          refine ih (v, S) ⟨by omega, g1, g2, ?_⟩
          rcases hv with ⟨hv, hh⟩ | ⟨hv, hh⟩
          · exact Or.inr ⟨hv, j, by omega, subO_iff.mpr c, hh⟩
          · refine Or.inl ⟨hv, fun q hq hqs => ?_⟩
            rcases Nat.lt_or_ge q j with z | z
            · exact h2 q z hqs
            · have : q = j := by omega
              subst this; exact hh
        have hit_t : m ≤ qs_sz (kp j) + may j → hit j = true := fun z => by rw [hhit]; exact hitO_t (by omega) (by rw [hkp] at z; exact z)
        have hit_f : qs_sz (kp j) + may j < m → hit j = false := fun z => by rw [hhit]; exact hitO_f (by rw [hkp] at z; exact z)
        have upd3 : ∀ S : hsS, S = hsA s 15 (upd (s.2.1 15) (nI j).toNatClampNeg (nI (kp j))) → FRm [] [15] σ S ∧ (∀ q, q < j + 1 → subO q u → S.2.1 15 q = nI (kp q)) ∧ S.2.1 15 j = nI (kp j) := fun S hS => by
          refine ⟨by rw [hS]; exact e1.trans (FRm.arr _ (by decide)), fun q hq hqs => ?_, ?_⟩
          · rw [hS, hsA_at, nI_clamp (by omega)]
            rcases Nat.decEq q j with z | z
            · rw [pk_un z]; exact e2 q (by omega) hqs
            · subst z; exact pk_us
          · rw [hS, hsA_at, nI_clamp (by omega)]; exact pk_us
        have hkj := hkl j
        refine nm_r (qb_cl j (by omega)) (pk_eq (qs_cl j (lowO j)) 0 (fun c1 => ?_) (fun c1 => ?_) rfl rfl (by omega))
        · have hkj2 : kp j = dearO (P (lowO j)) t m := by
            rw [hkp]; dsimp only; conv => lhs; rw [qs_single hon c1]
            exact kpO_one hpn
          refine qm_better (hl.fr e1 (by decide) (by decide)) hpn ht ⟨pk_in j 256 (by omega), ?_⟩
          rw [← hkj2]
          intro S hS
          obtain ⟨g1, g2, g3⟩ := upd3 S hS
          exact qm_tail (hl.fr g1 (by decide) (by decide)) (by omega) g3 (by omega) (by rw [g1.2.1 14 (by decide)]; exact hmay j (by omega) c) (hml j) (fun z => fin S g1 g2 _ (Or.inl ⟨rfl, hit_t z⟩)) (fun z => fin S g1 g2 _ (Or.inr ⟨rfl, hit_f z⟩))
        · have hb1 := qs_bit_le hon
          have hne : j ≠ 2 ^ lowO j := fun e => c1 (by
            apply Nat.eq_of_testBit_eq; intro i
            rw [qs_cl_bit, Nat.zero_testBit]
            conv => lhs; lhs; rw [e]
            rw [Nat.testBit_two_pow]
            rcases Nat.decEq i (lowO j) with z | z
            · simp [show ¬ lowO j = i from fun q => z q.symm]
            · simp [z])
          have hcl1 : qs_cl j (lowO j) < j := by
            rcases Nat.lt_or_ge (qs_cl j (lowO j)) j with z | z
            · exact z
            · have e : qs_cl j (lowO j) = j := by omega
              have h9 := qs_cl_bit j (lowO j) (lowO j)
              rw [e, hon] at h9; simp at h9
          have hkj2 : kp j = kp (qs_cl j (lowO j)) &&& kp (2 ^ lowO j) := by rw [hkp]; exact kpO_cl hon
          have hs2 : subO (2 ^ lowO j) u := fun q hq => by
            rw [Nat.testBit_two_pow] at hq
            have : lowO j = q := by simpa using hq
            rw [← this]; exact c _ hon
          rw [qb_one _ (by omega)]
          refine ⟨pk_in (qs_cl j (lowO j)) 256 (by omega), pk_in (2 ^ lowO j) 256 (by omega), pk_in j 256 (by omega), ?_⟩
          rw [nI_clamp (n := qs_cl j (lowO j)) (by omega), nI_clamp (n := 2 ^ lowO j) (by omega), e2 _ hcl1 (subO_cl c), e2 _ (by omega) hs2, fa_and, ← hkj2]
          intro S hS
          obtain ⟨g1, g2, g3⟩ := upd3 S hS
          exact qm_tail (hl.fr g1 (by decide) (by decide)) (by omega) g3 (by omega) (by rw [g1.2.1 14 (by decide)]; exact hmay j (by omega) c) (hml j) (fun z => fin S g1 g2 _ (Or.inl ⟨rfl, hit_t z⟩)) (fun z => fin S g1 g2 _ (Or.inr ⟨rfl, hit_f z⟩))
      · refine nm_e ?_
        rw [nI_1]
        refine ih (y, s) ⟨by omega, e1, fun q hq hqs => ?_, Or.inl ⟨h1, fun q hq hqs => ?_⟩⟩
        · rcases Nat.decEq q j with z | z
          · exact e2 q (by omega) hqs
          · subst z; exact absurd hqs c
        · rcases Nat.decEq q j with z | z
          · exact h2 q (by omega) hqs
          · subst z; exact absurd hqs c
    · refine br_t h1 (k s y e1 ⟨fun _ e => ?_, fun _ => h1⟩ _)
      rw [e q h2 h3] at h4; exact absurd h4 (by decide)
theorem qm_coreOf (ha : AW A) (h : MH A g σ) (hM : MM A σ) (hl : LK P m (aN A) σ) (hm : 1 ≤ m) {post : Int32 → hsS → Prop} {u : Nat} (hu : u < 2 ^ aN A) (k : ∀ σ', FRm [28, 29, 30] [14, 15] σ σ' → σ'.1 28 = σ.1 12 → MM A σ' → post (nI (coM P m (aN A) u (aMay A m (aWt A u (aN A))))) σ') : wX8_coreOf (nI u) post σ := by
  have hn := aw_n ha; have hm10 := hl.2.1
  refine qm_tellMays ha h hM hl hm hu (fun s1 f1 f2 f3 f4 => ?_)
  have hl1 : LK P m (aN A) s1 := hl.fr f1 (by decide) (by decide)
  have L : ∀ K : Int32 → Int32 → hsS → Prop, (∀ s2, FRm [] [15] s1 s2 → ∀ z, K (nI (coM P m (aN A) u (aMay A m (aWt A u (aN A))))) z s2) → ∃ f, wX8_coreOf_L9 (nI u) K post f 0 0 s1 := fun K kk =>
    pk_loop (fun f j (y : Int32 × hsS) => wX8_coreOf_L9 (nI u) K post f y.1 (nI j) y.2) (fun j y => y.1 = nI (qs_mk (fun t => decide (∀ s, s < 2 ^ aN A → s &&& u = s → hitO P m (aN A) (aMay A m (aWt A u (aN A))) t s = false)) j) ∧ FRm [] [15] s1 y.2) m 0 (0, s1) (Nat.zero_le _) ⟨rfl, FRm.rf⟩
      (fun f y e => by
        obtain ⟨e1, e2⟩ := e
        rw [wX8_coreOf_L9]
        refine br_t (by rw [lk_m (hl1.fr e2 (by decide) (by decide))]; exact nI_le (Nat.le_refl _) (by omega)) ?_
        rw [e1]; exact kk _ e2 _)
      (fun f j y hj e ih => by
        obtain ⟨y, s⟩ := y
        obtain ⟨e1, e2⟩ := e
        dsimp only at e1 e2 ⊢
        rw [wX8_coreOf_L9]
        have hls := hl1.fr e2 (by decide) (by decide)
        refine br_f (by rw [lk_m hls]; exact nI_ge hj (by omega)) (fun S hS => ?_)
        have hF : FRm [] [15] s1 S := by rw [hS]; exact e2.trans (FRm.arr _ (by decide))
        refine qm_coreT (hl1.fr hF (by decide) (by decide)) hn hu (may := aMay A m (aWt A u (aN A))) (fun q hq hqs => by rw [hF.2.1 14 (by decide)]; exact f4 q hq hqs) (fun q => by have := aMay_le (A := A) (m := m) (aw := aWt A u (aN A)) (s := q); omega) hj ?_ _ (fun s2 v g1 g2 z => ?_)
        · rw [hS, hsA_at, cl0, pk_us, lk_m hls, qb_all (by omega)]
        · refine ek_if g2 (fun c => ?_) (fun c => ?_)
          · refine nm_e (nm_e ?_)
            rw [nI_1]
            refine ih (_, s2) ⟨?_, hF.trans g1⟩
            dsimp only
            rw [qs_mk_succ, if_neg (by simpa using c), e1, ← nI_0, fa_or, Nat.or_zero]
          · refine nm_e (nm_e ?_)
            rw [nI_1]
            refine ih (_, s2) ⟨?_, hF.trans g1⟩
            dsimp only
            rw [qs_mk_succ, if_pos (by simpa using c), e1, qb_one j (by omega), fa_or])
  refine L _ (fun s2 g1 z => k s2 ((f1.weak (by simp) (by simp)).trans (g1.weak (by simp) (by simp))) ?_ ?_)
  · rw [g1.1 28 (by decide)]; exact f2
  · exact f3.fr g1 (by decide) (by decide) (by decide) (by decide) (by decide)
end CoreM
