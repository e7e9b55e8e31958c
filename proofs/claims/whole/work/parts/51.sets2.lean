/-! ===== the core, in the class ===== -/
section SetY
variable {b b0 : Nat} {A : AH} {σ : hsS}
theorem qx_strikerOf1_c (ha : AWc A) (h : HX b A σ) (hb : b + 4 < b0) {may : Nat → Nat} (hmay : ∀ q, q < 2 ^ aN A → σ.2.1 (b0 + 1) q = nI (may q) ∧ may q + 1 ≤ aM A) {post : Int32 → hsS → Prop} {t : Nat} (ht : t < aM A) (k : ∀ σ' r, FRm [] [b0 + 2] σ σ' → (r = (0 : Int32) ↔ ∀ q, q < 2 ^ aN A → hitO (aP A) (aM A) (aN A) may t q = false) → post r σ') : wX4_strikerOf b0 b (nI t) 1 post σ := by
  have hn := awc_n ha; have hm := awc_m ha
  have hp8 : 2 ^ aN A ≤ 2 ^ 8 := Nat.pow_le_pow_right (by decide) hn
  have hm9 : 2 ^ aM A ≤ 2 ^ 9 := Nat.pow_le_pow_right (by decide) hm.2
  obtain ⟨hit, hhit⟩ : ∃ f, f = hitO (aP A) (aM A) (aN A) may t := ⟨_, rfl⟩
  obtain ⟨kp, hkp⟩ : ∃ f : Nat → Nat, f = fun q => kpO (aP A) (aM A) q t (aN A) := ⟨_, rfl⟩
  have hkl : ∀ q, kp q < 2 ^ aM A := fun q => by rw [hkp]; exact kpO_lt _ _ _ _ _
  have hks : ∀ w o, w < aN A → o < 2 ^ w → kp (2 ^ w + o) = kp o &&& dearO (aP A w) t (aM A) := fun w o h1 h2 => by rw [hkp]; exact kpO_step h1 h2
  rw [← hhit] at k
  have hin : ∀ (w : Nat), w < aN A → ∀ (K1 K2 : Int32 → Int32 → hsS → Prop) (s1 : hsS), FRm [] [b0 + 2] σ s1 → (∀ q, q < 2 ^ w → s1.2.1 (b0 + 2) q = nI (kp q) ∧ hit q = false) → (∀ s2 q, FRm [] [b0 + 2] σ s2 → q < 2 ^ aN A → hit q = true → ∀ z, K1 (nI q) z s2) → (∀ s2, FRm [] [b0 + 2] σ s2 → (∀ q, q < 2 ^ (w + 1) → s2.2.1 (b0 + 2) q = nI (kp q) ∧ hit q = false) → ∀ z, K2 0 z s2) → ∃ n, wX4_strikerOf_L50 b0 b (nI t) 1 (nI (2 ^ w)) (nI w) (nI (dearO (aP A w) t (aM A))) K1 K2 post n 0 0 s1 := fun w hw K1 K2 s1 f1 f2 k1 kk => by
    have hw1 : 2 ^ (w + 1) = 2 ^ w + 2 ^ w := by rw [Nat.pow_succ]; omega
    have hw2 : 2 ^ (w + 1) ≤ 2 ^ aN A := Nat.pow_le_pow_right (by decide) hw
    exact pk_loop (fun n j (s : hsS) => wX4_strikerOf_L50 b0 b (nI t) 1 (nI (2 ^ w)) (nI w) (nI (dearO (aP A w) t (aM A))) K1 K2 post n 0 (nI j) s) (fun j s => FRm [] [b0 + 2] σ s ∧ ∀ q, q < 2 ^ w + j → s.2.1 (b0 + 2) q = nI (kp q) ∧ hit q = false) (2 ^ w) 0 s1 (Nat.zero_le _) ⟨f1, f2⟩
      (fun n s e => by
        obtain ⟨e2, e3⟩ := e
        rw [wX4_strikerOf_L50]
        rw [← hw1] at e3
        exact br_t (nI_le (Nat.le_refl _) (by omega)) (kk s e2 e3 _))
      (fun n j s hj e ih => by
        obtain ⟨e2, e3⟩ := e
        rw [wX4_strikerOf_L50]
        refine br_f (nI_ge hj (by omega)) (nm_r (nI_add _ _) ⟨pk_in j 256 (by omega), pk_in (2 ^ w + j) 256 (by omega), fun S hSe => ⟨pk_in (2 ^ w + j) 256 (by omega), ?_⟩⟩)
        have hF : FRm [] [b0 + 2] σ S := by rw [hSe]; exact e2.trans (FRm.arr _ (by simp))
        have h4 : S.2.1 (b0 + 2) (2 ^ w + j) = nI (kp (2 ^ w + j)) := by
          rw [hSe, hsA_at, nI_clamp (by omega), nI_clamp (by omega), pk_us, (e3 j (by omega)).1, fa_and, hks w j hw hj]
        have h3 : ∀ q, q < 2 ^ w + j → S.2.1 (b0 + 2) q = nI (kp q) := by
          intro q hq
          rw [hSe, hsA_at, nI_clamp (by omega), pk_un (by omega)]; exact (e3 q (by omega)).1
        have hl := hkl (2 ^ w + j); have hsz := qs_sz_le (kp (2 ^ w + j))
        have hmq := hmay (2 ^ w + j) (by omega)
        rw [nI_clamp (by omega), h4]
        refine qx_bitCount (by omega) ⟨pk_in (2 ^ w + j) 256 (by omega), ?_⟩
        refine pk_lt (qs_sz (kp (2 ^ w + j))) (aM A - may (2 ^ w + j)) (fun c => ?_) (fun c => ?_) rfl (by rw [hx_m (h.frA hF (by omega)), hF.2.1 (b0 + 1) (by simp), hmq.1, pk_sub (by omega)])
        · refine nm_e ?_
          rw [nI_1]
          have hf : hit (2 ^ w + j) = false := by rw [hhit]; exact hitO_f (by rw [hkp] at c; dsimp only at c; omega)
          refine ih S ⟨hF, fun q hq => ?_⟩
          rcases Nat.lt_or_ge q (2 ^ w + j) with z | z
          · exact ⟨h3 q z, (e3 q z).2⟩
          · have : q = 2 ^ w + j := by omega
            subst this; exact ⟨h4, hf⟩
        · have hf : hit (2 ^ w + j) = true := by rw [hhit]; exact hitO_t (by have := Nat.two_pow_pos w; omega) (by rw [hkp] at c; dsimp only at c; omega)
          exact br_t rfl (br_f (by decide) (k1 S _ hF (by omega) hf _)))
  have L : ∀ (K1 K2 : Int32 → Int32 → Int32 → hsS → Prop) (s1 : hsS), FRm [] [b0 + 2] σ s1 → s1.2.1 (b0 + 2) 0 = nI (kp 0) → (∀ s2 q, FRm [] [b0 + 2] σ s2 → q < 2 ^ aN A → hit q = true → ∀ z1 z2, K1 (nI q) z1 z2 s2) → (∀ s2, FRm [] [b0 + 2] σ s2 → (∀ q, q < 2 ^ aN A → hit q = false) → ∀ z1 z2, K2 0 z1 z2 s2) → ∃ n, wX4_strikerOf_L19 b0 b (nI t) 1 K1 K2 post n 0 1 0 s1 := fun K1 K2 s1 f1 f2 k1 kk =>
    pk_loop (fun n j (y : Int32 × hsS) => wX4_strikerOf_L19 b0 b (nI t) 1 K1 K2 post n 0 y.1 (nI j) y.2) (fun j y => y.1 = nI (2 ^ j) ∧ FRm [] [b0 + 2] σ y.2 ∧ ∀ q, q < 2 ^ j → y.2.2.1 (b0 + 2) q = nI (kp q) ∧ hit q = false) (aN A) 0 (1, s1) (Nat.zero_le _) ⟨rfl, f1, fun q hq => by
        have : q = 0 := by rw [Nat.pow_zero] at hq; omega
        subst this; exact ⟨f2, by rw [hhit]; exact hitO_0 _ _ _ _ _⟩⟩
      (fun n y e => by
        obtain ⟨e2, e3, e4⟩ := e
        rw [wX4_strikerOf_L19]
        exact br_t (by rw [hx_n (h.frA e3 (by omega))]; exact nI_le (Nat.le_refl _) (by omega)) (kk _ e3 (fun q hq => (e4 q hq).2) _ _))
      (fun n j y hj e ih => by
        obtain ⟨z, s⟩ := y
        obtain ⟨e2, e3, e4⟩ := e
        dsimp only at e2 e3 e4 ⊢
        rw [wX4_strikerOf_L19]
        have hS := h.frA e3 (by omega : b + 4 < b0 + 2)
        have hj7 : 2 ^ j ≤ 2 ^ 7 := Nat.pow_le_pow_right (by decide) (by omega)
        have hw1 : 2 ^ (j + 1) = 2 ^ j + 2 ^ j := by rw [Nat.pow_succ]; omega
        refine br_f (by rw [hx_n hS]; exact nI_ge hj (by omega)) (br_f (by rw [e2]; exact nI_ge (b := 256) (by omega) (by decide)) (qx_dearerThan_c ha hS hj ht ?_))
        rw [e2]
        refine hin j hj _ _ s e3 e4 (fun s2 q g1 g2 g3 z => k1 s2 q g1 g2 g3 _ _) (fun s2 g1 g2 z => nm_e (nm_e ?_))
        rw [nI_add, nI_1, ← hw1]
        exact ih (_, s2) ⟨rfl, g1, g2⟩)
  refine qx_allThings_c ha h (fun S hSe => ?_)
  refine L _ _ S (by rw [hSe]; exact FRm.arr _ (by simp)) ?_ (fun s2 q g1 g2 g3 _ _ => k s2 _ g1 ?_) (fun s2 g1 g2 _ _ => k s2 _ g1 ⟨fun _ => g2, fun _ => rfl⟩)
  · rw [hSe, hsA_at, cl0, pk_us, hkp]; exact congrArg nI (kpO_none _ _ _ _).symm
  · have hq0 : q ≠ 0 := fun e => by rw [e, hhit, hitO_0] at g3; exact absurd g3 (by decide)
    exact ⟨fun e => absurd e (nI_ne0 (by omega) (by omega)), fun e => by rw [e q g2] at g3; exact absurd g3 (by decide)⟩
theorem qx_strikerOf1 (ha : AW A) (h : HX b A σ) (hb : b + 4 < b0) {may : Nat → Nat} (hmay : ∀ q, q < 2 ^ aN A → σ.2.1 (b0 + 1) q = nI (may q) ∧ may q + 1 ≤ aM A) {post : Int32 → hsS → Prop} {t : Nat} (ht : t < aM A) (k : ∀ σ' r, FRm [] [b0 + 2] σ σ' → (r = (0 : Int32) ↔ ∀ q, q < 2 ^ aN A → hitO (aP A) (aM A) (aN A) may t q = false) → post r σ') : wX4_strikerOf b0 b (nI t) 1 post σ := qx_strikerOf1_c (awc_of ha) h hb hmay ht k
/-- the core -/
def coO (P : Nat → Nat → Nat) (m n : Nat) (may : Nat → Nat) : Nat := qs_mk (fun t => decide (∀ s, s < 2 ^ n → hitO P m n may t s = false)) m
theorem coO_lt (P : Nat → Nat → Nat) (m n : Nat) (may : Nat → Nat) : coO P m n may < 2 ^ m := qs_mk_lt _ _
theorem qx_coreAsWeighed_c (ha : AWc A) (h : HX b A σ) (hb : b + 4 < b0) {may : Nat → Nat} (hmay : ∀ q, q < 2 ^ aN A → σ.2.1 (b0 + 1) q = nI (may q) ∧ may q + 1 ≤ aM A) {post : Int32 → hsS → Prop} (k : ∀ σ', FRm [] [b0 + 2] σ σ' → post (nI (coO (aP A) (aM A) (aN A) may)) σ') : wX4_coreAsWeighed b0 b post σ := by
  have hn := awc_n ha; have hm := awc_m ha
  have L : ∀ (K : Int32 → Int32 → hsS → Prop), (∀ s2, FRm [] [b0 + 2] σ s2 → ∀ z, K (nI (coO (aP A) (aM A) (aN A) may)) z s2) → ∃ n, wX4_coreAsWeighed_L4 b0 b K post n 0 0 σ := fun K kk =>
    pk_loop (fun n j (y : Int32 × hsS) => wX4_coreAsWeighed_L4 b0 b K post n y.1 (nI j) y.2) (fun j y => y.1 = nI (qs_mk (fun t => decide (∀ s, s < 2 ^ aN A → hitO (aP A) (aM A) (aN A) may t s = false)) j) ∧ FRm [] [b0 + 2] σ y.2) (aM A) 0 (0, σ) (Nat.zero_le _) ⟨rfl, FRm.rf⟩
      (fun n y e => by
        obtain ⟨e1, e2⟩ := e
        rw [wX4_coreAsWeighed_L4]
        refine br_t (by rw [hx_m (h.frA e2 (by omega))]; exact nI_le (Nat.le_refl _) (by omega)) ?_
        rw [e1]; exact kk _ e2 _)
      (fun n j y hj e ih => by
        obtain ⟨y, s⟩ := y
        obtain ⟨e1, e2⟩ := e
        dsimp only at e1 e2 ⊢
        rw [wX4_coreAsWeighed_L4]
        have hS := h.frA e2 (by omega : b + 4 < b0 + 2)
        refine br_f (by rw [hx_m hS]; exact nI_ge hj (by omega)) (qx_strikerOf1_c ha hS hb (may := may) (fun q hq => by rw [e2.2.1 (b0 + 1) (by simp)]; exact hmay q hq) hj (fun S r g1 g2 => ?_))
        refine ek_if g2 (fun c => ?_) (fun c => ?_)
        · refine nm_e (nm_e ?_)
          rw [nI_1]
          refine ih (_, S) ⟨?_, e2.trans g1⟩
          dsimp only
          rw [qs_mk_succ, if_pos (by simpa using c), e1, qb_one j (by omega), fa_or]
        · refine nm_e ?_
          rw [nI_1]
          refine ih (_, S) ⟨?_, e2.trans g1⟩
          dsimp only
          rw [qs_mk_succ, if_neg (by simpa using c)]; exact e1)
  exact L _ (fun s2 g1 _ => k s2 g1)
theorem qx_coreAsWeighed (ha : AW A) (h : HX b A σ) (hb : b + 4 < b0) {may : Nat → Nat} (hmay : ∀ q, q < 2 ^ aN A → σ.2.1 (b0 + 1) q = nI (may q) ∧ may q + 1 ≤ aM A) {post : Int32 → hsS → Prop} (k : ∀ σ', FRm [] [b0 + 2] σ σ' → post (nI (coO (aP A) (aM A) (aN A) may)) σ') : wX4_coreAsWeighed b0 b post σ := qx_coreAsWeighed_c (awc_of ha) h hb hmay k
/-- the core of the hall itself -/
def coA (A : AH) : Nat := coO (aP A) (aM A) (aN A) (aMay A (aM A) (aAW A))
theorem qx_coreOf_c (ha : AWc A) (h : HX b A σ) (hb : b + 4 < b0) {post : Int32 → hsS → Prop} (k : ∀ σ', FRm [] [b0 + 1, b0 + 2] σ σ' → post (nI (coA A)) σ') : wX4_coreOf b0 b post σ := by
  have hm := awc_m ha
  refine qx_weigh_c ha h hb (fun S h1 h2 => ?_)
  refine qx_coreAsWeighed_c ha (h.frA h1 (by omega)) hb (may := aMay A (aM A) (aAW A)) (fun q hq => ⟨h2 q hq, ?_⟩) (fun S2 h3 => k S2 ?_)
  · have := aMay_le (A := A) (m := aM A) (aw := aAW A) (s := q); omega
  · exact (h1.weak (by simp) (by simp)).trans (h3.weak (by simp) (by simp))
theorem qx_coreOf (ha : AW A) (h : HX b A σ) (hb : b + 4 < b0) {post : Int32 → hsS → Prop} (k : ∀ σ', FRm [] [b0 + 1, b0 + 2] σ σ' → post (nI (coA A)) σ') : wX4_coreOf b0 b post σ := qx_coreOf_c (awc_of ha) h hb k
end SetY
