/-! ===== ties: the reference ===== -/
def cgO (gr : Nat → Nat) (m x : Nat) : Nat := fb_ct (fun t => decide (gr t < x)) m
def gcO (gr : Nat → Nat) (m x : Nat) : Nat := fb_ct (fun t => decide (gr t = x)) m
section Cg
variable {gr : Nat → Nat} {m : Nat}
theorem cg_succ (x : Nat) : cgO gr m (x + 1) = cgO gr m x + gcO gr m x := by
  have h1 : fb_ct (fun t => decide (gr t < x) || decide (gr t = x)) m = cgO gr m x + gcO gr m x := fb_ct_or (fun k hk hb => by simp at hb; omega)
  rw [← h1]
  exact fb_ct_cong (fun k hk => by rw [← Bool.decide_or]; apply decide_eq_decide.mpr; omega)
theorem cg_mono {x y : Nat} (h : x ≤ y) : cgO gr m x ≤ cgO gr m y := fb_ct_sub (fun k hk hb => by simp at hb ⊢; omega)
theorem gc_pos {t : Nat} (ht : t < m) : 0 < gcO gr m (gr t) := fb_ct_pos.mpr ⟨t, ht, by simp⟩
theorem cg_0 : cgO gr m 0 = 0 := fb_ct_zero.mpr (fun k hk => by simp)
theorem cg_all {x : Nat} (h : ∀ t, t < m → gr t < x) : cgO gr m x = m := fb_ct_all.mpr (fun k hk => by simp; exact h k hk)
variable {f : Nat → Nat} (hf : ∀ t, t < m → f t = cgO gr m (gr t))
theorem cg_lt (hf : ∀ t, t < m → f t = cgO gr m (gr t)) {t x : Nat} (ht : t < m) (h : gr t < x) : f t < cgO gr m x := by
  have h1 := cg_mono (gr := gr) (m := m) (show gr t + 1 ≤ x from h)
  rw [cg_succ] at h1
  have h2 := gc_pos (gr := gr) ht
  rw [hf t ht]; omega
theorem cg_ge (hf : ∀ t, t < m → f t = cgO gr m (gr t)) {t x : Nat} (ht : t < m) (h : x < gr t) : cgO gr m x + gcO gr m x ≤ f t := by
  rw [← cg_succ, hf t ht]; exact cg_mono h
theorem cg_iff (hf : ∀ t, t < m → f t = cgO gr m (gr t)) {t x : Nat} (ht : t < m) (hx : 0 < gcO gr m x) : f t = cgO gr m x ↔ gr t = x := by
  constructor
  · intro e
    rcases Nat.lt_trichotomy (gr t) x with z | z | z
    · have := cg_lt hf ht z; omega
    · exact z
    · have := cg_ge hf ht z; omega
  · intro e; rw [hf t ht, e]
theorem cg_gs (hf : ∀ t, t < m → f t = cgO gr m (gr t)) {x : Nat} (hx : 0 < gcO gr m x) : gsO f m (cgO gr m x) = gcO gr m x := fb_ct_cong (fun t ht => decide_eq_decide.mpr (cg_iff hf ht hx))
theorem prO_gap {F : Nat → Nat} {a : Nat} : ∀ s, (∀ q, a < q → q < a + (s + 1) → F q = 1) → prO F (a + (s + 1)) = prO F a * F a
  | 0, _ => rfl
  | s + 1, h => by
    show prO F (a + (s + 1)) * F (a + (s + 1)) = _
    rw [prO_gap s (fun q h1 h2 => h q h1 (by omega)), h (a + (s + 1)) (by omega) (by omega), Nat.mul_one]
theorem cg_pr (hf : ∀ t, t < m → f t = cgO gr m (gr t)) (x : Nat) : prO (fun q => faO (gsO f m q)) (cgO gr m (x + 1)) = prO (fun q => faO (gsO f m q)) (cgO gr m x) * faO (gcO gr m x) := by
  rw [cg_succ]
  rcases Nat.eq_zero_or_pos (gcO gr m x) with z | z
  · rw [z]; exact (Nat.mul_one _).symm
  · obtain ⟨s, hs⟩ : ∃ s, gcO gr m x = s + 1 := ⟨gcO gr m x - 1, by omega⟩
    rw [hs, prO_gap s (fun q h1 h2 => ?_), ← hs]
    · show _ * faO (gsO f m (cgO gr m x)) = _
      rw [cg_gs hf z]
    · have : gsO f m q = 0 := fb_ct_zero.mpr (fun t ht => by
        simp
        intro e
        rcases Nat.lt_trichotomy (gr t) x with y | y | y
        · have := cg_lt hf ht y; omega
        · have := hf t ht; rw [y] at this; omega
        · have := cg_ge hf ht y; omega)
      rw [this]; rfl
end Cg
theorem lm_mod : ∀ (k : Nat) (ms : List Nat) (c : Nat), lmO k ms (c % faO k) = lmO k ms c
  | 0, _, _ => rfl
  | k + 1, ms, c => by
    show ms.getD (c % ((k + 1) * faO k) % (k + 1)) 0 :: lmO k (ms.eraseIdx (c % ((k + 1) * faO k) % (k + 1))) (c % ((k + 1) * faO k) / (k + 1)) = ms.getD (c % (k + 1)) 0 :: lmO k (ms.eraseIdx (c % (k + 1))) (c / (k + 1))
    rw [Nat.mod_mul_right_mod, Nat.mod_mul_right_div_self, lm_mod k]
theorem rkM_mod (s c j : Nat) : rkM s (c % faO s) j = rkM s c j := by unfold rkM; rw [lm_mod]
theorem er_getD (l : List Nat) (i j : Nat) : (l.eraseIdx i).getD j 0 = if j < i then l.getD j 0 else l.getD (j + 1) 0 := by
  rw [List.getD_eq_getElem?_getD, List.getElem?_eraseIdx]
  split
  · rw [List.getD_eq_getElem?_getD]
  · rw [List.getD_eq_getElem?_getD]
theorem rg_getD {s j : Nat} (h : j < s) : (List.range s).getD j 0 = j := by
  rw [List.getD_eq_getElem?_getD, List.getElem?_range h]; rfl
section TiM
variable {σ : hsS}
theorem qm_pick {z1 z2 z6 z7 : Int32} {post : hsS → Prop} {h : Nat → Nat} {B : Nat} (hB : B ≤ 70) (K : Int32 → Int32 → Int32 → hsS → Prop) : ∀ (n : Nat) (l : List Nat) (c nx : Nat) (s : hsS), n ≤ 9 → nx + n < 100 → c < 2 ^ 31 → (∀ a, a < n → h (l.getD a 0) < 10) → (∀ a b, a < n → b < n → h (l.getD a 0) = h (l.getD b 0) → a = b) → (∀ j, j < n → s.2.1 26 j = nI (h (l.getD j 0))) → FRm [] [13, 26] σ s → (∀ s', FRm [] [13, 26] σ s' → (∀ a, a < n → s'.2.1 13 (B + h (l.getD a 0)) = nI (nx + (lmO n l c).idxOf (l.getD a 0))) → (∀ y, (∀ a, a < n → y ≠ B + h (l.getD a 0)) → s'.2.1 13 y = s.2.1 13 y) → ∀ w, K (nI (c / faO n)) (nI (nx + n)) w s') → wX8_lookOrder_L78 z1 z2 (nI B) z6 z7 K post (n + 1) (nI c) (nI nx) (nI n) s
  | 0, l, c, nx, s, hn, hnx, hc, hh, hi, hm, hF, k => by
    rw [wX8_lookOrder_L78]
    refine br_t (nI_le (Nat.le_refl 0) (by decide)) ?_
    have := k s hF (fun a ha => absurd ha (Nat.not_lt_zero _)) (fun _ _ => rfl) (nI 0)
    rw [show c / faO 0 = c from Nat.div_one c] at this; exact this
  | n + 1, l, c, nx, s, hn, hnx, hc, hh, hi, hm, hF, k => by
    have hi1 : c % (n + 1) < n + 1 := Nat.mod_lt _ (by omega)
    have hdl : c / (n + 1) ≤ c := Nat.div_le_self _ _
    have hhi := hh _ hi1
    rw [wX8_lookOrder_L78]
    refine br_f (nI_nle (by omega) (by omega)) ⟨nI_ne0 (by omega) (by omega), nm_r (e' := nI (c % (n + 1))) (pk_rem hc (by omega) (by omega)) ⟨nI_ne0 (by omega) (by omega), nm_r (e' := nI (c / (n + 1))) (pk_div hc (by omega) (by omega)) ⟨pk_in (c % (n + 1)) 10 (by omega), ?_⟩⟩⟩
    rw [nI_clamp (n := c % (n + 1)) (by omega), hm _ hi1, nI_add]
    refine ⟨pk_in (B + h (l.getD (c % (n + 1)) 0)) 80 (by omega), fun s16 e16 => nm_r (nI_1 nx) ?_⟩
    rw [nI_clamp (by omega)] at e16
    have a13 : s16.2.1 13 = upd (s.2.1 13) (B + h (l.getD (c % (n + 1)) 0)) (nI nx) := by rw [e16, hsA_at]
    have a26 : s16.2.1 26 = s.2.1 26 := by rw [e16, hsA_ne _ _ (by decide)]
    have f16 : FRm [] [13, 26] σ s16 := by rw [e16]; exact hF.trans (FRm.arr _ (by decide))
    have L : ∀ (z3 z5 : Int32) (K2 : Int32 → hsS → Prop), (∀ t, FRm [] [26] s16 t → (∀ q, q < n → t.2.1 26 q = nI (h ((l.eraseIdx (c % (n + 1))).getD q 0))) → ∀ z, K2 z t) → ∃ w, wX8_lookOrder_L118 z1 z2 z3 (nI B) z5 z6 z7 (nI (n + 1)) (nI (c % (n + 1))) K2 post w (nI (c % (n + 1))) s16 := fun z3 z5 K2 kk =>
      pk_loop (fun w j (t : hsS) => wX8_lookOrder_L118 z1 z2 z3 (nI B) z5 z6 z7 (nI (n + 1)) (nI (c % (n + 1))) K2 post w (nI j) t) (fun j t => c % (n + 1) ≤ j ∧ FRm [] [26] s16 t ∧ (∀ q, c % (n + 1) ≤ q → q < j → t.2.1 26 q = s.2.1 26 (q + 1)) ∧ ∀ q, (q < c % (n + 1) ∨ j ≤ q) → t.2.1 26 q = s.2.1 26 q) n (c % (n + 1)) s16 (by omega) ⟨Nat.le_refl _, FRm.rf, fun q h1 h2 => by omega, fun q _ => by rw [a26]⟩
        (fun w t d => by
          obtain ⟨d0, d1, d2, d3⟩ := d
          rw [wX8_lookOrder_L118, nI_pred]
          refine br_t (nI_le (Nat.le_refl _) (by omega)) (kk t d1 (fun q hq => ?_) _)
          rw [er_getD]
          rcases Nat.lt_or_ge q (c % (n + 1)) with y | y
          · rw [d3 q (Or.inl y), if_pos y, hm q (by omega)]
          · rw [d2 q y hq, if_neg (by omega), hm (q + 1) (by omega)])
        (fun w j t hj d ih => by
          obtain ⟨d0, d1, d2, d3⟩ := d
          rw [wX8_lookOrder_L118, nI_pred, nI_1]
          refine br_f (nI_ge hj (by omega)) ⟨pk_in (j + 1) 10 (by omega), pk_in j 10 (by omega), fun S hS => nm_e ?_⟩
          rw [nI_clamp (n := j) (by omega), nI_clamp (n := j + 1) (by omega), d3 (j + 1) (Or.inr (by omega))] at hS
          have hat : S.2.1 26 = upd (t.2.1 26) j (s.2.1 26 (j + 1)) := by rw [hS, hsA_at]
          refine ih S ⟨by omega, by rw [hS]; exact d1.trans (FRm.arr _ (by decide)), fun q h1 h2 => ?_, fun q hq => ?_⟩
          · rw [hat]
            rcases Nat.decEq q j with y | y
            · rw [pk_un y]; exact d2 q h1 (by omega)
            · rw [y, pk_us]
          · rw [hat, pk_un (by omega)]; exact d3 q (by omega))
    refine L _ _ _ (fun t f1 m1 _ => nm_r (pk_m1 n) ?_)
    have hidx : ∀ a, a < n → ∃ b, b < n + 1 ∧ b ≠ c % (n + 1) ∧ (l.eraseIdx (c % (n + 1))).getD a 0 = l.getD b 0 := fun a ha => by
      rw [er_getD]
      rcases Nat.lt_or_ge a (c % (n + 1)) with y | y
      · exact ⟨a, by omega, by omega, if_pos y⟩
      · exact ⟨a + 1, by omega, by omega, if_neg (by omega)⟩
    refine qm_pick hB K n (l.eraseIdx (c % (n + 1))) (c / (n + 1)) (nx + 1) t (by omega) (by omega) (by omega) (fun a ha => ?_) (fun a b ha hb e => ?_) m1 (f16.trans (f1.weak (by simp) (by decide))) (fun s' g1 g2 g3 w => ?_)
    · obtain ⟨b, b1, _, b3⟩ := hidx a ha
      rw [b3]; exact hh b b1
    · rw [er_getD, er_getD] at e
      rcases Nat.lt_or_ge a (c % (n + 1)) with y | y <;> rcases Nat.lt_or_ge b (c % (n + 1)) with y2 | y2
      · rw [if_pos y, if_pos y2] at e; exact hi a b (by omega) (by omega) e
      · rw [if_pos y, if_neg (by omega)] at e; have := hi a (b + 1) (by omega) (by omega) e; omega
      · rw [if_neg (by omega), if_pos y2] at e; have := hi (a + 1) b (by omega) (by omega) e; omega
      · rw [if_neg (by omega), if_neg (by omega)] at e; have := hi (a + 1) (b + 1) (by omega) (by omega) e; omega
    · have hlm : lmO (n + 1) l c = l.getD (c % (n + 1)) 0 :: lmO n (l.eraseIdx (c % (n + 1))) (c / (n + 1)) := rfl
      have hne : ∀ a, a < n + 1 → a ≠ c % (n + 1) → l.getD (c % (n + 1)) 0 ≠ l.getD a 0 := fun a ha hne e => hne (hi a _ ha hi1 (by rw [e]))
      have := k s' g1 (fun a ha => ?_) (fun y hy => ?_) w
      · rw [show nx + (n + 1) = nx + 1 + n by omega, show faO (n + 1) = (n + 1) * faO n from rfl, ← Nat.div_div_eq_div_mul] at this; exact this
      · rw [hlm, List.idxOf_cons]
        rcases Nat.decEq a (c % (n + 1)) with y | y
        · have hb : (l.getD (c % (n + 1)) 0 == l.getD a 0) = false := by simp; exact hne a ha y
          rw [hb]
          show _ = nI (nx + ((lmO n (l.eraseIdx (c % (n + 1))) (c / (n + 1))).idxOf (l.getD a 0) + 1))
          rcases Nat.lt_or_ge a (c % (n + 1)) with y2 | y2
          · have e := g2 a (by omega)
            rw [er_getD, if_pos y2] at e
            rw [e]; congr 1; omega
          · have e := g2 (a - 1) (by omega)
            rw [er_getD, if_neg (by omega), show a - 1 + 1 = a by omega] at e
            rw [e]; congr 1; omega
        · subst y
          rw [show (l.getD (c % (n + 1)) 0 == l.getD (c % (n + 1)) 0) = true by simp]
          show _ = nI (nx + 0)
          rw [g3 _ (fun b hb e => ?_), f1.2.1 13 (by decide), a13, pk_us, Nat.add_zero]
          obtain ⟨b2, q1, q2, q3⟩ := hidx b hb
          rw [q3] at e
          exact q2 (hi b2 _ q1 hi1 (by omega))
      · rw [g3 y (fun b hb e => ?_), f1.2.1 13 (by decide), a13, pk_un (hy _ hi1)]
        obtain ⟨b2, q1, q2, q3⟩ := hidx b hb
        rw [q3] at e
        exact hy b2 q1 e
end TiM
section TiN
variable {A : AH} {g : Nat → Nat → Nat} {σ : hsS} {p : Nat}
theorem gw_cg (hg : GW A g) (hp : p < aN A) : ∀ t, t < aM A → aP A p t = cgO (g p) (aM A) (g p t) := fun t ht => (hg p t hp ht).2
theorem qm_lookOrder {k : Nat} (ha : AW A) (hg : GW A g) (h : MH A g σ) (hp : p < aN A) (hk : k < 2 ^ 31) {post : hsS → Prop} (kk : ∀ σ', FRm [] [13, 26] σ σ' → (∀ t, t < aM A → σ'.2.1 13 (10 * p + t) = nI (plO rkM (aP A p) (aM A) k t)) → (∀ x, (x < 10 * p ∨ 10 * p + 10 ≤ x) → σ'.2.1 13 x = σ.2.1 13 x) → post σ') : wX8_lookOrder (nI p) (nI k) post σ := by
  have hm := aw_m ha; have hn := aw_n ha
  have hf := gw_cg hg hp
  have hcl : ∀ x, cgO (g p) (aM A) x ≤ aM A := fun x => fb_ct_le _ _
  refine nm_r (show nI p * (10 : Int32) = nI (10 * p) by rw [show (10 : Int32) = nI 10 from rfl, pk_mul, Nat.mul_comm]) ?_
  refine pk_loop (fun n x (y : Int32 × Int32 × hsS) => wX8_lookOrder_L14 (nI p) (nI k) (nI (10 * p)) _ post n y.1 y.2.1 (nI x) y.2.2) (fun x y => y.1 = nI (k / prO (fun q => faO (gsO (aP A p) (aM A) q)) (cgO (g p) (aM A) x)) ∧ y.2.1 = nI (cgO (g p) (aM A) x) ∧ FRm [] [13, 26] σ y.2.2 ∧ (∀ t, t < aM A → g p t < x → y.2.2.2.1 13 (10 * p + t) = nI (plO rkM (aP A p) (aM A) k t)) ∧ ∀ z, (z < 10 * p ∨ 10 * p + 10 ≤ z) → y.2.2.2.1 13 z = σ.2.1 13 z) 22 0 (nI k, 0, σ) (Nat.zero_le _) ⟨by rw [cg_0]; show nI k = nI (k / 1); rw [Nat.div_one], by rw [cg_0]; rfl, FRm.rf, fun t _ hc => absurd hc (Nat.not_lt_zero _), fun _ _ => rfl⟩ ?_ ?_
  · intro n y e
    obtain ⟨_, _, e3, e4, e5⟩ := e
    rw [wX8_lookOrder_L14]
    exact br_t (nI_le (a := 22) (Nat.le_refl _) (by decide)) (kk _ e3 (fun t ht => e4 t ht (by have := (hg p t hp ht).1; omega)) e5)
  · intro n x y hx e ih
    obtain ⟨y1, y2, s⟩ := y
    obtain ⟨e1, e2, e3, e4, e5⟩ := e
    dsimp only at e1 e2 e3 e4 e5 ⊢
    have hM := h.fr e3 (by decide)
    rw [wX8_lookOrder_L14]
    refine br_f (nI_ge (b := 22) hx (by decide)) ?_
    have L : ∀ K : Int32 → Int32 → hsS → Prop, (∀ s1, FRm [] [26] s s1 → (∀ t, t < aM A → g p t = x → s1.2.1 26 (fb_ct (fun t => decide (g p t = x)) t) = nI t) → ∀ z, K (nI (gcO (g p) (aM A) x)) z s1) → ∃ n, wX8_lookOrder_L27 (nI p) (nI k) y1 (nI (10 * p)) y2 (nI x) K post n 0 0 s := fun K k2 =>
      pk_loop (fun n j (w : Int32 × hsS) => wX8_lookOrder_L27 (nI p) (nI k) y1 (nI (10 * p)) y2 (nI x) K post n w.1 (nI j) w.2) (fun j w => w.1 = nI (fb_ct (fun t => decide (g p t = x)) j) ∧ FRm [] [26] s w.2 ∧ ∀ t, t < j → g p t = x → w.2.2.1 26 (fb_ct (fun t => decide (g p t = x)) t) = nI t) (aM A) 0 (0, s) (Nat.zero_le _) ⟨rfl, FRm.rf, fun t ht => absurd ht (Nat.not_lt_zero _)⟩
        (fun n w d => by
          rw [wX8_lookOrder_L27]
          refine br_t (by rw [mh_m (hM.fr d.2.1 (by decide))]; exact nI_le (Nat.le_refl _) (by omega)) ?_
          rw [d.1]; exact k2 _ d.2.1 d.2.2 _)
        (fun n j w hj d ih2 => by
          obtain ⟨w1, s1⟩ := w
          obtain ⟨d1, d2, d3⟩ := d
          dsimp only at d1 d2 d3 ⊢
          have hM1 := hM.fr d2 (by decide)
          have hct := fb_ct_le (fun t => decide (g p t = x)) j
          have hgj := (hg p j hp hj).1
          rw [wX8_lookOrder_L27]
          refine br_f (by rw [mh_m hM1]; exact nI_ge hj (by omega)) ⟨pk_in (10 * p + j) 160 (by omega) (nI_add _ _), ?_⟩
          rw [nI_add, nI_clamp (by omega), mh_g hM1 hp hj, d1]
          refine pk_eq (g p j) x (fun c => ⟨pk_in (fb_ct (fun t => decide (g p t = x)) j) 10 (by omega), fun S hS => nm_e (nm_e ?_)⟩) (fun c => nm_e ?_)
          · rw [nI_1, nI_1]
            rw [nI_clamp (by omega)] at hS
            have hat : S.2.1 26 = upd (s1.2.1 26) (fb_ct (fun t => decide (g p t = x)) j) (nI j) := by rw [hS, hsA_at]
            refine ih2 (_, S) ⟨?_, by rw [hS]; exact d2.trans (FRm.arr _ (by decide)), fun t ht hc => ?_⟩
            · show nI _ = _
              rw [fb_ct_succ]; simp [c]
            · show S.2.1 26 _ = _
              rw [hat]
              rcases Nat.decEq t j with z | z
              · have hlt : fb_ct (fun t => decide (g p t = x)) t < fb_ct (fun t => decide (g p t = x)) j := by
                  have h1 : fb_ct (fun t => decide (g p t = x)) (t + 1) = fb_ct (fun t => decide (g p t = x)) t + 1 := by rw [fb_ct_succ]; simp [hc]
                  have h2 := fb_ct_mono (fun t => decide (g p t = x)) (m := t + 1) (n := j) (by omega)
                  omega
                rw [pk_un (by omega)]; exact d3 t (by omega) hc
              · rw [z, pk_us]
          · rw [nI_1]
            refine ih2 (_, s1) ⟨?_, d2, fun t ht hc => ?_⟩
            · show nI _ = _
              rw [fb_ct_succ]; simp [c]
            · rcases Nat.decEq t j with z | z
              · exact d3 t (by omega) hc
              · rw [z] at hc; exact absurd hc c)
    refine L _ (fun s1 f1 m1 _ => ?_)
    have hgc : gcO (g p) (aM A) x ≤ aM A := fb_ct_le _ _
    have hkth : ∀ j, j < gcO (g p) (aM A) x → ∃ t, t < aM A ∧ g p t = x ∧ fb_ct (fun t => decide (g p t = x)) t = j ∧ s1.2.1 26 j = nI t := fun j hj => by
      obtain ⟨t, t1, t2, t3⟩ := fb_ct_kth hj
      have t2 : g p t = x := by simpa using t2
      exact ⟨t, t1, t2, t3, by rw [← t3]; exact m1 t t1 t2⟩
    have hcp : k / prO (fun q => faO (gsO (aP A p) (aM A) q)) (cgO (g p) (aM A) x) ≤ k := Nat.div_le_self _ _
    have hcx := hcl x
    rw [e1, e2]
    refine ⟨gcO (g p) (aM A) x + 1, qm_pick (σ := σ) (h := fun j => (s1.2.1 26 j).toNatClampNeg) (B := 10 * p) (by omega) _ (gcO (g p) (aM A) x) (List.range (gcO (g p) (aM A) x)) _ _ s1 (by omega) (by omega) (by omega) (fun a ha => ?_) (fun a b ha hb e => ?_) (fun j hj => ?_) (e3.trans (f1.weak (by simp) (by decide))) (fun s' g1 g2 g3 w => nm_e ?_)⟩
    · rw [rg_getD ha]
      obtain ⟨t, t1, t2, t3, t4⟩ := hkth a ha
      show (s1.2.1 26 a).toNatClampNeg < 10
      rw [t4, nI_clamp (by omega)]; omega
    · rw [rg_getD ha, rg_getD hb] at e
      obtain ⟨t, t1, t2, t3, t4⟩ := hkth a ha
      obtain ⟨u, u1, u2, u3, u4⟩ := hkth b hb
      have e : (s1.2.1 26 a).toNatClampNeg = (s1.2.1 26 b).toNatClampNeg := e
      rw [t4, u4, nI_clamp (by omega), nI_clamp (by omega)] at e
      rw [← t3, ← u3, e]
    · rw [rg_getD hj]
      obtain ⟨t, t1, t2, t3, t4⟩ := hkth j hj
      show s1.2.1 26 j = nI (s1.2.1 26 j).toNatClampNeg
      rw [t4, nI_clamp (by omega)]
    · rw [nI_1]
      refine ih (_, _, s') ⟨?_, ?_, g1, fun t ht hc => ?_, fun z hz => ?_⟩
      · show nI _ = nI _
        rw [cg_pr hf, Nat.div_div_eq_div_mul]
      · show nI _ = nI _
        rw [cg_succ]
      · show s'.2.1 13 _ = _
        rcases Nat.decEq (g p t) x with y | y
        · rw [g3 _ (fun a ha e => ?_), f1.2.1 13 (by decide)]
          · exact e4 t ht (by omega)
          · rw [rg_getD ha] at e
            obtain ⟨u, u1, u2, u3, u4⟩ := hkth a ha
            have e : 10 * p + t = 10 * p + (s1.2.1 26 a).toNatClampNeg := e
            rw [u4, nI_clamp (by omega)] at e
            exact y (by rw [show t = u by omega]; exact u2)
        · have hj : fb_ct (fun t => decide (g p t = x)) t < gcO (g p) (aM A) x := by
            have h1 : fb_ct (fun t => decide (g p t = x)) (t + 1) = fb_ct (fun t => decide (g p t = x)) t + 1 := by rw [fb_ct_succ]; simp [y]
            have h2 := fb_ct_mono (fun t => decide (g p t = x)) (m := t + 1) (n := aM A) ht
            unfold gcO; omega
          have e := g2 _ hj
          rw [rg_getD hj] at e
          have e : s'.2.1 13 (10 * p + (s1.2.1 26 (fb_ct (fun t => decide (g p t = x)) t)).toNatClampNeg) = _ := e
          rw [m1 t ht y, nI_clamp (by omega)] at e
          rw [e]
          have hpos : 0 < gcO (g p) (aM A) x := by omega
          have hft : aP A p t = cgO (g p) (aM A) x := (cg_iff hf ht hpos).mpr y
          unfold plO dgO
          rw [rkM_mod, hft, cg_gs hf hpos]
          have hix : ixO (aP A p) t = fb_ct (fun t => decide (g p t = x)) t := fb_ct_cong (fun u hu => decide_eq_decide.mpr (by rw [hft]; exact cg_iff hf (by omega) hpos))
          rw [hix]; rfl
      · show s'.2.1 13 _ = _
        rw [g3 _ (fun a ha e => ?_), f1.2.1 13 (by decide)]
        · exact e5 z hz
        · rw [rg_getD ha] at e
          obtain ⟨u, u1, u2, u3, u4⟩ := hkth a ha
          have e : z = 10 * p + (s1.2.1 26 a).toNatClampNeg := e
          rw [u4, nI_clamp (by omega)] at e
          omega
theorem qm_ordersOf (ha : AW A) (hg : GW A g) (h : MH A g σ) (hp : p < aN A) {post : Int32 → hsS → Prop} (k : post (nI (orA A p)) σ) : wX8_ordersOf (nI p) post σ := by
  have hm := aw_m ha; have hn := aw_n ha
  have hf := gw_cg hg hp
  have LI : ∀ (x : Nat) (K : Int32 → Int32 → Int32 → hsS → Prop), x < 22 → (∀ y z, K (nI (min 241 (prO (fun q => faO (gsO (aP A p) (aM A) q)) (cgO (g p) (aM A) (x + 1))))) y z σ) → ∃ n, wX8_ordersOf_L16 (nI p) (nI x) K post n (nI (min 241 (prO (fun q => faO (gsO (aP A p) (aM A) q)) (cgO (g p) (aM A) x)))) 0 0 σ := fun x K hx kk =>
    pk_loop (fun n j (y : Int32 × Int32) => wX8_ordersOf_L16 (nI p) (nI x) K post n y.1 y.2 (nI j) σ) (fun j y => y.1 = nI (min 241 (prO (fun q => faO (gsO (aP A p) (aM A) q)) (cgO (g p) (aM A) x) * faO (fb_ct (fun t => decide (g p t = x)) j))) ∧ y.2 = nI (fb_ct (fun t => decide (g p t = x)) j)) (aM A) 0 (nI (min 241 (prO (fun q => faO (gsO (aP A p) (aM A) q)) (cgO (g p) (aM A) x))), 0) (Nat.zero_le _) ⟨by show nI _ = nI (min 241 (_ * 1)); rw [Nat.mul_one], rfl⟩
      (fun n y e => by
        rw [wX8_ordersOf_L16]
        refine br_t (by rw [mh_m h]; exact nI_le (Nat.le_refl _) (by omega)) ?_
        rw [e.1]
        have := kk y.2 (nI (aM A))
        rw [cg_pr hf] at this; exact this)
      (fun n j y hj e ih => by
        obtain ⟨y1, y2⟩ := y
        obtain ⟨e1, e2⟩ := e
        dsimp only at e1 e2 ⊢
        have hct := fb_ct_le (fun t => decide (g p t = x)) j
        have hgj := (hg p j hp hj).1
        rw [wX8_ordersOf_L16]
        refine br_f (by rw [mh_m h]; exact nI_ge hj (by omega)) ?_
        rw [qi_10]
        refine ⟨pk_in (10 * p + j) 160 (by omega), ?_⟩
        rw [nI_clamp (by omega), mh_g h hp hj]
        refine pk_eq (g p j) x (fun c => ?_) (fun c => nm_e ?_)
        · rw [e2]
          refine nm_r (nI_1 _) ?_
          rw [e1, pk_mul]
          have hb : min 241 (prO (fun q => faO (gsO (aP A p) (aM A) q)) (cgO (g p) (aM A) x) * faO (fb_ct (fun t => decide (g p t = x)) j)) * (fb_ct (fun t => decide (g p t = x)) j + 1) ≤ 241 * 10 := Nat.mul_le_mul (Nat.min_le_left _ _) (by omega)
          refine nm_r (nI_min (a := min 241 (prO (fun q => faO (gsO (aP A p) (aM A) q)) (cgO (g p) (aM A) x) * faO (fb_ct (fun t => decide (g p t = x)) j)) * (fb_ct (fun t => decide (g p t = x)) j + 1)) (c := 241) (by omega) (by decide)) (nm_e ?_)
          rw [nI_1]
          have hct2 : fb_ct (fun t => decide (g p t = x)) (j + 1) = fb_ct (fun t => decide (g p t = x)) j + 1 := by rw [fb_ct_succ]; simp [c]
          refine ih (_, _) ⟨?_, ?_⟩
          · show nI _ = nI _
            rw [cut_mul _ _ (by omega), hct2]
            show _ = nI (min 241 (_ * ((fb_ct (fun t => decide (g p t = x)) j + 1) * faO (fb_ct (fun t => decide (g p t = x)) j))))
            rw [Nat.mul_assoc, Nat.mul_comm (faO _)]
          · show nI _ = nI _
            rw [hct2]
        · rw [nI_1]
          have hct2 : fb_ct (fun t => decide (g p t = x)) (j + 1) = fb_ct (fun t => decide (g p t = x)) j := by rw [fb_ct_succ]; simp [c]
          exact ih (_, _) ⟨by rw [hct2]; exact e1, by rw [hct2]; exact e2⟩)
  have L : ∀ K : Int32 → Int32 → hsS → Prop, (∀ z, K (nI (orA A p)) z σ) → ∃ n, wX8_ordersOf_L4 (nI p) K post n 1 0 σ := fun K kk =>
    pk_loop (fun n x (y : Int32) => wX8_ordersOf_L4 (nI p) K post n y (nI x) σ) (fun x y => y = nI (min 241 (prO (fun q => faO (gsO (aP A p) (aM A) q)) (cgO (g p) (aM A) x)))) 22 0 1 (Nat.zero_le _) (by rw [cg_0]; rfl)
      (fun n y e => by
        rw [wX8_ordersOf_L4]
        refine br_t (nI_le (a := 22) (Nat.le_refl _) (by decide)) ?_
        rw [e, cg_all (fun t ht => by have := (hg p t hp ht).1; omega)]; exact kk _)
      (fun n x y hx e ih => by
        rw [wX8_ordersOf_L4]
        refine br_f (nI_ge (b := 22) hx (by decide)) ?_
        rw [e]
        refine LI x _ hx (fun y z => nm_e ?_)
        rw [nI_1]
        exact ih _ rfl)
  exact L _ (fun _ => k)
end TiN
