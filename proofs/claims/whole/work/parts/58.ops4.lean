/-! ===== calls: the tape ===== -/
def byO (w : Int32) (j : Nat) : Nat := (w >>> (nI (24 - 8 * j) &&& 31)).toBitVec.toNat % 2 ^ 8
theorem byO_eq (w : Int32) (j : Nat) : (w >>> (nI (24 - 8 * j) &&& 31)) &&& (255 : Int32) = nI (byO w j) := pk_and _ 8 (by decide)
theorem byO_lt (w : Int32) (j : Nat) : byO w j < 256 := Nat.mod_lt _ (by decide)
theorem qx_put {b : Nat} {σ : hsS} {len : Nat} (hl : len + 4 ≤ 600) (e : σ.1 (64 * b + 2) = nI len) (z : Int32) {post : hsS → Prop} (k : ∀ σ', FRm [64 * b + 2] [b + 1] σ σ' → σ'.1 (64 * b + 2) = nI (len + 4) → (∀ q, q < len → σ'.2.1 (b + 1) q = σ.2.1 (b + 1) q) → (∀ j, j < 4 → σ'.2.1 (b + 1) (len + j) &&& 255 = nI (byO z j)) → post σ') : wX3_put b z post σ := by
  have L : ∀ K : Int32 → hsS → Prop, (∀ σ', FRm [64 * b + 2] [b + 1] σ σ' → σ'.1 (64 * b + 2) = nI (len + 4) → (∀ q, q < len → σ'.2.1 (b + 1) q = σ.2.1 (b + 1) q) → (∀ j, j < 4 → σ'.2.1 (b + 1) (len + j) &&& 255 = nI (byO z j)) → ∀ y, K y σ') → ∃ n, wX3_put_L3 b z K post n 24 σ := fun K kk =>
    pk_loop (fun n j (s : hsS) => wX3_put_L3 b z K post n (nI 24 - nI (8 * j)) s) (fun j s => FRm [64 * b + 2] [b + 1] σ s ∧ s.1 (64 * b + 2) = nI (len + j) ∧ (∀ q, q < len → s.2.1 (b + 1) q = σ.2.1 (b + 1) q) ∧ ∀ q, q < j → s.2.1 (b + 1) (len + q) &&& 255 = nI (byO z q)) 4 0 σ (Nat.zero_le _) ⟨FRm.rf, e, fun _ _ => rfl, fun q hq => absurd hq (Nat.not_lt_zero _)⟩
      (fun n s e1 => by
        obtain ⟨e1, e2, e3, e4⟩ := e1
        rw [wX3_put_L3]
        exact br_t (pk_sneg (by decide) (by decide)) (kk s e1 e2 e3 e4 _))
      (fun n j s hj e1 ih => by
        obtain ⟨e1, e2, e3, e4⟩ := e1
        rw [wX3_put_L3]
        have ey : nI 24 - nI (8 * j) = nI (24 - 8 * j) := pk_sub (by omega)
        have ey2 : nI 24 - nI (8 * j) + (-8) = nI 24 - nI (8 * (j + 1)) := by
          rw [show 8 * (j + 1) = 8 * j + 8 by omega, ← nI_add, show nI 8 = (8 : Int32) from rfl, show (-8 : Int32) = -(8 : Int32) from by decide]
          rw [Int32.sub_eq_add_neg, Int32.sub_eq_add_neg, Int32.neg_add, Int32.sub_eq_add_neg, Int32.add_assoc]
        refine br_f (by rw [ey]; exact nI_pos (by omega)) (br_f (by rw [e2]; exact nI_ge (b := 600) (by omega) (by decide)) ⟨pk_in (len + j) 600 (by omega) e2, fun S hS S2 hS2 => nm_r ey2 (ih S2 ?_)⟩)
        have f1 : S.2.1 (b + 1) = upd (s.2.1 (b + 1)) (len + j) (vp_nar .byte ((z >>> (nI (24 - 8 * j) &&& 31)).toInt8.toInt32)) := by rw [hS, hsA_at, e2, nI_clamp (by omega), ey]
        have f2 : S2.2.1 = S.2.1 := by rw [hS2]; rfl
        refine ⟨?_, ?_, ?_, ?_⟩
        · rw [hS2, hS]; exact (e1.trans (FRm.arr _ (by simp))).trans (FRm.int _ (by simp))
        · rw [hS2, hsI_at, hS]
          show s.1 (64 * b + 2) + 1 = _
          rw [e2, nI_1]; rfl
        · intro q hq
          rw [f2, f1, pk_un (by omega)]; exact e3 q hq
        · intro q hq
          rw [f2, f1]
          rcases Nat.decEq q j with y | y
          · rw [pk_un (by omega)]; exact e4 q (by omega)
          · subst y; rw [pk_us, pk_vb, bp_b, byO_eq])
  exact L _ (fun σ' h1 h2 h3 h4 _ => k σ' h1 h2 h3 h4)
section OpD
variable {A : AH} {g : Nat → Nat → Nat} {v i : Nat} {σx σm : hsS}
theorem RB.tape (h : RB A g v i σx σm) {s t : hsS} (hf : FRm [706] [12] σx s) (hg : FRm [0, 14] [12] σm t) (hT : TP (s.1 706) (t.1 14) (s.2.1 12) (t.2.1 12)) : RR (i + 6) s t := by
  obtain ⟨⟨h1, h2, h3, h4⟩, ⟨h5, h5a, h5b, h5c, h5d, h5e⟩, ⟨h6, h7⟩, h8, h9, ⟨h10, h11, h12⟩, h13, h14, h15⟩ := h
  refine ⟨A, g, v, ⟨h1, h2, h3.fr hf (by decide) (by decide), h4.fr hg (by decide)⟩, ⟨?_, by omega, ?_, ?_, ?_, ?_⟩, ⟨hT, ?_⟩, ?_, ?_, ⟨?_, ?_, ?_⟩, ?_, ?_, ?_⟩
  · rw [hg.1 12 (by decide)]; exact h5
  · rw [hg.1 28 (by decide)]; exact h5b
  · rw [hg.1 36 (by decide)]; exact h5c
  · rw [hg.1 39 (by decide)]; exact h5d
  · rw [hg.1 50 (by decide)]; exact h5e
  · rw [hf.1 713 (by decide), hg.1 23 (by decide)]; exact h7
  · rw [hf.1 1922 (by decide), hf.2.1 31 (by decide), hf.2.1 33 (by decide), hf.2.1 34 (by decide), hf.2.2, hg.1 52 (by decide), hg.2.1 27 (by decide), hg.2.1 28 (by decide), hg.2.1 29 (by decide), hg.2.1 30 (by decide)]; exact h8
  · rw [hf.2.1 22 (by decide)]; exact h9
  · rw [hf.1 1473 (by decide), hf.1 1474 (by decide), hf.1 1475 (by decide)]; exact h10
  · rw [hg.1 36 (by decide), hg.1 12 (by decide), hg.1 33 (by decide), hg.1 34 (by decide), hg.1 35 (by decide)]; exact h11
  · rw [hg.1 39 (by decide), hg.1 12 (by decide), hg.2.1 18 (by decide), hg.2.1 19 (by decide)]; exact h12
  · exact h13.fr hg (by decide) (by decide) (by decide) (by decide) (by decide)
  · rw [hf.1 1604 (by decide), hf.1 1605 (by decide), hf.1 1606 (by decide), hf.1 1607 (by decide), hf.2.1 26 (by decide), hf.2.1 27 (by decide), hf.2.1 28 (by decide)]; exact h14
  · rw [hg.1 50 (by decide), hg.1 12 (by decide), hg.1 47 (by decide), hg.1 48 (by decide), hg.1 49 (by decide), hg.1 51 (by decide), hg.2.1 22 (by decide), hg.2.1 24 (by decide), hg.2.1 25 (by decide)]; exact h15
def fdO (a1 a2 a3 a4 a5 : Int32) (q : Nat) : Int32 := if q = 0 then a1 else if q = 1 then a2 else if q = 2 then a3 else if q = 3 then a4 else a5
theorem qm_feedLoop {σ : hsS} {len : Nat} (hl : len + 20 ≤ 600) (e : σ.1 14 = nI len) (a1 a2 a3 a4 a5 : Int32) {post : Int32 → hsS → Prop} (K : Int32 → hsS → Prop) (k : ∀ σ', FRm [14] [12] σ σ' → σ'.1 14 = nI (len + 20) → (∀ q, q < len → σ'.2.1 12 q = σ.2.1 12 q) → (∀ q, q < 20 → σ'.2.1 12 (len + q) = nI (byO (fdO a1 a2 a3 a4 a5 (q / 4)) (q % 4))) → ∀ y, K y σ') : ∃ n, wX8_feed_L23 a1 a2 a3 a4 a5 K post n 0 σ := by
  refine pk_loop (fun n j (s : hsS) => wX8_feed_L23 a1 a2 a3 a4 a5 K post n (nI j) s) (fun j s => FRm [14] [12] σ s ∧ s.1 14 = nI (len + j) ∧ (∀ q, q < len → s.2.1 12 q = σ.2.1 12 q) ∧ ∀ q, q < j → s.2.1 12 (len + q) = nI (byO (fdO a1 a2 a3 a4 a5 (q / 4)) (q % 4))) 20 0 σ (Nat.zero_le _) ⟨FRm.rf, e, fun _ _ => rfl, fun q hq => absurd hq (Nat.not_lt_zero _)⟩
    (fun n s e1 => by
      obtain ⟨e1, e2, e3, e4⟩ := e1
      rw [wX8_feed_L23]
      exact br_t (nI_le (a := 20) (Nat.le_refl _) (by decide)) (k s e1 e2 e3 e4 _)) ?_
  intro n j s hj e1 ih
  obtain ⟨e1, e2, e3, e4⟩ := e1
  rw [wX8_feed_L23]
  have er : nI j - nI j / (4 : Int32) * (4 : Int32) = nI (j % 4) := pk_rem (d := 4) (by omega) (by decide) (by decide)
  have es : (24 : Int32) - (8 : Int32) * nI (j % 4) = nI (24 - 8 * (j % 4)) := by
    rw [show (8 : Int32) = nI 8 from rfl, pk_mul]; exact pk_sub (a := 24) (by omega)
  have fin : ∀ (w : Int32), w = fdO a1 a2 a3 a4 a5 (j / 4) → vp_in (s.1 14) 600 ∧ ∀ σ8 : hsS, σ8 = hsA s 12 (upd (s.2.1 12) (s.1 14).toNatClampNeg ((w >>> (((24 : Int32) - ((8 : Int32) * (nI j - nI j / (4 : Int32) * (4 : Int32)))) &&& 31)) &&& (255 : Int32))) → ∀ σ9 : hsS, σ9 = hsI σ8 14 ((σ8.1 14) + (1 : Int32)) → ∀ v10 : Int32, v10 = nI j + (1 : Int32) → wX8_feed_L23 a1 a2 a3 a4 a5 K post n v10 σ9 := fun w hw => by
    refine ⟨pk_in (len + j) 600 (by omega) e2, fun S hS S2 hS2 => nm_r (nI_1 j) (ih S2 ?_)⟩
    have f1 : S.2.1 12 = upd (s.2.1 12) (len + j) (nI (byO w (j % 4))) := by rw [hS, hsA_at, e2, nI_clamp (by omega), er, es, byO_eq]
    have f2 : S2.2.1 = S.2.1 := by rw [hS2]; rfl
    refine ⟨?_, ?_, ?_, ?_⟩
    · rw [hS2, hS]; exact (e1.trans (FRm.arr _ (by simp))).trans (FRm.int _ (by simp))
    · rw [hS2, hsI_at, hS]
      show s.1 14 + 1 = _
      rw [e2, nI_1]; rfl
    · intro q hq
      rw [f2, f1, pk_un (by omega)]; exact e3 q hq
    · intro q hq
      rw [f2, f1]
      rcases Nat.decEq q j with y | y
      · rw [pk_un (by omega)]; exact e4 q (by omega)
      · subst y; rw [pk_us, hw]
  refine br_f (nI_ge (b := 20) hj (by decide)) (pk_le 4 j (fun c1 => pk_le 8 j (fun c2 => pk_le 12 j (fun c3 => pk_le 16 j (fun c4 => fin a5 ?_) (fun c4 => fin a4 ?_)) (fun c3 => fin a3 ?_)) (fun c2 => fin a2 ?_)) (fun c1 => fin a1 ?_))
  · unfold fdO; rw [if_neg (by omega), if_neg (by omega), if_neg (by omega), if_neg (by omega)]
  · unfold fdO; rw [if_neg (by omega), if_neg (by omega), if_neg (by omega), if_pos (by omega)]
  · unfold fdO; rw [if_neg (by omega), if_neg (by omega), if_pos (by omega)]
  · unfold fdO; rw [if_neg (by omega), if_pos (by omega)]
  · unfold fdO; rw [if_pos (by omega)]
theorem op_0 (a1 a2 a3 a4 a5 : Int32) (h : RR i σx σm) : lo_0 a1 a2 a3 a4 a5 (RR (i + 6)) σx σm := by
  obtain ⟨A, g, v, h⟩ := h
  unfold lo_0 wX7_feed
  obtain ⟨len, T, hlen, e1, e2, e3⟩ := rb_tp h
  have e1' : σx.1 (64 * 11 + 2) = nI len := e1
  have e20 : nI len + (20 : Int32) = nI (len + 20) := nI_add len 20
  show ((600 : Int32) < (σx.1 (64 * 11 + 2)) + (20 : Int32) → _) ∧ (¬ (600 : Int32) < (σx.1 (64 * 11 + 2)) + (20 : Int32) → _)
  refine pk_lt 600 (len + 20) (fun c => ?_) (fun c => ?_) rfl (by rw [e1', e20])
  · refine br_t rfl (fun S hS => ?_)
    obtain ⟨h1, h2⟩ := m0 hS
    refine br_f (by rw [h1.1 14 (by decide), e2, e20]; exact nI_ge (b := len + 20) (a := 600) c (by omega)) ⟨rfl, h.m h1⟩
  · refine br_f (by decide) ?_
    refine qx_put (b := 11) (by omega) e1' a1 (fun s1 f1 g1 u1 w1 => ?_)
    refine qx_put (b := 11) (len := len + 4) (by omega) g1 a2 (fun s2 f2 g2 u2 w2 => ?_)
    refine qx_put (b := 11) (len := len + 4 + 4) (by omega) g2 a3 (fun s3 f3 g3 u3 w3 => ?_)
    refine qx_put (b := 11) (len := len + 4 + 4 + 4) (by omega) g3 a4 (fun s4 f4 g4 u4 w4 => ?_)
    refine qx_put (b := 11) (len := len + 4 + 4 + 4 + 4) (by omega) g4 a5 (fun s5 f5 g5 u5 w5 => ?_)
    have hF : FRm [706] [12] σx s5 := (((f1.trans f2).trans f3).trans f4).trans f5
    have g5' : s5.1 706 = nI (len + 20) := g5
    rw [g5']
    intro S hS
    obtain ⟨h1, h2⟩ := m0 hS
    have hS14 : S.1 14 = nI len := by rw [h1.1 14 (by decide)]; exact e2
    refine br_t (by rw [hS14, e20]; exact nI_le (b := 600) c (by decide)) (qm_feedLoop (by omega) hS14 a1 a2 a3 a4 a5 _ (fun S2 k1 k2 k3 k4 y => ?_))
    refine ⟨k2.symm, h.tape hF ((h1.weak (by decide) (by decide)).trans (k1.weak (by decide) (by decide))) ⟨len + 20, fun q => if q < len then T q else byO (fdO a1 a2 a3 a4 a5 ((q - len) / 4)) ((q - len) % 4), by omega, g5', k2, fun q hq => ?_⟩⟩
    rcases Nat.lt_or_ge q len with z | z
    · dsimp only
      rw [if_pos z, k3 q z, h1.2.1 12 (by decide)]
      obtain ⟨y1, y2, y3⟩ := e3 q z
      refine ⟨y1, ?_, y3⟩
      have : s5.2.1 12 q = σx.2.1 12 q := (u5 q (by omega)).trans ((u4 q (by omega)).trans ((u3 q (by omega)).trans ((u2 q (by omega)).trans (u1 q z))))
      rw [this]; exact y2
    · dsimp only
      rw [if_neg (by omega)]
      obtain ⟨j, rfl⟩ : ∃ j, q = len + j := ⟨q - len, by omega⟩
      rw [show len + j - len = j by omega]
      refine ⟨byO_lt _ _, ?_, k4 j (by omega)⟩
      have hj4 : j / 4 < 5 := by omega
      have hjm : j % 4 < 4 := Nat.mod_lt _ (by decide)
      rcases Nat.lt_or_ge j 4 with c1 | c1
      · have := w1 (j % 4) hjm
        rw [show j / 4 = 0 by omega]
        have hq : s5.2.1 12 (len + j) = s1.2.1 12 (len + j % 4) := by
          rw [show len + j % 4 = len + j by omega]
          exact (u5 _ (by omega)).trans ((u4 _ (by omega)).trans ((u3 _ (by omega)).trans (u2 _ (by omega))))
        rw [hq]; exact this
      · rcases Nat.lt_or_ge j 8 with c2 | c2
        · have := w2 (j % 4) hjm
          rw [show j / 4 = 1 by omega]
          have hq : s5.2.1 12 (len + j) = s2.2.1 12 (len + 4 + j % 4) := by
            rw [show len + 4 + j % 4 = len + j by omega]
            exact (u5 _ (by omega)).trans ((u4 _ (by omega)).trans (u3 _ (by omega)))
          rw [hq]; exact this
        · rcases Nat.lt_or_ge j 12 with c3 | c3
          · have := w3 (j % 4) hjm
            rw [show j / 4 = 2 by omega]
            have hq : s5.2.1 12 (len + j) = s3.2.1 12 (len + 4 + 4 + j % 4) := by
              rw [show len + 4 + 4 + j % 4 = len + j by omega]
              exact (u5 _ (by omega)).trans (u4 _ (by omega))
            rw [hq]; exact this
          · rcases Nat.lt_or_ge j 16 with c4 | c4
            · have := w4 (j % 4) hjm
              rw [show j / 4 = 3 by omega]
              have hq : s5.2.1 12 (len + j) = s4.2.1 12 (len + 4 + 4 + 4 + j % 4) := by
                rw [show len + 4 + 4 + 4 + j % 4 = len + j by omega]
                exact u5 _ (by omega)
              rw [hq]; exact this
            · have := w5 (j % 4) hjm
              rw [show j / 4 = 4 by omega]
              have hq : s5.2.1 12 (len + j) = s5.2.1 12 (len + 4 + 4 + 4 + 4 + j % 4) := by
                rw [show len + 4 + 4 + 4 + 4 + j % 4 = len + j by omega]
              rw [hq]; exact this
end OpD
