/-! ===== hall: the class reads the text; the reference's frame ===== -/
def frI : List Nat := [706, 707, 708, 709, 710, 711, 712, 713, 832, 833, 834, 835, 836, 837, 838, 839]
section RdW
variable {T : Nat → Nat} {n len : Nat} {σ : hsS}
theorem qx_reset {post : hsS → Prop} (k : ∀ s, FRm [832, 833, 834, 835, 836, 837, 838, 839] [] σ s → HX 13 A00 s → post s) : wX1_reset (11 + 2) post σ := by
  intro s1 e1 s2 e2 s3 e3 s4 e4 s5 e5 s6 e6 s7 e7 s8 e8
  have f8 : FRm [832, 833, 834, 835, 836, 837, 838, 839] [] σ s8 := by
    rw [e8, e7, e6, e5, e4, e3, e2, e1]
    exact (((((((FRm.int _ (by decide)).trans (FRm.int _ (by decide))).trans (FRm.int _ (by decide))).trans (FRm.int _ (by decide))).trans (FRm.int _ (by decide))).trans (FRm.int _ (by decide))).trans (FRm.int _ (by decide))).trans (FRm.int _ (by decide))
  refine k s8 f8 ⟨fun j hj => ?_, fun p hp => absurd hp (Nat.not_lt_zero _), fun p t hp => absurd hp (Nat.not_lt_zero _), fun p hp => absurd hp (Nat.not_lt_zero _), fun p hp => absurd hp (Nat.not_lt_zero _)⟩
  have hcase : j = 0 ∨ j = 1 ∨ j = 2 ∨ j = 3 ∨ j = 4 ∨ j = 5 ∨ j = 6 ∨ j = 7 := by omega
  rcases hcase with z | z | z | z | z | z | z | z
  · subst z; rw [e8, hsI_ne _ _ (by decide), e7, hsI_ne _ _ (by decide), e6, hsI_ne _ _ (by decide), e5, hsI_ne _ _ (by decide), e4, hsI_ne _ _ (by decide), e3, hsI_ne _ _ (by decide), e2, hsI_ne _ _ (by decide), e1]; exact hsI_at _ _ _
  · subst z; rw [e8, hsI_ne _ _ (by decide), e7, hsI_ne _ _ (by decide), e6, hsI_ne _ _ (by decide), e5, hsI_ne _ _ (by decide), e4, hsI_ne _ _ (by decide), e3, hsI_ne _ _ (by decide), e2]; exact hsI_at _ _ _
  · subst z; rw [e8, hsI_ne _ _ (by decide), e7, hsI_ne _ _ (by decide), e6, hsI_ne _ _ (by decide), e5, hsI_ne _ _ (by decide), e4, hsI_ne _ _ (by decide), e3]; exact hsI_at _ _ _
  · subst z; rw [e8, hsI_ne _ _ (by decide), e7, hsI_ne _ _ (by decide), e6, hsI_ne _ _ (by decide), e5, hsI_ne _ _ (by decide), e4]; exact hsI_at _ _ _
  · subst z; rw [e8, hsI_ne _ _ (by decide), e7, hsI_ne _ _ (by decide), e6, hsI_ne _ _ (by decide), e5]; exact hsI_at _ _ _
  · subst z; rw [e8, hsI_ne _ _ (by decide), e7, hsI_ne _ _ (by decide), e6]; exact hsI_at _ _ _
  · subst z; rw [e8, hsI_ne _ _ (by decide), e7]; exact hsI_at _ _ _
  · subst z; rw [e8]; exact hsI_at _ _ _
theorem qx_read (h706 : σ.1 (64 * 11 + 2) = nI len) (hnl : n ≤ len) (hlen : len ≤ 600) (hT : ∀ j, j < n → T j < 256 ∧ σ.2.1 12 j &&& 255 = nI (T j)) {post : Int32 → hsS → Prop} (kf : ∀ e s, txO T n = Sum.inl e → FRm frI fcR σ s → s.1 706 = 0 → CF e s → post (nI e.1) s) (ko : ∀ D s, txO T n = Sum.inr D → FRm frI fcR σ s → s.1 706 = 0 → s.1 712 = 0 → s.1 713 = -1 → HX 13 D.1 s → DG D → post 0 s) : wX3_read 11 (nI n) post σ := by
  have hn : n ≤ 600 := by omega
  intro s1 e1 s2 e2
  rw [h706, show (if nI len < nI n then nI len else nI n) = nI n from if_neg (nI_nlt hnl (by omega))] at e1
  refine qx_reset (fun s4 f4 x4 => fun s5 e5 s6 e6 s7 e7 => ?_)
  have f7 : FRm frI fcR σ s7 := by
    rw [e7, e6, e5]
    refine (((?_ : FRm frI fcR σ s4).trans (FRm.int _ (by decide))).trans (FRm.int _ (by decide))).trans (FRm.int _ (by decide))
    refine (?_ : FRm frI fcR σ s2).trans (f4.weak (by decide) (by decide))
    rw [e2, e1]; exact (FRm.int _ (by decide)).trans (FRm.int _ (by decide))
  have g4 : FRm [710, 712, 713] [] s4 s7 := by rw [e7, e6, e5]; exact ((FRm.int _ (by decide)).trans (FRm.int _ (by decide))).trans (FRm.int _ (by decide))
  have x7 : HX 13 A00 s7 := x4.fr g4 (by decide) (by decide)
  have c7 : CL T n s7 := by
    refine ⟨?_, hn, ?_⟩
    · rw [g4.1 _ (by decide), f4.1 _ (by decide), e2, hsI_ne _ _ (by decide), e1]; exact hsI_at _ _ _
    · rw [f7.2.1 _ (by decide)]; exact hT
  have v706 : s7.1 706 = 0 := by rw [g4.1 _ (by decide), f4.1 _ (by decide), e2]; exact hsI_at _ _ _
  have v712 : s7.1 712 = 0 := by rw [e7, hsI_ne _ _ (by decide), e6, hsI_ne _ _ (by decide), e5]; exact hsI_at _ _ _
  have v713 : s7.1 713 = -1 := by rw [e7, hsI_ne _ _ (by decide), e6]; exact hsI_at _ _ _
  have v710 : s7.1 (64 * 11 + 6) = nI 0 := by rw [e7]; exact hsI_at _ _ _
  have KF : ∀ e s, txO T n = Sum.inl e → FC s7 s → CF e s → post (s.1 (64 * 11 + 8)) s := fun e s he f1 f2 => by
    rw [f2.1]; exact kf e s he (f7.trans (f1.weak (by decide) (by decide))) (by rw [f1.1 _ (by decide)]; exact v706) f2
  have KO : ∀ D s, txO T n = Sum.inr D → FO s7 s → HX 13 D.1 s → DG D → post (s.1 (64 * 11 + 8)) s := fun D s he f1 f2 f3 => by
    rw [show s.1 (64 * 11 + 8) = 0 from by rw [f1.1 _ (by decide)]; exact v712]
    exact ko D s he (f7.trans (f1.weak (by decide) (by decide))) (by rw [f1.1 _ (by decide)]; exact v706) (by rw [f1.1 _ (by decide)]; exact v712) (by rw [f1.1 _ (by decide)]; exact v713) f2 f3
  have stop : ∀ e s, txO T n = Sum.inl e → FC s7 s → CF e s → ∃ f, wX3_read_L50 11 (nI n) (fun _ _ σ27 => post (σ27.1 (64 * 11 + 8)) σ27) post f 0 0 s := fun e s he f1 f2 => ⟨1, by
    rw [wX3_read_L50]
    exact br_f (by decide) (br_t rfl (KF e s he f1 f2))⟩
  refine qx_next c7 (Nat.zero_le _) v710 (fun s9 f9 k9 => ?_)
  have F9 : FO s7 s9 := f9.weak (by decide) (by decide)
  have hS9 : CS T n (tokO T n 0) A00 s9 := ⟨cl_fo c7 F9, k9, tg_ok T (Nat.zero_le _), x7.fr f9 (by decide) (by decide)⟩
  have et : txO T n = (if wdO T (tokO T n 0) 0 = false then Sum.inl (1, tF (tokO T n 0)) else if nbO (tokO T n (tT (tokO T n 0))) 2 9 1000 false ≠ 0 then Sum.inl (nbO (tokO T n (tT (tokO T n 0))) 2 9 1000 false, tF (tokO T n (tT (tokO T n 0)))) else match smO2 T n (Sum.inr (tokO T n (tT (tokO T n (tT (tokO T n 0)))), D00 (tV (tokO T n (tT (tokO T n 0)))))) with | Sum.inl e => Sum.inl e | Sum.inr q => hallO T n 601 q.1 q.2) := rfl
  unfold wX3_readThings wX3_passWord
  refine qx_wd hS9 (by decide) (b2_br (fun w0 => qx_failS hS9.2.1 (x := 1) (fun s f1 f2 => ⟨Or.inl rfl, br_t rfl (stop _ s (by rw [et, if_pos w0]) ((fo_fc F9).trans f1) f2)⟩)) (fun w0 => qx_nextS hS9 (fun s10 f10 hS10 => br_f (by decide) ?_)))
  rw [if_neg (by rw [w0]; decide)] at et
  have F10 := F9.trans f10
  refine qx_within hS10.2.2.1 hn hS10.2.1 (l := 2) (mo := 9) (by decide) (by decide) (fun hnb => br_f (by decide) (fun s11 e11 => ?_)) (fun s hnb f1 f2 => br_t rfl (stop _ s (by rw [et, if_pos hnb]) ((fo_fc F10).trans f1) f2))
  rw [if_neg (by rw [hnb]; decide)] at et
  obtain ⟨c1, c2, m2, m9, _, _⟩ := nb_ok hnb
  rw [hS10.2.1.2.2.2 c1] at e11
  have f11 : FO s10 s11 := by rw [e11]; exact FRm.int _ (by decide)
  have x11 : HX 13 (thgA A00 (tV (tokO T n (tT (tokO T n 0))))) s11 := by
    refine ⟨fun k hk => ?_, fun p hp => absurd hp (Nat.not_lt_zero _), fun p t hp => absurd hp (Nat.not_lt_zero _), fun p hp => absurd hp (Nat.not_lt_zero _), fun p hp => absurd hp (Nat.not_lt_zero _)⟩
    show s11.1 (64 * 13 + k) = nI (if k = 0 then tV (tokO T n (tT (tokO T n 0))) else A00.1 k)
    rcases Nat.decEq k 0 with z | z
    · rw [if_neg z, e11, hsI_ne _ _ (by omega)]; exact hS10.2.2.2.1 k hk
    · rw [if_pos z, z, e11]; exact hsI_at _ _ _
  refine qx_nextS (A := thgA A00 (tV (tokO T n (tT (tokO T n 0))))) ⟨cl_fo hS10.1 f11, hS10.2.1.s2 (fun k _ h712 => by rw [e11, hsI_ne _ _ (by omega)]), hS10.2.2.1, x11⟩ (fun s12 f12 hS12 => ?_)
  have F12 := (F10.trans f11).trans f12
  have t1 := tok_pos T (Nat.zero_le n)
  have t2 := tok_pos T t1.1.2.1
  have t3 := tok_pos T t2.1.2.1
  refine qx_passSign hS12 (fun c3 s13 f13 hS13 => ⟨Or.inr rfl, ?_⟩) (fun c3 s f1 f2 => ⟨Or.inl rfl, stop _ s ?_ ((fo_fc F12).trans f1) f2⟩)
  · have es : smO2 T n (Sum.inr (tokO T n (tT (tokO T n (tT (tokO T n 0)))), D00 (tV (tokO T n (tT (tokO T n 0)))))) = Sum.inr (tokO T n (tT (tokO T n (tT (tokO T n (tT (tokO T n 0)))))), D00 (tV (tokO T n (tT (tokO T n 0))))) := by
      show (if tK (tokO T n (tT (tokO T n (tT (tokO T n 0))))) = 3 then _ else _) = _
      rw [if_pos c3]
    rw [es] at et
    refine ⟨602, qx_lines (σ := s7) hn _ 601 _ (D00 (tV (tokO T n (tT (tokO T n 0))))) 0 s13 rfl (Nat.zero_le _) (D00_ok ⟨m2, m9⟩) hS13 (F12.trans f13) (fun e s' he f1 f2 _ _ => KF e s' (by rw [et]; exact he) f1 f2) (fun D' s' he f1 f2 f3 _ _ => KO D' s' (by rw [et]; exact he) f1 f2 f3)⟩
  · rw [et]
    show (match (if tK (tokO T n (tT (tokO T n (tT (tokO T n 0))))) = 3 then _ else Sum.inl (1, tF (tokO T n (tT (tokO T n (tT (tokO T n 0)))))) : Sum FT (TK × DR)) with | Sum.inl e => Sum.inl e | Sum.inr q => hallO T n 601 q.1 q.2) = _
    rw [if_neg c3]
end RdW
/-! the reference's frame while it reads -/
def loM (k : Nat) : Nat := if k = 7 then 8 else if k = 9 then 8 else if k = 11 then 8 else if k = 8 then 80 else if k = 10 then 9 else 1
def fdI : List Nat := [15, 17, 18, 19, 20, 21, 22]
def FD (σ σ' : hsS) : Prop := (∀ k, k ∉ fdI → σ'.1 k = σ.1 k) ∧ (∀ k, k = 0 ∨ 12 ≤ k → σ'.2.1 k = σ.2.1 k) ∧ (∀ k j, j < loM k → σ'.2.1 k j = σ.2.1 k j) ∧ σ'.2.2 = σ.2.2
theorem FD.rf {σ : hsS} : FD σ σ := ⟨fun _ _ => rfl, fun _ _ => rfl, fun _ _ _ => rfl, rfl⟩
theorem FD.trans {a b c : hsS} (h : FD a b) (h' : FD b c) : FD a c := ⟨fun k hk => by rw [h'.1 k hk, h.1 k hk], fun k hk => by rw [h'.2.1 k hk, h.2.1 k hk], fun k j hj => by rw [h'.2.2.1 k j hj, h.2.2.1 k j hj], by rw [h'.2.2.2, h.2.2.2]⟩
theorem FD.of {I : List Nat} {σ σ' : hsS} (h : FRm I [] σ σ') (hI : ∀ k ∈ I, k ∈ fdI) : FD σ σ' := ⟨fun k hk => h.1 k (fun c => hk (hI k c)), fun k _ => h.2.1 k (by simp), fun k j _ => by rw [h.2.1 k (by simp)], h.2.2⟩
theorem FD.arr {σ : hsS} {k j : Nat} (x : Int32) (h1 : 1 ≤ k) (h2 : k < 12) (hj : loM k ≤ j) : FD σ (hsA σ k (upd (σ.2.1 k) j x)) := by
  refine ⟨fun _ _ => rfl, fun q hq => hsA_ne _ _ (by omega), fun q i hi => ?_, rfl⟩
  rcases Nat.decEq q k with z | z
  · rw [hsA_ne _ _ z]
  · subst z; rw [hsA_at, pk_un (by omega)]
