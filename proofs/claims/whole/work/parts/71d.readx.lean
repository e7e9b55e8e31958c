/-! ===== hall: the class reads ===== -/
def fcI : List Nat := [708, 709, 710, 711, 712, 713, 832, 833, 834, 835, 836, 837, 838, 839]
def fcR : List Nat := [14, 15, 16, 17]
abbrev FC (σ σ' : hsS) : Prop := FRm fcI fcR σ σ'
/-- .. where no fault is told -/
def foI : List Nat := [708, 709, 710, 711, 832, 833, 834, 835, 836, 837, 838, 839]
abbrev FO (σ σ' : hsS) : Prop := FRm foI fcR σ σ'
theorem fo_fc {σ σ' : hsS} (h : FO σ σ') : FC σ σ' := h.weak (by decide) (by decide)
def CF (e : FT) (σ : hsS) : Prop := σ.1 (64 * 11 + 8) = nI e.1 ∧ σ.1 (64 * 11 + 9) = nI e.2
theorem br_or {A0 A1 B C : Prop} (h : A0 ∨ A1) (b : B) : (A0 → B) ∧ (¬ A0 → ((A1 → B) ∧ (¬ A1 → C))) := ⟨fun _ => b, fun n => ⟨fun _ => b, fun n1 => by
  rcases h with h | h
  · exact absurd h n
  · exact absurd h n1⟩⟩
/-- a token as the class has it, with the text and the draft -/
def CS (T : Nat → Nat) (n : Nat) (w : TK) (A : AH) (σ : hsS) : Prop := CL T n σ ∧ CK w σ ∧ TG n w ∧ HX 13 A σ
section RdX
variable {T : Nat → Nat} {n : Nat} {w : TK} {A : AH} {σ : hsS}
theorem cl_fo {σ' : hsS} (h : CL T n σ) (hf : FO σ σ') : CL T n σ' := h.fr hf (by decide) (by decide)
theorem qx_nextS (h : CS T n w A σ) {post : hsS → Prop} (k : ∀ σ', FO σ σ' → CS T n (tokO T n (tT w)) A σ' → post σ') : wX3_next 11 post σ := by
  obtain ⟨h1, h2, h3, h4⟩ := h
  refine qx_next h1 h3.2.1 h2.2.2.1 (fun s f1 f2 => ?_)
  have f : FO σ s := f1.weak (by decide) (by decide)
  exact k s f ⟨cl_fo h1 f, f2, tg_ok T h3.2.1, h4.fr f1 (by decide) (by decide)⟩
theorem qx_wd (h : CS T n w A σ) {i : Nat} (hi : i < 11) {post : Int32 → hsS → Prop} (k : post (b2I (wdO T w i)) σ) : wX3_isWord 11 i post σ := qx_isWord h.1 h.2.1 h.2.2.1.1 h.2.2.1.2.1 h.2.2.1.2.2.1 hi k
theorem qx_failS (hk : CK w σ) {x : Nat} {post : Int32 → hsS → Prop} (k : ∀ σ', FC σ σ' → CF (x, tF w) σ' → post 0 σ') : wX3_fail 11 (nI x) post σ := by
  intro s1 e1 s2 e2
  have h5 : s1.1 (64 * 11 + 5) = nI (tF w) := by rw [e1, hsI_ne _ _ (by decide)]; exact hk.2.1
  rw [h5] at e2
  exact k s2 (by rw [e2, e1]; exact (FRm.int _ (by decide)).trans (FRm.int _ (by decide))) ⟨by rw [e2, hsI_ne _ _ (by decide), e1]; exact hsI_at _ _ _, by rw [e2]; exact hsI_at _ _ _⟩
theorem qx_atNumber (hg : TG n w) (hn : n ≤ 600) (hk : CK w σ) {post : Int32 → hsS → Prop} (k1 : tK w = 2 → tT w - tF w ≤ 3 → post 1 σ) (k0 : ∀ σ', ¬ (tK w = 2 ∧ tT w - tF w ≤ 3) → FC σ σ' → CF (if tK w = 2 then 2 else 1, tF w) σ' → post 0 σ') : wX3_atNumber 11 post σ := by
  obtain ⟨g1, g2, g3, g4, g5⟩ := hg
  unfold wX3_atNumber
  rw [hk.1, hk.2.1, hk.2.2.1, pk_sub g1]
  refine pk_eq (tK w) 2 (fun c => pk_le (tT w - tF w) 3 (fun c2 => k1 c c2) (fun c2 => qx_failS hk (x := 2) (fun s f1 f2 => br_t rfl (k0 s (fun z => by omega) f1 (by rw [if_pos c]; exact f2))))) (fun c => qx_failS hk (x := 1) (fun s f1 f2 => ⟨Or.inl rfl, k0 s (fun z => c z.1) f1 (by rw [if_neg c]; exact f2)⟩))
theorem qx_within (hg : TG n w) (hn : n ≤ 600) (hk : CK w σ) {l mo : Nat} (hl : l < 2 ^ 31) (hm : mo < 2 ^ 31) {post : Int32 → hsS → Prop} (k1 : nbO w l mo 1000 false = 0 → post 1 σ) (k0 : ∀ σ', nbO w l mo 1000 false ≠ 0 → FC σ σ' → CF (nbO w l mo 1000 false, tF w) σ' → post 0 σ') : wX3_atNumberWithin 11 (nI l) (nI mo) post σ := by
  have g4 := hg.2.2.2.1
  refine qx_atNumber hg hn hk (fun c c2 => br_f (by decide) ?_) (fun s c f1 f2 => br_t rfl (k0 s ?_ f1 ?_))
  · have hv := g4 c c2
    rw [hk.2.2.2 c]
    refine pk_lt (tV w) l (fun c3 => qx_failS hk (x := 2) (fun s f1 f2 => br_t rfl ?_)) (fun c3 => pk_le (tV w) mo (fun c4 => k1 ?_) (fun c4 => qx_failS hk (x := 2) (fun s f1 f2 => br_t rfl ?_)))
    · have e : nbO w l mo 1000 false = 2 := by unfold nbO; rw [if_pos c, if_neg (by omega), if_pos c3]
      exact k0 s (by rw [e]; decide) f1 (by rw [e]; exact f2)
    · unfold nbO; rw [if_pos c, if_neg (by omega), if_neg (by omega), if_neg (by omega), if_neg (by decide), if_neg (by omega)]
    · have e : nbO w l mo 1000 false = 2 := by unfold nbO; rw [if_pos c, if_neg (by omega), if_neg (by omega), if_pos c4]
      exact k0 s (by rw [e]; decide) f1 (by rw [e]; exact f2)
  · unfold nbO
    by_cases c3 : tK w = 2
    · rw [if_pos c3, if_pos (Nat.lt_of_not_le (fun z => c ⟨c3, z⟩))]; decide
    · rw [if_neg c3]; decide
  · have e : nbO w l mo 1000 false = if tK w = 2 then 2 else 1 := by
      unfold nbO
      by_cases c3 : tK w = 2
      · rw [if_pos c3, if_pos c3, if_pos (Nat.lt_of_not_le (fun z => c ⟨c3, z⟩))]
      · rw [if_neg c3, if_neg c3]
    rw [e]; exact f2
/-! turns -/
theorem qx_turnsL (hm : aM A ≤ 9) (hN : aN A ≤ 8) {post : Int32 → hsS → Prop} (hn : n ≤ 600) : ∀ (f : Nat) (w : TK) (c : Nat) (uf : Nat → Nat) (s : hsS), c + f = 9 → c + 1 ≤ aM A → (c = 0 ∨ tK w = 2) → CS T n w (turA A c uf) s → FO σ s → (∀ e s', tnO T n (aM A) (aN A) f w c uf = Sum.inl e → FC σ s' → CF e s' → post 0 s') → (∀ r s', tnO T n (aM A) (aN A) f w c uf = Sum.inr r → FO σ s' → CS T n r.1 (turA A r.2.1 r.2.2) s' → post 1 s') → wX3_readTurns_L10 11 (fun _ σ27 => post (0 : Int32) σ27) (fun _ σ29 => wX3_fail 11 (2 : Int32) (fun r30 σ31 => (r30 = 0 ∨ r30 = 1) ∧ post r30 σ31) σ29) (fun _ σ33 => wX3_fail 11 (3 : Int32) (fun r34 σ35 => (r34 = 0 ∨ r34 = 1) ∧ post r34 σ35) σ33) (fun _ σ37 => post (1 : Int32) σ37) post (f + 1) (nI c) s
  | 0, w, c, uf, s, hcf, hc, hkw, hS, hF, kf, ko => by omega
  | f + 1, w, c, uf, s, hcf, hc, hkw, hS, hF, kf, ko => by
    have ed : tnO T n (aM A) (aN A) (f + 1) w c uf = (if nbO w 0 999 (aN A) (decide (c = aM A - 1)) ≠ 0 then Sum.inl (nbO w 0 999 (aN A) (decide (c = aM A - 1)), tF w) else if tK (tokO T n (tT w)) = 2 then tnO T n (aM A) (aN A) f (tokO T n (tT w)) (c + 1) (fun k => if k = c then tV w else uf k) else Sum.inr (tokO T n (tT w), c + 1, fun k => if k = c then tV w else uf k)) := rfl
    obtain ⟨h1, h2, h3, h4⟩ := hS
    rw [wX3_readTurns_L10]
    refine br_f (nI_nlt (a := 8) (by omega) (by decide)) (br_or ?_ ?_)
    · rcases hkw with z | z
      · exact Or.inl (by rw [z]; rfl)
      · exact Or.inr (by rw [h2.1, z]; rfl)
    refine qx_atNumber h3 hn h2 (fun c1 c2 => br_f (by decide) ?_) (fun s' c1 f1 f2 => br_t rfl ?_)
    · have hv := h3.2.2.2.1 c1 c2
      have hnt : s.1 (64 * (11 + 2) + 6) = nI c := hx_nt h4
      have hmm : s.1 (64 * (11 + 2) + 0) = nI (aM A) := hx_m (b := 13) (A := turA A c uf) h4
      have hnn : s.1 (64 * (11 + 2) + 1) = nI (aN A) := hx_n (b := 13) (A := turA A c uf) h4
      rw [hnt, hmm, hnn, h2.2.2.2 c1, show nI (aM A) - (1 : Int32) = nI (aM A - 1) from pk_sub (a := aM A) (b := 1) (by omega)]
      refine pk_lt c (aM A - 1) (fun c3 => pk_lt (tV w) (aN A) (fun c4 => ⟨pk_in c 8 (by omega), fun s9 e9 s10 e10 => ?_⟩) (fun c4 => ?_)) (fun c3 => ?_)
      · have enb : nbO w 0 999 (aN A) (decide (c = aM A - 1)) = 0 := by
          unfold nbO; rw [if_pos c1, if_neg (by omega), if_neg (by omega), if_neg (by omega), if_neg (by simp; omega), if_neg (by omega)]
        rw [enb, if_neg (by decide)] at ed
        rw [nI_clamp (by omega)] at e9
        have hnt9 : s9.1 (64 * (11 + 2) + 6) = nI c := by rw [e9]; exact hnt
        rw [hnt9, nI_1] at e10
        have f10 : FO s s10 := by rw [e10, e9]; exact (FRm.arr _ (by decide)).trans (FRm.int _ (by decide))
        have a17 : s10.2.1 17 = upd (s.2.1 17) c (nI (tV w)) := by rw [e10, e9]; exact hsA_at _ _ _
        have r17 : ∀ q, q ≠ 17 → s10.2.1 q = s.2.1 q := fun q hq => by rw [e10, e9]; exact hsA_ne _ _ hq
        have hx10 : HX 13 (turA A (c + 1) (fun k => if k = c then tV w else uf k)) s10 := by
          refine ⟨fun k hk => ?_, fun p hp => by rw [r17 _ (by decide)]; exact hx_w h4 hp, fun p t hp ht => by rw [r17 _ (by decide), turA_P]; have := hx_p h4 hp ht; rw [turA_P] at this; exact this, fun k hk => by rw [r17 _ (by decide)]; exact hx_t h4 hk, fun k hk => ?_⟩
          · show s10.1 (64 * 13 + k) = nI (if k = 6 then c + 1 else A.1 k)
            rcases Nat.decEq k 6 with z | z
            · rw [if_neg z, e10, hsI_ne _ _ (by omega), e9]
              have := h4.1 k hk
              have e : (turA A c uf).1 k = A.1 k := if_neg z
              rw [e] at this; exact this
            · rw [if_pos z, z, e10]; exact hsI_at _ _ _
          · show s10.2.1 17 k = nI (if k = c then tV w else uf k)
            have hk : k < c + 1 := hk
            rw [a17]
            rcases Nat.decEq k c with z | z
            · rw [pk_un z, if_neg z]; exact hx_u h4 (k := k) (by show k < c; omega)
            · rw [z, pk_us, if_pos rfl]
        have hS10 : CS T n w (turA A (c + 1) (fun k => if k = c then tV w else uf k)) s10 := ⟨cl_fo h1 f10, ⟨by rw [e10, e9]; exact h2.1, by rw [e10, e9]; exact h2.2.1, by rw [e10, e9]; exact h2.2.2.1, fun z => by rw [e10, e9]; exact h2.2.2.2 z⟩, h3, hx10⟩
        refine qx_nextS hS10 (fun s11 f11 h11 => nm_e ?_)
        rw [nI_1]
        have F11 : FO σ s11 := (hF.trans f10).trans f11
        by_cases c5 : tK (tokO T n (tT w)) = 2
        · rw [if_pos c5] at ed
          rw [ed] at kf ko
          exact qx_turnsL hm hN hn f _ (c + 1) _ s11 (by omega) (by omega) (Or.inr c5) h11 F11 kf ko
        · rw [if_neg c5] at ed
          rw [wX3_readTurns_L10]
          have fin := ko _ s11 ed F11 h11
          refine br_c (fun _ => fin) (fun _ => br_f (nI_ne0 (by omega) (by omega)) (br_f (fun z => c5 ?_) fin))
          rw [h11.2.1.1] at z
          have := h11.2.2.1.2.2.1
          exact (nI_eq (b := 2) (by omega) (by decide)).mp z
      · have enb : nbO w 0 999 (aN A) (decide (c = aM A - 1)) = 3 := by
          unfold nbO; rw [if_pos c1, if_neg (by omega), if_neg (by omega), if_neg (by omega), if_neg (by simp; omega), if_pos c4]
        rw [enb, if_pos (by decide)] at ed
        exact qx_failS h2 (x := 3) (fun s' f1 f2 => ⟨Or.inl rfl, kf _ s' ed ((fo_fc hF).trans f1) f2⟩)
      · have enb : nbO w 0 999 (aN A) (decide (c = aM A - 1)) = 2 := by
          unfold nbO; rw [if_pos c1, if_neg (by omega), if_neg (by omega), if_neg (by omega), if_pos (by simp; omega)]
        rw [enb, if_pos (by decide)] at ed
        exact qx_failS h2 (x := 2) (fun s' f1 f2 => ⟨Or.inl rfl, kf _ s' ed ((fo_fc hF).trans f1) f2⟩)
    · have enb : nbO w 0 999 (aN A) (decide (c = aM A - 1)) = if tK w = 2 then 2 else 1 := by
        unfold nbO
        by_cases c3 : tK w = 2
        · rw [if_pos c3, if_pos c3, if_pos (Nat.lt_of_not_le (fun z => c1 ⟨c3, z⟩))]
        · rw [if_neg c3, if_neg c3]
      have hne : nbO w 0 999 (aN A) (decide (c = aM A - 1)) ≠ 0 := by rw [enb]; split <;> decide
      rw [if_pos hne] at ed
      exact kf _ s' ed ((fo_fc hF).trans f1) (by rw [enb]; exact f2)
theorem qx_readTurns (hm : 2 ≤ aM A ∧ aM A ≤ 9) (hN : aN A ≤ 8) (hn : n ≤ 600) (hS : CS T n w A σ) {g : Nat → Nat → Nat} {post : Int32 → hsS → Prop} (kf : ∀ e s', ltO T n w (A, g) = Sum.inl e → FC σ s' → CF e s' → post 0 s') (ko : ∀ r s', ltO T n w (A, g) = Sum.inr r → FO σ s' → CS T n r.1 r.2.1 s' → post 1 s') : wX3_readTurns 11 post σ := by
  obtain ⟨h1, h2, h3, h4⟩ := hS
  intro s1 e1
  have f1 : FO σ s1 := by rw [e1]; exact FRm.int _ (by decide)
  have hx1 : HX 13 (turA A 0 (fun _ => 0)) s1 := by
    refine ⟨fun k hk => ?_, fun p hp => by rw [show s1.2.1 = σ.2.1 from by rw [e1]; rfl]; exact hx_w h4 hp, fun p t hp ht => by rw [show s1.2.1 = σ.2.1 from by rw [e1]; rfl, turA_P]; exact hx_p h4 hp ht, fun k hk => by rw [show s1.2.1 = σ.2.1 from by rw [e1]; rfl]; exact hx_t h4 hk, fun k hk => absurd hk (Nat.not_lt_zero _)⟩
    show s1.1 (64 * 13 + k) = nI (if k = 6 then 0 else A.1 k)
    rcases Nat.decEq k 6 with z | z
    · rw [if_neg z, e1, hsI_ne _ _ (by omega)]; exact h4.1 k hk
    · rw [if_pos z, z, e1]; exact hsI_at _ _ _
  refine ⟨10, qx_turnsL hm.2 hN hn 9 w 0 (fun _ => 0) s1 rfl (by omega) (Or.inl rfl) ⟨cl_fo h1 f1, ⟨by rw [e1]; exact h2.1, by rw [e1]; exact h2.2.1, by rw [e1]; exact h2.2.2.1, fun z => by rw [e1]; exact h2.2.2.2 z⟩, h3, hx1⟩ f1 (fun e s' he q1 q2 => kf e s' ?_ q1 q2) (fun r s' he q1 q2 => ko (r.1, turA A r.2.1 r.2.2, g) s' ?_ q1 q2)⟩
  · unfold ltO; dsimp only; rw [he]
  · unfold ltO; dsimp only; rw [he]
end RdX
