theorem kX8_leftBehind : tbM yX8_leftBehind cX8_leftBehind 4 (some .int) 1 := ⟨tb_1691, tb_99, by decide +kernel, by decide +kernel⟩
theorem kX8_judge : tbM yX8_judge cX8_judge 7 (some .int) 2 := ⟨tb_1683, tb_99, by decide +kernel, by decide +kernel⟩
theorem kX8_isHolder : tbM yX8_isHolder cX8_isHolder 1 (some .boolean) 1 := ⟨tb_1698, tb_99, by decide +kernel, by decide +kernel⟩
theorem kX8_hold : tbM yX8_hold cX8_hold 4 (some .boolean) 3 := ⟨tb_1695, tb_99, by decide +kernel, by decide +kernel⟩
theorem kX8_why : tbM yX8_why cX8_why 3 (some .int) 2 := ⟨tb_1706, tb_99, by decide +kernel, by decide +kernel⟩
theorem kX8_held : tbM yX8_held cX8_held 4 (some .int) 2 := ⟨tb_1702, tb_99, by decide +kernel, by decide +kernel⟩
theorem kX8_left : tbM yX8_left cX8_left 5 (some .int) 2 := ⟨tb_1710, tb_99, by decide +kernel, by decide +kernel⟩
def wX8_leftBehind_L13 (z1 : Int32) (K47 : Int32 → Int32 → hsS → Prop) (post : Int32 → hsS → Prop) : Nat → Int32 → Int32 → hsS → Prop
  | 0, _, _, _ => False
  | n + 1, y2, y3, σ => vp_in z1 12 ∧ (((σ.2.1 27 z1.toNatClampNeg) ≤ y3 → K47 y2 y3 σ) ∧ (¬ (σ.2.1 27 z1.toNatClampNeg) ≤ y3 → vp_in (((9 : Int32) * z1) + y3) 108 ∧ ∀ v3 : Int32, v3 = y2 &&& (((1 : Int32) <<< ((σ.2.1 28 (((9 : Int32) * z1) + y3).toNatClampNeg) &&& 31)) ^^^ (-1 : Int32)) → ∀ v4 : Int32, v4 = y3 + (1 : Int32) → wX8_leftBehind_L13 z1 K47 post n v3 v4 σ))
def wX8_leftBehind (x1 : Int32) (post : Int32 → hsS → Prop) (σ : hsS) : Prop := ∀ v1 : Int32, v1 = ((1 : Int32) <<< ((σ.2.1 1 (0 : Int32).toNatClampNeg) &&& 31)) - (1 : Int32) → ∃ n5, wX8_leftBehind_L13 x1 (fun v6 v7 σ8 => post v6 σ8) post n5 v1 (0 : Int32) σ
set_option maxHeartbeats 4000000 in
set_option maxRecDepth 100000 in
theorem kcX8_leftBehind (l : Launch) (D : va_G) (c : Nat → ClassId) (q : Nat → Nat) (ev : State → Heap → Prop) (hev : evOK (wdA 31 q) ev) (σ : hsS) (x1 : Int32) (post : Int32 → hsS → Prop) (hw : wX8_leftBehind x1 post σ) : Met l yX8_leftBehind (Cond.code yX8_leftBehind cX8_leftBehind 4 (some .int) :: tb_L) { frames := 0, cells := 0, slots := 0, locals := 0 } (wdPc D (mw c q) (mwT c) (wdA 31 q) ev σ [.ref (q 0), .int x1]) (va_Qi post (wdB D (mw c q)) (wdA 31 q)) 0 0 (wdA 31 q) := by
  refine Met.ofW (cc := cX8_leftBehind) (maxL := 4) (ret := (some .int)) (by decide) rfl ?_
  intro p e s m args below meth c₀ s₁ Bd hml hv
  obtain ⟨rfl, hP, hK, hD0, hE⟩ := hv
  have hx := Bd.exec
  have hb := Bd.bytes
  have hr := Bd.returns
  have hts := atoms_spec (ws := Cond.code yX8_leftBehind cX8_leftBehind 4 (some .int) :: tb_L) Bd.pre
  have htb : ∀ w ∈ tb_L, w.before [.ref (q 0), .int x1].toArray s = true := fun w h => hts w (List.mem_cons_of_mem _ h)
  have hown : s.vm.findClass RX8 = some m.cls := findClass_of_methodNamed Bd.named
  have hlocks := Bd.notSynchronized
  have hS : va_S (wdA 31 q) s.heap s.heap [] := va_S.rf
  have hD := hD0
  have L13 : ∀ (K47 : Int32 → Int32 → hsS → Prop) (z1 : Int32) (n : Nat) (y2 : Int32) (y3 : Int32) (σ : hsS) (H : Heap) (locs : List Loc) (ls : Array Slot), wX8_leftBehind_L13 z1 K47 post n y2 y3 σ → (∀ (y2 : Int32) (y3 : Int32) (σ : hsS) (H : Heap) (locs : List Loc) (ls : Array Slot), K47 y2 y3 σ → va_P D vwCl (mw c q σ) H → va_S (wdA 31 q) s.heap H locs → lv_has ls 4 [(0, .ref (q 0)), (1, .int z1), (2, .int y2), (3, .int y3)] → W p l e (headSpec (Cond.code yX8_leftBehind cX8_leftBehind 4 (some .int) :: tb_L) { frames := 0, cells := 0, slots := 0, locals := 0 }).room s m [.ref (q 0), .int x1].toArray below meth c₀ H locs 0 0 (MQ below (va_Qi post (wdB D (mw c q)) (wdA 31 q)) [.ref (q 0), .int x1].toArray s 0 0 (wdA 31 q)) (F0 m 47 ls [])) → va_P D vwCl (mw c q σ) H → va_S (wdA 31 q) s.heap H locs → lv_has ls 4 [(0, .ref (q 0)), (1, .int z1), (2, .int y2), (3, .int y3)] → W p l e (headSpec (Cond.code yX8_leftBehind cX8_leftBehind 4 (some .int) :: tb_L) { frames := 0, cells := 0, slots := 0, locals := 0 }).room s m [.ref (q 0), .int x1].toArray below meth c₀ H locs 0 0 (MQ below (va_Qi post (wdB D (mw c q)) (wdA 31 q)) [.ref (q 0), .int x1].toArray s 0 0 (wdA 31 q)) (F0 m 13 ls []) := by
    intro K47 z1 n
    induction n with
    | zero =>
      intro y2 y3 σ H locs ls hw hk47 hP hS hl
      exact (show False from hw).elim
    | succ n ih =>
      intro y2 y3 σ H locs ls hw hk47 hP hS hl
      rw [wX8_leftBehind_L13] at hw
      have hD : va_D (wdA 31 q) (mw c q σ) := mw_D hD0
      refine lv_iload_n hx hb dX8_leftBehind_13 rfl (lv_at hl 3 rfl) ?_
      refine lv_aload_n hx hb dX8_leftBehind_14 rfl (lv_at hl 0 rfl) ?_
      refine va_get (D := D) (ci := 8) (C := RX8) (T := TX8) (N := 57) hx hb htb inX8 hown hK hP 0 (mw_0 c q σ) rfl 53 (by decide) (htb _ tb_1234) (fun _ h9 => h9) rfl dX8_leftBehind_15 ?_
      refine lv_iload_n hx hb dX8_leftBehind_18 rfl (lv_at hl 1 rfl) ?_
      refine va_iald hx hb hK hP 27 26 (mw_27 c q σ) rfl hw.1 dX8_leftBehind_19 ?_
      have hw := hw.2
      refine lv_icmp_ge (tgt := 47) hx hb dX8_leftBehind_20 (by decide) (fun c2 => ?_) (fun c2 => ?_)
      · have hw := hw.1 c2
        exact hk47 y2 y3 σ _ _ _ hw hP hS (lv_sub hl [0, 1, 2, 3] rfl)
      · have hw := hw.2 c2
        refine lv_iload_n hx hb dX8_leftBehind_23 rfl (lv_at hl 2 rfl) ?_
        refine lv_iconst (v := (1 : Int32)) hx hb dX8_leftBehind_24 (by decide) ?_
        refine lv_aload_n hx hb dX8_leftBehind_25 rfl (lv_at hl 0 rfl) ?_
        refine va_get (D := D) (ci := 8) (C := RX8) (T := TX8) (N := 57) hx hb htb inX8 hown hK hP 0 (mw_0 c q σ) rfl 54 (by decide) (htb _ tb_1235) (fun _ h9 => h9) rfl dX8_leftBehind_26 ?_
        refine lv_bipush (v := (9 : Int32)) hx hb dX8_leftBehind_29 (by decide) ?_
        refine lv_iload_n hx hb dX8_leftBehind_31 rfl (lv_at hl 1 rfl) ?_
        refine lv_imul hx hb dX8_leftBehind_32 ?_
        refine lv_iload_n hx hb dX8_leftBehind_33 rfl (lv_at hl 3 rfl) ?_
        refine lv_iadd hx hb dX8_leftBehind_34 ?_
        refine va_iald hx hb hK hP 28 27 (mw_28 c q σ) rfl hw.1 dX8_leftBehind_35 ?_
        have hw := hw.2
        refine lv_ishl hx hb dX8_leftBehind_36 ?_
        refine lv_iconst (v := (-1 : Int32)) hx hb dX8_leftBehind_37 (by decide) ?_
        refine lv_ixor hx hb dX8_leftBehind_38 ?_
        refine lv_iand hx hb dX8_leftBehind_39 ?_
        refine lv_topi (fun v3 ev3 => ?_)
        have hw := hw v3 ev3
        refine lv_istore_n (lv' := [(2, .int v3), (0, .ref (q 0)), (1, .int z1), (3, .int y3)]) hx hb dX8_leftBehind_40 rfl hl (by decide) rfl (fun ls hl => ?_)
        obtain ⟨v4, ev4⟩ : ∃ z : Int32, z = y3 + (1 : Int32) := ⟨_, rfl⟩
        have hw := hw v4 ev4
        refine lv_iinc (v := v4) (lv' := [(3, .int v4), (2, .int v3), (0, .ref (q 0)), (1, .int z1)]) hx hb dX8_leftBehind_41 hl (k := 3) rfl (by rw [ev4]; rfl) (by decide) rfl (fun ls hl => ?_)
        refine lv_goto (tgt := 13) hx hb dX8_leftBehind_44 (by decide) ?_
        exact ih v3 v4 σ _ _ _ hw hk47 hP hS (lv_sub hl [2, 3, 1, 0] rfl)
  have hl := lv_entry ([.ref (q 0), .int x1]) (n := 4) (Nat.le_of_ble_eq_true rfl)
  rw [lg_entry_eq]
  generalize (lg_sl ([.ref (q 0), .int x1]) ++ List.replicate (4 - (lg_sl ([.ref (q 0), .int x1])).length) Slot.unset).toArray = ls at hl ⊢
  have hl : lv_has ls 4 [(0, .ref (q 0)), (1, .int x1)] := hl
  unfold wX8_leftBehind at hw
  refine lv_iconst (v := (1 : Int32)) hx hb dX8_leftBehind_0 (by decide) ?_
  refine lv_aload_n hx hb dX8_leftBehind_1 rfl (lv_at hl 0 rfl) ?_
  refine va_get (D := D) (ci := 8) (C := RX8) (T := TX8) (N := 57) hx hb htb inX8 hown hK hP 0 (mw_0 c q σ) rfl 1 (by decide) (htb _ tb_1182) (fun _ h9 => h9) rfl dX8_leftBehind_2 ?_
  refine lv_iconst (v := (0 : Int32)) hx hb dX8_leftBehind_5 (by decide) ?_
  refine va_iald hx hb hK hP 1 0 (mw_1 c q σ) rfl (by unfold vp_in; decide) dX8_leftBehind_6 ?_
  refine lv_ishl hx hb dX8_leftBehind_7 ?_
  refine lv_iconst (v := (1 : Int32)) hx hb dX8_leftBehind_8 (by decide) ?_
  refine lv_isub hx hb dX8_leftBehind_9 ?_
  refine lv_topi (fun v1 ev1 => ?_)
  have hw := hw v1 ev1
  refine lv_istore_n (lv' := [(2, .int v1), (0, .ref (q 0)), (1, .int x1)]) hx hb dX8_leftBehind_10 rfl hl (by decide) rfl (fun ls hl => ?_)
  refine lv_iconst (v := (0 : Int32)) hx hb dX8_leftBehind_11 (by decide) ?_
  refine lv_istore_n (lv' := [(3, .int (0 : Int32)), (2, .int v1), (0, .ref (q 0)), (1, .int x1)]) hx hb dX8_leftBehind_12 rfl hl (by decide) rfl (fun ls hl => ?_)
  obtain ⟨n5, hw⟩ := hw
  refine L13 _ x1 n5 v1 (0 : Int32) σ _ _ _ hw ?_ hP hS (lv_sub hl [2, 3, 1, 0] rfl)
  intro v6 v7 σ8 H locs ls hw hP hS hl
  have hD : va_D (wdA 31 q) (mw c q σ8) := mw_D hD0
  refine lv_iload_n hx hb dX8_leftBehind_47 rfl (lv_at hl 2 rfl) ?_
  exact W.iret hx hb hr (fun t ht hW => ⟨⟨_, σ8, rfl, hw, by unfold wdB; rw [ht]; exact hP⟩, hS.F ht⟩) hS.2.2 dX8_leftBehind_48
def wX8_judge_L66 (z1 : Int32) (z2 : Int32) (K135 : Int32 → Int32 → hsS → Prop) (K153 : Int32 → Int32 → hsS → Prop) (post : Int32 → hsS → Prop) : Nat → Int32 → Int32 → hsS → Prop
  | 0, _, _, _ => False
  | n + 1, y3, y4, σ => vp_in z1 12 ∧ (((σ.2.1 27 z1.toNatClampNeg) ≤ y4 → K153 y3 y4 σ) ∧ (¬ (σ.2.1 27 z1.toNatClampNeg) ≤ y4 → vp_in (((9 : Int32) * z1) + y4) 108 ∧ ∀ v20 : Int32, v20 = σ.2.1 28 (((9 : Int32) * z1) + y4).toNatClampNeg → ((((y3 >>> (v20 &&& 31)) &&& (1 : Int32)) = (1 : Int32) → ((z2 = (1 : Int32) → ∀ v23 : Int32, v23 = y3 &&& (((1 : Int32) <<< (v20 &&& 31)) ^^^ (-1 : Int32)) → ∀ v24 : Int32, v24 = y4 + (1 : Int32) → wX8_judge_L66 z1 z2 K135 K153 post n v23 v24 σ) ∧ (¬ z2 = (1 : Int32) → vp_in y4 18 ∧ wX8_plainly (σ.2.1 10 y4.toNatClampNeg) y3 (fun r25 σ26 => ((r25 = v20 → ∀ v28 : Int32, v28 = y3 &&& (((1 : Int32) <<< (v20 &&& 31)) ^^^ (-1 : Int32)) → ∀ v29 : Int32, v29 = y4 + (1 : Int32) → wX8_judge_L66 z1 z2 K135 K153 post n v28 v29 σ26) ∧ (¬ r25 = v20 → K135 y3 y4 σ26))) σ))) ∧ (¬ ((y3 >>> (v20 &&& 31)) &&& (1 : Int32)) = (1 : Int32) → K135 y3 y4 σ))))
def wX8_judge (x1 : Int32) (x2 : Int32) (post : Int32 → hsS → Prop) (σ : hsS) : Prop := ∀ σ1 : hsS, σ1 = hsI σ 0 (0 : Int32) → wX8_isRow x1 (fun r2 σ3 => ((r2 = (0 : Int32) → wX8_fail (1 : Int32) (fun r5 σ6 => post r5 σ6) σ3) ∧ (¬ r2 = (0 : Int32) → wX8_isIn x2 (0 : Int32) (3 : Int32) (fun r7 σ8 => ((r7 = (0 : Int32) → wX8_fail (1 : Int32) (fun r10 σ11 => post r10 σ11) σ8) ∧ (¬ r7 = (0 : Int32) → ((x2 = (0 : Int32) → vp_in x1 12 ∧ post (σ8.2.1 27 x1.toNatClampNeg) σ8) ∧ (¬ x2 = (0 : Int32) → ((x2 = (3 : Int32) → wX8_leftBehind x1 (fun r14 σ15 => post r14 σ15) σ8) ∧ (¬ x2 = (3 : Int32) → wX8_look  (fun σ17 => ∀ v18 : Int32, v18 = ((1 : Int32) <<< ((σ17.1 25) &&& 31)) - (1 : Int32) → ∃ n30, wX8_judge_L66 x1 x2 (fun v31 v32 σ33 => post v32 σ33) (fun v34 v35 σ36 => post (-1 : Int32) σ36) post n30 v18 (0 : Int32) σ17) σ8))))))) σ3))) σ1
set_option maxHeartbeats 4000000 in
set_option maxRecDepth 100000 in
theorem kcX8_judge (l : Launch) (D : va_G) (c : Nat → ClassId) (q : Nat → Nat) (ev : State → Heap → Prop) (hev : evOK (wdA 31 q) ev) (σ : hsS) (x1 : Int32) (x2 : Int32) (post : Int32 → hsS → Prop) (hw : wX8_judge x1 x2 post σ) : Met l yX8_judge (Cond.code yX8_judge cX8_judge 7 (some .int) :: tb_L) { frames := 2, cells := 0, slots := 0, locals := 47 } (wdPc D (mw c q) (mwT c) (wdA 31 q) ev σ [.ref (q 0), .int x1, .int x2]) (va_Qi post (wdB D (mw c q)) (wdA 31 q)) 0 0 (wdA 31 q) := by
  refine Met.ofW (cc := cX8_judge) (maxL := 7) (ret := (some .int)) (by decide) rfl ?_
  intro p e s m args below meth c₀ s₁ Bd hml hv
  obtain ⟨rfl, hP, hK, hD0, hE⟩ := hv
  have hx := Bd.exec
  have hb := Bd.bytes
  have hr := Bd.returns
  have hts := atoms_spec (ws := Cond.code yX8_judge cX8_judge 7 (some .int) :: tb_L) Bd.pre
  have htb : ∀ w ∈ tb_L, w.before [.ref (q 0), .int x1, .int x2].toArray s = true := fun w h => hts w (List.mem_cons_of_mem _ h)
  have hown : s.vm.findClass RX8 = some m.cls := findClass_of_methodNamed Bd.named
  have hlocks := Bd.notSynchronized
  have hS : va_S (wdA 31 q) s.heap s.heap [] := va_S.rf
  have hD := hD0
  have L66 : ∀ (K135 : Int32 → Int32 → hsS → Prop) (K153 : Int32 → Int32 → hsS → Prop) (z1 : Int32) (z2 : Int32) (n : Nat) (y3 : Int32) (y4 : Int32) (σ : hsS) (H : Heap) (locs : List Loc) (ls : Array Slot), wX8_judge_L66 z1 z2 K135 K153 post n y3 y4 σ → (∀ (y3 : Int32) (y4 : Int32) (σ : hsS) (H : Heap) (locs : List Loc) (ls : Array Slot), K135 y3 y4 σ → va_P D vwCl (mw c q σ) H → va_S (wdA 31 q) s.heap H locs → lv_has ls 7 [(0, .ref (q 0)), (1, .int z1), (2, .int z2), (3, .int y3), (4, .int y4)] → W p l e (headSpec (Cond.code yX8_judge cX8_judge 7 (some .int) :: tb_L) { frames := 2, cells := 0, slots := 0, locals := 47 }).room s m [.ref (q 0), .int x1, .int x2].toArray below meth c₀ H locs 0 0 (MQ below (va_Qi post (wdB D (mw c q)) (wdA 31 q)) [.ref (q 0), .int x1, .int x2].toArray s 0 0 (wdA 31 q)) (F0 m 135 ls [])) → (∀ (y3 : Int32) (y4 : Int32) (σ : hsS) (H : Heap) (locs : List Loc) (ls : Array Slot), K153 y3 y4 σ → va_P D vwCl (mw c q σ) H → va_S (wdA 31 q) s.heap H locs → lv_has ls 7 [(0, .ref (q 0)), (1, .int z1), (2, .int z2), (3, .int y3), (4, .int y4)] → W p l e (headSpec (Cond.code yX8_judge cX8_judge 7 (some .int) :: tb_L) { frames := 2, cells := 0, slots := 0, locals := 47 }).room s m [.ref (q 0), .int x1, .int x2].toArray below meth c₀ H locs 0 0 (MQ below (va_Qi post (wdB D (mw c q)) (wdA 31 q)) [.ref (q 0), .int x1, .int x2].toArray s 0 0 (wdA 31 q)) (F0 m 153 ls [])) → va_P D vwCl (mw c q σ) H → va_S (wdA 31 q) s.heap H locs → lv_has ls 7 [(0, .ref (q 0)), (1, .int z1), (2, .int z2), (3, .int y3), (4, .int y4)] → W p l e (headSpec (Cond.code yX8_judge cX8_judge 7 (some .int) :: tb_L) { frames := 2, cells := 0, slots := 0, locals := 47 }).room s m [.ref (q 0), .int x1, .int x2].toArray below meth c₀ H locs 0 0 (MQ below (va_Qi post (wdB D (mw c q)) (wdA 31 q)) [.ref (q 0), .int x1, .int x2].toArray s 0 0 (wdA 31 q)) (F0 m 66 ls []) := by
    intro K135 K153 z1 z2 n
    induction n with
    | zero =>
      intro y3 y4 σ H locs ls hw hk135 hk153 hP hS hl
      exact (show False from hw).elim
    | succ n ih =>
      intro y3 y4 σ H locs ls hw hk135 hk153 hP hS hl
      rw [wX8_judge_L66] at hw
      have hD : va_D (wdA 31 q) (mw c q σ) := mw_D hD0
      refine lv_iload hx hb dX8_judge_66 (lv_at hl 4 rfl) ?_
      refine lv_aload_n hx hb dX8_judge_68 rfl (lv_at hl 0 rfl) ?_
      refine va_get (D := D) (ci := 8) (C := RX8) (T := TX8) (N := 57) hx hb htb inX8 hown hK hP 0 (mw_0 c q σ) rfl 53 (by decide) (htb _ tb_1234) (fun _ h9 => h9) rfl dX8_judge_69 ?_
      refine lv_iload_n hx hb dX8_judge_72 rfl (lv_at hl 1 rfl) ?_
      refine va_iald hx hb hK hP 27 26 (mw_27 c q σ) rfl hw.1 dX8_judge_73 ?_
      have hw := hw.2
      refine lv_icmp_ge (tgt := 153) hx hb dX8_judge_74 (by decide) (fun c19 => ?_) (fun c19 => ?_)
      · have hw := hw.1 c19
        exact hk153 y3 y4 σ _ _ _ hw hP hS (lv_sub hl [0, 1, 2, 3, 4] rfl)
      · have hw := hw.2 c19
        refine lv_aload_n hx hb dX8_judge_77 rfl (lv_at hl 0 rfl) ?_
        refine va_get (D := D) (ci := 8) (C := RX8) (T := TX8) (N := 57) hx hb htb inX8 hown hK hP 0 (mw_0 c q σ) rfl 54 (by decide) (htb _ tb_1235) (fun _ h9 => h9) rfl dX8_judge_78 ?_
        refine lv_bipush (v := (9 : Int32)) hx hb dX8_judge_81 (by decide) ?_
        refine lv_iload_n hx hb dX8_judge_83 rfl (lv_at hl 1 rfl) ?_
        refine lv_imul hx hb dX8_judge_84 ?_
        refine lv_iload hx hb dX8_judge_85 (lv_at hl 4 rfl) ?_
        refine lv_iadd hx hb dX8_judge_87 ?_
        refine va_iald hx hb hK hP 28 27 (mw_28 c q σ) rfl hw.1 dX8_judge_88 ?_
        have hw := hw.2
        refine lv_topi (fun v20 ev20 => ?_)
        have hw := hw v20 ev20
        refine lv_istore (lv' := [(5, .int v20), (0, .ref (q 0)), (1, .int z1), (2, .int z2), (3, .int y3), (4, .int y4)]) hx hb dX8_judge_89 hl (by decide) rfl (fun ls hl => ?_)
        refine lv_iload_n hx hb dX8_judge_91 rfl (lv_at hl 4 rfl) ?_
        refine lv_iload hx hb dX8_judge_92 (lv_at hl 0 rfl) ?_
        refine lv_ishr hx hb dX8_judge_94 ?_
        refine lv_iconst (v := (1 : Int32)) hx hb dX8_judge_95 (by decide) ?_
        refine lv_iand hx hb dX8_judge_96 ?_
        refine lv_iconst (v := (1 : Int32)) hx hb dX8_judge_97 (by decide) ?_
        refine lv_icmp_ne (tgt := 127) hx hb dX8_judge_98 (by decide) (fun c21 => ?_) (fun c21 => ?_)
        · have hw := hw.2 c21
          refine lv_iconst (v := (0 : Int32)) hx hb dX8_judge_127 (by decide) ?_
          refine lv_istore (lv' := [(6, .int (0 : Int32)), (5, .int v20), (0, .ref (q 0)), (1, .int z1), (2, .int z2), (3, .int y3), (4, .int y4)]) hx hb dX8_judge_128 hl (by decide) rfl (fun ls hl => ?_)
          refine lv_iload hx hb dX8_judge_130 (lv_at hl 0 rfl) ?_
          refine lv_if_ne (tgt := 138) hx hb dX8_judge_132 (by decide) (fun h9 => absurd h9 (by decide)) (fun _ => ?_)
          exact hk135 y3 y4 σ _ _ _ hw hP hS (lv_sub hl [2, 3, 4, 5, 6] rfl)
        · have hw := hw.1 c21
          refine lv_iload_n hx hb dX8_judge_101 rfl (lv_at hl 3 rfl) ?_
          refine lv_iconst (v := (1 : Int32)) hx hb dX8_judge_102 (by decide) ?_
          refine lv_icmp_eq (tgt := 123) hx hb dX8_judge_103 (by decide) (fun c22 => ?_) (fun c22 => ?_)
          · have hw := hw.1 c22
            refine lv_iconst (v := (1 : Int32)) hx hb dX8_judge_123 (by decide) ?_
            refine lv_goto (tgt := 128) hx hb dX8_judge_124 (by decide) ?_
            refine lv_istore (lv' := [(6, .int (1 : Int32)), (5, .int v20), (0, .ref (q 0)), (1, .int z1), (2, .int z2), (3, .int y3), (4, .int y4)]) hx hb dX8_judge_128 hl (by decide) rfl (fun ls hl => ?_)
            refine lv_iload hx hb dX8_judge_130 (lv_at hl 0 rfl) ?_
            refine lv_if_ne (tgt := 138) hx hb dX8_judge_132 (by decide) (fun _ => ?_) (fun h9 => absurd h9 (by decide))
            refine lv_iload_n hx hb dX8_judge_138 rfl (lv_at hl 5 rfl) ?_
            refine lv_iconst (v := (1 : Int32)) hx hb dX8_judge_139 (by decide) ?_
            refine lv_iload hx hb dX8_judge_140 (lv_at hl 1 rfl) ?_
            refine lv_ishl hx hb dX8_judge_142 ?_
            refine lv_iconst (v := (-1 : Int32)) hx hb dX8_judge_143 (by decide) ?_
            refine lv_ixor hx hb dX8_judge_144 ?_
            refine lv_iand hx hb dX8_judge_145 ?_
            refine lv_topi (fun v23 ev23 => ?_)
            have hw := hw v23 ev23
            refine lv_istore_n (lv' := [(3, .int v23), (6, .int (1 : Int32)), (5, .int v20), (0, .ref (q 0)), (1, .int z1), (2, .int z2), (4, .int y4)]) hx hb dX8_judge_146 rfl hl (by decide) rfl (fun ls hl => ?_)
            obtain ⟨v24, ev24⟩ : ∃ z : Int32, z = y4 + (1 : Int32) := ⟨_, rfl⟩
            have hw := hw v24 ev24
            refine lv_iinc (v := v24) (lv' := [(4, .int v24), (3, .int v23), (6, .int (1 : Int32)), (5, .int v20), (0, .ref (q 0)), (1, .int z1), (2, .int z2)]) hx hb dX8_judge_147 hl (k := 6) rfl (by rw [ev24]; rfl) (by decide) rfl (fun ls hl => ?_)
            refine lv_goto (tgt := 66) hx hb dX8_judge_150 (by decide) ?_
            exact ih v23 v24 σ _ _ _ hw hk135 hk153 hP hS (lv_sub hl [4, 5, 6, 1, 0] rfl)
          · have hw := hw.2 c22
            refine lv_aload_n hx hb dX8_judge_106 rfl (lv_at hl 1 rfl) ?_
            refine lv_aload_n hx hb dX8_judge_107 rfl (lv_at hl 1 rfl) ?_
            refine va_get (D := D) (ci := 8) (C := RX8) (T := TX8) (N := 57) hx hb htb inX8 hown hK hP 0 (mw_0 c q σ) rfl 10 (by decide) (htb _ tb_1191) (fun _ h9 => h9) rfl dX8_judge_108 ?_
            refine lv_iload hx hb dX8_judge_111 (lv_at hl 5 rfl) ?_
            refine va_iald hx hb hK hP 10 9 (mw_10 c q σ) rfl hw.1 dX8_judge_113 ?_
            have hw := hw.2
            refine lv_iload_n hx hb dX8_judge_114 rfl (lv_at hl 4 rfl) ?_
            refine va_calli (va_runV (As := [.int (σ.2.1 10 y4.toNatClampNeg), .int y3]) (rest := []) ⟨hx, hb, hml, hown, htb⟩ (kcX8_plainly l D c q ev hev σ (σ.2.1 10 y4.toNatClampNeg) y3 _ hw) (tb_CW htb kX8_plainly tb_1563 tb_1565 tb_71 ⟨Nat.le_of_ble_eq_true rfl, Nat.le_of_ble_eq_true rfl⟩) (wd_preV (wd := mw c q) (k := 0) hev hK hP hD hE hS (mw_0 c q σ) rfl) rfl rfl hl.1 rfl (lv_room (Nat.le_of_ble_eq_true rfl)) dX8_judge_115 ⟨Nat.zero_le _, Nat.zero_le _⟩) hS (fun q _ h => h) (fun q h => h) (fun r25 σ26 t H1 locs1 ht hvm hw hB hz1 hk1 hS => ?_)
            have hP : va_P D vwCl (mw c q σ26) H1 := ht ▸ hB
            have hD : va_D (wdA 31 q) (mw c q σ26) := mw_D hD0
            refine lv_iload hx hb dX8_judge_118 (lv_at hl 0 rfl) ?_
            refine lv_icmp_ne (tgt := 127) hx hb dX8_judge_120 (by decide) (fun c27 => ?_) (fun c27 => ?_)
            · have hw := hw.2 c27
              refine lv_iconst (v := (0 : Int32)) hx hb dX8_judge_127 (by decide) ?_
              refine lv_istore (lv' := [(6, .int (0 : Int32)), (5, .int v20), (0, .ref (q 0)), (1, .int z1), (2, .int z2), (3, .int y3), (4, .int y4)]) hx hb dX8_judge_128 hl (by decide) rfl (fun ls hl => ?_)
              refine lv_iload hx hb dX8_judge_130 (lv_at hl 0 rfl) ?_
              refine lv_if_ne (tgt := 138) hx hb dX8_judge_132 (by decide) (fun h9 => absurd h9 (by decide)) (fun _ => ?_)
              exact hk135 y3 y4 σ26 _ _ _ hw hP hS (lv_sub hl [2, 3, 4, 5, 6] rfl)
            · have hw := hw.1 c27
              refine lv_iconst (v := (1 : Int32)) hx hb dX8_judge_123 (by decide) ?_
              refine lv_goto (tgt := 128) hx hb dX8_judge_124 (by decide) ?_
              refine lv_istore (lv' := [(6, .int (1 : Int32)), (5, .int v20), (0, .ref (q 0)), (1, .int z1), (2, .int z2), (3, .int y3), (4, .int y4)]) hx hb dX8_judge_128 hl (by decide) rfl (fun ls hl => ?_)
              refine lv_iload hx hb dX8_judge_130 (lv_at hl 0 rfl) ?_
              refine lv_if_ne (tgt := 138) hx hb dX8_judge_132 (by decide) (fun _ => ?_) (fun h9 => absurd h9 (by decide))
              refine lv_iload_n hx hb dX8_judge_138 rfl (lv_at hl 5 rfl) ?_
              refine lv_iconst (v := (1 : Int32)) hx hb dX8_judge_139 (by decide) ?_
              refine lv_iload hx hb dX8_judge_140 (lv_at hl 1 rfl) ?_
              refine lv_ishl hx hb dX8_judge_142 ?_
              refine lv_iconst (v := (-1 : Int32)) hx hb dX8_judge_143 (by decide) ?_
              refine lv_ixor hx hb dX8_judge_144 ?_
              refine lv_iand hx hb dX8_judge_145 ?_
              refine lv_topi (fun v28 ev28 => ?_)
              have hw := hw v28 ev28
              refine lv_istore_n (lv' := [(3, .int v28), (6, .int (1 : Int32)), (5, .int v20), (0, .ref (q 0)), (1, .int z1), (2, .int z2), (4, .int y4)]) hx hb dX8_judge_146 rfl hl (by decide) rfl (fun ls hl => ?_)
              obtain ⟨v29, ev29⟩ : ∃ z : Int32, z = y4 + (1 : Int32) := ⟨_, rfl⟩
              have hw := hw v29 ev29
              refine lv_iinc (v := v29) (lv' := [(4, .int v29), (3, .int v28), (6, .int (1 : Int32)), (5, .int v20), (0, .ref (q 0)), (1, .int z1), (2, .int z2)]) hx hb dX8_judge_147 hl (k := 6) rfl (by rw [ev29]; rfl) (by decide) rfl (fun ls hl => ?_)
              refine lv_goto (tgt := 66) hx hb dX8_judge_150 (by decide) ?_
              exact ih v28 v29 σ26 _ _ _ hw hk135 hk153 hP hS (lv_sub hl [4, 5, 6, 1, 0] rfl)
  have hl := lv_entry ([.ref (q 0), .int x1, .int x2]) (n := 7) (Nat.le_of_ble_eq_true rfl)
  rw [lg_entry_eq]
  generalize (lg_sl ([.ref (q 0), .int x1, .int x2]) ++ List.replicate (7 - (lg_sl ([.ref (q 0), .int x1, .int x2])).length) Slot.unset).toArray = ls at hl ⊢
  have hl : lv_has ls 7 [(0, .ref (q 0)), (1, .int x1), (2, .int x2)] := hl
  unfold wX8_judge at hw
  refine lv_aload_n hx hb dX8_judge_0 rfl (lv_at hl 0 rfl) ?_
  refine lv_iconst (v := (0 : Int32)) hx hb dX8_judge_1 (by decide) ?_
  refine va_put (D := D) (ci := 8) (ty := .int) (C := RX8) (T := TX8) (N := 57) hx hb htb inX8 tyX8 tyX8_ok nmX8 hown hK hP hD hS 0 (mw_0 c q σ) rfl 0 (by decide) (htb _ tb_1181) (fun _ h9 => h9) rfl (by decide +kernel) rfl rfl (Nat.le_of_ble_eq_true rfl) dX8_judge_2 (fun H locs hP hD hS => ?_)
  have hP : va_P D vwCl (mw c q (hsI σ 0 (0 : Int32))) H := hP
  obtain ⟨σ1, eσ1⟩ : ∃ z : hsS, z = hsI σ 0 (0 : Int32) := ⟨_, rfl⟩
  rw [← eσ1] at hP
  have hD : va_D (wdA 31 q) (mw c q σ1) := mw_D hD0
  have hw := hw σ1 eσ1
  refine lv_aload_n hx hb dX8_judge_5 rfl (lv_at hl 0 rfl) ?_
  refine lv_iload_n hx hb dX8_judge_6 rfl (lv_at hl 1 rfl) ?_
  refine va_calli (va_runV (As := [.int x1]) (rest := []) ⟨hx, hb, hml, hown, htb⟩ (kcX8_isRow l D c q ev hev σ1 x1 _ hw) (tb_CW htb kX8_isRow tb_1684 tb_1686 tb_86 ⟨Nat.le_of_ble_eq_true rfl, Nat.le_of_ble_eq_true rfl⟩) (wd_preV (wd := mw c q) (k := 0) hev hK hP hD hE hS (mw_0 c q σ1) rfl) rfl rfl hl.1 rfl (lv_room (Nat.le_of_ble_eq_true rfl)) dX8_judge_7 ⟨Nat.zero_le _, Nat.zero_le _⟩) hS (fun q _ h => h) (fun q h => h) (fun r2 σ3 t H1 locs1 ht hvm hw hB hz1 hk1 hS => ?_)
  have hP : va_P D vwCl (mw c q σ3) H1 := ht ▸ hB
  have hD : va_D (wdA 31 q) (mw c q σ3) := mw_D hD0
  refine lv_if_eq (tgt := 22) hx hb dX8_judge_10 (by decide) (fun c4 => ?_) (fun c4 => ?_)
  · have hw := hw.1 c4
    refine lv_aload_n hx hb dX8_judge_22 rfl (lv_at hl 0 rfl) ?_
    refine lv_iconst (v := (1 : Int32)) hx hb dX8_judge_23 (by decide) ?_
    refine va_calli (va_runV (As := [.int (1 : Int32)]) (rest := []) ⟨hx, hb, hml, hown, htb⟩ (kcX8_fail l D c q ev hev σ3 (1 : Int32) _ hw) (tb_CW htb kX8_fail tb_1366 tb_1368 tb_42 ⟨Nat.le_of_ble_eq_true rfl, Nat.le_of_ble_eq_true rfl⟩) (wd_preV (wd := mw c q) (k := 0) hev hK hP hD hE hS (mw_0 c q σ3) rfl) rfl rfl hl.1 rfl (lv_room (Nat.le_of_ble_eq_true rfl)) dX8_judge_24 ⟨Nat.zero_le _, Nat.zero_le _⟩) hS (fun q _ h => h) (fun q h => h) (fun r5 σ6 t H1 locs1 ht hvm hw hB hz1 hk1 hS => ?_)
    have hP : va_P D vwCl (mw c q σ6) H1 := ht ▸ hB
    have hD : va_D (wdA 31 q) (mw c q σ6) := mw_D hD0
    exact W.iret hx hb hr (fun t ht hW => ⟨⟨_, σ6, rfl, hw, by unfold wdB; rw [ht]; exact hP⟩, hS.F ht⟩) hS.2.2 dX8_judge_27
  · have hw := hw.2 c4
    refine lv_iload_n hx hb dX8_judge_13 rfl (lv_at hl 2 rfl) ?_
    refine lv_iconst (v := (0 : Int32)) hx hb dX8_judge_14 (by decide) ?_
    refine lv_iconst (v := (3 : Int32)) hx hb dX8_judge_15 (by decide) ?_
    refine va_calli (va_runS (As := [.int x2, .int (0 : Int32), .int (3 : Int32)]) (rest := []) ⟨hx, hb, hml, hown, htb⟩ (kcX8_isIn_m l D c q ev hev σ3 x2 (0 : Int32) (3 : Int32) _ hw) (tb_CS htb kX8_isIn tb_1462 tb_1463 ⟨Nat.le_of_ble_eq_true rfl, Nat.le_of_ble_eq_true rfl⟩) (wd_preS (wd := mw c q) hev hK hP hD hE hS) rfl rfl hl.1 rfl (lv_room (Nat.le_of_ble_eq_true rfl)) dX8_judge_16 ⟨Nat.zero_le _, Nat.zero_le _⟩) hS (fun q _ h => h) (fun q h => h) (fun r7 σ8 t H1 locs1 ht hvm hw hB hz1 hk1 hS => ?_)
    have hP : va_P D vwCl (mw c q σ8) H1 := ht ▸ hB
    have hD : va_D (wdA 31 q) (mw c q σ8) := mw_D hD0
    refine lv_if_ne (tgt := 28) hx hb dX8_judge_19 (by decide) (fun c9 => ?_) (fun c9 => ?_)
    · have hw := hw.2 c9
      refine lv_iload_n hx hb dX8_judge_28 rfl (lv_at hl 2 rfl) ?_
      refine lv_if_ne (tgt := 39) hx hb dX8_judge_29 (by decide) (fun c12 => ?_) (fun c12 => ?_)
      · have hw := hw.2 c12
        refine lv_iload_n hx hb dX8_judge_39 rfl (lv_at hl 2 rfl) ?_
        refine lv_iconst (v := (3 : Int32)) hx hb dX8_judge_40 (by decide) ?_
        refine lv_icmp_ne (tgt := 50) hx hb dX8_judge_41 (by decide) (fun c13 => ?_) (fun c13 => ?_)
        · have hw := hw.2 c13
          refine lv_aload_n hx hb dX8_judge_50 rfl (lv_at hl 0 rfl) ?_
          refine va_callv (va_runV (As := []) (rest := []) ⟨hx, hb, hml, hown, htb⟩ (kcX8_look l D c q ev hev σ8  _ hw) (tb_CW htb kX8_look tb_1500 tb_1502 tb_63 ⟨Nat.le_of_ble_eq_true rfl, Nat.le_of_ble_eq_true rfl⟩) (wd_preV (wd := mw c q) (k := 0) hev hK hP hD hE hS (mw_0 c q σ8) rfl) rfl rfl hl.1 rfl (lv_room (Nat.le_of_ble_eq_true rfl)) dX8_judge_51 ⟨Nat.zero_le _, Nat.zero_le _⟩) hS (fun q _ h => h) (fun q h => h) (fun σ17 t H1 locs1 ht hvm hw hB hz1 hk1 hS => ?_)
          have hP : va_P D vwCl (mw c q σ17) H1 := ht ▸ hB
          have hD : va_D (wdA 31 q) (mw c q σ17) := mw_D hD0
          refine lv_iconst (v := (1 : Int32)) hx hb dX8_judge_54 (by decide) ?_
          refine lv_aload_n hx hb dX8_judge_55 rfl (lv_at hl 0 rfl) ?_
          refine va_get (D := D) (ci := 8) (C := RX8) (T := TX8) (N := 57) hx hb htb inX8 hown hK hP 0 (mw_0 c q σ17) rfl 25 (by decide) (htb _ tb_1206) (fun _ h9 => h9) rfl dX8_judge_56 ?_
          refine lv_ishl hx hb dX8_judge_59 ?_
          refine lv_iconst (v := (1 : Int32)) hx hb dX8_judge_60 (by decide) ?_
          refine lv_isub hx hb dX8_judge_61 ?_
          refine lv_topi (fun v18 ev18 => ?_)
          have hw := hw v18 ev18
          refine lv_istore_n (lv' := [(3, .int v18), (0, .ref (q 0)), (1, .int x1), (2, .int x2)]) hx hb dX8_judge_62 rfl hl (by decide) rfl (fun ls hl => ?_)
          refine lv_iconst (v := (0 : Int32)) hx hb dX8_judge_63 (by decide) ?_
          refine lv_istore (lv' := [(4, .int (0 : Int32)), (3, .int v18), (0, .ref (q 0)), (1, .int x1), (2, .int x2)]) hx hb dX8_judge_64 hl (by decide) rfl (fun ls hl => ?_)
          obtain ⟨n30, hw⟩ := hw
          refine L66 _ _ x1 x2 n30 v18 (0 : Int32) σ17 _ _ _ hw ?_ ?_ hP hS (lv_sub hl [2, 3, 4, 1, 0] rfl)
          · intro v31 v32 σ33 H locs ls hw hP hS hl
            have hD : va_D (wdA 31 q) (mw c q σ33) := mw_D hD0
            refine lv_iload hx hb dX8_judge_135 (lv_at hl 4 rfl) ?_
            exact W.iret hx hb hr (fun t ht hW => ⟨⟨_, σ33, rfl, hw, by unfold wdB; rw [ht]; exact hP⟩, hS.F ht⟩) hS.2.2 dX8_judge_137
          · intro v34 v35 σ36 H locs ls hw hP hS hl
            have hD : va_D (wdA 31 q) (mw c q σ36) := mw_D hD0
            refine lv_iconst (v := (-1 : Int32)) hx hb dX8_judge_153 (by decide) ?_
            exact W.iret hx hb hr (fun t ht hW => ⟨⟨_, σ36, rfl, hw, by unfold wdB; rw [ht]; exact hP⟩, hS.F ht⟩) hS.2.2 dX8_judge_154
        · have hw := hw.1 c13
          refine lv_aload_n hx hb dX8_judge_44 rfl (lv_at hl 0 rfl) ?_
          refine lv_iload_n hx hb dX8_judge_45 rfl (lv_at hl 1 rfl) ?_
          refine va_calli (va_runV (As := [.int x1]) (rest := []) ⟨hx, hb, hml, hown, htb⟩ (kcX8_leftBehind l D c q ev hev σ8 x1 _ hw) (tb_CW htb kX8_leftBehind tb_1688 tb_1690 tb_87 ⟨Nat.le_of_ble_eq_true rfl, Nat.le_of_ble_eq_true rfl⟩) (wd_preV (wd := mw c q) (k := 0) hev hK hP hD hE hS (mw_0 c q σ8) rfl) rfl rfl hl.1 rfl (lv_room (Nat.le_of_ble_eq_true rfl)) dX8_judge_46 ⟨Nat.zero_le _, Nat.zero_le _⟩) hS (fun q _ h => h) (fun q h => h) (fun r14 σ15 t H1 locs1 ht hvm hw hB hz1 hk1 hS => ?_)
          have hP : va_P D vwCl (mw c q σ15) H1 := ht ▸ hB
          have hD : va_D (wdA 31 q) (mw c q σ15) := mw_D hD0
          exact W.iret hx hb hr (fun t ht hW => ⟨⟨_, σ15, rfl, hw, by unfold wdB; rw [ht]; exact hP⟩, hS.F ht⟩) hS.2.2 dX8_judge_49
      · have hw := hw.1 c12
        refine lv_aload_n hx hb dX8_judge_32 rfl (lv_at hl 0 rfl) ?_
        refine va_get (D := D) (ci := 8) (C := RX8) (T := TX8) (N := 57) hx hb htb inX8 hown hK hP 0 (mw_0 c q σ8) rfl 53 (by decide) (htb _ tb_1234) (fun _ h9 => h9) rfl dX8_judge_33 ?_
        refine lv_iload_n hx hb dX8_judge_36 rfl (lv_at hl 1 rfl) ?_
        refine va_iald hx hb hK hP 27 26 (mw_27 c q σ8) rfl hw.1 dX8_judge_37 ?_
        have hw := hw.2
        exact W.iret hx hb hr (fun t ht hW => ⟨⟨_, σ8, rfl, hw, by unfold wdB; rw [ht]; exact hP⟩, hS.F ht⟩) hS.2.2 dX8_judge_38
    · have hw := hw.1 c9
      refine lv_aload_n hx hb dX8_judge_22 rfl (lv_at hl 0 rfl) ?_
      refine lv_iconst (v := (1 : Int32)) hx hb dX8_judge_23 (by decide) ?_
      refine va_calli (va_runV (As := [.int (1 : Int32)]) (rest := []) ⟨hx, hb, hml, hown, htb⟩ (kcX8_fail l D c q ev hev σ8 (1 : Int32) _ hw) (tb_CW htb kX8_fail tb_1366 tb_1368 tb_42 ⟨Nat.le_of_ble_eq_true rfl, Nat.le_of_ble_eq_true rfl⟩) (wd_preV (wd := mw c q) (k := 0) hev hK hP hD hE hS (mw_0 c q σ8) rfl) rfl rfl hl.1 rfl (lv_room (Nat.le_of_ble_eq_true rfl)) dX8_judge_24 ⟨Nat.zero_le _, Nat.zero_le _⟩) hS (fun q _ h => h) (fun q h => h) (fun r10 σ11 t H1 locs1 ht hvm hw hB hz1 hk1 hS => ?_)
      have hP : va_P D vwCl (mw c q σ11) H1 := ht ▸ hB
      have hD : va_D (wdA 31 q) (mw c q σ11) := mw_D hD0
      exact W.iret hx hb hr (fun t ht hW => ⟨⟨_, σ11, rfl, hw, by unfold wdB; rw [ht]; exact hP⟩, hS.F ht⟩) hS.2.2 dX8_judge_27
def wX8_isHolder (x0 : Int32) (post : Int32 → hsS → Prop) (σ : hsS) : Prop := wX8_isIn x0 (0 : Int32) (7 : Int32) (fun r1 σ2 => (r1 = 0 ∨ r1 = 1) ∧ post r1 σ2) σ
set_option maxHeartbeats 4000000 in
set_option maxRecDepth 100000 in
theorem kcX8_isHolder_m (l : Launch) (D : va_G) (c : Nat → ClassId) (q : Nat → Nat) (ev : State → Heap → Prop) (hev : evOK (wdA 31 q) ev) (σ : hsS) (x0 : Int32) (post : Int32 → hsS → Prop) (hw : wX8_isHolder x0 post σ) : Met l yX8_isHolder (Cond.code yX8_isHolder cX8_isHolder 1 (some .boolean) :: tb_L) { frames := 1, cells := 0, slots := 0, locals := 22 } (wdPc D (mw c q) (mwT c) (wdA 31 q) ev σ [.int x0]) (va_Qi post (wdB D (mw c q)) (wdA 31 q)) 0 0 (wdA 31 q) := by
  refine Met.ofW (cc := cX8_isHolder) (maxL := 1) (ret := (some .boolean)) (by decide) rfl ?_
  intro p e s m args below meth c₀ s₁ Bd hml hv
  obtain ⟨rfl, hP, hK, hD0, hE⟩ := hv
  have hx := Bd.exec
  have hb := Bd.bytes
  have hr := Bd.returns
  have hts := atoms_spec (ws := Cond.code yX8_isHolder cX8_isHolder 1 (some .boolean) :: tb_L) Bd.pre
  have htb : ∀ w ∈ tb_L, w.before [.int x0].toArray s = true := fun w h => hts w (List.mem_cons_of_mem _ h)
  have hown : s.vm.findClass RX8 = some m.cls := findClass_of_methodNamed Bd.named
  have hlocks := Bd.notSynchronized
  have hS : va_S (wdA 31 q) s.heap s.heap [] := va_S.rf
  have hD := hD0
  have hl := lv_entry ([.int x0]) (n := 1) (Nat.le_of_ble_eq_true rfl)
  rw [lg_entry_eq]
  generalize (lg_sl ([.int x0]) ++ List.replicate (1 - (lg_sl ([.int x0])).length) Slot.unset).toArray = ls at hl ⊢
  have hl : lv_has ls 1 [(0, .int x0)] := hl
  unfold wX8_isHolder at hw
  refine lv_iload_n hx hb dX8_isHolder_0 rfl (lv_at hl 0 rfl) ?_
  refine lv_iconst (v := (0 : Int32)) hx hb dX8_isHolder_1 (by decide) ?_
  refine lv_bipush (v := (7 : Int32)) hx hb dX8_isHolder_2 (by decide) ?_
  refine va_calli (va_runS (As := [.int x0, .int (0 : Int32), .int (7 : Int32)]) (rest := []) ⟨hx, hb, hml, hown, htb⟩ (kcX8_isIn_m l D c q ev hev σ x0 (0 : Int32) (7 : Int32) _ hw) (tb_CS htb kX8_isIn tb_1462 tb_1463 ⟨Nat.le_of_ble_eq_true rfl, Nat.le_of_ble_eq_true rfl⟩) (wd_preS (wd := mw c q) hev hK hP hD hE hS) rfl rfl hl.1 rfl (lv_room (Nat.le_of_ble_eq_true rfl)) dX8_isHolder_4 ⟨Nat.zero_le _, Nat.zero_le _⟩) hS (fun q _ h => h) (fun q h => h) (fun r1 σ2 t H1 locs1 ht hvm hw hB hz1 hk1 hS => ?_)
  have hP : va_P D vwCl (mw c q σ2) H1 := ht ▸ hB
  have hD : va_D (wdA 31 q) (mw c q σ2) := mw_D hD0
  have hq := hw.2
  exact W.zret hx hb hr (nar_b hw.1) (fun t ht hW => ⟨⟨_, σ2, rfl, hq, by unfold wdB; rw [ht]; exact hP⟩, hS.F ht⟩) hS.2.2 dX8_isHolder_7
def wX8_hold (x1 : Int32) (x2 : Int32) (x3 : Int32) (post : Int32 → hsS → Prop) (σ : hsS) : Prop := ∀ σ1 : hsS, σ1 = hsI σ 0 (0 : Int32) → wX8_isIn x2 (0 : Int32) (2 : Int32) (fun r2 σ3 => ((r2 = (0 : Int32) → wX8_refuse (1 : Int32) (fun r5 σ6 => (r5 = 0 ∨ r5 = 1) ∧ post r5 σ6) σ3) ∧ (¬ r2 = (0 : Int32) → ((x2 = (0 : Int32) → wX8_isThing x3 (fun r8 σ9 => ((r8 = (0 : Int32) → wX8_refuse (1 : Int32) (fun r11 σ12 => (r11 = 0 ∨ r11 = 1) ∧ post r11 σ12) σ9) ∧ (¬ r8 = (0 : Int32) → ((x2 = (1 : Int32) → wX8_isRow x3 (fun r14 σ15 => ((r14 = (0 : Int32) → wX8_refuse (1 : Int32) (fun r17 σ18 => (r17 = 0 ∨ r17 = 1) ∧ post r17 σ18) σ15) ∧ (¬ r14 = (0 : Int32) → wX8_isHolder x1 (fun r19 σ20 => ((r19 = (0 : Int32) → post (0 : Int32) σ20) ∧ (¬ r19 = (0 : Int32) → ((x2 = (2 : Int32) → vp_in x1 8 ∧ ∀ σ23 : hsS, σ23 = hsA σ20 29 (upd (σ20.2.1 29) x1.toNatClampNeg (-1 : Int32)) → vp_in x1 8 ∧ ∀ σ24 : hsS, σ24 = hsA σ23 30 (upd (σ23.2.1 30) x1.toNatClampNeg x3) → post (1 : Int32) σ24) ∧ (¬ x2 = (2 : Int32) → vp_in x1 8 ∧ ∀ σ25 : hsS, σ25 = hsA σ20 29 (upd (σ20.2.1 29) x1.toNatClampNeg x2) → vp_in x1 8 ∧ ∀ σ26 : hsS, σ26 = hsA σ25 30 (upd (σ25.2.1 30) x1.toNatClampNeg x3) → post (1 : Int32) σ26))))) σ15))) σ9) ∧ (¬ x2 = (1 : Int32) → wX8_isHolder x1 (fun r27 σ28 => ((r27 = (0 : Int32) → post (0 : Int32) σ28) ∧ (¬ r27 = (0 : Int32) → ((x2 = (2 : Int32) → vp_in x1 8 ∧ ∀ σ31 : hsS, σ31 = hsA σ28 29 (upd (σ28.2.1 29) x1.toNatClampNeg (-1 : Int32)) → vp_in x1 8 ∧ ∀ σ32 : hsS, σ32 = hsA σ31 30 (upd (σ31.2.1 30) x1.toNatClampNeg x3) → post (1 : Int32) σ32) ∧ (¬ x2 = (2 : Int32) → vp_in x1 8 ∧ ∀ σ33 : hsS, σ33 = hsA σ28 29 (upd (σ28.2.1 29) x1.toNatClampNeg x2) → vp_in x1 8 ∧ ∀ σ34 : hsS, σ34 = hsA σ33 30 (upd (σ33.2.1 30) x1.toNatClampNeg x3) → post (1 : Int32) σ34))))) σ9))))) σ3) ∧ (¬ x2 = (0 : Int32) → ((x2 = (1 : Int32) → wX8_isRow x3 (fun r36 σ37 => ((r36 = (0 : Int32) → wX8_refuse (1 : Int32) (fun r39 σ40 => (r39 = 0 ∨ r39 = 1) ∧ post r39 σ40) σ37) ∧ (¬ r36 = (0 : Int32) → wX8_isHolder x1 (fun r41 σ42 => ((r41 = (0 : Int32) → post (0 : Int32) σ42) ∧ (¬ r41 = (0 : Int32) → ((x2 = (2 : Int32) → vp_in x1 8 ∧ ∀ σ45 : hsS, σ45 = hsA σ42 29 (upd (σ42.2.1 29) x1.toNatClampNeg (-1 : Int32)) → vp_in x1 8 ∧ ∀ σ46 : hsS, σ46 = hsA σ45 30 (upd (σ45.2.1 30) x1.toNatClampNeg x3) → post (1 : Int32) σ46) ∧ (¬ x2 = (2 : Int32) → vp_in x1 8 ∧ ∀ σ47 : hsS, σ47 = hsA σ42 29 (upd (σ42.2.1 29) x1.toNatClampNeg x2) → vp_in x1 8 ∧ ∀ σ48 : hsS, σ48 = hsA σ47 30 (upd (σ47.2.1 30) x1.toNatClampNeg x3) → post (1 : Int32) σ48))))) σ37))) σ3) ∧ (¬ x2 = (1 : Int32) → wX8_isHolder x1 (fun r49 σ50 => ((r49 = (0 : Int32) → post (0 : Int32) σ50) ∧ (¬ r49 = (0 : Int32) → ((x2 = (2 : Int32) → vp_in x1 8 ∧ ∀ σ53 : hsS, σ53 = hsA σ50 29 (upd (σ50.2.1 29) x1.toNatClampNeg (-1 : Int32)) → vp_in x1 8 ∧ ∀ σ54 : hsS, σ54 = hsA σ53 30 (upd (σ53.2.1 30) x1.toNatClampNeg x3) → post (1 : Int32) σ54) ∧ (¬ x2 = (2 : Int32) → vp_in x1 8 ∧ ∀ σ55 : hsS, σ55 = hsA σ50 29 (upd (σ50.2.1 29) x1.toNatClampNeg x2) → vp_in x1 8 ∧ ∀ σ56 : hsS, σ56 = hsA σ55 30 (upd (σ55.2.1 30) x1.toNatClampNeg x3) → post (1 : Int32) σ56))))) σ3))))))) σ1
set_option maxHeartbeats 4000000 in
set_option maxRecDepth 100000 in
theorem kcX8_hold (l : Launch) (D : va_G) (c : Nat → ClassId) (q : Nat → Nat) (ev : State → Heap → Prop) (hev : evOK (wdA 31 q) ev) (σ : hsS) (x1 : Int32) (x2 : Int32) (x3 : Int32) (post : Int32 → hsS → Prop) (hw : wX8_hold x1 x2 x3 post σ) : Met l yX8_hold (Cond.code yX8_hold cX8_hold 4 (some .boolean) :: tb_L) { frames := 2, cells := 0, slots := 0, locals := 43 } (wdPc D (mw c q) (mwT c) (wdA 31 q) ev σ [.ref (q 0), .int x1, .int x2, .int x3]) (va_Qi post (wdB D (mw c q)) (wdA 31 q)) 0 0 (wdA 31 q) := by
  refine Met.ofW (cc := cX8_hold) (maxL := 4) (ret := (some .boolean)) (by decide) rfl ?_
  intro p e s m args below meth c₀ s₁ Bd hml hv
  obtain ⟨rfl, hP, hK, hD0, hE⟩ := hv
  have hx := Bd.exec
  have hb := Bd.bytes
  have hr := Bd.returns
  have hts := atoms_spec (ws := Cond.code yX8_hold cX8_hold 4 (some .boolean) :: tb_L) Bd.pre
  have htb : ∀ w ∈ tb_L, w.before [.ref (q 0), .int x1, .int x2, .int x3].toArray s = true := fun w h => hts w (List.mem_cons_of_mem _ h)
  have hown : s.vm.findClass RX8 = some m.cls := findClass_of_methodNamed Bd.named
  have hlocks := Bd.notSynchronized
  have hS : va_S (wdA 31 q) s.heap s.heap [] := va_S.rf
  have hD := hD0
  have hl := lv_entry ([.ref (q 0), .int x1, .int x2, .int x3]) (n := 4) (Nat.le_of_ble_eq_true rfl)
  rw [lg_entry_eq]
  generalize (lg_sl ([.ref (q 0), .int x1, .int x2, .int x3]) ++ List.replicate (4 - (lg_sl ([.ref (q 0), .int x1, .int x2, .int x3])).length) Slot.unset).toArray = ls at hl ⊢
  have hl : lv_has ls 4 [(0, .ref (q 0)), (1, .int x1), (2, .int x2), (3, .int x3)] := hl
  unfold wX8_hold at hw
  refine lv_aload_n hx hb dX8_hold_0 rfl (lv_at hl 0 rfl) ?_
  refine lv_iconst (v := (0 : Int32)) hx hb dX8_hold_1 (by decide) ?_
  refine va_put (D := D) (ci := 8) (ty := .int) (C := RX8) (T := TX8) (N := 57) hx hb htb inX8 tyX8 tyX8_ok nmX8 hown hK hP hD hS 0 (mw_0 c q σ) rfl 0 (by decide) (htb _ tb_1181) (fun _ h9 => h9) rfl (by decide +kernel) rfl rfl (Nat.le_of_ble_eq_true rfl) dX8_hold_2 (fun H locs hP hD hS => ?_)
  have hP : va_P D vwCl (mw c q (hsI σ 0 (0 : Int32))) H := hP
  obtain ⟨σ1, eσ1⟩ : ∃ z : hsS, z = hsI σ 0 (0 : Int32) := ⟨_, rfl⟩
  rw [← eσ1] at hP
  have hD : va_D (wdA 31 q) (mw c q σ1) := mw_D hD0
  have hw := hw σ1 eσ1
  refine lv_iload_n hx hb dX8_hold_5 rfl (lv_at hl 2 rfl) ?_
  refine lv_iconst (v := (0 : Int32)) hx hb dX8_hold_6 (by decide) ?_
  refine lv_iconst (v := (2 : Int32)) hx hb dX8_hold_7 (by decide) ?_
  refine va_calli (va_runS (As := [.int x2, .int (0 : Int32), .int (2 : Int32)]) (rest := []) ⟨hx, hb, hml, hown, htb⟩ (kcX8_isIn_m l D c q ev hev σ1 x2 (0 : Int32) (2 : Int32) _ hw) (tb_CS htb kX8_isIn tb_1462 tb_1463 ⟨Nat.le_of_ble_eq_true rfl, Nat.le_of_ble_eq_true rfl⟩) (wd_preS (wd := mw c q) hev hK hP hD hE hS) rfl rfl hl.1 rfl (lv_room (Nat.le_of_ble_eq_true rfl)) dX8_hold_8 ⟨Nat.zero_le _, Nat.zero_le _⟩) hS (fun q _ h => h) (fun q h => h) (fun r2 σ3 t H1 locs1 ht hvm hw hB hz1 hk1 hS => ?_)
  have hP : va_P D vwCl (mw c q σ3) H1 := ht ▸ hB
  have hD : va_D (wdA 31 q) (mw c q σ3) := mw_D hD0
  refine lv_if_eq (tgt := 39) hx hb dX8_hold_11 (by decide) (fun c4 => ?_) (fun c4 => ?_)
  · have hw := hw.1 c4
    refine lv_aload_n hx hb dX8_hold_39 rfl (lv_at hl 0 rfl) ?_
    refine lv_iconst (v := (1 : Int32)) hx hb dX8_hold_40 (by decide) ?_
    refine va_calli (va_runV (As := [.int (1 : Int32)]) (rest := []) ⟨hx, hb, hml, hown, htb⟩ (kcX8_refuse l D c q ev hev σ3 (1 : Int32) _ hw) (tb_CW htb kX8_refuse tb_1516 tb_1518 tb_66 ⟨Nat.le_of_ble_eq_true rfl, Nat.le_of_ble_eq_true rfl⟩) (wd_preV (wd := mw c q) (k := 0) hev hK hP hD hE hS (mw_0 c q σ3) rfl) rfl rfl hl.1 rfl (lv_room (Nat.le_of_ble_eq_true rfl)) dX8_hold_41 ⟨Nat.zero_le _, Nat.zero_le _⟩) hS (fun q _ h => h) (fun q h => h) (fun r5 σ6 t H1 locs1 ht hvm hw hB hz1 hk1 hS => ?_)
    have hP : va_P D vwCl (mw c q σ6) H1 := ht ▸ hB
    have hD : va_D (wdA 31 q) (mw c q σ6) := mw_D hD0
    have hq := hw.2
    exact W.zret hx hb hr (nar_b hw.1) (fun t ht hW => ⟨⟨_, σ6, rfl, hq, by unfold wdB; rw [ht]; exact hP⟩, hS.F ht⟩) hS.2.2 dX8_hold_44
  · have hw := hw.2 c4
    refine lv_iload_n hx hb dX8_hold_14 rfl (lv_at hl 2 rfl) ?_
    refine lv_if_ne (tgt := 26) hx hb dX8_hold_15 (by decide) (fun c7 => ?_) (fun c7 => ?_)
    · have hw := hw.2 c7
      refine lv_iload_n hx hb dX8_hold_26 rfl (lv_at hl 2 rfl) ?_
      refine lv_iconst (v := (1 : Int32)) hx hb dX8_hold_27 (by decide) ?_
      refine lv_icmp_ne (tgt := 45) hx hb dX8_hold_28 (by decide) (fun c35 => ?_) (fun c35 => ?_)
      · have hw := hw.2 c35
        refine lv_iload_n hx hb dX8_hold_45 rfl (lv_at hl 1 rfl) ?_
        refine va_calli (va_runS (As := [.int x1]) (rest := []) ⟨hx, hb, hml, hown, htb⟩ (kcX8_isHolder_m l D c q ev hev σ3 x1 _ hw) (tb_CS htb kX8_isHolder tb_1696 tb_1697 ⟨Nat.le_of_ble_eq_true rfl, Nat.le_of_ble_eq_true rfl⟩) (wd_preS (wd := mw c q) hev hK hP hD hE hS) rfl rfl hl.1 rfl (lv_room (Nat.le_of_ble_eq_true rfl)) dX8_hold_46 ⟨Nat.zero_le _, Nat.zero_le _⟩) hS (fun q _ h => h) (fun q h => h) (fun r49 σ50 t H1 locs1 ht hvm hw hB hz1 hk1 hS => ?_)
        have hP : va_P D vwCl (mw c q σ50) H1 := ht ▸ hB
        have hD : va_D (wdA 31 q) (mw c q σ50) := mw_D hD0
        refine lv_if_ne (tgt := 54) hx hb dX8_hold_49 (by decide) (fun c51 => ?_) (fun c51 => ?_)
        · have hw := hw.2 c51
          refine lv_aload_n hx hb dX8_hold_54 rfl (lv_at hl 0 rfl) ?_
          refine va_get (D := D) (ci := 8) (C := RX8) (T := TX8) (N := 57) hx hb htb inX8 hown hK hP 0 (mw_0 c q σ50) rfl 55 (by decide) (htb _ tb_1236) (fun _ h9 => h9) rfl dX8_hold_55 ?_
          refine lv_iload_n hx hb dX8_hold_58 rfl (lv_at hl 1 rfl) ?_
          refine lv_iload_n hx hb dX8_hold_59 rfl (lv_at hl 2 rfl) ?_
          refine lv_iconst (v := (2 : Int32)) hx hb dX8_hold_60 (by decide) ?_
          refine lv_icmp_ne (tgt := 68) hx hb dX8_hold_61 (by decide) (fun c52 => ?_) (fun c52 => ?_)
          · have hw := hw.2 c52
            refine lv_iload_n hx hb dX8_hold_68 rfl (lv_at hl 2 rfl) ?_
            refine va_iast hx hb hK hP hD hS 29 28 (mw_29 c q σ50) rfl hw.1 dX8_hold_69 (fun H locs hP hD hS => ?_)
            have hw := hw.2
            have hP : va_P D vwCl (mw c q (hsA σ50 29 (upd (σ50.2.1 29) x1.toNatClampNeg x2))) H := hP
            obtain ⟨σ55, eσ55⟩ : ∃ z : hsS, z = hsA σ50 29 (upd (σ50.2.1 29) x1.toNatClampNeg x2) := ⟨_, rfl⟩
            rw [← eσ55] at hP
            have hD : va_D (wdA 31 q) (mw c q σ55) := mw_D hD0
            have hw := hw σ55 eσ55
            refine lv_aload_n hx hb dX8_hold_70 rfl (lv_at hl 0 rfl) ?_
            refine va_get (D := D) (ci := 8) (C := RX8) (T := TX8) (N := 57) hx hb htb inX8 hown hK hP 0 (mw_0 c q σ55) rfl 56 (by decide) (htb _ tb_1237) (fun _ h9 => h9) rfl dX8_hold_71 ?_
            refine lv_iload_n hx hb dX8_hold_74 rfl (lv_at hl 1 rfl) ?_
            refine lv_iload_n hx hb dX8_hold_75 rfl (lv_at hl 3 rfl) ?_
            refine va_iast hx hb hK hP hD hS 30 29 (mw_30 c q σ55) rfl hw.1 dX8_hold_76 (fun H locs hP hD hS => ?_)
            have hw := hw.2
            have hP : va_P D vwCl (mw c q (hsA σ55 30 (upd (σ55.2.1 30) x1.toNatClampNeg x3))) H := hP
            obtain ⟨σ56, eσ56⟩ : ∃ z : hsS, z = hsA σ55 30 (upd (σ55.2.1 30) x1.toNatClampNeg x3) := ⟨_, rfl⟩
            rw [← eσ56] at hP
            have hD : va_D (wdA 31 q) (mw c q σ56) := mw_D hD0
            have hw := hw σ56 eσ56
            refine lv_iconst (v := (1 : Int32)) hx hb dX8_hold_77 (by decide) ?_
            exact W.zret hx hb hr rfl (fun t ht hW => ⟨⟨_, σ56, rfl, hw, by unfold wdB; rw [ht]; exact hP⟩, hS.F ht⟩) hS.2.2 dX8_hold_78
          · have hw := hw.1 c52
            refine lv_iconst (v := (-1 : Int32)) hx hb dX8_hold_64 (by decide) ?_
            refine lv_goto (tgt := 69) hx hb dX8_hold_65 (by decide) ?_
            refine va_iast hx hb hK hP hD hS 29 28 (mw_29 c q σ50) rfl hw.1 dX8_hold_69 (fun H locs hP hD hS => ?_)
            have hw := hw.2
            have hP : va_P D vwCl (mw c q (hsA σ50 29 (upd (σ50.2.1 29) x1.toNatClampNeg (-1 : Int32)))) H := hP
            obtain ⟨σ53, eσ53⟩ : ∃ z : hsS, z = hsA σ50 29 (upd (σ50.2.1 29) x1.toNatClampNeg (-1 : Int32)) := ⟨_, rfl⟩
            rw [← eσ53] at hP
            have hD : va_D (wdA 31 q) (mw c q σ53) := mw_D hD0
            have hw := hw σ53 eσ53
            refine lv_aload_n hx hb dX8_hold_70 rfl (lv_at hl 0 rfl) ?_
            refine va_get (D := D) (ci := 8) (C := RX8) (T := TX8) (N := 57) hx hb htb inX8 hown hK hP 0 (mw_0 c q σ53) rfl 56 (by decide) (htb _ tb_1237) (fun _ h9 => h9) rfl dX8_hold_71 ?_
            refine lv_iload_n hx hb dX8_hold_74 rfl (lv_at hl 1 rfl) ?_
            refine lv_iload_n hx hb dX8_hold_75 rfl (lv_at hl 3 rfl) ?_
            refine va_iast hx hb hK hP hD hS 30 29 (mw_30 c q σ53) rfl hw.1 dX8_hold_76 (fun H locs hP hD hS => ?_)
            have hw := hw.2
            have hP : va_P D vwCl (mw c q (hsA σ53 30 (upd (σ53.2.1 30) x1.toNatClampNeg x3))) H := hP
            obtain ⟨σ54, eσ54⟩ : ∃ z : hsS, z = hsA σ53 30 (upd (σ53.2.1 30) x1.toNatClampNeg x3) := ⟨_, rfl⟩
            rw [← eσ54] at hP
            have hD : va_D (wdA 31 q) (mw c q σ54) := mw_D hD0
            have hw := hw σ54 eσ54
            refine lv_iconst (v := (1 : Int32)) hx hb dX8_hold_77 (by decide) ?_
            exact W.zret hx hb hr rfl (fun t ht hW => ⟨⟨_, σ54, rfl, hw, by unfold wdB; rw [ht]; exact hP⟩, hS.F ht⟩) hS.2.2 dX8_hold_78
        · have hw := hw.1 c51
          refine lv_iconst (v := (0 : Int32)) hx hb dX8_hold_52 (by decide) ?_
          exact W.zret hx hb hr rfl (fun t ht hW => ⟨⟨_, σ50, rfl, hw, by unfold wdB; rw [ht]; exact hP⟩, hS.F ht⟩) hS.2.2 dX8_hold_53
      · have hw := hw.1 c35
        refine lv_aload_n hx hb dX8_hold_31 rfl (lv_at hl 0 rfl) ?_
        refine lv_iload_n hx hb dX8_hold_32 rfl (lv_at hl 3 rfl) ?_
        refine va_calli (va_runV (As := [.int x3]) (rest := []) ⟨hx, hb, hml, hown, htb⟩ (kcX8_isRow l D c q ev hev σ3 x3 _ hw) (tb_CW htb kX8_isRow tb_1684 tb_1686 tb_86 ⟨Nat.le_of_ble_eq_true rfl, Nat.le_of_ble_eq_true rfl⟩) (wd_preV (wd := mw c q) (k := 0) hev hK hP hD hE hS (mw_0 c q σ3) rfl) rfl rfl hl.1 rfl (lv_room (Nat.le_of_ble_eq_true rfl)) dX8_hold_33 ⟨Nat.zero_le _, Nat.zero_le _⟩) hS (fun q _ h => h) (fun q h => h) (fun r36 σ37 t H1 locs1 ht hvm hw hB hz1 hk1 hS => ?_)
        have hP : va_P D vwCl (mw c q σ37) H1 := ht ▸ hB
        have hD : va_D (wdA 31 q) (mw c q σ37) := mw_D hD0
        refine lv_if_ne (tgt := 45) hx hb dX8_hold_36 (by decide) (fun c38 => ?_) (fun c38 => ?_)
        · have hw := hw.2 c38
          refine lv_iload_n hx hb dX8_hold_45 rfl (lv_at hl 1 rfl) ?_
          refine va_calli (va_runS (As := [.int x1]) (rest := []) ⟨hx, hb, hml, hown, htb⟩ (kcX8_isHolder_m l D c q ev hev σ37 x1 _ hw) (tb_CS htb kX8_isHolder tb_1696 tb_1697 ⟨Nat.le_of_ble_eq_true rfl, Nat.le_of_ble_eq_true rfl⟩) (wd_preS (wd := mw c q) hev hK hP hD hE hS) rfl rfl hl.1 rfl (lv_room (Nat.le_of_ble_eq_true rfl)) dX8_hold_46 ⟨Nat.zero_le _, Nat.zero_le _⟩) hS (fun q _ h => h) (fun q h => h) (fun r41 σ42 t H1 locs1 ht hvm hw hB hz1 hk1 hS => ?_)
          have hP : va_P D vwCl (mw c q σ42) H1 := ht ▸ hB
          have hD : va_D (wdA 31 q) (mw c q σ42) := mw_D hD0
          refine lv_if_ne (tgt := 54) hx hb dX8_hold_49 (by decide) (fun c43 => ?_) (fun c43 => ?_)
          · have hw := hw.2 c43
            refine lv_aload_n hx hb dX8_hold_54 rfl (lv_at hl 0 rfl) ?_
            refine va_get (D := D) (ci := 8) (C := RX8) (T := TX8) (N := 57) hx hb htb inX8 hown hK hP 0 (mw_0 c q σ42) rfl 55 (by decide) (htb _ tb_1236) (fun _ h9 => h9) rfl dX8_hold_55 ?_
            refine lv_iload_n hx hb dX8_hold_58 rfl (lv_at hl 1 rfl) ?_
            refine lv_iload_n hx hb dX8_hold_59 rfl (lv_at hl 2 rfl) ?_
            refine lv_iconst (v := (2 : Int32)) hx hb dX8_hold_60 (by decide) ?_
            refine lv_icmp_ne (tgt := 68) hx hb dX8_hold_61 (by decide) (fun c44 => ?_) (fun c44 => ?_)
            · have hw := hw.2 c44
              refine lv_iload_n hx hb dX8_hold_68 rfl (lv_at hl 2 rfl) ?_
              refine va_iast hx hb hK hP hD hS 29 28 (mw_29 c q σ42) rfl hw.1 dX8_hold_69 (fun H locs hP hD hS => ?_)
              have hw := hw.2
              have hP : va_P D vwCl (mw c q (hsA σ42 29 (upd (σ42.2.1 29) x1.toNatClampNeg x2))) H := hP
              obtain ⟨σ47, eσ47⟩ : ∃ z : hsS, z = hsA σ42 29 (upd (σ42.2.1 29) x1.toNatClampNeg x2) := ⟨_, rfl⟩
              rw [← eσ47] at hP
              have hD : va_D (wdA 31 q) (mw c q σ47) := mw_D hD0
              have hw := hw σ47 eσ47
              refine lv_aload_n hx hb dX8_hold_70 rfl (lv_at hl 0 rfl) ?_
              refine va_get (D := D) (ci := 8) (C := RX8) (T := TX8) (N := 57) hx hb htb inX8 hown hK hP 0 (mw_0 c q σ47) rfl 56 (by decide) (htb _ tb_1237) (fun _ h9 => h9) rfl dX8_hold_71 ?_
              refine lv_iload_n hx hb dX8_hold_74 rfl (lv_at hl 1 rfl) ?_
              refine lv_iload_n hx hb dX8_hold_75 rfl (lv_at hl 3 rfl) ?_
              refine va_iast hx hb hK hP hD hS 30 29 (mw_30 c q σ47) rfl hw.1 dX8_hold_76 (fun H locs hP hD hS => ?_)
              have hw := hw.2
              have hP : va_P D vwCl (mw c q (hsA σ47 30 (upd (σ47.2.1 30) x1.toNatClampNeg x3))) H := hP
              obtain ⟨σ48, eσ48⟩ : ∃ z : hsS, z = hsA σ47 30 (upd (σ47.2.1 30) x1.toNatClampNeg x3) := ⟨_, rfl⟩
              rw [← eσ48] at hP
              have hD : va_D (wdA 31 q) (mw c q σ48) := mw_D hD0
              have hw := hw σ48 eσ48
              refine lv_iconst (v := (1 : Int32)) hx hb dX8_hold_77 (by decide) ?_
              exact W.zret hx hb hr rfl (fun t ht hW => ⟨⟨_, σ48, rfl, hw, by unfold wdB; rw [ht]; exact hP⟩, hS.F ht⟩) hS.2.2 dX8_hold_78
            · have hw := hw.1 c44
              refine lv_iconst (v := (-1 : Int32)) hx hb dX8_hold_64 (by decide) ?_
              refine lv_goto (tgt := 69) hx hb dX8_hold_65 (by decide) ?_
              refine va_iast hx hb hK hP hD hS 29 28 (mw_29 c q σ42) rfl hw.1 dX8_hold_69 (fun H locs hP hD hS => ?_)
              have hw := hw.2
              have hP : va_P D vwCl (mw c q (hsA σ42 29 (upd (σ42.2.1 29) x1.toNatClampNeg (-1 : Int32)))) H := hP
              obtain ⟨σ45, eσ45⟩ : ∃ z : hsS, z = hsA σ42 29 (upd (σ42.2.1 29) x1.toNatClampNeg (-1 : Int32)) := ⟨_, rfl⟩
              rw [← eσ45] at hP
              have hD : va_D (wdA 31 q) (mw c q σ45) := mw_D hD0
              have hw := hw σ45 eσ45
              refine lv_aload_n hx hb dX8_hold_70 rfl (lv_at hl 0 rfl) ?_
              refine va_get (D := D) (ci := 8) (C := RX8) (T := TX8) (N := 57) hx hb htb inX8 hown hK hP 0 (mw_0 c q σ45) rfl 56 (by decide) (htb _ tb_1237) (fun _ h9 => h9) rfl dX8_hold_71 ?_
              refine lv_iload_n hx hb dX8_hold_74 rfl (lv_at hl 1 rfl) ?_
              refine lv_iload_n hx hb dX8_hold_75 rfl (lv_at hl 3 rfl) ?_
              refine va_iast hx hb hK hP hD hS 30 29 (mw_30 c q σ45) rfl hw.1 dX8_hold_76 (fun H locs hP hD hS => ?_)
              have hw := hw.2
              have hP : va_P D vwCl (mw c q (hsA σ45 30 (upd (σ45.2.1 30) x1.toNatClampNeg x3))) H := hP
              obtain ⟨σ46, eσ46⟩ : ∃ z : hsS, z = hsA σ45 30 (upd (σ45.2.1 30) x1.toNatClampNeg x3) := ⟨_, rfl⟩
              rw [← eσ46] at hP
              have hD : va_D (wdA 31 q) (mw c q σ46) := mw_D hD0
              have hw := hw σ46 eσ46
              refine lv_iconst (v := (1 : Int32)) hx hb dX8_hold_77 (by decide) ?_
              exact W.zret hx hb hr rfl (fun t ht hW => ⟨⟨_, σ46, rfl, hw, by unfold wdB; rw [ht]; exact hP⟩, hS.F ht⟩) hS.2.2 dX8_hold_78
          · have hw := hw.1 c43
            refine lv_iconst (v := (0 : Int32)) hx hb dX8_hold_52 (by decide) ?_
            exact W.zret hx hb hr rfl (fun t ht hW => ⟨⟨_, σ42, rfl, hw, by unfold wdB; rw [ht]; exact hP⟩, hS.F ht⟩) hS.2.2 dX8_hold_53
        · have hw := hw.1 c38
          refine lv_aload_n hx hb dX8_hold_39 rfl (lv_at hl 0 rfl) ?_
          refine lv_iconst (v := (1 : Int32)) hx hb dX8_hold_40 (by decide) ?_
          refine va_calli (va_runV (As := [.int (1 : Int32)]) (rest := []) ⟨hx, hb, hml, hown, htb⟩ (kcX8_refuse l D c q ev hev σ37 (1 : Int32) _ hw) (tb_CW htb kX8_refuse tb_1516 tb_1518 tb_66 ⟨Nat.le_of_ble_eq_true rfl, Nat.le_of_ble_eq_true rfl⟩) (wd_preV (wd := mw c q) (k := 0) hev hK hP hD hE hS (mw_0 c q σ37) rfl) rfl rfl hl.1 rfl (lv_room (Nat.le_of_ble_eq_true rfl)) dX8_hold_41 ⟨Nat.zero_le _, Nat.zero_le _⟩) hS (fun q _ h => h) (fun q h => h) (fun r39 σ40 t H1 locs1 ht hvm hw hB hz1 hk1 hS => ?_)
          have hP : va_P D vwCl (mw c q σ40) H1 := ht ▸ hB
          have hD : va_D (wdA 31 q) (mw c q σ40) := mw_D hD0
          have hq := hw.2
          exact W.zret hx hb hr (nar_b hw.1) (fun t ht hW => ⟨⟨_, σ40, rfl, hq, by unfold wdB; rw [ht]; exact hP⟩, hS.F ht⟩) hS.2.2 dX8_hold_44
    · have hw := hw.1 c7
      refine lv_aload_n hx hb dX8_hold_18 rfl (lv_at hl 0 rfl) ?_
      refine lv_iload_n hx hb dX8_hold_19 rfl (lv_at hl 3 rfl) ?_
      refine va_calli (va_runV (As := [.int x3]) (rest := []) ⟨hx, hb, hml, hown, htb⟩ (kcX8_isThing l D c q ev hev σ3 x3 _ hw) (tb_CW htb kX8_isThing tb_1473 tb_1475 tb_59 ⟨Nat.le_of_ble_eq_true rfl, Nat.le_of_ble_eq_true rfl⟩) (wd_preV (wd := mw c q) (k := 0) hev hK hP hD hE hS (mw_0 c q σ3) rfl) rfl rfl hl.1 rfl (lv_room (Nat.le_of_ble_eq_true rfl)) dX8_hold_20 ⟨Nat.zero_le _, Nat.zero_le _⟩) hS (fun q _ h => h) (fun q h => h) (fun r8 σ9 t H1 locs1 ht hvm hw hB hz1 hk1 hS => ?_)
      have hP : va_P D vwCl (mw c q σ9) H1 := ht ▸ hB
      have hD : va_D (wdA 31 q) (mw c q σ9) := mw_D hD0
      refine lv_if_eq (tgt := 39) hx hb dX8_hold_23 (by decide) (fun c10 => ?_) (fun c10 => ?_)
      · have hw := hw.1 c10
        refine lv_aload_n hx hb dX8_hold_39 rfl (lv_at hl 0 rfl) ?_
        refine lv_iconst (v := (1 : Int32)) hx hb dX8_hold_40 (by decide) ?_
        refine va_calli (va_runV (As := [.int (1 : Int32)]) (rest := []) ⟨hx, hb, hml, hown, htb⟩ (kcX8_refuse l D c q ev hev σ9 (1 : Int32) _ hw) (tb_CW htb kX8_refuse tb_1516 tb_1518 tb_66 ⟨Nat.le_of_ble_eq_true rfl, Nat.le_of_ble_eq_true rfl⟩) (wd_preV (wd := mw c q) (k := 0) hev hK hP hD hE hS (mw_0 c q σ9) rfl) rfl rfl hl.1 rfl (lv_room (Nat.le_of_ble_eq_true rfl)) dX8_hold_41 ⟨Nat.zero_le _, Nat.zero_le _⟩) hS (fun q _ h => h) (fun q h => h) (fun r11 σ12 t H1 locs1 ht hvm hw hB hz1 hk1 hS => ?_)
        have hP : va_P D vwCl (mw c q σ12) H1 := ht ▸ hB
        have hD : va_D (wdA 31 q) (mw c q σ12) := mw_D hD0
        have hq := hw.2
        exact W.zret hx hb hr (nar_b hw.1) (fun t ht hW => ⟨⟨_, σ12, rfl, hq, by unfold wdB; rw [ht]; exact hP⟩, hS.F ht⟩) hS.2.2 dX8_hold_44
      · have hw := hw.2 c10
        refine lv_iload_n hx hb dX8_hold_26 rfl (lv_at hl 2 rfl) ?_
        refine lv_iconst (v := (1 : Int32)) hx hb dX8_hold_27 (by decide) ?_
        refine lv_icmp_ne (tgt := 45) hx hb dX8_hold_28 (by decide) (fun c13 => ?_) (fun c13 => ?_)
        · have hw := hw.2 c13
          refine lv_iload_n hx hb dX8_hold_45 rfl (lv_at hl 1 rfl) ?_
          refine va_calli (va_runS (As := [.int x1]) (rest := []) ⟨hx, hb, hml, hown, htb⟩ (kcX8_isHolder_m l D c q ev hev σ9 x1 _ hw) (tb_CS htb kX8_isHolder tb_1696 tb_1697 ⟨Nat.le_of_ble_eq_true rfl, Nat.le_of_ble_eq_true rfl⟩) (wd_preS (wd := mw c q) hev hK hP hD hE hS) rfl rfl hl.1 rfl (lv_room (Nat.le_of_ble_eq_true rfl)) dX8_hold_46 ⟨Nat.zero_le _, Nat.zero_le _⟩) hS (fun q _ h => h) (fun q h => h) (fun r27 σ28 t H1 locs1 ht hvm hw hB hz1 hk1 hS => ?_)
          have hP : va_P D vwCl (mw c q σ28) H1 := ht ▸ hB
          have hD : va_D (wdA 31 q) (mw c q σ28) := mw_D hD0
          refine lv_if_ne (tgt := 54) hx hb dX8_hold_49 (by decide) (fun c29 => ?_) (fun c29 => ?_)
          · have hw := hw.2 c29
            refine lv_aload_n hx hb dX8_hold_54 rfl (lv_at hl 0 rfl) ?_
            refine va_get (D := D) (ci := 8) (C := RX8) (T := TX8) (N := 57) hx hb htb inX8 hown hK hP 0 (mw_0 c q σ28) rfl 55 (by decide) (htb _ tb_1236) (fun _ h9 => h9) rfl dX8_hold_55 ?_
            refine lv_iload_n hx hb dX8_hold_58 rfl (lv_at hl 1 rfl) ?_
            refine lv_iload_n hx hb dX8_hold_59 rfl (lv_at hl 2 rfl) ?_
            refine lv_iconst (v := (2 : Int32)) hx hb dX8_hold_60 (by decide) ?_
            refine lv_icmp_ne (tgt := 68) hx hb dX8_hold_61 (by decide) (fun c30 => ?_) (fun c30 => ?_)
            · have hw := hw.2 c30
              refine lv_iload_n hx hb dX8_hold_68 rfl (lv_at hl 2 rfl) ?_
              refine va_iast hx hb hK hP hD hS 29 28 (mw_29 c q σ28) rfl hw.1 dX8_hold_69 (fun H locs hP hD hS => ?_)
              have hw := hw.2
              have hP : va_P D vwCl (mw c q (hsA σ28 29 (upd (σ28.2.1 29) x1.toNatClampNeg x2))) H := hP
              obtain ⟨σ33, eσ33⟩ : ∃ z : hsS, z = hsA σ28 29 (upd (σ28.2.1 29) x1.toNatClampNeg x2) := ⟨_, rfl⟩
              rw [← eσ33] at hP
              have hD : va_D (wdA 31 q) (mw c q σ33) := mw_D hD0
              have hw := hw σ33 eσ33
              refine lv_aload_n hx hb dX8_hold_70 rfl (lv_at hl 0 rfl) ?_
              refine va_get (D := D) (ci := 8) (C := RX8) (T := TX8) (N := 57) hx hb htb inX8 hown hK hP 0 (mw_0 c q σ33) rfl 56 (by decide) (htb _ tb_1237) (fun _ h9 => h9) rfl dX8_hold_71 ?_
              refine lv_iload_n hx hb dX8_hold_74 rfl (lv_at hl 1 rfl) ?_
              refine lv_iload_n hx hb dX8_hold_75 rfl (lv_at hl 3 rfl) ?_
              refine va_iast hx hb hK hP hD hS 30 29 (mw_30 c q σ33) rfl hw.1 dX8_hold_76 (fun H locs hP hD hS => ?_)
              have hw := hw.2
              have hP : va_P D vwCl (mw c q (hsA σ33 30 (upd (σ33.2.1 30) x1.toNatClampNeg x3))) H := hP
              obtain ⟨σ34, eσ34⟩ : ∃ z : hsS, z = hsA σ33 30 (upd (σ33.2.1 30) x1.toNatClampNeg x3) := ⟨_, rfl⟩
              rw [← eσ34] at hP
              have hD : va_D (wdA 31 q) (mw c q σ34) := mw_D hD0
              have hw := hw σ34 eσ34
              refine lv_iconst (v := (1 : Int32)) hx hb dX8_hold_77 (by decide) ?_
              exact W.zret hx hb hr rfl (fun t ht hW => ⟨⟨_, σ34, rfl, hw, by unfold wdB; rw [ht]; exact hP⟩, hS.F ht⟩) hS.2.2 dX8_hold_78
            · have hw := hw.1 c30
              refine lv_iconst (v := (-1 : Int32)) hx hb dX8_hold_64 (by decide) ?_
              refine lv_goto (tgt := 69) hx hb dX8_hold_65 (by decide) ?_
              refine va_iast hx hb hK hP hD hS 29 28 (mw_29 c q σ28) rfl hw.1 dX8_hold_69 (fun H locs hP hD hS => ?_)
              have hw := hw.2
              have hP : va_P D vwCl (mw c q (hsA σ28 29 (upd (σ28.2.1 29) x1.toNatClampNeg (-1 : Int32)))) H := hP
              obtain ⟨σ31, eσ31⟩ : ∃ z : hsS, z = hsA σ28 29 (upd (σ28.2.1 29) x1.toNatClampNeg (-1 : Int32)) := ⟨_, rfl⟩
              rw [← eσ31] at hP
              have hD : va_D (wdA 31 q) (mw c q σ31) := mw_D hD0
              have hw := hw σ31 eσ31
              refine lv_aload_n hx hb dX8_hold_70 rfl (lv_at hl 0 rfl) ?_
              refine va_get (D := D) (ci := 8) (C := RX8) (T := TX8) (N := 57) hx hb htb inX8 hown hK hP 0 (mw_0 c q σ31) rfl 56 (by decide) (htb _ tb_1237) (fun _ h9 => h9) rfl dX8_hold_71 ?_
              refine lv_iload_n hx hb dX8_hold_74 rfl (lv_at hl 1 rfl) ?_
              refine lv_iload_n hx hb dX8_hold_75 rfl (lv_at hl 3 rfl) ?_
              refine va_iast hx hb hK hP hD hS 30 29 (mw_30 c q σ31) rfl hw.1 dX8_hold_76 (fun H locs hP hD hS => ?_)
              have hw := hw.2
              have hP : va_P D vwCl (mw c q (hsA σ31 30 (upd (σ31.2.1 30) x1.toNatClampNeg x3))) H := hP
              obtain ⟨σ32, eσ32⟩ : ∃ z : hsS, z = hsA σ31 30 (upd (σ31.2.1 30) x1.toNatClampNeg x3) := ⟨_, rfl⟩
              rw [← eσ32] at hP
              have hD : va_D (wdA 31 q) (mw c q σ32) := mw_D hD0
              have hw := hw σ32 eσ32
              refine lv_iconst (v := (1 : Int32)) hx hb dX8_hold_77 (by decide) ?_
              exact W.zret hx hb hr rfl (fun t ht hW => ⟨⟨_, σ32, rfl, hw, by unfold wdB; rw [ht]; exact hP⟩, hS.F ht⟩) hS.2.2 dX8_hold_78
          · have hw := hw.1 c29
            refine lv_iconst (v := (0 : Int32)) hx hb dX8_hold_52 (by decide) ?_
            exact W.zret hx hb hr rfl (fun t ht hW => ⟨⟨_, σ28, rfl, hw, by unfold wdB; rw [ht]; exact hP⟩, hS.F ht⟩) hS.2.2 dX8_hold_53
        · have hw := hw.1 c13
          refine lv_aload_n hx hb dX8_hold_31 rfl (lv_at hl 0 rfl) ?_
          refine lv_iload_n hx hb dX8_hold_32 rfl (lv_at hl 3 rfl) ?_
          refine va_calli (va_runV (As := [.int x3]) (rest := []) ⟨hx, hb, hml, hown, htb⟩ (kcX8_isRow l D c q ev hev σ9 x3 _ hw) (tb_CW htb kX8_isRow tb_1684 tb_1686 tb_86 ⟨Nat.le_of_ble_eq_true rfl, Nat.le_of_ble_eq_true rfl⟩) (wd_preV (wd := mw c q) (k := 0) hev hK hP hD hE hS (mw_0 c q σ9) rfl) rfl rfl hl.1 rfl (lv_room (Nat.le_of_ble_eq_true rfl)) dX8_hold_33 ⟨Nat.zero_le _, Nat.zero_le _⟩) hS (fun q _ h => h) (fun q h => h) (fun r14 σ15 t H1 locs1 ht hvm hw hB hz1 hk1 hS => ?_)
          have hP : va_P D vwCl (mw c q σ15) H1 := ht ▸ hB
          have hD : va_D (wdA 31 q) (mw c q σ15) := mw_D hD0
          refine lv_if_ne (tgt := 45) hx hb dX8_hold_36 (by decide) (fun c16 => ?_) (fun c16 => ?_)
          · have hw := hw.2 c16
            refine lv_iload_n hx hb dX8_hold_45 rfl (lv_at hl 1 rfl) ?_
            refine va_calli (va_runS (As := [.int x1]) (rest := []) ⟨hx, hb, hml, hown, htb⟩ (kcX8_isHolder_m l D c q ev hev σ15 x1 _ hw) (tb_CS htb kX8_isHolder tb_1696 tb_1697 ⟨Nat.le_of_ble_eq_true rfl, Nat.le_of_ble_eq_true rfl⟩) (wd_preS (wd := mw c q) hev hK hP hD hE hS) rfl rfl hl.1 rfl (lv_room (Nat.le_of_ble_eq_true rfl)) dX8_hold_46 ⟨Nat.zero_le _, Nat.zero_le _⟩) hS (fun q _ h => h) (fun q h => h) (fun r19 σ20 t H1 locs1 ht hvm hw hB hz1 hk1 hS => ?_)
            have hP : va_P D vwCl (mw c q σ20) H1 := ht ▸ hB
            have hD : va_D (wdA 31 q) (mw c q σ20) := mw_D hD0
            refine lv_if_ne (tgt := 54) hx hb dX8_hold_49 (by decide) (fun c21 => ?_) (fun c21 => ?_)
            · have hw := hw.2 c21
              refine lv_aload_n hx hb dX8_hold_54 rfl (lv_at hl 0 rfl) ?_
              refine va_get (D := D) (ci := 8) (C := RX8) (T := TX8) (N := 57) hx hb htb inX8 hown hK hP 0 (mw_0 c q σ20) rfl 55 (by decide) (htb _ tb_1236) (fun _ h9 => h9) rfl dX8_hold_55 ?_
              refine lv_iload_n hx hb dX8_hold_58 rfl (lv_at hl 1 rfl) ?_
              refine lv_iload_n hx hb dX8_hold_59 rfl (lv_at hl 2 rfl) ?_
              refine lv_iconst (v := (2 : Int32)) hx hb dX8_hold_60 (by decide) ?_
              refine lv_icmp_ne (tgt := 68) hx hb dX8_hold_61 (by decide) (fun c22 => ?_) (fun c22 => ?_)
              · have hw := hw.2 c22
                refine lv_iload_n hx hb dX8_hold_68 rfl (lv_at hl 2 rfl) ?_
                refine va_iast hx hb hK hP hD hS 29 28 (mw_29 c q σ20) rfl hw.1 dX8_hold_69 (fun H locs hP hD hS => ?_)
                have hw := hw.2
                have hP : va_P D vwCl (mw c q (hsA σ20 29 (upd (σ20.2.1 29) x1.toNatClampNeg x2))) H := hP
                obtain ⟨σ25, eσ25⟩ : ∃ z : hsS, z = hsA σ20 29 (upd (σ20.2.1 29) x1.toNatClampNeg x2) := ⟨_, rfl⟩
                rw [← eσ25] at hP
                have hD : va_D (wdA 31 q) (mw c q σ25) := mw_D hD0
                have hw := hw σ25 eσ25
                refine lv_aload_n hx hb dX8_hold_70 rfl (lv_at hl 0 rfl) ?_
                refine va_get (D := D) (ci := 8) (C := RX8) (T := TX8) (N := 57) hx hb htb inX8 hown hK hP 0 (mw_0 c q σ25) rfl 56 (by decide) (htb _ tb_1237) (fun _ h9 => h9) rfl dX8_hold_71 ?_
                refine lv_iload_n hx hb dX8_hold_74 rfl (lv_at hl 1 rfl) ?_
                refine lv_iload_n hx hb dX8_hold_75 rfl (lv_at hl 3 rfl) ?_
                refine va_iast hx hb hK hP hD hS 30 29 (mw_30 c q σ25) rfl hw.1 dX8_hold_76 (fun H locs hP hD hS => ?_)
                have hw := hw.2
                have hP : va_P D vwCl (mw c q (hsA σ25 30 (upd (σ25.2.1 30) x1.toNatClampNeg x3))) H := hP
                obtain ⟨σ26, eσ26⟩ : ∃ z : hsS, z = hsA σ25 30 (upd (σ25.2.1 30) x1.toNatClampNeg x3) := ⟨_, rfl⟩
                rw [← eσ26] at hP
                have hD : va_D (wdA 31 q) (mw c q σ26) := mw_D hD0
                have hw := hw σ26 eσ26
                refine lv_iconst (v := (1 : Int32)) hx hb dX8_hold_77 (by decide) ?_
                exact W.zret hx hb hr rfl (fun t ht hW => ⟨⟨_, σ26, rfl, hw, by unfold wdB; rw [ht]; exact hP⟩, hS.F ht⟩) hS.2.2 dX8_hold_78
              · have hw := hw.1 c22
                refine lv_iconst (v := (-1 : Int32)) hx hb dX8_hold_64 (by decide) ?_
                refine lv_goto (tgt := 69) hx hb dX8_hold_65 (by decide) ?_
                refine va_iast hx hb hK hP hD hS 29 28 (mw_29 c q σ20) rfl hw.1 dX8_hold_69 (fun H locs hP hD hS => ?_)
                have hw := hw.2
                have hP : va_P D vwCl (mw c q (hsA σ20 29 (upd (σ20.2.1 29) x1.toNatClampNeg (-1 : Int32)))) H := hP
                obtain ⟨σ23, eσ23⟩ : ∃ z : hsS, z = hsA σ20 29 (upd (σ20.2.1 29) x1.toNatClampNeg (-1 : Int32)) := ⟨_, rfl⟩
                rw [← eσ23] at hP
                have hD : va_D (wdA 31 q) (mw c q σ23) := mw_D hD0
                have hw := hw σ23 eσ23
                refine lv_aload_n hx hb dX8_hold_70 rfl (lv_at hl 0 rfl) ?_
                refine va_get (D := D) (ci := 8) (C := RX8) (T := TX8) (N := 57) hx hb htb inX8 hown hK hP 0 (mw_0 c q σ23) rfl 56 (by decide) (htb _ tb_1237) (fun _ h9 => h9) rfl dX8_hold_71 ?_
                refine lv_iload_n hx hb dX8_hold_74 rfl (lv_at hl 1 rfl) ?_
                refine lv_iload_n hx hb dX8_hold_75 rfl (lv_at hl 3 rfl) ?_
                refine va_iast hx hb hK hP hD hS 30 29 (mw_30 c q σ23) rfl hw.1 dX8_hold_76 (fun H locs hP hD hS => ?_)
                have hw := hw.2
                have hP : va_P D vwCl (mw c q (hsA σ23 30 (upd (σ23.2.1 30) x1.toNatClampNeg x3))) H := hP
                obtain ⟨σ24, eσ24⟩ : ∃ z : hsS, z = hsA σ23 30 (upd (σ23.2.1 30) x1.toNatClampNeg x3) := ⟨_, rfl⟩
                rw [← eσ24] at hP
                have hD : va_D (wdA 31 q) (mw c q σ24) := mw_D hD0
                have hw := hw σ24 eσ24
                refine lv_iconst (v := (1 : Int32)) hx hb dX8_hold_77 (by decide) ?_
                exact W.zret hx hb hr rfl (fun t ht hW => ⟨⟨_, σ24, rfl, hw, by unfold wdB; rw [ht]; exact hP⟩, hS.F ht⟩) hS.2.2 dX8_hold_78
            · have hw := hw.1 c21
              refine lv_iconst (v := (0 : Int32)) hx hb dX8_hold_52 (by decide) ?_
              exact W.zret hx hb hr rfl (fun t ht hW => ⟨⟨_, σ20, rfl, hw, by unfold wdB; rw [ht]; exact hP⟩, hS.F ht⟩) hS.2.2 dX8_hold_53
          · have hw := hw.1 c16
            refine lv_aload_n hx hb dX8_hold_39 rfl (lv_at hl 0 rfl) ?_
            refine lv_iconst (v := (1 : Int32)) hx hb dX8_hold_40 (by decide) ?_
            refine va_calli (va_runV (As := [.int (1 : Int32)]) (rest := []) ⟨hx, hb, hml, hown, htb⟩ (kcX8_refuse l D c q ev hev σ15 (1 : Int32) _ hw) (tb_CW htb kX8_refuse tb_1516 tb_1518 tb_66 ⟨Nat.le_of_ble_eq_true rfl, Nat.le_of_ble_eq_true rfl⟩) (wd_preV (wd := mw c q) (k := 0) hev hK hP hD hE hS (mw_0 c q σ15) rfl) rfl rfl hl.1 rfl (lv_room (Nat.le_of_ble_eq_true rfl)) dX8_hold_41 ⟨Nat.zero_le _, Nat.zero_le _⟩) hS (fun q _ h => h) (fun q h => h) (fun r17 σ18 t H1 locs1 ht hvm hw hB hz1 hk1 hS => ?_)
            have hP : va_P D vwCl (mw c q σ18) H1 := ht ▸ hB
            have hD : va_D (wdA 31 q) (mw c q σ18) := mw_D hD0
            have hq := hw.2
            exact W.zret hx hb hr (nar_b hw.1) (fun t ht hW => ⟨⟨_, σ18, rfl, hq, by unfold wdB; rw [ht]; exact hP⟩, hS.F ht⟩) hS.2.2 dX8_hold_44
def wX8_why (x1 : Int32) (x2 : Int32) (post : Int32 → hsS → Prop) (σ : hsS) : Prop := vp_in x1 8 ∧ (((σ.2.1 29 x1.toNatClampNeg) = (-1 : Int32) → post (1 : Int32) σ) ∧ (¬ (σ.2.1 29 x1.toNatClampNeg) = (-1 : Int32) → vp_in x1 8 ∧ (((σ.2.1 29 x1.toNatClampNeg) = x2 → post (0 : Int32) σ) ∧ (¬ (σ.2.1 29 x1.toNatClampNeg) = x2 → post (2 : Int32) σ))))
set_option maxHeartbeats 4000000 in
set_option maxRecDepth 100000 in
theorem kcX8_why (l : Launch) (D : va_G) (c : Nat → ClassId) (q : Nat → Nat) (ev : State → Heap → Prop) (hev : evOK (wdA 31 q) ev) (σ : hsS) (x1 : Int32) (x2 : Int32) (post : Int32 → hsS → Prop) (hw : wX8_why x1 x2 post σ) : Met l yX8_why (Cond.code yX8_why cX8_why 3 (some .int) :: tb_L) { frames := 0, cells := 0, slots := 0, locals := 0 } (wdPc D (mw c q) (mwT c) (wdA 31 q) ev σ [.ref (q 0), .int x1, .int x2]) (va_Qi post (wdB D (mw c q)) (wdA 31 q)) 0 0 (wdA 31 q) := by
  refine Met.ofW (cc := cX8_why) (maxL := 3) (ret := (some .int)) (by decide) rfl ?_
  intro p e s m args below meth c₀ s₁ Bd hml hv
  obtain ⟨rfl, hP, hK, hD0, hE⟩ := hv
  have hx := Bd.exec
  have hb := Bd.bytes
  have hr := Bd.returns
  have hts := atoms_spec (ws := Cond.code yX8_why cX8_why 3 (some .int) :: tb_L) Bd.pre
  have htb : ∀ w ∈ tb_L, w.before [.ref (q 0), .int x1, .int x2].toArray s = true := fun w h => hts w (List.mem_cons_of_mem _ h)
  have hown : s.vm.findClass RX8 = some m.cls := findClass_of_methodNamed Bd.named
  have hlocks := Bd.notSynchronized
  have hS : va_S (wdA 31 q) s.heap s.heap [] := va_S.rf
  have hD := hD0
  have hl := lv_entry ([.ref (q 0), .int x1, .int x2]) (n := 3) (Nat.le_of_ble_eq_true rfl)
  rw [lg_entry_eq]
  generalize (lg_sl ([.ref (q 0), .int x1, .int x2]) ++ List.replicate (3 - (lg_sl ([.ref (q 0), .int x1, .int x2])).length) Slot.unset).toArray = ls at hl ⊢
  have hl : lv_has ls 3 [(0, .ref (q 0)), (1, .int x1), (2, .int x2)] := hl
  unfold wX8_why at hw
  refine lv_aload_n hx hb dX8_why_0 rfl (lv_at hl 0 rfl) ?_
  refine va_get (D := D) (ci := 8) (C := RX8) (T := TX8) (N := 57) hx hb htb inX8 hown hK hP 0 (mw_0 c q σ) rfl 55 (by decide) (htb _ tb_1236) (fun _ h9 => h9) rfl dX8_why_1 ?_
  refine lv_iload_n hx hb dX8_why_4 rfl (lv_at hl 1 rfl) ?_
  refine va_iald hx hb hK hP 29 28 (mw_29 c q σ) rfl hw.1 dX8_why_5 ?_
  have hw := hw.2
  refine lv_iconst (v := (-1 : Int32)) hx hb dX8_why_6 (by decide) ?_
  refine lv_icmp_ne (tgt := 14) hx hb dX8_why_7 (by decide) (fun c1 => ?_) (fun c1 => ?_)
  · have hw := hw.2 c1
    refine lv_aload_n hx hb dX8_why_14 rfl (lv_at hl 0 rfl) ?_
    refine va_get (D := D) (ci := 8) (C := RX8) (T := TX8) (N := 57) hx hb htb inX8 hown hK hP 0 (mw_0 c q σ) rfl 55 (by decide) (htb _ tb_1236) (fun _ h9 => h9) rfl dX8_why_15 ?_
    refine lv_iload_n hx hb dX8_why_18 rfl (lv_at hl 1 rfl) ?_
    refine va_iald hx hb hK hP 29 28 (mw_29 c q σ) rfl hw.1 dX8_why_19 ?_
    have hw := hw.2
    refine lv_iload_n hx hb dX8_why_20 rfl (lv_at hl 2 rfl) ?_
    refine lv_icmp_eq (tgt := 28) hx hb dX8_why_21 (by decide) (fun c2 => ?_) (fun c2 => ?_)
    · have hw := hw.1 c2
      refine lv_iconst (v := (0 : Int32)) hx hb dX8_why_28 (by decide) ?_
      exact W.iret hx hb hr (fun t ht hW => ⟨⟨_, σ, rfl, hw, by unfold wdB; rw [ht]; exact hP⟩, hS.F ht⟩) hS.2.2 dX8_why_29
    · have hw := hw.2 c2
      refine lv_iconst (v := (2 : Int32)) hx hb dX8_why_24 (by decide) ?_
      refine lv_goto (tgt := 29) hx hb dX8_why_25 (by decide) ?_
      exact W.iret hx hb hr (fun t ht hW => ⟨⟨_, σ, rfl, hw, by unfold wdB; rw [ht]; exact hP⟩, hS.F ht⟩) hS.2.2 dX8_why_29
  · have hw := hw.1 c1
    refine lv_iconst (v := (1 : Int32)) hx hb dX8_why_10 (by decide) ?_
    refine lv_goto (tgt := 29) hx hb dX8_why_11 (by decide) ?_
    exact W.iret hx hb hr (fun t ht hW => ⟨⟨_, σ, rfl, hw, by unfold wdB; rw [ht]; exact hP⟩, hS.F ht⟩) hS.2.2 dX8_why_29
def wX8_held (x1 : Int32) (x2 : Int32) (post : Int32 → hsS → Prop) (σ : hsS) : Prop := ∀ σ1 : hsS, σ1 = hsI σ 0 (0 : Int32) → wX8_isHolder x1 (fun r2 σ3 => ((r2 = (0 : Int32) → wX8_fail (1 : Int32) (fun r5 σ6 => post r5 σ6) σ3) ∧ (¬ r2 = (0 : Int32) → ((x2 < (0 : Int32) → wX8_fail (1 : Int32) (fun r8 σ9 => post r8 σ9) σ3) ∧ (¬ x2 < (0 : Int32) → ((x2 ≤ (1 : Int32) → wX8_why x1 x2 (fun r11 σ12 => ((r11 = (0 : Int32) → vp_in x1 8 ∧ post ((10 : Int32) + (σ12.2.1 30 x1.toNatClampNeg)) σ12) ∧ (¬ r11 = (0 : Int32) → post r11 σ12))) σ3) ∧ (¬ x2 ≤ (1 : Int32) → wX8_fail (1 : Int32) (fun r14 σ15 => post r14 σ15) σ3))))))) σ1
set_option maxHeartbeats 4000000 in
set_option maxRecDepth 100000 in
theorem kcX8_held (l : Launch) (D : va_G) (c : Nat → ClassId) (q : Nat → Nat) (ev : State → Heap → Prop) (hev : evOK (wdA 31 q) ev) (σ : hsS) (x1 : Int32) (x2 : Int32) (post : Int32 → hsS → Prop) (hw : wX8_held x1 x2 post σ) : Met l yX8_held (Cond.code yX8_held cX8_held 4 (some .int) :: tb_L) { frames := 2, cells := 0, slots := 0, locals := 42 } (wdPc D (mw c q) (mwT c) (wdA 31 q) ev σ [.ref (q 0), .int x1, .int x2]) (va_Qi post (wdB D (mw c q)) (wdA 31 q)) 0 0 (wdA 31 q) := by
  refine Met.ofW (cc := cX8_held) (maxL := 4) (ret := (some .int)) (by decide) rfl ?_
  intro p e s m args below meth c₀ s₁ Bd hml hv
  obtain ⟨rfl, hP, hK, hD0, hE⟩ := hv
  have hx := Bd.exec
  have hb := Bd.bytes
  have hr := Bd.returns
  have hts := atoms_spec (ws := Cond.code yX8_held cX8_held 4 (some .int) :: tb_L) Bd.pre
  have htb : ∀ w ∈ tb_L, w.before [.ref (q 0), .int x1, .int x2].toArray s = true := fun w h => hts w (List.mem_cons_of_mem _ h)
  have hown : s.vm.findClass RX8 = some m.cls := findClass_of_methodNamed Bd.named
  have hlocks := Bd.notSynchronized
  have hS : va_S (wdA 31 q) s.heap s.heap [] := va_S.rf
  have hD := hD0
  have hl := lv_entry ([.ref (q 0), .int x1, .int x2]) (n := 4) (Nat.le_of_ble_eq_true rfl)
  rw [lg_entry_eq]
  generalize (lg_sl ([.ref (q 0), .int x1, .int x2]) ++ List.replicate (4 - (lg_sl ([.ref (q 0), .int x1, .int x2])).length) Slot.unset).toArray = ls at hl ⊢
  have hl : lv_has ls 4 [(0, .ref (q 0)), (1, .int x1), (2, .int x2)] := hl
  unfold wX8_held at hw
  refine lv_aload_n hx hb dX8_held_0 rfl (lv_at hl 0 rfl) ?_
  refine lv_iconst (v := (0 : Int32)) hx hb dX8_held_1 (by decide) ?_
  refine va_put (D := D) (ci := 8) (ty := .int) (C := RX8) (T := TX8) (N := 57) hx hb htb inX8 tyX8 tyX8_ok nmX8 hown hK hP hD hS 0 (mw_0 c q σ) rfl 0 (by decide) (htb _ tb_1181) (fun _ h9 => h9) rfl (by decide +kernel) rfl rfl (Nat.le_of_ble_eq_true rfl) dX8_held_2 (fun H locs hP hD hS => ?_)
  have hP : va_P D vwCl (mw c q (hsI σ 0 (0 : Int32))) H := hP
  obtain ⟨σ1, eσ1⟩ : ∃ z : hsS, z = hsI σ 0 (0 : Int32) := ⟨_, rfl⟩
  rw [← eσ1] at hP
  have hD : va_D (wdA 31 q) (mw c q σ1) := mw_D hD0
  have hw := hw σ1 eσ1
  refine lv_iload_n hx hb dX8_held_5 rfl (lv_at hl 1 rfl) ?_
  refine va_calli (va_runS (As := [.int x1]) (rest := []) ⟨hx, hb, hml, hown, htb⟩ (kcX8_isHolder_m l D c q ev hev σ1 x1 _ hw) (tb_CS htb kX8_isHolder tb_1696 tb_1697 ⟨Nat.le_of_ble_eq_true rfl, Nat.le_of_ble_eq_true rfl⟩) (wd_preS (wd := mw c q) hev hK hP hD hE hS) rfl rfl hl.1 rfl (lv_room (Nat.le_of_ble_eq_true rfl)) dX8_held_6 ⟨Nat.zero_le _, Nat.zero_le _⟩) hS (fun q _ h => h) (fun q h => h) (fun r2 σ3 t H1 locs1 ht hvm hw hB hz1 hk1 hS => ?_)
  have hP : va_P D vwCl (mw c q σ3) H1 := ht ▸ hB
  have hD : va_D (wdA 31 q) (mw c q σ3) := mw_D hD0
  refine lv_if_eq (tgt := 21) hx hb dX8_held_9 (by decide) (fun c4 => ?_) (fun c4 => ?_)
  · have hw := hw.1 c4
    refine lv_aload_n hx hb dX8_held_21 rfl (lv_at hl 0 rfl) ?_
    refine lv_iconst (v := (1 : Int32)) hx hb dX8_held_22 (by decide) ?_
    refine va_calli (va_runV (As := [.int (1 : Int32)]) (rest := []) ⟨hx, hb, hml, hown, htb⟩ (kcX8_fail l D c q ev hev σ3 (1 : Int32) _ hw) (tb_CW htb kX8_fail tb_1366 tb_1368 tb_42 ⟨Nat.le_of_ble_eq_true rfl, Nat.le_of_ble_eq_true rfl⟩) (wd_preV (wd := mw c q) (k := 0) hev hK hP hD hE hS (mw_0 c q σ3) rfl) rfl rfl hl.1 rfl (lv_room (Nat.le_of_ble_eq_true rfl)) dX8_held_23 ⟨Nat.zero_le _, Nat.zero_le _⟩) hS (fun q _ h => h) (fun q h => h) (fun r5 σ6 t H1 locs1 ht hvm hw hB hz1 hk1 hS => ?_)
    have hP : va_P D vwCl (mw c q σ6) H1 := ht ▸ hB
    have hD : va_D (wdA 31 q) (mw c q σ6) := mw_D hD0
    exact W.iret hx hb hr (fun t ht hW => ⟨⟨_, σ6, rfl, hw, by unfold wdB; rw [ht]; exact hP⟩, hS.F ht⟩) hS.2.2 dX8_held_26
  · have hw := hw.2 c4
    refine lv_iload_n hx hb dX8_held_12 rfl (lv_at hl 2 rfl) ?_
    refine lv_if_lt (tgt := 21) hx hb dX8_held_13 (by decide) (fun c7 => ?_) (fun c7 => ?_)
    · have hw := hw.1 c7
      refine lv_aload_n hx hb dX8_held_21 rfl (lv_at hl 0 rfl) ?_
      refine lv_iconst (v := (1 : Int32)) hx hb dX8_held_22 (by decide) ?_
      refine va_calli (va_runV (As := [.int (1 : Int32)]) (rest := []) ⟨hx, hb, hml, hown, htb⟩ (kcX8_fail l D c q ev hev σ3 (1 : Int32) _ hw) (tb_CW htb kX8_fail tb_1366 tb_1368 tb_42 ⟨Nat.le_of_ble_eq_true rfl, Nat.le_of_ble_eq_true rfl⟩) (wd_preV (wd := mw c q) (k := 0) hev hK hP hD hE hS (mw_0 c q σ3) rfl) rfl rfl hl.1 rfl (lv_room (Nat.le_of_ble_eq_true rfl)) dX8_held_23 ⟨Nat.zero_le _, Nat.zero_le _⟩) hS (fun q _ h => h) (fun q h => h) (fun r8 σ9 t H1 locs1 ht hvm hw hB hz1 hk1 hS => ?_)
      have hP : va_P D vwCl (mw c q σ9) H1 := ht ▸ hB
      have hD : va_D (wdA 31 q) (mw c q σ9) := mw_D hD0
      exact W.iret hx hb hr (fun t ht hW => ⟨⟨_, σ9, rfl, hw, by unfold wdB; rw [ht]; exact hP⟩, hS.F ht⟩) hS.2.2 dX8_held_26
    · have hw := hw.2 c7
      refine lv_iload_n hx hb dX8_held_16 rfl (lv_at hl 2 rfl) ?_
      refine lv_iconst (v := (1 : Int32)) hx hb dX8_held_17 (by decide) ?_
      refine lv_icmp_le (tgt := 27) hx hb dX8_held_18 (by decide) (fun c10 => ?_) (fun c10 => ?_)
      · have hw := hw.1 c10
        refine lv_aload_n hx hb dX8_held_27 rfl (lv_at hl 0 rfl) ?_
        refine lv_iload_n hx hb dX8_held_28 rfl (lv_at hl 1 rfl) ?_
        refine lv_iload_n hx hb dX8_held_29 rfl (lv_at hl 2 rfl) ?_
        refine va_calli (va_runV (As := [.int x1, .int x2]) (rest := []) ⟨hx, hb, hml, hown, htb⟩ (kcX8_why l D c q ev hev σ3 x1 x2 _ hw) (tb_CW htb kX8_why tb_1703 tb_1705 tb_88 ⟨Nat.le_of_ble_eq_true rfl, Nat.le_of_ble_eq_true rfl⟩) (wd_preV (wd := mw c q) (k := 0) hev hK hP hD hE hS (mw_0 c q σ3) rfl) rfl rfl hl.1 rfl (lv_room (Nat.le_of_ble_eq_true rfl)) dX8_held_30 ⟨Nat.zero_le _, Nat.zero_le _⟩) hS (fun q _ h => h) (fun q h => h) (fun r11 σ12 t H1 locs1 ht hvm hw hB hz1 hk1 hS => ?_)
        have hP : va_P D vwCl (mw c q σ12) H1 := ht ▸ hB
        have hD : va_D (wdA 31 q) (mw c q σ12) := mw_D hD0
        refine lv_istore_n (lv' := [(3, .int r11), (0, .ref (q 0)), (1, .int x1), (2, .int x2)]) hx hb dX8_held_33 rfl hl (by decide) rfl (fun ls hl => ?_)
        refine lv_iload_n hx hb dX8_held_34 rfl (lv_at hl 0 rfl) ?_
        refine lv_if_ne (tgt := 50) hx hb dX8_held_35 (by decide) (fun c13 => ?_) (fun c13 => ?_)
        · have hw := hw.2 c13
          refine lv_iload_n hx hb dX8_held_50 rfl (lv_at hl 0 rfl) ?_
          exact W.iret hx hb hr (fun t ht hW => ⟨⟨_, σ12, rfl, hw, by unfold wdB; rw [ht]; exact hP⟩, hS.F ht⟩) hS.2.2 dX8_held_51
        · have hw := hw.1 c13
          refine lv_bipush (v := (10 : Int32)) hx hb dX8_held_38 (by decide) ?_
          refine lv_aload_n hx hb dX8_held_40 rfl (lv_at hl 1 rfl) ?_
          refine va_get (D := D) (ci := 8) (C := RX8) (T := TX8) (N := 57) hx hb htb inX8 hown hK hP 0 (mw_0 c q σ12) rfl 56 (by decide) (htb _ tb_1237) (fun _ h9 => h9) rfl dX8_held_41 ?_
          refine lv_iload_n hx hb dX8_held_44 rfl (lv_at hl 2 rfl) ?_
          refine va_iald hx hb hK hP 30 29 (mw_30 c q σ12) rfl hw.1 dX8_held_45 ?_
          have hw := hw.2
          refine lv_iadd hx hb dX8_held_46 ?_
          refine lv_goto (tgt := 51) hx hb dX8_held_47 (by decide) ?_
          exact W.iret hx hb hr (fun t ht hW => ⟨⟨_, σ12, rfl, hw, by unfold wdB; rw [ht]; exact hP⟩, hS.F ht⟩) hS.2.2 dX8_held_51
      · have hw := hw.2 c10
        refine lv_aload_n hx hb dX8_held_21 rfl (lv_at hl 0 rfl) ?_
        refine lv_iconst (v := (1 : Int32)) hx hb dX8_held_22 (by decide) ?_
        refine va_calli (va_runV (As := [.int (1 : Int32)]) (rest := []) ⟨hx, hb, hml, hown, htb⟩ (kcX8_fail l D c q ev hev σ3 (1 : Int32) _ hw) (tb_CW htb kX8_fail tb_1366 tb_1368 tb_42 ⟨Nat.le_of_ble_eq_true rfl, Nat.le_of_ble_eq_true rfl⟩) (wd_preV (wd := mw c q) (k := 0) hev hK hP hD hE hS (mw_0 c q σ3) rfl) rfl rfl hl.1 rfl (lv_room (Nat.le_of_ble_eq_true rfl)) dX8_held_23 ⟨Nat.zero_le _, Nat.zero_le _⟩) hS (fun q _ h => h) (fun q h => h) (fun r14 σ15 t H1 locs1 ht hvm hw hB hz1 hk1 hS => ?_)
        have hP : va_P D vwCl (mw c q σ15) H1 := ht ▸ hB
        have hD : va_D (wdA 31 q) (mw c q σ15) := mw_D hD0
        exact W.iret hx hb hr (fun t ht hW => ⟨⟨_, σ15, rfl, hw, by unfold wdB; rw [ht]; exact hP⟩, hS.F ht⟩) hS.2.2 dX8_held_26
def wX8_left (x1 : Int32) (x2 : Int32) (post : Int32 → hsS → Prop) (σ : hsS) : Prop := ∀ σ1 : hsS, σ1 = hsI σ 0 (0 : Int32) → wX8_isHolder x1 (fun r2 σ3 => ((r2 = (0 : Int32) → wX8_fail (1 : Int32) (fun r5 σ6 => post r5 σ6) σ3) ∧ (¬ r2 = (0 : Int32) → wX8_isHolder x2 (fun r7 σ8 => ((r7 = (0 : Int32) → wX8_fail (1 : Int32) (fun r10 σ11 => post r10 σ11) σ8) ∧ (¬ r7 = (0 : Int32) → wX8_why x1 (0 : Int32) (fun r12 σ13 => wX8_why x2 (1 : Int32) (fun r14 σ15 => ((r12 = (0 : Int32) → ((r14 = (0 : Int32) → vp_in x2 8 ∧ wX8_leftBehind (σ15.2.1 30 x2.toNatClampNeg) (fun r18 σ19 => vp_in x1 8 ∧ ((((r18 >>> ((σ19.2.1 30 x1.toNatClampNeg) &&& 31)) &&& (1 : Int32)) = (1 : Int32) → post (11 : Int32) σ19) ∧ (¬ ((r18 >>> ((σ19.2.1 30 x1.toNatClampNeg) &&& 31)) &&& (1 : Int32)) = (1 : Int32) → post (10 : Int32) σ19))) σ15) ∧ (¬ r14 = (0 : Int32) → ((r12 = (0 : Int32) → post r14 σ15) ∧ (¬ r12 = (0 : Int32) → ((r14 = (0 : Int32) → post r12 σ15) ∧ (¬ r14 = (0 : Int32) → post (if r14 < r12 then r14 else r12) σ15))))))) ∧ (¬ r12 = (0 : Int32) → ((r12 = (0 : Int32) → post r14 σ15) ∧ (¬ r12 = (0 : Int32) → ((r14 = (0 : Int32) → post r12 σ15) ∧ (¬ r14 = (0 : Int32) → post (if r14 < r12 then r14 else r12) σ15))))))) σ13) σ8))) σ3))) σ1
set_option maxHeartbeats 4000000 in
set_option maxRecDepth 100000 in
theorem kcX8_left (l : Launch) (D : va_G) (c : Nat → ClassId) (q : Nat → Nat) (ev : State → Heap → Prop) (hev : evOK (wdA 31 q) ev) (σ : hsS) (x1 : Int32) (x2 : Int32) (post : Int32 → hsS → Prop) (hw : wX8_left x1 x2 post σ) : Met l yX8_left (Cond.code yX8_left cX8_left 5 (some .int) :: tb_L) { frames := 2, cells := 0, slots := 0, locals := 42 } (wdPc D (mw c q) (mwT c) (wdA 31 q) ev σ [.ref (q 0), .int x1, .int x2]) (va_Qi post (wdB D (mw c q)) (wdA 31 q)) 0 0 (wdA 31 q) := by
  refine Met.ofW (cc := cX8_left) (maxL := 5) (ret := (some .int)) (by decide) rfl ?_
  intro p e s m args below meth c₀ s₁ Bd hml hv
  obtain ⟨rfl, hP, hK, hD0, hE⟩ := hv
  have hx := Bd.exec
  have hb := Bd.bytes
  have hr := Bd.returns
  have hts := atoms_spec (ws := Cond.code yX8_left cX8_left 5 (some .int) :: tb_L) Bd.pre
  have htb : ∀ w ∈ tb_L, w.before [.ref (q 0), .int x1, .int x2].toArray s = true := fun w h => hts w (List.mem_cons_of_mem _ h)
  have hown : s.vm.findClass RX8 = some m.cls := findClass_of_methodNamed Bd.named
  have hlocks := Bd.notSynchronized
  have hS : va_S (wdA 31 q) s.heap s.heap [] := va_S.rf
  have hD := hD0
  have hl := lv_entry ([.ref (q 0), .int x1, .int x2]) (n := 5) (Nat.le_of_ble_eq_true rfl)
  rw [lg_entry_eq]
  generalize (lg_sl ([.ref (q 0), .int x1, .int x2]) ++ List.replicate (5 - (lg_sl ([.ref (q 0), .int x1, .int x2])).length) Slot.unset).toArray = ls at hl ⊢
  have hl : lv_has ls 5 [(0, .ref (q 0)), (1, .int x1), (2, .int x2)] := hl
  unfold wX8_left at hw
  refine lv_aload_n hx hb dX8_left_0 rfl (lv_at hl 0 rfl) ?_
  refine lv_iconst (v := (0 : Int32)) hx hb dX8_left_1 (by decide) ?_
  refine va_put (D := D) (ci := 8) (ty := .int) (C := RX8) (T := TX8) (N := 57) hx hb htb inX8 tyX8 tyX8_ok nmX8 hown hK hP hD hS 0 (mw_0 c q σ) rfl 0 (by decide) (htb _ tb_1181) (fun _ h9 => h9) rfl (by decide +kernel) rfl rfl (Nat.le_of_ble_eq_true rfl) dX8_left_2 (fun H locs hP hD hS => ?_)
  have hP : va_P D vwCl (mw c q (hsI σ 0 (0 : Int32))) H := hP
  obtain ⟨σ1, eσ1⟩ : ∃ z : hsS, z = hsI σ 0 (0 : Int32) := ⟨_, rfl⟩
  rw [← eσ1] at hP
  have hD : va_D (wdA 31 q) (mw c q σ1) := mw_D hD0
  have hw := hw σ1 eσ1
  refine lv_iload_n hx hb dX8_left_5 rfl (lv_at hl 1 rfl) ?_
  refine va_calli (va_runS (As := [.int x1]) (rest := []) ⟨hx, hb, hml, hown, htb⟩ (kcX8_isHolder_m l D c q ev hev σ1 x1 _ hw) (tb_CS htb kX8_isHolder tb_1696 tb_1697 ⟨Nat.le_of_ble_eq_true rfl, Nat.le_of_ble_eq_true rfl⟩) (wd_preS (wd := mw c q) hev hK hP hD hE hS) rfl rfl hl.1 rfl (lv_room (Nat.le_of_ble_eq_true rfl)) dX8_left_6 ⟨Nat.zero_le _, Nat.zero_le _⟩) hS (fun q _ h => h) (fun q h => h) (fun r2 σ3 t H1 locs1 ht hvm hw hB hz1 hk1 hS => ?_)
  have hP : va_P D vwCl (mw c q σ3) H1 := ht ▸ hB
  have hD : va_D (wdA 31 q) (mw c q σ3) := mw_D hD0
  refine lv_if_eq (tgt := 19) hx hb dX8_left_9 (by decide) (fun c4 => ?_) (fun c4 => ?_)
  · have hw := hw.1 c4
    refine lv_aload_n hx hb dX8_left_19 rfl (lv_at hl 0 rfl) ?_
    refine lv_iconst (v := (1 : Int32)) hx hb dX8_left_20 (by decide) ?_
    refine va_calli (va_runV (As := [.int (1 : Int32)]) (rest := []) ⟨hx, hb, hml, hown, htb⟩ (kcX8_fail l D c q ev hev σ3 (1 : Int32) _ hw) (tb_CW htb kX8_fail tb_1366 tb_1368 tb_42 ⟨Nat.le_of_ble_eq_true rfl, Nat.le_of_ble_eq_true rfl⟩) (wd_preV (wd := mw c q) (k := 0) hev hK hP hD hE hS (mw_0 c q σ3) rfl) rfl rfl hl.1 rfl (lv_room (Nat.le_of_ble_eq_true rfl)) dX8_left_21 ⟨Nat.zero_le _, Nat.zero_le _⟩) hS (fun q _ h => h) (fun q h => h) (fun r5 σ6 t H1 locs1 ht hvm hw hB hz1 hk1 hS => ?_)
    have hP : va_P D vwCl (mw c q σ6) H1 := ht ▸ hB
    have hD : va_D (wdA 31 q) (mw c q σ6) := mw_D hD0
    exact W.iret hx hb hr (fun t ht hW => ⟨⟨_, σ6, rfl, hw, by unfold wdB; rw [ht]; exact hP⟩, hS.F ht⟩) hS.2.2 dX8_left_24
  · have hw := hw.2 c4
    refine lv_iload_n hx hb dX8_left_12 rfl (lv_at hl 2 rfl) ?_
    refine va_calli (va_runS (As := [.int x2]) (rest := []) ⟨hx, hb, hml, hown, htb⟩ (kcX8_isHolder_m l D c q ev hev σ3 x2 _ hw) (tb_CS htb kX8_isHolder tb_1696 tb_1697 ⟨Nat.le_of_ble_eq_true rfl, Nat.le_of_ble_eq_true rfl⟩) (wd_preS (wd := mw c q) hev hK hP hD hE hS) rfl rfl hl.1 rfl (lv_room (Nat.le_of_ble_eq_true rfl)) dX8_left_13 ⟨Nat.zero_le _, Nat.zero_le _⟩) hS (fun q _ h => h) (fun q h => h) (fun r7 σ8 t H1 locs1 ht hvm hw hB hz1 hk1 hS => ?_)
    have hP : va_P D vwCl (mw c q σ8) H1 := ht ▸ hB
    have hD : va_D (wdA 31 q) (mw c q σ8) := mw_D hD0
    refine lv_if_ne (tgt := 25) hx hb dX8_left_16 (by decide) (fun c9 => ?_) (fun c9 => ?_)
    · have hw := hw.2 c9
      refine lv_aload_n hx hb dX8_left_25 rfl (lv_at hl 0 rfl) ?_
      refine lv_iload_n hx hb dX8_left_26 rfl (lv_at hl 1 rfl) ?_
      refine lv_iconst (v := (0 : Int32)) hx hb dX8_left_27 (by decide) ?_
      refine va_calli (va_runV (As := [.int x1, .int (0 : Int32)]) (rest := []) ⟨hx, hb, hml, hown, htb⟩ (kcX8_why l D c q ev hev σ8 x1 (0 : Int32) _ hw) (tb_CW htb kX8_why tb_1703 tb_1705 tb_88 ⟨Nat.le_of_ble_eq_true rfl, Nat.le_of_ble_eq_true rfl⟩) (wd_preV (wd := mw c q) (k := 0) hev hK hP hD hE hS (mw_0 c q σ8) rfl) rfl rfl hl.1 rfl (lv_room (Nat.le_of_ble_eq_true rfl)) dX8_left_28 ⟨Nat.zero_le _, Nat.zero_le _⟩) hS (fun q _ h => h) (fun q h => h) (fun r12 σ13 t H1 locs1 ht hvm hw hB hz1 hk1 hS => ?_)
      have hP : va_P D vwCl (mw c q σ13) H1 := ht ▸ hB
      have hD : va_D (wdA 31 q) (mw c q σ13) := mw_D hD0
      refine lv_istore_n (lv' := [(3, .int r12), (0, .ref (q 0)), (1, .int x1), (2, .int x2)]) hx hb dX8_left_31 rfl hl (by decide) rfl (fun ls hl => ?_)
      refine lv_aload_n hx hb dX8_left_32 rfl (lv_at hl 1 rfl) ?_
      refine lv_iload_n hx hb dX8_left_33 rfl (lv_at hl 3 rfl) ?_
      refine lv_iconst (v := (1 : Int32)) hx hb dX8_left_34 (by decide) ?_
      refine va_calli (va_runV (As := [.int x2, .int (1 : Int32)]) (rest := []) ⟨hx, hb, hml, hown, htb⟩ (kcX8_why l D c q ev hev σ13 x2 (1 : Int32) _ hw) (tb_CW htb kX8_why tb_1703 tb_1705 tb_88 ⟨Nat.le_of_ble_eq_true rfl, Nat.le_of_ble_eq_true rfl⟩) (wd_preV (wd := mw c q) (k := 0) hev hK hP hD hE hS (mw_0 c q σ13) rfl) rfl rfl hl.1 rfl (lv_room (Nat.le_of_ble_eq_true rfl)) dX8_left_35 ⟨Nat.zero_le _, Nat.zero_le _⟩) hS (fun q _ h => h) (fun q h => h) (fun r14 σ15 t H1 locs1 ht hvm hw hB hz1 hk1 hS => ?_)
      have hP : va_P D vwCl (mw c q σ15) H1 := ht ▸ hB
      have hD : va_D (wdA 31 q) (mw c q σ15) := mw_D hD0
      refine lv_istore (lv' := [(4, .int r14), (3, .int r12), (0, .ref (q 0)), (1, .int x1), (2, .int x2)]) hx hb dX8_left_38 hl (by decide) rfl (fun ls hl => ?_)
      refine lv_iload_n hx hb dX8_left_40 rfl (lv_at hl 1 rfl) ?_
      refine lv_if_ne (tgt := 49) hx hb dX8_left_41 (by decide) (fun c16 => ?_) (fun c16 => ?_)
      · have hw := hw.2 c16
        refine lv_iload_n hx hb dX8_left_49 rfl (lv_at hl 1 rfl) ?_
        refine lv_if_ne (tgt := 58) hx hb dX8_left_50 (by decide) (fun c23 => ?_) (fun c23 => ?_)
        · have hw := hw.2 c23
          refine lv_iload hx hb dX8_left_58 (lv_at hl 0 rfl) ?_
          refine lv_if_ne (tgt := 67) hx hb dX8_left_60 (by decide) (fun c24 => ?_) (fun c24 => ?_)
          · have hw := hw.2 c24
            refine lv_iload_n hx hb dX8_left_67 rfl (lv_at hl 1 rfl) ?_
            refine lv_iload hx hb dX8_left_68 (lv_at hl 0 rfl) ?_
            refine va_mmin hx hb (hml.trans hl.1.symm) hown (htb _ tb_1384) (htb _ tb_413) (htb _ tb_104) (htb _ tb_414) (Nat.le_of_ble_eq_true rfl) (Nat.le_of_ble_eq_true rfl) (Nat.zero_le _) (Nat.zero_le _) dX8_left_70 ?_
            exact W.iret hx hb hr (fun t ht hW => ⟨⟨_, σ15, rfl, hw, by unfold wdB; rw [ht]; exact hP⟩, hS.F ht⟩) hS.2.2 dX8_left_73
          · have hw := hw.1 c24
            refine lv_iload_n hx hb dX8_left_63 rfl (lv_at hl 1 rfl) ?_
            refine lv_goto (tgt := 73) hx hb dX8_left_64 (by decide) ?_
            exact W.iret hx hb hr (fun t ht hW => ⟨⟨_, σ15, rfl, hw, by unfold wdB; rw [ht]; exact hP⟩, hS.F ht⟩) hS.2.2 dX8_left_73
        · have hw := hw.1 c23
          refine lv_iload hx hb dX8_left_53 (lv_at hl 0 rfl) ?_
          refine lv_goto (tgt := 73) hx hb dX8_left_55 (by decide) ?_
          exact W.iret hx hb hr (fun t ht hW => ⟨⟨_, σ15, rfl, hw, by unfold wdB; rw [ht]; exact hP⟩, hS.F ht⟩) hS.2.2 dX8_left_73
      · have hw := hw.1 c16
        refine lv_iload hx hb dX8_left_44 (lv_at hl 0 rfl) ?_
        refine lv_if_eq (tgt := 74) hx hb dX8_left_46 (by decide) (fun c17 => ?_) (fun c17 => ?_)
        · have hw := hw.1 c17
          refine lv_aload_n hx hb dX8_left_74 rfl (lv_at hl 2 rfl) ?_
          refine lv_aload_n hx hb dX8_left_75 rfl (lv_at hl 2 rfl) ?_
          refine va_get (D := D) (ci := 8) (C := RX8) (T := TX8) (N := 57) hx hb htb inX8 hown hK hP 0 (mw_0 c q σ15) rfl 56 (by decide) (htb _ tb_1237) (fun _ h9 => h9) rfl dX8_left_76 ?_
          refine lv_iload_n hx hb dX8_left_79 rfl (lv_at hl 4 rfl) ?_
          refine va_iald hx hb hK hP 30 29 (mw_30 c q σ15) rfl hw.1 dX8_left_80 ?_
          have hw := hw.2
          refine va_calli (va_runV (As := [.int (σ15.2.1 30 x2.toNatClampNeg)]) (rest := []) ⟨hx, hb, hml, hown, htb⟩ (kcX8_leftBehind l D c q ev hev σ15 (σ15.2.1 30 x2.toNatClampNeg) _ hw) (tb_CW htb kX8_leftBehind tb_1688 tb_1690 tb_87 ⟨Nat.le_of_ble_eq_true rfl, Nat.le_of_ble_eq_true rfl⟩) (wd_preV (wd := mw c q) (k := 0) hev hK hP hD hE hS (mw_0 c q σ15) rfl) rfl rfl hl.1 rfl (lv_room (Nat.le_of_ble_eq_true rfl)) dX8_left_81 ⟨Nat.zero_le _, Nat.zero_le _⟩) hS (fun q _ h => h) (fun q h => h) (fun r18 σ19 t H1 locs1 ht hvm hw hB hz1 hk1 hS => ?_)
          have hP : va_P D vwCl (mw c q σ19) H1 := ht ▸ hB
          have hD : va_D (wdA 31 q) (mw c q σ19) := mw_D hD0
          refine lv_aload_n hx hb dX8_left_84 rfl (lv_at hl 2 rfl) ?_
          refine va_get (D := D) (ci := 8) (C := RX8) (T := TX8) (N := 57) hx hb htb inX8 hown hK hP 0 (mw_0 c q σ19) rfl 56 (by decide) (htb _ tb_1237) (fun _ h9 => h9) rfl dX8_left_85 ?_
          refine lv_iload_n hx hb dX8_left_88 rfl (lv_at hl 3 rfl) ?_
          refine va_iald hx hb hK hP 30 29 (mw_30 c q σ19) rfl hw.1 dX8_left_89 ?_
          have hw := hw.2
          refine lv_ishr hx hb dX8_left_90 ?_
          refine lv_iconst (v := (1 : Int32)) hx hb dX8_left_91 (by decide) ?_
          refine lv_iand hx hb dX8_left_92 ?_
          refine lv_iconst (v := (1 : Int32)) hx hb dX8_left_93 (by decide) ?_
          refine lv_icmp_ne (tgt := 102) hx hb dX8_left_94 (by decide) (fun c20 => ?_) (fun c20 => ?_)
          · have hw := hw.2 c20
            refine lv_bipush (v := (10 : Int32)) hx hb dX8_left_102 (by decide) ?_
            exact W.iret hx hb hr (fun t ht hW => ⟨⟨_, σ19, rfl, hw, by unfold wdB; rw [ht]; exact hP⟩, hS.F ht⟩) hS.2.2 dX8_left_104
          · have hw := hw.1 c20
            refine lv_bipush (v := (11 : Int32)) hx hb dX8_left_97 (by decide) ?_
            refine lv_goto (tgt := 104) hx hb dX8_left_99 (by decide) ?_
            exact W.iret hx hb hr (fun t ht hW => ⟨⟨_, σ19, rfl, hw, by unfold wdB; rw [ht]; exact hP⟩, hS.F ht⟩) hS.2.2 dX8_left_104
        · have hw := hw.2 c17
          refine lv_iload_n hx hb dX8_left_49 rfl (lv_at hl 1 rfl) ?_
          refine lv_if_ne (tgt := 58) hx hb dX8_left_50 (by decide) (fun c21 => ?_) (fun c21 => ?_)
          · have hw := hw.2 c21
            refine lv_iload hx hb dX8_left_58 (lv_at hl 0 rfl) ?_
            refine lv_if_ne (tgt := 67) hx hb dX8_left_60 (by decide) (fun c22 => ?_) (fun c22 => ?_)
            · have hw := hw.2 c22
              refine lv_iload_n hx hb dX8_left_67 rfl (lv_at hl 1 rfl) ?_
              refine lv_iload hx hb dX8_left_68 (lv_at hl 0 rfl) ?_
              refine va_mmin hx hb (hml.trans hl.1.symm) hown (htb _ tb_1384) (htb _ tb_413) (htb _ tb_104) (htb _ tb_414) (Nat.le_of_ble_eq_true rfl) (Nat.le_of_ble_eq_true rfl) (Nat.zero_le _) (Nat.zero_le _) dX8_left_70 ?_
              exact W.iret hx hb hr (fun t ht hW => ⟨⟨_, σ15, rfl, hw, by unfold wdB; rw [ht]; exact hP⟩, hS.F ht⟩) hS.2.2 dX8_left_73
            · have hw := hw.1 c22
              refine lv_iload_n hx hb dX8_left_63 rfl (lv_at hl 1 rfl) ?_
              refine lv_goto (tgt := 73) hx hb dX8_left_64 (by decide) ?_
              exact W.iret hx hb hr (fun t ht hW => ⟨⟨_, σ15, rfl, hw, by unfold wdB; rw [ht]; exact hP⟩, hS.F ht⟩) hS.2.2 dX8_left_73
          · have hw := hw.1 c21
            refine lv_iload hx hb dX8_left_53 (lv_at hl 0 rfl) ?_
            refine lv_goto (tgt := 73) hx hb dX8_left_55 (by decide) ?_
            exact W.iret hx hb hr (fun t ht hW => ⟨⟨_, σ15, rfl, hw, by unfold wdB; rw [ht]; exact hP⟩, hS.F ht⟩) hS.2.2 dX8_left_73
    · have hw := hw.1 c9
      refine lv_aload_n hx hb dX8_left_19 rfl (lv_at hl 0 rfl) ?_
      refine lv_iconst (v := (1 : Int32)) hx hb dX8_left_20 (by decide) ?_
      refine va_calli (va_runV (As := [.int (1 : Int32)]) (rest := []) ⟨hx, hb, hml, hown, htb⟩ (kcX8_fail l D c q ev hev σ8 (1 : Int32) _ hw) (tb_CW htb kX8_fail tb_1366 tb_1368 tb_42 ⟨Nat.le_of_ble_eq_true rfl, Nat.le_of_ble_eq_true rfl⟩) (wd_preV (wd := mw c q) (k := 0) hev hK hP hD hE hS (mw_0 c q σ8) rfl) rfl rfl hl.1 rfl (lv_room (Nat.le_of_ble_eq_true rfl)) dX8_left_21 ⟨Nat.zero_le _, Nat.zero_le _⟩) hS (fun q _ h => h) (fun q h => h) (fun r10 σ11 t H1 locs1 ht hvm hw hB hz1 hk1 hS => ?_)
      have hP : va_P D vwCl (mw c q σ11) H1 := ht ▸ hB
      have hD : va_D (wdA 31 q) (mw c q σ11) := mw_D hD0
      exact W.iret hx hb hr (fun t ht hW => ⟨⟨_, σ11, rfl, hw, by unfold wdB; rw [ht]; exact hP⟩, hS.F ht⟩) hS.2.2 dX8_left_24
