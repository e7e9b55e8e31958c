theorem kX3_atNumber : tbM yX3_atNumber cX3_atNumber 1 (some .boolean) 0 := ⟨tb_809, tb_92, by decide +kernel, by decide +kernel⟩
theorem kX3_atNumberWithin : tbM yX3_atNumberWithin cX3_atNumberWithin 3 (some .boolean) 2 := ⟨tb_805, tb_92, by decide +kernel, by decide +kernel⟩
theorem kX3_passSign : tbM yX3_passSign cX3_passSign 1 (some .boolean) 0 := ⟨tb_813, tb_92, by decide +kernel, by decide +kernel⟩
theorem kX3_readThings : tbM yX3_readThings cX3_readThings 1 (some .boolean) 0 := ⟨tb_740, tb_92, by decide +kernel, by decide +kernel⟩
theorem kX3_readTurns : tbM yX3_readTurns cX3_readTurns 2 (some .boolean) 0 := ⟨tb_857, tb_92, by decide +kernel, by decide +kernel⟩
theorem kX3_readTold : tbM yX3_readTold cX3_readTold 2 (some .boolean) 0 := ⟨tb_852, tb_92, by decide +kernel, by decide +kernel⟩
theorem kX3_readSteps : tbM yX3_readSteps cX3_readSteps 1 (some .boolean) 0 := ⟨tb_847, tb_92, by decide +kernel, by decide +kernel⟩
theorem kX3_readLaw : tbM yX3_readLaw cX3_readLaw 1 (some .boolean) 0 := ⟨tb_841, tb_92, by decide +kernel, by decide +kernel⟩
theorem kX3_atNewThing : tbM yX3_atNewThing cX3_atNewThing 2 (some .boolean) 1 := ⟨tb_832, tb_92, by decide +kernel, by decide +kernel⟩
theorem kX1_putPlace : tbM yX1_putPlace cX1_putPlace 4 none 3 := ⟨tb_601, tb_91, by decide +kernel, by decide +kernel⟩
theorem kJ6_bitCount_0f7a4 : tbM yJ6_bitCount_0f7a4 cJ6_bitCount_0f7a4 1 (some .int) 1 := ⟨tb_408, tb_109, by decide +kernel, by decide +kernel⟩
theorem kX3_readOrder : tbM yX3_readOrder cX3_readOrder 6 (some .boolean) 1 := ⟨tb_828, tb_92, by decide +kernel, by decide +kernel⟩
theorem kX3_readPerson : tbM yX3_readPerson cX3_readPerson 2 (some .boolean) 0 := ⟨tb_822, tb_92, by decide +kernel, by decide +kernel⟩
theorem kX3_readLine : tbM yX3_readLine cX3_readLine 1 (some .boolean) 0 := ⟨tb_817, tb_92, by decide +kernel, by decide +kernel⟩
theorem kX3_read : tbM yX3_read cX3_read 4 (some .int) 1 := ⟨tb_706, tb_92, by decide +kernel, by decide +kernel⟩
theorem kX1_takeFrom : tbM yX1_takeFrom cX1_takeFrom 2 none 1 := ⟨tb_571, tb_91, by decide +kernel, by decide +kernel⟩
theorem kX6_forget : tbM yX6_forget cX6_forget 1 none 0 := ⟨tb_866, tb_95, by decide +kernel, by decide +kernel⟩
theorem kX2_forget : tbM yX2_forget cX2_forget 1 none 0 := ⟨tb_870, tb_96, by decide +kernel, by decide +kernel⟩
theorem kJ7_fill_53178 : tbM yJ7_fill_53178 cJ7_fill_53178 4 none 2 := ⟨tb_321, tb_98, by decide +kernel, by decide +kernel⟩
theorem kX0_empty : tbM yX0_empty cX0_empty 1 none 0 := ⟨tb_874, tb_97, by decide +kernel, by decide +kernel⟩
theorem kX7_forgetOldHall : tbM yX7_forgetOldHall cX7_forgetOldHall 1 none 0 := ⟨tb_862, tb_90, by decide +kernel, by decide +kernel⟩
theorem kX7_hall : tbM yX7_hall cX7_hall 3 (some .int) 1 := ⟨tb_636, tb_90, by decide +kernel, by decide +kernel⟩
def wX3_atNumber (b0 : Nat) (post : Int32 → hsS → Prop) (σ : hsS) : Prop := (((σ.1 (64 * b0 + 4)) = (2 : Int32) → ((((σ.1 (64 * b0 + 6)) - (σ.1 (64 * b0 + 5))) ≤ (3 : Int32) → post (1 : Int32) σ) ∧ (¬ ((σ.1 (64 * b0 + 6)) - (σ.1 (64 * b0 + 5))) ≤ (3 : Int32) → wX3_fail b0 (2 : Int32) (fun r3 σ4 => ((r3 = (0 : Int32) → post (0 : Int32) σ4) ∧ (¬ r3 = (0 : Int32) → post (1 : Int32) σ4))) σ))) ∧ (¬ (σ.1 (64 * b0 + 4)) = (2 : Int32) → wX3_fail b0 (1 : Int32) (fun r6 σ7 => (r6 = 0 ∨ r6 = 1) ∧ post r6 σ7) σ))
set_option maxHeartbeats 4000000 in
set_option maxRecDepth 100000 in
theorem kcX3_atNumber_11 (l : Launch) (D : va_G) (c : Nat → ClassId) (q : Nat → Nat) (ev : State → Heap → Prop) (hev : evOK (wdA 36 q) ev) (σ : hsS)  (post : Int32 → hsS → Prop) (hw : wX3_atNumber 11 post σ) : Met l yX3_atNumber (Cond.code yX3_atNumber cX3_atNumber 1 (some .boolean) :: tb_L) { frames := 1, cells := 0, slots := 0, locals := 21 } (wdPc D (xw c q) (xwT c) (wdA 36 q) ev σ [.ref (q 11)]) (va_Qi post (wdB D (xw c q)) (wdA 36 q)) 0 0 (wdA 36 q) := by
  refine Met.ofW (cc := cX3_atNumber) (maxL := 1) (ret := (some .boolean)) (by decide) rfl ?_
  intro p e s m args below meth c₀ s₁ Bd hml hv
  obtain ⟨rfl, hP, hK, hD0, hE⟩ := hv
  have hx := Bd.exec
  have hb := Bd.bytes
  have hr := Bd.returns
  have hts := atoms_spec (ws := Cond.code yX3_atNumber cX3_atNumber 1 (some .boolean) :: tb_L) Bd.pre
  have htb : ∀ w ∈ tb_L, w.before [.ref (q 11)].toArray s = true := fun w h => hts w (List.mem_cons_of_mem _ h)
  have hown : s.vm.findClass RX3 = some m.cls := findClass_of_methodNamed Bd.named
  have hlocks := Bd.notSynchronized
  have hS : va_S (wdA 36 q) s.heap s.heap [] := va_S.rf
  have hD := hD0
  have hl := lv_entry ([.ref (q 11)]) (n := 1) (Nat.le_of_ble_eq_true rfl)
  rw [lg_entry_eq]
  generalize (lg_sl ([.ref (q 11)]) ++ List.replicate (1 - (lg_sl ([.ref (q 11)])).length) Slot.unset).toArray = ls at hl ⊢
  have hl : lv_has ls 1 [(0, .ref (q 11))] := hl
  unfold wX3_atNumber at hw
  refine lv_aload_n hx hb dX3_atNumber_0 rfl (lv_at hl 0 rfl) ?_
  refine va_get (D := D) (ci := 3) (C := RX3) (T := TX3) (N := 10) hx hb htb inX3 hown hK hP 11 (xw_11 c q σ) rfl 4 (by decide) (htb _ tb_207) (fun _ h9 => h9) rfl dX3_atNumber_1 ?_
  refine lv_iconst (v := (2 : Int32)) hx hb dX3_atNumber_4 (by decide) ?_
  refine lv_icmp_eq (tgt := 14) hx hb dX3_atNumber_5 (by decide) (fun c1 => ?_) (fun c1 => ?_)
  · have hw := hw.1 c1
    refine lv_aload_n hx hb dX3_atNumber_14 rfl (lv_at hl 0 rfl) ?_
    refine va_get (D := D) (ci := 3) (C := RX3) (T := TX3) (N := 10) hx hb htb inX3 hown hK hP 11 (xw_11 c q σ) rfl 6 (by decide) (htb _ tb_209) (fun _ h9 => h9) rfl dX3_atNumber_15 ?_
    refine lv_aload_n hx hb dX3_atNumber_18 rfl (lv_at hl 0 rfl) ?_
    refine va_get (D := D) (ci := 3) (C := RX3) (T := TX3) (N := 10) hx hb htb inX3 hown hK hP 11 (xw_11 c q σ) rfl 5 (by decide) (htb _ tb_208) (fun _ h9 => h9) rfl dX3_atNumber_19 ?_
    refine lv_isub hx hb dX3_atNumber_22 ?_
    refine lv_iconst (v := (3 : Int32)) hx hb dX3_atNumber_23 (by decide) ?_
    refine lv_icmp_le (tgt := 35) hx hb dX3_atNumber_24 (by decide) (fun c2 => ?_) (fun c2 => ?_)
    · have hw := hw.1 c2
      refine lv_iconst (v := (1 : Int32)) hx hb dX3_atNumber_35 (by decide) ?_
      refine lv_goto (tgt := 40) hx hb dX3_atNumber_36 (by decide) ?_
      exact W.zret hx hb hr rfl (fun t ht hW => ⟨⟨_, σ, rfl, hw, by unfold wdB; rw [ht]; exact hP⟩, hS.F ht⟩) hS.2.2 dX3_atNumber_40
    · have hw := hw.2 c2
      refine lv_aload_n hx hb dX3_atNumber_27 rfl (lv_at hl 0 rfl) ?_
      refine lv_iconst (v := (2 : Int32)) hx hb dX3_atNumber_28 (by decide) ?_
      refine va_calli (va_runV (As := [.int (2 : Int32)]) (rest := []) ⟨hx, hb, hml, hown, htb⟩ (kcX3_fail_11 l D c q ev hev σ (2 : Int32) _ hw) (tb_CW htb kX3_fail tb_798 tb_800 tb_19 ⟨Nat.le_of_ble_eq_true rfl, Nat.le_of_ble_eq_true rfl⟩) (wd_preV (wd := xw c q) (k := 11) hev hK hP hD hE hS (xw_11 c q σ) rfl) rfl rfl hl.1 rfl (lv_room (Nat.le_of_ble_eq_true rfl)) dX3_atNumber_29 ⟨Nat.zero_le _, Nat.zero_le _⟩) hS (fun q _ h => h) (fun q h => h) (fun r3 σ4 t H1 locs1 ht hvm hw hB hz1 hk1 hS => ?_)
      have hP : va_P D vwCl (xw c q σ4) H1 := ht ▸ hB
      have hD : va_D (wdA 36 q) (xw c q σ4) := xw_D hD0
      refine lv_if_eq (tgt := 39) hx hb dX3_atNumber_32 (by decide) (fun c5 => ?_) (fun c5 => ?_)
      · have hw := hw.1 c5
        refine lv_iconst (v := (0 : Int32)) hx hb dX3_atNumber_39 (by decide) ?_
        exact W.zret hx hb hr rfl (fun t ht hW => ⟨⟨_, σ4, rfl, hw, by unfold wdB; rw [ht]; exact hP⟩, hS.F ht⟩) hS.2.2 dX3_atNumber_40
      · have hw := hw.2 c5
        refine lv_iconst (v := (1 : Int32)) hx hb dX3_atNumber_35 (by decide) ?_
        refine lv_goto (tgt := 40) hx hb dX3_atNumber_36 (by decide) ?_
        exact W.zret hx hb hr rfl (fun t ht hW => ⟨⟨_, σ4, rfl, hw, by unfold wdB; rw [ht]; exact hP⟩, hS.F ht⟩) hS.2.2 dX3_atNumber_40
  · have hw := hw.2 c1
    refine lv_aload_n hx hb dX3_atNumber_8 rfl (lv_at hl 0 rfl) ?_
    refine lv_iconst (v := (1 : Int32)) hx hb dX3_atNumber_9 (by decide) ?_
    refine va_calli (va_runV (As := [.int (1 : Int32)]) (rest := []) ⟨hx, hb, hml, hown, htb⟩ (kcX3_fail_11 l D c q ev hev σ (1 : Int32) _ hw) (tb_CW htb kX3_fail tb_798 tb_800 tb_19 ⟨Nat.le_of_ble_eq_true rfl, Nat.le_of_ble_eq_true rfl⟩) (wd_preV (wd := xw c q) (k := 11) hev hK hP hD hE hS (xw_11 c q σ) rfl) rfl rfl hl.1 rfl (lv_room (Nat.le_of_ble_eq_true rfl)) dX3_atNumber_10 ⟨Nat.zero_le _, Nat.zero_le _⟩) hS (fun q _ h => h) (fun q h => h) (fun r6 σ7 t H1 locs1 ht hvm hw hB hz1 hk1 hS => ?_)
    have hP : va_P D vwCl (xw c q σ7) H1 := ht ▸ hB
    have hD : va_D (wdA 36 q) (xw c q σ7) := xw_D hD0
    have hq := hw.2
    exact W.zret hx hb hr (nar_b hw.1) (fun t ht hW => ⟨⟨_, σ7, rfl, hq, by unfold wdB; rw [ht]; exact hP⟩, hS.F ht⟩) hS.2.2 dX3_atNumber_13
def wX3_atNumberWithin (b0 : Nat) (x1 : Int32) (x2 : Int32) (post : Int32 → hsS → Prop) (σ : hsS) : Prop := wX3_atNumber b0 (fun r1 σ2 => ((r1 = (0 : Int32) → post (0 : Int32) σ2) ∧ (¬ r1 = (0 : Int32) → (((σ2.1 (64 * b0 + 7)) < x1 → wX3_fail b0 (2 : Int32) (fun r5 σ6 => ((r5 = (0 : Int32) → post (0 : Int32) σ6) ∧ (¬ r5 = (0 : Int32) → post (1 : Int32) σ6))) σ2) ∧ (¬ (σ2.1 (64 * b0 + 7)) < x1 → (((σ2.1 (64 * b0 + 7)) ≤ x2 → post (1 : Int32) σ2) ∧ (¬ (σ2.1 (64 * b0 + 7)) ≤ x2 → wX3_fail b0 (2 : Int32) (fun r9 σ10 => ((r9 = (0 : Int32) → post (0 : Int32) σ10) ∧ (¬ r9 = (0 : Int32) → post (1 : Int32) σ10))) σ2))))))) σ
set_option maxHeartbeats 4000000 in
set_option maxRecDepth 100000 in
theorem kcX3_atNumberWithin_11 (l : Launch) (D : va_G) (c : Nat → ClassId) (q : Nat → Nat) (ev : State → Heap → Prop) (hev : evOK (wdA 36 q) ev) (σ : hsS) (x1 : Int32) (x2 : Int32) (post : Int32 → hsS → Prop) (hw : wX3_atNumberWithin 11 x1 x2 post σ) : Met l yX3_atNumberWithin (Cond.code yX3_atNumberWithin cX3_atNumberWithin 3 (some .boolean) :: tb_L) { frames := 2, cells := 0, slots := 0, locals := 41 } (wdPc D (xw c q) (xwT c) (wdA 36 q) ev σ [.ref (q 11), .int x1, .int x2]) (va_Qi post (wdB D (xw c q)) (wdA 36 q)) 0 0 (wdA 36 q) := by
  refine Met.ofW (cc := cX3_atNumberWithin) (maxL := 3) (ret := (some .boolean)) (by decide) rfl ?_
  intro p e s m args below meth c₀ s₁ Bd hml hv
  obtain ⟨rfl, hP, hK, hD0, hE⟩ := hv
  have hx := Bd.exec
  have hb := Bd.bytes
  have hr := Bd.returns
  have hts := atoms_spec (ws := Cond.code yX3_atNumberWithin cX3_atNumberWithin 3 (some .boolean) :: tb_L) Bd.pre
  have htb : ∀ w ∈ tb_L, w.before [.ref (q 11), .int x1, .int x2].toArray s = true := fun w h => hts w (List.mem_cons_of_mem _ h)
  have hown : s.vm.findClass RX3 = some m.cls := findClass_of_methodNamed Bd.named
  have hlocks := Bd.notSynchronized
  have hS : va_S (wdA 36 q) s.heap s.heap [] := va_S.rf
  have hD := hD0
  have hl := lv_entry ([.ref (q 11), .int x1, .int x2]) (n := 3) (Nat.le_of_ble_eq_true rfl)
  rw [lg_entry_eq]
  generalize (lg_sl ([.ref (q 11), .int x1, .int x2]) ++ List.replicate (3 - (lg_sl ([.ref (q 11), .int x1, .int x2])).length) Slot.unset).toArray = ls at hl ⊢
  have hl : lv_has ls 3 [(0, .ref (q 11)), (1, .int x1), (2, .int x2)] := hl
  unfold wX3_atNumberWithin at hw
  refine lv_aload_n hx hb dX3_atNumberWithin_0 rfl (lv_at hl 0 rfl) ?_
  refine va_calli (va_runV (As := []) (rest := []) ⟨hx, hb, hml, hown, htb⟩ (kcX3_atNumber_11 l D c q ev hev σ  _ hw) (tb_CW htb kX3_atNumber tb_806 tb_808 tb_21 ⟨Nat.le_of_ble_eq_true rfl, Nat.le_of_ble_eq_true rfl⟩) (wd_preV (wd := xw c q) (k := 11) hev hK hP hD hE hS (xw_11 c q σ) rfl) rfl rfl hl.1 rfl (lv_room (Nat.le_of_ble_eq_true rfl)) dX3_atNumberWithin_1 ⟨Nat.zero_le _, Nat.zero_le _⟩) hS (fun q _ h => h) (fun q h => h) (fun r1 σ2 t H1 locs1 ht hvm hw hB hz1 hk1 hS => ?_)
  have hP : va_P D vwCl (xw c q σ2) H1 := ht ▸ hB
  have hD : va_D (wdA 36 q) (xw c q σ2) := xw_D hD0
  refine lv_if_eq (tgt := 35) hx hb dX3_atNumberWithin_4 (by decide) (fun c3 => ?_) (fun c3 => ?_)
  · have hw := hw.1 c3
    refine lv_iconst (v := (0 : Int32)) hx hb dX3_atNumberWithin_35 (by decide) ?_
    exact W.zret hx hb hr rfl (fun t ht hW => ⟨⟨_, σ2, rfl, hw, by unfold wdB; rw [ht]; exact hP⟩, hS.F ht⟩) hS.2.2 dX3_atNumberWithin_36
  · have hw := hw.2 c3
    refine lv_aload_n hx hb dX3_atNumberWithin_7 rfl (lv_at hl 0 rfl) ?_
    refine va_get (D := D) (ci := 3) (C := RX3) (T := TX3) (N := 10) hx hb htb inX3 hown hK hP 11 (xw_11 c q σ2) rfl 7 (by decide) (htb _ tb_210) (fun _ h9 => h9) rfl dX3_atNumberWithin_8 ?_
    refine lv_iload_n hx hb dX3_atNumberWithin_11 rfl (lv_at hl 1 rfl) ?_
    refine lv_icmp_lt (tgt := 23) hx hb dX3_atNumberWithin_12 (by decide) (fun c4 => ?_) (fun c4 => ?_)
    · have hw := hw.1 c4
      refine lv_aload_n hx hb dX3_atNumberWithin_23 rfl (lv_at hl 0 rfl) ?_
      refine lv_iconst (v := (2 : Int32)) hx hb dX3_atNumberWithin_24 (by decide) ?_
      refine va_calli (va_runV (As := [.int (2 : Int32)]) (rest := []) ⟨hx, hb, hml, hown, htb⟩ (kcX3_fail_11 l D c q ev hev σ2 (2 : Int32) _ hw) (tb_CW htb kX3_fail tb_798 tb_800 tb_19 ⟨Nat.le_of_ble_eq_true rfl, Nat.le_of_ble_eq_true rfl⟩) (wd_preV (wd := xw c q) (k := 11) hev hK hP hD hE hS (xw_11 c q σ2) rfl) rfl rfl hl.1 rfl (lv_room (Nat.le_of_ble_eq_true rfl)) dX3_atNumberWithin_25 ⟨Nat.zero_le _, Nat.zero_le _⟩) hS (fun q _ h => h) (fun q h => h) (fun r5 σ6 t H1 locs1 ht hvm hw hB hz1 hk1 hS => ?_)
      have hP : va_P D vwCl (xw c q σ6) H1 := ht ▸ hB
      have hD : va_D (wdA 36 q) (xw c q σ6) := xw_D hD0
      refine lv_if_eq (tgt := 35) hx hb dX3_atNumberWithin_28 (by decide) (fun c7 => ?_) (fun c7 => ?_)
      · have hw := hw.1 c7
        refine lv_iconst (v := (0 : Int32)) hx hb dX3_atNumberWithin_35 (by decide) ?_
        exact W.zret hx hb hr rfl (fun t ht hW => ⟨⟨_, σ6, rfl, hw, by unfold wdB; rw [ht]; exact hP⟩, hS.F ht⟩) hS.2.2 dX3_atNumberWithin_36
      · have hw := hw.2 c7
        refine lv_iconst (v := (1 : Int32)) hx hb dX3_atNumberWithin_31 (by decide) ?_
        refine lv_goto (tgt := 36) hx hb dX3_atNumberWithin_32 (by decide) ?_
        exact W.zret hx hb hr rfl (fun t ht hW => ⟨⟨_, σ6, rfl, hw, by unfold wdB; rw [ht]; exact hP⟩, hS.F ht⟩) hS.2.2 dX3_atNumberWithin_36
    · have hw := hw.2 c4
      refine lv_aload_n hx hb dX3_atNumberWithin_15 rfl (lv_at hl 0 rfl) ?_
      refine va_get (D := D) (ci := 3) (C := RX3) (T := TX3) (N := 10) hx hb htb inX3 hown hK hP 11 (xw_11 c q σ2) rfl 7 (by decide) (htb _ tb_210) (fun _ h9 => h9) rfl dX3_atNumberWithin_16 ?_
      refine lv_iload_n hx hb dX3_atNumberWithin_19 rfl (lv_at hl 2 rfl) ?_
      refine lv_icmp_le (tgt := 31) hx hb dX3_atNumberWithin_20 (by decide) (fun c8 => ?_) (fun c8 => ?_)
      · have hw := hw.1 c8
        refine lv_iconst (v := (1 : Int32)) hx hb dX3_atNumberWithin_31 (by decide) ?_
        refine lv_goto (tgt := 36) hx hb dX3_atNumberWithin_32 (by decide) ?_
        exact W.zret hx hb hr rfl (fun t ht hW => ⟨⟨_, σ2, rfl, hw, by unfold wdB; rw [ht]; exact hP⟩, hS.F ht⟩) hS.2.2 dX3_atNumberWithin_36
      · have hw := hw.2 c8
        refine lv_aload_n hx hb dX3_atNumberWithin_23 rfl (lv_at hl 0 rfl) ?_
        refine lv_iconst (v := (2 : Int32)) hx hb dX3_atNumberWithin_24 (by decide) ?_
        refine va_calli (va_runV (As := [.int (2 : Int32)]) (rest := []) ⟨hx, hb, hml, hown, htb⟩ (kcX3_fail_11 l D c q ev hev σ2 (2 : Int32) _ hw) (tb_CW htb kX3_fail tb_798 tb_800 tb_19 ⟨Nat.le_of_ble_eq_true rfl, Nat.le_of_ble_eq_true rfl⟩) (wd_preV (wd := xw c q) (k := 11) hev hK hP hD hE hS (xw_11 c q σ2) rfl) rfl rfl hl.1 rfl (lv_room (Nat.le_of_ble_eq_true rfl)) dX3_atNumberWithin_25 ⟨Nat.zero_le _, Nat.zero_le _⟩) hS (fun q _ h => h) (fun q h => h) (fun r9 σ10 t H1 locs1 ht hvm hw hB hz1 hk1 hS => ?_)
        have hP : va_P D vwCl (xw c q σ10) H1 := ht ▸ hB
        have hD : va_D (wdA 36 q) (xw c q σ10) := xw_D hD0
        refine lv_if_eq (tgt := 35) hx hb dX3_atNumberWithin_28 (by decide) (fun c11 => ?_) (fun c11 => ?_)
        · have hw := hw.1 c11
          refine lv_iconst (v := (0 : Int32)) hx hb dX3_atNumberWithin_35 (by decide) ?_
          exact W.zret hx hb hr rfl (fun t ht hW => ⟨⟨_, σ10, rfl, hw, by unfold wdB; rw [ht]; exact hP⟩, hS.F ht⟩) hS.2.2 dX3_atNumberWithin_36
        · have hw := hw.2 c11
          refine lv_iconst (v := (1 : Int32)) hx hb dX3_atNumberWithin_31 (by decide) ?_
          refine lv_goto (tgt := 36) hx hb dX3_atNumberWithin_32 (by decide) ?_
          exact W.zret hx hb hr rfl (fun t ht hW => ⟨⟨_, σ10, rfl, hw, by unfold wdB; rw [ht]; exact hP⟩, hS.F ht⟩) hS.2.2 dX3_atNumberWithin_36
def wX3_passSign (b0 : Nat) (post : Int32 → hsS → Prop) (σ : hsS) : Prop := (((σ.1 (64 * b0 + 4)) = (3 : Int32) → wX3_next b0 (fun σ3 => post (1 : Int32) σ3) σ) ∧ (¬ (σ.1 (64 * b0 + 4)) = (3 : Int32) → wX3_fail b0 (1 : Int32) (fun r4 σ5 => (r4 = 0 ∨ r4 = 1) ∧ post r4 σ5) σ))
set_option maxHeartbeats 4000000 in
set_option maxRecDepth 100000 in
theorem kcX3_passSign_11 (l : Launch) (D : va_G) (c : Nat → ClassId) (q : Nat → Nat) (ev : State → Heap → Prop) (hev : evOK (wdA 36 q) ev) (σ : hsS)  (post : Int32 → hsS → Prop) (hw : wX3_passSign 11 post σ) : Met l yX3_passSign (Cond.code yX3_passSign cX3_passSign 1 (some .boolean) :: tb_L) { frames := 3, cells := 0, slots := 0, locals := 61 } (wdPc D (xw c q) (xwT c) (wdA 36 q) ev σ [.ref (q 11)]) (va_Qi post (wdB D (xw c q)) (wdA 36 q)) 0 0 (wdA 36 q) := by
  refine Met.ofW (cc := cX3_passSign) (maxL := 1) (ret := (some .boolean)) (by decide) rfl ?_
  intro p e s m args below meth c₀ s₁ Bd hml hv
  obtain ⟨rfl, hP, hK, hD0, hE⟩ := hv
  have hx := Bd.exec
  have hb := Bd.bytes
  have hr := Bd.returns
  have hts := atoms_spec (ws := Cond.code yX3_passSign cX3_passSign 1 (some .boolean) :: tb_L) Bd.pre
  have htb : ∀ w ∈ tb_L, w.before [.ref (q 11)].toArray s = true := fun w h => hts w (List.mem_cons_of_mem _ h)
  have hown : s.vm.findClass RX3 = some m.cls := findClass_of_methodNamed Bd.named
  have hlocks := Bd.notSynchronized
  have hS : va_S (wdA 36 q) s.heap s.heap [] := va_S.rf
  have hD := hD0
  have hl := lv_entry ([.ref (q 11)]) (n := 1) (Nat.le_of_ble_eq_true rfl)
  rw [lg_entry_eq]
  generalize (lg_sl ([.ref (q 11)]) ++ List.replicate (1 - (lg_sl ([.ref (q 11)])).length) Slot.unset).toArray = ls at hl ⊢
  have hl : lv_has ls 1 [(0, .ref (q 11))] := hl
  unfold wX3_passSign at hw
  refine lv_aload_n hx hb dX3_passSign_0 rfl (lv_at hl 0 rfl) ?_
  refine va_get (D := D) (ci := 3) (C := RX3) (T := TX3) (N := 10) hx hb htb inX3 hown hK hP 11 (xw_11 c q σ) rfl 4 (by decide) (htb _ tb_207) (fun _ h9 => h9) rfl dX3_passSign_1 ?_
  refine lv_iconst (v := (3 : Int32)) hx hb dX3_passSign_4 (by decide) ?_
  refine lv_icmp_eq (tgt := 14) hx hb dX3_passSign_5 (by decide) (fun c1 => ?_) (fun c1 => ?_)
  · have hw := hw.1 c1
    refine lv_aload_n hx hb dX3_passSign_14 rfl (lv_at hl 0 rfl) ?_
    refine va_callv (va_runV (As := []) (rest := []) ⟨hx, hb, hml, hown, htb⟩ (kcX3_next_11 l D c q ev hev σ  _ hw) (tb_CW htb kX3_next tb_712 tb_714 tb_12 ⟨Nat.le_of_ble_eq_true rfl, Nat.le_of_ble_eq_true rfl⟩) (wd_preV (wd := xw c q) (k := 11) hev hK hP hD hE hS (xw_11 c q σ) rfl) rfl rfl hl.1 rfl (lv_room (Nat.le_of_ble_eq_true rfl)) dX3_passSign_15 ⟨Nat.zero_le _, Nat.zero_le _⟩) hS (fun q _ h => h) (fun q h => h) (fun σ3 t H1 locs1 ht hvm hw hB hz1 hk1 hS => ?_)
    have hP : va_P D vwCl (xw c q σ3) H1 := ht ▸ hB
    have hD : va_D (wdA 36 q) (xw c q σ3) := xw_D hD0
    refine lv_iconst (v := (1 : Int32)) hx hb dX3_passSign_18 (by decide) ?_
    exact W.zret hx hb hr rfl (fun t ht hW => ⟨⟨_, σ3, rfl, hw, by unfold wdB; rw [ht]; exact hP⟩, hS.F ht⟩) hS.2.2 dX3_passSign_19
  · have hw := hw.2 c1
    refine lv_aload_n hx hb dX3_passSign_8 rfl (lv_at hl 0 rfl) ?_
    refine lv_iconst (v := (1 : Int32)) hx hb dX3_passSign_9 (by decide) ?_
    refine va_calli (va_runV (As := [.int (1 : Int32)]) (rest := []) ⟨hx, hb, hml, hown, htb⟩ (kcX3_fail_11 l D c q ev hev σ (1 : Int32) _ hw) (tb_CW htb kX3_fail tb_798 tb_800 tb_19 ⟨Nat.le_of_ble_eq_true rfl, Nat.le_of_ble_eq_true rfl⟩) (wd_preV (wd := xw c q) (k := 11) hev hK hP hD hE hS (xw_11 c q σ) rfl) rfl rfl hl.1 rfl (lv_room (Nat.le_of_ble_eq_true rfl)) dX3_passSign_10 ⟨Nat.zero_le _, Nat.zero_le _⟩) hS (fun q _ h => h) (fun q h => h) (fun r4 σ5 t H1 locs1 ht hvm hw hB hz1 hk1 hS => ?_)
    have hP : va_P D vwCl (xw c q σ5) H1 := ht ▸ hB
    have hD : va_D (wdA 36 q) (xw c q σ5) := xw_D hD0
    have hq := hw.2
    exact W.zret hx hb hr (nar_b hw.1) (fun t ht hW => ⟨⟨_, σ5, rfl, hq, by unfold wdB; rw [ht]; exact hP⟩, hS.F ht⟩) hS.2.2 dX3_passSign_13
def wX3_readThings (b0 : Nat) (post : Int32 → hsS → Prop) (σ : hsS) : Prop := wX3_passWord b0 0 (fun r1 σ2 => ((r1 = (0 : Int32) → post (0 : Int32) σ2) ∧ (¬ r1 = (0 : Int32) → wX3_atNumberWithin b0 (2 : Int32) (9 : Int32) (fun r4 σ5 => ((r4 = (0 : Int32) → post (0 : Int32) σ5) ∧ (¬ r4 = (0 : Int32) → ∀ σ7 : hsS, σ7 = hsI σ5 (64 * (b0 + 2) + 0) (σ5.1 (64 * b0 + 7)) → wX3_next b0 (fun σ9 => wX3_passSign b0 (fun r10 σ11 => (r10 = 0 ∨ r10 = 1) ∧ post r10 σ11) σ9) σ7))) σ2))) σ
set_option maxHeartbeats 4000000 in
set_option maxRecDepth 100000 in
theorem kcX3_readThings_11 (l : Launch) (D : va_G) (c : Nat → ClassId) (q : Nat → Nat) (ev : State → Heap → Prop) (hev : evOK (wdA 36 q) ev) (adK adV : Nat → Nat) (hZ : ∀ (U : State) (H : Heap), ev U H → evS (wdA 36 q) adK adV U H) (σ : hsS)  (post : Int32 → hsS → Prop) (hw : wX3_readThings 11 post σ) : Met l yX3_readThings (Cond.code yX3_readThings cX3_readThings 1 (some .boolean) :: tb_L) { frames := 6, cells := 0, slots := 0, locals := 128 } (wdPc D (xw c q) (xwT c) (wdA 36 q) ev σ [.ref (q 11)]) (va_Qi post (wdB D (xw c q)) (wdA 36 q)) 0 0 (wdA 36 q) := by
  refine Met.ofW (cc := cX3_readThings) (maxL := 1) (ret := (some .boolean)) (by decide) rfl ?_
  intro p e s m args below meth c₀ s₁ Bd hml hv
  obtain ⟨rfl, hP, hK, hD0, hE⟩ := hv
  have hx := Bd.exec
  have hb := Bd.bytes
  have hr := Bd.returns
  have hts := atoms_spec (ws := Cond.code yX3_readThings cX3_readThings 1 (some .boolean) :: tb_L) Bd.pre
  have htb : ∀ w ∈ tb_L, w.before [.ref (q 11)].toArray s = true := fun w h => hts w (List.mem_cons_of_mem _ h)
  have hown : s.vm.findClass RX3 = some m.cls := findClass_of_methodNamed Bd.named
  have hlocks := Bd.notSynchronized
  have hS : va_S (wdA 36 q) s.heap s.heap [] := va_S.rf
  have hD := hD0
  have hl := lv_entry ([.ref (q 11)]) (n := 1) (Nat.le_of_ble_eq_true rfl)
  rw [lg_entry_eq]
  generalize (lg_sl ([.ref (q 11)]) ++ List.replicate (1 - (lg_sl ([.ref (q 11)])).length) Slot.unset).toArray = ls at hl ⊢
  have hl : lv_has ls 1 [(0, .ref (q 11))] := hl
  unfold wX3_readThings at hw
  refine lv_aload_n hx hb dX3_readThings_0 rfl (lv_at hl 0 rfl) ?_
  refine va_ldcS hx hb hown ((hZ s s.heap hE).2.2.2 ("StrikeHall$Reader", 108, "things", 0) (by decide)) dX3_readThings_1 ?_
  refine va_calli (va_runV (As := [.ref (adK 0)]) (rest := []) ⟨hx, hb, hml, hown, htb⟩ (kcX3_passWord_11_s l D c q ev hev adK adV hZ σ 0 (by decide) _ hw) (tb_CW htb kX3_passWord tb_742 tb_744 tb_17 ⟨Nat.le_of_ble_eq_true rfl, Nat.le_of_ble_eq_true rfl⟩) (wd_preV (wd := xw c q) (k := 11) hev hK hP hD hE hS (xw_11 c q σ) rfl) rfl rfl hl.1 rfl (lv_room (Nat.le_of_ble_eq_true rfl)) dX3_readThings_3 ⟨Nat.zero_le _, Nat.zero_le _⟩) hS (fun q _ h => h) (fun q h => h) (fun r1 σ2 t H1 locs1 ht hvm hw hB hz1 hk1 hS => ?_)
  have hP : va_P D vwCl (xw c q σ2) H1 := ht ▸ hB
  have hD : va_D (wdA 36 q) (xw c q σ2) := xw_D hD0
  refine lv_if_eq (tgt := 19) hx hb dX3_readThings_6 (by decide) (fun c3 => ?_) (fun c3 => ?_)
  · have hw := hw.1 c3
    refine lv_iconst (v := (0 : Int32)) hx hb dX3_readThings_19 (by decide) ?_
    exact W.zret hx hb hr rfl (fun t ht hW => ⟨⟨_, σ2, rfl, hw, by unfold wdB; rw [ht]; exact hP⟩, hS.F ht⟩) hS.2.2 dX3_readThings_20
  · have hw := hw.2 c3
    refine lv_aload_n hx hb dX3_readThings_9 rfl (lv_at hl 0 rfl) ?_
    refine lv_iconst (v := (2 : Int32)) hx hb dX3_readThings_10 (by decide) ?_
    refine lv_bipush (v := (9 : Int32)) hx hb dX3_readThings_11 (by decide) ?_
    refine va_calli (va_runV (As := [.int (2 : Int32), .int (9 : Int32)]) (rest := []) ⟨hx, hb, hml, hown, htb⟩ (kcX3_atNumberWithin_11 l D c q ev hev σ2 (2 : Int32) (9 : Int32) _ hw) (tb_CW htb kX3_atNumberWithin tb_802 tb_804 tb_20 ⟨Nat.le_of_ble_eq_true rfl, Nat.le_of_ble_eq_true rfl⟩) (wd_preV (wd := xw c q) (k := 11) hev hK hP hD hE hS (xw_11 c q σ2) rfl) rfl rfl hl.1 rfl (lv_room (Nat.le_of_ble_eq_true rfl)) dX3_readThings_13 ⟨Nat.zero_le _, Nat.zero_le _⟩) hS (fun q _ h => h) (fun q h => h) (fun r4 σ5 t H1 locs1 ht hvm hw hB hz1 hk1 hS => ?_)
    have hP : va_P D vwCl (xw c q σ5) H1 := ht ▸ hB
    have hD : va_D (wdA 36 q) (xw c q σ5) := xw_D hD0
    refine lv_if_ne (tgt := 21) hx hb dX3_readThings_16 (by decide) (fun c6 => ?_) (fun c6 => ?_)
    · have hw := hw.2 c6
      refine lv_aload_n hx hb dX3_readThings_21 rfl (lv_at hl 0 rfl) ?_
      refine va_get (D := D) (ci := 3) (C := RX3) (T := TX3) (N := 10) hx hb htb inX3 hown hK hP 11 (xw_11 c q σ5) rfl 1 (by decide) (htb _ tb_202) (fun _ h9 => h9) rfl dX3_readThings_22 ?_
      refine lv_aload_n hx hb dX3_readThings_25 rfl (lv_at hl 0 rfl) ?_
      refine va_get (D := D) (ci := 3) (C := RX3) (T := TX3) (N := 10) hx hb htb inX3 hown hK hP 11 (xw_11 c q σ5) rfl 7 (by decide) (htb _ tb_210) (fun _ h9 => h9) rfl dX3_readThings_26 ?_
      refine va_putN (D := D) (ci := 1) (ty := .int) (C := RX1) (T := TX1) (N := 12) hx hb htb inX1 tyX1 tyX1_ok nmX1 hown hK hP hD hS 13 (xw_13 c q σ5) rfl 0 (by decide) (htb _ tb_131) (fun _ h9 => h9) rfl (by decide +kernel) rfl rfl (Nat.le_of_ble_eq_true rfl) dX3_readThings_29 (fun H locs hP hD hS => ?_)
      have hP : va_P D vwCl (xw c q (hsI σ5 832 (σ5.1 711))) H := hP
      obtain ⟨σ7, eσ7⟩ : ∃ z : hsS, z = hsI σ5 832 (σ5.1 711) := ⟨_, rfl⟩
      rw [← eσ7] at hP
      have hD : va_D (wdA 36 q) (xw c q σ7) := xw_D hD0
      have hw := hw σ7 eσ7
      refine lv_aload_n hx hb dX3_readThings_32 rfl (lv_at hl 0 rfl) ?_
      refine va_callv (va_runV (As := []) (rest := []) ⟨hx, hb, hml, hown, htb⟩ (kcX3_next_11 l D c q ev hev σ7  _ hw) (tb_CW htb kX3_next tb_712 tb_714 tb_12 ⟨Nat.le_of_ble_eq_true rfl, Nat.le_of_ble_eq_true rfl⟩) (wd_preV (wd := xw c q) (k := 11) hev hK hP hD hE hS (xw_11 c q σ7) rfl) rfl rfl hl.1 rfl (lv_room (Nat.le_of_ble_eq_true rfl)) dX3_readThings_33 ⟨Nat.zero_le _, Nat.zero_le _⟩) hS (fun q _ h => h) (fun q h => h) (fun σ9 t H1 locs1 ht hvm hw hB hz1 hk1 hS => ?_)
      have hP : va_P D vwCl (xw c q σ9) H1 := ht ▸ hB
      have hD : va_D (wdA 36 q) (xw c q σ9) := xw_D hD0
      refine lv_aload_n hx hb dX3_readThings_36 rfl (lv_at hl 0 rfl) ?_
      refine va_calli (va_runV (As := []) (rest := []) ⟨hx, hb, hml, hown, htb⟩ (kcX3_passSign_11 l D c q ev hev σ9  _ hw) (tb_CW htb kX3_passSign tb_810 tb_812 tb_22 ⟨Nat.le_of_ble_eq_true rfl, Nat.le_of_ble_eq_true rfl⟩) (wd_preV (wd := xw c q) (k := 11) hev hK hP hD hE hS (xw_11 c q σ9) rfl) rfl rfl hl.1 rfl (lv_room (Nat.le_of_ble_eq_true rfl)) dX3_readThings_37 ⟨Nat.zero_le _, Nat.zero_le _⟩) hS (fun q _ h => h) (fun q h => h) (fun r10 σ11 t H1 locs1 ht hvm hw hB hz1 hk1 hS => ?_)
      have hP : va_P D vwCl (xw c q σ11) H1 := ht ▸ hB
      have hD : va_D (wdA 36 q) (xw c q σ11) := xw_D hD0
      have hq := hw.2
      exact W.zret hx hb hr (nar_b hw.1) (fun t ht hW => ⟨⟨_, σ11, rfl, hq, by unfold wdB; rw [ht]; exact hP⟩, hS.F ht⟩) hS.2.2 dX3_readThings_40
    · have hw := hw.1 c6
      refine lv_iconst (v := (0 : Int32)) hx hb dX3_readThings_19 (by decide) ?_
      exact W.zret hx hb hr rfl (fun t ht hW => ⟨⟨_, σ5, rfl, hw, by unfold wdB; rw [ht]; exact hP⟩, hS.F ht⟩) hS.2.2 dX3_readThings_20
def wX3_readTurns_L10 (b0 : Nat) (K35 : Int32 → hsS → Prop) (K56 : Int32 → hsS → Prop) (K76 : Int32 → hsS → Prop) (K124 : Int32 → hsS → Prop) (post : Int32 → hsS → Prop) : Nat → Int32 → hsS → Prop
  | 0, _, _ => False
  | n + 1, y1, σ => (((8 : Int32) < y1 → K124 y1 σ) ∧ (¬ (8 : Int32) < y1 → ((y1 = (0 : Int32) → wX3_atNumber b0 (fun r4 σ5 => ((r4 = (0 : Int32) → K35 y1 σ5) ∧ (¬ r4 = (0 : Int32) → (((σ5.1 (64 * (b0 + 2) + 6)) < ((σ5.1 (64 * (b0 + 2) + 0)) - (1 : Int32)) → (((σ5.1 (64 * b0 + 7)) < (σ5.1 (64 * (b0 + 2) + 1)) → vp_in (σ5.1 (64 * (b0 + 2) + 6)) 8 ∧ ∀ σ9 : hsS, σ9 = hsA σ5 (b0 + 6) (upd (σ5.2.1 (b0 + 6)) (σ5.1 (64 * (b0 + 2) + 6)).toNatClampNeg (σ5.1 (64 * b0 + 7))) → ∀ σ10 : hsS, σ10 = hsI σ9 (64 * (b0 + 2) + 6) ((σ9.1 (64 * (b0 + 2) + 6)) + (1 : Int32)) → wX3_next b0 (fun σ12 => ∀ v13 : Int32, v13 = y1 + (1 : Int32) → wX3_readTurns_L10 b0 K35 K56 K76 K124 post n v13 σ12) σ10) ∧ (¬ (σ5.1 (64 * b0 + 7)) < (σ5.1 (64 * (b0 + 2) + 1)) → K76 y1 σ5))) ∧ (¬ (σ5.1 (64 * (b0 + 2) + 6)) < ((σ5.1 (64 * (b0 + 2) + 0)) - (1 : Int32)) → K56 y1 σ5))))) σ) ∧ (¬ y1 = (0 : Int32) → (((σ.1 (64 * b0 + 4)) = (2 : Int32) → wX3_atNumber b0 (fun r15 σ16 => ((r15 = (0 : Int32) → K35 y1 σ16) ∧ (¬ r15 = (0 : Int32) → (((σ16.1 (64 * (b0 + 2) + 6)) < ((σ16.1 (64 * (b0 + 2) + 0)) - (1 : Int32)) → (((σ16.1 (64 * b0 + 7)) < (σ16.1 (64 * (b0 + 2) + 1)) → vp_in (σ16.1 (64 * (b0 + 2) + 6)) 8 ∧ ∀ σ20 : hsS, σ20 = hsA σ16 (b0 + 6) (upd (σ16.2.1 (b0 + 6)) (σ16.1 (64 * (b0 + 2) + 6)).toNatClampNeg (σ16.1 (64 * b0 + 7))) → ∀ σ21 : hsS, σ21 = hsI σ20 (64 * (b0 + 2) + 6) ((σ20.1 (64 * (b0 + 2) + 6)) + (1 : Int32)) → wX3_next b0 (fun σ23 => ∀ v24 : Int32, v24 = y1 + (1 : Int32) → wX3_readTurns_L10 b0 K35 K56 K76 K124 post n v24 σ23) σ21) ∧ (¬ (σ16.1 (64 * b0 + 7)) < (σ16.1 (64 * (b0 + 2) + 1)) → K76 y1 σ16))) ∧ (¬ (σ16.1 (64 * (b0 + 2) + 6)) < ((σ16.1 (64 * (b0 + 2) + 0)) - (1 : Int32)) → K56 y1 σ16))))) σ) ∧ (¬ (σ.1 (64 * b0 + 4)) = (2 : Int32) → K124 y1 σ))))))
def wX3_readTurns (b0 : Nat) (post : Int32 → hsS → Prop) (σ : hsS) : Prop := ∀ σ1 : hsS, σ1 = hsI σ (64 * (b0 + 2) + 6) (0 : Int32) → ∃ n25, wX3_readTurns_L10 b0 (fun v26 σ27 => post (0 : Int32) σ27) (fun v28 σ29 => wX3_fail b0 (2 : Int32) (fun r30 σ31 => (r30 = 0 ∨ r30 = 1) ∧ post r30 σ31) σ29) (fun v32 σ33 => wX3_fail b0 (3 : Int32) (fun r34 σ35 => (r34 = 0 ∨ r34 = 1) ∧ post r34 σ35) σ33) (fun v36 σ37 => post (1 : Int32) σ37) post n25 (0 : Int32) σ1
set_option maxHeartbeats 4000000 in
set_option maxRecDepth 100000 in
theorem kcX3_readTurns_11 (l : Launch) (D : va_G) (c : Nat → ClassId) (q : Nat → Nat) (ev : State → Heap → Prop) (hev : evOK (wdA 36 q) ev) (σ : hsS)  (post : Int32 → hsS → Prop) (hw : wX3_readTurns 11 post σ) : Met l yX3_readTurns (Cond.code yX3_readTurns cX3_readTurns 2 (some .boolean) :: tb_L) { frames := 3, cells := 0, slots := 0, locals := 61 } (wdPc D (xw c q) (xwT c) (wdA 36 q) ev σ [.ref (q 11)]) (va_Qi post (wdB D (xw c q)) (wdA 36 q)) 0 0 (wdA 36 q) := by
  refine Met.ofW (cc := cX3_readTurns) (maxL := 2) (ret := (some .boolean)) (by decide) rfl ?_
  intro p e s m args below meth c₀ s₁ Bd hml hv
  obtain ⟨rfl, hP, hK, hD0, hE⟩ := hv
  have hx := Bd.exec
  have hb := Bd.bytes
  have hr := Bd.returns
  have hts := atoms_spec (ws := Cond.code yX3_readTurns cX3_readTurns 2 (some .boolean) :: tb_L) Bd.pre
  have htb : ∀ w ∈ tb_L, w.before [.ref (q 11)].toArray s = true := fun w h => hts w (List.mem_cons_of_mem _ h)
  have hown : s.vm.findClass RX3 = some m.cls := findClass_of_methodNamed Bd.named
  have hlocks := Bd.notSynchronized
  have hS : va_S (wdA 36 q) s.heap s.heap [] := va_S.rf
  have hD := hD0
  have L10 : ∀ (K35 : Int32 → hsS → Prop) (K56 : Int32 → hsS → Prop) (K76 : Int32 → hsS → Prop) (K124 : Int32 → hsS → Prop) (n : Nat) (y1 : Int32) (σ : hsS) (H : Heap) (locs : List Loc) (ls : Array Slot), wX3_readTurns_L10 11 K35 K56 K76 K124 post n y1 σ → (∀ (y1 : Int32) (σ : hsS) (H : Heap) (locs : List Loc) (ls : Array Slot), K35 y1 σ → va_P D vwCl (xw c q σ) H → va_S (wdA 36 q) s.heap H locs → lv_has ls 2 [(0, .ref (q 11)), (1, .int y1)] → W p l e (headSpec (Cond.code yX3_readTurns cX3_readTurns 2 (some .boolean) :: tb_L) { frames := 3, cells := 0, slots := 0, locals := 61 }).room s m [.ref (q 11)].toArray below meth c₀ H locs 0 0 (MQ below (va_Qi post (wdB D (xw c q)) (wdA 36 q)) [.ref (q 11)].toArray s 0 0 (wdA 36 q)) (F0 m 35 ls [])) → (∀ (y1 : Int32) (σ : hsS) (H : Heap) (locs : List Loc) (ls : Array Slot), K56 y1 σ → va_P D vwCl (xw c q σ) H → va_S (wdA 36 q) s.heap H locs → lv_has ls 2 [(0, .ref (q 11)), (1, .int y1)] → W p l e (headSpec (Cond.code yX3_readTurns cX3_readTurns 2 (some .boolean) :: tb_L) { frames := 3, cells := 0, slots := 0, locals := 61 }).room s m [.ref (q 11)].toArray below meth c₀ H locs 0 0 (MQ below (va_Qi post (wdB D (xw c q)) (wdA 36 q)) [.ref (q 11)].toArray s 0 0 (wdA 36 q)) (F0 m 56 ls [])) → (∀ (y1 : Int32) (σ : hsS) (H : Heap) (locs : List Loc) (ls : Array Slot), K76 y1 σ → va_P D vwCl (xw c q σ) H → va_S (wdA 36 q) s.heap H locs → lv_has ls 2 [(0, .ref (q 11)), (1, .int y1)] → W p l e (headSpec (Cond.code yX3_readTurns cX3_readTurns 2 (some .boolean) :: tb_L) { frames := 3, cells := 0, slots := 0, locals := 61 }).room s m [.ref (q 11)].toArray below meth c₀ H locs 0 0 (MQ below (va_Qi post (wdB D (xw c q)) (wdA 36 q)) [.ref (q 11)].toArray s 0 0 (wdA 36 q)) (F0 m 76 ls [])) → (∀ (y1 : Int32) (σ : hsS) (H : Heap) (locs : List Loc) (ls : Array Slot), K124 y1 σ → va_P D vwCl (xw c q σ) H → va_S (wdA 36 q) s.heap H locs → lv_has ls 2 [(0, .ref (q 11)), (1, .int y1)] → W p l e (headSpec (Cond.code yX3_readTurns cX3_readTurns 2 (some .boolean) :: tb_L) { frames := 3, cells := 0, slots := 0, locals := 61 }).room s m [.ref (q 11)].toArray below meth c₀ H locs 0 0 (MQ below (va_Qi post (wdB D (xw c q)) (wdA 36 q)) [.ref (q 11)].toArray s 0 0 (wdA 36 q)) (F0 m 124 ls [])) → va_P D vwCl (xw c q σ) H → va_S (wdA 36 q) s.heap H locs → lv_has ls 2 [(0, .ref (q 11)), (1, .int y1)] → W p l e (headSpec (Cond.code yX3_readTurns cX3_readTurns 2 (some .boolean) :: tb_L) { frames := 3, cells := 0, slots := 0, locals := 61 }).room s m [.ref (q 11)].toArray below meth c₀ H locs 0 0 (MQ below (va_Qi post (wdB D (xw c q)) (wdA 36 q)) [.ref (q 11)].toArray s 0 0 (wdA 36 q)) (F0 m 10 ls []) := by
    intro K35 K56 K76 K124 n
    induction n with
    | zero =>
      intro y1 σ H locs ls hw hk35 hk56 hk76 hk124 hP hS hl
      exact (show False from hw).elim
    | succ n ih =>
      intro y1 σ H locs ls hw hk35 hk56 hk76 hk124 hP hS hl
      rw [wX3_readTurns_L10] at hw
      have hD : va_D (wdA 36 q) (xw c q σ) := xw_D hD0
      refine lv_iload_n hx hb dX3_readTurns_10 rfl (lv_at hl 1 rfl) ?_
      refine lv_bipush (v := (8 : Int32)) hx hb dX3_readTurns_11 (by decide) ?_
      refine lv_icmp_gt (tgt := 124) hx hb dX3_readTurns_13 (by decide) (fun c2 => ?_) (fun c2 => ?_)
      · have hw := hw.1 c2
        exact hk124 y1 σ _ _ _ hw hP hS (lv_sub hl [0, 1] rfl)
      · have hw := hw.2 c2
        refine lv_iload_n hx hb dX3_readTurns_16 rfl (lv_at hl 1 rfl) ?_
        refine lv_if_eq (tgt := 28) hx hb dX3_readTurns_17 (by decide) (fun c3 => ?_) (fun c3 => ?_)
        · have hw := hw.1 c3
          refine lv_aload_n hx hb dX3_readTurns_28 rfl (lv_at hl 0 rfl) ?_
          refine va_calli (va_runV (As := []) (rest := []) ⟨hx, hb, hml, hown, htb⟩ (kcX3_atNumber_11 l D c q ev hev σ  _ hw) (tb_CW htb kX3_atNumber tb_806 tb_808 tb_21 ⟨Nat.le_of_ble_eq_true rfl, Nat.le_of_ble_eq_true rfl⟩) (wd_preV (wd := xw c q) (k := 11) hev hK hP hD hE hS (xw_11 c q σ) rfl) rfl rfl hl.1 rfl (lv_room (Nat.le_of_ble_eq_true rfl)) dX3_readTurns_29 ⟨Nat.zero_le _, Nat.zero_le _⟩) hS (fun q _ h => h) (fun q h => h) (fun r4 σ5 t H1 locs1 ht hvm hw hB hz1 hk1 hS => ?_)
          have hP : va_P D vwCl (xw c q σ5) H1 := ht ▸ hB
          have hD : va_D (wdA 36 q) (xw c q σ5) := xw_D hD0
          refine lv_if_ne (tgt := 37) hx hb dX3_readTurns_32 (by decide) (fun c6 => ?_) (fun c6 => ?_)
          · have hw := hw.2 c6
            refine lv_aload_n hx hb dX3_readTurns_37 rfl (lv_at hl 0 rfl) ?_
            refine va_get (D := D) (ci := 3) (C := RX3) (T := TX3) (N := 10) hx hb htb inX3 hown hK hP 11 (xw_11 c q σ5) rfl 1 (by decide) (htb _ tb_202) (fun _ h9 => h9) rfl dX3_readTurns_38 ?_
            refine va_getN (D := D) (ci := 1) (C := RX1) (T := TX1) (N := 12) hx hb htb inX1 hown hK hP 13 (xw_13 c q σ5) rfl 6 (by decide) (htb _ tb_153) (fun _ h9 => h9) rfl dX3_readTurns_41 ?_
            refine lv_aload_n hx hb dX3_readTurns_44 rfl (lv_at hl 0 rfl) ?_
            refine va_get (D := D) (ci := 3) (C := RX3) (T := TX3) (N := 10) hx hb htb inX3 hown hK hP 11 (xw_11 c q σ5) rfl 1 (by decide) (htb _ tb_202) (fun _ h9 => h9) rfl dX3_readTurns_45 ?_
            refine va_getN (D := D) (ci := 1) (C := RX1) (T := TX1) (N := 12) hx hb htb inX1 hown hK hP 13 (xw_13 c q σ5) rfl 0 (by decide) (htb _ tb_131) (fun _ h9 => h9) rfl dX3_readTurns_48 ?_
            refine lv_iconst (v := (1 : Int32)) hx hb dX3_readTurns_51 (by decide) ?_
            refine lv_isub hx hb dX3_readTurns_52 ?_
            refine lv_icmp_lt (tgt := 62) hx hb dX3_readTurns_53 (by decide) (fun c7 => ?_) (fun c7 => ?_)
            · have hw := hw.1 c7
              refine lv_aload_n hx hb dX3_readTurns_62 rfl (lv_at hl 0 rfl) ?_
              refine va_get (D := D) (ci := 3) (C := RX3) (T := TX3) (N := 10) hx hb htb inX3 hown hK hP 11 (xw_11 c q σ5) rfl 7 (by decide) (htb _ tb_210) (fun _ h9 => h9) rfl dX3_readTurns_63 ?_
              refine lv_aload_n hx hb dX3_readTurns_66 rfl (lv_at hl 0 rfl) ?_
              refine va_get (D := D) (ci := 3) (C := RX3) (T := TX3) (N := 10) hx hb htb inX3 hown hK hP 11 (xw_11 c q σ5) rfl 1 (by decide) (htb _ tb_202) (fun _ h9 => h9) rfl dX3_readTurns_67 ?_
              refine va_getN (D := D) (ci := 1) (C := RX1) (T := TX1) (N := 12) hx hb htb inX1 hown hK hP 13 (xw_13 c q σ5) rfl 1 (by decide) (htb _ tb_137) (fun _ h9 => h9) rfl dX3_readTurns_70 ?_
              refine lv_icmp_lt (tgt := 82) hx hb dX3_readTurns_73 (by decide) (fun c8 => ?_) (fun c8 => ?_)
              · have hw := hw.1 c8
                refine lv_aload_n hx hb dX3_readTurns_82 rfl (lv_at hl 0 rfl) ?_
                refine va_get (D := D) (ci := 3) (C := RX3) (T := TX3) (N := 10) hx hb htb inX3 hown hK hP 11 (xw_11 c q σ5) rfl 1 (by decide) (htb _ tb_202) (fun _ h9 => h9) rfl dX3_readTurns_83 ?_
                refine va_getN (D := D) (ci := 1) (C := RX1) (T := TX1) (N := 12) hx hb htb inX1 hown hK hP 13 (xw_13 c q σ5) rfl 11 (by decide) (htb _ tb_166) (fun _ h9 => h9) rfl dX3_readTurns_86 ?_
                refine lv_aload_n hx hb dX3_readTurns_89 rfl (lv_at hl 0 rfl) ?_
                refine va_get (D := D) (ci := 3) (C := RX3) (T := TX3) (N := 10) hx hb htb inX3 hown hK hP 11 (xw_11 c q σ5) rfl 1 (by decide) (htb _ tb_202) (fun _ h9 => h9) rfl dX3_readTurns_90 ?_
                refine va_getN (D := D) (ci := 1) (C := RX1) (T := TX1) (N := 12) hx hb htb inX1 hown hK hP 13 (xw_13 c q σ5) rfl 6 (by decide) (htb _ tb_153) (fun _ h9 => h9) rfl dX3_readTurns_93 ?_
                refine lv_aload_n hx hb dX3_readTurns_96 rfl (lv_at hl 0 rfl) ?_
                refine va_get (D := D) (ci := 3) (C := RX3) (T := TX3) (N := 10) hx hb htb inX3 hown hK hP 11 (xw_11 c q σ5) rfl 7 (by decide) (htb _ tb_210) (fun _ h9 => h9) rfl dX3_readTurns_97 ?_
                refine va_iast hx hb hK hP hD hS 17 12 (xw_17 c q σ5) rfl hw.1 dX3_readTurns_100 (fun H locs hP hD hS => ?_)
                have hw := hw.2
                have hP : va_P D vwCl (xw c q (hsA σ5 17 (upd (σ5.2.1 17) (σ5.1 838).toNatClampNeg (σ5.1 711)))) H := hP
                obtain ⟨σ9, eσ9⟩ : ∃ z : hsS, z = hsA σ5 17 (upd (σ5.2.1 17) (σ5.1 838).toNatClampNeg (σ5.1 711)) := ⟨_, rfl⟩
                rw [← eσ9] at hP
                have hD : va_D (wdA 36 q) (xw c q σ9) := xw_D hD0
                have hw := hw σ9 eσ9
                refine lv_aload_n hx hb dX3_readTurns_101 rfl (lv_at hl 0 rfl) ?_
                refine va_get (D := D) (ci := 3) (C := RX3) (T := TX3) (N := 10) hx hb htb inX3 hown hK hP 11 (xw_11 c q σ9) rfl 1 (by decide) (htb _ tb_202) (fun _ h9 => h9) rfl dX3_readTurns_102 ?_
                refine lv_dup hx hb dX3_readTurns_105 rfl ?_
                refine va_getN (D := D) (ci := 1) (C := RX1) (T := TX1) (N := 12) hx hb htb inX1 hown hK hP 13 (xw_13 c q σ9) rfl 6 (by decide) (htb _ tb_153) (fun _ h9 => h9) rfl dX3_readTurns_106 ?_
                refine lv_iconst (v := (1 : Int32)) hx hb dX3_readTurns_109 (by decide) ?_
                refine lv_iadd hx hb dX3_readTurns_110 ?_
                refine va_putN (D := D) (ci := 1) (ty := .int) (C := RX1) (T := TX1) (N := 12) hx hb htb inX1 tyX1 tyX1_ok nmX1 hown hK hP hD hS 13 (xw_13 c q σ9) rfl 6 (by decide) (htb _ tb_153) (fun _ h9 => h9) rfl (by decide +kernel) rfl rfl (Nat.le_of_ble_eq_true rfl) dX3_readTurns_111 (fun H locs hP hD hS => ?_)
                have hP : va_P D vwCl (xw c q (hsI σ9 838 ((σ9.1 838) + (1 : Int32)))) H := hP
                obtain ⟨σ10, eσ10⟩ : ∃ z : hsS, z = hsI σ9 838 ((σ9.1 838) + (1 : Int32)) := ⟨_, rfl⟩
                rw [← eσ10] at hP
                have hD : va_D (wdA 36 q) (xw c q σ10) := xw_D hD0
                have hw := hw σ10 eσ10
                refine lv_aload_n hx hb dX3_readTurns_114 rfl (lv_at hl 0 rfl) ?_
                refine va_callv (va_runV (As := []) (rest := []) ⟨hx, hb, hml, hown, htb⟩ (kcX3_next_11 l D c q ev hev σ10  _ hw) (tb_CW htb kX3_next tb_712 tb_714 tb_12 ⟨Nat.le_of_ble_eq_true rfl, Nat.le_of_ble_eq_true rfl⟩) (wd_preV (wd := xw c q) (k := 11) hev hK hP hD hE hS (xw_11 c q σ10) rfl) rfl rfl hl.1 rfl (lv_room (Nat.le_of_ble_eq_true rfl)) dX3_readTurns_115 ⟨Nat.zero_le _, Nat.zero_le _⟩) hS (fun q _ h => h) (fun q h => h) (fun σ12 t H1 locs1 ht hvm hw hB hz1 hk1 hS => ?_)
                have hP : va_P D vwCl (xw c q σ12) H1 := ht ▸ hB
                have hD : va_D (wdA 36 q) (xw c q σ12) := xw_D hD0
                obtain ⟨v13, ev13⟩ : ∃ z : Int32, z = y1 + (1 : Int32) := ⟨_, rfl⟩
                have hw := hw v13 ev13
                refine lv_iinc (v := v13) (lv' := [(1, .int v13), (0, .ref (q 11))]) hx hb dX3_readTurns_118 hl (k := 1) rfl (by rw [ev13]; rfl) (by decide) rfl (fun ls hl => ?_)
                refine lv_goto (tgt := 10) hx hb dX3_readTurns_121 (by decide) ?_
                exact ih v13 σ12 _ _ _ hw hk35 hk56 hk76 hk124 hP hS (lv_sub hl [1, 0] rfl)
              · have hw := hw.2 c8
                exact hk76 y1 σ5 _ _ _ hw hP hS (lv_sub hl [0, 1] rfl)
            · have hw := hw.2 c7
              exact hk56 y1 σ5 _ _ _ hw hP hS (lv_sub hl [0, 1] rfl)
          · have hw := hw.1 c6
            exact hk35 y1 σ5 _ _ _ hw hP hS (lv_sub hl [0, 1] rfl)
        · have hw := hw.2 c3
          refine lv_aload_n hx hb dX3_readTurns_20 rfl (lv_at hl 0 rfl) ?_
          refine va_get (D := D) (ci := 3) (C := RX3) (T := TX3) (N := 10) hx hb htb inX3 hown hK hP 11 (xw_11 c q σ) rfl 4 (by decide) (htb _ tb_207) (fun _ h9 => h9) rfl dX3_readTurns_21 ?_
          refine lv_iconst (v := (2 : Int32)) hx hb dX3_readTurns_24 (by decide) ?_
          refine lv_icmp_ne (tgt := 124) hx hb dX3_readTurns_25 (by decide) (fun c14 => ?_) (fun c14 => ?_)
          · have hw := hw.2 c14
            exact hk124 y1 σ _ _ _ hw hP hS (lv_sub hl [0, 1] rfl)
          · have hw := hw.1 c14
            refine lv_aload_n hx hb dX3_readTurns_28 rfl (lv_at hl 0 rfl) ?_
            refine va_calli (va_runV (As := []) (rest := []) ⟨hx, hb, hml, hown, htb⟩ (kcX3_atNumber_11 l D c q ev hev σ  _ hw) (tb_CW htb kX3_atNumber tb_806 tb_808 tb_21 ⟨Nat.le_of_ble_eq_true rfl, Nat.le_of_ble_eq_true rfl⟩) (wd_preV (wd := xw c q) (k := 11) hev hK hP hD hE hS (xw_11 c q σ) rfl) rfl rfl hl.1 rfl (lv_room (Nat.le_of_ble_eq_true rfl)) dX3_readTurns_29 ⟨Nat.zero_le _, Nat.zero_le _⟩) hS (fun q _ h => h) (fun q h => h) (fun r15 σ16 t H1 locs1 ht hvm hw hB hz1 hk1 hS => ?_)
            have hP : va_P D vwCl (xw c q σ16) H1 := ht ▸ hB
            have hD : va_D (wdA 36 q) (xw c q σ16) := xw_D hD0
            refine lv_if_ne (tgt := 37) hx hb dX3_readTurns_32 (by decide) (fun c17 => ?_) (fun c17 => ?_)
            · have hw := hw.2 c17
              refine lv_aload_n hx hb dX3_readTurns_37 rfl (lv_at hl 0 rfl) ?_
              refine va_get (D := D) (ci := 3) (C := RX3) (T := TX3) (N := 10) hx hb htb inX3 hown hK hP 11 (xw_11 c q σ16) rfl 1 (by decide) (htb _ tb_202) (fun _ h9 => h9) rfl dX3_readTurns_38 ?_
              refine va_getN (D := D) (ci := 1) (C := RX1) (T := TX1) (N := 12) hx hb htb inX1 hown hK hP 13 (xw_13 c q σ16) rfl 6 (by decide) (htb _ tb_153) (fun _ h9 => h9) rfl dX3_readTurns_41 ?_
              refine lv_aload_n hx hb dX3_readTurns_44 rfl (lv_at hl 0 rfl) ?_
              refine va_get (D := D) (ci := 3) (C := RX3) (T := TX3) (N := 10) hx hb htb inX3 hown hK hP 11 (xw_11 c q σ16) rfl 1 (by decide) (htb _ tb_202) (fun _ h9 => h9) rfl dX3_readTurns_45 ?_
              refine va_getN (D := D) (ci := 1) (C := RX1) (T := TX1) (N := 12) hx hb htb inX1 hown hK hP 13 (xw_13 c q σ16) rfl 0 (by decide) (htb _ tb_131) (fun _ h9 => h9) rfl dX3_readTurns_48 ?_
              refine lv_iconst (v := (1 : Int32)) hx hb dX3_readTurns_51 (by decide) ?_
              refine lv_isub hx hb dX3_readTurns_52 ?_
              refine lv_icmp_lt (tgt := 62) hx hb dX3_readTurns_53 (by decide) (fun c18 => ?_) (fun c18 => ?_)
              · have hw := hw.1 c18
                refine lv_aload_n hx hb dX3_readTurns_62 rfl (lv_at hl 0 rfl) ?_
                refine va_get (D := D) (ci := 3) (C := RX3) (T := TX3) (N := 10) hx hb htb inX3 hown hK hP 11 (xw_11 c q σ16) rfl 7 (by decide) (htb _ tb_210) (fun _ h9 => h9) rfl dX3_readTurns_63 ?_
                refine lv_aload_n hx hb dX3_readTurns_66 rfl (lv_at hl 0 rfl) ?_
                refine va_get (D := D) (ci := 3) (C := RX3) (T := TX3) (N := 10) hx hb htb inX3 hown hK hP 11 (xw_11 c q σ16) rfl 1 (by decide) (htb _ tb_202) (fun _ h9 => h9) rfl dX3_readTurns_67 ?_
                refine va_getN (D := D) (ci := 1) (C := RX1) (T := TX1) (N := 12) hx hb htb inX1 hown hK hP 13 (xw_13 c q σ16) rfl 1 (by decide) (htb _ tb_137) (fun _ h9 => h9) rfl dX3_readTurns_70 ?_
                refine lv_icmp_lt (tgt := 82) hx hb dX3_readTurns_73 (by decide) (fun c19 => ?_) (fun c19 => ?_)
                · have hw := hw.1 c19
                  refine lv_aload_n hx hb dX3_readTurns_82 rfl (lv_at hl 0 rfl) ?_
                  refine va_get (D := D) (ci := 3) (C := RX3) (T := TX3) (N := 10) hx hb htb inX3 hown hK hP 11 (xw_11 c q σ16) rfl 1 (by decide) (htb _ tb_202) (fun _ h9 => h9) rfl dX3_readTurns_83 ?_
                  refine va_getN (D := D) (ci := 1) (C := RX1) (T := TX1) (N := 12) hx hb htb inX1 hown hK hP 13 (xw_13 c q σ16) rfl 11 (by decide) (htb _ tb_166) (fun _ h9 => h9) rfl dX3_readTurns_86 ?_
                  refine lv_aload_n hx hb dX3_readTurns_89 rfl (lv_at hl 0 rfl) ?_
                  refine va_get (D := D) (ci := 3) (C := RX3) (T := TX3) (N := 10) hx hb htb inX3 hown hK hP 11 (xw_11 c q σ16) rfl 1 (by decide) (htb _ tb_202) (fun _ h9 => h9) rfl dX3_readTurns_90 ?_
                  refine va_getN (D := D) (ci := 1) (C := RX1) (T := TX1) (N := 12) hx hb htb inX1 hown hK hP 13 (xw_13 c q σ16) rfl 6 (by decide) (htb _ tb_153) (fun _ h9 => h9) rfl dX3_readTurns_93 ?_
                  refine lv_aload_n hx hb dX3_readTurns_96 rfl (lv_at hl 0 rfl) ?_
                  refine va_get (D := D) (ci := 3) (C := RX3) (T := TX3) (N := 10) hx hb htb inX3 hown hK hP 11 (xw_11 c q σ16) rfl 7 (by decide) (htb _ tb_210) (fun _ h9 => h9) rfl dX3_readTurns_97 ?_
                  refine va_iast hx hb hK hP hD hS 17 12 (xw_17 c q σ16) rfl hw.1 dX3_readTurns_100 (fun H locs hP hD hS => ?_)
                  have hw := hw.2
                  have hP : va_P D vwCl (xw c q (hsA σ16 17 (upd (σ16.2.1 17) (σ16.1 838).toNatClampNeg (σ16.1 711)))) H := hP
                  obtain ⟨σ20, eσ20⟩ : ∃ z : hsS, z = hsA σ16 17 (upd (σ16.2.1 17) (σ16.1 838).toNatClampNeg (σ16.1 711)) := ⟨_, rfl⟩
                  rw [← eσ20] at hP
                  have hD : va_D (wdA 36 q) (xw c q σ20) := xw_D hD0
                  have hw := hw σ20 eσ20
                  refine lv_aload_n hx hb dX3_readTurns_101 rfl (lv_at hl 0 rfl) ?_
                  refine va_get (D := D) (ci := 3) (C := RX3) (T := TX3) (N := 10) hx hb htb inX3 hown hK hP 11 (xw_11 c q σ20) rfl 1 (by decide) (htb _ tb_202) (fun _ h9 => h9) rfl dX3_readTurns_102 ?_
                  refine lv_dup hx hb dX3_readTurns_105 rfl ?_
                  refine va_getN (D := D) (ci := 1) (C := RX1) (T := TX1) (N := 12) hx hb htb inX1 hown hK hP 13 (xw_13 c q σ20) rfl 6 (by decide) (htb _ tb_153) (fun _ h9 => h9) rfl dX3_readTurns_106 ?_
                  refine lv_iconst (v := (1 : Int32)) hx hb dX3_readTurns_109 (by decide) ?_
                  refine lv_iadd hx hb dX3_readTurns_110 ?_
                  refine va_putN (D := D) (ci := 1) (ty := .int) (C := RX1) (T := TX1) (N := 12) hx hb htb inX1 tyX1 tyX1_ok nmX1 hown hK hP hD hS 13 (xw_13 c q σ20) rfl 6 (by decide) (htb _ tb_153) (fun _ h9 => h9) rfl (by decide +kernel) rfl rfl (Nat.le_of_ble_eq_true rfl) dX3_readTurns_111 (fun H locs hP hD hS => ?_)
                  have hP : va_P D vwCl (xw c q (hsI σ20 838 ((σ20.1 838) + (1 : Int32)))) H := hP
                  obtain ⟨σ21, eσ21⟩ : ∃ z : hsS, z = hsI σ20 838 ((σ20.1 838) + (1 : Int32)) := ⟨_, rfl⟩
                  rw [← eσ21] at hP
                  have hD : va_D (wdA 36 q) (xw c q σ21) := xw_D hD0
                  have hw := hw σ21 eσ21
                  refine lv_aload_n hx hb dX3_readTurns_114 rfl (lv_at hl 0 rfl) ?_
                  refine va_callv (va_runV (As := []) (rest := []) ⟨hx, hb, hml, hown, htb⟩ (kcX3_next_11 l D c q ev hev σ21  _ hw) (tb_CW htb kX3_next tb_712 tb_714 tb_12 ⟨Nat.le_of_ble_eq_true rfl, Nat.le_of_ble_eq_true rfl⟩) (wd_preV (wd := xw c q) (k := 11) hev hK hP hD hE hS (xw_11 c q σ21) rfl) rfl rfl hl.1 rfl (lv_room (Nat.le_of_ble_eq_true rfl)) dX3_readTurns_115 ⟨Nat.zero_le _, Nat.zero_le _⟩) hS (fun q _ h => h) (fun q h => h) (fun σ23 t H1 locs1 ht hvm hw hB hz1 hk1 hS => ?_)
                  have hP : va_P D vwCl (xw c q σ23) H1 := ht ▸ hB
                  have hD : va_D (wdA 36 q) (xw c q σ23) := xw_D hD0
                  obtain ⟨v24, ev24⟩ : ∃ z : Int32, z = y1 + (1 : Int32) := ⟨_, rfl⟩
                  have hw := hw v24 ev24
                  refine lv_iinc (v := v24) (lv' := [(1, .int v24), (0, .ref (q 11))]) hx hb dX3_readTurns_118 hl (k := 1) rfl (by rw [ev24]; rfl) (by decide) rfl (fun ls hl => ?_)
                  refine lv_goto (tgt := 10) hx hb dX3_readTurns_121 (by decide) ?_
                  exact ih v24 σ23 _ _ _ hw hk35 hk56 hk76 hk124 hP hS (lv_sub hl [1, 0] rfl)
                · have hw := hw.2 c19
                  exact hk76 y1 σ16 _ _ _ hw hP hS (lv_sub hl [0, 1] rfl)
              · have hw := hw.2 c18
                exact hk56 y1 σ16 _ _ _ hw hP hS (lv_sub hl [0, 1] rfl)
            · have hw := hw.1 c17
              exact hk35 y1 σ16 _ _ _ hw hP hS (lv_sub hl [0, 1] rfl)
  have hl := lv_entry ([.ref (q 11)]) (n := 2) (Nat.le_of_ble_eq_true rfl)
  rw [lg_entry_eq]
  generalize (lg_sl ([.ref (q 11)]) ++ List.replicate (2 - (lg_sl ([.ref (q 11)])).length) Slot.unset).toArray = ls at hl ⊢
  have hl : lv_has ls 2 [(0, .ref (q 11))] := hl
  unfold wX3_readTurns at hw
  refine lv_aload_n hx hb dX3_readTurns_0 rfl (lv_at hl 0 rfl) ?_
  refine va_get (D := D) (ci := 3) (C := RX3) (T := TX3) (N := 10) hx hb htb inX3 hown hK hP 11 (xw_11 c q σ) rfl 1 (by decide) (htb _ tb_202) (fun _ h9 => h9) rfl dX3_readTurns_1 ?_
  refine lv_iconst (v := (0 : Int32)) hx hb dX3_readTurns_4 (by decide) ?_
  refine va_putN (D := D) (ci := 1) (ty := .int) (C := RX1) (T := TX1) (N := 12) hx hb htb inX1 tyX1 tyX1_ok nmX1 hown hK hP hD hS 13 (xw_13 c q σ) rfl 6 (by decide) (htb _ tb_153) (fun _ h9 => h9) rfl (by decide +kernel) rfl rfl (Nat.le_of_ble_eq_true rfl) dX3_readTurns_5 (fun H locs hP hD hS => ?_)
  have hP : va_P D vwCl (xw c q (hsI σ 838 (0 : Int32))) H := hP
  obtain ⟨σ1, eσ1⟩ : ∃ z : hsS, z = hsI σ 838 (0 : Int32) := ⟨_, rfl⟩
  rw [← eσ1] at hP
  have hD : va_D (wdA 36 q) (xw c q σ1) := xw_D hD0
  have hw := hw σ1 eσ1
  refine lv_iconst (v := (0 : Int32)) hx hb dX3_readTurns_8 (by decide) ?_
  refine lv_istore_n (lv' := [(1, .int (0 : Int32)), (0, .ref (q 11))]) hx hb dX3_readTurns_9 rfl hl (by decide) rfl (fun ls hl => ?_)
  obtain ⟨n25, hw⟩ := hw
  refine L10 _ _ _ _ n25 (0 : Int32) σ1 _ _ _ hw ?_ ?_ ?_ ?_ hP hS (lv_sub hl [1, 0] rfl)
  · intro v26 σ27 H locs ls hw hP hS hl
    have hD : va_D (wdA 36 q) (xw c q σ27) := xw_D hD0
    refine lv_iconst (v := (0 : Int32)) hx hb dX3_readTurns_35 (by decide) ?_
    exact W.zret hx hb hr rfl (fun t ht hW => ⟨⟨_, σ27, rfl, hw, by unfold wdB; rw [ht]; exact hP⟩, hS.F ht⟩) hS.2.2 dX3_readTurns_36
  · intro v28 σ29 H locs ls hw hP hS hl
    have hD : va_D (wdA 36 q) (xw c q σ29) := xw_D hD0
    refine lv_aload_n hx hb dX3_readTurns_56 rfl (lv_at hl 0 rfl) ?_
    refine lv_iconst (v := (2 : Int32)) hx hb dX3_readTurns_57 (by decide) ?_
    refine va_calli (va_runV (As := [.int (2 : Int32)]) (rest := []) ⟨hx, hb, hml, hown, htb⟩ (kcX3_fail_11 l D c q ev hev σ29 (2 : Int32) _ hw) (tb_CW htb kX3_fail tb_798 tb_800 tb_19 ⟨Nat.le_of_ble_eq_true rfl, Nat.le_of_ble_eq_true rfl⟩) (wd_preV (wd := xw c q) (k := 11) hev hK hP hD hE hS (xw_11 c q σ29) rfl) rfl rfl hl.1 rfl (lv_room (Nat.le_of_ble_eq_true rfl)) dX3_readTurns_58 ⟨Nat.zero_le _, Nat.zero_le _⟩) hS (fun q _ h => h) (fun q h => h) (fun r30 σ31 t H1 locs1 ht hvm hw hB hz1 hk1 hS => ?_)
    have hP : va_P D vwCl (xw c q σ31) H1 := ht ▸ hB
    have hD : va_D (wdA 36 q) (xw c q σ31) := xw_D hD0
    have hq := hw.2
    exact W.zret hx hb hr (nar_b hw.1) (fun t ht hW => ⟨⟨_, σ31, rfl, hq, by unfold wdB; rw [ht]; exact hP⟩, hS.F ht⟩) hS.2.2 dX3_readTurns_61
  · intro v32 σ33 H locs ls hw hP hS hl
    have hD : va_D (wdA 36 q) (xw c q σ33) := xw_D hD0
    refine lv_aload_n hx hb dX3_readTurns_76 rfl (lv_at hl 0 rfl) ?_
    refine lv_iconst (v := (3 : Int32)) hx hb dX3_readTurns_77 (by decide) ?_
    refine va_calli (va_runV (As := [.int (3 : Int32)]) (rest := []) ⟨hx, hb, hml, hown, htb⟩ (kcX3_fail_11 l D c q ev hev σ33 (3 : Int32) _ hw) (tb_CW htb kX3_fail tb_798 tb_800 tb_19 ⟨Nat.le_of_ble_eq_true rfl, Nat.le_of_ble_eq_true rfl⟩) (wd_preV (wd := xw c q) (k := 11) hev hK hP hD hE hS (xw_11 c q σ33) rfl) rfl rfl hl.1 rfl (lv_room (Nat.le_of_ble_eq_true rfl)) dX3_readTurns_78 ⟨Nat.zero_le _, Nat.zero_le _⟩) hS (fun q _ h => h) (fun q h => h) (fun r34 σ35 t H1 locs1 ht hvm hw hB hz1 hk1 hS => ?_)
    have hP : va_P D vwCl (xw c q σ35) H1 := ht ▸ hB
    have hD : va_D (wdA 36 q) (xw c q σ35) := xw_D hD0
    have hq := hw.2
    exact W.zret hx hb hr (nar_b hw.1) (fun t ht hW => ⟨⟨_, σ35, rfl, hq, by unfold wdB; rw [ht]; exact hP⟩, hS.F ht⟩) hS.2.2 dX3_readTurns_81
  · intro v36 σ37 H locs ls hw hP hS hl
    have hD : va_D (wdA 36 q) (xw c q σ37) := xw_D hD0
    refine lv_iconst (v := (1 : Int32)) hx hb dX3_readTurns_124 (by decide) ?_
    exact W.zret hx hb hr rfl (fun t ht hW => ⟨⟨_, σ37, rfl, hw, by unfold wdB; rw [ht]; exact hP⟩, hS.F ht⟩) hS.2.2 dX3_readTurns_125
def wX3_readTold_L18 (b0 : Nat) (K46 : Int32 → hsS → Prop) (K60 : Int32 → hsS → Prop) (K108 : Int32 → hsS → Prop) (post : Int32 → hsS → Prop) : Nat → Int32 → hsS → Prop
  | 0, _, _ => False
  | n + 1, y1, σ => (((8 : Int32) < y1 → K108 y1 σ) ∧ (¬ (8 : Int32) < y1 → ((y1 = (0 : Int32) → wX3_atNumberWithin b0 (0 : Int32) (9 : Int32) (fun r5 σ6 => ((r5 = (0 : Int32) → K46 y1 σ6) ∧ (¬ r5 = (0 : Int32) → (((σ6.1 (64 * (b0 + 2) + 5)) < (8 : Int32) → vp_in (σ6.1 (64 * (b0 + 2) + 5)) 8 ∧ ∀ σ9 : hsS, σ9 = hsA σ6 (b0 + 5) (upd (σ6.2.1 (b0 + 5)) (σ6.1 (64 * (b0 + 2) + 5)).toNatClampNeg (σ6.1 (64 * b0 + 7))) → ∀ σ10 : hsS, σ10 = hsI σ9 (64 * (b0 + 2) + 5) ((σ9.1 (64 * (b0 + 2) + 5)) + (1 : Int32)) → wX3_next b0 (fun σ12 => ∀ v13 : Int32, v13 = y1 + (1 : Int32) → wX3_readTold_L18 b0 K46 K60 K108 post n v13 σ12) σ10) ∧ (¬ (σ6.1 (64 * (b0 + 2) + 5)) < (8 : Int32) → K60 y1 σ6))))) σ) ∧ (¬ y1 = (0 : Int32) → (((σ.1 (64 * b0 + 4)) = (2 : Int32) → wX3_atNumberWithin b0 (0 : Int32) (9 : Int32) (fun r15 σ16 => ((r15 = (0 : Int32) → K46 y1 σ16) ∧ (¬ r15 = (0 : Int32) → (((σ16.1 (64 * (b0 + 2) + 5)) < (8 : Int32) → vp_in (σ16.1 (64 * (b0 + 2) + 5)) 8 ∧ ∀ σ19 : hsS, σ19 = hsA σ16 (b0 + 5) (upd (σ16.2.1 (b0 + 5)) (σ16.1 (64 * (b0 + 2) + 5)).toNatClampNeg (σ16.1 (64 * b0 + 7))) → ∀ σ20 : hsS, σ20 = hsI σ19 (64 * (b0 + 2) + 5) ((σ19.1 (64 * (b0 + 2) + 5)) + (1 : Int32)) → wX3_next b0 (fun σ22 => ∀ v23 : Int32, v23 = y1 + (1 : Int32) → wX3_readTold_L18 b0 K46 K60 K108 post n v23 σ22) σ20) ∧ (¬ (σ16.1 (64 * (b0 + 2) + 5)) < (8 : Int32) → K60 y1 σ16))))) σ) ∧ (¬ (σ.1 (64 * b0 + 4)) = (2 : Int32) → K108 y1 σ))))))
def wX3_readTold (b0 : Nat) (post : Int32 → hsS → Prop) (σ : hsS) : Prop := ∀ σ1 : hsS, σ1 = hsI σ (64 * (b0 + 2) + 3) (2 : Int32) → ∀ σ2 : hsS, σ2 = hsI σ1 (64 * (b0 + 2) + 5) (0 : Int32) → ∃ n24, wX3_readTold_L18 b0 (fun v25 σ26 => post (0 : Int32) σ26) (fun v27 σ28 => wX3_fail b0 (2 : Int32) (fun r29 σ30 => (r29 = 0 ∨ r29 = 1) ∧ post r29 σ30) σ28) (fun v31 σ32 => post (1 : Int32) σ32) post n24 (0 : Int32) σ2
set_option maxHeartbeats 4000000 in
set_option maxRecDepth 100000 in
theorem kcX3_readTold_11 (l : Launch) (D : va_G) (c : Nat → ClassId) (q : Nat → Nat) (ev : State → Heap → Prop) (hev : evOK (wdA 36 q) ev) (σ : hsS)  (post : Int32 → hsS → Prop) (hw : wX3_readTold 11 post σ) : Met l yX3_readTold (Cond.code yX3_readTold cX3_readTold 2 (some .boolean) :: tb_L) { frames := 3, cells := 0, slots := 0, locals := 63 } (wdPc D (xw c q) (xwT c) (wdA 36 q) ev σ [.ref (q 11)]) (va_Qi post (wdB D (xw c q)) (wdA 36 q)) 0 0 (wdA 36 q) := by
  refine Met.ofW (cc := cX3_readTold) (maxL := 2) (ret := (some .boolean)) (by decide) rfl ?_
  intro p e s m args below meth c₀ s₁ Bd hml hv
  obtain ⟨rfl, hP, hK, hD0, hE⟩ := hv
  have hx := Bd.exec
  have hb := Bd.bytes
  have hr := Bd.returns
  have hts := atoms_spec (ws := Cond.code yX3_readTold cX3_readTold 2 (some .boolean) :: tb_L) Bd.pre
  have htb : ∀ w ∈ tb_L, w.before [.ref (q 11)].toArray s = true := fun w h => hts w (List.mem_cons_of_mem _ h)
  have hown : s.vm.findClass RX3 = some m.cls := findClass_of_methodNamed Bd.named
  have hlocks := Bd.notSynchronized
  have hS : va_S (wdA 36 q) s.heap s.heap [] := va_S.rf
  have hD := hD0
  have L18 : ∀ (K46 : Int32 → hsS → Prop) (K60 : Int32 → hsS → Prop) (K108 : Int32 → hsS → Prop) (n : Nat) (y1 : Int32) (σ : hsS) (H : Heap) (locs : List Loc) (ls : Array Slot), wX3_readTold_L18 11 K46 K60 K108 post n y1 σ → (∀ (y1 : Int32) (σ : hsS) (H : Heap) (locs : List Loc) (ls : Array Slot), K46 y1 σ → va_P D vwCl (xw c q σ) H → va_S (wdA 36 q) s.heap H locs → lv_has ls 2 [(0, .ref (q 11)), (1, .int y1)] → W p l e (headSpec (Cond.code yX3_readTold cX3_readTold 2 (some .boolean) :: tb_L) { frames := 3, cells := 0, slots := 0, locals := 63 }).room s m [.ref (q 11)].toArray below meth c₀ H locs 0 0 (MQ below (va_Qi post (wdB D (xw c q)) (wdA 36 q)) [.ref (q 11)].toArray s 0 0 (wdA 36 q)) (F0 m 46 ls [])) → (∀ (y1 : Int32) (σ : hsS) (H : Heap) (locs : List Loc) (ls : Array Slot), K60 y1 σ → va_P D vwCl (xw c q σ) H → va_S (wdA 36 q) s.heap H locs → lv_has ls 2 [(0, .ref (q 11)), (1, .int y1)] → W p l e (headSpec (Cond.code yX3_readTold cX3_readTold 2 (some .boolean) :: tb_L) { frames := 3, cells := 0, slots := 0, locals := 63 }).room s m [.ref (q 11)].toArray below meth c₀ H locs 0 0 (MQ below (va_Qi post (wdB D (xw c q)) (wdA 36 q)) [.ref (q 11)].toArray s 0 0 (wdA 36 q)) (F0 m 60 ls [])) → (∀ (y1 : Int32) (σ : hsS) (H : Heap) (locs : List Loc) (ls : Array Slot), K108 y1 σ → va_P D vwCl (xw c q σ) H → va_S (wdA 36 q) s.heap H locs → lv_has ls 2 [(0, .ref (q 11)), (1, .int y1)] → W p l e (headSpec (Cond.code yX3_readTold cX3_readTold 2 (some .boolean) :: tb_L) { frames := 3, cells := 0, slots := 0, locals := 63 }).room s m [.ref (q 11)].toArray below meth c₀ H locs 0 0 (MQ below (va_Qi post (wdB D (xw c q)) (wdA 36 q)) [.ref (q 11)].toArray s 0 0 (wdA 36 q)) (F0 m 108 ls [])) → va_P D vwCl (xw c q σ) H → va_S (wdA 36 q) s.heap H locs → lv_has ls 2 [(0, .ref (q 11)), (1, .int y1)] → W p l e (headSpec (Cond.code yX3_readTold cX3_readTold 2 (some .boolean) :: tb_L) { frames := 3, cells := 0, slots := 0, locals := 63 }).room s m [.ref (q 11)].toArray below meth c₀ H locs 0 0 (MQ below (va_Qi post (wdB D (xw c q)) (wdA 36 q)) [.ref (q 11)].toArray s 0 0 (wdA 36 q)) (F0 m 18 ls []) := by
    intro K46 K60 K108 n
    induction n with
    | zero =>
      intro y1 σ H locs ls hw hk46 hk60 hk108 hP hS hl
      exact (show False from hw).elim
    | succ n ih =>
      intro y1 σ H locs ls hw hk46 hk60 hk108 hP hS hl
      rw [wX3_readTold_L18] at hw
      have hD : va_D (wdA 36 q) (xw c q σ) := xw_D hD0
      refine lv_iload_n hx hb dX3_readTold_18 rfl (lv_at hl 1 rfl) ?_
      refine lv_bipush (v := (8 : Int32)) hx hb dX3_readTold_19 (by decide) ?_
      refine lv_icmp_gt (tgt := 108) hx hb dX3_readTold_21 (by decide) (fun c3 => ?_) (fun c3 => ?_)
      · have hw := hw.1 c3
        exact hk108 y1 σ _ _ _ hw hP hS (lv_sub hl [0, 1] rfl)
      · have hw := hw.2 c3
        refine lv_iload_n hx hb dX3_readTold_24 rfl (lv_at hl 1 rfl) ?_
        refine lv_if_eq (tgt := 36) hx hb dX3_readTold_25 (by decide) (fun c4 => ?_) (fun c4 => ?_)
        · have hw := hw.1 c4
          refine lv_aload_n hx hb dX3_readTold_36 rfl (lv_at hl 0 rfl) ?_
          refine lv_iconst (v := (0 : Int32)) hx hb dX3_readTold_37 (by decide) ?_
          refine lv_bipush (v := (9 : Int32)) hx hb dX3_readTold_38 (by decide) ?_
          refine va_calli (va_runV (As := [.int (0 : Int32), .int (9 : Int32)]) (rest := []) ⟨hx, hb, hml, hown, htb⟩ (kcX3_atNumberWithin_11 l D c q ev hev σ (0 : Int32) (9 : Int32) _ hw) (tb_CW htb kX3_atNumberWithin tb_802 tb_804 tb_20 ⟨Nat.le_of_ble_eq_true rfl, Nat.le_of_ble_eq_true rfl⟩) (wd_preV (wd := xw c q) (k := 11) hev hK hP hD hE hS (xw_11 c q σ) rfl) rfl rfl hl.1 rfl (lv_room (Nat.le_of_ble_eq_true rfl)) dX3_readTold_40 ⟨Nat.zero_le _, Nat.zero_le _⟩) hS (fun q _ h => h) (fun q h => h) (fun r5 σ6 t H1 locs1 ht hvm hw hB hz1 hk1 hS => ?_)
          have hP : va_P D vwCl (xw c q σ6) H1 := ht ▸ hB
          have hD : va_D (wdA 36 q) (xw c q σ6) := xw_D hD0
          refine lv_if_ne (tgt := 48) hx hb dX3_readTold_43 (by decide) (fun c7 => ?_) (fun c7 => ?_)
          · have hw := hw.2 c7
            refine lv_aload_n hx hb dX3_readTold_48 rfl (lv_at hl 0 rfl) ?_
            refine va_get (D := D) (ci := 3) (C := RX3) (T := TX3) (N := 10) hx hb htb inX3 hown hK hP 11 (xw_11 c q σ6) rfl 1 (by decide) (htb _ tb_202) (fun _ h9 => h9) rfl dX3_readTold_49 ?_
            refine va_getN (D := D) (ci := 1) (C := RX1) (T := TX1) (N := 12) hx hb htb inX1 hown hK hP 13 (xw_13 c q σ6) rfl 5 (by decide) (htb _ tb_147) (fun _ h9 => h9) rfl dX3_readTold_52 ?_
            refine lv_bipush (v := (8 : Int32)) hx hb dX3_readTold_55 (by decide) ?_
            refine lv_icmp_lt (tgt := 66) hx hb dX3_readTold_57 (by decide) (fun c8 => ?_) (fun c8 => ?_)
            · have hw := hw.1 c8
              refine lv_aload_n hx hb dX3_readTold_66 rfl (lv_at hl 0 rfl) ?_
              refine va_get (D := D) (ci := 3) (C := RX3) (T := TX3) (N := 10) hx hb htb inX3 hown hK hP 11 (xw_11 c q σ6) rfl 1 (by decide) (htb _ tb_202) (fun _ h9 => h9) rfl dX3_readTold_67 ?_
              refine va_getN (D := D) (ci := 1) (C := RX1) (T := TX1) (N := 12) hx hb htb inX1 hown hK hP 13 (xw_13 c q σ6) rfl 10 (by decide) (htb _ tb_160) (fun _ h9 => h9) rfl dX3_readTold_70 ?_
              refine lv_aload_n hx hb dX3_readTold_73 rfl (lv_at hl 0 rfl) ?_
              refine va_get (D := D) (ci := 3) (C := RX3) (T := TX3) (N := 10) hx hb htb inX3 hown hK hP 11 (xw_11 c q σ6) rfl 1 (by decide) (htb _ tb_202) (fun _ h9 => h9) rfl dX3_readTold_74 ?_
              refine va_getN (D := D) (ci := 1) (C := RX1) (T := TX1) (N := 12) hx hb htb inX1 hown hK hP 13 (xw_13 c q σ6) rfl 5 (by decide) (htb _ tb_147) (fun _ h9 => h9) rfl dX3_readTold_77 ?_
              refine lv_aload_n hx hb dX3_readTold_80 rfl (lv_at hl 0 rfl) ?_
              refine va_get (D := D) (ci := 3) (C := RX3) (T := TX3) (N := 10) hx hb htb inX3 hown hK hP 11 (xw_11 c q σ6) rfl 7 (by decide) (htb _ tb_210) (fun _ h9 => h9) rfl dX3_readTold_81 ?_
              refine va_iast hx hb hK hP hD hS 16 11 (xw_16 c q σ6) rfl hw.1 dX3_readTold_84 (fun H locs hP hD hS => ?_)
              have hw := hw.2
              have hP : va_P D vwCl (xw c q (hsA σ6 16 (upd (σ6.2.1 16) (σ6.1 837).toNatClampNeg (σ6.1 711)))) H := hP
              obtain ⟨σ9, eσ9⟩ : ∃ z : hsS, z = hsA σ6 16 (upd (σ6.2.1 16) (σ6.1 837).toNatClampNeg (σ6.1 711)) := ⟨_, rfl⟩
              rw [← eσ9] at hP
              have hD : va_D (wdA 36 q) (xw c q σ9) := xw_D hD0
              have hw := hw σ9 eσ9
              refine lv_aload_n hx hb dX3_readTold_85 rfl (lv_at hl 0 rfl) ?_
              refine va_get (D := D) (ci := 3) (C := RX3) (T := TX3) (N := 10) hx hb htb inX3 hown hK hP 11 (xw_11 c q σ9) rfl 1 (by decide) (htb _ tb_202) (fun _ h9 => h9) rfl dX3_readTold_86 ?_
              refine lv_dup hx hb dX3_readTold_89 rfl ?_
              refine va_getN (D := D) (ci := 1) (C := RX1) (T := TX1) (N := 12) hx hb htb inX1 hown hK hP 13 (xw_13 c q σ9) rfl 5 (by decide) (htb _ tb_147) (fun _ h9 => h9) rfl dX3_readTold_90 ?_
              refine lv_iconst (v := (1 : Int32)) hx hb dX3_readTold_93 (by decide) ?_
              refine lv_iadd hx hb dX3_readTold_94 ?_
              refine va_putN (D := D) (ci := 1) (ty := .int) (C := RX1) (T := TX1) (N := 12) hx hb htb inX1 tyX1 tyX1_ok nmX1 hown hK hP hD hS 13 (xw_13 c q σ9) rfl 5 (by decide) (htb _ tb_147) (fun _ h9 => h9) rfl (by decide +kernel) rfl rfl (Nat.le_of_ble_eq_true rfl) dX3_readTold_95 (fun H locs hP hD hS => ?_)
              have hP : va_P D vwCl (xw c q (hsI σ9 837 ((σ9.1 837) + (1 : Int32)))) H := hP
              obtain ⟨σ10, eσ10⟩ : ∃ z : hsS, z = hsI σ9 837 ((σ9.1 837) + (1 : Int32)) := ⟨_, rfl⟩
              rw [← eσ10] at hP
              have hD : va_D (wdA 36 q) (xw c q σ10) := xw_D hD0
              have hw := hw σ10 eσ10
              refine lv_aload_n hx hb dX3_readTold_98 rfl (lv_at hl 0 rfl) ?_
              refine va_callv (va_runV (As := []) (rest := []) ⟨hx, hb, hml, hown, htb⟩ (kcX3_next_11 l D c q ev hev σ10  _ hw) (tb_CW htb kX3_next tb_712 tb_714 tb_12 ⟨Nat.le_of_ble_eq_true rfl, Nat.le_of_ble_eq_true rfl⟩) (wd_preV (wd := xw c q) (k := 11) hev hK hP hD hE hS (xw_11 c q σ10) rfl) rfl rfl hl.1 rfl (lv_room (Nat.le_of_ble_eq_true rfl)) dX3_readTold_99 ⟨Nat.zero_le _, Nat.zero_le _⟩) hS (fun q _ h => h) (fun q h => h) (fun σ12 t H1 locs1 ht hvm hw hB hz1 hk1 hS => ?_)
              have hP : va_P D vwCl (xw c q σ12) H1 := ht ▸ hB
              have hD : va_D (wdA 36 q) (xw c q σ12) := xw_D hD0
              obtain ⟨v13, ev13⟩ : ∃ z : Int32, z = y1 + (1 : Int32) := ⟨_, rfl⟩
              have hw := hw v13 ev13
              refine lv_iinc (v := v13) (lv' := [(1, .int v13), (0, .ref (q 11))]) hx hb dX3_readTold_102 hl (k := 1) rfl (by rw [ev13]; rfl) (by decide) rfl (fun ls hl => ?_)
              refine lv_goto (tgt := 18) hx hb dX3_readTold_105 (by decide) ?_
              exact ih v13 σ12 _ _ _ hw hk46 hk60 hk108 hP hS (lv_sub hl [1, 0] rfl)
            · have hw := hw.2 c8
              exact hk60 y1 σ6 _ _ _ hw hP hS (lv_sub hl [0, 1] rfl)
          · have hw := hw.1 c7
            exact hk46 y1 σ6 _ _ _ hw hP hS (lv_sub hl [0, 1] rfl)
        · have hw := hw.2 c4
          refine lv_aload_n hx hb dX3_readTold_28 rfl (lv_at hl 0 rfl) ?_
          refine va_get (D := D) (ci := 3) (C := RX3) (T := TX3) (N := 10) hx hb htb inX3 hown hK hP 11 (xw_11 c q σ) rfl 4 (by decide) (htb _ tb_207) (fun _ h9 => h9) rfl dX3_readTold_29 ?_
          refine lv_iconst (v := (2 : Int32)) hx hb dX3_readTold_32 (by decide) ?_
          refine lv_icmp_ne (tgt := 108) hx hb dX3_readTold_33 (by decide) (fun c14 => ?_) (fun c14 => ?_)
          · have hw := hw.2 c14
            exact hk108 y1 σ _ _ _ hw hP hS (lv_sub hl [0, 1] rfl)
          · have hw := hw.1 c14
            refine lv_aload_n hx hb dX3_readTold_36 rfl (lv_at hl 0 rfl) ?_
            refine lv_iconst (v := (0 : Int32)) hx hb dX3_readTold_37 (by decide) ?_
            refine lv_bipush (v := (9 : Int32)) hx hb dX3_readTold_38 (by decide) ?_
            refine va_calli (va_runV (As := [.int (0 : Int32), .int (9 : Int32)]) (rest := []) ⟨hx, hb, hml, hown, htb⟩ (kcX3_atNumberWithin_11 l D c q ev hev σ (0 : Int32) (9 : Int32) _ hw) (tb_CW htb kX3_atNumberWithin tb_802 tb_804 tb_20 ⟨Nat.le_of_ble_eq_true rfl, Nat.le_of_ble_eq_true rfl⟩) (wd_preV (wd := xw c q) (k := 11) hev hK hP hD hE hS (xw_11 c q σ) rfl) rfl rfl hl.1 rfl (lv_room (Nat.le_of_ble_eq_true rfl)) dX3_readTold_40 ⟨Nat.zero_le _, Nat.zero_le _⟩) hS (fun q _ h => h) (fun q h => h) (fun r15 σ16 t H1 locs1 ht hvm hw hB hz1 hk1 hS => ?_)
            have hP : va_P D vwCl (xw c q σ16) H1 := ht ▸ hB
            have hD : va_D (wdA 36 q) (xw c q σ16) := xw_D hD0
            refine lv_if_ne (tgt := 48) hx hb dX3_readTold_43 (by decide) (fun c17 => ?_) (fun c17 => ?_)
            · have hw := hw.2 c17
              refine lv_aload_n hx hb dX3_readTold_48 rfl (lv_at hl 0 rfl) ?_
              refine va_get (D := D) (ci := 3) (C := RX3) (T := TX3) (N := 10) hx hb htb inX3 hown hK hP 11 (xw_11 c q σ16) rfl 1 (by decide) (htb _ tb_202) (fun _ h9 => h9) rfl dX3_readTold_49 ?_
              refine va_getN (D := D) (ci := 1) (C := RX1) (T := TX1) (N := 12) hx hb htb inX1 hown hK hP 13 (xw_13 c q σ16) rfl 5 (by decide) (htb _ tb_147) (fun _ h9 => h9) rfl dX3_readTold_52 ?_
              refine lv_bipush (v := (8 : Int32)) hx hb dX3_readTold_55 (by decide) ?_
              refine lv_icmp_lt (tgt := 66) hx hb dX3_readTold_57 (by decide) (fun c18 => ?_) (fun c18 => ?_)
              · have hw := hw.1 c18
                refine lv_aload_n hx hb dX3_readTold_66 rfl (lv_at hl 0 rfl) ?_
                refine va_get (D := D) (ci := 3) (C := RX3) (T := TX3) (N := 10) hx hb htb inX3 hown hK hP 11 (xw_11 c q σ16) rfl 1 (by decide) (htb _ tb_202) (fun _ h9 => h9) rfl dX3_readTold_67 ?_
                refine va_getN (D := D) (ci := 1) (C := RX1) (T := TX1) (N := 12) hx hb htb inX1 hown hK hP 13 (xw_13 c q σ16) rfl 10 (by decide) (htb _ tb_160) (fun _ h9 => h9) rfl dX3_readTold_70 ?_
                refine lv_aload_n hx hb dX3_readTold_73 rfl (lv_at hl 0 rfl) ?_
                refine va_get (D := D) (ci := 3) (C := RX3) (T := TX3) (N := 10) hx hb htb inX3 hown hK hP 11 (xw_11 c q σ16) rfl 1 (by decide) (htb _ tb_202) (fun _ h9 => h9) rfl dX3_readTold_74 ?_
                refine va_getN (D := D) (ci := 1) (C := RX1) (T := TX1) (N := 12) hx hb htb inX1 hown hK hP 13 (xw_13 c q σ16) rfl 5 (by decide) (htb _ tb_147) (fun _ h9 => h9) rfl dX3_readTold_77 ?_
                refine lv_aload_n hx hb dX3_readTold_80 rfl (lv_at hl 0 rfl) ?_
                refine va_get (D := D) (ci := 3) (C := RX3) (T := TX3) (N := 10) hx hb htb inX3 hown hK hP 11 (xw_11 c q σ16) rfl 7 (by decide) (htb _ tb_210) (fun _ h9 => h9) rfl dX3_readTold_81 ?_
                refine va_iast hx hb hK hP hD hS 16 11 (xw_16 c q σ16) rfl hw.1 dX3_readTold_84 (fun H locs hP hD hS => ?_)
                have hw := hw.2
                have hP : va_P D vwCl (xw c q (hsA σ16 16 (upd (σ16.2.1 16) (σ16.1 837).toNatClampNeg (σ16.1 711)))) H := hP
                obtain ⟨σ19, eσ19⟩ : ∃ z : hsS, z = hsA σ16 16 (upd (σ16.2.1 16) (σ16.1 837).toNatClampNeg (σ16.1 711)) := ⟨_, rfl⟩
                rw [← eσ19] at hP
                have hD : va_D (wdA 36 q) (xw c q σ19) := xw_D hD0
                have hw := hw σ19 eσ19
                refine lv_aload_n hx hb dX3_readTold_85 rfl (lv_at hl 0 rfl) ?_
                refine va_get (D := D) (ci := 3) (C := RX3) (T := TX3) (N := 10) hx hb htb inX3 hown hK hP 11 (xw_11 c q σ19) rfl 1 (by decide) (htb _ tb_202) (fun _ h9 => h9) rfl dX3_readTold_86 ?_
                refine lv_dup hx hb dX3_readTold_89 rfl ?_
                refine va_getN (D := D) (ci := 1) (C := RX1) (T := TX1) (N := 12) hx hb htb inX1 hown hK hP 13 (xw_13 c q σ19) rfl 5 (by decide) (htb _ tb_147) (fun _ h9 => h9) rfl dX3_readTold_90 ?_
                refine lv_iconst (v := (1 : Int32)) hx hb dX3_readTold_93 (by decide) ?_
                refine lv_iadd hx hb dX3_readTold_94 ?_
                refine va_putN (D := D) (ci := 1) (ty := .int) (C := RX1) (T := TX1) (N := 12) hx hb htb inX1 tyX1 tyX1_ok nmX1 hown hK hP hD hS 13 (xw_13 c q σ19) rfl 5 (by decide) (htb _ tb_147) (fun _ h9 => h9) rfl (by decide +kernel) rfl rfl (Nat.le_of_ble_eq_true rfl) dX3_readTold_95 (fun H locs hP hD hS => ?_)
                have hP : va_P D vwCl (xw c q (hsI σ19 837 ((σ19.1 837) + (1 : Int32)))) H := hP
                obtain ⟨σ20, eσ20⟩ : ∃ z : hsS, z = hsI σ19 837 ((σ19.1 837) + (1 : Int32)) := ⟨_, rfl⟩
                rw [← eσ20] at hP
                have hD : va_D (wdA 36 q) (xw c q σ20) := xw_D hD0
                have hw := hw σ20 eσ20
                refine lv_aload_n hx hb dX3_readTold_98 rfl (lv_at hl 0 rfl) ?_
                refine va_callv (va_runV (As := []) (rest := []) ⟨hx, hb, hml, hown, htb⟩ (kcX3_next_11 l D c q ev hev σ20  _ hw) (tb_CW htb kX3_next tb_712 tb_714 tb_12 ⟨Nat.le_of_ble_eq_true rfl, Nat.le_of_ble_eq_true rfl⟩) (wd_preV (wd := xw c q) (k := 11) hev hK hP hD hE hS (xw_11 c q σ20) rfl) rfl rfl hl.1 rfl (lv_room (Nat.le_of_ble_eq_true rfl)) dX3_readTold_99 ⟨Nat.zero_le _, Nat.zero_le _⟩) hS (fun q _ h => h) (fun q h => h) (fun σ22 t H1 locs1 ht hvm hw hB hz1 hk1 hS => ?_)
                have hP : va_P D vwCl (xw c q σ22) H1 := ht ▸ hB
                have hD : va_D (wdA 36 q) (xw c q σ22) := xw_D hD0
                obtain ⟨v23, ev23⟩ : ∃ z : Int32, z = y1 + (1 : Int32) := ⟨_, rfl⟩
                have hw := hw v23 ev23
                refine lv_iinc (v := v23) (lv' := [(1, .int v23), (0, .ref (q 11))]) hx hb dX3_readTold_102 hl (k := 1) rfl (by rw [ev23]; rfl) (by decide) rfl (fun ls hl => ?_)
                refine lv_goto (tgt := 18) hx hb dX3_readTold_105 (by decide) ?_
                exact ih v23 σ22 _ _ _ hw hk46 hk60 hk108 hP hS (lv_sub hl [1, 0] rfl)
              · have hw := hw.2 c18
                exact hk60 y1 σ16 _ _ _ hw hP hS (lv_sub hl [0, 1] rfl)
            · have hw := hw.1 c17
              exact hk46 y1 σ16 _ _ _ hw hP hS (lv_sub hl [0, 1] rfl)
  have hl := lv_entry ([.ref (q 11)]) (n := 2) (Nat.le_of_ble_eq_true rfl)
  rw [lg_entry_eq]
  generalize (lg_sl ([.ref (q 11)]) ++ List.replicate (2 - (lg_sl ([.ref (q 11)])).length) Slot.unset).toArray = ls at hl ⊢
  have hl : lv_has ls 2 [(0, .ref (q 11))] := hl
  unfold wX3_readTold at hw
  refine lv_aload_n hx hb dX3_readTold_0 rfl (lv_at hl 0 rfl) ?_
  refine va_get (D := D) (ci := 3) (C := RX3) (T := TX3) (N := 10) hx hb htb inX3 hown hK hP 11 (xw_11 c q σ) rfl 1 (by decide) (htb _ tb_202) (fun _ h9 => h9) rfl dX3_readTold_1 ?_
  refine lv_iconst (v := (2 : Int32)) hx hb dX3_readTold_4 (by decide) ?_
  refine va_putN (D := D) (ci := 1) (ty := .int) (C := RX1) (T := TX1) (N := 12) hx hb htb inX1 tyX1 tyX1_ok nmX1 hown hK hP hD hS 13 (xw_13 c q σ) rfl 3 (by decide) (htb _ tb_143) (fun _ h9 => h9) rfl (by decide +kernel) rfl rfl (Nat.le_of_ble_eq_true rfl) dX3_readTold_5 (fun H locs hP hD hS => ?_)
  have hP : va_P D vwCl (xw c q (hsI σ 835 (2 : Int32))) H := hP
  obtain ⟨σ1, eσ1⟩ : ∃ z : hsS, z = hsI σ 835 (2 : Int32) := ⟨_, rfl⟩
  rw [← eσ1] at hP
  have hD : va_D (wdA 36 q) (xw c q σ1) := xw_D hD0
  have hw := hw σ1 eσ1
  refine lv_aload_n hx hb dX3_readTold_8 rfl (lv_at hl 0 rfl) ?_
  refine va_get (D := D) (ci := 3) (C := RX3) (T := TX3) (N := 10) hx hb htb inX3 hown hK hP 11 (xw_11 c q σ1) rfl 1 (by decide) (htb _ tb_202) (fun _ h9 => h9) rfl dX3_readTold_9 ?_
  refine lv_iconst (v := (0 : Int32)) hx hb dX3_readTold_12 (by decide) ?_
  refine va_putN (D := D) (ci := 1) (ty := .int) (C := RX1) (T := TX1) (N := 12) hx hb htb inX1 tyX1 tyX1_ok nmX1 hown hK hP hD hS 13 (xw_13 c q σ1) rfl 5 (by decide) (htb _ tb_147) (fun _ h9 => h9) rfl (by decide +kernel) rfl rfl (Nat.le_of_ble_eq_true rfl) dX3_readTold_13 (fun H locs hP hD hS => ?_)
  have hP : va_P D vwCl (xw c q (hsI σ1 837 (0 : Int32))) H := hP
  obtain ⟨σ2, eσ2⟩ : ∃ z : hsS, z = hsI σ1 837 (0 : Int32) := ⟨_, rfl⟩
  rw [← eσ2] at hP
  have hD : va_D (wdA 36 q) (xw c q σ2) := xw_D hD0
  have hw := hw σ2 eσ2
  refine lv_iconst (v := (0 : Int32)) hx hb dX3_readTold_16 (by decide) ?_
  refine lv_istore_n (lv' := [(1, .int (0 : Int32)), (0, .ref (q 11))]) hx hb dX3_readTold_17 rfl hl (by decide) rfl (fun ls hl => ?_)
  obtain ⟨n24, hw⟩ := hw
  refine L18 _ _ _ n24 (0 : Int32) σ2 _ _ _ hw ?_ ?_ ?_ hP hS (lv_sub hl [1, 0] rfl)
  · intro v25 σ26 H locs ls hw hP hS hl
    have hD : va_D (wdA 36 q) (xw c q σ26) := xw_D hD0
    refine lv_iconst (v := (0 : Int32)) hx hb dX3_readTold_46 (by decide) ?_
    exact W.zret hx hb hr rfl (fun t ht hW => ⟨⟨_, σ26, rfl, hw, by unfold wdB; rw [ht]; exact hP⟩, hS.F ht⟩) hS.2.2 dX3_readTold_47
  · intro v27 σ28 H locs ls hw hP hS hl
    have hD : va_D (wdA 36 q) (xw c q σ28) := xw_D hD0
    refine lv_aload_n hx hb dX3_readTold_60 rfl (lv_at hl 0 rfl) ?_
    refine lv_iconst (v := (2 : Int32)) hx hb dX3_readTold_61 (by decide) ?_
    refine va_calli (va_runV (As := [.int (2 : Int32)]) (rest := []) ⟨hx, hb, hml, hown, htb⟩ (kcX3_fail_11 l D c q ev hev σ28 (2 : Int32) _ hw) (tb_CW htb kX3_fail tb_798 tb_800 tb_19 ⟨Nat.le_of_ble_eq_true rfl, Nat.le_of_ble_eq_true rfl⟩) (wd_preV (wd := xw c q) (k := 11) hev hK hP hD hE hS (xw_11 c q σ28) rfl) rfl rfl hl.1 rfl (lv_room (Nat.le_of_ble_eq_true rfl)) dX3_readTold_62 ⟨Nat.zero_le _, Nat.zero_le _⟩) hS (fun q _ h => h) (fun q h => h) (fun r29 σ30 t H1 locs1 ht hvm hw hB hz1 hk1 hS => ?_)
    have hP : va_P D vwCl (xw c q σ30) H1 := ht ▸ hB
    have hD : va_D (wdA 36 q) (xw c q σ30) := xw_D hD0
    have hq := hw.2
    exact W.zret hx hb hr (nar_b hw.1) (fun t ht hW => ⟨⟨_, σ30, rfl, hq, by unfold wdB; rw [ht]; exact hP⟩, hS.F ht⟩) hS.2.2 dX3_readTold_65
  · intro v31 σ32 H locs ls hw hP hS hl
    have hD : va_D (wdA 36 q) (xw c q σ32) := xw_D hD0
    refine lv_iconst (v := (1 : Int32)) hx hb dX3_readTold_108 (by decide) ?_
    exact W.zret hx hb hr rfl (fun t ht hW => ⟨⟨_, σ32, rfl, hw, by unfold wdB; rw [ht]; exact hP⟩, hS.F ht⟩) hS.2.2 dX3_readTold_109
def wX3_readSteps (b0 : Nat) (post : Int32 → hsS → Prop) (σ : hsS) : Prop := wX3_atNumberWithin b0 (1 : Int32) (999 : Int32) (fun r1 σ2 => ((r1 = (0 : Int32) → post (0 : Int32) σ2) ∧ (¬ r1 = (0 : Int32) → ∀ σ4 : hsS, σ4 = hsI σ2 (64 * (b0 + 2) + 3) (1 : Int32) → ∀ σ5 : hsS, σ5 = hsI σ4 (64 * (b0 + 2) + 4) (σ4.1 (64 * b0 + 7)) → wX3_next b0 (fun σ7 => post (1 : Int32) σ7) σ5))) σ
set_option maxHeartbeats 4000000 in
set_option maxRecDepth 100000 in
theorem kcX3_readSteps_11 (l : Launch) (D : va_G) (c : Nat → ClassId) (q : Nat → Nat) (ev : State → Heap → Prop) (hev : evOK (wdA 36 q) ev) (σ : hsS)  (post : Int32 → hsS → Prop) (hw : wX3_readSteps 11 post σ) : Met l yX3_readSteps (Cond.code yX3_readSteps cX3_readSteps 1 (some .boolean) :: tb_L) { frames := 3, cells := 0, slots := 0, locals := 63 } (wdPc D (xw c q) (xwT c) (wdA 36 q) ev σ [.ref (q 11)]) (va_Qi post (wdB D (xw c q)) (wdA 36 q)) 0 0 (wdA 36 q) := by
  refine Met.ofW (cc := cX3_readSteps) (maxL := 1) (ret := (some .boolean)) (by decide) rfl ?_
  intro p e s m args below meth c₀ s₁ Bd hml hv
  obtain ⟨rfl, hP, hK, hD0, hE⟩ := hv
  have hx := Bd.exec
  have hb := Bd.bytes
  have hr := Bd.returns
  have hts := atoms_spec (ws := Cond.code yX3_readSteps cX3_readSteps 1 (some .boolean) :: tb_L) Bd.pre
  have htb : ∀ w ∈ tb_L, w.before [.ref (q 11)].toArray s = true := fun w h => hts w (List.mem_cons_of_mem _ h)
  have hown : s.vm.findClass RX3 = some m.cls := findClass_of_methodNamed Bd.named
  have hlocks := Bd.notSynchronized
  have hS : va_S (wdA 36 q) s.heap s.heap [] := va_S.rf
  have hD := hD0
  have hl := lv_entry ([.ref (q 11)]) (n := 1) (Nat.le_of_ble_eq_true rfl)
  rw [lg_entry_eq]
  generalize (lg_sl ([.ref (q 11)]) ++ List.replicate (1 - (lg_sl ([.ref (q 11)])).length) Slot.unset).toArray = ls at hl ⊢
  have hl : lv_has ls 1 [(0, .ref (q 11))] := hl
  unfold wX3_readSteps at hw
  refine lv_aload_n hx hb dX3_readSteps_0 rfl (lv_at hl 0 rfl) ?_
  refine lv_iconst (v := (1 : Int32)) hx hb dX3_readSteps_1 (by decide) ?_
  refine lv_sipush (v := (999 : Int32)) hx hb dX3_readSteps_2 (by decide) ?_
  refine va_calli (va_runV (As := [.int (1 : Int32), .int (999 : Int32)]) (rest := []) ⟨hx, hb, hml, hown, htb⟩ (kcX3_atNumberWithin_11 l D c q ev hev σ (1 : Int32) (999 : Int32) _ hw) (tb_CW htb kX3_atNumberWithin tb_802 tb_804 tb_20 ⟨Nat.le_of_ble_eq_true rfl, Nat.le_of_ble_eq_true rfl⟩) (wd_preV (wd := xw c q) (k := 11) hev hK hP hD hE hS (xw_11 c q σ) rfl) rfl rfl hl.1 rfl (lv_room (Nat.le_of_ble_eq_true rfl)) dX3_readSteps_5 ⟨Nat.zero_le _, Nat.zero_le _⟩) hS (fun q _ h => h) (fun q h => h) (fun r1 σ2 t H1 locs1 ht hvm hw hB hz1 hk1 hS => ?_)
  have hP : va_P D vwCl (xw c q σ2) H1 := ht ▸ hB
  have hD : va_D (wdA 36 q) (xw c q σ2) := xw_D hD0
  refine lv_if_ne (tgt := 13) hx hb dX3_readSteps_8 (by decide) (fun c3 => ?_) (fun c3 => ?_)
  · have hw := hw.2 c3
    refine lv_aload_n hx hb dX3_readSteps_13 rfl (lv_at hl 0 rfl) ?_
    refine va_get (D := D) (ci := 3) (C := RX3) (T := TX3) (N := 10) hx hb htb inX3 hown hK hP 11 (xw_11 c q σ2) rfl 1 (by decide) (htb _ tb_202) (fun _ h9 => h9) rfl dX3_readSteps_14 ?_
    refine lv_iconst (v := (1 : Int32)) hx hb dX3_readSteps_17 (by decide) ?_
    refine va_putN (D := D) (ci := 1) (ty := .int) (C := RX1) (T := TX1) (N := 12) hx hb htb inX1 tyX1 tyX1_ok nmX1 hown hK hP hD hS 13 (xw_13 c q σ2) rfl 3 (by decide) (htb _ tb_143) (fun _ h9 => h9) rfl (by decide +kernel) rfl rfl (Nat.le_of_ble_eq_true rfl) dX3_readSteps_18 (fun H locs hP hD hS => ?_)
    have hP : va_P D vwCl (xw c q (hsI σ2 835 (1 : Int32))) H := hP
    obtain ⟨σ4, eσ4⟩ : ∃ z : hsS, z = hsI σ2 835 (1 : Int32) := ⟨_, rfl⟩
    rw [← eσ4] at hP
    have hD : va_D (wdA 36 q) (xw c q σ4) := xw_D hD0
    have hw := hw σ4 eσ4
    refine lv_aload_n hx hb dX3_readSteps_21 rfl (lv_at hl 0 rfl) ?_
    refine va_get (D := D) (ci := 3) (C := RX3) (T := TX3) (N := 10) hx hb htb inX3 hown hK hP 11 (xw_11 c q σ4) rfl 1 (by decide) (htb _ tb_202) (fun _ h9 => h9) rfl dX3_readSteps_22 ?_
    refine lv_aload_n hx hb dX3_readSteps_25 rfl (lv_at hl 0 rfl) ?_
    refine va_get (D := D) (ci := 3) (C := RX3) (T := TX3) (N := 10) hx hb htb inX3 hown hK hP 11 (xw_11 c q σ4) rfl 7 (by decide) (htb _ tb_210) (fun _ h9 => h9) rfl dX3_readSteps_26 ?_
    refine va_putN (D := D) (ci := 1) (ty := .int) (C := RX1) (T := TX1) (N := 12) hx hb htb inX1 tyX1 tyX1_ok nmX1 hown hK hP hD hS 13 (xw_13 c q σ4) rfl 4 (by decide) (htb _ tb_145) (fun _ h9 => h9) rfl (by decide +kernel) rfl rfl (Nat.le_of_ble_eq_true rfl) dX3_readSteps_29 (fun H locs hP hD hS => ?_)
    have hP : va_P D vwCl (xw c q (hsI σ4 836 (σ4.1 711))) H := hP
    obtain ⟨σ5, eσ5⟩ : ∃ z : hsS, z = hsI σ4 836 (σ4.1 711) := ⟨_, rfl⟩
    rw [← eσ5] at hP
    have hD : va_D (wdA 36 q) (xw c q σ5) := xw_D hD0
    have hw := hw σ5 eσ5
    refine lv_aload_n hx hb dX3_readSteps_32 rfl (lv_at hl 0 rfl) ?_
    refine va_callv (va_runV (As := []) (rest := []) ⟨hx, hb, hml, hown, htb⟩ (kcX3_next_11 l D c q ev hev σ5  _ hw) (tb_CW htb kX3_next tb_712 tb_714 tb_12 ⟨Nat.le_of_ble_eq_true rfl, Nat.le_of_ble_eq_true rfl⟩) (wd_preV (wd := xw c q) (k := 11) hev hK hP hD hE hS (xw_11 c q σ5) rfl) rfl rfl hl.1 rfl (lv_room (Nat.le_of_ble_eq_true rfl)) dX3_readSteps_33 ⟨Nat.zero_le _, Nat.zero_le _⟩) hS (fun q _ h => h) (fun q h => h) (fun σ7 t H1 locs1 ht hvm hw hB hz1 hk1 hS => ?_)
    have hP : va_P D vwCl (xw c q σ7) H1 := ht ▸ hB
    have hD : va_D (wdA 36 q) (xw c q σ7) := xw_D hD0
    refine lv_iconst (v := (1 : Int32)) hx hb dX3_readSteps_36 (by decide) ?_
    exact W.zret hx hb hr rfl (fun t ht hW => ⟨⟨_, σ7, rfl, hw, by unfold wdB; rw [ht]; exact hP⟩, hS.F ht⟩) hS.2.2 dX3_readSteps_37
  · have hw := hw.1 c3
    refine lv_iconst (v := (0 : Int32)) hx hb dX3_readSteps_11 (by decide) ?_
    exact W.zret hx hb hr rfl (fun t ht hW => ⟨⟨_, σ2, rfl, hw, by unfold wdB; rw [ht]; exact hP⟩, hS.F ht⟩) hS.2.2 dX3_readSteps_12
def wX3_readLaw (b0 : Nat) (post : Int32 → hsS → Prop) (σ : hsS) : Prop := wX3_isWord b0 7 (fun r1 σ2 => ((r1 = (0 : Int32) → wX3_isWord b0 8 (fun r4 σ5 => ((r4 = (0 : Int32) → wX3_isWord b0 9 (fun r7 σ8 => ((r7 = (0 : Int32) → wX3_fail b0 (1 : Int32) (fun r10 σ11 => (r10 = 0 ∨ r10 = 1) ∧ post r10 σ11) σ8) ∧ (¬ r7 = (0 : Int32) → wX3_next b0 (fun σ13 => wX3_readTold b0 (fun r14 σ15 => (r14 = 0 ∨ r14 = 1) ∧ post r14 σ15) σ13) σ8))) σ5) ∧ (¬ r4 = (0 : Int32) → wX3_next b0 (fun σ17 => wX3_readSteps b0 (fun r18 σ19 => (r18 = 0 ∨ r18 = 1) ∧ post r18 σ19) σ17) σ5))) σ2) ∧ (¬ r1 = (0 : Int32) → ∀ σ20 : hsS, σ20 = hsI σ2 (64 * (b0 + 2) + 3) (0 : Int32) → wX3_next b0 (fun σ22 => post (1 : Int32) σ22) σ20))) σ
set_option maxHeartbeats 4000000 in
set_option maxRecDepth 100000 in
theorem kcX3_readLaw_11 (l : Launch) (D : va_G) (c : Nat → ClassId) (q : Nat → Nat) (ev : State → Heap → Prop) (hev : evOK (wdA 36 q) ev) (adK adV : Nat → Nat) (hZ : ∀ (U : State) (H : Heap), ev U H → evS (wdA 36 q) adK adV U H) (σ : hsS)  (post : Int32 → hsS → Prop) (hw : wX3_readLaw 11 post σ) : Met l yX3_readLaw (Cond.code yX3_readLaw cX3_readLaw 1 (some .boolean) :: tb_L) { frames := 5, cells := 0, slots := 0, locals := 107 } (wdPc D (xw c q) (xwT c) (wdA 36 q) ev σ [.ref (q 11)]) (va_Qi post (wdB D (xw c q)) (wdA 36 q)) 0 0 (wdA 36 q) := by
  refine Met.ofW (cc := cX3_readLaw) (maxL := 1) (ret := (some .boolean)) (by decide) rfl ?_
  intro p e s m args below meth c₀ s₁ Bd hml hv
  obtain ⟨rfl, hP, hK, hD0, hE⟩ := hv
  have hx := Bd.exec
  have hb := Bd.bytes
  have hr := Bd.returns
  have hts := atoms_spec (ws := Cond.code yX3_readLaw cX3_readLaw 1 (some .boolean) :: tb_L) Bd.pre
  have htb : ∀ w ∈ tb_L, w.before [.ref (q 11)].toArray s = true := fun w h => hts w (List.mem_cons_of_mem _ h)
  have hown : s.vm.findClass RX3 = some m.cls := findClass_of_methodNamed Bd.named
  have hlocks := Bd.notSynchronized
  have hS : va_S (wdA 36 q) s.heap s.heap [] := va_S.rf
  have hD := hD0
  have hl := lv_entry ([.ref (q 11)]) (n := 1) (Nat.le_of_ble_eq_true rfl)
  rw [lg_entry_eq]
  generalize (lg_sl ([.ref (q 11)]) ++ List.replicate (1 - (lg_sl ([.ref (q 11)])).length) Slot.unset).toArray = ls at hl ⊢
  have hl : lv_has ls 1 [(0, .ref (q 11))] := hl
  unfold wX3_readLaw at hw
  refine lv_aload_n hx hb dX3_readLaw_0 rfl (lv_at hl 0 rfl) ?_
  refine va_ldcS hx hb hown ((hZ s s.heap hE).2.2.2 ("StrikeHall$Reader", 170, "parts", 7) (by decide)) dX3_readLaw_1 ?_
  refine va_calli (va_runV (As := [.ref (adK 7)]) (rest := []) ⟨hx, hb, hml, hown, htb⟩ (kcX3_isWord_11_s l D c q ev hev adK adV hZ σ 7 (by decide) _ hw) (tb_CW htb kX3_isWord tb_746 tb_748 tb_18 ⟨Nat.le_of_ble_eq_true rfl, Nat.le_of_ble_eq_true rfl⟩) (wd_preV (wd := xw c q) (k := 11) hev hK hP hD hE hS (xw_11 c q σ) rfl) rfl rfl hl.1 rfl (lv_room (Nat.le_of_ble_eq_true rfl)) dX3_readLaw_3 ⟨Nat.zero_le _, Nat.zero_le _⟩) hS (fun q _ h => h) (fun q h => h) (fun r1 σ2 t H1 locs1 ht hvm hw hB hz1 hk1 hS => ?_)
  have hP : va_P D vwCl (xw c q σ2) H1 := ht ▸ hB
  have hD : va_D (wdA 36 q) (xw c q σ2) := xw_D hD0
  refine lv_if_eq (tgt := 23) hx hb dX3_readLaw_6 (by decide) (fun c3 => ?_) (fun c3 => ?_)
  · have hw := hw.1 c3
    refine lv_aload_n hx hb dX3_readLaw_23 rfl (lv_at hl 0 rfl) ?_
    refine va_ldcS hx hb hown ((hZ s s.heap hE).2.2.2 ("StrikeHall$Reader", 174, "steps", 8) (by decide)) dX3_readLaw_24 ?_
    refine va_calli (va_runV (As := [.ref (adK 8)]) (rest := []) ⟨hx, hb, hml, hown, htb⟩ (kcX3_isWord_11_s l D c q ev hev adK adV hZ σ2 8 (by decide) _ hw) (tb_CW htb kX3_isWord tb_746 tb_748 tb_18 ⟨Nat.le_of_ble_eq_true rfl, Nat.le_of_ble_eq_true rfl⟩) (wd_preV (wd := xw c q) (k := 11) hev hK hP hD hE hS (xw_11 c q σ2) rfl) rfl rfl hl.1 rfl (lv_room (Nat.le_of_ble_eq_true rfl)) dX3_readLaw_26 ⟨Nat.zero_le _, Nat.zero_le _⟩) hS (fun q _ h => h) (fun q h => h) (fun r4 σ5 t H1 locs1 ht hvm hw hB hz1 hk1 hS => ?_)
    have hP : va_P D vwCl (xw c q σ5) H1 := ht ▸ hB
    have hD : va_D (wdA 36 q) (xw c q σ5) := xw_D hD0
    refine lv_if_eq (tgt := 41) hx hb dX3_readLaw_29 (by decide) (fun c6 => ?_) (fun c6 => ?_)
    · have hw := hw.1 c6
      refine lv_aload_n hx hb dX3_readLaw_41 rfl (lv_at hl 0 rfl) ?_
      refine va_ldcS hx hb hown ((hZ s s.heap hE).2.2.2 ("StrikeHall$Reader", 179, "told", 9) (by decide)) dX3_readLaw_42 ?_
      refine va_calli (va_runV (As := [.ref (adK 9)]) (rest := []) ⟨hx, hb, hml, hown, htb⟩ (kcX3_isWord_11_s l D c q ev hev adK adV hZ σ5 9 (by decide) _ hw) (tb_CW htb kX3_isWord tb_746 tb_748 tb_18 ⟨Nat.le_of_ble_eq_true rfl, Nat.le_of_ble_eq_true rfl⟩) (wd_preV (wd := xw c q) (k := 11) hev hK hP hD hE hS (xw_11 c q σ5) rfl) rfl rfl hl.1 rfl (lv_room (Nat.le_of_ble_eq_true rfl)) dX3_readLaw_44 ⟨Nat.zero_le _, Nat.zero_le _⟩) hS (fun q _ h => h) (fun q h => h) (fun r7 σ8 t H1 locs1 ht hvm hw hB hz1 hk1 hS => ?_)
      have hP : va_P D vwCl (xw c q σ8) H1 := ht ▸ hB
      have hD : va_D (wdA 36 q) (xw c q σ8) := xw_D hD0
      refine lv_if_eq (tgt := 59) hx hb dX3_readLaw_47 (by decide) (fun c9 => ?_) (fun c9 => ?_)
      · have hw := hw.1 c9
        refine lv_aload_n hx hb dX3_readLaw_59 rfl (lv_at hl 0 rfl) ?_
        refine lv_iconst (v := (1 : Int32)) hx hb dX3_readLaw_60 (by decide) ?_
        refine va_calli (va_runV (As := [.int (1 : Int32)]) (rest := []) ⟨hx, hb, hml, hown, htb⟩ (kcX3_fail_11 l D c q ev hev σ8 (1 : Int32) _ hw) (tb_CW htb kX3_fail tb_798 tb_800 tb_19 ⟨Nat.le_of_ble_eq_true rfl, Nat.le_of_ble_eq_true rfl⟩) (wd_preV (wd := xw c q) (k := 11) hev hK hP hD hE hS (xw_11 c q σ8) rfl) rfl rfl hl.1 rfl (lv_room (Nat.le_of_ble_eq_true rfl)) dX3_readLaw_61 ⟨Nat.zero_le _, Nat.zero_le _⟩) hS (fun q _ h => h) (fun q h => h) (fun r10 σ11 t H1 locs1 ht hvm hw hB hz1 hk1 hS => ?_)
        have hP : va_P D vwCl (xw c q σ11) H1 := ht ▸ hB
        have hD : va_D (wdA 36 q) (xw c q σ11) := xw_D hD0
        have hq := hw.2
        exact W.zret hx hb hr (nar_b hw.1) (fun t ht hW => ⟨⟨_, σ11, rfl, hq, by unfold wdB; rw [ht]; exact hP⟩, hS.F ht⟩) hS.2.2 dX3_readLaw_64
      · have hw := hw.2 c9
        refine lv_aload_n hx hb dX3_readLaw_50 rfl (lv_at hl 0 rfl) ?_
        refine va_callv (va_runV (As := []) (rest := []) ⟨hx, hb, hml, hown, htb⟩ (kcX3_next_11 l D c q ev hev σ8  _ hw) (tb_CW htb kX3_next tb_712 tb_714 tb_12 ⟨Nat.le_of_ble_eq_true rfl, Nat.le_of_ble_eq_true rfl⟩) (wd_preV (wd := xw c q) (k := 11) hev hK hP hD hE hS (xw_11 c q σ8) rfl) rfl rfl hl.1 rfl (lv_room (Nat.le_of_ble_eq_true rfl)) dX3_readLaw_51 ⟨Nat.zero_le _, Nat.zero_le _⟩) hS (fun q _ h => h) (fun q h => h) (fun σ13 t H1 locs1 ht hvm hw hB hz1 hk1 hS => ?_)
        have hP : va_P D vwCl (xw c q σ13) H1 := ht ▸ hB
        have hD : va_D (wdA 36 q) (xw c q σ13) := xw_D hD0
        refine lv_aload_n hx hb dX3_readLaw_54 rfl (lv_at hl 0 rfl) ?_
        refine va_calli (va_runV (As := []) (rest := []) ⟨hx, hb, hml, hown, htb⟩ (kcX3_readTold_11 l D c q ev hev σ13  _ hw) (tb_CW htb kX3_readTold tb_849 tb_851 tb_29 ⟨Nat.le_of_ble_eq_true rfl, Nat.le_of_ble_eq_true rfl⟩) (wd_preV (wd := xw c q) (k := 11) hev hK hP hD hE hS (xw_11 c q σ13) rfl) rfl rfl hl.1 rfl (lv_room (Nat.le_of_ble_eq_true rfl)) dX3_readLaw_55 ⟨Nat.zero_le _, Nat.zero_le _⟩) hS (fun q _ h => h) (fun q h => h) (fun r14 σ15 t H1 locs1 ht hvm hw hB hz1 hk1 hS => ?_)
        have hP : va_P D vwCl (xw c q σ15) H1 := ht ▸ hB
        have hD : va_D (wdA 36 q) (xw c q σ15) := xw_D hD0
        have hq := hw.2
        exact W.zret hx hb hr (nar_b hw.1) (fun t ht hW => ⟨⟨_, σ15, rfl, hq, by unfold wdB; rw [ht]; exact hP⟩, hS.F ht⟩) hS.2.2 dX3_readLaw_58
    · have hw := hw.2 c6
      refine lv_aload_n hx hb dX3_readLaw_32 rfl (lv_at hl 0 rfl) ?_
      refine va_callv (va_runV (As := []) (rest := []) ⟨hx, hb, hml, hown, htb⟩ (kcX3_next_11 l D c q ev hev σ5  _ hw) (tb_CW htb kX3_next tb_712 tb_714 tb_12 ⟨Nat.le_of_ble_eq_true rfl, Nat.le_of_ble_eq_true rfl⟩) (wd_preV (wd := xw c q) (k := 11) hev hK hP hD hE hS (xw_11 c q σ5) rfl) rfl rfl hl.1 rfl (lv_room (Nat.le_of_ble_eq_true rfl)) dX3_readLaw_33 ⟨Nat.zero_le _, Nat.zero_le _⟩) hS (fun q _ h => h) (fun q h => h) (fun σ17 t H1 locs1 ht hvm hw hB hz1 hk1 hS => ?_)
      have hP : va_P D vwCl (xw c q σ17) H1 := ht ▸ hB
      have hD : va_D (wdA 36 q) (xw c q σ17) := xw_D hD0
      refine lv_aload_n hx hb dX3_readLaw_36 rfl (lv_at hl 0 rfl) ?_
      refine va_calli (va_runV (As := []) (rest := []) ⟨hx, hb, hml, hown, htb⟩ (kcX3_readSteps_11 l D c q ev hev σ17  _ hw) (tb_CW htb kX3_readSteps tb_844 tb_846 tb_28 ⟨Nat.le_of_ble_eq_true rfl, Nat.le_of_ble_eq_true rfl⟩) (wd_preV (wd := xw c q) (k := 11) hev hK hP hD hE hS (xw_11 c q σ17) rfl) rfl rfl hl.1 rfl (lv_room (Nat.le_of_ble_eq_true rfl)) dX3_readLaw_37 ⟨Nat.zero_le _, Nat.zero_le _⟩) hS (fun q _ h => h) (fun q h => h) (fun r18 σ19 t H1 locs1 ht hvm hw hB hz1 hk1 hS => ?_)
      have hP : va_P D vwCl (xw c q σ19) H1 := ht ▸ hB
      have hD : va_D (wdA 36 q) (xw c q σ19) := xw_D hD0
      have hq := hw.2
      exact W.zret hx hb hr (nar_b hw.1) (fun t ht hW => ⟨⟨_, σ19, rfl, hq, by unfold wdB; rw [ht]; exact hP⟩, hS.F ht⟩) hS.2.2 dX3_readLaw_40
  · have hw := hw.2 c3
    refine lv_aload_n hx hb dX3_readLaw_9 rfl (lv_at hl 0 rfl) ?_
    refine va_get (D := D) (ci := 3) (C := RX3) (T := TX3) (N := 10) hx hb htb inX3 hown hK hP 11 (xw_11 c q σ2) rfl 1 (by decide) (htb _ tb_202) (fun _ h9 => h9) rfl dX3_readLaw_10 ?_
    refine lv_iconst (v := (0 : Int32)) hx hb dX3_readLaw_13 (by decide) ?_
    refine va_putN (D := D) (ci := 1) (ty := .int) (C := RX1) (T := TX1) (N := 12) hx hb htb inX1 tyX1 tyX1_ok nmX1 hown hK hP hD hS 13 (xw_13 c q σ2) rfl 3 (by decide) (htb _ tb_143) (fun _ h9 => h9) rfl (by decide +kernel) rfl rfl (Nat.le_of_ble_eq_true rfl) dX3_readLaw_14 (fun H locs hP hD hS => ?_)
    have hP : va_P D vwCl (xw c q (hsI σ2 835 (0 : Int32))) H := hP
    obtain ⟨σ20, eσ20⟩ : ∃ z : hsS, z = hsI σ2 835 (0 : Int32) := ⟨_, rfl⟩
    rw [← eσ20] at hP
    have hD : va_D (wdA 36 q) (xw c q σ20) := xw_D hD0
    have hw := hw σ20 eσ20
    refine lv_aload_n hx hb dX3_readLaw_17 rfl (lv_at hl 0 rfl) ?_
    refine va_callv (va_runV (As := []) (rest := []) ⟨hx, hb, hml, hown, htb⟩ (kcX3_next_11 l D c q ev hev σ20  _ hw) (tb_CW htb kX3_next tb_712 tb_714 tb_12 ⟨Nat.le_of_ble_eq_true rfl, Nat.le_of_ble_eq_true rfl⟩) (wd_preV (wd := xw c q) (k := 11) hev hK hP hD hE hS (xw_11 c q σ20) rfl) rfl rfl hl.1 rfl (lv_room (Nat.le_of_ble_eq_true rfl)) dX3_readLaw_18 ⟨Nat.zero_le _, Nat.zero_le _⟩) hS (fun q _ h => h) (fun q h => h) (fun σ22 t H1 locs1 ht hvm hw hB hz1 hk1 hS => ?_)
    have hP : va_P D vwCl (xw c q σ22) H1 := ht ▸ hB
    have hD : va_D (wdA 36 q) (xw c q σ22) := xw_D hD0
    refine lv_iconst (v := (1 : Int32)) hx hb dX3_readLaw_21 (by decide) ?_
    exact W.zret hx hb hr rfl (fun t ht hW => ⟨⟨_, σ22, rfl, hw, by unfold wdB; rw [ht]; exact hP⟩, hS.F ht⟩) hS.2.2 dX3_readLaw_22
def wX3_atNewThing (b0 : Nat) (x1 : Int32) (post : Int32 → hsS → Prop) (σ : hsS) : Prop := wX3_atNumber b0 (fun r1 σ2 => ((r1 = (0 : Int32) → post (0 : Int32) σ2) ∧ (¬ r1 = (0 : Int32) → (((σ2.1 (64 * b0 + 7)) < (σ2.1 (64 * (b0 + 2) + 0)) → ((((x1 >>> ((σ2.1 (64 * b0 + 7)) &&& 31)) &&& (1 : Int32)) = (0 : Int32) → post (1 : Int32) σ2) ∧ (¬ ((x1 >>> ((σ2.1 (64 * b0 + 7)) &&& 31)) &&& (1 : Int32)) = (0 : Int32) → wX3_fail b0 (4 : Int32) (fun r6 σ7 => ((r6 = (0 : Int32) → post (0 : Int32) σ7) ∧ (¬ r6 = (0 : Int32) → post (1 : Int32) σ7))) σ2))) ∧ (¬ (σ2.1 (64 * b0 + 7)) < (σ2.1 (64 * (b0 + 2) + 0)) → wX3_fail b0 (3 : Int32) (fun r9 σ10 => (r9 = 0 ∨ r9 = 1) ∧ post r9 σ10) σ2))))) σ
set_option maxHeartbeats 4000000 in
set_option maxRecDepth 100000 in
theorem kcX3_atNewThing_11 (l : Launch) (D : va_G) (c : Nat → ClassId) (q : Nat → Nat) (ev : State → Heap → Prop) (hev : evOK (wdA 36 q) ev) (σ : hsS) (x1 : Int32) (post : Int32 → hsS → Prop) (hw : wX3_atNewThing 11 x1 post σ) : Met l yX3_atNewThing (Cond.code yX3_atNewThing cX3_atNewThing 2 (some .boolean) :: tb_L) { frames := 2, cells := 0, slots := 0, locals := 41 } (wdPc D (xw c q) (xwT c) (wdA 36 q) ev σ [.ref (q 11), .int x1]) (va_Qi post (wdB D (xw c q)) (wdA 36 q)) 0 0 (wdA 36 q) := by
  refine Met.ofW (cc := cX3_atNewThing) (maxL := 2) (ret := (some .boolean)) (by decide) rfl ?_
  intro p e s m args below meth c₀ s₁ Bd hml hv
  obtain ⟨rfl, hP, hK, hD0, hE⟩ := hv
  have hx := Bd.exec
  have hb := Bd.bytes
  have hr := Bd.returns
  have hts := atoms_spec (ws := Cond.code yX3_atNewThing cX3_atNewThing 2 (some .boolean) :: tb_L) Bd.pre
  have htb : ∀ w ∈ tb_L, w.before [.ref (q 11), .int x1].toArray s = true := fun w h => hts w (List.mem_cons_of_mem _ h)
  have hown : s.vm.findClass RX3 = some m.cls := findClass_of_methodNamed Bd.named
  have hlocks := Bd.notSynchronized
  have hS : va_S (wdA 36 q) s.heap s.heap [] := va_S.rf
  have hD := hD0
  have hl := lv_entry ([.ref (q 11), .int x1]) (n := 2) (Nat.le_of_ble_eq_true rfl)
  rw [lg_entry_eq]
  generalize (lg_sl ([.ref (q 11), .int x1]) ++ List.replicate (2 - (lg_sl ([.ref (q 11), .int x1])).length) Slot.unset).toArray = ls at hl ⊢
  have hl : lv_has ls 2 [(0, .ref (q 11)), (1, .int x1)] := hl
  unfold wX3_atNewThing at hw
  refine lv_aload_n hx hb dX3_atNewThing_0 rfl (lv_at hl 0 rfl) ?_
  refine va_calli (va_runV (As := []) (rest := []) ⟨hx, hb, hml, hown, htb⟩ (kcX3_atNumber_11 l D c q ev hev σ  _ hw) (tb_CW htb kX3_atNumber tb_806 tb_808 tb_21 ⟨Nat.le_of_ble_eq_true rfl, Nat.le_of_ble_eq_true rfl⟩) (wd_preV (wd := xw c q) (k := 11) hev hK hP hD hE hS (xw_11 c q σ) rfl) rfl rfl hl.1 rfl (lv_room (Nat.le_of_ble_eq_true rfl)) dX3_atNewThing_1 ⟨Nat.zero_le _, Nat.zero_le _⟩) hS (fun q _ h => h) (fun q h => h) (fun r1 σ2 t H1 locs1 ht hvm hw hB hz1 hk1 hS => ?_)
  have hP : va_P D vwCl (xw c q σ2) H1 := ht ▸ hB
  have hD : va_D (wdA 36 q) (xw c q σ2) := xw_D hD0
  refine lv_if_ne (tgt := 9) hx hb dX3_atNewThing_4 (by decide) (fun c3 => ?_) (fun c3 => ?_)
  · have hw := hw.2 c3
    refine lv_aload_n hx hb dX3_atNewThing_9 rfl (lv_at hl 0 rfl) ?_
    refine va_get (D := D) (ci := 3) (C := RX3) (T := TX3) (N := 10) hx hb htb inX3 hown hK hP 11 (xw_11 c q σ2) rfl 7 (by decide) (htb _ tb_210) (fun _ h9 => h9) rfl dX3_atNewThing_10 ?_
    refine lv_aload_n hx hb dX3_atNewThing_13 rfl (lv_at hl 0 rfl) ?_
    refine va_get (D := D) (ci := 3) (C := RX3) (T := TX3) (N := 10) hx hb htb inX3 hown hK hP 11 (xw_11 c q σ2) rfl 1 (by decide) (htb _ tb_202) (fun _ h9 => h9) rfl dX3_atNewThing_14 ?_
    refine va_getN (D := D) (ci := 1) (C := RX1) (T := TX1) (N := 12) hx hb htb inX1 hown hK hP 13 (xw_13 c q σ2) rfl 0 (by decide) (htb _ tb_131) (fun _ h9 => h9) rfl dX3_atNewThing_17 ?_
    refine lv_icmp_lt (tgt := 29) hx hb dX3_atNewThing_20 (by decide) (fun c4 => ?_) (fun c4 => ?_)
    · have hw := hw.1 c4
      refine lv_iload_n hx hb dX3_atNewThing_29 rfl (lv_at hl 1 rfl) ?_
      refine lv_aload_n hx hb dX3_atNewThing_30 rfl (lv_at hl 0 rfl) ?_
      refine va_get (D := D) (ci := 3) (C := RX3) (T := TX3) (N := 10) hx hb htb inX3 hown hK hP 11 (xw_11 c q σ2) rfl 7 (by decide) (htb _ tb_210) (fun _ h9 => h9) rfl dX3_atNewThing_31 ?_
      refine lv_ishr hx hb dX3_atNewThing_34 ?_
      refine lv_iconst (v := (1 : Int32)) hx hb dX3_atNewThing_35 (by decide) ?_
      refine lv_iand hx hb dX3_atNewThing_36 ?_
      refine lv_if_eq (tgt := 48) hx hb dX3_atNewThing_37 (by decide) (fun c5 => ?_) (fun c5 => ?_)
      · have hw := hw.1 c5
        refine lv_iconst (v := (1 : Int32)) hx hb dX3_atNewThing_48 (by decide) ?_
        refine lv_goto (tgt := 53) hx hb dX3_atNewThing_49 (by decide) ?_
        exact W.zret hx hb hr rfl (fun t ht hW => ⟨⟨_, σ2, rfl, hw, by unfold wdB; rw [ht]; exact hP⟩, hS.F ht⟩) hS.2.2 dX3_atNewThing_53
      · have hw := hw.2 c5
        refine lv_aload_n hx hb dX3_atNewThing_40 rfl (lv_at hl 0 rfl) ?_
        refine lv_iconst (v := (4 : Int32)) hx hb dX3_atNewThing_41 (by decide) ?_
        refine va_calli (va_runV (As := [.int (4 : Int32)]) (rest := []) ⟨hx, hb, hml, hown, htb⟩ (kcX3_fail_11 l D c q ev hev σ2 (4 : Int32) _ hw) (tb_CW htb kX3_fail tb_798 tb_800 tb_19 ⟨Nat.le_of_ble_eq_true rfl, Nat.le_of_ble_eq_true rfl⟩) (wd_preV (wd := xw c q) (k := 11) hev hK hP hD hE hS (xw_11 c q σ2) rfl) rfl rfl hl.1 rfl (lv_room (Nat.le_of_ble_eq_true rfl)) dX3_atNewThing_42 ⟨Nat.zero_le _, Nat.zero_le _⟩) hS (fun q _ h => h) (fun q h => h) (fun r6 σ7 t H1 locs1 ht hvm hw hB hz1 hk1 hS => ?_)
        have hP : va_P D vwCl (xw c q σ7) H1 := ht ▸ hB
        have hD : va_D (wdA 36 q) (xw c q σ7) := xw_D hD0
        refine lv_if_eq (tgt := 52) hx hb dX3_atNewThing_45 (by decide) (fun c8 => ?_) (fun c8 => ?_)
        · have hw := hw.1 c8
          refine lv_iconst (v := (0 : Int32)) hx hb dX3_atNewThing_52 (by decide) ?_
          exact W.zret hx hb hr rfl (fun t ht hW => ⟨⟨_, σ7, rfl, hw, by unfold wdB; rw [ht]; exact hP⟩, hS.F ht⟩) hS.2.2 dX3_atNewThing_53
        · have hw := hw.2 c8
          refine lv_iconst (v := (1 : Int32)) hx hb dX3_atNewThing_48 (by decide) ?_
          refine lv_goto (tgt := 53) hx hb dX3_atNewThing_49 (by decide) ?_
          exact W.zret hx hb hr rfl (fun t ht hW => ⟨⟨_, σ7, rfl, hw, by unfold wdB; rw [ht]; exact hP⟩, hS.F ht⟩) hS.2.2 dX3_atNewThing_53
    · have hw := hw.2 c4
      refine lv_aload_n hx hb dX3_atNewThing_23 rfl (lv_at hl 0 rfl) ?_
      refine lv_iconst (v := (3 : Int32)) hx hb dX3_atNewThing_24 (by decide) ?_
      refine va_calli (va_runV (As := [.int (3 : Int32)]) (rest := []) ⟨hx, hb, hml, hown, htb⟩ (kcX3_fail_11 l D c q ev hev σ2 (3 : Int32) _ hw) (tb_CW htb kX3_fail tb_798 tb_800 tb_19 ⟨Nat.le_of_ble_eq_true rfl, Nat.le_of_ble_eq_true rfl⟩) (wd_preV (wd := xw c q) (k := 11) hev hK hP hD hE hS (xw_11 c q σ2) rfl) rfl rfl hl.1 rfl (lv_room (Nat.le_of_ble_eq_true rfl)) dX3_atNewThing_25 ⟨Nat.zero_le _, Nat.zero_le _⟩) hS (fun q _ h => h) (fun q h => h) (fun r9 σ10 t H1 locs1 ht hvm hw hB hz1 hk1 hS => ?_)
      have hP : va_P D vwCl (xw c q σ10) H1 := ht ▸ hB
      have hD : va_D (wdA 36 q) (xw c q σ10) := xw_D hD0
      have hq := hw.2
      exact W.zret hx hb hr (nar_b hw.1) (fun t ht hW => ⟨⟨_, σ10, rfl, hq, by unfold wdB; rw [ht]; exact hP⟩, hS.F ht⟩) hS.2.2 dX3_atNewThing_28
  · have hw := hw.1 c3
    refine lv_iconst (v := (0 : Int32)) hx hb dX3_atNewThing_7 (by decide) ?_
    exact W.zret hx hb hr rfl (fun t ht hW => ⟨⟨_, σ2, rfl, hw, by unfold wdB; rw [ht]; exact hP⟩, hS.F ht⟩) hS.2.2 dX3_atNewThing_8
def wX1_putPlace (b0 : Nat) (x1 : Int32) (x2 : Int32) (x3 : Int32) (post : hsS → Prop) (σ : hsS) : Prop := vp_in ((x1 * (9 : Int32)) + x2) 72 ∧ ∀ σ1 : hsS, σ1 = hsA σ (b0 + 2) (upd (σ.2.1 (b0 + 2)) ((x1 * (9 : Int32)) + x2).toNatClampNeg x3) → post σ1
set_option maxHeartbeats 4000000 in
set_option maxRecDepth 100000 in
theorem kcX1_putPlace_13 (l : Launch) (D : va_G) (c : Nat → ClassId) (q : Nat → Nat) (ev : State → Heap → Prop) (hev : evOK (wdA 36 q) ev) (σ : hsS) (x1 : Int32) (x2 : Int32) (x3 : Int32) (post : hsS → Prop) (hw : wX1_putPlace 13 x1 x2 x3 post σ) : Met l yX1_putPlace (Cond.code yX1_putPlace cX1_putPlace 4 none :: tb_L) { frames := 0, cells := 0, slots := 0, locals := 0 } (wdPc D (xw c q) (xwT c) (wdA 36 q) ev σ [.ref (q 13), .int x1, .int x2, .int x3]) (va_Qv post (wdB D (xw c q)) (wdA 36 q)) 0 0 (wdA 36 q) := by
  refine Met.ofW (cc := cX1_putPlace) (maxL := 4) (ret := none) (by decide) rfl ?_
  intro p e s m args below meth c₀ s₁ Bd hml hv
  obtain ⟨rfl, hP, hK, hD0, hE⟩ := hv
  have hx := Bd.exec
  have hb := Bd.bytes
  have hr := Bd.returns
  have hts := atoms_spec (ws := Cond.code yX1_putPlace cX1_putPlace 4 none :: tb_L) Bd.pre
  have htb : ∀ w ∈ tb_L, w.before [.ref (q 13), .int x1, .int x2, .int x3].toArray s = true := fun w h => hts w (List.mem_cons_of_mem _ h)
  have hown : s.vm.findClass RX1 = some m.cls := findClass_of_methodNamed Bd.named
  have hlocks := Bd.notSynchronized
  have hS : va_S (wdA 36 q) s.heap s.heap [] := va_S.rf
  have hD := hD0
  have hl := lv_entry ([.ref (q 13), .int x1, .int x2, .int x3]) (n := 4) (Nat.le_of_ble_eq_true rfl)
  rw [lg_entry_eq]
  generalize (lg_sl ([.ref (q 13), .int x1, .int x2, .int x3]) ++ List.replicate (4 - (lg_sl ([.ref (q 13), .int x1, .int x2, .int x3])).length) Slot.unset).toArray = ls at hl ⊢
  have hl : lv_has ls 4 [(0, .ref (q 13)), (1, .int x1), (2, .int x2), (3, .int x3)] := hl
  unfold wX1_putPlace at hw
  refine lv_aload_n hx hb dX1_putPlace_0 rfl (lv_at hl 0 rfl) ?_
  refine va_get (D := D) (ci := 1) (C := RX1) (T := TX1) (N := 12) hx hb htb inX1 hown hK hP 13 (xw_13 c q σ) rfl 9 (by decide) (htb _ tb_158) (fun _ h9 => h9) rfl dX1_putPlace_1 ?_
  refine lv_iload_n hx hb dX1_putPlace_4 rfl (lv_at hl 1 rfl) ?_
  refine lv_bipush (v := (9 : Int32)) hx hb dX1_putPlace_5 (by decide) ?_
  refine lv_imul hx hb dX1_putPlace_7 ?_
  refine lv_iload_n hx hb dX1_putPlace_8 rfl (lv_at hl 2 rfl) ?_
  refine lv_iadd hx hb dX1_putPlace_9 ?_
  refine lv_iload_n hx hb dX1_putPlace_10 rfl (lv_at hl 3 rfl) ?_
  refine va_iast hx hb hK hP hD hS 15 10 (xw_15 c q σ) rfl hw.1 dX1_putPlace_11 (fun H locs hP hD hS => ?_)
  have hw := hw.2
  have hP : va_P D vwCl (xw c q (hsA σ 15 (upd (σ.2.1 15) ((x1 * (9 : Int32)) + x2).toNatClampNeg x3))) H := hP
  obtain ⟨σ1, eσ1⟩ : ∃ z : hsS, z = hsA σ 15 (upd (σ.2.1 15) ((x1 * (9 : Int32)) + x2).toNatClampNeg x3) := ⟨_, rfl⟩
  rw [← eσ1] at hP
  have hD : va_D (wdA 36 q) (xw c q σ1) := xw_D hD0
  have hw := hw σ1 eσ1
  exact W.vret hx hb hr (fun t ht hW => ⟨⟨σ1, rfl, hw, by unfold wdB; rw [ht]; exact hP⟩, hS.F ht⟩) hS.2.2 dX1_putPlace_12
def wJ6_bitCount_0f7a4 (x0 : Int32) (post : Int32 → hsS → Prop) (σ : hsS) : Prop := ∀ v1 : Int32, v1 = x0 - (((x0.toUInt32 >>> ((1 : Int32).toUInt32 &&& Int32.toUInt32 31)).toInt32) &&& (1431655765 : Int32)) → ∀ v2 : Int32, v2 = (v1 &&& (858993459 : Int32)) + (((v1.toUInt32 >>> ((2 : Int32).toUInt32 &&& Int32.toUInt32 31)).toInt32) &&& (858993459 : Int32)) → ∀ v3 : Int32, v3 = (v2 + ((v2.toUInt32 >>> ((4 : Int32).toUInt32 &&& Int32.toUInt32 31)).toInt32)) &&& (252645135 : Int32) → ∀ v4 : Int32, v4 = v3 + ((v3.toUInt32 >>> ((8 : Int32).toUInt32 &&& Int32.toUInt32 31)).toInt32) → ∀ v5 : Int32, v5 = v4 + ((v4.toUInt32 >>> ((16 : Int32).toUInt32 &&& Int32.toUInt32 31)).toInt32) → post (v5 &&& (63 : Int32)) σ
set_option maxHeartbeats 4000000 in
set_option maxRecDepth 100000 in
theorem kcJ6_bitCount_0f7a4_x (l : Launch) (D : va_G) (c : Nat → ClassId) (q : Nat → Nat) (ev : State → Heap → Prop) (hev : evOK (wdA 36 q) ev) (σ : hsS) (x0 : Int32) (post : Int32 → hsS → Prop) (hw : wJ6_bitCount_0f7a4 x0 post σ) : Met l yJ6_bitCount_0f7a4 (Cond.code yJ6_bitCount_0f7a4 cJ6_bitCount_0f7a4 1 (some .int) :: tb_L) { frames := 0, cells := 0, slots := 0, locals := 0 } (wdPc D (xw c q) (xwT c) (wdA 36 q) ev σ [.int x0]) (va_Qi post (wdB D (xw c q)) (wdA 36 q)) 0 0 (wdA 36 q) := by
  refine Met.ofW (cc := cJ6_bitCount_0f7a4) (maxL := 1) (ret := (some .int)) (by decide) rfl ?_
  intro p e s m args below meth c₀ s₁ Bd hml hv
  obtain ⟨rfl, hP, hK, hD0, hE⟩ := hv
  have hx := Bd.exec
  have hb := Bd.bytes
  have hr := Bd.returns
  have hts := atoms_spec (ws := Cond.code yJ6_bitCount_0f7a4 cJ6_bitCount_0f7a4 1 (some .int) :: tb_L) Bd.pre
  have htb : ∀ w ∈ tb_L, w.before [.int x0].toArray s = true := fun w h => hts w (List.mem_cons_of_mem _ h)
  have hown : s.vm.findClass RJ6 = some m.cls := findClass_of_methodNamed Bd.named
  have hlocks := Bd.notSynchronized
  have hS : va_S (wdA 36 q) s.heap s.heap [] := va_S.rf
  have hD := hD0
  have hl := lv_entry ([.int x0]) (n := 1) (Nat.le_of_ble_eq_true rfl)
  rw [lg_entry_eq]
  generalize (lg_sl ([.int x0]) ++ List.replicate (1 - (lg_sl ([.int x0])).length) Slot.unset).toArray = ls at hl ⊢
  have hl : lv_has ls 1 [(0, .int x0)] := hl
  unfold wJ6_bitCount_0f7a4 at hw
  refine lv_iload_n hx hb dJ6_bitCount_0f7a4_0 rfl (lv_at hl 0 rfl) ?_
  refine lv_iload_n hx hb dJ6_bitCount_0f7a4_1 rfl (lv_at hl 0 rfl) ?_
  refine lv_iconst (v := (1 : Int32)) hx hb dJ6_bitCount_0f7a4_2 (by decide) ?_
  refine lv_iushr hx hb dJ6_bitCount_0f7a4_3 rfl ?_
  refine lv_ldcw hx hb hown (htb _ tb_409) dJ6_bitCount_0f7a4_4 ?_
  refine lv_iand hx hb dJ6_bitCount_0f7a4_7 ?_
  refine lv_isub hx hb dJ6_bitCount_0f7a4_8 ?_
  refine lv_topi (fun v1 ev1 => ?_)
  have hw := hw v1 ev1
  refine lv_istore_n (lv' := [(0, .int v1)]) hx hb dJ6_bitCount_0f7a4_9 rfl hl (by decide) rfl (fun ls hl => ?_)
  refine lv_iload_n hx hb dJ6_bitCount_0f7a4_10 rfl (lv_at hl 0 rfl) ?_
  refine lv_ldcw hx hb hown (htb _ tb_410) dJ6_bitCount_0f7a4_11 ?_
  refine lv_iand hx hb dJ6_bitCount_0f7a4_14 ?_
  refine lv_iload_n hx hb dJ6_bitCount_0f7a4_15 rfl (lv_at hl 0 rfl) ?_
  refine lv_iconst (v := (2 : Int32)) hx hb dJ6_bitCount_0f7a4_16 (by decide) ?_
  refine lv_iushr hx hb dJ6_bitCount_0f7a4_17 rfl ?_
  refine lv_ldcw hx hb hown (htb _ tb_410) dJ6_bitCount_0f7a4_18 ?_
  refine lv_iand hx hb dJ6_bitCount_0f7a4_21 ?_
  refine lv_iadd hx hb dJ6_bitCount_0f7a4_22 ?_
  refine lv_topi (fun v2 ev2 => ?_)
  have hw := hw v2 ev2
  refine lv_istore_n (lv' := [(0, .int v2)]) hx hb dJ6_bitCount_0f7a4_23 rfl hl (by decide) rfl (fun ls hl => ?_)
  refine lv_iload_n hx hb dJ6_bitCount_0f7a4_24 rfl (lv_at hl 0 rfl) ?_
  refine lv_iload_n hx hb dJ6_bitCount_0f7a4_25 rfl (lv_at hl 0 rfl) ?_
  refine lv_iconst (v := (4 : Int32)) hx hb dJ6_bitCount_0f7a4_26 (by decide) ?_
  refine lv_iushr hx hb dJ6_bitCount_0f7a4_27 rfl ?_
  refine lv_iadd hx hb dJ6_bitCount_0f7a4_28 ?_
  refine lv_ldcw hx hb hown (htb _ tb_411) dJ6_bitCount_0f7a4_29 ?_
  refine lv_iand hx hb dJ6_bitCount_0f7a4_32 ?_
  refine lv_topi (fun v3 ev3 => ?_)
  have hw := hw v3 ev3
  refine lv_istore_n (lv' := [(0, .int v3)]) hx hb dJ6_bitCount_0f7a4_33 rfl hl (by decide) rfl (fun ls hl => ?_)
  refine lv_iload_n hx hb dJ6_bitCount_0f7a4_34 rfl (lv_at hl 0 rfl) ?_
  refine lv_iload_n hx hb dJ6_bitCount_0f7a4_35 rfl (lv_at hl 0 rfl) ?_
  refine lv_bipush (v := (8 : Int32)) hx hb dJ6_bitCount_0f7a4_36 (by decide) ?_
  refine lv_iushr hx hb dJ6_bitCount_0f7a4_38 rfl ?_
  refine lv_iadd hx hb dJ6_bitCount_0f7a4_39 ?_
  refine lv_topi (fun v4 ev4 => ?_)
  have hw := hw v4 ev4
  refine lv_istore_n (lv' := [(0, .int v4)]) hx hb dJ6_bitCount_0f7a4_40 rfl hl (by decide) rfl (fun ls hl => ?_)
  refine lv_iload_n hx hb dJ6_bitCount_0f7a4_41 rfl (lv_at hl 0 rfl) ?_
  refine lv_iload_n hx hb dJ6_bitCount_0f7a4_42 rfl (lv_at hl 0 rfl) ?_
  refine lv_bipush (v := (16 : Int32)) hx hb dJ6_bitCount_0f7a4_43 (by decide) ?_
  refine lv_iushr hx hb dJ6_bitCount_0f7a4_45 rfl ?_
  refine lv_iadd hx hb dJ6_bitCount_0f7a4_46 ?_
  refine lv_topi (fun v5 ev5 => ?_)
  have hw := hw v5 ev5
  refine lv_istore_n (lv' := [(0, .int v5)]) hx hb dJ6_bitCount_0f7a4_47 rfl hl (by decide) rfl (fun ls hl => ?_)
  refine lv_iload_n hx hb dJ6_bitCount_0f7a4_48 rfl (lv_at hl 0 rfl) ?_
  refine lv_bipush (v := (63 : Int32)) hx hb dJ6_bitCount_0f7a4_49 (by decide) ?_
  refine lv_iand hx hb dJ6_bitCount_0f7a4_51 ?_
  exact W.iret hx hb hr (fun t ht hW => ⟨⟨_, σ, rfl, hw, by unfold wdB; rw [ht]; exact hP⟩, hS.F ht⟩) hS.2.2 dJ6_bitCount_0f7a4_52
def wX3_readOrder_L15 (b0 : Nat) (z1 : Int32) (K39 : Int32 → Int32 → Int32 → Int32 → hsS → Prop) (K112 : Int32 → Int32 → Int32 → Int32 → hsS → Prop) (post : Int32 → hsS → Prop) : Nat → Int32 → Int32 → Int32 → Int32 → hsS → Prop
  | 0, _, _, _, _, _ => False
  | n + 1, y2, y3, y4, y5, σ => (((9 : Int32) < y5 → K112 y2 y3 y4 y5 σ) ∧ (¬ (9 : Int32) < y5 → ((y4 = (0 : Int32) → K112 y2 y3 y4 y5 σ) ∧ (¬ y4 = (0 : Int32) → wX3_next b0 (fun σ6 => wX3_atNewThing b0 y2 (fun r7 σ8 => ((r7 = (0 : Int32) → K39 y2 y3 y4 y5 σ8) ∧ (¬ r7 = (0 : Int32) → wX1_putPlace (b0 + 2) z1 (σ8.1 (64 * b0 + 7)) y3 (fun σ11 => ∀ v12 : Int32, v12 = y2 ||| ((1 : Int32) <<< ((σ11.1 (64 * b0 + 7)) &&& 31)) → wX3_next b0 (fun σ14 => wX3_isWord b0 4 (fun r15 σ16 => ((r15 = (0 : Int32) → wX3_isWord b0 4 (fun r18 σ19 => ((r18 = (0 : Int32) → wX3_isWord b0 5 (fun r21 σ22 => ((r21 = (0 : Int32) → ∀ v24 : Int32, v24 = y5 + (1 : Int32) → wX3_readOrder_L15 b0 z1 K39 K112 post n v12 y3 (0 : Int32) v24 σ22) ∧ (¬ r21 = (0 : Int32) → ∀ v25 : Int32, v25 = y5 + (1 : Int32) → wX3_readOrder_L15 b0 z1 K39 K112 post n v12 y3 (1 : Int32) v25 σ22))) σ19) ∧ (¬ r18 = (0 : Int32) → ∀ v26 : Int32, v26 = y5 + (1 : Int32) → wX3_readOrder_L15 b0 z1 K39 K112 post n v12 y3 (1 : Int32) v26 σ19))) σ16) ∧ (¬ r15 = (0 : Int32) → wJ6_bitCount_0f7a4 v12 (fun r27 σ28 => wX3_isWord b0 4 (fun r29 σ30 => ((r29 = (0 : Int32) → wX3_isWord b0 5 (fun r32 σ33 => ((r32 = (0 : Int32) → ∀ v35 : Int32, v35 = y5 + (1 : Int32) → wX3_readOrder_L15 b0 z1 K39 K112 post n v12 r27 (0 : Int32) v35 σ33) ∧ (¬ r32 = (0 : Int32) → ∀ v36 : Int32, v36 = y5 + (1 : Int32) → wX3_readOrder_L15 b0 z1 K39 K112 post n v12 r27 (1 : Int32) v36 σ33))) σ30) ∧ (¬ r29 = (0 : Int32) → ∀ v37 : Int32, v37 = y5 + (1 : Int32) → wX3_readOrder_L15 b0 z1 K39 K112 post n v12 r27 (1 : Int32) v37 σ30))) σ28) σ16))) σ14) σ11) σ8))) σ6) σ))))
def wX3_readOrder_L115 (b0 : Nat) (z1 : Int32) (z2 : Int32) (z3 : Int32) (z4 : Int32) (K156 : Int32 → hsS → Prop) (post : Int32 → hsS → Prop) : Nat → Int32 → hsS → Prop
  | 0, _, _ => False
  | n + 1, y5, σ => (((σ.1 (64 * (b0 + 2) + 0)) ≤ y5 → K156 y5 σ) ∧ (¬ (σ.1 (64 * (b0 + 2) + 0)) ≤ y5 → ((((z2 >>> (y5 &&& 31)) &&& (1 : Int32)) = (0 : Int32) → wJ6_bitCount_0f7a4 z2 (fun r51 σ52 => wX1_putPlace (b0 + 2) z1 y5 r51 (fun σ54 => ∀ v55 : Int32, v55 = y5 + (1 : Int32) → wX3_readOrder_L115 b0 z1 z2 z3 z4 K156 post n v55 σ54) σ52) σ) ∧ (¬ ((z2 >>> (y5 &&& 31)) &&& (1 : Int32)) = (0 : Int32) → ∀ v56 : Int32, v56 = y5 + (1 : Int32) → wX3_readOrder_L115 b0 z1 z2 z3 z4 K156 post n v56 σ))))
def wX3_readOrder (b0 : Nat) (x1 : Int32) (post : Int32 → hsS → Prop) (σ : hsS) : Prop := wX3_isWord b0 3 (fun r1 σ2 => ∃ n38, wX3_readOrder_L15 b0 x1 (fun v39 v40 v41 v42 σ43 => post (0 : Int32) σ43) (fun v44 v45 v46 v47 σ48 => ∃ n57, wX3_readOrder_L115 b0 x1 v44 v45 v46 (fun v58 σ59 => post (1 : Int32) σ59) post n57 (0 : Int32) σ48) post n38 (0 : Int32) (0 : Int32) r1 (0 : Int32) σ2) σ
set_option maxHeartbeats 4000000 in
set_option maxRecDepth 100000 in
theorem kcX3_readOrder_11 (l : Launch) (D : va_G) (c : Nat → ClassId) (q : Nat → Nat) (ev : State → Heap → Prop) (hev : evOK (wdA 36 q) ev) (adK adV : Nat → Nat) (hZ : ∀ (U : State) (H : Heap), ev U H → evS (wdA 36 q) adK adV U H) (σ : hsS) (x1 : Int32) (post : Int32 → hsS → Prop) (hw : wX3_readOrder 11 x1 post σ) : Met l yX3_readOrder (Cond.code yX3_readOrder cX3_readOrder 6 (some .boolean) :: tb_L) { frames := 5, cells := 0, slots := 0, locals := 107 } (wdPc D (xw c q) (xwT c) (wdA 36 q) ev σ [.ref (q 11), .int x1]) (va_Qi post (wdB D (xw c q)) (wdA 36 q)) 0 0 (wdA 36 q) := by
  refine Met.ofW (cc := cX3_readOrder) (maxL := 6) (ret := (some .boolean)) (by decide) rfl ?_
  intro p e s m args below meth c₀ s₁ Bd hml hv
  obtain ⟨rfl, hP, hK, hD0, hE⟩ := hv
  have hx := Bd.exec
  have hb := Bd.bytes
  have hr := Bd.returns
  have hts := atoms_spec (ws := Cond.code yX3_readOrder cX3_readOrder 6 (some .boolean) :: tb_L) Bd.pre
  have htb : ∀ w ∈ tb_L, w.before [.ref (q 11), .int x1].toArray s = true := fun w h => hts w (List.mem_cons_of_mem _ h)
  have hown : s.vm.findClass RX3 = some m.cls := findClass_of_methodNamed Bd.named
  have hlocks := Bd.notSynchronized
  have hS : va_S (wdA 36 q) s.heap s.heap [] := va_S.rf
  have hD := hD0
  have L15 : ∀ (K39 : Int32 → Int32 → Int32 → Int32 → hsS → Prop) (K112 : Int32 → Int32 → Int32 → Int32 → hsS → Prop) (z1 : Int32) (n : Nat) (y2 : Int32) (y3 : Int32) (y4 : Int32) (y5 : Int32) (σ : hsS) (H : Heap) (locs : List Loc) (ls : Array Slot), wX3_readOrder_L15 11 z1 K39 K112 post n y2 y3 y4 y5 σ → (∀ (y2 : Int32) (y3 : Int32) (y4 : Int32) (y5 : Int32) (σ : hsS) (H : Heap) (locs : List Loc) (ls : Array Slot), K39 y2 y3 y4 y5 σ → va_P D vwCl (xw c q σ) H → va_S (wdA 36 q) s.heap H locs → lv_has ls 6 [(0, .ref (q 11)), (1, .int z1), (2, .int y2), (3, .int y3), (4, .int y4), (5, .int y5)] → W p l e (headSpec (Cond.code yX3_readOrder cX3_readOrder 6 (some .boolean) :: tb_L) { frames := 5, cells := 0, slots := 0, locals := 107 }).room s m [.ref (q 11), .int x1].toArray below meth c₀ H locs 0 0 (MQ below (va_Qi post (wdB D (xw c q)) (wdA 36 q)) [.ref (q 11), .int x1].toArray s 0 0 (wdA 36 q)) (F0 m 39 ls [])) → (∀ (y2 : Int32) (y3 : Int32) (y4 : Int32) (y5 : Int32) (σ : hsS) (H : Heap) (locs : List Loc) (ls : Array Slot), K112 y2 y3 y4 y5 σ → va_P D vwCl (xw c q σ) H → va_S (wdA 36 q) s.heap H locs → lv_has ls 6 [(0, .ref (q 11)), (1, .int z1), (2, .int y2), (3, .int y3), (4, .int y4), (5, .int y5)] → W p l e (headSpec (Cond.code yX3_readOrder cX3_readOrder 6 (some .boolean) :: tb_L) { frames := 5, cells := 0, slots := 0, locals := 107 }).room s m [.ref (q 11), .int x1].toArray below meth c₀ H locs 0 0 (MQ below (va_Qi post (wdB D (xw c q)) (wdA 36 q)) [.ref (q 11), .int x1].toArray s 0 0 (wdA 36 q)) (F0 m 112 ls [])) → va_P D vwCl (xw c q σ) H → va_S (wdA 36 q) s.heap H locs → lv_has ls 6 [(0, .ref (q 11)), (1, .int z1), (2, .int y2), (3, .int y3), (4, .int y4), (5, .int y5)] → W p l e (headSpec (Cond.code yX3_readOrder cX3_readOrder 6 (some .boolean) :: tb_L) { frames := 5, cells := 0, slots := 0, locals := 107 }).room s m [.ref (q 11), .int x1].toArray below meth c₀ H locs 0 0 (MQ below (va_Qi post (wdB D (xw c q)) (wdA 36 q)) [.ref (q 11), .int x1].toArray s 0 0 (wdA 36 q)) (F0 m 15 ls []) := by
    intro K39 K112 z1 n
    induction n with
    | zero =>
      intro y2 y3 y4 y5 σ H locs ls hw hk39 hk112 hP hS hl
      exact (show False from hw).elim
    | succ n ih =>
      intro y2 y3 y4 y5 σ H locs ls hw hk39 hk112 hP hS hl
      rw [wX3_readOrder_L15] at hw
      have hD : va_D (wdA 36 q) (xw c q σ) := xw_D hD0
      refine lv_iload hx hb dX3_readOrder_15 (lv_at hl 5 rfl) ?_
      refine lv_bipush (v := (9 : Int32)) hx hb dX3_readOrder_17 (by decide) ?_
      refine lv_icmp_gt (tgt := 112) hx hb dX3_readOrder_19 (by decide) (fun c3 => ?_) (fun c3 => ?_)
      · have hw := hw.1 c3
        exact hk112 y2 y3 y4 y5 σ _ _ _ hw hP hS (lv_sub hl [0, 1, 2, 3, 4, 5] rfl)
      · have hw := hw.2 c3
        refine lv_iload hx hb dX3_readOrder_22 (lv_at hl 4 rfl) ?_
        refine lv_if_eq (tgt := 112) hx hb dX3_readOrder_24 (by decide) (fun c4 => ?_) (fun c4 => ?_)
        · have hw := hw.1 c4
          exact hk112 y2 y3 y4 y5 σ _ _ _ hw hP hS (lv_sub hl [0, 1, 2, 3, 4, 5] rfl)
        · have hw := hw.2 c4
          refine lv_aload_n hx hb dX3_readOrder_27 rfl (lv_at hl 0 rfl) ?_
          refine va_callv (va_runV (As := []) (rest := []) ⟨hx, hb, hml, hown, htb⟩ (kcX3_next_11 l D c q ev hev σ  _ hw) (tb_CW htb kX3_next tb_712 tb_714 tb_12 ⟨Nat.le_of_ble_eq_true rfl, Nat.le_of_ble_eq_true rfl⟩) (wd_preV (wd := xw c q) (k := 11) hev hK hP hD hE hS (xw_11 c q σ) rfl) rfl rfl hl.1 rfl (lv_room (Nat.le_of_ble_eq_true rfl)) dX3_readOrder_28 ⟨Nat.zero_le _, Nat.zero_le _⟩) hS (fun q _ h => h) (fun q h => h) (fun σ6 t H1 locs1 ht hvm hw hB hz1 hk1 hS => ?_)
          have hP : va_P D vwCl (xw c q σ6) H1 := ht ▸ hB
          have hD : va_D (wdA 36 q) (xw c q σ6) := xw_D hD0
          refine lv_aload_n hx hb dX3_readOrder_31 rfl (lv_at hl 0 rfl) ?_
          refine lv_iload_n hx hb dX3_readOrder_32 rfl (lv_at hl 2 rfl) ?_
          refine va_calli (va_runV (As := [.int y2]) (rest := []) ⟨hx, hb, hml, hown, htb⟩ (kcX3_atNewThing_11 l D c q ev hev σ6 y2 _ hw) (tb_CW htb kX3_atNewThing tb_829 tb_831 tb_26 ⟨Nat.le_of_ble_eq_true rfl, Nat.le_of_ble_eq_true rfl⟩) (wd_preV (wd := xw c q) (k := 11) hev hK hP hD hE hS (xw_11 c q σ6) rfl) rfl rfl hl.1 rfl (lv_room (Nat.le_of_ble_eq_true rfl)) dX3_readOrder_33 ⟨Nat.zero_le _, Nat.zero_le _⟩) hS (fun q _ h => h) (fun q h => h) (fun r7 σ8 t H1 locs1 ht hvm hw hB hz1 hk1 hS => ?_)
          have hP : va_P D vwCl (xw c q σ8) H1 := ht ▸ hB
          have hD : va_D (wdA 36 q) (xw c q σ8) := xw_D hD0
          refine lv_if_ne (tgt := 41) hx hb dX3_readOrder_36 (by decide) (fun c9 => ?_) (fun c9 => ?_)
          · have hw := hw.2 c9
            refine lv_aload_n hx hb dX3_readOrder_41 rfl (lv_at hl 0 rfl) ?_
            refine va_get (D := D) (ci := 3) (C := RX3) (T := TX3) (N := 10) hx hb htb inX3 hown hK hP 11 (xw_11 c q σ8) rfl 1 (by decide) (htb _ tb_202) (fun _ h9 => h9) rfl dX3_readOrder_42 ?_
            refine lv_iload_n hx hb dX3_readOrder_45 rfl (lv_at hl 1 rfl) ?_
            refine lv_aload_n hx hb dX3_readOrder_46 rfl (lv_at hl 0 rfl) ?_
            refine va_get (D := D) (ci := 3) (C := RX3) (T := TX3) (N := 10) hx hb htb inX3 hown hK hP 11 (xw_11 c q σ8) rfl 7 (by decide) (htb _ tb_210) (fun _ h9 => h9) rfl dX3_readOrder_47 ?_
            refine lv_iload_n hx hb dX3_readOrder_50 rfl (lv_at hl 3 rfl) ?_
            refine va_callv (va_runV (As := [.int z1, .int (σ8.1 711), .int y3]) (rest := []) ⟨hx, hb, hml, hown, htb⟩ (kcX1_putPlace_13 l D c q ev hev σ8 z1 (σ8.1 711) y3 _ hw) (tb_CW htb kX1_putPlace tb_833 tb_599 tb_600 ⟨Nat.le_of_ble_eq_true rfl, Nat.le_of_ble_eq_true rfl⟩) (wd_preV (wd := xw c q) (k := 13) hev hK hP hD hE hS (xw_13 c q σ8) rfl) rfl rfl hl.1 rfl (lv_room (Nat.le_of_ble_eq_true rfl)) dX3_readOrder_51 ⟨Nat.zero_le _, Nat.zero_le _⟩) hS (fun q _ h => h) (fun q h => h) (fun σ11 t H1 locs1 ht hvm hw hB hz1 hk1 hS => ?_)
            have hP : va_P D vwCl (xw c q σ11) H1 := ht ▸ hB
            have hD : va_D (wdA 36 q) (xw c q σ11) := xw_D hD0
            refine lv_iload_n hx hb dX3_readOrder_54 rfl (lv_at hl 2 rfl) ?_
            refine lv_iconst (v := (1 : Int32)) hx hb dX3_readOrder_55 (by decide) ?_
            refine lv_aload_n hx hb dX3_readOrder_56 rfl (lv_at hl 0 rfl) ?_
            refine va_get (D := D) (ci := 3) (C := RX3) (T := TX3) (N := 10) hx hb htb inX3 hown hK hP 11 (xw_11 c q σ11) rfl 7 (by decide) (htb _ tb_210) (fun _ h9 => h9) rfl dX3_readOrder_57 ?_
            refine lv_ishl hx hb dX3_readOrder_60 ?_
            refine lv_ior hx hb dX3_readOrder_61 ?_
            refine lv_topi (fun v12 ev12 => ?_)
            have hw := hw v12 ev12
            refine lv_istore_n (lv' := [(2, .int v12), (0, .ref (q 11)), (1, .int z1), (3, .int y3), (4, .int y4), (5, .int y5)]) hx hb dX3_readOrder_62 rfl hl (by decide) rfl (fun ls hl => ?_)
            refine lv_aload_n hx hb dX3_readOrder_63 rfl (lv_at hl 1 rfl) ?_
            refine va_callv (va_runV (As := []) (rest := []) ⟨hx, hb, hml, hown, htb⟩ (kcX3_next_11 l D c q ev hev σ11  _ hw) (tb_CW htb kX3_next tb_712 tb_714 tb_12 ⟨Nat.le_of_ble_eq_true rfl, Nat.le_of_ble_eq_true rfl⟩) (wd_preV (wd := xw c q) (k := 11) hev hK hP hD hE hS (xw_11 c q σ11) rfl) rfl rfl hl.1 rfl (lv_room (Nat.le_of_ble_eq_true rfl)) dX3_readOrder_64 ⟨Nat.zero_le _, Nat.zero_le _⟩) hS (fun q _ h => h) (fun q h => h) (fun σ14 t H1 locs1 ht hvm hw hB hz1 hk1 hS => ?_)
            have hP : va_P D vwCl (xw c q σ14) H1 := ht ▸ hB
            have hD : va_D (wdA 36 q) (xw c q σ14) := xw_D hD0
            refine lv_aload_n hx hb dX3_readOrder_67 rfl (lv_at hl 1 rfl) ?_
            refine va_ldcS hx hb hown ((hZ s s.heap hE).2.2.2 ("StrikeHall$Reader", 161, "over", 4) (by decide)) dX3_readOrder_68 ?_
            refine va_calli (va_runV (As := [.ref (adK 4)]) (rest := []) ⟨hx, hb, hml, hown, htb⟩ (kcX3_isWord_11_s l D c q ev hev adK adV hZ σ14 4 (by decide) _ hw) (tb_CW htb kX3_isWord tb_746 tb_748 tb_18 ⟨Nat.le_of_ble_eq_true rfl, Nat.le_of_ble_eq_true rfl⟩) (wd_preV (wd := xw c q) (k := 11) hev hK hP hD hE hS (xw_11 c q σ14) rfl) rfl rfl hl.1 rfl (lv_room (Nat.le_of_ble_eq_true rfl)) dX3_readOrder_70 ⟨Nat.zero_le _, Nat.zero_le _⟩) hS (fun q _ h => h) (fun q h => h) (fun r15 σ16 t H1 locs1 ht hvm hw hB hz1 hk1 hS => ?_)
            have hP : va_P D vwCl (xw c q σ16) H1 := ht ▸ hB
            have hD : va_D (wdA 36 q) (xw c q σ16) := xw_D hD0
            refine lv_if_eq (tgt := 81) hx hb dX3_readOrder_73 (by decide) (fun c17 => ?_) (fun c17 => ?_)
            · have hw := hw.1 c17
              refine lv_aload_n hx hb dX3_readOrder_81 rfl (lv_at hl 1 rfl) ?_
              refine va_ldcS hx hb hown ((hZ s s.heap hE).2.2.2 ("StrikeHall$Reader", 161, "over", 4) (by decide)) dX3_readOrder_82 ?_
              refine va_calli (va_runV (As := [.ref (adK 4)]) (rest := []) ⟨hx, hb, hml, hown, htb⟩ (kcX3_isWord_11_s l D c q ev hev adK adV hZ σ16 4 (by decide) _ hw) (tb_CW htb kX3_isWord tb_746 tb_748 tb_18 ⟨Nat.le_of_ble_eq_true rfl, Nat.le_of_ble_eq_true rfl⟩) (wd_preV (wd := xw c q) (k := 11) hev hK hP hD hE hS (xw_11 c q σ16) rfl) rfl rfl hl.1 rfl (lv_room (Nat.le_of_ble_eq_true rfl)) dX3_readOrder_84 ⟨Nat.zero_le _, Nat.zero_le _⟩) hS (fun q _ h => h) (fun q h => h) (fun r18 σ19 t H1 locs1 ht hvm hw hB hz1 hk1 hS => ?_)
              have hP : va_P D vwCl (xw c q σ19) H1 := ht ▸ hB
              have hD : va_D (wdA 36 q) (xw c q σ19) := xw_D hD0
              refine lv_if_ne (tgt := 99) hx hb dX3_readOrder_87 (by decide) (fun c20 => ?_) (fun c20 => ?_)
              · have hw := hw.2 c20
                refine lv_iconst (v := (1 : Int32)) hx hb dX3_readOrder_99 (by decide) ?_
                refine lv_goto (tgt := 104) hx hb dX3_readOrder_100 (by decide) ?_
                refine lv_istore (lv' := [(4, .int (1 : Int32)), (2, .int v12), (0, .ref (q 11)), (1, .int z1), (3, .int y3), (5, .int y5)]) hx hb dX3_readOrder_104 hl (by decide) rfl (fun ls hl => ?_)
                obtain ⟨v26, ev26⟩ : ∃ z : Int32, z = y5 + (1 : Int32) := ⟨_, rfl⟩
                have hw := hw v26 ev26
                refine lv_iinc (v := v26) (lv' := [(5, .int v26), (4, .int (1 : Int32)), (2, .int v12), (0, .ref (q 11)), (1, .int z1), (3, .int y3)]) hx hb dX3_readOrder_106 hl (k := 5) rfl (by rw [ev26]; rfl) (by decide) rfl (fun ls hl => ?_)
                refine lv_goto (tgt := 15) hx hb dX3_readOrder_109 (by decide) ?_
                exact ih v12 y3 (1 : Int32) v26 σ19 _ _ _ hw hk39 hk112 hP hS (lv_sub hl [3, 4, 2, 5, 1, 0] rfl)
              · have hw := hw.1 c20
                refine lv_aload_n hx hb dX3_readOrder_90 rfl (lv_at hl 1 rfl) ?_
                refine va_ldcS hx hb hown ((hZ s s.heap hE).2.2.2 ("StrikeHall$Reader", 168, "and", 5) (by decide)) dX3_readOrder_91 ?_
                refine va_calli (va_runV (As := [.ref (adK 5)]) (rest := []) ⟨hx, hb, hml, hown, htb⟩ (kcX3_isWord_11_s l D c q ev hev adK adV hZ σ19 5 (by decide) _ hw) (tb_CW htb kX3_isWord tb_746 tb_748 tb_18 ⟨Nat.le_of_ble_eq_true rfl, Nat.le_of_ble_eq_true rfl⟩) (wd_preV (wd := xw c q) (k := 11) hev hK hP hD hE hS (xw_11 c q σ19) rfl) rfl rfl hl.1 rfl (lv_room (Nat.le_of_ble_eq_true rfl)) dX3_readOrder_93 ⟨Nat.zero_le _, Nat.zero_le _⟩) hS (fun q _ h => h) (fun q h => h) (fun r21 σ22 t H1 locs1 ht hvm hw hB hz1 hk1 hS => ?_)
                have hP : va_P D vwCl (xw c q σ22) H1 := ht ▸ hB
                have hD : va_D (wdA 36 q) (xw c q σ22) := xw_D hD0
                refine lv_if_eq (tgt := 103) hx hb dX3_readOrder_96 (by decide) (fun c23 => ?_) (fun c23 => ?_)
                · have hw := hw.1 c23
                  refine lv_iconst (v := (0 : Int32)) hx hb dX3_readOrder_103 (by decide) ?_
                  refine lv_istore (lv' := [(4, .int (0 : Int32)), (2, .int v12), (0, .ref (q 11)), (1, .int z1), (3, .int y3), (5, .int y5)]) hx hb dX3_readOrder_104 hl (by decide) rfl (fun ls hl => ?_)
                  obtain ⟨v24, ev24⟩ : ∃ z : Int32, z = y5 + (1 : Int32) := ⟨_, rfl⟩
                  have hw := hw v24 ev24
                  refine lv_iinc (v := v24) (lv' := [(5, .int v24), (4, .int (0 : Int32)), (2, .int v12), (0, .ref (q 11)), (1, .int z1), (3, .int y3)]) hx hb dX3_readOrder_106 hl (k := 5) rfl (by rw [ev24]; rfl) (by decide) rfl (fun ls hl => ?_)
                  refine lv_goto (tgt := 15) hx hb dX3_readOrder_109 (by decide) ?_
                  exact ih v12 y3 (0 : Int32) v24 σ22 _ _ _ hw hk39 hk112 hP hS (lv_sub hl [3, 4, 2, 5, 1, 0] rfl)
                · have hw := hw.2 c23
                  refine lv_iconst (v := (1 : Int32)) hx hb dX3_readOrder_99 (by decide) ?_
                  refine lv_goto (tgt := 104) hx hb dX3_readOrder_100 (by decide) ?_
                  refine lv_istore (lv' := [(4, .int (1 : Int32)), (2, .int v12), (0, .ref (q 11)), (1, .int z1), (3, .int y3), (5, .int y5)]) hx hb dX3_readOrder_104 hl (by decide) rfl (fun ls hl => ?_)
                  obtain ⟨v25, ev25⟩ : ∃ z : Int32, z = y5 + (1 : Int32) := ⟨_, rfl⟩
                  have hw := hw v25 ev25
                  refine lv_iinc (v := v25) (lv' := [(5, .int v25), (4, .int (1 : Int32)), (2, .int v12), (0, .ref (q 11)), (1, .int z1), (3, .int y3)]) hx hb dX3_readOrder_106 hl (k := 5) rfl (by rw [ev25]; rfl) (by decide) rfl (fun ls hl => ?_)
                  refine lv_goto (tgt := 15) hx hb dX3_readOrder_109 (by decide) ?_
                  exact ih v12 y3 (1 : Int32) v25 σ22 _ _ _ hw hk39 hk112 hP hS (lv_sub hl [3, 4, 2, 5, 1, 0] rfl)
            · have hw := hw.2 c17
              refine lv_iload_n hx hb dX3_readOrder_76 rfl (lv_at hl 0 rfl) ?_
              refine va_calli (va_runS (As := [.int v12]) (rest := []) ⟨hx, hb, hml, hown, htb⟩ (kcJ6_bitCount_0f7a4_x l D c q ev hev σ16 v12 _ hw) (tb_CS htb kJ6_bitCount_0f7a4 tb_835 tb_407 ⟨Nat.le_of_ble_eq_true rfl, Nat.le_of_ble_eq_true rfl⟩) (wd_preS (wd := xw c q) hev hK hP hD hE hS) rfl rfl hl.1 rfl (lv_room (Nat.le_of_ble_eq_true rfl)) dX3_readOrder_77 ⟨Nat.zero_le _, Nat.zero_le _⟩) hS (fun q _ h => h) (fun q h => h) (fun r27 σ28 t H1 locs1 ht hvm hw hB hz1 hk1 hS => ?_)
              have hP : va_P D vwCl (xw c q σ28) H1 := ht ▸ hB
              have hD : va_D (wdA 36 q) (xw c q σ28) := xw_D hD0
              refine lv_istore_n (lv' := [(3, .int r27), (2, .int v12), (0, .ref (q 11)), (1, .int z1), (4, .int y4), (5, .int y5)]) hx hb dX3_readOrder_80 rfl hl (by decide) rfl (fun ls hl => ?_)
              refine lv_aload_n hx hb dX3_readOrder_81 rfl (lv_at hl 2 rfl) ?_
              refine va_ldcS hx hb hown ((hZ s s.heap hE).2.2.2 ("StrikeHall$Reader", 161, "over", 4) (by decide)) dX3_readOrder_82 ?_
              refine va_calli (va_runV (As := [.ref (adK 4)]) (rest := []) ⟨hx, hb, hml, hown, htb⟩ (kcX3_isWord_11_s l D c q ev hev adK adV hZ σ28 4 (by decide) _ hw) (tb_CW htb kX3_isWord tb_746 tb_748 tb_18 ⟨Nat.le_of_ble_eq_true rfl, Nat.le_of_ble_eq_true rfl⟩) (wd_preV (wd := xw c q) (k := 11) hev hK hP hD hE hS (xw_11 c q σ28) rfl) rfl rfl hl.1 rfl (lv_room (Nat.le_of_ble_eq_true rfl)) dX3_readOrder_84 ⟨Nat.zero_le _, Nat.zero_le _⟩) hS (fun q _ h => h) (fun q h => h) (fun r29 σ30 t H1 locs1 ht hvm hw hB hz1 hk1 hS => ?_)
              have hP : va_P D vwCl (xw c q σ30) H1 := ht ▸ hB
              have hD : va_D (wdA 36 q) (xw c q σ30) := xw_D hD0
              refine lv_if_ne (tgt := 99) hx hb dX3_readOrder_87 (by decide) (fun c31 => ?_) (fun c31 => ?_)
              · have hw := hw.2 c31
                refine lv_iconst (v := (1 : Int32)) hx hb dX3_readOrder_99 (by decide) ?_
                refine lv_goto (tgt := 104) hx hb dX3_readOrder_100 (by decide) ?_
                refine lv_istore (lv' := [(4, .int (1 : Int32)), (3, .int r27), (2, .int v12), (0, .ref (q 11)), (1, .int z1), (5, .int y5)]) hx hb dX3_readOrder_104 hl (by decide) rfl (fun ls hl => ?_)
                obtain ⟨v37, ev37⟩ : ∃ z : Int32, z = y5 + (1 : Int32) := ⟨_, rfl⟩
                have hw := hw v37 ev37
                refine lv_iinc (v := v37) (lv' := [(5, .int v37), (4, .int (1 : Int32)), (3, .int r27), (2, .int v12), (0, .ref (q 11)), (1, .int z1)]) hx hb dX3_readOrder_106 hl (k := 5) rfl (by rw [ev37]; rfl) (by decide) rfl (fun ls hl => ?_)
                refine lv_goto (tgt := 15) hx hb dX3_readOrder_109 (by decide) ?_
                exact ih v12 r27 (1 : Int32) v37 σ30 _ _ _ hw hk39 hk112 hP hS (lv_sub hl [4, 5, 3, 2, 1, 0] rfl)
              · have hw := hw.1 c31
                refine lv_aload_n hx hb dX3_readOrder_90 rfl (lv_at hl 2 rfl) ?_
                refine va_ldcS hx hb hown ((hZ s s.heap hE).2.2.2 ("StrikeHall$Reader", 168, "and", 5) (by decide)) dX3_readOrder_91 ?_
                refine va_calli (va_runV (As := [.ref (adK 5)]) (rest := []) ⟨hx, hb, hml, hown, htb⟩ (kcX3_isWord_11_s l D c q ev hev adK adV hZ σ30 5 (by decide) _ hw) (tb_CW htb kX3_isWord tb_746 tb_748 tb_18 ⟨Nat.le_of_ble_eq_true rfl, Nat.le_of_ble_eq_true rfl⟩) (wd_preV (wd := xw c q) (k := 11) hev hK hP hD hE hS (xw_11 c q σ30) rfl) rfl rfl hl.1 rfl (lv_room (Nat.le_of_ble_eq_true rfl)) dX3_readOrder_93 ⟨Nat.zero_le _, Nat.zero_le _⟩) hS (fun q _ h => h) (fun q h => h) (fun r32 σ33 t H1 locs1 ht hvm hw hB hz1 hk1 hS => ?_)
                have hP : va_P D vwCl (xw c q σ33) H1 := ht ▸ hB
                have hD : va_D (wdA 36 q) (xw c q σ33) := xw_D hD0
                refine lv_if_eq (tgt := 103) hx hb dX3_readOrder_96 (by decide) (fun c34 => ?_) (fun c34 => ?_)
                · have hw := hw.1 c34
                  refine lv_iconst (v := (0 : Int32)) hx hb dX3_readOrder_103 (by decide) ?_
                  refine lv_istore (lv' := [(4, .int (0 : Int32)), (3, .int r27), (2, .int v12), (0, .ref (q 11)), (1, .int z1), (5, .int y5)]) hx hb dX3_readOrder_104 hl (by decide) rfl (fun ls hl => ?_)
                  obtain ⟨v35, ev35⟩ : ∃ z : Int32, z = y5 + (1 : Int32) := ⟨_, rfl⟩
                  have hw := hw v35 ev35
                  refine lv_iinc (v := v35) (lv' := [(5, .int v35), (4, .int (0 : Int32)), (3, .int r27), (2, .int v12), (0, .ref (q 11)), (1, .int z1)]) hx hb dX3_readOrder_106 hl (k := 5) rfl (by rw [ev35]; rfl) (by decide) rfl (fun ls hl => ?_)
                  refine lv_goto (tgt := 15) hx hb dX3_readOrder_109 (by decide) ?_
                  exact ih v12 r27 (0 : Int32) v35 σ33 _ _ _ hw hk39 hk112 hP hS (lv_sub hl [4, 5, 3, 2, 1, 0] rfl)
                · have hw := hw.2 c34
                  refine lv_iconst (v := (1 : Int32)) hx hb dX3_readOrder_99 (by decide) ?_
                  refine lv_goto (tgt := 104) hx hb dX3_readOrder_100 (by decide) ?_
                  refine lv_istore (lv' := [(4, .int (1 : Int32)), (3, .int r27), (2, .int v12), (0, .ref (q 11)), (1, .int z1), (5, .int y5)]) hx hb dX3_readOrder_104 hl (by decide) rfl (fun ls hl => ?_)
                  obtain ⟨v36, ev36⟩ : ∃ z : Int32, z = y5 + (1 : Int32) := ⟨_, rfl⟩
                  have hw := hw v36 ev36
                  refine lv_iinc (v := v36) (lv' := [(5, .int v36), (4, .int (1 : Int32)), (3, .int r27), (2, .int v12), (0, .ref (q 11)), (1, .int z1)]) hx hb dX3_readOrder_106 hl (k := 5) rfl (by rw [ev36]; rfl) (by decide) rfl (fun ls hl => ?_)
                  refine lv_goto (tgt := 15) hx hb dX3_readOrder_109 (by decide) ?_
                  exact ih v12 r27 (1 : Int32) v36 σ33 _ _ _ hw hk39 hk112 hP hS (lv_sub hl [4, 5, 3, 2, 1, 0] rfl)
          · have hw := hw.1 c9
            exact hk39 y2 y3 y4 y5 σ8 _ _ _ hw hP hS (lv_sub hl [0, 1, 2, 3, 4, 5] rfl)
  have L115 : ∀ (K156 : Int32 → hsS → Prop) (z1 : Int32) (z2 : Int32) (z3 : Int32) (z4 : Int32) (n : Nat) (y5 : Int32) (σ : hsS) (H : Heap) (locs : List Loc) (ls : Array Slot), wX3_readOrder_L115 11 z1 z2 z3 z4 K156 post n y5 σ → (∀ (y5 : Int32) (σ : hsS) (H : Heap) (locs : List Loc) (ls : Array Slot), K156 y5 σ → va_P D vwCl (xw c q σ) H → va_S (wdA 36 q) s.heap H locs → lv_has ls 6 [(0, .ref (q 11)), (1, .int z1), (2, .int z2), (3, .int z3), (4, .int z4), (5, .int y5)] → W p l e (headSpec (Cond.code yX3_readOrder cX3_readOrder 6 (some .boolean) :: tb_L) { frames := 5, cells := 0, slots := 0, locals := 107 }).room s m [.ref (q 11), .int x1].toArray below meth c₀ H locs 0 0 (MQ below (va_Qi post (wdB D (xw c q)) (wdA 36 q)) [.ref (q 11), .int x1].toArray s 0 0 (wdA 36 q)) (F0 m 156 ls [])) → va_P D vwCl (xw c q σ) H → va_S (wdA 36 q) s.heap H locs → lv_has ls 6 [(0, .ref (q 11)), (1, .int z1), (2, .int z2), (3, .int z3), (4, .int z4), (5, .int y5)] → W p l e (headSpec (Cond.code yX3_readOrder cX3_readOrder 6 (some .boolean) :: tb_L) { frames := 5, cells := 0, slots := 0, locals := 107 }).room s m [.ref (q 11), .int x1].toArray below meth c₀ H locs 0 0 (MQ below (va_Qi post (wdB D (xw c q)) (wdA 36 q)) [.ref (q 11), .int x1].toArray s 0 0 (wdA 36 q)) (F0 m 115 ls []) := by
    intro K156 z1 z2 z3 z4 n
    induction n with
    | zero =>
      intro y5 σ H locs ls hw hk156 hP hS hl
      exact (show False from hw).elim
    | succ n ih =>
      intro y5 σ H locs ls hw hk156 hP hS hl
      rw [wX3_readOrder_L115] at hw
      have hD : va_D (wdA 36 q) (xw c q σ) := xw_D hD0
      refine lv_iload hx hb dX3_readOrder_115 (lv_at hl 5 rfl) ?_
      refine lv_aload_n hx hb dX3_readOrder_117 rfl (lv_at hl 0 rfl) ?_
      refine va_get (D := D) (ci := 3) (C := RX3) (T := TX3) (N := 10) hx hb htb inX3 hown hK hP 11 (xw_11 c q σ) rfl 1 (by decide) (htb _ tb_202) (fun _ h9 => h9) rfl dX3_readOrder_118 ?_
      refine va_getN (D := D) (ci := 1) (C := RX1) (T := TX1) (N := 12) hx hb htb inX1 hown hK hP 13 (xw_13 c q σ) rfl 0 (by decide) (htb _ tb_131) (fun _ h9 => h9) rfl dX3_readOrder_121 ?_
      refine lv_icmp_ge (tgt := 156) hx hb dX3_readOrder_124 (by decide) (fun c49 => ?_) (fun c49 => ?_)
      · have hw := hw.1 c49
        exact hk156 y5 σ _ _ _ hw hP hS (lv_sub hl [0, 1, 2, 3, 4, 5] rfl)
      · have hw := hw.2 c49
        refine lv_iload_n hx hb dX3_readOrder_127 rfl (lv_at hl 2 rfl) ?_
        refine lv_iload hx hb dX3_readOrder_128 (lv_at hl 5 rfl) ?_
        refine lv_ishr hx hb dX3_readOrder_130 ?_
        refine lv_iconst (v := (1 : Int32)) hx hb dX3_readOrder_131 (by decide) ?_
        refine lv_iand hx hb dX3_readOrder_132 ?_
        refine lv_if_ne (tgt := 150) hx hb dX3_readOrder_133 (by decide) (fun c50 => ?_) (fun c50 => ?_)
        · have hw := hw.2 c50
          obtain ⟨v56, ev56⟩ : ∃ z : Int32, z = y5 + (1 : Int32) := ⟨_, rfl⟩
          have hw := hw v56 ev56
          refine lv_iinc (v := v56) (lv' := [(5, .int v56), (0, .ref (q 11)), (1, .int z1), (2, .int z2), (3, .int z3), (4, .int z4)]) hx hb dX3_readOrder_150 hl (k := 5) rfl (by rw [ev56]; rfl) (by decide) rfl (fun ls hl => ?_)
          refine lv_goto (tgt := 115) hx hb dX3_readOrder_153 (by decide) ?_
          exact ih v56 σ _ _ _ hw hk156 hP hS (lv_sub hl [1, 2, 3, 4, 5, 0] rfl)
        · have hw := hw.1 c50
          refine lv_aload_n hx hb dX3_readOrder_136 rfl (lv_at hl 0 rfl) ?_
          refine va_get (D := D) (ci := 3) (C := RX3) (T := TX3) (N := 10) hx hb htb inX3 hown hK hP 11 (xw_11 c q σ) rfl 1 (by decide) (htb _ tb_202) (fun _ h9 => h9) rfl dX3_readOrder_137 ?_
          refine lv_iload_n hx hb dX3_readOrder_140 rfl (lv_at hl 1 rfl) ?_
          refine lv_iload hx hb dX3_readOrder_141 (lv_at hl 5 rfl) ?_
          refine lv_iload_n hx hb dX3_readOrder_143 rfl (lv_at hl 2 rfl) ?_
          refine va_calli (va_runS (As := [.int z2]) (rest := [.int y5, .int z1, .ref (q 13)]) ⟨hx, hb, hml, hown, htb⟩ (kcJ6_bitCount_0f7a4_x l D c q ev hev σ z2 _ hw) (tb_CS htb kJ6_bitCount_0f7a4 tb_835 tb_407 ⟨Nat.le_of_ble_eq_true rfl, Nat.le_of_ble_eq_true rfl⟩) (wd_preS (wd := xw c q) hev hK hP hD hE hS) rfl rfl hl.1 rfl (lv_room (Nat.le_of_ble_eq_true rfl)) dX3_readOrder_144 ⟨Nat.zero_le _, Nat.zero_le _⟩) hS (fun q _ h => h) (fun q h => h) (fun r51 σ52 t H1 locs1 ht hvm hw hB hz1 hk1 hS => ?_)
          have hP : va_P D vwCl (xw c q σ52) H1 := ht ▸ hB
          have hD : va_D (wdA 36 q) (xw c q σ52) := xw_D hD0
          refine va_callv (va_runV (As := [.int z1, .int y5, .int r51]) (rest := []) ⟨hx, hb, hml, hown, htb⟩ (kcX1_putPlace_13 l D c q ev hev σ52 z1 y5 r51 _ hw) (tb_CW htb kX1_putPlace tb_833 tb_599 tb_600 ⟨Nat.le_of_ble_eq_true rfl, Nat.le_of_ble_eq_true rfl⟩) (wd_preV (wd := xw c q) (k := 13) hev hK hP hD hE hS (xw_13 c q σ52) rfl) rfl rfl hl.1 rfl (lv_room (Nat.le_of_ble_eq_true rfl)) dX3_readOrder_147 ⟨Nat.zero_le _, Nat.zero_le _⟩) hS (fun q _ h => h) (fun q h => h) (fun σ54 t H1 locs1 ht hvm hw hB hz1 hk1 hS => ?_)
          have hP : va_P D vwCl (xw c q σ54) H1 := ht ▸ hB
          have hD : va_D (wdA 36 q) (xw c q σ54) := xw_D hD0
          obtain ⟨v55, ev55⟩ : ∃ z : Int32, z = y5 + (1 : Int32) := ⟨_, rfl⟩
          have hw := hw v55 ev55
          refine lv_iinc (v := v55) (lv' := [(5, .int v55), (0, .ref (q 11)), (1, .int z1), (2, .int z2), (3, .int z3), (4, .int z4)]) hx hb dX3_readOrder_150 hl (k := 5) rfl (by rw [ev55]; rfl) (by decide) rfl (fun ls hl => ?_)
          refine lv_goto (tgt := 115) hx hb dX3_readOrder_153 (by decide) ?_
          exact ih v55 σ54 _ _ _ hw hk156 hP hS (lv_sub hl [1, 2, 3, 4, 5, 0] rfl)
  have hl := lv_entry ([.ref (q 11), .int x1]) (n := 6) (Nat.le_of_ble_eq_true rfl)
  rw [lg_entry_eq]
  generalize (lg_sl ([.ref (q 11), .int x1]) ++ List.replicate (6 - (lg_sl ([.ref (q 11), .int x1])).length) Slot.unset).toArray = ls at hl ⊢
  have hl : lv_has ls 6 [(0, .ref (q 11)), (1, .int x1)] := hl
  unfold wX3_readOrder at hw
  refine lv_iconst (v := (0 : Int32)) hx hb dX3_readOrder_0 (by decide) ?_
  refine lv_istore_n (lv' := [(2, .int (0 : Int32)), (0, .ref (q 11)), (1, .int x1)]) hx hb dX3_readOrder_1 rfl hl (by decide) rfl (fun ls hl => ?_)
  refine lv_iconst (v := (0 : Int32)) hx hb dX3_readOrder_2 (by decide) ?_
  refine lv_istore_n (lv' := [(3, .int (0 : Int32)), (2, .int (0 : Int32)), (0, .ref (q 11)), (1, .int x1)]) hx hb dX3_readOrder_3 rfl hl (by decide) rfl (fun ls hl => ?_)
  refine lv_aload_n hx hb dX3_readOrder_4 rfl (lv_at hl 2 rfl) ?_
  refine va_ldcS hx hb hown ((hZ s s.heap hE).2.2.2 ("StrikeHall$Reader", 146, "likes", 3) (by decide)) dX3_readOrder_5 ?_
  refine va_calli (va_runV (As := [.ref (adK 3)]) (rest := []) ⟨hx, hb, hml, hown, htb⟩ (kcX3_isWord_11_s l D c q ev hev adK adV hZ σ 3 (by decide) _ hw) (tb_CW htb kX3_isWord tb_746 tb_748 tb_18 ⟨Nat.le_of_ble_eq_true rfl, Nat.le_of_ble_eq_true rfl⟩) (wd_preV (wd := xw c q) (k := 11) hev hK hP hD hE hS (xw_11 c q σ) rfl) rfl rfl hl.1 rfl (lv_room (Nat.le_of_ble_eq_true rfl)) dX3_readOrder_7 ⟨Nat.zero_le _, Nat.zero_le _⟩) hS (fun q _ h => h) (fun q h => h) (fun r1 σ2 t H1 locs1 ht hvm hw hB hz1 hk1 hS => ?_)
  have hP : va_P D vwCl (xw c q σ2) H1 := ht ▸ hB
  have hD : va_D (wdA 36 q) (xw c q σ2) := xw_D hD0
  refine lv_istore (lv' := [(4, .int r1), (3, .int (0 : Int32)), (2, .int (0 : Int32)), (0, .ref (q 11)), (1, .int x1)]) hx hb dX3_readOrder_10 hl (by decide) rfl (fun ls hl => ?_)
  refine lv_iconst (v := (0 : Int32)) hx hb dX3_readOrder_12 (by decide) ?_
  refine lv_istore (lv' := [(5, .int (0 : Int32)), (4, .int r1), (3, .int (0 : Int32)), (2, .int (0 : Int32)), (0, .ref (q 11)), (1, .int x1)]) hx hb dX3_readOrder_13 hl (by decide) rfl (fun ls hl => ?_)
  obtain ⟨n38, hw⟩ := hw
  refine L15 _ _ x1 n38 (0 : Int32) (0 : Int32) r1 (0 : Int32) σ2 _ _ _ hw ?_ ?_ hP hS (lv_sub hl [4, 5, 3, 2, 1, 0] rfl)
  · intro v39 v40 v41 v42 σ43 H locs ls hw hP hS hl
    have hD : va_D (wdA 36 q) (xw c q σ43) := xw_D hD0
    refine lv_iconst (v := (0 : Int32)) hx hb dX3_readOrder_39 (by decide) ?_
    exact W.zret hx hb hr rfl (fun t ht hW => ⟨⟨_, σ43, rfl, hw, by unfold wdB; rw [ht]; exact hP⟩, hS.F ht⟩) hS.2.2 dX3_readOrder_40
  · intro v44 v45 v46 v47 σ48 H locs ls hw hP hS hl
    have hD : va_D (wdA 36 q) (xw c q σ48) := xw_D hD0
    refine lv_iconst (v := (0 : Int32)) hx hb dX3_readOrder_112 (by decide) ?_
    refine lv_istore (lv' := [(5, .int (0 : Int32)), (0, .ref (q 11)), (1, .int x1), (2, .int v44), (3, .int v45), (4, .int v46)]) hx hb dX3_readOrder_113 hl (by decide) rfl (fun ls hl => ?_)
    obtain ⟨n57, hw⟩ := hw
    refine L115 _ x1 v44 v45 v46 n57 (0 : Int32) σ48 _ _ _ hw ?_ hP hS (lv_sub hl [1, 2, 3, 4, 5, 0] rfl)
    intro v58 σ59 H locs ls hw hP hS hl
    have hD : va_D (wdA 36 q) (xw c q σ59) := xw_D hD0
    refine lv_iconst (v := (1 : Int32)) hx hb dX3_readOrder_156 (by decide) ?_
    exact W.zret hx hb hr rfl (fun t ht hW => ⟨⟨_, σ59, rfl, hw, by unfold wdB; rw [ht]; exact hP⟩, hS.F ht⟩) hS.2.2 dX3_readOrder_157
def wX3_readPerson (b0 : Nat) (post : Int32 → hsS → Prop) (σ : hsS) : Prop := (((σ.1 (64 * (b0 + 2) + 1)) < (8 : Int32) → wX3_next b0 (fun σ3 => wX3_passWord b0 2 (fun r4 σ5 => ((r4 = (0 : Int32) → post (0 : Int32) σ5) ∧ (¬ r4 = (0 : Int32) → wX3_atNumberWithin b0 (1 : Int32) (99 : Int32) (fun r7 σ8 => ((r7 = (0 : Int32) → post (0 : Int32) σ8) ∧ (¬ r7 = (0 : Int32) → ∀ v10 : Int32, v10 = σ8.1 (64 * (b0 + 2) + 1) → ∀ σ11 : hsS, σ11 = hsI σ8 (64 * (b0 + 2) + 1) ((σ8.1 (64 * (b0 + 2) + 1)) + (1 : Int32)) → vp_in v10 8 ∧ ∀ σ12 : hsS, σ12 = hsA σ11 (b0 + 3) (upd (σ11.2.1 (b0 + 3)) v10.toNatClampNeg (σ11.1 (64 * b0 + 7))) → ∀ σ13 : hsS, σ13 = hsI σ12 (64 * (b0 + 2) + 2) ((σ12.1 (64 * (b0 + 2) + 2)) + (σ12.1 (64 * b0 + 7))) → wX3_next b0 (fun σ15 => wX3_isWord b0 3 (fun r16 σ17 => ((r16 = (0 : Int32) → wX3_readOrder b0 v10 (fun r19 σ20 => (r19 = 0 ∨ r19 = 1) ∧ post r19 σ20) σ17) ∧ (¬ r16 = (0 : Int32) → ∀ σ21 : hsS, σ21 = hsI σ17 (64 * (b0 + 2) + 7) ((σ17.1 (64 * (b0 + 2) + 7)) ||| ((1 : Int32) <<< (v10 &&& 31))) → wX3_readOrder b0 v10 (fun r22 σ23 => (r22 = 0 ∨ r22 = 1) ∧ post r22 σ23) σ21))) σ15) σ13))) σ5))) σ3) σ) ∧ (¬ (σ.1 (64 * (b0 + 2) + 1)) < (8 : Int32) → wX3_fail b0 (2 : Int32) (fun r24 σ25 => (r24 = 0 ∨ r24 = 1) ∧ post r24 σ25) σ))
set_option maxHeartbeats 4000000 in
set_option maxRecDepth 100000 in
theorem kcX3_readPerson_11 (l : Launch) (D : va_G) (c : Nat → ClassId) (q : Nat → Nat) (ev : State → Heap → Prop) (hev : evOK (wdA 36 q) ev) (adK adV : Nat → Nat) (hZ : ∀ (U : State) (H : Heap), ev U H → evS (wdA 36 q) adK adV U H) (σ : hsS)  (post : Int32 → hsS → Prop) (hw : wX3_readPerson 11 post σ) : Met l yX3_readPerson (Cond.code yX3_readPerson cX3_readPerson 2 (some .boolean) :: tb_L) { frames := 6, cells := 0, slots := 0, locals := 132 } (wdPc D (xw c q) (xwT c) (wdA 36 q) ev σ [.ref (q 11)]) (va_Qi post (wdB D (xw c q)) (wdA 36 q)) 0 0 (wdA 36 q) := by
  refine Met.ofW (cc := cX3_readPerson) (maxL := 2) (ret := (some .boolean)) (by decide) rfl ?_
  intro p e s m args below meth c₀ s₁ Bd hml hv
  obtain ⟨rfl, hP, hK, hD0, hE⟩ := hv
  have hx := Bd.exec
  have hb := Bd.bytes
  have hr := Bd.returns
  have hts := atoms_spec (ws := Cond.code yX3_readPerson cX3_readPerson 2 (some .boolean) :: tb_L) Bd.pre
  have htb : ∀ w ∈ tb_L, w.before [.ref (q 11)].toArray s = true := fun w h => hts w (List.mem_cons_of_mem _ h)
  have hown : s.vm.findClass RX3 = some m.cls := findClass_of_methodNamed Bd.named
  have hlocks := Bd.notSynchronized
  have hS : va_S (wdA 36 q) s.heap s.heap [] := va_S.rf
  have hD := hD0
  have hl := lv_entry ([.ref (q 11)]) (n := 2) (Nat.le_of_ble_eq_true rfl)
  rw [lg_entry_eq]
  generalize (lg_sl ([.ref (q 11)]) ++ List.replicate (2 - (lg_sl ([.ref (q 11)])).length) Slot.unset).toArray = ls at hl ⊢
  have hl : lv_has ls 2 [(0, .ref (q 11))] := hl
  unfold wX3_readPerson at hw
  refine lv_aload_n hx hb dX3_readPerson_0 rfl (lv_at hl 0 rfl) ?_
  refine va_get (D := D) (ci := 3) (C := RX3) (T := TX3) (N := 10) hx hb htb inX3 hown hK hP 11 (xw_11 c q σ) rfl 1 (by decide) (htb _ tb_202) (fun _ h9 => h9) rfl dX3_readPerson_1 ?_
  refine va_getN (D := D) (ci := 1) (C := RX1) (T := TX1) (N := 12) hx hb htb inX1 hown hK hP 13 (xw_13 c q σ) rfl 1 (by decide) (htb _ tb_137) (fun _ h9 => h9) rfl dX3_readPerson_4 ?_
  refine lv_bipush (v := (8 : Int32)) hx hb dX3_readPerson_7 (by decide) ?_
  refine lv_icmp_lt (tgt := 18) hx hb dX3_readPerson_9 (by decide) (fun c1 => ?_) (fun c1 => ?_)
  · have hw := hw.1 c1
    refine lv_aload_n hx hb dX3_readPerson_18 rfl (lv_at hl 0 rfl) ?_
    refine va_callv (va_runV (As := []) (rest := []) ⟨hx, hb, hml, hown, htb⟩ (kcX3_next_11 l D c q ev hev σ  _ hw) (tb_CW htb kX3_next tb_712 tb_714 tb_12 ⟨Nat.le_of_ble_eq_true rfl, Nat.le_of_ble_eq_true rfl⟩) (wd_preV (wd := xw c q) (k := 11) hev hK hP hD hE hS (xw_11 c q σ) rfl) rfl rfl hl.1 rfl (lv_room (Nat.le_of_ble_eq_true rfl)) dX3_readPerson_19 ⟨Nat.zero_le _, Nat.zero_le _⟩) hS (fun q _ h => h) (fun q h => h) (fun σ3 t H1 locs1 ht hvm hw hB hz1 hk1 hS => ?_)
    have hP : va_P D vwCl (xw c q σ3) H1 := ht ▸ hB
    have hD : va_D (wdA 36 q) (xw c q σ3) := xw_D hD0
    refine lv_aload_n hx hb dX3_readPerson_22 rfl (lv_at hl 0 rfl) ?_
    refine va_ldcS hx hb hown ((hZ s s.heap hE).2.2.2 ("StrikeHall$Reader", 137, "weight", 2) (by decide)) dX3_readPerson_23 ?_
    refine va_calli (va_runV (As := [.ref (adK 2)]) (rest := []) ⟨hx, hb, hml, hown, htb⟩ (kcX3_passWord_11_s l D c q ev hev adK adV hZ σ3 2 (by decide) _ hw) (tb_CW htb kX3_passWord tb_742 tb_744 tb_17 ⟨Nat.le_of_ble_eq_true rfl, Nat.le_of_ble_eq_true rfl⟩) (wd_preV (wd := xw c q) (k := 11) hev hK hP hD hE hS (xw_11 c q σ3) rfl) rfl rfl hl.1 rfl (lv_room (Nat.le_of_ble_eq_true rfl)) dX3_readPerson_25 ⟨Nat.zero_le _, Nat.zero_le _⟩) hS (fun q _ h => h) (fun q h => h) (fun r4 σ5 t H1 locs1 ht hvm hw hB hz1 hk1 hS => ?_)
    have hP : va_P D vwCl (xw c q σ5) H1 := ht ▸ hB
    have hD : va_D (wdA 36 q) (xw c q σ5) := xw_D hD0
    refine lv_if_eq (tgt := 41) hx hb dX3_readPerson_28 (by decide) (fun c6 => ?_) (fun c6 => ?_)
    · have hw := hw.1 c6
      refine lv_iconst (v := (0 : Int32)) hx hb dX3_readPerson_41 (by decide) ?_
      exact W.zret hx hb hr rfl (fun t ht hW => ⟨⟨_, σ5, rfl, hw, by unfold wdB; rw [ht]; exact hP⟩, hS.F ht⟩) hS.2.2 dX3_readPerson_42
    · have hw := hw.2 c6
      refine lv_aload_n hx hb dX3_readPerson_31 rfl (lv_at hl 0 rfl) ?_
      refine lv_iconst (v := (1 : Int32)) hx hb dX3_readPerson_32 (by decide) ?_
      refine lv_bipush (v := (99 : Int32)) hx hb dX3_readPerson_33 (by decide) ?_
      refine va_calli (va_runV (As := [.int (1 : Int32), .int (99 : Int32)]) (rest := []) ⟨hx, hb, hml, hown, htb⟩ (kcX3_atNumberWithin_11 l D c q ev hev σ5 (1 : Int32) (99 : Int32) _ hw) (tb_CW htb kX3_atNumberWithin tb_802 tb_804 tb_20 ⟨Nat.le_of_ble_eq_true rfl, Nat.le_of_ble_eq_true rfl⟩) (wd_preV (wd := xw c q) (k := 11) hev hK hP hD hE hS (xw_11 c q σ5) rfl) rfl rfl hl.1 rfl (lv_room (Nat.le_of_ble_eq_true rfl)) dX3_readPerson_35 ⟨Nat.zero_le _, Nat.zero_le _⟩) hS (fun q _ h => h) (fun q h => h) (fun r7 σ8 t H1 locs1 ht hvm hw hB hz1 hk1 hS => ?_)
      have hP : va_P D vwCl (xw c q σ8) H1 := ht ▸ hB
      have hD : va_D (wdA 36 q) (xw c q σ8) := xw_D hD0
      refine lv_if_ne (tgt := 43) hx hb dX3_readPerson_38 (by decide) (fun c9 => ?_) (fun c9 => ?_)
      · have hw := hw.2 c9
        refine lv_aload_n hx hb dX3_readPerson_43 rfl (lv_at hl 0 rfl) ?_
        refine va_get (D := D) (ci := 3) (C := RX3) (T := TX3) (N := 10) hx hb htb inX3 hown hK hP 11 (xw_11 c q σ8) rfl 1 (by decide) (htb _ tb_202) (fun _ h9 => h9) rfl dX3_readPerson_44 ?_
        refine va_getN (D := D) (ci := 1) (C := RX1) (T := TX1) (N := 12) hx hb htb inX1 hown hK hP 13 (xw_13 c q σ8) rfl 1 (by decide) (htb _ tb_137) (fun _ h9 => h9) rfl dX3_readPerson_47 ?_
        refine lv_topi (fun v10 ev10 => ?_)
        have hw := hw v10 ev10
        refine lv_istore_n (lv' := [(1, .int v10), (0, .ref (q 11))]) hx hb dX3_readPerson_50 rfl hl (by decide) rfl (fun ls hl => ?_)
        refine lv_aload_n hx hb dX3_readPerson_51 rfl (lv_at hl 1 rfl) ?_
        refine va_get (D := D) (ci := 3) (C := RX3) (T := TX3) (N := 10) hx hb htb inX3 hown hK hP 11 (xw_11 c q σ8) rfl 1 (by decide) (htb _ tb_202) (fun _ h9 => h9) rfl dX3_readPerson_52 ?_
        refine lv_dup hx hb dX3_readPerson_55 rfl ?_
        refine va_getN (D := D) (ci := 1) (C := RX1) (T := TX1) (N := 12) hx hb htb inX1 hown hK hP 13 (xw_13 c q σ8) rfl 1 (by decide) (htb _ tb_137) (fun _ h9 => h9) rfl dX3_readPerson_56 ?_
        refine lv_iconst (v := (1 : Int32)) hx hb dX3_readPerson_59 (by decide) ?_
        refine lv_iadd hx hb dX3_readPerson_60 ?_
        refine va_putN (D := D) (ci := 1) (ty := .int) (C := RX1) (T := TX1) (N := 12) hx hb htb inX1 tyX1 tyX1_ok nmX1 hown hK hP hD hS 13 (xw_13 c q σ8) rfl 1 (by decide) (htb _ tb_137) (fun _ h9 => h9) rfl (by decide +kernel) rfl rfl (Nat.le_of_ble_eq_true rfl) dX3_readPerson_61 (fun H locs hP hD hS => ?_)
        have hP : va_P D vwCl (xw c q (hsI σ8 833 ((σ8.1 833) + (1 : Int32)))) H := hP
        obtain ⟨σ11, eσ11⟩ : ∃ z : hsS, z = hsI σ8 833 ((σ8.1 833) + (1 : Int32)) := ⟨_, rfl⟩
        rw [← eσ11] at hP
        have hD : va_D (wdA 36 q) (xw c q σ11) := xw_D hD0
        have hw := hw σ11 eσ11
        refine lv_aload_n hx hb dX3_readPerson_64 rfl (lv_at hl 1 rfl) ?_
        refine va_get (D := D) (ci := 3) (C := RX3) (T := TX3) (N := 10) hx hb htb inX3 hown hK hP 11 (xw_11 c q σ11) rfl 1 (by decide) (htb _ tb_202) (fun _ h9 => h9) rfl dX3_readPerson_65 ?_
        refine va_getN (D := D) (ci := 1) (C := RX1) (T := TX1) (N := 12) hx hb htb inX1 hown hK hP 13 (xw_13 c q σ11) rfl 8 (by decide) (htb _ tb_157) (fun _ h9 => h9) rfl dX3_readPerson_68 ?_
        refine lv_iload_n hx hb dX3_readPerson_71 rfl (lv_at hl 0 rfl) ?_
        refine lv_aload_n hx hb dX3_readPerson_72 rfl (lv_at hl 1 rfl) ?_
        refine va_get (D := D) (ci := 3) (C := RX3) (T := TX3) (N := 10) hx hb htb inX3 hown hK hP 11 (xw_11 c q σ11) rfl 7 (by decide) (htb _ tb_210) (fun _ h9 => h9) rfl dX3_readPerson_73 ?_
        refine va_iast hx hb hK hP hD hS 14 9 (xw_14 c q σ11) rfl hw.1 dX3_readPerson_76 (fun H locs hP hD hS => ?_)
        have hw := hw.2
        have hP : va_P D vwCl (xw c q (hsA σ11 14 (upd (σ11.2.1 14) v10.toNatClampNeg (σ11.1 711)))) H := hP
        obtain ⟨σ12, eσ12⟩ : ∃ z : hsS, z = hsA σ11 14 (upd (σ11.2.1 14) v10.toNatClampNeg (σ11.1 711)) := ⟨_, rfl⟩
        rw [← eσ12] at hP
        have hD : va_D (wdA 36 q) (xw c q σ12) := xw_D hD0
        have hw := hw σ12 eσ12
        refine lv_aload_n hx hb dX3_readPerson_77 rfl (lv_at hl 1 rfl) ?_
        refine va_get (D := D) (ci := 3) (C := RX3) (T := TX3) (N := 10) hx hb htb inX3 hown hK hP 11 (xw_11 c q σ12) rfl 1 (by decide) (htb _ tb_202) (fun _ h9 => h9) rfl dX3_readPerson_78 ?_
        refine lv_dup hx hb dX3_readPerson_81 rfl ?_
        refine va_getN (D := D) (ci := 1) (C := RX1) (T := TX1) (N := 12) hx hb htb inX1 hown hK hP 13 (xw_13 c q σ12) rfl 2 (by decide) (htb _ tb_140) (fun _ h9 => h9) rfl dX3_readPerson_82 ?_
        refine lv_aload_n hx hb dX3_readPerson_85 rfl (lv_at hl 1 rfl) ?_
        refine va_get (D := D) (ci := 3) (C := RX3) (T := TX3) (N := 10) hx hb htb inX3 hown hK hP 11 (xw_11 c q σ12) rfl 7 (by decide) (htb _ tb_210) (fun _ h9 => h9) rfl dX3_readPerson_86 ?_
        refine lv_iadd hx hb dX3_readPerson_89 ?_
        refine va_putN (D := D) (ci := 1) (ty := .int) (C := RX1) (T := TX1) (N := 12) hx hb htb inX1 tyX1 tyX1_ok nmX1 hown hK hP hD hS 13 (xw_13 c q σ12) rfl 2 (by decide) (htb _ tb_140) (fun _ h9 => h9) rfl (by decide +kernel) rfl rfl (Nat.le_of_ble_eq_true rfl) dX3_readPerson_90 (fun H locs hP hD hS => ?_)
        have hP : va_P D vwCl (xw c q (hsI σ12 834 ((σ12.1 834) + (σ12.1 711)))) H := hP
        obtain ⟨σ13, eσ13⟩ : ∃ z : hsS, z = hsI σ12 834 ((σ12.1 834) + (σ12.1 711)) := ⟨_, rfl⟩
        rw [← eσ13] at hP
        have hD : va_D (wdA 36 q) (xw c q σ13) := xw_D hD0
        have hw := hw σ13 eσ13
        refine lv_aload_n hx hb dX3_readPerson_93 rfl (lv_at hl 1 rfl) ?_
        refine va_callv (va_runV (As := []) (rest := []) ⟨hx, hb, hml, hown, htb⟩ (kcX3_next_11 l D c q ev hev σ13  _ hw) (tb_CW htb kX3_next tb_712 tb_714 tb_12 ⟨Nat.le_of_ble_eq_true rfl, Nat.le_of_ble_eq_true rfl⟩) (wd_preV (wd := xw c q) (k := 11) hev hK hP hD hE hS (xw_11 c q σ13) rfl) rfl rfl hl.1 rfl (lv_room (Nat.le_of_ble_eq_true rfl)) dX3_readPerson_94 ⟨Nat.zero_le _, Nat.zero_le _⟩) hS (fun q _ h => h) (fun q h => h) (fun σ15 t H1 locs1 ht hvm hw hB hz1 hk1 hS => ?_)
        have hP : va_P D vwCl (xw c q σ15) H1 := ht ▸ hB
        have hD : va_D (wdA 36 q) (xw c q σ15) := xw_D hD0
        refine lv_aload_n hx hb dX3_readPerson_97 rfl (lv_at hl 1 rfl) ?_
        refine va_ldcS hx hb hown ((hZ s s.heap hE).2.2.2 ("StrikeHall$Reader", 146, "likes", 3) (by decide)) dX3_readPerson_98 ?_
        refine va_calli (va_runV (As := [.ref (adK 3)]) (rest := []) ⟨hx, hb, hml, hown, htb⟩ (kcX3_isWord_11_s l D c q ev hev adK adV hZ σ15 3 (by decide) _ hw) (tb_CW htb kX3_isWord tb_746 tb_748 tb_18 ⟨Nat.le_of_ble_eq_true rfl, Nat.le_of_ble_eq_true rfl⟩) (wd_preV (wd := xw c q) (k := 11) hev hK hP hD hE hS (xw_11 c q σ15) rfl) rfl rfl hl.1 rfl (lv_room (Nat.le_of_ble_eq_true rfl)) dX3_readPerson_100 ⟨Nat.zero_le _, Nat.zero_le _⟩) hS (fun q _ h => h) (fun q h => h) (fun r16 σ17 t H1 locs1 ht hvm hw hB hz1 hk1 hS => ?_)
        have hP : va_P D vwCl (xw c q σ17) H1 := ht ▸ hB
        have hD : va_D (wdA 36 q) (xw c q σ17) := xw_D hD0
        refine lv_if_eq (tgt := 121) hx hb dX3_readPerson_103 (by decide) (fun c18 => ?_) (fun c18 => ?_)
        · have hw := hw.1 c18
          refine lv_aload_n hx hb dX3_readPerson_121 rfl (lv_at hl 1 rfl) ?_
          refine lv_iload_n hx hb dX3_readPerson_122 rfl (lv_at hl 0 rfl) ?_
          refine va_calli (va_runV (As := [.int v10]) (rest := []) ⟨hx, hb, hml, hown, htb⟩ (kcX3_readOrder_11 l D c q ev hev adK adV hZ σ17 v10 _ hw) (tb_CW htb kX3_readOrder tb_825 tb_827 tb_25 ⟨Nat.le_of_ble_eq_true rfl, Nat.le_of_ble_eq_true rfl⟩) (wd_preV (wd := xw c q) (k := 11) hev hK hP hD hE hS (xw_11 c q σ17) rfl) rfl rfl hl.1 rfl (lv_room (Nat.le_of_ble_eq_true rfl)) dX3_readPerson_123 ⟨Nat.zero_le _, Nat.zero_le _⟩) hS (fun q _ h => h) (fun q h => h) (fun r19 σ20 t H1 locs1 ht hvm hw hB hz1 hk1 hS => ?_)
          have hP : va_P D vwCl (xw c q σ20) H1 := ht ▸ hB
          have hD : va_D (wdA 36 q) (xw c q σ20) := xw_D hD0
          have hq := hw.2
          exact W.zret hx hb hr (nar_b hw.1) (fun t ht hW => ⟨⟨_, σ20, rfl, hq, by unfold wdB; rw [ht]; exact hP⟩, hS.F ht⟩) hS.2.2 dX3_readPerson_126
        · have hw := hw.2 c18
          refine lv_aload_n hx hb dX3_readPerson_106 rfl (lv_at hl 1 rfl) ?_
          refine va_get (D := D) (ci := 3) (C := RX3) (T := TX3) (N := 10) hx hb htb inX3 hown hK hP 11 (xw_11 c q σ17) rfl 1 (by decide) (htb _ tb_202) (fun _ h9 => h9) rfl dX3_readPerson_107 ?_
          refine lv_dup hx hb dX3_readPerson_110 rfl ?_
          refine va_getN (D := D) (ci := 1) (C := RX1) (T := TX1) (N := 12) hx hb htb inX1 hown hK hP 13 (xw_13 c q σ17) rfl 7 (by decide) (htb _ tb_155) (fun _ h9 => h9) rfl dX3_readPerson_111 ?_
          refine lv_iconst (v := (1 : Int32)) hx hb dX3_readPerson_114 (by decide) ?_
          refine lv_iload_n hx hb dX3_readPerson_115 rfl (lv_at hl 0 rfl) ?_
          refine lv_ishl hx hb dX3_readPerson_116 ?_
          refine lv_ior hx hb dX3_readPerson_117 ?_
          refine va_putN (D := D) (ci := 1) (ty := .int) (C := RX1) (T := TX1) (N := 12) hx hb htb inX1 tyX1 tyX1_ok nmX1 hown hK hP hD hS 13 (xw_13 c q σ17) rfl 7 (by decide) (htb _ tb_155) (fun _ h9 => h9) rfl (by decide +kernel) rfl rfl (Nat.le_of_ble_eq_true rfl) dX3_readPerson_118 (fun H locs hP hD hS => ?_)
          have hP : va_P D vwCl (xw c q (hsI σ17 839 ((σ17.1 839) ||| ((1 : Int32) <<< (v10 &&& 31))))) H := hP
          obtain ⟨σ21, eσ21⟩ : ∃ z : hsS, z = hsI σ17 839 ((σ17.1 839) ||| ((1 : Int32) <<< (v10 &&& 31))) := ⟨_, rfl⟩
          rw [← eσ21] at hP
          have hD : va_D (wdA 36 q) (xw c q σ21) := xw_D hD0
          have hw := hw σ21 eσ21
          refine lv_aload_n hx hb dX3_readPerson_121 rfl (lv_at hl 1 rfl) ?_
          refine lv_iload_n hx hb dX3_readPerson_122 rfl (lv_at hl 0 rfl) ?_
          refine va_calli (va_runV (As := [.int v10]) (rest := []) ⟨hx, hb, hml, hown, htb⟩ (kcX3_readOrder_11 l D c q ev hev adK adV hZ σ21 v10 _ hw) (tb_CW htb kX3_readOrder tb_825 tb_827 tb_25 ⟨Nat.le_of_ble_eq_true rfl, Nat.le_of_ble_eq_true rfl⟩) (wd_preV (wd := xw c q) (k := 11) hev hK hP hD hE hS (xw_11 c q σ21) rfl) rfl rfl hl.1 rfl (lv_room (Nat.le_of_ble_eq_true rfl)) dX3_readPerson_123 ⟨Nat.zero_le _, Nat.zero_le _⟩) hS (fun q _ h => h) (fun q h => h) (fun r22 σ23 t H1 locs1 ht hvm hw hB hz1 hk1 hS => ?_)
          have hP : va_P D vwCl (xw c q σ23) H1 := ht ▸ hB
          have hD : va_D (wdA 36 q) (xw c q σ23) := xw_D hD0
          have hq := hw.2
          exact W.zret hx hb hr (nar_b hw.1) (fun t ht hW => ⟨⟨_, σ23, rfl, hq, by unfold wdB; rw [ht]; exact hP⟩, hS.F ht⟩) hS.2.2 dX3_readPerson_126
      · have hw := hw.1 c9
        refine lv_iconst (v := (0 : Int32)) hx hb dX3_readPerson_41 (by decide) ?_
        exact W.zret hx hb hr rfl (fun t ht hW => ⟨⟨_, σ8, rfl, hw, by unfold wdB; rw [ht]; exact hP⟩, hS.F ht⟩) hS.2.2 dX3_readPerson_42
  · have hw := hw.2 c1
    refine lv_aload_n hx hb dX3_readPerson_12 rfl (lv_at hl 0 rfl) ?_
    refine lv_iconst (v := (2 : Int32)) hx hb dX3_readPerson_13 (by decide) ?_
    refine va_calli (va_runV (As := [.int (2 : Int32)]) (rest := []) ⟨hx, hb, hml, hown, htb⟩ (kcX3_fail_11 l D c q ev hev σ (2 : Int32) _ hw) (tb_CW htb kX3_fail tb_798 tb_800 tb_19 ⟨Nat.le_of_ble_eq_true rfl, Nat.le_of_ble_eq_true rfl⟩) (wd_preV (wd := xw c q) (k := 11) hev hK hP hD hE hS (xw_11 c q σ) rfl) rfl rfl hl.1 rfl (lv_room (Nat.le_of_ble_eq_true rfl)) dX3_readPerson_14 ⟨Nat.zero_le _, Nat.zero_le _⟩) hS (fun q _ h => h) (fun q h => h) (fun r24 σ25 t H1 locs1 ht hvm hw hB hz1 hk1 hS => ?_)
    have hP : va_P D vwCl (xw c q σ25) H1 := ht ▸ hB
    have hD : va_D (wdA 36 q) (xw c q σ25) := xw_D hD0
    have hq := hw.2
    exact W.zret hx hb hr (nar_b hw.1) (fun t ht hW => ⟨⟨_, σ25, rfl, hq, by unfold wdB; rw [ht]; exact hP⟩, hS.F ht⟩) hS.2.2 dX3_readPerson_17
def wX3_readLine (b0 : Nat) (post : Int32 → hsS → Prop) (σ : hsS) : Prop := wX3_isWord b0 1 (fun r1 σ2 => ((r1 = (0 : Int32) → wX3_isWord b0 6 (fun r4 σ5 => ((r4 = (0 : Int32) → wX3_isWord b0 10 (fun r7 σ8 => ((r7 = (0 : Int32) → wX3_fail b0 (1 : Int32) (fun r10 σ11 => (r10 = 0 ∨ r10 = 1) ∧ post r10 σ11) σ8) ∧ (¬ r7 = (0 : Int32) → wX3_next b0 (fun σ13 => wX3_readTurns b0 (fun r14 σ15 => (r14 = 0 ∨ r14 = 1) ∧ post r14 σ15) σ13) σ8))) σ5) ∧ (¬ r4 = (0 : Int32) → wX3_next b0 (fun σ17 => wX3_readLaw b0 (fun r18 σ19 => (r18 = 0 ∨ r18 = 1) ∧ post r18 σ19) σ17) σ5))) σ2) ∧ (¬ r1 = (0 : Int32) → wX3_readPerson b0 (fun r20 σ21 => (r20 = 0 ∨ r20 = 1) ∧ post r20 σ21) σ2))) σ
set_option maxHeartbeats 4000000 in
set_option maxRecDepth 100000 in
theorem kcX3_readLine_11 (l : Launch) (D : va_G) (c : Nat → ClassId) (q : Nat → Nat) (ev : State → Heap → Prop) (hev : evOK (wdA 36 q) ev) (adK adV : Nat → Nat) (hZ : ∀ (U : State) (H : Heap), ev U H → evS (wdA 36 q) adK adV U H) (σ : hsS)  (post : Int32 → hsS → Prop) (hw : wX3_readLine 11 post σ) : Met l yX3_readLine (Cond.code yX3_readLine cX3_readLine 1 (some .boolean) :: tb_L) { frames := 7, cells := 0, slots := 0, locals := 153 } (wdPc D (xw c q) (xwT c) (wdA 36 q) ev σ [.ref (q 11)]) (va_Qi post (wdB D (xw c q)) (wdA 36 q)) 0 0 (wdA 36 q) := by
  refine Met.ofW (cc := cX3_readLine) (maxL := 1) (ret := (some .boolean)) (by decide) rfl ?_
  intro p e s m args below meth c₀ s₁ Bd hml hv
  obtain ⟨rfl, hP, hK, hD0, hE⟩ := hv
  have hx := Bd.exec
  have hb := Bd.bytes
  have hr := Bd.returns
  have hts := atoms_spec (ws := Cond.code yX3_readLine cX3_readLine 1 (some .boolean) :: tb_L) Bd.pre
  have htb : ∀ w ∈ tb_L, w.before [.ref (q 11)].toArray s = true := fun w h => hts w (List.mem_cons_of_mem _ h)
  have hown : s.vm.findClass RX3 = some m.cls := findClass_of_methodNamed Bd.named
  have hlocks := Bd.notSynchronized
  have hS : va_S (wdA 36 q) s.heap s.heap [] := va_S.rf
  have hD := hD0
  have hl := lv_entry ([.ref (q 11)]) (n := 1) (Nat.le_of_ble_eq_true rfl)
  rw [lg_entry_eq]
  generalize (lg_sl ([.ref (q 11)]) ++ List.replicate (1 - (lg_sl ([.ref (q 11)])).length) Slot.unset).toArray = ls at hl ⊢
  have hl : lv_has ls 1 [(0, .ref (q 11))] := hl
  unfold wX3_readLine at hw
  refine lv_aload_n hx hb dX3_readLine_0 rfl (lv_at hl 0 rfl) ?_
  refine va_ldcS hx hb hown ((hZ s s.heap hE).2.2.2 ("StrikeHall$Reader", 119, "person", 1) (by decide)) dX3_readLine_1 ?_
  refine va_calli (va_runV (As := [.ref (adK 1)]) (rest := []) ⟨hx, hb, hml, hown, htb⟩ (kcX3_isWord_11_s l D c q ev hev adK adV hZ σ 1 (by decide) _ hw) (tb_CW htb kX3_isWord tb_746 tb_748 tb_18 ⟨Nat.le_of_ble_eq_true rfl, Nat.le_of_ble_eq_true rfl⟩) (wd_preV (wd := xw c q) (k := 11) hev hK hP hD hE hS (xw_11 c q σ) rfl) rfl rfl hl.1 rfl (lv_room (Nat.le_of_ble_eq_true rfl)) dX3_readLine_3 ⟨Nat.zero_le _, Nat.zero_le _⟩) hS (fun q _ h => h) (fun q h => h) (fun r1 σ2 t H1 locs1 ht hvm hw hB hz1 hk1 hS => ?_)
  have hP : va_P D vwCl (xw c q σ2) H1 := ht ▸ hB
  have hD : va_D (wdA 36 q) (xw c q σ2) := xw_D hD0
  refine lv_if_eq (tgt := 14) hx hb dX3_readLine_6 (by decide) (fun c3 => ?_) (fun c3 => ?_)
  · have hw := hw.1 c3
    refine lv_aload_n hx hb dX3_readLine_14 rfl (lv_at hl 0 rfl) ?_
    refine va_ldcS hx hb hown ((hZ s s.heap hE).2.2.2 ("StrikeHall$Reader", 124, "law", 6) (by decide)) dX3_readLine_15 ?_
    refine va_calli (va_runV (As := [.ref (adK 6)]) (rest := []) ⟨hx, hb, hml, hown, htb⟩ (kcX3_isWord_11_s l D c q ev hev adK adV hZ σ2 6 (by decide) _ hw) (tb_CW htb kX3_isWord tb_746 tb_748 tb_18 ⟨Nat.le_of_ble_eq_true rfl, Nat.le_of_ble_eq_true rfl⟩) (wd_preV (wd := xw c q) (k := 11) hev hK hP hD hE hS (xw_11 c q σ2) rfl) rfl rfl hl.1 rfl (lv_room (Nat.le_of_ble_eq_true rfl)) dX3_readLine_17 ⟨Nat.zero_le _, Nat.zero_le _⟩) hS (fun q _ h => h) (fun q h => h) (fun r4 σ5 t H1 locs1 ht hvm hw hB hz1 hk1 hS => ?_)
    have hP : va_P D vwCl (xw c q σ5) H1 := ht ▸ hB
    have hD : va_D (wdA 36 q) (xw c q σ5) := xw_D hD0
    refine lv_if_eq (tgt := 32) hx hb dX3_readLine_20 (by decide) (fun c6 => ?_) (fun c6 => ?_)
    · have hw := hw.1 c6
      refine lv_aload_n hx hb dX3_readLine_32 rfl (lv_at hl 0 rfl) ?_
      refine va_ldcS hx hb hown ((hZ s s.heap hE).2.2.2 ("StrikeHall$Reader", 129, "turns", 10) (by decide)) dX3_readLine_33 ?_
      refine va_calli (va_runV (As := [.ref (adK 10)]) (rest := []) ⟨hx, hb, hml, hown, htb⟩ (kcX3_isWord_11_s l D c q ev hev adK adV hZ σ5 10 (by decide) _ hw) (tb_CW htb kX3_isWord tb_746 tb_748 tb_18 ⟨Nat.le_of_ble_eq_true rfl, Nat.le_of_ble_eq_true rfl⟩) (wd_preV (wd := xw c q) (k := 11) hev hK hP hD hE hS (xw_11 c q σ5) rfl) rfl rfl hl.1 rfl (lv_room (Nat.le_of_ble_eq_true rfl)) dX3_readLine_35 ⟨Nat.zero_le _, Nat.zero_le _⟩) hS (fun q _ h => h) (fun q h => h) (fun r7 σ8 t H1 locs1 ht hvm hw hB hz1 hk1 hS => ?_)
      have hP : va_P D vwCl (xw c q σ8) H1 := ht ▸ hB
      have hD : va_D (wdA 36 q) (xw c q σ8) := xw_D hD0
      refine lv_if_eq (tgt := 50) hx hb dX3_readLine_38 (by decide) (fun c9 => ?_) (fun c9 => ?_)
      · have hw := hw.1 c9
        refine lv_aload_n hx hb dX3_readLine_50 rfl (lv_at hl 0 rfl) ?_
        refine lv_iconst (v := (1 : Int32)) hx hb dX3_readLine_51 (by decide) ?_
        refine va_calli (va_runV (As := [.int (1 : Int32)]) (rest := []) ⟨hx, hb, hml, hown, htb⟩ (kcX3_fail_11 l D c q ev hev σ8 (1 : Int32) _ hw) (tb_CW htb kX3_fail tb_798 tb_800 tb_19 ⟨Nat.le_of_ble_eq_true rfl, Nat.le_of_ble_eq_true rfl⟩) (wd_preV (wd := xw c q) (k := 11) hev hK hP hD hE hS (xw_11 c q σ8) rfl) rfl rfl hl.1 rfl (lv_room (Nat.le_of_ble_eq_true rfl)) dX3_readLine_52 ⟨Nat.zero_le _, Nat.zero_le _⟩) hS (fun q _ h => h) (fun q h => h) (fun r10 σ11 t H1 locs1 ht hvm hw hB hz1 hk1 hS => ?_)
        have hP : va_P D vwCl (xw c q σ11) H1 := ht ▸ hB
        have hD : va_D (wdA 36 q) (xw c q σ11) := xw_D hD0
        have hq := hw.2
        exact W.zret hx hb hr (nar_b hw.1) (fun t ht hW => ⟨⟨_, σ11, rfl, hq, by unfold wdB; rw [ht]; exact hP⟩, hS.F ht⟩) hS.2.2 dX3_readLine_55
      · have hw := hw.2 c9
        refine lv_aload_n hx hb dX3_readLine_41 rfl (lv_at hl 0 rfl) ?_
        refine va_callv (va_runV (As := []) (rest := []) ⟨hx, hb, hml, hown, htb⟩ (kcX3_next_11 l D c q ev hev σ8  _ hw) (tb_CW htb kX3_next tb_712 tb_714 tb_12 ⟨Nat.le_of_ble_eq_true rfl, Nat.le_of_ble_eq_true rfl⟩) (wd_preV (wd := xw c q) (k := 11) hev hK hP hD hE hS (xw_11 c q σ8) rfl) rfl rfl hl.1 rfl (lv_room (Nat.le_of_ble_eq_true rfl)) dX3_readLine_42 ⟨Nat.zero_le _, Nat.zero_le _⟩) hS (fun q _ h => h) (fun q h => h) (fun σ13 t H1 locs1 ht hvm hw hB hz1 hk1 hS => ?_)
        have hP : va_P D vwCl (xw c q σ13) H1 := ht ▸ hB
        have hD : va_D (wdA 36 q) (xw c q σ13) := xw_D hD0
        refine lv_aload_n hx hb dX3_readLine_45 rfl (lv_at hl 0 rfl) ?_
        refine va_calli (va_runV (As := []) (rest := []) ⟨hx, hb, hml, hown, htb⟩ (kcX3_readTurns_11 l D c q ev hev σ13  _ hw) (tb_CW htb kX3_readTurns tb_854 tb_856 tb_30 ⟨Nat.le_of_ble_eq_true rfl, Nat.le_of_ble_eq_true rfl⟩) (wd_preV (wd := xw c q) (k := 11) hev hK hP hD hE hS (xw_11 c q σ13) rfl) rfl rfl hl.1 rfl (lv_room (Nat.le_of_ble_eq_true rfl)) dX3_readLine_46 ⟨Nat.zero_le _, Nat.zero_le _⟩) hS (fun q _ h => h) (fun q h => h) (fun r14 σ15 t H1 locs1 ht hvm hw hB hz1 hk1 hS => ?_)
        have hP : va_P D vwCl (xw c q σ15) H1 := ht ▸ hB
        have hD : va_D (wdA 36 q) (xw c q σ15) := xw_D hD0
        have hq := hw.2
        exact W.zret hx hb hr (nar_b hw.1) (fun t ht hW => ⟨⟨_, σ15, rfl, hq, by unfold wdB; rw [ht]; exact hP⟩, hS.F ht⟩) hS.2.2 dX3_readLine_49
    · have hw := hw.2 c6
      refine lv_aload_n hx hb dX3_readLine_23 rfl (lv_at hl 0 rfl) ?_
      refine va_callv (va_runV (As := []) (rest := []) ⟨hx, hb, hml, hown, htb⟩ (kcX3_next_11 l D c q ev hev σ5  _ hw) (tb_CW htb kX3_next tb_712 tb_714 tb_12 ⟨Nat.le_of_ble_eq_true rfl, Nat.le_of_ble_eq_true rfl⟩) (wd_preV (wd := xw c q) (k := 11) hev hK hP hD hE hS (xw_11 c q σ5) rfl) rfl rfl hl.1 rfl (lv_room (Nat.le_of_ble_eq_true rfl)) dX3_readLine_24 ⟨Nat.zero_le _, Nat.zero_le _⟩) hS (fun q _ h => h) (fun q h => h) (fun σ17 t H1 locs1 ht hvm hw hB hz1 hk1 hS => ?_)
      have hP : va_P D vwCl (xw c q σ17) H1 := ht ▸ hB
      have hD : va_D (wdA 36 q) (xw c q σ17) := xw_D hD0
      refine lv_aload_n hx hb dX3_readLine_27 rfl (lv_at hl 0 rfl) ?_
      refine va_calli (va_runV (As := []) (rest := []) ⟨hx, hb, hml, hown, htb⟩ (kcX3_readLaw_11 l D c q ev hev adK adV hZ σ17  _ hw) (tb_CW htb kX3_readLaw tb_838 tb_840 tb_27 ⟨Nat.le_of_ble_eq_true rfl, Nat.le_of_ble_eq_true rfl⟩) (wd_preV (wd := xw c q) (k := 11) hev hK hP hD hE hS (xw_11 c q σ17) rfl) rfl rfl hl.1 rfl (lv_room (Nat.le_of_ble_eq_true rfl)) dX3_readLine_28 ⟨Nat.zero_le _, Nat.zero_le _⟩) hS (fun q _ h => h) (fun q h => h) (fun r18 σ19 t H1 locs1 ht hvm hw hB hz1 hk1 hS => ?_)
      have hP : va_P D vwCl (xw c q σ19) H1 := ht ▸ hB
      have hD : va_D (wdA 36 q) (xw c q σ19) := xw_D hD0
      have hq := hw.2
      exact W.zret hx hb hr (nar_b hw.1) (fun t ht hW => ⟨⟨_, σ19, rfl, hq, by unfold wdB; rw [ht]; exact hP⟩, hS.F ht⟩) hS.2.2 dX3_readLine_31
  · have hw := hw.2 c3
    refine lv_aload_n hx hb dX3_readLine_9 rfl (lv_at hl 0 rfl) ?_
    refine va_calli (va_runV (As := []) (rest := []) ⟨hx, hb, hml, hown, htb⟩ (kcX3_readPerson_11 l D c q ev hev adK adV hZ σ2  _ hw) (tb_CW htb kX3_readPerson tb_819 tb_821 tb_24 ⟨Nat.le_of_ble_eq_true rfl, Nat.le_of_ble_eq_true rfl⟩) (wd_preV (wd := xw c q) (k := 11) hev hK hP hD hE hS (xw_11 c q σ2) rfl) rfl rfl hl.1 rfl (lv_room (Nat.le_of_ble_eq_true rfl)) dX3_readLine_10 ⟨Nat.zero_le _, Nat.zero_le _⟩) hS (fun q _ h => h) (fun q h => h) (fun r20 σ21 t H1 locs1 ht hvm hw hB hz1 hk1 hS => ?_)
    have hP : va_P D vwCl (xw c q σ21) H1 := ht ▸ hB
    have hD : va_D (wdA 36 q) (xw c q σ21) := xw_D hD0
    have hq := hw.2
    exact W.zret hx hb hr (nar_b hw.1) (fun t ht hW => ⟨⟨_, σ21, rfl, hq, by unfold wdB; rw [ht]; exact hP⟩, hS.F ht⟩) hS.2.2 dX3_readLine_13
def wX3_read_L50 (b0 : Nat) (z1 : Int32) (K94 : Int32 → Int32 → hsS → Prop) (post : Int32 → hsS → Prop) : Nat → Int32 → Int32 → hsS → Prop
  | 0, _, _, _ => False
  | n + 1, y2, y3, σ => (((600 : Int32) < y3 → K94 y2 y3 σ) ∧ (¬ (600 : Int32) < y3 → ((y2 = (0 : Int32) → K94 y2 y3 σ) ∧ (¬ y2 = (0 : Int32) → (((σ.1 (64 * b0 + 4)) = (0 : Int32) → K94 y2 y3 σ) ∧ (¬ (σ.1 (64 * b0 + 4)) = (0 : Int32) → wX3_readLine b0 (fun r15 σ16 => ((r15 = (0 : Int32) → ∀ v18 : Int32, v18 = y3 + (1 : Int32) → wX3_read_L50 b0 z1 K94 post n (0 : Int32) v18 σ16) ∧ (¬ r15 = (0 : Int32) → wX3_passSign b0 (fun r19 σ20 => ((r19 = (0 : Int32) → ∀ v22 : Int32, v22 = y3 + (1 : Int32) → wX3_read_L50 b0 z1 K94 post n (0 : Int32) v22 σ20) ∧ (¬ r19 = (0 : Int32) → ∀ v23 : Int32, v23 = y3 + (1 : Int32) → wX3_read_L50 b0 z1 K94 post n (1 : Int32) v23 σ20))) σ16))) σ))))))
def wX3_read (b0 : Nat) (x1 : Int32) (post : Int32 → hsS → Prop) (σ : hsS) : Prop := ∀ σ1 : hsS, σ1 = hsI σ (64 * b0 + 3) (if (σ.1 (64 * b0 + 2)) < x1 then (σ.1 (64 * b0 + 2)) else x1) → ∀ σ2 : hsS, σ2 = hsI σ1 (64 * b0 + 2) (0 : Int32) → wX1_reset (b0 + 2) (fun σ4 => ∀ σ5 : hsS, σ5 = hsI σ4 (64 * b0 + 8) (0 : Int32) → ∀ σ6 : hsS, σ6 = hsI σ5 (64 * b0 + 9) (-1 : Int32) → ∀ σ7 : hsS, σ7 = hsI σ6 (64 * b0 + 6) (0 : Int32) → wX3_next b0 (fun σ9 => wX3_readThings b0 (fun r10 σ11 => ∃ n24, wX3_read_L50 b0 x1 (fun v25 v26 σ27 => post (σ27.1 (64 * b0 + 8)) σ27) post n24 r10 (0 : Int32) σ11) σ9) σ7) σ2
set_option maxHeartbeats 4000000 in
set_option maxRecDepth 100000 in
theorem kcX3_read_11 (l : Launch) (D : va_G) (c : Nat → ClassId) (q : Nat → Nat) (ev : State → Heap → Prop) (hev : evOK (wdA 36 q) ev) (adK adV : Nat → Nat) (hZ : ∀ (U : State) (H : Heap), ev U H → evS (wdA 36 q) adK adV U H) (σ : hsS) (x1 : Int32) (post : Int32 → hsS → Prop) (hw : wX3_read 11 x1 post σ) : Met l yX3_read (Cond.code yX3_read cX3_read 4 (some .int) :: tb_L) { frames := 8, cells := 0, slots := 0, locals := 173 } (wdPc D (xw c q) (xwT c) (wdA 36 q) ev σ [.ref (q 11), .int x1]) (va_Qi post (wdB D (xw c q)) (wdA 36 q)) 0 0 (wdA 36 q) := by
  refine Met.ofW (cc := cX3_read) (maxL := 4) (ret := (some .int)) (by decide) rfl ?_
  intro p e s m args below meth c₀ s₁ Bd hml hv
  obtain ⟨rfl, hP, hK, hD0, hE⟩ := hv
  have hx := Bd.exec
  have hb := Bd.bytes
  have hr := Bd.returns
  have hts := atoms_spec (ws := Cond.code yX3_read cX3_read 4 (some .int) :: tb_L) Bd.pre
  have htb : ∀ w ∈ tb_L, w.before [.ref (q 11), .int x1].toArray s = true := fun w h => hts w (List.mem_cons_of_mem _ h)
  have hown : s.vm.findClass RX3 = some m.cls := findClass_of_methodNamed Bd.named
  have hlocks := Bd.notSynchronized
  have hS : va_S (wdA 36 q) s.heap s.heap [] := va_S.rf
  have hD := hD0
  have L50 : ∀ (K94 : Int32 → Int32 → hsS → Prop) (z1 : Int32) (n : Nat) (y2 : Int32) (y3 : Int32) (σ : hsS) (H : Heap) (locs : List Loc) (ls : Array Slot), wX3_read_L50 11 z1 K94 post n y2 y3 σ → (∀ (y2 : Int32) (y3 : Int32) (σ : hsS) (H : Heap) (locs : List Loc) (ls : Array Slot), K94 y2 y3 σ → va_P D vwCl (xw c q σ) H → va_S (wdA 36 q) s.heap H locs → lv_has ls 4 [(0, .ref (q 11)), (1, .int z1), (2, .int y2), (3, .int y3)] → W p l e (headSpec (Cond.code yX3_read cX3_read 4 (some .int) :: tb_L) { frames := 8, cells := 0, slots := 0, locals := 173 }).room s m [.ref (q 11), .int x1].toArray below meth c₀ H locs 0 0 (MQ below (va_Qi post (wdB D (xw c q)) (wdA 36 q)) [.ref (q 11), .int x1].toArray s 0 0 (wdA 36 q)) (F0 m 94 ls [])) → va_P D vwCl (xw c q σ) H → va_S (wdA 36 q) s.heap H locs → lv_has ls 4 [(0, .ref (q 11)), (1, .int z1), (2, .int y2), (3, .int y3)] → W p l e (headSpec (Cond.code yX3_read cX3_read 4 (some .int) :: tb_L) { frames := 8, cells := 0, slots := 0, locals := 173 }).room s m [.ref (q 11), .int x1].toArray below meth c₀ H locs 0 0 (MQ below (va_Qi post (wdB D (xw c q)) (wdA 36 q)) [.ref (q 11), .int x1].toArray s 0 0 (wdA 36 q)) (F0 m 50 ls []) := by
    intro K94 z1 n
    induction n with
    | zero =>
      intro y2 y3 σ H locs ls hw hk94 hP hS hl
      exact (show False from hw).elim
    | succ n ih =>
      intro y2 y3 σ H locs ls hw hk94 hP hS hl
      rw [wX3_read_L50] at hw
      have hD : va_D (wdA 36 q) (xw c q σ) := xw_D hD0
      refine lv_iload_n hx hb dX3_read_50 rfl (lv_at hl 3 rfl) ?_
      refine lv_sipush (v := (600 : Int32)) hx hb dX3_read_51 (by decide) ?_
      refine lv_icmp_gt (tgt := 94) hx hb dX3_read_54 (by decide) (fun c12 => ?_) (fun c12 => ?_)
      · have hw := hw.1 c12
        exact hk94 y2 y3 σ _ _ _ hw hP hS (lv_sub hl [0, 1, 2, 3] rfl)
      · have hw := hw.2 c12
        refine lv_iload_n hx hb dX3_read_57 rfl (lv_at hl 2 rfl) ?_
        refine lv_if_eq (tgt := 94) hx hb dX3_read_58 (by decide) (fun c13 => ?_) (fun c13 => ?_)
        · have hw := hw.1 c13
          exact hk94 y2 y3 σ _ _ _ hw hP hS (lv_sub hl [0, 1, 2, 3] rfl)
        · have hw := hw.2 c13
          refine lv_aload_n hx hb dX3_read_61 rfl (lv_at hl 0 rfl) ?_
          refine va_get (D := D) (ci := 3) (C := RX3) (T := TX3) (N := 10) hx hb htb inX3 hown hK hP 11 (xw_11 c q σ) rfl 4 (by decide) (htb _ tb_207) (fun _ h9 => h9) rfl dX3_read_62 ?_
          refine lv_if_eq (tgt := 94) hx hb dX3_read_65 (by decide) (fun c14 => ?_) (fun c14 => ?_)
          · have hw := hw.1 c14
            exact hk94 y2 y3 σ _ _ _ hw hP hS (lv_sub hl [0, 1, 2, 3] rfl)
          · have hw := hw.2 c14
            refine lv_aload_n hx hb dX3_read_68 rfl (lv_at hl 0 rfl) ?_
            refine va_calli (va_runV (As := []) (rest := []) ⟨hx, hb, hml, hown, htb⟩ (kcX3_readLine_11 l D c q ev hev adK adV hZ σ  _ hw) (tb_CW htb kX3_readLine tb_814 tb_816 tb_23 ⟨Nat.le_of_ble_eq_true rfl, Nat.le_of_ble_eq_true rfl⟩) (wd_preV (wd := xw c q) (k := 11) hev hK hP hD hE hS (xw_11 c q σ) rfl) rfl rfl hl.1 rfl (lv_room (Nat.le_of_ble_eq_true rfl)) dX3_read_69 ⟨Nat.zero_le _, Nat.zero_le _⟩) hS (fun q _ h => h) (fun q h => h) (fun r15 σ16 t H1 locs1 ht hvm hw hB hz1 hk1 hS => ?_)
            have hP : va_P D vwCl (xw c q σ16) H1 := ht ▸ hB
            have hD : va_D (wdA 36 q) (xw c q σ16) := xw_D hD0
            refine lv_if_eq (tgt := 86) hx hb dX3_read_72 (by decide) (fun c17 => ?_) (fun c17 => ?_)
            · have hw := hw.1 c17
              refine lv_iconst (v := (0 : Int32)) hx hb dX3_read_86 (by decide) ?_
              refine lv_istore_n (lv' := [(2, .int (0 : Int32)), (0, .ref (q 11)), (1, .int z1), (3, .int y3)]) hx hb dX3_read_87 rfl hl (by decide) rfl (fun ls hl => ?_)
              obtain ⟨v18, ev18⟩ : ∃ z : Int32, z = y3 + (1 : Int32) := ⟨_, rfl⟩
              have hw := hw v18 ev18
              refine lv_iinc (v := v18) (lv' := [(3, .int v18), (2, .int (0 : Int32)), (0, .ref (q 11)), (1, .int z1)]) hx hb dX3_read_88 hl (k := 3) rfl (by rw [ev18]; rfl) (by decide) rfl (fun ls hl => ?_)
              refine lv_goto (tgt := 50) hx hb dX3_read_91 (by decide) ?_
              exact ih (0 : Int32) v18 σ16 _ _ _ hw hk94 hP hS (lv_sub hl [2, 3, 1, 0] rfl)
            · have hw := hw.2 c17
              refine lv_aload_n hx hb dX3_read_75 rfl (lv_at hl 0 rfl) ?_
              refine va_calli (va_runV (As := []) (rest := []) ⟨hx, hb, hml, hown, htb⟩ (kcX3_passSign_11 l D c q ev hev σ16  _ hw) (tb_CW htb kX3_passSign tb_810 tb_812 tb_22 ⟨Nat.le_of_ble_eq_true rfl, Nat.le_of_ble_eq_true rfl⟩) (wd_preV (wd := xw c q) (k := 11) hev hK hP hD hE hS (xw_11 c q σ16) rfl) rfl rfl hl.1 rfl (lv_room (Nat.le_of_ble_eq_true rfl)) dX3_read_76 ⟨Nat.zero_le _, Nat.zero_le _⟩) hS (fun q _ h => h) (fun q h => h) (fun r19 σ20 t H1 locs1 ht hvm hw hB hz1 hk1 hS => ?_)
              have hP : va_P D vwCl (xw c q σ20) H1 := ht ▸ hB
              have hD : va_D (wdA 36 q) (xw c q σ20) := xw_D hD0
              refine lv_if_eq (tgt := 86) hx hb dX3_read_79 (by decide) (fun c21 => ?_) (fun c21 => ?_)
              · have hw := hw.1 c21
                refine lv_iconst (v := (0 : Int32)) hx hb dX3_read_86 (by decide) ?_
                refine lv_istore_n (lv' := [(2, .int (0 : Int32)), (0, .ref (q 11)), (1, .int z1), (3, .int y3)]) hx hb dX3_read_87 rfl hl (by decide) rfl (fun ls hl => ?_)
                obtain ⟨v22, ev22⟩ : ∃ z : Int32, z = y3 + (1 : Int32) := ⟨_, rfl⟩
                have hw := hw v22 ev22
                refine lv_iinc (v := v22) (lv' := [(3, .int v22), (2, .int (0 : Int32)), (0, .ref (q 11)), (1, .int z1)]) hx hb dX3_read_88 hl (k := 3) rfl (by rw [ev22]; rfl) (by decide) rfl (fun ls hl => ?_)
                refine lv_goto (tgt := 50) hx hb dX3_read_91 (by decide) ?_
                exact ih (0 : Int32) v22 σ20 _ _ _ hw hk94 hP hS (lv_sub hl [2, 3, 1, 0] rfl)
              · have hw := hw.2 c21
                refine lv_iconst (v := (1 : Int32)) hx hb dX3_read_82 (by decide) ?_
                refine lv_goto (tgt := 87) hx hb dX3_read_83 (by decide) ?_
                refine lv_istore_n (lv' := [(2, .int (1 : Int32)), (0, .ref (q 11)), (1, .int z1), (3, .int y3)]) hx hb dX3_read_87 rfl hl (by decide) rfl (fun ls hl => ?_)
                obtain ⟨v23, ev23⟩ : ∃ z : Int32, z = y3 + (1 : Int32) := ⟨_, rfl⟩
                have hw := hw v23 ev23
                refine lv_iinc (v := v23) (lv' := [(3, .int v23), (2, .int (1 : Int32)), (0, .ref (q 11)), (1, .int z1)]) hx hb dX3_read_88 hl (k := 3) rfl (by rw [ev23]; rfl) (by decide) rfl (fun ls hl => ?_)
                refine lv_goto (tgt := 50) hx hb dX3_read_91 (by decide) ?_
                exact ih (1 : Int32) v23 σ20 _ _ _ hw hk94 hP hS (lv_sub hl [2, 3, 1, 0] rfl)
  have hl := lv_entry ([.ref (q 11), .int x1]) (n := 4) (Nat.le_of_ble_eq_true rfl)
  rw [lg_entry_eq]
  generalize (lg_sl ([.ref (q 11), .int x1]) ++ List.replicate (4 - (lg_sl ([.ref (q 11), .int x1])).length) Slot.unset).toArray = ls at hl ⊢
  have hl : lv_has ls 4 [(0, .ref (q 11)), (1, .int x1)] := hl
  unfold wX3_read at hw
  refine lv_aload_n hx hb dX3_read_0 rfl (lv_at hl 0 rfl) ?_
  refine lv_iload_n hx hb dX3_read_1 rfl (lv_at hl 1 rfl) ?_
  refine lv_aload_n hx hb dX3_read_2 rfl (lv_at hl 0 rfl) ?_
  refine va_get (D := D) (ci := 3) (C := RX3) (T := TX3) (N := 10) hx hb htb inX3 hown hK hP 11 (xw_11 c q σ) rfl 2 (by decide) (htb _ tb_204) (fun _ h9 => h9) rfl dX3_read_3 ?_
  refine va_mmin hx hb (hml.trans hl.1.symm) hown (htb _ tb_707) (htb _ tb_413) (htb _ tb_104) (htb _ tb_414) (Nat.le_of_ble_eq_true rfl) (Nat.le_of_ble_eq_true rfl) (Nat.zero_le _) (Nat.zero_le _) dX3_read_6 ?_
  refine va_put (D := D) (ci := 3) (ty := .int) (C := RX3) (T := TX3) (N := 10) hx hb htb inX3 tyX3 tyX3_ok nmX3 hown hK hP hD hS 11 (xw_11 c q σ) rfl 3 (by decide) (htb _ tb_206) (fun _ h9 => h9) rfl (by decide +kernel) rfl rfl (Nat.le_of_ble_eq_true rfl) dX3_read_9 (fun H locs hP hD hS => ?_)
  have hP : va_P D vwCl (xw c q (hsI σ 707 (if (σ.1 706) < x1 then (σ.1 706) else x1))) H := hP
  obtain ⟨σ1, eσ1⟩ : ∃ z : hsS, z = hsI σ 707 (if (σ.1 706) < x1 then (σ.1 706) else x1) := ⟨_, rfl⟩
  rw [← eσ1] at hP
  have hD : va_D (wdA 36 q) (xw c q σ1) := xw_D hD0
  have hw := hw σ1 eσ1
  refine lv_aload_n hx hb dX3_read_12 rfl (lv_at hl 0 rfl) ?_
  refine lv_iconst (v := (0 : Int32)) hx hb dX3_read_13 (by decide) ?_
  refine va_put (D := D) (ci := 3) (ty := .int) (C := RX3) (T := TX3) (N := 10) hx hb htb inX3 tyX3 tyX3_ok nmX3 hown hK hP hD hS 11 (xw_11 c q σ1) rfl 2 (by decide) (htb _ tb_204) (fun _ h9 => h9) rfl (by decide +kernel) rfl rfl (Nat.le_of_ble_eq_true rfl) dX3_read_14 (fun H locs hP hD hS => ?_)
  have hP : va_P D vwCl (xw c q (hsI σ1 706 (0 : Int32))) H := hP
  obtain ⟨σ2, eσ2⟩ : ∃ z : hsS, z = hsI σ1 706 (0 : Int32) := ⟨_, rfl⟩
  rw [← eσ2] at hP
  have hD : va_D (wdA 36 q) (xw c q σ2) := xw_D hD0
  have hw := hw σ2 eσ2
  refine lv_aload_n hx hb dX3_read_17 rfl (lv_at hl 0 rfl) ?_
  refine va_get (D := D) (ci := 3) (C := RX3) (T := TX3) (N := 10) hx hb htb inX3 hown hK hP 11 (xw_11 c q σ2) rfl 1 (by decide) (htb _ tb_202) (fun _ h9 => h9) rfl dX3_read_18 ?_
  refine va_callv (va_runV (As := []) (rest := []) ⟨hx, hb, hml, hown, htb⟩ (kcX1_reset_13 l D c q ev hev σ2  _ hw) (tb_CW htb kX1_reset tb_708 tb_709 tb_710 ⟨Nat.le_of_ble_eq_true rfl, Nat.le_of_ble_eq_true rfl⟩) (wd_preV (wd := xw c q) (k := 13) hev hK hP hD hE hS (xw_13 c q σ2) rfl) rfl rfl hl.1 rfl (lv_room (Nat.le_of_ble_eq_true rfl)) dX3_read_21 ⟨Nat.zero_le _, Nat.zero_le _⟩) hS (fun q _ h => h) (fun q h => h) (fun σ4 t H1 locs1 ht hvm hw hB hz1 hk1 hS => ?_)
  have hP : va_P D vwCl (xw c q σ4) H1 := ht ▸ hB
  have hD : va_D (wdA 36 q) (xw c q σ4) := xw_D hD0
  refine lv_aload_n hx hb dX3_read_24 rfl (lv_at hl 0 rfl) ?_
  refine lv_iconst (v := (0 : Int32)) hx hb dX3_read_25 (by decide) ?_
  refine va_put (D := D) (ci := 3) (ty := .int) (C := RX3) (T := TX3) (N := 10) hx hb htb inX3 tyX3 tyX3_ok nmX3 hown hK hP hD hS 11 (xw_11 c q σ4) rfl 8 (by decide) (htb _ tb_211) (fun _ h9 => h9) rfl (by decide +kernel) rfl rfl (Nat.le_of_ble_eq_true rfl) dX3_read_26 (fun H locs hP hD hS => ?_)
  have hP : va_P D vwCl (xw c q (hsI σ4 712 (0 : Int32))) H := hP
  obtain ⟨σ5, eσ5⟩ : ∃ z : hsS, z = hsI σ4 712 (0 : Int32) := ⟨_, rfl⟩
  rw [← eσ5] at hP
  have hD : va_D (wdA 36 q) (xw c q σ5) := xw_D hD0
  have hw := hw σ5 eσ5
  refine lv_aload_n hx hb dX3_read_29 rfl (lv_at hl 0 rfl) ?_
  refine lv_iconst (v := (-1 : Int32)) hx hb dX3_read_30 (by decide) ?_
  refine va_put (D := D) (ci := 3) (ty := .int) (C := RX3) (T := TX3) (N := 10) hx hb htb inX3 tyX3 tyX3_ok nmX3 hown hK hP hD hS 11 (xw_11 c q σ5) rfl 9 (by decide) (htb _ tb_212) (fun _ h9 => h9) rfl (by decide +kernel) rfl rfl (Nat.le_of_ble_eq_true rfl) dX3_read_31 (fun H locs hP hD hS => ?_)
  have hP : va_P D vwCl (xw c q (hsI σ5 713 (-1 : Int32))) H := hP
  obtain ⟨σ6, eσ6⟩ : ∃ z : hsS, z = hsI σ5 713 (-1 : Int32) := ⟨_, rfl⟩
  rw [← eσ6] at hP
  have hD : va_D (wdA 36 q) (xw c q σ6) := xw_D hD0
  have hw := hw σ6 eσ6
  refine lv_aload_n hx hb dX3_read_34 rfl (lv_at hl 0 rfl) ?_
  refine lv_iconst (v := (0 : Int32)) hx hb dX3_read_35 (by decide) ?_
  refine va_put (D := D) (ci := 3) (ty := .int) (C := RX3) (T := TX3) (N := 10) hx hb htb inX3 tyX3 tyX3_ok nmX3 hown hK hP hD hS 11 (xw_11 c q σ6) rfl 6 (by decide) (htb _ tb_209) (fun _ h9 => h9) rfl (by decide +kernel) rfl rfl (Nat.le_of_ble_eq_true rfl) dX3_read_36 (fun H locs hP hD hS => ?_)
  have hP : va_P D vwCl (xw c q (hsI σ6 710 (0 : Int32))) H := hP
  obtain ⟨σ7, eσ7⟩ : ∃ z : hsS, z = hsI σ6 710 (0 : Int32) := ⟨_, rfl⟩
  rw [← eσ7] at hP
  have hD : va_D (wdA 36 q) (xw c q σ7) := xw_D hD0
  have hw := hw σ7 eσ7
  refine lv_aload_n hx hb dX3_read_39 rfl (lv_at hl 0 rfl) ?_
  refine va_callv (va_runV (As := []) (rest := []) ⟨hx, hb, hml, hown, htb⟩ (kcX3_next_11 l D c q ev hev σ7  _ hw) (tb_CW htb kX3_next tb_712 tb_714 tb_12 ⟨Nat.le_of_ble_eq_true rfl, Nat.le_of_ble_eq_true rfl⟩) (wd_preV (wd := xw c q) (k := 11) hev hK hP hD hE hS (xw_11 c q σ7) rfl) rfl rfl hl.1 rfl (lv_room (Nat.le_of_ble_eq_true rfl)) dX3_read_40 ⟨Nat.zero_le _, Nat.zero_le _⟩) hS (fun q _ h => h) (fun q h => h) (fun σ9 t H1 locs1 ht hvm hw hB hz1 hk1 hS => ?_)
  have hP : va_P D vwCl (xw c q σ9) H1 := ht ▸ hB
  have hD : va_D (wdA 36 q) (xw c q σ9) := xw_D hD0
  refine lv_aload_n hx hb dX3_read_43 rfl (lv_at hl 0 rfl) ?_
  refine va_calli (va_runV (As := []) (rest := []) ⟨hx, hb, hml, hown, htb⟩ (kcX3_readThings_11 l D c q ev hev adK adV hZ σ9  _ hw) (tb_CW htb kX3_readThings tb_737 tb_739 tb_16 ⟨Nat.le_of_ble_eq_true rfl, Nat.le_of_ble_eq_true rfl⟩) (wd_preV (wd := xw c q) (k := 11) hev hK hP hD hE hS (xw_11 c q σ9) rfl) rfl rfl hl.1 rfl (lv_room (Nat.le_of_ble_eq_true rfl)) dX3_read_44 ⟨Nat.zero_le _, Nat.zero_le _⟩) hS (fun q _ h => h) (fun q h => h) (fun r10 σ11 t H1 locs1 ht hvm hw hB hz1 hk1 hS => ?_)
  have hP : va_P D vwCl (xw c q σ11) H1 := ht ▸ hB
  have hD : va_D (wdA 36 q) (xw c q σ11) := xw_D hD0
  refine lv_istore_n (lv' := [(2, .int r10), (0, .ref (q 11)), (1, .int x1)]) hx hb dX3_read_47 rfl hl (by decide) rfl (fun ls hl => ?_)
  refine lv_iconst (v := (0 : Int32)) hx hb dX3_read_48 (by decide) ?_
  refine lv_istore_n (lv' := [(3, .int (0 : Int32)), (2, .int r10), (0, .ref (q 11)), (1, .int x1)]) hx hb dX3_read_49 rfl hl (by decide) rfl (fun ls hl => ?_)
  obtain ⟨n24, hw⟩ := hw
  refine L50 _ x1 n24 r10 (0 : Int32) σ11 _ _ _ hw ?_ hP hS (lv_sub hl [2, 3, 1, 0] rfl)
  intro v25 v26 σ27 H locs ls hw hP hS hl
  have hD : va_D (wdA 36 q) (xw c q σ27) := xw_D hD0
  refine lv_aload_n hx hb dX3_read_94 rfl (lv_at hl 0 rfl) ?_
  refine va_get (D := D) (ci := 3) (C := RX3) (T := TX3) (N := 10) hx hb htb inX3 hown hK hP 11 (xw_11 c q σ27) rfl 8 (by decide) (htb _ tb_211) (fun _ h9 => h9) rfl dX3_read_95 ?_
  exact W.iret hx hb hr (fun t ht hW => ⟨⟨_, σ27, rfl, hw, by unfold wdB; rw [ht]; exact hP⟩, hS.F ht⟩) hS.2.2 dX3_read_98
def wX1_takeFrom (b0 : Nat) (b1 : Nat) (post : hsS → Prop) (σ : hsS) : Prop := ∀ σ1 : hsS, σ1 = hsI σ (64 * b0 + 0) (σ.1 (64 * b1 + 0)) → ∀ σ2 : hsS, σ2 = hsI σ1 (64 * b0 + 1) (σ1.1 (64 * b1 + 1)) → ∀ σ3 : hsS, σ3 = hsI σ2 (64 * b0 + 2) (σ2.1 (64 * b1 + 2)) → ∀ σ4 : hsS, σ4 = hsI σ3 (64 * b0 + 3) (σ3.1 (64 * b1 + 3)) → ∀ σ5 : hsS, σ5 = hsI σ4 (64 * b0 + 4) (σ4.1 (64 * b1 + 4)) → ∀ σ6 : hsS, σ6 = hsI σ5 (64 * b0 + 5) (σ5.1 (64 * b1 + 5)) → ∀ σ7 : hsS, σ7 = hsI σ6 (64 * b0 + 6) (σ6.1 (64 * b1 + 6)) → ∀ σ8 : hsS, σ8 = hsI σ7 (64 * b0 + 7) (σ7.1 (64 * b1 + 7)) → ∀ σ9 : hsS, σ9 = hsA σ8 (b0 + 1) (va_cpy (σ8.2.1 (b1 + 1)) (σ8.2.1 (b0 + 1)) (0 : Int32).toNatClampNeg (0 : Int32).toNatClampNeg (8 : Int32).toNatClampNeg) → ∀ σ10 : hsS, σ10 = hsA σ9 (b0 + 2) (va_cpy (σ9.2.1 (b1 + 2)) (σ9.2.1 (b0 + 2)) (0 : Int32).toNatClampNeg (0 : Int32).toNatClampNeg (72 : Int32).toNatClampNeg) → ∀ σ11 : hsS, σ11 = hsA σ10 (b0 + 3) (va_cpy (σ10.2.1 (b1 + 3)) (σ10.2.1 (b0 + 3)) (0 : Int32).toNatClampNeg (0 : Int32).toNatClampNeg (8 : Int32).toNatClampNeg) → ∀ σ12 : hsS, σ12 = hsA σ11 (b0 + 4) (va_cpy (σ11.2.1 (b1 + 4)) (σ11.2.1 (b0 + 4)) (0 : Int32).toNatClampNeg (0 : Int32).toNatClampNeg (8 : Int32).toNatClampNeg) → post σ12
set_option maxHeartbeats 4000000 in
set_option maxRecDepth 100000 in
theorem kcX1_takeFrom_1_13 (l : Launch) (D : va_G) (c : Nat → ClassId) (q : Nat → Nat) (ev : State → Heap → Prop) (hev : evOK (wdA 36 q) ev) (σ : hsS)  (post : hsS → Prop) (hw : wX1_takeFrom 1 13 post σ) : Met l yX1_takeFrom (Cond.code yX1_takeFrom cX1_takeFrom 2 none :: tb_L) { frames := 1, cells := 0, slots := 0, locals := 64 } (wdPc D (xw c q) (xwT c) (wdA 36 q) ev σ [.ref (q 1), .ref (q 13)]) (va_Qv post (wdB D (xw c q)) (wdA 36 q)) 0 0 (wdA 36 q) := by
  refine Met.ofW (cc := cX1_takeFrom) (maxL := 2) (ret := none) (by decide) rfl ?_
  intro p e s m args below meth c₀ s₁ Bd hml hv
  obtain ⟨rfl, hP, hK, hD0, hE⟩ := hv
  have hx := Bd.exec
  have hb := Bd.bytes
  have hr := Bd.returns
  have hts := atoms_spec (ws := Cond.code yX1_takeFrom cX1_takeFrom 2 none :: tb_L) Bd.pre
  have htb : ∀ w ∈ tb_L, w.before [.ref (q 1), .ref (q 13)].toArray s = true := fun w h => hts w (List.mem_cons_of_mem _ h)
  have hown : s.vm.findClass RX1 = some m.cls := findClass_of_methodNamed Bd.named
  have hlocks := Bd.notSynchronized
  have hS : va_S (wdA 36 q) s.heap s.heap [] := va_S.rf
  have hD := hD0
  have hl := lv_entry ([.ref (q 1), .ref (q 13)]) (n := 2) (Nat.le_of_ble_eq_true rfl)
  rw [lg_entry_eq]
  generalize (lg_sl ([.ref (q 1), .ref (q 13)]) ++ List.replicate (2 - (lg_sl ([.ref (q 1), .ref (q 13)])).length) Slot.unset).toArray = ls at hl ⊢
  have hl : lv_has ls 2 [(0, .ref (q 1)), (1, .ref (q 13))] := hl
  unfold wX1_takeFrom at hw
  refine lv_aload_n hx hb dX1_takeFrom_0 rfl (lv_at hl 0 rfl) ?_
  refine lv_aload_n hx hb dX1_takeFrom_1 rfl (lv_at hl 1 rfl) ?_
  refine va_get (D := D) (ci := 1) (C := RX1) (T := TX1) (N := 12) hx hb htb inX1 hown hK hP 13 (xw_13 c q σ) rfl 0 (by decide) (htb _ tb_126) (fun _ h9 => h9) rfl dX1_takeFrom_2 ?_
  refine va_put (D := D) (ci := 1) (ty := .int) (C := RX1) (T := TX1) (N := 12) hx hb htb inX1 tyX1 tyX1_ok nmX1 hown hK hP hD hS 1 (xw_1 c q σ) rfl 0 (by decide) (htb _ tb_126) (fun _ h9 => h9) rfl (by decide +kernel) rfl rfl (Nat.le_of_ble_eq_true rfl) dX1_takeFrom_5 (fun H locs hP hD hS => ?_)
  have hP : va_P D vwCl (xw c q (hsI σ 64 (σ.1 832))) H := hP
  obtain ⟨σ1, eσ1⟩ : ∃ z : hsS, z = hsI σ 64 (σ.1 832) := ⟨_, rfl⟩
  rw [← eσ1] at hP
  have hD : va_D (wdA 36 q) (xw c q σ1) := xw_D hD0
  have hw := hw σ1 eσ1
  refine lv_aload_n hx hb dX1_takeFrom_8 rfl (lv_at hl 0 rfl) ?_
  refine lv_aload_n hx hb dX1_takeFrom_9 rfl (lv_at hl 1 rfl) ?_
  refine va_get (D := D) (ci := 1) (C := RX1) (T := TX1) (N := 12) hx hb htb inX1 hown hK hP 13 (xw_13 c q σ1) rfl 1 (by decide) (htb _ tb_132) (fun _ h9 => h9) rfl dX1_takeFrom_10 ?_
  refine va_put (D := D) (ci := 1) (ty := .int) (C := RX1) (T := TX1) (N := 12) hx hb htb inX1 tyX1 tyX1_ok nmX1 hown hK hP hD hS 1 (xw_1 c q σ1) rfl 1 (by decide) (htb _ tb_132) (fun _ h9 => h9) rfl (by decide +kernel) rfl rfl (Nat.le_of_ble_eq_true rfl) dX1_takeFrom_13 (fun H locs hP hD hS => ?_)
  have hP : va_P D vwCl (xw c q (hsI σ1 65 (σ1.1 833))) H := hP
  obtain ⟨σ2, eσ2⟩ : ∃ z : hsS, z = hsI σ1 65 (σ1.1 833) := ⟨_, rfl⟩
  rw [← eσ2] at hP
  have hD : va_D (wdA 36 q) (xw c q σ2) := xw_D hD0
  have hw := hw σ2 eσ2
  refine lv_aload_n hx hb dX1_takeFrom_16 rfl (lv_at hl 0 rfl) ?_
  refine lv_aload_n hx hb dX1_takeFrom_17 rfl (lv_at hl 1 rfl) ?_
  refine va_get (D := D) (ci := 1) (C := RX1) (T := TX1) (N := 12) hx hb htb inX1 hown hK hP 13 (xw_13 c q σ2) rfl 2 (by decide) (htb _ tb_138) (fun _ h9 => h9) rfl dX1_takeFrom_18 ?_
  refine va_put (D := D) (ci := 1) (ty := .int) (C := RX1) (T := TX1) (N := 12) hx hb htb inX1 tyX1 tyX1_ok nmX1 hown hK hP hD hS 1 (xw_1 c q σ2) rfl 2 (by decide) (htb _ tb_138) (fun _ h9 => h9) rfl (by decide +kernel) rfl rfl (Nat.le_of_ble_eq_true rfl) dX1_takeFrom_21 (fun H locs hP hD hS => ?_)
  have hP : va_P D vwCl (xw c q (hsI σ2 66 (σ2.1 834))) H := hP
  obtain ⟨σ3, eσ3⟩ : ∃ z : hsS, z = hsI σ2 66 (σ2.1 834) := ⟨_, rfl⟩
  rw [← eσ3] at hP
  have hD : va_D (wdA 36 q) (xw c q σ3) := xw_D hD0
  have hw := hw σ3 eσ3
  refine lv_aload_n hx hb dX1_takeFrom_24 rfl (lv_at hl 0 rfl) ?_
  refine lv_aload_n hx hb dX1_takeFrom_25 rfl (lv_at hl 1 rfl) ?_
  refine va_get (D := D) (ci := 1) (C := RX1) (T := TX1) (N := 12) hx hb htb inX1 hown hK hP 13 (xw_13 c q σ3) rfl 3 (by decide) (htb _ tb_141) (fun _ h9 => h9) rfl dX1_takeFrom_26 ?_
  refine va_put (D := D) (ci := 1) (ty := .int) (C := RX1) (T := TX1) (N := 12) hx hb htb inX1 tyX1 tyX1_ok nmX1 hown hK hP hD hS 1 (xw_1 c q σ3) rfl 3 (by decide) (htb _ tb_141) (fun _ h9 => h9) rfl (by decide +kernel) rfl rfl (Nat.le_of_ble_eq_true rfl) dX1_takeFrom_29 (fun H locs hP hD hS => ?_)
  have hP : va_P D vwCl (xw c q (hsI σ3 67 (σ3.1 835))) H := hP
  obtain ⟨σ4, eσ4⟩ : ∃ z : hsS, z = hsI σ3 67 (σ3.1 835) := ⟨_, rfl⟩
  rw [← eσ4] at hP
  have hD : va_D (wdA 36 q) (xw c q σ4) := xw_D hD0
  have hw := hw σ4 eσ4
  refine lv_aload_n hx hb dX1_takeFrom_32 rfl (lv_at hl 0 rfl) ?_
  refine lv_aload_n hx hb dX1_takeFrom_33 rfl (lv_at hl 1 rfl) ?_
  refine va_get (D := D) (ci := 1) (C := RX1) (T := TX1) (N := 12) hx hb htb inX1 hown hK hP 13 (xw_13 c q σ4) rfl 4 (by decide) (htb _ tb_144) (fun _ h9 => h9) rfl dX1_takeFrom_34 ?_
  refine va_put (D := D) (ci := 1) (ty := .int) (C := RX1) (T := TX1) (N := 12) hx hb htb inX1 tyX1 tyX1_ok nmX1 hown hK hP hD hS 1 (xw_1 c q σ4) rfl 4 (by decide) (htb _ tb_144) (fun _ h9 => h9) rfl (by decide +kernel) rfl rfl (Nat.le_of_ble_eq_true rfl) dX1_takeFrom_37 (fun H locs hP hD hS => ?_)
  have hP : va_P D vwCl (xw c q (hsI σ4 68 (σ4.1 836))) H := hP
  obtain ⟨σ5, eσ5⟩ : ∃ z : hsS, z = hsI σ4 68 (σ4.1 836) := ⟨_, rfl⟩
  rw [← eσ5] at hP
  have hD : va_D (wdA 36 q) (xw c q σ5) := xw_D hD0
  have hw := hw σ5 eσ5
  refine lv_aload_n hx hb dX1_takeFrom_40 rfl (lv_at hl 0 rfl) ?_
  refine lv_aload_n hx hb dX1_takeFrom_41 rfl (lv_at hl 1 rfl) ?_
  refine va_get (D := D) (ci := 1) (C := RX1) (T := TX1) (N := 12) hx hb htb inX1 hown hK hP 13 (xw_13 c q σ5) rfl 5 (by decide) (htb _ tb_146) (fun _ h9 => h9) rfl dX1_takeFrom_42 ?_
  refine va_put (D := D) (ci := 1) (ty := .int) (C := RX1) (T := TX1) (N := 12) hx hb htb inX1 tyX1 tyX1_ok nmX1 hown hK hP hD hS 1 (xw_1 c q σ5) rfl 5 (by decide) (htb _ tb_146) (fun _ h9 => h9) rfl (by decide +kernel) rfl rfl (Nat.le_of_ble_eq_true rfl) dX1_takeFrom_45 (fun H locs hP hD hS => ?_)
  have hP : va_P D vwCl (xw c q (hsI σ5 69 (σ5.1 837))) H := hP
  obtain ⟨σ6, eσ6⟩ : ∃ z : hsS, z = hsI σ5 69 (σ5.1 837) := ⟨_, rfl⟩
  rw [← eσ6] at hP
  have hD : va_D (wdA 36 q) (xw c q σ6) := xw_D hD0
  have hw := hw σ6 eσ6
  refine lv_aload_n hx hb dX1_takeFrom_48 rfl (lv_at hl 0 rfl) ?_
  refine lv_aload_n hx hb dX1_takeFrom_49 rfl (lv_at hl 1 rfl) ?_
  refine va_get (D := D) (ci := 1) (C := RX1) (T := TX1) (N := 12) hx hb htb inX1 hown hK hP 13 (xw_13 c q σ6) rfl 6 (by decide) (htb _ tb_148) (fun _ h9 => h9) rfl dX1_takeFrom_50 ?_
  refine va_put (D := D) (ci := 1) (ty := .int) (C := RX1) (T := TX1) (N := 12) hx hb htb inX1 tyX1 tyX1_ok nmX1 hown hK hP hD hS 1 (xw_1 c q σ6) rfl 6 (by decide) (htb _ tb_148) (fun _ h9 => h9) rfl (by decide +kernel) rfl rfl (Nat.le_of_ble_eq_true rfl) dX1_takeFrom_53 (fun H locs hP hD hS => ?_)
  have hP : va_P D vwCl (xw c q (hsI σ6 70 (σ6.1 838))) H := hP
  obtain ⟨σ7, eσ7⟩ : ∃ z : hsS, z = hsI σ6 70 (σ6.1 838) := ⟨_, rfl⟩
  rw [← eσ7] at hP
  have hD : va_D (wdA 36 q) (xw c q σ7) := xw_D hD0
  have hw := hw σ7 eσ7
  refine lv_aload_n hx hb dX1_takeFrom_56 rfl (lv_at hl 0 rfl) ?_
  refine lv_aload_n hx hb dX1_takeFrom_57 rfl (lv_at hl 1 rfl) ?_
  refine va_get (D := D) (ci := 1) (C := RX1) (T := TX1) (N := 12) hx hb htb inX1 hown hK hP 13 (xw_13 c q σ7) rfl 7 (by decide) (htb _ tb_154) (fun _ h9 => h9) rfl dX1_takeFrom_58 ?_
  refine va_put (D := D) (ci := 1) (ty := .int) (C := RX1) (T := TX1) (N := 12) hx hb htb inX1 tyX1 tyX1_ok nmX1 hown hK hP hD hS 1 (xw_1 c q σ7) rfl 7 (by decide) (htb _ tb_154) (fun _ h9 => h9) rfl (by decide +kernel) rfl rfl (Nat.le_of_ble_eq_true rfl) dX1_takeFrom_61 (fun H locs hP hD hS => ?_)
  have hP : va_P D vwCl (xw c q (hsI σ7 71 (σ7.1 839))) H := hP
  obtain ⟨σ8, eσ8⟩ : ∃ z : hsS, z = hsI σ7 71 (σ7.1 839) := ⟨_, rfl⟩
  rw [← eσ8] at hP
  have hD : va_D (wdA 36 q) (xw c q σ8) := xw_D hD0
  have hw := hw σ8 eσ8
  refine lv_aload_n hx hb dX1_takeFrom_64 rfl (lv_at hl 1 rfl) ?_
  refine va_get (D := D) (ci := 1) (C := RX1) (T := TX1) (N := 12) hx hb htb inX1 hown hK hP 13 (xw_13 c q σ8) rfl 8 (by decide) (htb _ tb_156) (fun _ h9 => h9) rfl dX1_takeFrom_65 ?_
  refine lv_iconst (v := (0 : Int32)) hx hb dX1_takeFrom_68 (by decide) ?_
  refine lv_aload_n hx hb dX1_takeFrom_69 rfl (lv_at hl 0 rfl) ?_
  refine va_get (D := D) (ci := 1) (C := RX1) (T := TX1) (N := 12) hx hb htb inX1 hown hK hP 1 (xw_1 c q σ8) rfl 8 (by decide) (htb _ tb_156) (fun _ h9 => h9) rfl dX1_takeFrom_70 ?_
  refine lv_iconst (v := (0 : Int32)) hx hb dX1_takeFrom_73 (by decide) ?_
  refine lv_bipush (v := (8 : Int32)) hx hb dX1_takeFrom_74 (by decide) ?_
  refine va_copyi (ty := .int) hx hb (hml.trans hl.1.symm) hown (htb _ tb_572) (htb _ tb_574) (htb _ tb_573) (htb _ tb_110) hK hP hD hS 14 2 9 0 (xw_14 c q σ8) (xw_2 c q σ8) rfl rfl rfl (by decide) (by decide) (by decide) (by decide) (by decide) (fun _ _ => rfl) (Nat.le_of_ble_eq_true rfl) (Nat.le_of_ble_eq_true rfl) dX1_takeFrom_76 (fun H locs hP hD hS => ?_)
  have hP : va_P D vwCl (xw c q (hsA σ8 2 (va_cpy (σ8.2.1 14) (σ8.2.1 2) (0 : Int32).toNatClampNeg (0 : Int32).toNatClampNeg (8 : Int32).toNatClampNeg))) H := hP
  obtain ⟨σ9, eσ9⟩ : ∃ z : hsS, z = hsA σ8 2 (va_cpy (σ8.2.1 14) (σ8.2.1 2) (0 : Int32).toNatClampNeg (0 : Int32).toNatClampNeg (8 : Int32).toNatClampNeg) := ⟨_, rfl⟩
  rw [← eσ9] at hP
  have hD : va_D (wdA 36 q) (xw c q σ9) := xw_D hD0
  have hw := hw σ9 eσ9
  refine lv_aload_n hx hb dX1_takeFrom_79 rfl (lv_at hl 1 rfl) ?_
  refine va_get (D := D) (ci := 1) (C := RX1) (T := TX1) (N := 12) hx hb htb inX1 hown hK hP 13 (xw_13 c q σ9) rfl 9 (by decide) (htb _ tb_158) (fun _ h9 => h9) rfl dX1_takeFrom_80 ?_
  refine lv_iconst (v := (0 : Int32)) hx hb dX1_takeFrom_83 (by decide) ?_
  refine lv_aload_n hx hb dX1_takeFrom_84 rfl (lv_at hl 0 rfl) ?_
  refine va_get (D := D) (ci := 1) (C := RX1) (T := TX1) (N := 12) hx hb htb inX1 hown hK hP 1 (xw_1 c q σ9) rfl 9 (by decide) (htb _ tb_158) (fun _ h9 => h9) rfl dX1_takeFrom_85 ?_
  refine lv_iconst (v := (0 : Int32)) hx hb dX1_takeFrom_88 (by decide) ?_
  refine lv_bipush (v := (72 : Int32)) hx hb dX1_takeFrom_89 (by decide) ?_
  refine va_copyi (ty := .int) hx hb (hml.trans hl.1.symm) hown (htb _ tb_572) (htb _ tb_574) (htb _ tb_573) (htb _ tb_110) hK hP hD hS 15 3 10 1 (xw_15 c q σ9) (xw_3 c q σ9) rfl rfl rfl (by decide) (by decide) (by decide) (by decide) (by decide) (fun _ _ => rfl) (Nat.le_of_ble_eq_true rfl) (Nat.le_of_ble_eq_true rfl) dX1_takeFrom_91 (fun H locs hP hD hS => ?_)
  have hP : va_P D vwCl (xw c q (hsA σ9 3 (va_cpy (σ9.2.1 15) (σ9.2.1 3) (0 : Int32).toNatClampNeg (0 : Int32).toNatClampNeg (72 : Int32).toNatClampNeg))) H := hP
  obtain ⟨σ10, eσ10⟩ : ∃ z : hsS, z = hsA σ9 3 (va_cpy (σ9.2.1 15) (σ9.2.1 3) (0 : Int32).toNatClampNeg (0 : Int32).toNatClampNeg (72 : Int32).toNatClampNeg) := ⟨_, rfl⟩
  rw [← eσ10] at hP
  have hD : va_D (wdA 36 q) (xw c q σ10) := xw_D hD0
  have hw := hw σ10 eσ10
  refine lv_aload_n hx hb dX1_takeFrom_94 rfl (lv_at hl 1 rfl) ?_
  refine va_get (D := D) (ci := 1) (C := RX1) (T := TX1) (N := 12) hx hb htb inX1 hown hK hP 13 (xw_13 c q σ10) rfl 10 (by decide) (htb _ tb_159) (fun _ h9 => h9) rfl dX1_takeFrom_95 ?_
  refine lv_iconst (v := (0 : Int32)) hx hb dX1_takeFrom_98 (by decide) ?_
  refine lv_aload_n hx hb dX1_takeFrom_99 rfl (lv_at hl 0 rfl) ?_
  refine va_get (D := D) (ci := 1) (C := RX1) (T := TX1) (N := 12) hx hb htb inX1 hown hK hP 1 (xw_1 c q σ10) rfl 10 (by decide) (htb _ tb_159) (fun _ h9 => h9) rfl dX1_takeFrom_100 ?_
  refine lv_iconst (v := (0 : Int32)) hx hb dX1_takeFrom_103 (by decide) ?_
  refine lv_bipush (v := (8 : Int32)) hx hb dX1_takeFrom_104 (by decide) ?_
  refine va_copyi (ty := .int) hx hb (hml.trans hl.1.symm) hown (htb _ tb_572) (htb _ tb_574) (htb _ tb_573) (htb _ tb_110) hK hP hD hS 16 4 11 2 (xw_16 c q σ10) (xw_4 c q σ10) rfl rfl rfl (by decide) (by decide) (by decide) (by decide) (by decide) (fun _ _ => rfl) (Nat.le_of_ble_eq_true rfl) (Nat.le_of_ble_eq_true rfl) dX1_takeFrom_106 (fun H locs hP hD hS => ?_)
  have hP : va_P D vwCl (xw c q (hsA σ10 4 (va_cpy (σ10.2.1 16) (σ10.2.1 4) (0 : Int32).toNatClampNeg (0 : Int32).toNatClampNeg (8 : Int32).toNatClampNeg))) H := hP
  obtain ⟨σ11, eσ11⟩ : ∃ z : hsS, z = hsA σ10 4 (va_cpy (σ10.2.1 16) (σ10.2.1 4) (0 : Int32).toNatClampNeg (0 : Int32).toNatClampNeg (8 : Int32).toNatClampNeg) := ⟨_, rfl⟩
  rw [← eσ11] at hP
  have hD : va_D (wdA 36 q) (xw c q σ11) := xw_D hD0
  have hw := hw σ11 eσ11
  refine lv_aload_n hx hb dX1_takeFrom_109 rfl (lv_at hl 1 rfl) ?_
  refine va_get (D := D) (ci := 1) (C := RX1) (T := TX1) (N := 12) hx hb htb inX1 hown hK hP 13 (xw_13 c q σ11) rfl 11 (by decide) (htb _ tb_161) (fun _ h9 => h9) rfl dX1_takeFrom_110 ?_
  refine lv_iconst (v := (0 : Int32)) hx hb dX1_takeFrom_113 (by decide) ?_
  refine lv_aload_n hx hb dX1_takeFrom_114 rfl (lv_at hl 0 rfl) ?_
  refine va_get (D := D) (ci := 1) (C := RX1) (T := TX1) (N := 12) hx hb htb inX1 hown hK hP 1 (xw_1 c q σ11) rfl 11 (by decide) (htb _ tb_161) (fun _ h9 => h9) rfl dX1_takeFrom_115 ?_
  refine lv_iconst (v := (0 : Int32)) hx hb dX1_takeFrom_118 (by decide) ?_
  refine lv_bipush (v := (8 : Int32)) hx hb dX1_takeFrom_119 (by decide) ?_
  refine va_copyi (ty := .int) hx hb (hml.trans hl.1.symm) hown (htb _ tb_572) (htb _ tb_574) (htb _ tb_573) (htb _ tb_110) hK hP hD hS 17 5 12 3 (xw_17 c q σ11) (xw_5 c q σ11) rfl rfl rfl (by decide) (by decide) (by decide) (by decide) (by decide) (fun _ _ => rfl) (Nat.le_of_ble_eq_true rfl) (Nat.le_of_ble_eq_true rfl) dX1_takeFrom_121 (fun H locs hP hD hS => ?_)
  have hP : va_P D vwCl (xw c q (hsA σ11 5 (va_cpy (σ11.2.1 17) (σ11.2.1 5) (0 : Int32).toNatClampNeg (0 : Int32).toNatClampNeg (8 : Int32).toNatClampNeg))) H := hP
  obtain ⟨σ12, eσ12⟩ : ∃ z : hsS, z = hsA σ11 5 (va_cpy (σ11.2.1 17) (σ11.2.1 5) (0 : Int32).toNatClampNeg (0 : Int32).toNatClampNeg (8 : Int32).toNatClampNeg) := ⟨_, rfl⟩
  rw [← eσ12] at hP
  have hD : va_D (wdA 36 q) (xw c q σ12) := xw_D hD0
  have hw := hw σ12 eσ12
  exact W.vret hx hb hr (fun t ht hW => ⟨⟨σ12, rfl, hw, by unfold wdB; rw [ht]; exact hP⟩, hS.F ht⟩) hS.2.2 dX1_takeFrom_124
def wX6_forget (b0 : Nat) (post : hsS → Prop) (σ : hsS) : Prop := ∀ σ1 : hsS, σ1 = hsI σ (64 * b0 + 1) (0 : Int32) → post σ1
set_option maxHeartbeats 4000000 in
set_option maxRecDepth 100000 in
theorem kcX6_forget_23 (l : Launch) (D : va_G) (c : Nat → ClassId) (q : Nat → Nat) (ev : State → Heap → Prop) (hev : evOK (wdA 36 q) ev) (σ : hsS)  (post : hsS → Prop) (hw : wX6_forget 23 post σ) : Met l yX6_forget (Cond.code yX6_forget cX6_forget 1 none :: tb_L) { frames := 0, cells := 0, slots := 0, locals := 0 } (wdPc D (xw c q) (xwT c) (wdA 36 q) ev σ [.ref (q 23)]) (va_Qv post (wdB D (xw c q)) (wdA 36 q)) 0 0 (wdA 36 q) := by
  refine Met.ofW (cc := cX6_forget) (maxL := 1) (ret := none) (by decide) rfl ?_
  intro p e s m args below meth c₀ s₁ Bd hml hv
  obtain ⟨rfl, hP, hK, hD0, hE⟩ := hv
  have hx := Bd.exec
  have hb := Bd.bytes
  have hr := Bd.returns
  have hts := atoms_spec (ws := Cond.code yX6_forget cX6_forget 1 none :: tb_L) Bd.pre
  have htb : ∀ w ∈ tb_L, w.before [.ref (q 23)].toArray s = true := fun w h => hts w (List.mem_cons_of_mem _ h)
  have hown : s.vm.findClass RX6 = some m.cls := findClass_of_methodNamed Bd.named
  have hlocks := Bd.notSynchronized
  have hS : va_S (wdA 36 q) s.heap s.heap [] := va_S.rf
  have hD := hD0
  have hl := lv_entry ([.ref (q 23)]) (n := 1) (Nat.le_of_ble_eq_true rfl)
  rw [lg_entry_eq]
  generalize (lg_sl ([.ref (q 23)]) ++ List.replicate (1 - (lg_sl ([.ref (q 23)])).length) Slot.unset).toArray = ls at hl ⊢
  have hl : lv_has ls 1 [(0, .ref (q 23))] := hl
  unfold wX6_forget at hw
  refine lv_aload_n hx hb dX6_forget_0 rfl (lv_at hl 0 rfl) ?_
  refine lv_iconst (v := (0 : Int32)) hx hb dX6_forget_1 (by decide) ?_
  refine va_put (D := D) (ci := 6) (ty := .boolean) (C := RX6) (T := TX6) (N := 4) hx hb htb inX6 tyX6 tyX6_ok nmX6 hown hK hP hD hS 23 (xw_23 c q σ) rfl 1 (by decide) (htb _ tb_266) (fun _ h9 => h9) rfl (by decide +kernel) rfl rfl (Nat.le_of_ble_eq_true rfl) dX6_forget_2 (fun H locs hP hD hS => ?_)
  have hP : va_P D vwCl (xw c q (hsI σ 1473 (0 : Int32))) H := hP
  obtain ⟨σ1, eσ1⟩ : ∃ z : hsS, z = hsI σ 1473 (0 : Int32) := ⟨_, rfl⟩
  rw [← eσ1] at hP
  have hD : va_D (wdA 36 q) (xw c q σ1) := xw_D hD0
  have hw := hw σ1 eσ1
  exact W.vret hx hb hr (fun t ht hW => ⟨⟨σ1, rfl, hw, by unfold wdB; rw [ht]; exact hP⟩, hS.F ht⟩) hS.2.2 dX6_forget_5
def wX2_forget (b0 : Nat) (post : hsS → Prop) (σ : hsS) : Prop := ∀ σ1 : hsS, σ1 = hsI σ (64 * b0 + 4) (0 : Int32) → post σ1
set_option maxHeartbeats 4000000 in
set_option maxRecDepth 100000 in
theorem kcX2_forget_25 (l : Launch) (D : va_G) (c : Nat → ClassId) (q : Nat → Nat) (ev : State → Heap → Prop) (hev : evOK (wdA 36 q) ev) (σ : hsS)  (post : hsS → Prop) (hw : wX2_forget 25 post σ) : Met l yX2_forget (Cond.code yX2_forget cX2_forget 1 none :: tb_L) { frames := 0, cells := 0, slots := 0, locals := 0 } (wdPc D (xw c q) (xwT c) (wdA 36 q) ev σ [.ref (q 25)]) (va_Qv post (wdB D (xw c q)) (wdA 36 q)) 0 0 (wdA 36 q) := by
  refine Met.ofW (cc := cX2_forget) (maxL := 1) (ret := none) (by decide) rfl ?_
  intro p e s m args below meth c₀ s₁ Bd hml hv
  obtain ⟨rfl, hP, hK, hD0, hE⟩ := hv
  have hx := Bd.exec
  have hb := Bd.bytes
  have hr := Bd.returns
  have hts := atoms_spec (ws := Cond.code yX2_forget cX2_forget 1 none :: tb_L) Bd.pre
  have htb : ∀ w ∈ tb_L, w.before [.ref (q 25)].toArray s = true := fun w h => hts w (List.mem_cons_of_mem _ h)
  have hown : s.vm.findClass RX2 = some m.cls := findClass_of_methodNamed Bd.named
  have hlocks := Bd.notSynchronized
  have hS : va_S (wdA 36 q) s.heap s.heap [] := va_S.rf
  have hD := hD0
  have hl := lv_entry ([.ref (q 25)]) (n := 1) (Nat.le_of_ble_eq_true rfl)
  rw [lg_entry_eq]
  generalize (lg_sl ([.ref (q 25)]) ++ List.replicate (1 - (lg_sl ([.ref (q 25)])).length) Slot.unset).toArray = ls at hl ⊢
  have hl : lv_has ls 1 [(0, .ref (q 25))] := hl
  unfold wX2_forget at hw
  refine lv_aload_n hx hb dX2_forget_0 rfl (lv_at hl 0 rfl) ?_
  refine lv_iconst (v := (0 : Int32)) hx hb dX2_forget_1 (by decide) ?_
  refine va_put (D := D) (ci := 2) (ty := .boolean) (C := RX2) (T := TX2) (N := 8) hx hb htb inX2 tyX2 tyX2_ok nmX2 hown hK hP hD hS 25 (xw_25 c q σ) rfl 4 (by decide) (htb _ tb_289) (fun _ h9 => h9) rfl (by decide +kernel) rfl rfl (Nat.le_of_ble_eq_true rfl) dX2_forget_2 (fun H locs hP hD hS => ?_)
  have hP : va_P D vwCl (xw c q (hsI σ 1604 (0 : Int32))) H := hP
  obtain ⟨σ1, eσ1⟩ : ∃ z : hsS, z = hsI σ 1604 (0 : Int32) := ⟨_, rfl⟩
  rw [← eσ1] at hP
  have hD : va_D (wdA 36 q) (xw c q σ1) := xw_D hD0
  have hw := hw σ1 eσ1
  exact W.vret hx hb hr (fun t ht hW => ⟨⟨σ1, rfl, hw, by unfold wdB; rw [ht]; exact hP⟩, hS.F ht⟩) hS.2.2 dX2_forget_5
def wJ7_fill_53178_L5 (b0 : Nat) (z1 : Int32) (z3 : Int32) (K20 : Int32 → hsS → Prop) (post : hsS → Prop) : Nat → Int32 → hsS → Prop
  | 0, _, _ => False
  | n + 1, y2, σ => ((z3 ≤ y2 → K20 y2 σ) ∧ (¬ z3 ≤ y2 → vp_in y2 8 ∧ ∀ σ2 : hsS, σ2 = hsA σ b0 (upd (σ.2.1 b0) y2.toNatClampNeg z1) → ∀ v3 : Int32, v3 = y2 + (1 : Int32) → wJ7_fill_53178_L5 b0 z1 z3 K20 post n v3 σ2))
def wJ7_fill_53178 (b0 : Nat) (x1 : Int32) (post : hsS → Prop) (σ : hsS) : Prop := ∃ n4, wJ7_fill_53178_L5 b0 x1 (8 : Int32) (fun v5 σ6 => post σ6) post n4 (0 : Int32) σ
set_option maxHeartbeats 4000000 in
set_option maxRecDepth 100000 in
theorem kcJ7_fill_53178_33 (l : Launch) (D : va_G) (c : Nat → ClassId) (q : Nat → Nat) (ev : State → Heap → Prop) (hev : evOK (wdA 36 q) ev) (σ : hsS) (x1 : Int32) (post : hsS → Prop) (hw : wJ7_fill_53178 33 x1 post σ) : Met l yJ7_fill_53178 (Cond.code yJ7_fill_53178 cJ7_fill_53178 4 none :: tb_L) { frames := 0, cells := 0, slots := 0, locals := 0 } (wdPc D (xw c q) (xwT c) (wdA 36 q) ev σ [.ref (q 33), .int x1]) (va_Qv post (wdB D (xw c q)) (wdA 36 q)) 0 0 (wdA 36 q) := by
  refine Met.ofW (cc := cJ7_fill_53178) (maxL := 4) (ret := none) (by decide) rfl ?_
  intro p e s m args below meth c₀ s₁ Bd hml hv
  obtain ⟨rfl, hP, hK, hD0, hE⟩ := hv
  have hx := Bd.exec
  have hb := Bd.bytes
  have hr := Bd.returns
  have hts := atoms_spec (ws := Cond.code yJ7_fill_53178 cJ7_fill_53178 4 none :: tb_L) Bd.pre
  have htb : ∀ w ∈ tb_L, w.before [.ref (q 33), .int x1].toArray s = true := fun w h => hts w (List.mem_cons_of_mem _ h)
  have hown : s.vm.findClass RJ7 = some m.cls := findClass_of_methodNamed Bd.named
  have hlocks := Bd.notSynchronized
  have hS : va_S (wdA 36 q) s.heap s.heap [] := va_S.rf
  have hD := hD0
  have L5 : ∀ (K20 : Int32 → hsS → Prop) (z1 : Int32) (z3 : Int32) (n : Nat) (y2 : Int32) (σ : hsS) (H : Heap) (locs : List Loc) (ls : Array Slot), wJ7_fill_53178_L5 33 z1 z3 K20 post n y2 σ → (∀ (y2 : Int32) (σ : hsS) (H : Heap) (locs : List Loc) (ls : Array Slot), K20 y2 σ → va_P D vwCl (xw c q σ) H → va_S (wdA 36 q) s.heap H locs → lv_has ls 4 [(0, .ref (q 33)), (1, .int z1), (2, .int y2), (3, .int z3)] → W p l e (headSpec (Cond.code yJ7_fill_53178 cJ7_fill_53178 4 none :: tb_L) { frames := 0, cells := 0, slots := 0, locals := 0 }).room s m [.ref (q 33), .int x1].toArray below meth c₀ H locs 0 0 (MQ below (va_Qv post (wdB D (xw c q)) (wdA 36 q)) [.ref (q 33), .int x1].toArray s 0 0 (wdA 36 q)) (F0 m 20 ls [])) → va_P D vwCl (xw c q σ) H → va_S (wdA 36 q) s.heap H locs → lv_has ls 4 [(0, .ref (q 33)), (1, .int z1), (2, .int y2), (3, .int z3)] → W p l e (headSpec (Cond.code yJ7_fill_53178 cJ7_fill_53178 4 none :: tb_L) { frames := 0, cells := 0, slots := 0, locals := 0 }).room s m [.ref (q 33), .int x1].toArray below meth c₀ H locs 0 0 (MQ below (va_Qv post (wdB D (xw c q)) (wdA 36 q)) [.ref (q 33), .int x1].toArray s 0 0 (wdA 36 q)) (F0 m 5 ls []) := by
    intro K20 z1 z3 n
    induction n with
    | zero =>
      intro y2 σ H locs ls hw hk20 hP hS hl
      exact (show False from hw).elim
    | succ n ih =>
      intro y2 σ H locs ls hw hk20 hP hS hl
      rw [wJ7_fill_53178_L5] at hw
      have hD : va_D (wdA 36 q) (xw c q σ) := xw_D hD0
      refine lv_iload_n hx hb dJ7_fill_53178_5 rfl (lv_at hl 2 rfl) ?_
      refine lv_iload_n hx hb dJ7_fill_53178_6 rfl (lv_at hl 3 rfl) ?_
      refine lv_icmp_ge (tgt := 20) hx hb dJ7_fill_53178_7 (by decide) (fun c1 => ?_) (fun c1 => ?_)
      · have hw := hw.1 c1
        exact hk20 y2 σ _ _ _ hw hP hS (lv_sub hl [0, 1, 2, 3] rfl)
      · have hw := hw.2 c1
        refine lv_aload_n hx hb dJ7_fill_53178_10 rfl (lv_at hl 0 rfl) ?_
        refine lv_iload_n hx hb dJ7_fill_53178_11 rfl (lv_at hl 2 rfl) ?_
        refine lv_iload_n hx hb dJ7_fill_53178_12 rfl (lv_at hl 1 rfl) ?_
        refine va_iast hx hb hK hP hD hS 33 23 (xw_33 c q σ) rfl hw.1 dJ7_fill_53178_13 (fun H locs hP hD hS => ?_)
        have hw := hw.2
        have hP : va_P D vwCl (xw c q (hsA σ 33 (upd (σ.2.1 33) y2.toNatClampNeg z1))) H := hP
        obtain ⟨σ2, eσ2⟩ : ∃ z : hsS, z = hsA σ 33 (upd (σ.2.1 33) y2.toNatClampNeg z1) := ⟨_, rfl⟩
        rw [← eσ2] at hP
        have hD : va_D (wdA 36 q) (xw c q σ2) := xw_D hD0
        have hw := hw σ2 eσ2
        obtain ⟨v3, ev3⟩ : ∃ z : Int32, z = y2 + (1 : Int32) := ⟨_, rfl⟩
        have hw := hw v3 ev3
        refine lv_iinc (v := v3) (lv' := [(2, .int v3), (0, .ref (q 33)), (1, .int z1), (3, .int z3)]) hx hb dJ7_fill_53178_14 hl (k := 2) rfl (by rw [ev3]; rfl) (by decide) rfl (fun ls hl => ?_)
        refine lv_goto (tgt := 5) hx hb dJ7_fill_53178_17 (by decide) ?_
        exact ih v3 σ2 _ _ _ hw hk20 hP hS (lv_sub hl [1, 2, 0, 3] rfl)
  have hl := lv_entry ([.ref (q 33), .int x1]) (n := 4) (Nat.le_of_ble_eq_true rfl)
  rw [lg_entry_eq]
  generalize (lg_sl ([.ref (q 33), .int x1]) ++ List.replicate (4 - (lg_sl ([.ref (q 33), .int x1])).length) Slot.unset).toArray = ls at hl ⊢
  have hl : lv_has ls 4 [(0, .ref (q 33)), (1, .int x1)] := hl
  unfold wJ7_fill_53178 at hw
  refine lv_iconst (v := (0 : Int32)) hx hb dJ7_fill_53178_0 (by decide) ?_
  refine lv_istore_n (lv' := [(2, .int (0 : Int32)), (0, .ref (q 33)), (1, .int x1)]) hx hb dJ7_fill_53178_1 rfl hl (by decide) rfl (fun ls hl => ?_)
  refine lv_aload_n hx hb dJ7_fill_53178_2 rfl (lv_at hl 1 rfl) ?_
  refine va_alen (v := 8) (ty := .int) hx hb hK hP 33 23 (xw_33 c q σ) rfl rfl dJ7_fill_53178_3 ?_
  refine lv_istore_n (lv' := [(3, .int (8 : Int32)), (2, .int (0 : Int32)), (0, .ref (q 33)), (1, .int x1)]) hx hb dJ7_fill_53178_4 rfl hl (by decide) rfl (fun ls hl => ?_)
  obtain ⟨n4, hw⟩ := hw
  refine L5 _ x1 (8 : Int32) n4 (0 : Int32) σ _ _ _ hw ?_ hP hS (lv_sub hl [2, 3, 1, 0] rfl)
  intro v5 σ6 H locs ls hw hP hS hl
  have hD : va_D (wdA 36 q) (xw c q σ6) := xw_D hD0
  exact W.vret hx hb hr (fun t ht hW => ⟨⟨σ6, rfl, hw, by unfold wdB; rw [ht]; exact hP⟩, hS.F ht⟩) hS.2.2 dJ7_fill_53178_20
def wX0_empty (b0 : Nat) (post : hsS → Prop) (σ : hsS) : Prop := ∀ σ1 : hsS, σ1 = hsI σ (64 * b0 + 2) (0 : Int32) → wJ7_fill_53178 (b0 + 3) (2 : Int32) (fun σ3 => post σ3) σ1
set_option maxHeartbeats 4000000 in
set_option maxRecDepth 100000 in
theorem kcX0_empty_30 (l : Launch) (D : va_G) (c : Nat → ClassId) (q : Nat → Nat) (ev : State → Heap → Prop) (hev : evOK (wdA 36 q) ev) (σ : hsS)  (post : hsS → Prop) (hw : wX0_empty 30 post σ) : Met l yX0_empty (Cond.code yX0_empty cX0_empty 1 none :: tb_L) { frames := 1, cells := 0, slots := 0, locals := 23 } (wdPc D (xw c q) (xwT c) (wdA 36 q) ev σ [.ref (q 30)]) (va_Qv post (wdB D (xw c q)) (wdA 36 q)) 0 0 (wdA 36 q) := by
  refine Met.ofW (cc := cX0_empty) (maxL := 1) (ret := none) (by decide) rfl ?_
  intro p e s m args below meth c₀ s₁ Bd hml hv
  obtain ⟨rfl, hP, hK, hD0, hE⟩ := hv
  have hx := Bd.exec
  have hb := Bd.bytes
  have hr := Bd.returns
  have hts := atoms_spec (ws := Cond.code yX0_empty cX0_empty 1 none :: tb_L) Bd.pre
  have htb : ∀ w ∈ tb_L, w.before [.ref (q 30)].toArray s = true := fun w h => hts w (List.mem_cons_of_mem _ h)
  have hown : s.vm.findClass RX0 = some m.cls := findClass_of_methodNamed Bd.named
  have hlocks := Bd.notSynchronized
  have hS : va_S (wdA 36 q) s.heap s.heap [] := va_S.rf
  have hD := hD0
  have hl := lv_entry ([.ref (q 30)]) (n := 1) (Nat.le_of_ble_eq_true rfl)
  rw [lg_entry_eq]
  generalize (lg_sl ([.ref (q 30)]) ++ List.replicate (1 - (lg_sl ([.ref (q 30)])).length) Slot.unset).toArray = ls at hl ⊢
  have hl : lv_has ls 1 [(0, .ref (q 30))] := hl
  unfold wX0_empty at hw
  refine lv_aload_n hx hb dX0_empty_0 rfl (lv_at hl 0 rfl) ?_
  refine lv_iconst (v := (0 : Int32)) hx hb dX0_empty_1 (by decide) ?_
  refine va_put (D := D) (ci := 0) (ty := .int) (C := RX0) (T := TX0) (N := 5) hx hb htb inX0 tyX0 tyX0_ok nmX0 hown hK hP hD hS 30 (xw_30 c q σ) rfl 2 (by decide) (htb _ tb_325) (fun _ h9 => h9) rfl (by decide +kernel) rfl rfl (Nat.le_of_ble_eq_true rfl) dX0_empty_2 (fun H locs hP hD hS => ?_)
  have hP : va_P D vwCl (xw c q (hsI σ 1922 (0 : Int32))) H := hP
  obtain ⟨σ1, eσ1⟩ : ∃ z : hsS, z = hsI σ 1922 (0 : Int32) := ⟨_, rfl⟩
  rw [← eσ1] at hP
  have hD : va_D (wdA 36 q) (xw c q σ1) := xw_D hD0
  have hw := hw σ1 eσ1
  refine lv_aload_n hx hb dX0_empty_5 rfl (lv_at hl 0 rfl) ?_
  refine va_get (D := D) (ci := 0) (C := RX0) (T := TX0) (N := 5) hx hb htb inX0 hown hK hP 30 (xw_30 c q σ1) rfl 3 (by decide) (htb _ tb_327) (fun _ h9 => h9) rfl dX0_empty_6 ?_
  refine lv_iconst (v := (2 : Int32)) hx hb dX0_empty_9 (by decide) ?_
  refine va_callv (va_runS (As := [.ref (q 33), .int (2 : Int32)]) (rest := []) ⟨hx, hb, hml, hown, htb⟩ (kcJ7_fill_53178_33 l D c q ev hev σ1 (2 : Int32) _ hw) (tb_CS htb kJ7_fill_53178 tb_319 tb_320 ⟨Nat.le_of_ble_eq_true rfl, Nat.le_of_ble_eq_true rfl⟩) (wd_preS (wd := xw c q) hev hK hP hD hE hS) rfl rfl hl.1 rfl (lv_room (Nat.le_of_ble_eq_true rfl)) dX0_empty_10 ⟨Nat.zero_le _, Nat.zero_le _⟩) hS (fun q _ h => h) (fun q h => h) (fun σ3 t H1 locs1 ht hvm hw hB hz1 hk1 hS => ?_)
  have hP : va_P D vwCl (xw c q σ3) H1 := ht ▸ hB
  have hD : va_D (wdA 36 q) (xw c q σ3) := xw_D hD0
  exact W.vret hx hb hr (fun t ht hW => ⟨⟨σ3, rfl, hw, by unfold wdB; rw [ht]; exact hP⟩, hS.F ht⟩) hS.2.2 dX0_empty_13
def wX7_forgetOldHall  (post : hsS → Prop) (σ : hsS) : Prop := wX6_forget 23 (fun σ2 => wX2_forget 25 (fun σ4 => wX0_empty 30 (fun σ6 => post σ6) σ4) σ2) σ
set_option maxHeartbeats 4000000 in
set_option maxRecDepth 100000 in
theorem kcX7_forgetOldHall (l : Launch) (D : va_G) (c : Nat → ClassId) (q : Nat → Nat) (ev : State → Heap → Prop) (hev : evOK (wdA 36 q) ev) (σ : hsS)  (post : hsS → Prop) (hw : wX7_forgetOldHall  post σ) : Met l yX7_forgetOldHall (Cond.code yX7_forgetOldHall cX7_forgetOldHall 1 none :: tb_L) { frames := 2, cells := 0, slots := 0, locals := 43 } (wdPc D (xw c q) (xwT c) (wdA 36 q) ev σ [.ref (q 0)]) (va_Qv post (wdB D (xw c q)) (wdA 36 q)) 0 0 (wdA 36 q) := by
  refine Met.ofW (cc := cX7_forgetOldHall) (maxL := 1) (ret := none) (by decide) rfl ?_
  intro p e s m args below meth c₀ s₁ Bd hml hv
  obtain ⟨rfl, hP, hK, hD0, hE⟩ := hv
  have hx := Bd.exec
  have hb := Bd.bytes
  have hr := Bd.returns
  have hts := atoms_spec (ws := Cond.code yX7_forgetOldHall cX7_forgetOldHall 1 none :: tb_L) Bd.pre
  have htb : ∀ w ∈ tb_L, w.before [.ref (q 0)].toArray s = true := fun w h => hts w (List.mem_cons_of_mem _ h)
  have hown : s.vm.findClass RX7 = some m.cls := findClass_of_methodNamed Bd.named
  have hlocks := Bd.notSynchronized
  have hS : va_S (wdA 36 q) s.heap s.heap [] := va_S.rf
  have hD := hD0
  have hl := lv_entry ([.ref (q 0)]) (n := 1) (Nat.le_of_ble_eq_true rfl)
  rw [lg_entry_eq]
  generalize (lg_sl ([.ref (q 0)]) ++ List.replicate (1 - (lg_sl ([.ref (q 0)])).length) Slot.unset).toArray = ls at hl ⊢
  have hl : lv_has ls 1 [(0, .ref (q 0))] := hl
  unfold wX7_forgetOldHall at hw
  refine lv_aload_n hx hb dX7_forgetOldHall_0 rfl (lv_at hl 0 rfl) ?_
  refine va_get (D := D) (ci := 7) (C := RX7) (T := TX7) (N := 9) hx hb htb inX7 hown hK hP 0 (xw_0 c q σ) rfl 5 (by decide) (htb _ tb_347) (fun _ h9 => h9) rfl dX7_forgetOldHall_1 ?_
  refine va_callv (va_runV (As := []) (rest := []) ⟨hx, hb, hml, hown, htb⟩ (kcX6_forget_23 l D c q ev hev σ  _ hw) (tb_CW htb kX6_forget tb_863 tb_864 tb_865 ⟨Nat.le_of_ble_eq_true rfl, Nat.le_of_ble_eq_true rfl⟩) (wd_preV (wd := xw c q) (k := 23) hev hK hP hD hE hS (xw_23 c q σ) rfl) rfl rfl hl.1 rfl (lv_room (Nat.le_of_ble_eq_true rfl)) dX7_forgetOldHall_4 ⟨Nat.zero_le _, Nat.zero_le _⟩) hS (fun q _ h => h) (fun q h => h) (fun σ2 t H1 locs1 ht hvm hw hB hz1 hk1 hS => ?_)
  have hP : va_P D vwCl (xw c q σ2) H1 := ht ▸ hB
  have hD : va_D (wdA 36 q) (xw c q σ2) := xw_D hD0
  refine lv_aload_n hx hb dX7_forgetOldHall_7 rfl (lv_at hl 0 rfl) ?_
  refine va_get (D := D) (ci := 7) (C := RX7) (T := TX7) (N := 9) hx hb htb inX7 hown hK hP 0 (xw_0 c q σ2) rfl 6 (by decide) (htb _ tb_348) (fun _ h9 => h9) rfl dX7_forgetOldHall_8 ?_
  refine va_callv (va_runV (As := []) (rest := []) ⟨hx, hb, hml, hown, htb⟩ (kcX2_forget_25 l D c q ev hev σ2  _ hw) (tb_CW htb kX2_forget tb_867 tb_868 tb_869 ⟨Nat.le_of_ble_eq_true rfl, Nat.le_of_ble_eq_true rfl⟩) (wd_preV (wd := xw c q) (k := 25) hev hK hP hD hE hS (xw_25 c q σ2) rfl) rfl rfl hl.1 rfl (lv_room (Nat.le_of_ble_eq_true rfl)) dX7_forgetOldHall_11 ⟨Nat.zero_le _, Nat.zero_le _⟩) hS (fun q _ h => h) (fun q h => h) (fun σ4 t H1 locs1 ht hvm hw hB hz1 hk1 hS => ?_)
  have hP : va_P D vwCl (xw c q σ4) H1 := ht ▸ hB
  have hD : va_D (wdA 36 q) (xw c q σ4) := xw_D hD0
  refine lv_aload_n hx hb dX7_forgetOldHall_14 rfl (lv_at hl 0 rfl) ?_
  refine va_get (D := D) (ci := 7) (C := RX7) (T := TX7) (N := 9) hx hb htb inX7 hown hK hP 0 (xw_0 c q σ4) rfl 7 (by decide) (htb _ tb_349) (fun _ h9 => h9) rfl dX7_forgetOldHall_15 ?_
  refine va_callv (va_runV (As := []) (rest := []) ⟨hx, hb, hml, hown, htb⟩ (kcX0_empty_30 l D c q ev hev σ4  _ hw) (tb_CW htb kX0_empty tb_871 tb_872 tb_873 ⟨Nat.le_of_ble_eq_true rfl, Nat.le_of_ble_eq_true rfl⟩) (wd_preV (wd := xw c q) (k := 30) hev hK hP hD hE hS (xw_30 c q σ4) rfl) rfl rfl hl.1 rfl (lv_room (Nat.le_of_ble_eq_true rfl)) dX7_forgetOldHall_18 ⟨Nat.zero_le _, Nat.zero_le _⟩) hS (fun q _ h => h) (fun q h => h) (fun σ6 t H1 locs1 ht hvm hw hB hz1 hk1 hS => ?_)
  have hP : va_P D vwCl (xw c q σ6) H1 := ht ▸ hB
  have hD : va_D (wdA 36 q) (xw c q σ6) := xw_D hD0
  exact W.vret hx hb hr (fun t ht hW => ⟨⟨σ6, rfl, hw, by unfold wdB; rw [ht]; exact hP⟩, hS.F ht⟩) hS.2.2 dX7_forgetOldHall_21
def wX7_hall (x1 : Int32) (post : Int32 → hsS → Prop) (px : hsS → Prop) (σ : hsS) : Prop := ((x1 < (0 : Int32) → px σ) ∧ (¬ x1 < (0 : Int32) → ((x1 ≤ (σ.1 706) → wX3_read 11 x1 (fun r3 σ4 => ((r3 = (0 : Int32) → wX1_takeFrom 1 13 (fun σ7 => wX7_forgetOldHall  (fun σ9 => post r3 σ9) σ7) σ4) ∧ (¬ r3 = (0 : Int32) → post r3 σ4))) σ) ∧ (¬ x1 ≤ (σ.1 706) → px σ))))
set_option maxHeartbeats 4000000 in
set_option maxRecDepth 100000 in
theorem kcX7_hall (l : Launch) (D : va_G) (c : Nat → ClassId) (q : Nat → Nat) (ev : State → Heap → Prop) (hev : evOK (wdA 36 q) ev) (adK adV : Nat → Nat) (hZ : ∀ (U : State) (H : Heap), ev U H → evS (wdA 36 q) adK adV U H) (hst : l.stackTraces = false) (hX : ∀ (U : State) (H : Heap), ev U H → evT (wdA 36 q) U H) (σ : hsS) (x1 : Int32) (post : Int32 → hsS → Prop) (px : hsS → Prop) (hw : wX7_hall x1 post px σ) : vx_Met l yX7_hall (Cond.code yX7_hall cX7_hall 3 (some .int) :: tb_L) { frames := 9, cells := 1, slots := 6, locals := 196 } (wdPc D (xw c q) (xwT c) (wdA 36 q) ev σ [.ref (q 0), .int x1]) (va_Qi post (wdB D (xw c q)) (wdA 36 q)) (vx_X px (xpB D (xw c q) "java/lang/IllegalArgumentException") (wdA 36 q)) 1 6 (wdA 36 q) := by
  refine vx_ofW (cc := cX7_hall) (maxL := 3) (ret := (some .int)) (by decide) rfl ?_
  intro p e s m args below meth c₀ s₁ Bd hml htab hv
  obtain ⟨rfl, hP, hK, hD0, hE⟩ := hv
  have hx := Bd.exec
  have hb := Bd.bytes
  have hr := Bd.returns
  have hts := atoms_spec (ws := Cond.code yX7_hall cX7_hall 3 (some .int) :: tb_L) Bd.pre
  have htb : ∀ w ∈ tb_L, w.before [.ref (q 0), .int x1].toArray s = true := fun w h => hts w (List.mem_cons_of_mem _ h)
  have hown : s.vm.findClass RX7 = some m.cls := findClass_of_methodNamed Bd.named
  have hlocks := Bd.notSynchronized
  have hS : va_S (wdA 36 q) s.heap s.heap [] := va_S.rf
  have hD := hD0
  have hl := lv_entry ([.ref (q 0), .int x1]) (n := 3) (Nat.le_of_ble_eq_true rfl)
  rw [lg_entry_eq]
  generalize (lg_sl ([.ref (q 0), .int x1]) ++ List.replicate (3 - (lg_sl ([.ref (q 0), .int x1])).length) Slot.unset).toArray = ls at hl ⊢
  have hl : lv_has ls 3 [(0, .ref (q 0)), (1, .int x1)] := hl
  unfold wX7_hall at hw
  refine lv_iload_n hx hb dX7_hall_0 rfl (lv_at hl 1 rfl) ?_
  refine lv_if_lt (tgt := 15) hx hb dX7_hall_1 (by decide) (fun c1 => ?_) (fun c1 => ?_)
  · have hw := hw.1 c1
    obtain ⟨hU9, hN9, hF9, hR9⟩ := hX s s.heap hE
    obtain ⟨sa9, hsa9⟩ := hR9 (79, "the tape has not so many bytes") (by decide)
    exact xt_throwS hx hb hst (own := "StrikeHall") (cls := "java/lang/IllegalArgumentException") (text := "the tape has not so many bytes") (names := ["java/lang/Exception"]) (ix := 7) (rx := Bundle.six) (Yc := "java/lang/RuntimeException") hown (by decide) (by decide) (by decide +kernel) (by decide +kernel) (by decide +kernel) (by decide +kernel) (by decide) (htb _ tb_637) (htb _ tb_103) hsa9 (hat_IAE htb hF9) hot_IAE hU9 hN9 hS (hl.1.trans hml.symm) dX7_hall_15 dX7_hall_18 dX7_hall_19 dX7_hall_21 dX7_hall_24 (fun x h => (htab x h).elim) (Nat.le_of_ble_eq_true rfl) (Nat.le_of_ble_eq_true rfl) (Nat.le_of_ble_eq_true rfl) (Nat.le_of_ble_eq_true rfl) hlocks (fun t hvm hsz hk => ⟨σ, hw, ⟨rfl, wd_grow hP hk⟩, wd_F hS hsz hk⟩) hS.2.2 (Nat.le_of_ble_eq_true rfl) (Nat.le_of_ble_eq_true rfl)
  · have hw := hw.2 c1
    refine lv_iload_n hx hb dX7_hall_4 rfl (lv_at hl 1 rfl) ?_
    refine lv_aload_n hx hb dX7_hall_5 rfl (lv_at hl 0 rfl) ?_
    refine va_get (D := D) (ci := 7) (C := RX7) (T := TX7) (N := 9) hx hb htb inX7 hown hK hP 0 (xw_0 c q σ) rfl 2 (by decide) (htb _ tb_344) (fun _ h9 => h9) rfl dX7_hall_6 ?_
    refine va_getN (D := D) (ci := 3) (C := RX3) (T := TX3) (N := 10) hx hb htb inX3 hown hK hP 11 (xw_11 c q σ) rfl 2 (by decide) (htb _ tb_205) (fun _ h9 => h9) rfl dX7_hall_9 ?_
    refine lv_icmp_le (tgt := 25) hx hb dX7_hall_12 (by decide) (fun c2 => ?_) (fun c2 => ?_)
    · have hw := hw.1 c2
      refine lv_aload_n hx hb dX7_hall_25 rfl (lv_at hl 0 rfl) ?_
      refine va_get (D := D) (ci := 7) (C := RX7) (T := TX7) (N := 9) hx hb htb inX7 hown hK hP 0 (xw_0 c q σ) rfl 2 (by decide) (htb _ tb_344) (fun _ h9 => h9) rfl dX7_hall_26 ?_
      refine lv_iload_n hx hb dX7_hall_29 rfl (lv_at hl 1 rfl) ?_
      refine va_calli (va_runV (As := [.int x1]) (rest := []) ⟨hx, hb, hml, hown, htb⟩ (kcX3_read_11 l D c q ev hev adK adV hZ σ x1 _ hw) (tb_CW htb kX3_read tb_703 tb_704 tb_705 ⟨Nat.le_of_ble_eq_true rfl, Nat.le_of_ble_eq_true rfl⟩) (wd_preV (wd := xw c q) (k := 11) hev hK hP hD hE hS (xw_11 c q σ) rfl) rfl rfl hl.1 rfl (lv_room (Nat.le_of_ble_eq_true rfl)) dX7_hall_30 ⟨Nat.le_of_ble_eq_true rfl, Nat.le_of_ble_eq_true rfl⟩) hS (fun q _ h => h) (fun q h => h) (fun r3 σ4 t H1 locs1 ht hvm hw hB hz1 hk1 hS => ?_)
      have hP : va_P D vwCl (xw c q σ4) H1 := ht ▸ hB
      have hD : va_D (wdA 36 q) (xw c q σ4) := xw_D hD0
      refine lv_istore_n (lv' := [(2, .int r3), (0, .ref (q 0)), (1, .int x1)]) hx hb dX7_hall_33 rfl hl (by decide) rfl (fun ls hl => ?_)
      refine lv_iload_n hx hb dX7_hall_34 rfl (lv_at hl 0 rfl) ?_
      refine lv_if_ne (tgt := 56) hx hb dX7_hall_35 (by decide) (fun c5 => ?_) (fun c5 => ?_)
      · have hw := hw.2 c5
        refine lv_iload_n hx hb dX7_hall_56 rfl (lv_at hl 0 rfl) ?_
        exact vx_ret (W.widen (k := 1) (n := 6) (Nat.le_of_ble_eq_true rfl) (Nat.le_of_ble_eq_true rfl) (W.iret hx hb hr (fun t ht hW => ⟨⟨_, σ4, rfl, hw, by unfold wdB; rw [ht]; exact hP⟩, hS.F ht⟩) hS.2.2 dX7_hall_57))
      · have hw := hw.1 c5
        refine lv_aload_n hx hb dX7_hall_38 rfl (lv_at hl 1 rfl) ?_
        refine va_get (D := D) (ci := 7) (C := RX7) (T := TX7) (N := 9) hx hb htb inX7 hown hK hP 0 (xw_0 c q σ4) rfl 0 (by decide) (htb _ tb_342) (fun _ h9 => h9) rfl dX7_hall_39 ?_
        refine lv_aload_n hx hb dX7_hall_42 rfl (lv_at hl 1 rfl) ?_
        refine va_get (D := D) (ci := 7) (C := RX7) (T := TX7) (N := 9) hx hb htb inX7 hown hK hP 0 (xw_0 c q σ4) rfl 2 (by decide) (htb _ tb_344) (fun _ h9 => h9) rfl dX7_hall_43 ?_
        refine va_getN (D := D) (ci := 3) (C := RX3) (T := TX3) (N := 10) hx hb htb inX3 hown hK hP 11 (xw_11 c q σ4) rfl 1 (by decide) (htb _ tb_203) (fun _ h9 => h9) rfl dX7_hall_46 ?_
        refine va_callv (va_runV (As := [.ref (q 13)]) (rest := []) ⟨hx, hb, hml, hown, htb⟩ (kcX1_takeFrom_1_13 l D c q ev hev σ4  _ hw) (tb_CW htb kX1_takeFrom tb_858 tb_569 tb_570 ⟨Nat.le_of_ble_eq_true rfl, Nat.le_of_ble_eq_true rfl⟩) (wd_preV (wd := xw c q) (k := 1) hev hK hP hD hE hS (xw_1 c q σ4) rfl) rfl rfl hl.1 rfl (lv_room (Nat.le_of_ble_eq_true rfl)) dX7_hall_49 ⟨Nat.le_of_ble_eq_true rfl, Nat.le_of_ble_eq_true rfl⟩) hS (fun q _ h => h) (fun q h => h) (fun σ7 t H1 locs1 ht hvm hw hB hz1 hk1 hS => ?_)
        have hP : va_P D vwCl (xw c q σ7) H1 := ht ▸ hB
        have hD : va_D (wdA 36 q) (xw c q σ7) := xw_D hD0
        refine lv_aload_n hx hb dX7_hall_52 rfl (lv_at hl 1 rfl) ?_
        refine va_callv (va_runV (As := []) (rest := []) ⟨hx, hb, hml, hown, htb⟩ (kcX7_forgetOldHall l D c q ev hev σ7  _ hw) (tb_CW htb kX7_forgetOldHall tb_859 tb_861 tb_31 ⟨Nat.le_of_ble_eq_true rfl, Nat.le_of_ble_eq_true rfl⟩) (wd_preV (wd := xw c q) (k := 0) hev hK hP hD hE hS (xw_0 c q σ7) rfl) rfl rfl hl.1 rfl (lv_room (Nat.le_of_ble_eq_true rfl)) dX7_hall_53 ⟨Nat.le_of_ble_eq_true rfl, Nat.le_of_ble_eq_true rfl⟩) hS (fun q _ h => h) (fun q h => h) (fun σ9 t H1 locs1 ht hvm hw hB hz1 hk1 hS => ?_)
        have hP : va_P D vwCl (xw c q σ9) H1 := ht ▸ hB
        have hD : va_D (wdA 36 q) (xw c q σ9) := xw_D hD0
        refine lv_iload_n hx hb dX7_hall_56 rfl (lv_at hl 0 rfl) ?_
        exact vx_ret (W.widen (k := 1) (n := 6) (Nat.le_of_ble_eq_true rfl) (Nat.le_of_ble_eq_true rfl) (W.iret hx hb hr (fun t ht hW => ⟨⟨_, σ9, rfl, hw, by unfold wdB; rw [ht]; exact hP⟩, hS.F ht⟩) hS.2.2 dX7_hall_57))
    · have hw := hw.2 c2
      obtain ⟨hU9, hN9, hF9, hR9⟩ := hX s s.heap hE
      obtain ⟨sa9, hsa9⟩ := hR9 (79, "the tape has not so many bytes") (by decide)
      exact xt_throwS hx hb hst (own := "StrikeHall") (cls := "java/lang/IllegalArgumentException") (text := "the tape has not so many bytes") (names := ["java/lang/Exception"]) (ix := 7) (rx := Bundle.six) (Yc := "java/lang/RuntimeException") hown (by decide) (by decide) (by decide +kernel) (by decide +kernel) (by decide +kernel) (by decide +kernel) (by decide) (htb _ tb_637) (htb _ tb_103) hsa9 (hat_IAE htb hF9) hot_IAE hU9 hN9 hS (hl.1.trans hml.symm) dX7_hall_15 dX7_hall_18 dX7_hall_19 dX7_hall_21 dX7_hall_24 (fun x h => (htab x h).elim) (Nat.le_of_ble_eq_true rfl) (Nat.le_of_ble_eq_true rfl) (Nat.le_of_ble_eq_true rfl) (Nat.le_of_ble_eq_true rfl) hlocks (fun t hvm hsz hk => ⟨σ, hw, ⟨rfl, wd_grow hP hk⟩, wd_F hS hsz hk⟩) hS.2.2 (Nat.le_of_ble_eq_true rfl) (Nat.le_of_ble_eq_true rfl)
