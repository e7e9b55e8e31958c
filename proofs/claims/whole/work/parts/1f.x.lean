theorem kX3_atNewThing : tbM yX3_atNewThing cX3_atNewThing 2 (some .boolean) 1 := ⟨tb_832, tb_92, by decide +kernel, by decide +kernel⟩
theorem kX3_readOrder : tbM yX3_readOrder cX3_readOrder 6 (some .boolean) 1 := ⟨tb_828, tb_92, by decide +kernel, by decide +kernel⟩
theorem kX3_readPerson : tbM yX3_readPerson cX3_readPerson 2 (some .boolean) 0 := ⟨tb_822, tb_92, by decide +kernel, by decide +kernel⟩
theorem kX3_readLine : tbM yX3_readLine cX3_readLine 1 (some .boolean) 0 := ⟨tb_817, tb_92, by decide +kernel, by decide +kernel⟩
theorem kX3_read : tbM yX3_read cX3_read 4 (some .int) 1 := ⟨tb_706, tb_92, by decide +kernel, by decide +kernel⟩
def wX3_atNewThing (b0 : Nat) (x1 : Int32) (post : Int32 → hsS → Prop) (σ : hsS) : Prop := wX3_atNumber b0 (fun r1 σ2 => ((r1 = (0 : Int32) → post (0 : Int32) σ2) ∧ (¬ r1 = (0 : Int32) → (((σ2.1 (64 * b0 + 7)) < (σ2.1 (64 * (b0 + 2) + 0)) → ((((x1 >>> ((σ2.1 (64 * b0 + 7)) &&& 31)) &&& (1 : Int32)) = (0 : Int32) → post (1 : Int32) σ2) ∧ (¬ ((x1 >>> ((σ2.1 (64 * b0 + 7)) &&& 31)) &&& (1 : Int32)) = (0 : Int32) → wX3_fail b0 (4 : Int32) (fun r6 σ7 => ((r6 = (0 : Int32) → post (0 : Int32) σ7) ∧ (¬ r6 = (0 : Int32) → post (1 : Int32) σ7))) σ2))) ∧ (¬ (σ2.1 (64 * b0 + 7)) < (σ2.1 (64 * (b0 + 2) + 0)) → wX3_fail b0 (3 : Int32) (fun r9 σ10 => (r9 = 0 ∨ r9 = 1) ∧ post r9 σ10) σ2))))) σ
set_option maxHeartbeats 4000000 in
set_option maxRecDepth 100000 in
theorem kcX3_atNewThing_11 (l : Launch) (D : va_G) (c : Nat → ClassId) (q : Nat → Nat) (ev : State → Heap → Prop) (hev : evOK (wdA 36 q) ev) (σ : hsS) (x1 : Int32) (post : Int32 → hsS → Prop) (hw : wX3_atNewThing 11 x1 post σ) : Met l yX3_atNewThing (Cond.code yX3_atNewThing cX3_atNewThing 2 (some .boolean) :: tb_L) { frames := 2, cells := 0, slots := 0, locals := 41 } (wdPc D (xw c q) (xwT c) (wdA 36 q) ev σ [.ref (q 11), .int x1]) (va_Qi post (wdB D (xw c q)) (wdA 36 q)) 0 0 (wdA 36 q) := by
  refine Met.ofW (cc := cX3_atNewThing) (maxL := 2) (ret := (some .boolean)) (by decide) rfl ?_
  intro p e s m args below meth c₀ s₁ Bd hml hv
  obtain ⟨rfl, hP, hK, hD0, hE⟩ := hv
  have hx := Bd.exec
  have hb := Bd.bytes
  have hr := Bd.returns
  have hts := atoms_spec (ws := Cond.code yX3_atNewThing cX3_atNewThing 2 (some .boolean) :: tb_L) Bd.pre
  have htb : ∀ w ∈ tb_L, w.before [.ref (q 11), .int x1].toArray s = true := fun w h => hts w (List.mem_cons_of_mem _ h)
  have hown : s.vm.findClass RX3 = some m.cls := findClass_of_methodNamed Bd.named
  have hlocks := Bd.notSynchronized
  have hS : va_S (wdA 36 q) s.heap s.heap [] := va_S.rf
  have hD := hD0
  have hl := lv_entry ([.ref (q 11), .int x1]) (n := 2) (Nat.le_of_ble_eq_true rfl)
  rw [lg_entry_eq]
  generalize (lg_sl ([.ref (q 11), .int x1]) ++ List.replicate (2 - (lg_sl ([.ref (q 11), .int x1])).length) Slot.unset).toArray = ls at hl ⊢
  have hl : lv_has ls 2 [(0, .ref (q 11)), (1, .int x1)] := hl
  unfold wX3_atNewThing at hw
  refine lv_aload_n hx hb dX3_atNewThing_0 rfl (lv_at hl 0 rfl) ?_
  refine va_calli (va_runV (As := []) (rest := []) ⟨hx, hb, hml, hown, htb⟩ (kcX3_atNumber_11 l D c q ev hev σ  _ hw) (tb_CW htb kX3_atNumber tb_806 tb_808 tb_21 ⟨Nat.le_of_ble_eq_true rfl, Nat.le_of_ble_eq_true rfl⟩) (wd_preV (wd := xw c q) (k := 11) hev hK hP hD hE hS (xw_11 c q σ) rfl) rfl rfl hl.1 rfl (lv_room (Nat.le_of_ble_eq_true rfl)) dX3_atNewThing_1 ⟨Nat.zero_le _, Nat.zero_le _⟩) hS (fun q _ h => h) (fun q h => h) (fun r1 σ2 t H1 locs1 ht hvm hw hB hz1 hk1 hS => ?_)
  have hP : va_P D vwCl (xw c q σ2) H1 := ht ▸ hB
  have hD : va_D (wdA 36 q) (xw c q σ2) := xw_D hD0
  refine lv_if_ne (tgt := 9) hx hb dX3_atNewThing_4 (by decide) (fun c3 => ?_) (fun c3 => ?_)
  · have hw := hw.2 c3
    refine lv_aload_n hx hb dX3_atNewThing_9 rfl (lv_at hl 0 rfl) ?_
    refine va_get (D := D) (ci := 3) (C := RX3) (T := TX3) (N := 10) hx hb htb inX3 hown hK hP 11 (xw_11 c q σ2) rfl 7 (by decide) (htb _ tb_210) (fun _ h9 => h9) rfl dX3_atNewThing_10 ?_
    refine lv_aload_n hx hb dX3_atNewThing_13 rfl (lv_at hl 0 rfl) ?_
    refine va_get (D := D) (ci := 3) (C := RX3) (T := TX3) (N := 10) hx hb htb inX3 hown hK hP 11 (xw_11 c q σ2) rfl 1 (by decide) (htb _ tb_202) (fun _ h9 => h9) rfl dX3_atNewThing_14 ?_
    refine va_getN (D := D) (ci := 1) (C := RX1) (T := TX1) (N := 12) hx hb htb inX1 hown hK hP 13 (xw_13 c q σ2) rfl 0 (by decide) (htb _ tb_131) (fun _ h9 => h9) rfl dX3_atNewThing_17 ?_
    refine lv_icmp_lt (tgt := 29) hx hb dX3_atNewThing_20 (by decide) (fun c4 => ?_) (fun c4 => ?_)
    · have hw := hw.1 c4
      refine lv_iload_n hx hb dX3_atNewThing_29 rfl (lv_at hl 1 rfl) ?_
      refine lv_aload_n hx hb dX3_atNewThing_30 rfl (lv_at hl 0 rfl) ?_
      refine va_get (D := D) (ci := 3) (C := RX3) (T := TX3) (N := 10) hx hb htb inX3 hown hK hP 11 (xw_11 c q σ2) rfl 7 (by decide) (htb _ tb_210) (fun _ h9 => h9) rfl dX3_atNewThing_31 ?_
      refine lv_ishr hx hb dX3_atNewThing_34 ?_
      refine lv_iconst (v := (1 : Int32)) hx hb dX3_atNewThing_35 (by decide) ?_
      refine lv_iand hx hb dX3_atNewThing_36 ?_
      refine lv_if_eq (tgt := 48) hx hb dX3_atNewThing_37 (by decide) (fun c5 => ?_) (fun c5 => ?_)
      · have hw := hw.1 c5
        refine lv_iconst (v := (1 : Int32)) hx hb dX3_atNewThing_48 (by decide) ?_
        refine lv_goto (tgt := 53) hx hb dX3_atNewThing_49 (by decide) ?_
        exact W.zret hx hb hr rfl (fun t ht hW => ⟨⟨_, σ2, rfl, hw, by unfold wdB; rw [ht]; exact hP⟩, hS.F ht⟩) hS.2.2 dX3_atNewThing_53
      · have hw := hw.2 c5
        refine lv_aload_n hx hb dX3_atNewThing_40 rfl (lv_at hl 0 rfl) ?_
        refine lv_iconst (v := (4 : Int32)) hx hb dX3_atNewThing_41 (by decide) ?_
        refine va_calli (va_runV (As := [.int (4 : Int32)]) (rest := []) ⟨hx, hb, hml, hown, htb⟩ (kcX3_fail_11 l D c q ev hev σ2 (4 : Int32) _ hw) (tb_CW htb kX3_fail tb_798 tb_800 tb_19 ⟨Nat.le_of_ble_eq_true rfl, Nat.le_of_ble_eq_true rfl⟩) (wd_preV (wd := xw c q) (k := 11) hev hK hP hD hE hS (xw_11 c q σ2) rfl) rfl rfl hl.1 rfl (lv_room (Nat.le_of_ble_eq_true rfl)) dX3_atNewThing_42 ⟨Nat.zero_le _, Nat.zero_le _⟩) hS (fun q _ h => h) (fun q h => h) (fun r6 σ7 t H1 locs1 ht hvm hw hB hz1 hk1 hS => ?_)
        have hP : va_P D vwCl (xw c q σ7) H1 := ht ▸ hB
        have hD : va_D (wdA 36 q) (xw c q σ7) := xw_D hD0
        refine lv_if_eq (tgt := 52) hx hb dX3_atNewThing_45 (by decide) (fun c8 => ?_) (fun c8 => ?_)
        · have hw := hw.1 c8
          refine lv_iconst (v := (0 : Int32)) hx hb dX3_atNewThing_52 (by decide) ?_
          exact W.zret hx hb hr rfl (fun t ht hW => ⟨⟨_, σ7, rfl, hw, by unfold wdB; rw [ht]; exact hP⟩, hS.F ht⟩) hS.2.2 dX3_atNewThing_53
        · have hw := hw.2 c8
          refine lv_iconst (v := (1 : Int32)) hx hb dX3_atNewThing_48 (by decide) ?_
          refine lv_goto (tgt := 53) hx hb dX3_atNewThing_49 (by decide) ?_
          exact W.zret hx hb hr rfl (fun t ht hW => ⟨⟨_, σ7, rfl, hw, by unfold wdB; rw [ht]; exact hP⟩, hS.F ht⟩) hS.2.2 dX3_atNewThing_53
    · have hw := hw.2 c4
      refine lv_aload_n hx hb dX3_atNewThing_23 rfl (lv_at hl 0 rfl) ?_
      refine lv_iconst (v := (3 : Int32)) hx hb dX3_atNewThing_24 (by decide) ?_
      refine va_calli (va_runV (As := [.int (3 : Int32)]) (rest := []) ⟨hx, hb, hml, hown, htb⟩ (kcX3_fail_11 l D c q ev hev σ2 (3 : Int32) _ hw) (tb_CW htb kX3_fail tb_798 tb_800 tb_19 ⟨Nat.le_of_ble_eq_true rfl, Nat.le_of_ble_eq_true rfl⟩) (wd_preV (wd := xw c q) (k := 11) hev hK hP hD hE hS (xw_11 c q σ2) rfl) rfl rfl hl.1 rfl (lv_room (Nat.le_of_ble_eq_true rfl)) dX3_atNewThing_25 ⟨Nat.zero_le _, Nat.zero_le _⟩) hS (fun q _ h => h) (fun q h => h) (fun r9 σ10 t H1 locs1 ht hvm hw hB hz1 hk1 hS => ?_)
      have hP : va_P D vwCl (xw c q σ10) H1 := ht ▸ hB
      have hD : va_D (wdA 36 q) (xw c q σ10) := xw_D hD0
      have hq := hw.2
      exact W.zret hx hb hr (nar_b hw.1) (fun t ht hW => ⟨⟨_, σ10, rfl, hq, by unfold wdB; rw [ht]; exact hP⟩, hS.F ht⟩) hS.2.2 dX3_atNewThing_28
  · have hw := hw.1 c3
    refine lv_iconst (v := (0 : Int32)) hx hb dX3_atNewThing_7 (by decide) ?_
    exact W.zret hx hb hr rfl (fun t ht hW => ⟨⟨_, σ2, rfl, hw, by unfold wdB; rw [ht]; exact hP⟩, hS.F ht⟩) hS.2.2 dX3_atNewThing_8
set_option maxHeartbeats 4000000 in
set_option maxRecDepth 100000 in
theorem kcX1_putPlace_13 (l : Launch) (D : va_G) (c : Nat → ClassId) (q : Nat → Nat) (ev : State → Heap → Prop) (hev : evOK (wdA 36 q) ev) (σ : hsS) (x1 : Int32) (x2 : Int32) (x3 : Int32) (post : hsS → Prop) (hw : wX1_putPlace 13 x1 x2 x3 post σ) : Met l yX1_putPlace (Cond.code yX1_putPlace cX1_putPlace 4 none :: tb_L) { frames := 0, cells := 0, slots := 0, locals := 0 } (wdPc D (xw c q) (xwT c) (wdA 36 q) ev σ [.ref (q 13), .int x1, .int x2, .int x3]) (va_Qv post (wdB D (xw c q)) (wdA 36 q)) 0 0 (wdA 36 q) := by
  refine Met.ofW (cc := cX1_putPlace) (maxL := 4) (ret := none) (by decide) rfl ?_
  intro p e s m args below meth c₀ s₁ Bd hml hv
  obtain ⟨rfl, hP, hK, hD0, hE⟩ := hv
  have hx := Bd.exec
  have hb := Bd.bytes
  have hr := Bd.returns
  have hts := atoms_spec (ws := Cond.code yX1_putPlace cX1_putPlace 4 none :: tb_L) Bd.pre
  have htb : ∀ w ∈ tb_L, w.before [.ref (q 13), .int x1, .int x2, .int x3].toArray s = true := fun w h => hts w (List.mem_cons_of_mem _ h)
  have hown : s.vm.findClass RX1 = some m.cls := findClass_of_methodNamed Bd.named
  have hlocks := Bd.notSynchronized
  have hS : va_S (wdA 36 q) s.heap s.heap [] := va_S.rf
  have hD := hD0
  have hl := lv_entry ([.ref (q 13), .int x1, .int x2, .int x3]) (n := 4) (Nat.le_of_ble_eq_true rfl)
  rw [lg_entry_eq]
  generalize (lg_sl ([.ref (q 13), .int x1, .int x2, .int x3]) ++ List.replicate (4 - (lg_sl ([.ref (q 13), .int x1, .int x2, .int x3])).length) Slot.unset).toArray = ls at hl ⊢
  have hl : lv_has ls 4 [(0, .ref (q 13)), (1, .int x1), (2, .int x2), (3, .int x3)] := hl
  unfold wX1_putPlace at hw
  refine lv_aload_n hx hb dX1_putPlace_0 rfl (lv_at hl 0 rfl) ?_
  refine va_get (D := D) (ci := 1) (C := RX1) (T := TX1) (N := 12) hx hb htb inX1 hown hK hP 13 (xw_13 c q σ) rfl 9 (by decide) (htb _ tb_158) (fun _ h9 => h9) rfl dX1_putPlace_1 ?_
  refine lv_iload_n hx hb dX1_putPlace_4 rfl (lv_at hl 1 rfl) ?_
  refine lv_bipush (v := (9 : Int32)) hx hb dX1_putPlace_5 (by decide) ?_
  refine lv_imul hx hb dX1_putPlace_7 ?_
  refine lv_iload_n hx hb dX1_putPlace_8 rfl (lv_at hl 2 rfl) ?_
  refine lv_iadd hx hb dX1_putPlace_9 ?_
  refine lv_iload_n hx hb dX1_putPlace_10 rfl (lv_at hl 3 rfl) ?_
  refine va_iast hx hb hK hP hD hS 15 10 (xw_15 c q σ) rfl hw.1 dX1_putPlace_11 (fun H locs hP hD hS => ?_)
  have hw := hw.2
  have hP : va_P D vwCl (xw c q (hsA σ 15 (upd (σ.2.1 15) ((x1 * (9 : Int32)) + x2).toNatClampNeg x3))) H := hP
  obtain ⟨σ1, eσ1⟩ : ∃ z : hsS, z = hsA σ 15 (upd (σ.2.1 15) ((x1 * (9 : Int32)) + x2).toNatClampNeg x3) := ⟨_, rfl⟩
  rw [← eσ1] at hP
  have hD : va_D (wdA 36 q) (xw c q σ1) := xw_D hD0
  have hw := hw σ1 eσ1
  exact W.vret hx hb hr (fun t ht hW => ⟨⟨σ1, rfl, hw, by unfold wdB; rw [ht]; exact hP⟩, hS.F ht⟩) hS.2.2 dX1_putPlace_12
def wX3_readOrder_L15 (b0 : Nat) (z1 : Int32) (K39 : Int32 → Int32 → Int32 → Int32 → hsS → Prop) (K112 : Int32 → Int32 → Int32 → Int32 → hsS → Prop) (post : Int32 → hsS → Prop) : Nat → Int32 → Int32 → Int32 → Int32 → hsS → Prop
  | 0, _, _, _, _, _ => False
  | n + 1, y2, y3, y4, y5, σ => (((9 : Int32) < y5 → K112 y2 y3 y4 y5 σ) ∧ (¬ (9 : Int32) < y5 → ((y4 = (0 : Int32) → K112 y2 y3 y4 y5 σ) ∧ (¬ y4 = (0 : Int32) → wX3_next b0 (fun σ6 => wX3_atNewThing b0 y2 (fun r7 σ8 => ((r7 = (0 : Int32) → K39 y2 y3 y4 y5 σ8) ∧ (¬ r7 = (0 : Int32) → wX1_putPlace (b0 + 2) z1 (σ8.1 (64 * b0 + 7)) y3 (fun σ11 => ∀ v12 : Int32, v12 = y2 ||| ((1 : Int32) <<< ((σ11.1 (64 * b0 + 7)) &&& 31)) → wX3_next b0 (fun σ14 => wX3_isWord b0 4 (fun r15 σ16 => ((r15 = (0 : Int32) → wX3_isWord b0 4 (fun r18 σ19 => ((r18 = (0 : Int32) → wX3_isWord b0 5 (fun r21 σ22 => ((r21 = (0 : Int32) → ∀ v24 : Int32, v24 = y5 + (1 : Int32) → wX3_readOrder_L15 b0 z1 K39 K112 post n v12 y3 (0 : Int32) v24 σ22) ∧ (¬ r21 = (0 : Int32) → ∀ v25 : Int32, v25 = y5 + (1 : Int32) → wX3_readOrder_L15 b0 z1 K39 K112 post n v12 y3 (1 : Int32) v25 σ22))) σ19) ∧ (¬ r18 = (0 : Int32) → ∀ v26 : Int32, v26 = y5 + (1 : Int32) → wX3_readOrder_L15 b0 z1 K39 K112 post n v12 y3 (1 : Int32) v26 σ19))) σ16) ∧ (¬ r15 = (0 : Int32) → wJ6_bitCount_0f7a4 v12 (fun r27 σ28 => wX3_isWord b0 4 (fun r29 σ30 => ((r29 = (0 : Int32) → wX3_isWord b0 5 (fun r32 σ33 => ((r32 = (0 : Int32) → ∀ v35 : Int32, v35 = y5 + (1 : Int32) → wX3_readOrder_L15 b0 z1 K39 K112 post n v12 r27 (0 : Int32) v35 σ33) ∧ (¬ r32 = (0 : Int32) → ∀ v36 : Int32, v36 = y5 + (1 : Int32) → wX3_readOrder_L15 b0 z1 K39 K112 post n v12 r27 (1 : Int32) v36 σ33))) σ30) ∧ (¬ r29 = (0 : Int32) → ∀ v37 : Int32, v37 = y5 + (1 : Int32) → wX3_readOrder_L15 b0 z1 K39 K112 post n v12 r27 (1 : Int32) v37 σ30))) σ28) σ16))) σ14) σ11) σ8))) σ6) σ))))
def wX3_readOrder_L115 (b0 : Nat) (z1 : Int32) (z2 : Int32) (z3 : Int32) (z4 : Int32) (K156 : Int32 → hsS → Prop) (post : Int32 → hsS → Prop) : Nat → Int32 → hsS → Prop
  | 0, _, _ => False
  | n + 1, y5, σ => (((σ.1 (64 * (b0 + 2) + 0)) ≤ y5 → K156 y5 σ) ∧ (¬ (σ.1 (64 * (b0 + 2) + 0)) ≤ y5 → ((((z2 >>> (y5 &&& 31)) &&& (1 : Int32)) = (0 : Int32) → wJ6_bitCount_0f7a4 z2 (fun r51 σ52 => wX1_putPlace (b0 + 2) z1 y5 r51 (fun σ54 => ∀ v55 : Int32, v55 = y5 + (1 : Int32) → wX3_readOrder_L115 b0 z1 z2 z3 z4 K156 post n v55 σ54) σ52) σ) ∧ (¬ ((z2 >>> (y5 &&& 31)) &&& (1 : Int32)) = (0 : Int32) → ∀ v56 : Int32, v56 = y5 + (1 : Int32) → wX3_readOrder_L115 b0 z1 z2 z3 z4 K156 post n v56 σ))))
def wX3_readOrder (b0 : Nat) (x1 : Int32) (post : Int32 → hsS → Prop) (σ : hsS) : Prop := wX3_isWord b0 3 (fun r1 σ2 => ∃ n38, wX3_readOrder_L15 b0 x1 (fun v39 v40 v41 v42 σ43 => post (0 : Int32) σ43) (fun v44 v45 v46 v47 σ48 => ∃ n57, wX3_readOrder_L115 b0 x1 v44 v45 v46 (fun v58 σ59 => post (1 : Int32) σ59) post n57 (0 : Int32) σ48) post n38 (0 : Int32) (0 : Int32) r1 (0 : Int32) σ2) σ
set_option maxHeartbeats 4000000 in
set_option maxRecDepth 100000 in
theorem kcX3_readOrder_11 (l : Launch) (D : va_G) (c : Nat → ClassId) (q : Nat → Nat) (ev : State → Heap → Prop) (hev : evOK (wdA 36 q) ev) (adK adV : Nat → Nat) (hZ : ∀ (U : State) (H : Heap), ev U H → evS (wdA 36 q) adK adV U H) (σ : hsS) (x1 : Int32) (post : Int32 → hsS → Prop) (hw : wX3_readOrder 11 x1 post σ) : Met l yX3_readOrder (Cond.code yX3_readOrder cX3_readOrder 6 (some .boolean) :: tb_L) { frames := 5, cells := 0, slots := 0, locals := 107 } (wdPc D (xw c q) (xwT c) (wdA 36 q) ev σ [.ref (q 11), .int x1]) (va_Qi post (wdB D (xw c q)) (wdA 36 q)) 0 0 (wdA 36 q) := by
  refine Met.ofW (cc := cX3_readOrder) (maxL := 6) (ret := (some .boolean)) (by decide) rfl ?_
  intro p e s m args below meth c₀ s₁ Bd hml hv
  obtain ⟨rfl, hP, hK, hD0, hE⟩ := hv
  have hx := Bd.exec
  have hb := Bd.bytes
  have hr := Bd.returns
  have hts := atoms_spec (ws := Cond.code yX3_readOrder cX3_readOrder 6 (some .boolean) :: tb_L) Bd.pre
  have htb : ∀ w ∈ tb_L, w.before [.ref (q 11), .int x1].toArray s = true := fun w h => hts w (List.mem_cons_of_mem _ h)
  have hown : s.vm.findClass RX3 = some m.cls := findClass_of_methodNamed Bd.named
  have hlocks := Bd.notSynchronized
  have hS : va_S (wdA 36 q) s.heap s.heap [] := va_S.rf
  have hD := hD0
  have L15 : ∀ (K39 : Int32 → Int32 → Int32 → Int32 → hsS → Prop) (K112 : Int32 → Int32 → Int32 → Int32 → hsS → Prop) (z1 : Int32) (n : Nat) (y2 : Int32) (y3 : Int32) (y4 : Int32) (y5 : Int32) (σ : hsS) (H : Heap) (locs : List Loc) (ls : Array Slot), wX3_readOrder_L15 11 z1 K39 K112 post n y2 y3 y4 y5 σ → (∀ (y2 : Int32) (y3 : Int32) (y4 : Int32) (y5 : Int32) (σ : hsS) (H : Heap) (locs : List Loc) (ls : Array Slot), K39 y2 y3 y4 y5 σ → va_P D vwCl (xw c q σ) H → va_S (wdA 36 q) s.heap H locs → lv_has ls 6 [(0, .ref (q 11)), (1, .int z1), (2, .int y2), (3, .int y3), (4, .int y4), (5, .int y5)] → W p l e (headSpec (Cond.code yX3_readOrder cX3_readOrder 6 (some .boolean) :: tb_L) { frames := 5, cells := 0, slots := 0, locals := 107 }).room s m [.ref (q 11), .int x1].toArray below meth c₀ H locs 0 0 (MQ below (va_Qi post (wdB D (xw c q)) (wdA 36 q)) [.ref (q 11), .int x1].toArray s 0 0 (wdA 36 q)) (F0 m 39 ls [])) → (∀ (y2 : Int32) (y3 : Int32) (y4 : Int32) (y5 : Int32) (σ : hsS) (H : Heap) (locs : List Loc) (ls : Array Slot), K112 y2 y3 y4 y5 σ → va_P D vwCl (xw c q σ) H → va_S (wdA 36 q) s.heap H locs → lv_has ls 6 [(0, .ref (q 11)), (1, .int z1), (2, .int y2), (3, .int y3), (4, .int y4), (5, .int y5)] → W p l e (headSpec (Cond.code yX3_readOrder cX3_readOrder 6 (some .boolean) :: tb_L) { frames := 5, cells := 0, slots := 0, locals := 107 }).room s m [.ref (q 11), .int x1].toArray below meth c₀ H locs 0 0 (MQ below (va_Qi post (wdB D (xw c q)) (wdA 36 q)) [.ref (q 11), .int x1].toArray s 0 0 (wdA 36 q)) (F0 m 112 ls [])) → va_P D vwCl (xw c q σ) H → va_S (wdA 36 q) s.heap H locs → lv_has ls 6 [(0, .ref (q 11)), (1, .int z1), (2, .int y2), (3, .int y3), (4, .int y4), (5, .int y5)] → W p l e (headSpec (Cond.code yX3_readOrder cX3_readOrder 6 (some .boolean) :: tb_L) { frames := 5, cells := 0, slots := 0, locals := 107 }).room s m [.ref (q 11), .int x1].toArray below meth c₀ H locs 0 0 (MQ below (va_Qi post (wdB D (xw c q)) (wdA 36 q)) [.ref (q 11), .int x1].toArray s 0 0 (wdA 36 q)) (F0 m 15 ls []) := by
    intro K39 K112 z1 n
    induction n with
    | zero =>
      intro y2 y3 y4 y5 σ H locs ls hw hk39 hk112 hP hS hl
      exact (show False from hw).elim
    | succ n ih =>
      intro y2 y3 y4 y5 σ H locs ls hw hk39 hk112 hP hS hl
      rw [wX3_readOrder_L15] at hw
      have hD : va_D (wdA 36 q) (xw c q σ) := xw_D hD0
      refine lv_iload hx hb dX3_readOrder_15 (lv_at hl 5 rfl) ?_
      refine lv_bipush (v := (9 : Int32)) hx hb dX3_readOrder_17 (by decide) ?_
      refine lv_icmp_gt (tgt := 112) hx hb dX3_readOrder_19 (by decide) (fun c3 => ?_) (fun c3 => ?_)
      · have hw := hw.1 c3
        exact hk112 y2 y3 y4 y5 σ _ _ _ hw hP hS (lv_sub hl [0, 1, 2, 3, 4, 5] rfl)
      · have hw := hw.2 c3
        refine lv_iload hx hb dX3_readOrder_22 (lv_at hl 4 rfl) ?_
        refine lv_if_eq (tgt := 112) hx hb dX3_readOrder_24 (by decide) (fun c4 => ?_) (fun c4 => ?_)
        · have hw := hw.1 c4
          exact hk112 y2 y3 y4 y5 σ _ _ _ hw hP hS (lv_sub hl [0, 1, 2, 3, 4, 5] rfl)
        · have hw := hw.2 c4
          refine lv_aload_n hx hb dX3_readOrder_27 rfl (lv_at hl 0 rfl) ?_
          refine va_callv (va_runV (As := []) (rest := []) ⟨hx, hb, hml, hown, htb⟩ (kcX3_next_11 l D c q ev hev σ  _ hw) (tb_CW htb kX3_next tb_712 tb_714 tb_12 ⟨Nat.le_of_ble_eq_true rfl, Nat.le_of_ble_eq_true rfl⟩) (wd_preV (wd := xw c q) (k := 11) hev hK hP hD hE hS (xw_11 c q σ) rfl) rfl rfl hl.1 rfl (lv_room (Nat.le_of_ble_eq_true rfl)) dX3_readOrder_28 ⟨Nat.zero_le _, Nat.zero_le _⟩) hS (fun q _ h => h) (fun q h => h) (fun σ6 t H1 locs1 ht hvm hw hB hz1 hk1 hS => ?_)
          have hP : va_P D vwCl (xw c q σ6) H1 := ht ▸ hB
          have hD : va_D (wdA 36 q) (xw c q σ6) := xw_D hD0
          refine lv_aload_n hx hb dX3_readOrder_31 rfl (lv_at hl 0 rfl) ?_
          refine lv_iload_n hx hb dX3_readOrder_32 rfl (lv_at hl 2 rfl) ?_
          refine va_calli (va_runV (As := [.int y2]) (rest := []) ⟨hx, hb, hml, hown, htb⟩ (kcX3_atNewThing_11 l D c q ev hev σ6 y2 _ hw) (tb_CW htb kX3_atNewThing tb_829 tb_831 tb_26 ⟨Nat.le_of_ble_eq_true rfl, Nat.le_of_ble_eq_true rfl⟩) (wd_preV (wd := xw c q) (k := 11) hev hK hP hD hE hS (xw_11 c q σ6) rfl) rfl rfl hl.1 rfl (lv_room (Nat.le_of_ble_eq_true rfl)) dX3_readOrder_33 ⟨Nat.zero_le _, Nat.zero_le _⟩) hS (fun q _ h => h) (fun q h => h) (fun r7 σ8 t H1 locs1 ht hvm hw hB hz1 hk1 hS => ?_)
          have hP : va_P D vwCl (xw c q σ8) H1 := ht ▸ hB
          have hD : va_D (wdA 36 q) (xw c q σ8) := xw_D hD0
          refine lv_if_ne (tgt := 41) hx hb dX3_readOrder_36 (by decide) (fun c9 => ?_) (fun c9 => ?_)
          · have hw := hw.2 c9
            refine lv_aload_n hx hb dX3_readOrder_41 rfl (lv_at hl 0 rfl) ?_
            refine va_get (D := D) (ci := 3) (C := RX3) (T := TX3) (N := 10) hx hb htb inX3 hown hK hP 11 (xw_11 c q σ8) rfl 1 (by decide) (htb _ tb_202) (fun _ h9 => h9) rfl dX3_readOrder_42 ?_
            refine lv_iload_n hx hb dX3_readOrder_45 rfl (lv_at hl 1 rfl) ?_
            refine lv_aload_n hx hb dX3_readOrder_46 rfl (lv_at hl 0 rfl) ?_
            refine va_get (D := D) (ci := 3) (C := RX3) (T := TX3) (N := 10) hx hb htb inX3 hown hK hP 11 (xw_11 c q σ8) rfl 7 (by decide) (htb _ tb_210) (fun _ h9 => h9) rfl dX3_readOrder_47 ?_
            refine lv_iload_n hx hb dX3_readOrder_50 rfl (lv_at hl 3 rfl) ?_
            refine va_callv (va_runV (As := [.int z1, .int (σ8.1 711), .int y3]) (rest := []) ⟨hx, hb, hml, hown, htb⟩ (kcX1_putPlace_13 l D c q ev hev σ8 z1 (σ8.1 711) y3 _ hw) (tb_CW htb kX1_putPlace tb_833 tb_599 tb_600 ⟨Nat.le_of_ble_eq_true rfl, Nat.le_of_ble_eq_true rfl⟩) (wd_preV (wd := xw c q) (k := 13) hev hK hP hD hE hS (xw_13 c q σ8) rfl) rfl rfl hl.1 rfl (lv_room (Nat.le_of_ble_eq_true rfl)) dX3_readOrder_51 ⟨Nat.zero_le _, Nat.zero_le _⟩) hS (fun q _ h => h) (fun q h => h) (fun σ11 t H1 locs1 ht hvm hw hB hz1 hk1 hS => ?_)
            have hP : va_P D vwCl (xw c q σ11) H1 := ht ▸ hB
            have hD : va_D (wdA 36 q) (xw c q σ11) := xw_D hD0
            refine lv_iload_n hx hb dX3_readOrder_54 rfl (lv_at hl 2 rfl) ?_
            refine lv_iconst (v := (1 : Int32)) hx hb dX3_readOrder_55 (by decide) ?_
            refine lv_aload_n hx hb dX3_readOrder_56 rfl (lv_at hl 0 rfl) ?_
            refine va_get (D := D) (ci := 3) (C := RX3) (T := TX3) (N := 10) hx hb htb inX3 hown hK hP 11 (xw_11 c q σ11) rfl 7 (by decide) (htb _ tb_210) (fun _ h9 => h9) rfl dX3_readOrder_57 ?_
            refine lv_ishl hx hb dX3_readOrder_60 ?_
            refine lv_ior hx hb dX3_readOrder_61 ?_
            refine lv_topi (fun v12 ev12 => ?_)
            have hw := hw v12 ev12
            refine lv_istore_n (lv' := [(2, .int v12), (0, .ref (q 11)), (1, .int z1), (3, .int y3), (4, .int y4), (5, .int y5)]) hx hb dX3_readOrder_62 rfl hl (by decide) rfl (fun ls hl => ?_)
            refine lv_aload_n hx hb dX3_readOrder_63 rfl (lv_at hl 1 rfl) ?_
            refine va_callv (va_runV (As := []) (rest := []) ⟨hx, hb, hml, hown, htb⟩ (kcX3_next_11 l D c q ev hev σ11  _ hw) (tb_CW htb kX3_next tb_712 tb_714 tb_12 ⟨Nat.le_of_ble_eq_true rfl, Nat.le_of_ble_eq_true rfl⟩) (wd_preV (wd := xw c q) (k := 11) hev hK hP hD hE hS (xw_11 c q σ11) rfl) rfl rfl hl.1 rfl (lv_room (Nat.le_of_ble_eq_true rfl)) dX3_readOrder_64 ⟨Nat.zero_le _, Nat.zero_le _⟩) hS (fun q _ h => h) (fun q h => h) (fun σ14 t H1 locs1 ht hvm hw hB hz1 hk1 hS => ?_)
            have hP : va_P D vwCl (xw c q σ14) H1 := ht ▸ hB
            have hD : va_D (wdA 36 q) (xw c q σ14) := xw_D hD0
            refine lv_aload_n hx hb dX3_readOrder_67 rfl (lv_at hl 1 rfl) ?_
            refine va_ldcS hx hb hown ((hZ s s.heap hE).2.2.2 ("StrikeHall$Reader", 161, "over", 4) (by decide)) dX3_readOrder_68 ?_
            refine va_calli (va_runV (As := [.ref (adK 4)]) (rest := []) ⟨hx, hb, hml, hown, htb⟩ (kcX3_isWord_11_s l D c q ev hev adK adV hZ σ14 4 (by decide) _ hw) (tb_CW htb kX3_isWord tb_746 tb_748 tb_18 ⟨Nat.le_of_ble_eq_true rfl, Nat.le_of_ble_eq_true rfl⟩) (wd_preV (wd := xw c q) (k := 11) hev hK hP hD hE hS (xw_11 c q σ14) rfl) rfl rfl hl.1 rfl (lv_room (Nat.le_of_ble_eq_true rfl)) dX3_readOrder_70 ⟨Nat.zero_le _, Nat.zero_le _⟩) hS (fun q _ h => h) (fun q h => h) (fun r15 σ16 t H1 locs1 ht hvm hw hB hz1 hk1 hS => ?_)
            have hP : va_P D vwCl (xw c q σ16) H1 := ht ▸ hB
            have hD : va_D (wdA 36 q) (xw c q σ16) := xw_D hD0
            refine lv_if_eq (tgt := 81) hx hb dX3_readOrder_73 (by decide) (fun c17 => ?_) (fun c17 => ?_)
            · have hw := hw.1 c17
              refine lv_aload_n hx hb dX3_readOrder_81 rfl (lv_at hl 1 rfl) ?_
              refine va_ldcS hx hb hown ((hZ s s.heap hE).2.2.2 ("StrikeHall$Reader", 161, "over", 4) (by decide)) dX3_readOrder_82 ?_
              refine va_calli (va_runV (As := [.ref (adK 4)]) (rest := []) ⟨hx, hb, hml, hown, htb⟩ (kcX3_isWord_11_s l D c q ev hev adK adV hZ σ16 4 (by decide) _ hw) (tb_CW htb kX3_isWord tb_746 tb_748 tb_18 ⟨Nat.le_of_ble_eq_true rfl, Nat.le_of_ble_eq_true rfl⟩) (wd_preV (wd := xw c q) (k := 11) hev hK hP hD hE hS (xw_11 c q σ16) rfl) rfl rfl hl.1 rfl (lv_room (Nat.le_of_ble_eq_true rfl)) dX3_readOrder_84 ⟨Nat.zero_le _, Nat.zero_le _⟩) hS (fun q _ h => h) (fun q h => h) (fun r18 σ19 t H1 locs1 ht hvm hw hB hz1 hk1 hS => ?_)
              have hP : va_P D vwCl (xw c q σ19) H1 := ht ▸ hB
              have hD : va_D (wdA 36 q) (xw c q σ19) := xw_D hD0
              refine lv_if_ne (tgt := 99) hx hb dX3_readOrder_87 (by decide) (fun c20 => ?_) (fun c20 => ?_)
              · have hw := hw.2 c20
                refine lv_iconst (v := (1 : Int32)) hx hb dX3_readOrder_99 (by decide) ?_
                refine lv_goto (tgt := 104) hx hb dX3_readOrder_100 (by decide) ?_
                refine lv_istore (lv' := [(4, .int (1 : Int32)), (2, .int v12), (0, .ref (q 11)), (1, .int z1), (3, .int y3), (5, .int y5)]) hx hb dX3_readOrder_104 hl (by decide) rfl (fun ls hl => ?_)
                obtain ⟨v26, ev26⟩ : ∃ z : Int32, z = y5 + (1 : Int32) := ⟨_, rfl⟩
                have hw := hw v26 ev26
                refine lv_iinc (v := v26) (lv' := [(5, .int v26), (4, .int (1 : Int32)), (2, .int v12), (0, .ref (q 11)), (1, .int z1), (3, .int y3)]) hx hb dX3_readOrder_106 hl (k := 5) rfl (by rw [ev26]; rfl) (by decide) rfl (fun ls hl => ?_)
                refine lv_goto (tgt := 15) hx hb dX3_readOrder_109 (by decide) ?_
                exact ih v12 y3 (1 : Int32) v26 σ19 _ _ _ hw hk39 hk112 hP hS (lv_sub hl [3, 4, 2, 5, 1, 0] rfl)
              · have hw := hw.1 c20
                refine lv_aload_n hx hb dX3_readOrder_90 rfl (lv_at hl 1 rfl) ?_
                refine va_ldcS hx hb hown ((hZ s s.heap hE).2.2.2 ("StrikeHall$Reader", 168, "and", 5) (by decide)) dX3_readOrder_91 ?_
                refine va_calli (va_runV (As := [.ref (adK 5)]) (rest := []) ⟨hx, hb, hml, hown, htb⟩ (kcX3_isWord_11_s l D c q ev hev adK adV hZ σ19 5 (by decide) _ hw) (tb_CW htb kX3_isWord tb_746 tb_748 tb_18 ⟨Nat.le_of_ble_eq_true rfl, Nat.le_of_ble_eq_true rfl⟩) (wd_preV (wd := xw c q) (k := 11) hev hK hP hD hE hS (xw_11 c q σ19) rfl) rfl rfl hl.1 rfl (lv_room (Nat.le_of_ble_eq_true rfl)) dX3_readOrder_93 ⟨Nat.zero_le _, Nat.zero_le _⟩) hS (fun q _ h => h) (fun q h => h) (fun r21 σ22 t H1 locs1 ht hvm hw hB hz1 hk1 hS => ?_)
                have hP : va_P D vwCl (xw c q σ22) H1 := ht ▸ hB
                have hD : va_D (wdA 36 q) (xw c q σ22) := xw_D hD0
                refine lv_if_eq (tgt := 103) hx hb dX3_readOrder_96 (by decide) (fun c23 => ?_) (fun c23 => ?_)
                · have hw := hw.1 c23
                  refine lv_iconst (v := (0 : Int32)) hx hb dX3_readOrder_103 (by decide) ?_
                  refine lv_istore (lv' := [(4, .int (0 : Int32)), (2, .int v12), (0, .ref (q 11)), (1, .int z1), (3, .int y3), (5, .int y5)]) hx hb dX3_readOrder_104 hl (by decide) rfl (fun ls hl => ?_)
                  obtain ⟨v24, ev24⟩ : ∃ z : Int32, z = y5 + (1 : Int32) := ⟨_, rfl⟩
                  have hw := hw v24 ev24
                  refine lv_iinc (v := v24) (lv' := [(5, .int v24), (4, .int (0 : Int32)), (2, .int v12), (0, .ref (q 11)), (1, .int z1), (3, .int y3)]) hx hb dX3_readOrder_106 hl (k := 5) rfl (by rw [ev24]; rfl) (by decide) rfl (fun ls hl => ?_)
                  refine lv_goto (tgt := 15) hx hb dX3_readOrder_109 (by decide) ?_
                  exact ih v12 y3 (0 : Int32) v24 σ22 _ _ _ hw hk39 hk112 hP hS (lv_sub hl [3, 4, 2, 5, 1, 0] rfl)
                · have hw := hw.2 c23
                  refine lv_iconst (v := (1 : Int32)) hx hb dX3_readOrder_99 (by decide) ?_
                  refine lv_goto (tgt := 104) hx hb dX3_readOrder_100 (by decide) ?_
                  refine lv_istore (lv' := [(4, .int (1 : Int32)), (2, .int v12), (0, .ref (q 11)), (1, .int z1), (3, .int y3), (5, .int y5)]) hx hb dX3_readOrder_104 hl (by decide) rfl (fun ls hl => ?_)
                  obtain ⟨v25, ev25⟩ : ∃ z : Int32, z = y5 + (1 : Int32) := ⟨_, rfl⟩
                  have hw := hw v25 ev25
                  refine lv_iinc (v := v25) (lv' := [(5, .int v25), (4, .int (1 : Int32)), (2, .int v12), (0, .ref (q 11)), (1, .int z1), (3, .int y3)]) hx hb dX3_readOrder_106 hl (k := 5) rfl (by rw [ev25]; rfl) (by decide) rfl (fun ls hl => ?_)
                  refine lv_goto (tgt := 15) hx hb dX3_readOrder_109 (by decide) ?_
                  exact ih v12 y3 (1 : Int32) v25 σ22 _ _ _ hw hk39 hk112 hP hS (lv_sub hl [3, 4, 2, 5, 1, 0] rfl)
            · have hw := hw.2 c17
              refine lv_iload_n hx hb dX3_readOrder_76 rfl (lv_at hl 0 rfl) ?_
              refine va_calli (va_runS (As := [.int v12]) (rest := []) ⟨hx, hb, hml, hown, htb⟩ (kcJ6_bitCount_0f7a4_x l D c q ev hev σ16 v12 _ hw) (tb_CS htb kJ6_bitCount_0f7a4 tb_835 tb_407 ⟨Nat.le_of_ble_eq_true rfl, Nat.le_of_ble_eq_true rfl⟩) (wd_preS (wd := xw c q) hev hK hP hD hE hS) rfl rfl hl.1 rfl (lv_room (Nat.le_of_ble_eq_true rfl)) dX3_readOrder_77 ⟨Nat.zero_le _, Nat.zero_le _⟩) hS (fun q _ h => h) (fun q h => h) (fun r27 σ28 t H1 locs1 ht hvm hw hB hz1 hk1 hS => ?_)
              have hP : va_P D vwCl (xw c q σ28) H1 := ht ▸ hB
              have hD : va_D (wdA 36 q) (xw c q σ28) := xw_D hD0
              refine lv_istore_n (lv' := [(3, .int r27), (2, .int v12), (0, .ref (q 11)), (1, .int z1), (4, .int y4), (5, .int y5)]) hx hb dX3_readOrder_80 rfl hl (by decide) rfl (fun ls hl => ?_)
              refine lv_aload_n hx hb dX3_readOrder_81 rfl (lv_at hl 2 rfl) ?_
              refine va_ldcS hx hb hown ((hZ s s.heap hE).2.2.2 ("StrikeHall$Reader", 161, "over", 4) (by decide)) dX3_readOrder_82 ?_
              refine va_calli (va_runV (As := [.ref (adK 4)]) (rest := []) ⟨hx, hb, hml, hown, htb⟩ (kcX3_isWord_11_s l D c q ev hev adK adV hZ σ28 4 (by decide) _ hw) (tb_CW htb kX3_isWord tb_746 tb_748 tb_18 ⟨Nat.le_of_ble_eq_true rfl, Nat.le_of_ble_eq_true rfl⟩) (wd_preV (wd := xw c q) (k := 11) hev hK hP hD hE hS (xw_11 c q σ28) rfl) rfl rfl hl.1 rfl (lv_room (Nat.le_of_ble_eq_true rfl)) dX3_readOrder_84 ⟨Nat.zero_le _, Nat.zero_le _⟩) hS (fun q _ h => h) (fun q h => h) (fun r29 σ30 t H1 locs1 ht hvm hw hB hz1 hk1 hS => ?_)
              have hP : va_P D vwCl (xw c q σ30) H1 := ht ▸ hB
              have hD : va_D (wdA 36 q) (xw c q σ30) := xw_D hD0
              refine lv_if_ne (tgt := 99) hx hb dX3_readOrder_87 (by decide) (fun c31 => ?_) (fun c31 => ?_)
              · have hw := hw.2 c31
                refine lv_iconst (v := (1 : Int32)) hx hb dX3_readOrder_99 (by decide) ?_
                refine lv_goto (tgt := 104) hx hb dX3_readOrder_100 (by decide) ?_
                refine lv_istore (lv' := [(4, .int (1 : Int32)), (3, .int r27), (2, .int v12), (0, .ref (q 11)), (1, .int z1), (5, .int y5)]) hx hb dX3_readOrder_104 hl (by decide) rfl (fun ls hl => ?_)
                obtain ⟨v37, ev37⟩ : ∃ z : Int32, z = y5 + (1 : Int32) := ⟨_, rfl⟩
                have hw := hw v37 ev37
                refine lv_iinc (v := v37) (lv' := [(5, .int v37), (4, .int (1 : Int32)), (3, .int r27), (2, .int v12), (0, .ref (q 11)), (1, .int z1)]) hx hb dX3_readOrder_106 hl (k := 5) rfl (by rw [ev37]; rfl) (by decide) rfl (fun ls hl => ?_)
                refine lv_goto (tgt := 15) hx hb dX3_readOrder_109 (by decide) ?_
                exact ih v12 r27 (1 : Int32) v37 σ30 _ _ _ hw hk39 hk112 hP hS (lv_sub hl [4, 5, 3, 2, 1, 0] rfl)
              · have hw := hw.1 c31
                refine lv_aload_n hx hb dX3_readOrder_90 rfl (lv_at hl 2 rfl) ?_
                refine va_ldcS hx hb hown ((hZ s s.heap hE).2.2.2 ("StrikeHall$Reader", 168, "and", 5) (by decide)) dX3_readOrder_91 ?_
                refine va_calli (va_runV (As := [.ref (adK 5)]) (rest := []) ⟨hx, hb, hml, hown, htb⟩ (kcX3_isWord_11_s l D c q ev hev adK adV hZ σ30 5 (by decide) _ hw) (tb_CW htb kX3_isWord tb_746 tb_748 tb_18 ⟨Nat.le_of_ble_eq_true rfl, Nat.le_of_ble_eq_true rfl⟩) (wd_preV (wd := xw c q) (k := 11) hev hK hP hD hE hS (xw_11 c q σ30) rfl) rfl rfl hl.1 rfl (lv_room (Nat.le_of_ble_eq_true rfl)) dX3_readOrder_93 ⟨Nat.zero_le _, Nat.zero_le _⟩) hS (fun q _ h => h) (fun q h => h) (fun r32 σ33 t H1 locs1 ht hvm hw hB hz1 hk1 hS => ?_)
                have hP : va_P D vwCl (xw c q σ33) H1 := ht ▸ hB
                have hD : va_D (wdA 36 q) (xw c q σ33) := xw_D hD0
                refine lv_if_eq (tgt := 103) hx hb dX3_readOrder_96 (by decide) (fun c34 => ?_) (fun c34 => ?_)
                · have hw := hw.1 c34
                  refine lv_iconst (v := (0 : Int32)) hx hb dX3_readOrder_103 (by decide) ?_
                  refine lv_istore (lv' := [(4, .int (0 : Int32)), (3, .int r27), (2, .int v12), (0, .ref (q 11)), (1, .int z1), (5, .int y5)]) hx hb dX3_readOrder_104 hl (by decide) rfl (fun ls hl => ?_)
                  obtain ⟨v35, ev35⟩ : ∃ z : Int32, z = y5 + (1 : Int32) := ⟨_, rfl⟩
                  have hw := hw v35 ev35
                  refine lv_iinc (v := v35) (lv' := [(5, .int v35), (4, .int (0 : Int32)), (3, .int r27), (2, .int v12), (0, .ref (q 11)), (1, .int z1)]) hx hb dX3_readOrder_106 hl (k := 5) rfl (by rw [ev35]; rfl) (by decide) rfl (fun ls hl => ?_)
                  refine lv_goto (tgt := 15) hx hb dX3_readOrder_109 (by decide) ?_
                  exact ih v12 r27 (0 : Int32) v35 σ33 _ _ _ hw hk39 hk112 hP hS (lv_sub hl [4, 5, 3, 2, 1, 0] rfl)
                · have hw := hw.2 c34
                  refine lv_iconst (v := (1 : Int32)) hx hb dX3_readOrder_99 (by decide) ?_
                  refine lv_goto (tgt := 104) hx hb dX3_readOrder_100 (by decide) ?_
                  refine lv_istore (lv' := [(4, .int (1 : Int32)), (3, .int r27), (2, .int v12), (0, .ref (q 11)), (1, .int z1), (5, .int y5)]) hx hb dX3_readOrder_104 hl (by decide) rfl (fun ls hl => ?_)
                  obtain ⟨v36, ev36⟩ : ∃ z : Int32, z = y5 + (1 : Int32) := ⟨_, rfl⟩
                  have hw := hw v36 ev36
                  refine lv_iinc (v := v36) (lv' := [(5, .int v36), (4, .int (1 : Int32)), (3, .int r27), (2, .int v12), (0, .ref (q 11)), (1, .int z1)]) hx hb dX3_readOrder_106 hl (k := 5) rfl (by rw [ev36]; rfl) (by decide) rfl (fun ls hl => ?_)
                  refine lv_goto (tgt := 15) hx hb dX3_readOrder_109 (by decide) ?_
                  exact ih v12 r27 (1 : Int32) v36 σ33 _ _ _ hw hk39 hk112 hP hS (lv_sub hl [4, 5, 3, 2, 1, 0] rfl)
          · have hw := hw.1 c9
            exact hk39 y2 y3 y4 y5 σ8 _ _ _ hw hP hS (lv_sub hl [0, 1, 2, 3, 4, 5] rfl)
  have L115 : ∀ (K156 : Int32 → hsS → Prop) (z1 : Int32) (z2 : Int32) (z3 : Int32) (z4 : Int32) (n : Nat) (y5 : Int32) (σ : hsS) (H : Heap) (locs : List Loc) (ls : Array Slot), wX3_readOrder_L115 11 z1 z2 z3 z4 K156 post n y5 σ → (∀ (y5 : Int32) (σ : hsS) (H : Heap) (locs : List Loc) (ls : Array Slot), K156 y5 σ → va_P D vwCl (xw c q σ) H → va_S (wdA 36 q) s.heap H locs → lv_has ls 6 [(0, .ref (q 11)), (1, .int z1), (2, .int z2), (3, .int z3), (4, .int z4), (5, .int y5)] → W p l e (headSpec (Cond.code yX3_readOrder cX3_readOrder 6 (some .boolean) :: tb_L) { frames := 5, cells := 0, slots := 0, locals := 107 }).room s m [.ref (q 11), .int x1].toArray below meth c₀ H locs 0 0 (MQ below (va_Qi post (wdB D (xw c q)) (wdA 36 q)) [.ref (q 11), .int x1].toArray s 0 0 (wdA 36 q)) (F0 m 156 ls [])) → va_P D vwCl (xw c q σ) H → va_S (wdA 36 q) s.heap H locs → lv_has ls 6 [(0, .ref (q 11)), (1, .int z1), (2, .int z2), (3, .int z3), (4, .int z4), (5, .int y5)] → W p l e (headSpec (Cond.code yX3_readOrder cX3_readOrder 6 (some .boolean) :: tb_L) { frames := 5, cells := 0, slots := 0, locals := 107 }).room s m [.ref (q 11), .int x1].toArray below meth c₀ H locs 0 0 (MQ below (va_Qi post (wdB D (xw c q)) (wdA 36 q)) [.ref (q 11), .int x1].toArray s 0 0 (wdA 36 q)) (F0 m 115 ls []) := by
    intro K156 z1 z2 z3 z4 n
    induction n with
    | zero =>
      intro y5 σ H locs ls hw hk156 hP hS hl
      exact (show False from hw).elim
    | succ n ih =>
      intro y5 σ H locs ls hw hk156 hP hS hl
      rw [wX3_readOrder_L115] at hw
      have hD : va_D (wdA 36 q) (xw c q σ) := xw_D hD0
      refine lv_iload hx hb dX3_readOrder_115 (lv_at hl 5 rfl) ?_
      refine lv_aload_n hx hb dX3_readOrder_117 rfl (lv_at hl 0 rfl) ?_
      refine va_get (D := D) (ci := 3) (C := RX3) (T := TX3) (N := 10) hx hb htb inX3 hown hK hP 11 (xw_11 c q σ) rfl 1 (by decide) (htb _ tb_202) (fun _ h9 => h9) rfl dX3_readOrder_118 ?_
      refine va_getN (D := D) (ci := 1) (C := RX1) (T := TX1) (N := 12) hx hb htb inX1 hown hK hP 13 (xw_13 c q σ) rfl 0 (by decide) (htb _ tb_131) (fun _ h9 => h9) rfl dX3_readOrder_121 ?_
      refine lv_icmp_ge (tgt := 156) hx hb dX3_readOrder_124 (by decide) (fun c49 => ?_) (fun c49 => ?_)
      · have hw := hw.1 c49
        exact hk156 y5 σ _ _ _ hw hP hS (lv_sub hl [0, 1, 2, 3, 4, 5] rfl)
      · have hw := hw.2 c49
        refine lv_iload_n hx hb dX3_readOrder_127 rfl (lv_at hl 2 rfl) ?_
        refine lv_iload hx hb dX3_readOrder_128 (lv_at hl 5 rfl) ?_
        refine lv_ishr hx hb dX3_readOrder_130 ?_
        refine lv_iconst (v := (1 : Int32)) hx hb dX3_readOrder_131 (by decide) ?_
        refine lv_iand hx hb dX3_readOrder_132 ?_
        refine lv_if_ne (tgt := 150) hx hb dX3_readOrder_133 (by decide) (fun c50 => ?_) (fun c50 => ?_)
        · have hw := hw.2 c50
          obtain ⟨v56, ev56⟩ : ∃ z : Int32, z = y5 + (1 : Int32) := ⟨_, rfl⟩
          have hw := hw v56 ev56
          refine lv_iinc (v := v56) (lv' := [(5, .int v56), (0, .ref (q 11)), (1, .int z1), (2, .int z2), (3, .int z3), (4, .int z4)]) hx hb dX3_readOrder_150 hl (k := 5) rfl (by rw [ev56]; rfl) (by decide) rfl (fun ls hl => ?_)
          refine lv_goto (tgt := 115) hx hb dX3_readOrder_153 (by decide) ?_
          exact ih v56 σ _ _ _ hw hk156 hP hS (lv_sub hl [1, 2, 3, 4, 5, 0] rfl)
        · have hw := hw.1 c50
          refine lv_aload_n hx hb dX3_readOrder_136 rfl (lv_at hl 0 rfl) ?_
          refine va_get (D := D) (ci := 3) (C := RX3) (T := TX3) (N := 10) hx hb htb inX3 hown hK hP 11 (xw_11 c q σ) rfl 1 (by decide) (htb _ tb_202) (fun _ h9 => h9) rfl dX3_readOrder_137 ?_
          refine lv_iload_n hx hb dX3_readOrder_140 rfl (lv_at hl 1 rfl) ?_
          refine lv_iload hx hb dX3_readOrder_141 (lv_at hl 5 rfl) ?_
          refine lv_iload_n hx hb dX3_readOrder_143 rfl (lv_at hl 2 rfl) ?_
          refine va_calli (va_runS (As := [.int z2]) (rest := [.int y5, .int z1, .ref (q 13)]) ⟨hx, hb, hml, hown, htb⟩ (kcJ6_bitCount_0f7a4_x l D c q ev hev σ z2 _ hw) (tb_CS htb kJ6_bitCount_0f7a4 tb_835 tb_407 ⟨Nat.le_of_ble_eq_true rfl, Nat.le_of_ble_eq_true rfl⟩) (wd_preS (wd := xw c q) hev hK hP hD hE hS) rfl rfl hl.1 rfl (lv_room (Nat.le_of_ble_eq_true rfl)) dX3_readOrder_144 ⟨Nat.zero_le _, Nat.zero_le _⟩) hS (fun q _ h => h) (fun q h => h) (fun r51 σ52 t H1 locs1 ht hvm hw hB hz1 hk1 hS => ?_)
          have hP : va_P D vwCl (xw c q σ52) H1 := ht ▸ hB
          have hD : va_D (wdA 36 q) (xw c q σ52) := xw_D hD0
          refine va_callv (va_runV (As := [.int z1, .int y5, .int r51]) (rest := []) ⟨hx, hb, hml, hown, htb⟩ (kcX1_putPlace_13 l D c q ev hev σ52 z1 y5 r51 _ hw) (tb_CW htb kX1_putPlace tb_833 tb_599 tb_600 ⟨Nat.le_of_ble_eq_true rfl, Nat.le_of_ble_eq_true rfl⟩) (wd_preV (wd := xw c q) (k := 13) hev hK hP hD hE hS (xw_13 c q σ52) rfl) rfl rfl hl.1 rfl (lv_room (Nat.le_of_ble_eq_true rfl)) dX3_readOrder_147 ⟨Nat.zero_le _, Nat.zero_le _⟩) hS (fun q _ h => h) (fun q h => h) (fun σ54 t H1 locs1 ht hvm hw hB hz1 hk1 hS => ?_)
          have hP : va_P D vwCl (xw c q σ54) H1 := ht ▸ hB
          have hD : va_D (wdA 36 q) (xw c q σ54) := xw_D hD0
          obtain ⟨v55, ev55⟩ : ∃ z : Int32, z = y5 + (1 : Int32) := ⟨_, rfl⟩
          have hw := hw v55 ev55
          refine lv_iinc (v := v55) (lv' := [(5, .int v55), (0, .ref (q 11)), (1, .int z1), (2, .int z2), (3, .int z3), (4, .int z4)]) hx hb dX3_readOrder_150 hl (k := 5) rfl (by rw [ev55]; rfl) (by decide) rfl (fun ls hl => ?_)
          refine lv_goto (tgt := 115) hx hb dX3_readOrder_153 (by decide) ?_
          exact ih v55 σ54 _ _ _ hw hk156 hP hS (lv_sub hl [1, 2, 3, 4, 5, 0] rfl)
  have hl := lv_entry ([.ref (q 11), .int x1]) (n := 6) (Nat.le_of_ble_eq_true rfl)
  rw [lg_entry_eq]
  generalize (lg_sl ([.ref (q 11), .int x1]) ++ List.replicate (6 - (lg_sl ([.ref (q 11), .int x1])).length) Slot.unset).toArray = ls at hl ⊢
  have hl : lv_has ls 6 [(0, .ref (q 11)), (1, .int x1)] := hl
  unfold wX3_readOrder at hw
  refine lv_iconst (v := (0 : Int32)) hx hb dX3_readOrder_0 (by decide) ?_
  refine lv_istore_n (lv' := [(2, .int (0 : Int32)), (0, .ref (q 11)), (1, .int x1)]) hx hb dX3_readOrder_1 rfl hl (by decide) rfl (fun ls hl => ?_)
  refine lv_iconst (v := (0 : Int32)) hx hb dX3_readOrder_2 (by decide) ?_
  refine lv_istore_n (lv' := [(3, .int (0 : Int32)), (2, .int (0 : Int32)), (0, .ref (q 11)), (1, .int x1)]) hx hb dX3_readOrder_3 rfl hl (by decide) rfl (fun ls hl => ?_)
  refine lv_aload_n hx hb dX3_readOrder_4 rfl (lv_at hl 2 rfl) ?_
  refine va_ldcS hx hb hown ((hZ s s.heap hE).2.2.2 ("StrikeHall$Reader", 146, "likes", 3) (by decide)) dX3_readOrder_5 ?_
  refine va_calli (va_runV (As := [.ref (adK 3)]) (rest := []) ⟨hx, hb, hml, hown, htb⟩ (kcX3_isWord_11_s l D c q ev hev adK adV hZ σ 3 (by decide) _ hw) (tb_CW htb kX3_isWord tb_746 tb_748 tb_18 ⟨Nat.le_of_ble_eq_true rfl, Nat.le_of_ble_eq_true rfl⟩) (wd_preV (wd := xw c q) (k := 11) hev hK hP hD hE hS (xw_11 c q σ) rfl) rfl rfl hl.1 rfl (lv_room (Nat.le_of_ble_eq_true rfl)) dX3_readOrder_7 ⟨Nat.zero_le _, Nat.zero_le _⟩) hS (fun q _ h => h) (fun q h => h) (fun r1 σ2 t H1 locs1 ht hvm hw hB hz1 hk1 hS => ?_)
  have hP : va_P D vwCl (xw c q σ2) H1 := ht ▸ hB
  have hD : va_D (wdA 36 q) (xw c q σ2) := xw_D hD0
  refine lv_istore (lv' := [(4, .int r1), (3, .int (0 : Int32)), (2, .int (0 : Int32)), (0, .ref (q 11)), (1, .int x1)]) hx hb dX3_readOrder_10 hl (by decide) rfl (fun ls hl => ?_)
  refine lv_iconst (v := (0 : Int32)) hx hb dX3_readOrder_12 (by decide) ?_
  refine lv_istore (lv' := [(5, .int (0 : Int32)), (4, .int r1), (3, .int (0 : Int32)), (2, .int (0 : Int32)), (0, .ref (q 11)), (1, .int x1)]) hx hb dX3_readOrder_13 hl (by decide) rfl (fun ls hl => ?_)
  obtain ⟨n38, hw⟩ := hw
  refine L15 _ _ x1 n38 (0 : Int32) (0 : Int32) r1 (0 : Int32) σ2 _ _ _ hw ?_ ?_ hP hS (lv_sub hl [4, 5, 3, 2, 1, 0] rfl)
  · intro v39 v40 v41 v42 σ43 H locs ls hw hP hS hl
    have hD : va_D (wdA 36 q) (xw c q σ43) := xw_D hD0
    refine lv_iconst (v := (0 : Int32)) hx hb dX3_readOrder_39 (by decide) ?_
    exact W.zret hx hb hr rfl (fun t ht hW => ⟨⟨_, σ43, rfl, hw, by unfold wdB; rw [ht]; exact hP⟩, hS.F ht⟩) hS.2.2 dX3_readOrder_40
  · intro v44 v45 v46 v47 σ48 H locs ls hw hP hS hl
    have hD : va_D (wdA 36 q) (xw c q σ48) := xw_D hD0
    refine lv_iconst (v := (0 : Int32)) hx hb dX3_readOrder_112 (by decide) ?_
    refine lv_istore (lv' := [(5, .int (0 : Int32)), (0, .ref (q 11)), (1, .int x1), (2, .int v44), (3, .int v45), (4, .int v46)]) hx hb dX3_readOrder_113 hl (by decide) rfl (fun ls hl => ?_)
    obtain ⟨n57, hw⟩ := hw
    refine L115 _ x1 v44 v45 v46 n57 (0 : Int32) σ48 _ _ _ hw ?_ hP hS (lv_sub hl [1, 2, 3, 4, 5, 0] rfl)
    intro v58 σ59 H locs ls hw hP hS hl
    have hD : va_D (wdA 36 q) (xw c q σ59) := xw_D hD0
    refine lv_iconst (v := (1 : Int32)) hx hb dX3_readOrder_156 (by decide) ?_
    exact W.zret hx hb hr rfl (fun t ht hW => ⟨⟨_, σ59, rfl, hw, by unfold wdB; rw [ht]; exact hP⟩, hS.F ht⟩) hS.2.2 dX3_readOrder_157
def wX3_readPerson (b0 : Nat) (post : Int32 → hsS → Prop) (σ : hsS) : Prop := (((σ.1 (64 * (b0 + 2) + 1)) < (8 : Int32) → wX3_next b0 (fun σ3 => wX3_passWord b0 2 (fun r4 σ5 => ((r4 = (0 : Int32) → post (0 : Int32) σ5) ∧ (¬ r4 = (0 : Int32) → wX3_atNumberWithin b0 (1 : Int32) (99 : Int32) (fun r7 σ8 => ((r7 = (0 : Int32) → post (0 : Int32) σ8) ∧ (¬ r7 = (0 : Int32) → ∀ v10 : Int32, v10 = σ8.1 (64 * (b0 + 2) + 1) → ∀ σ11 : hsS, σ11 = hsI σ8 (64 * (b0 + 2) + 1) ((σ8.1 (64 * (b0 + 2) + 1)) + (1 : Int32)) → vp_in v10 8 ∧ ∀ σ12 : hsS, σ12 = hsA σ11 (b0 + 3) (upd (σ11.2.1 (b0 + 3)) v10.toNatClampNeg (σ11.1 (64 * b0 + 7))) → ∀ σ13 : hsS, σ13 = hsI σ12 (64 * (b0 + 2) + 2) ((σ12.1 (64 * (b0 + 2) + 2)) + (σ12.1 (64 * b0 + 7))) → wX3_next b0 (fun σ15 => wX3_isWord b0 3 (fun r16 σ17 => ((r16 = (0 : Int32) → wX3_readOrder b0 v10 (fun r19 σ20 => (r19 = 0 ∨ r19 = 1) ∧ post r19 σ20) σ17) ∧ (¬ r16 = (0 : Int32) → ∀ σ21 : hsS, σ21 = hsI σ17 (64 * (b0 + 2) + 7) ((σ17.1 (64 * (b0 + 2) + 7)) ||| ((1 : Int32) <<< (v10 &&& 31))) → wX3_readOrder b0 v10 (fun r22 σ23 => (r22 = 0 ∨ r22 = 1) ∧ post r22 σ23) σ21))) σ15) σ13))) σ5))) σ3) σ) ∧ (¬ (σ.1 (64 * (b0 + 2) + 1)) < (8 : Int32) → wX3_fail b0 (2 : Int32) (fun r24 σ25 => (r24 = 0 ∨ r24 = 1) ∧ post r24 σ25) σ))
set_option maxHeartbeats 4000000 in
set_option maxRecDepth 100000 in
theorem kcX3_readPerson_11 (l : Launch) (D : va_G) (c : Nat → ClassId) (q : Nat → Nat) (ev : State → Heap → Prop) (hev : evOK (wdA 36 q) ev) (adK adV : Nat → Nat) (hZ : ∀ (U : State) (H : Heap), ev U H → evS (wdA 36 q) adK adV U H) (σ : hsS)  (post : Int32 → hsS → Prop) (hw : wX3_readPerson 11 post σ) : Met l yX3_readPerson (Cond.code yX3_readPerson cX3_readPerson 2 (some .boolean) :: tb_L) { frames := 6, cells := 0, slots := 0, locals := 132 } (wdPc D (xw c q) (xwT c) (wdA 36 q) ev σ [.ref (q 11)]) (va_Qi post (wdB D (xw c q)) (wdA 36 q)) 0 0 (wdA 36 q) := by
  refine Met.ofW (cc := cX3_readPerson) (maxL := 2) (ret := (some .boolean)) (by decide) rfl ?_
  intro p e s m args below meth c₀ s₁ Bd hml hv
  obtain ⟨rfl, hP, hK, hD0, hE⟩ := hv
  have hx := Bd.exec
  have hb := Bd.bytes
  have hr := Bd.returns
  have hts := atoms_spec (ws := Cond.code yX3_readPerson cX3_readPerson 2 (some .boolean) :: tb_L) Bd.pre
  have htb : ∀ w ∈ tb_L, w.before [.ref (q 11)].toArray s = true := fun w h => hts w (List.mem_cons_of_mem _ h)
  have hown : s.vm.findClass RX3 = some m.cls := findClass_of_methodNamed Bd.named
  have hlocks := Bd.notSynchronized
  have hS : va_S (wdA 36 q) s.heap s.heap [] := va_S.rf
  have hD := hD0
  have hl := lv_entry ([.ref (q 11)]) (n := 2) (Nat.le_of_ble_eq_true rfl)
  rw [lg_entry_eq]
  generalize (lg_sl ([.ref (q 11)]) ++ List.replicate (2 - (lg_sl ([.ref (q 11)])).length) Slot.unset).toArray = ls at hl ⊢
  have hl : lv_has ls 2 [(0, .ref (q 11))] := hl
  unfold wX3_readPerson at hw
  refine lv_aload_n hx hb dX3_readPerson_0 rfl (lv_at hl 0 rfl) ?_
  refine va_get (D := D) (ci := 3) (C := RX3) (T := TX3) (N := 10) hx hb htb inX3 hown hK hP 11 (xw_11 c q σ) rfl 1 (by decide) (htb _ tb_202) (fun _ h9 => h9) rfl dX3_readPerson_1 ?_
  refine va_getN (D := D) (ci := 1) (C := RX1) (T := TX1) (N := 12) hx hb htb inX1 hown hK hP 13 (xw_13 c q σ) rfl 1 (by decide) (htb _ tb_137) (fun _ h9 => h9) rfl dX3_readPerson_4 ?_
  refine lv_bipush (v := (8 : Int32)) hx hb dX3_readPerson_7 (by decide) ?_
  refine lv_icmp_lt (tgt := 18) hx hb dX3_readPerson_9 (by decide) (fun c1 => ?_) (fun c1 => ?_)
  · have hw := hw.1 c1
    refine lv_aload_n hx hb dX3_readPerson_18 rfl (lv_at hl 0 rfl) ?_
    refine va_callv (va_runV (As := []) (rest := []) ⟨hx, hb, hml, hown, htb⟩ (kcX3_next_11 l D c q ev hev σ  _ hw) (tb_CW htb kX3_next tb_712 tb_714 tb_12 ⟨Nat.le_of_ble_eq_true rfl, Nat.le_of_ble_eq_true rfl⟩) (wd_preV (wd := xw c q) (k := 11) hev hK hP hD hE hS (xw_11 c q σ) rfl) rfl rfl hl.1 rfl (lv_room (Nat.le_of_ble_eq_true rfl)) dX3_readPerson_19 ⟨Nat.zero_le _, Nat.zero_le _⟩) hS (fun q _ h => h) (fun q h => h) (fun σ3 t H1 locs1 ht hvm hw hB hz1 hk1 hS => ?_)
    have hP : va_P D vwCl (xw c q σ3) H1 := ht ▸ hB
    have hD : va_D (wdA 36 q) (xw c q σ3) := xw_D hD0
    refine lv_aload_n hx hb dX3_readPerson_22 rfl (lv_at hl 0 rfl) ?_
    refine va_ldcS hx hb hown ((hZ s s.heap hE).2.2.2 ("StrikeHall$Reader", 137, "weight", 2) (by decide)) dX3_readPerson_23 ?_
    refine va_calli (va_runV (As := [.ref (adK 2)]) (rest := []) ⟨hx, hb, hml, hown, htb⟩ (kcX3_passWord_11_s l D c q ev hev adK adV hZ σ3 2 (by decide) _ hw) (tb_CW htb kX3_passWord tb_742 tb_744 tb_17 ⟨Nat.le_of_ble_eq_true rfl, Nat.le_of_ble_eq_true rfl⟩) (wd_preV (wd := xw c q) (k := 11) hev hK hP hD hE hS (xw_11 c q σ3) rfl) rfl rfl hl.1 rfl (lv_room (Nat.le_of_ble_eq_true rfl)) dX3_readPerson_25 ⟨Nat.zero_le _, Nat.zero_le _⟩) hS (fun q _ h => h) (fun q h => h) (fun r4 σ5 t H1 locs1 ht hvm hw hB hz1 hk1 hS => ?_)
    have hP : va_P D vwCl (xw c q σ5) H1 := ht ▸ hB
    have hD : va_D (wdA 36 q) (xw c q σ5) := xw_D hD0
    refine lv_if_eq (tgt := 41) hx hb dX3_readPerson_28 (by decide) (fun c6 => ?_) (fun c6 => ?_)
    · have hw := hw.1 c6
      refine lv_iconst (v := (0 : Int32)) hx hb dX3_readPerson_41 (by decide) ?_
      exact W.zret hx hb hr rfl (fun t ht hW => ⟨⟨_, σ5, rfl, hw, by unfold wdB; rw [ht]; exact hP⟩, hS.F ht⟩) hS.2.2 dX3_readPerson_42
    · have hw := hw.2 c6
      refine lv_aload_n hx hb dX3_readPerson_31 rfl (lv_at hl 0 rfl) ?_
      refine lv_iconst (v := (1 : Int32)) hx hb dX3_readPerson_32 (by decide) ?_
      refine lv_bipush (v := (99 : Int32)) hx hb dX3_readPerson_33 (by decide) ?_
      refine va_calli (va_runV (As := [.int (1 : Int32), .int (99 : Int32)]) (rest := []) ⟨hx, hb, hml, hown, htb⟩ (kcX3_atNumberWithin_11 l D c q ev hev σ5 (1 : Int32) (99 : Int32) _ hw) (tb_CW htb kX3_atNumberWithin tb_802 tb_804 tb_20 ⟨Nat.le_of_ble_eq_true rfl, Nat.le_of_ble_eq_true rfl⟩) (wd_preV (wd := xw c q) (k := 11) hev hK hP hD hE hS (xw_11 c q σ5) rfl) rfl rfl hl.1 rfl (lv_room (Nat.le_of_ble_eq_true rfl)) dX3_readPerson_35 ⟨Nat.zero_le _, Nat.zero_le _⟩) hS (fun q _ h => h) (fun q h => h) (fun r7 σ8 t H1 locs1 ht hvm hw hB hz1 hk1 hS => ?_)
      have hP : va_P D vwCl (xw c q σ8) H1 := ht ▸ hB
      have hD : va_D (wdA 36 q) (xw c q σ8) := xw_D hD0
      refine lv_if_ne (tgt := 43) hx hb dX3_readPerson_38 (by decide) (fun c9 => ?_) (fun c9 => ?_)
      · have hw := hw.2 c9
        refine lv_aload_n hx hb dX3_readPerson_43 rfl (lv_at hl 0 rfl) ?_
        refine va_get (D := D) (ci := 3) (C := RX3) (T := TX3) (N := 10) hx hb htb inX3 hown hK hP 11 (xw_11 c q σ8) rfl 1 (by decide) (htb _ tb_202) (fun _ h9 => h9) rfl dX3_readPerson_44 ?_
        refine va_getN (D := D) (ci := 1) (C := RX1) (T := TX1) (N := 12) hx hb htb inX1 hown hK hP 13 (xw_13 c q σ8) rfl 1 (by decide) (htb _ tb_137) (fun _ h9 => h9) rfl dX3_readPerson_47 ?_
        refine lv_topi (fun v10 ev10 => ?_)
        have hw := hw v10 ev10
        refine lv_istore_n (lv' := [(1, .int v10), (0, .ref (q 11))]) hx hb dX3_readPerson_50 rfl hl (by decide) rfl (fun ls hl => ?_)
        refine lv_aload_n hx hb dX3_readPerson_51 rfl (lv_at hl 1 rfl) ?_
        refine va_get (D := D) (ci := 3) (C := RX3) (T := TX3) (N := 10) hx hb htb inX3 hown hK hP 11 (xw_11 c q σ8) rfl 1 (by decide) (htb _ tb_202) (fun _ h9 => h9) rfl dX3_readPerson_52 ?_
        refine lv_dup hx hb dX3_readPerson_55 rfl ?_
        refine va_getN (D := D) (ci := 1) (C := RX1) (T := TX1) (N := 12) hx hb htb inX1 hown hK hP 13 (xw_13 c q σ8) rfl 1 (by decide) (htb _ tb_137) (fun _ h9 => h9) rfl dX3_readPerson_56 ?_
        refine lv_iconst (v := (1 : Int32)) hx hb dX3_readPerson_59 (by decide) ?_
        refine lv_iadd hx hb dX3_readPerson_60 ?_
        refine va_putN (D := D) (ci := 1) (ty := .int) (C := RX1) (T := TX1) (N := 12) hx hb htb inX1 tyX1 tyX1_ok nmX1 hown hK hP hD hS 13 (xw_13 c q σ8) rfl 1 (by decide) (htb _ tb_137) (fun _ h9 => h9) rfl (by decide +kernel) rfl rfl (Nat.le_of_ble_eq_true rfl) dX3_readPerson_61 (fun H locs hP hD hS => ?_)
        have hP : va_P D vwCl (xw c q (hsI σ8 833 ((σ8.1 833) + (1 : Int32)))) H := hP
        obtain ⟨σ11, eσ11⟩ : ∃ z : hsS, z = hsI σ8 833 ((σ8.1 833) + (1 : Int32)) := ⟨_, rfl⟩
        rw [← eσ11] at hP
        have hD : va_D (wdA 36 q) (xw c q σ11) := xw_D hD0
        have hw := hw σ11 eσ11
        refine lv_aload_n hx hb dX3_readPerson_64 rfl (lv_at hl 1 rfl) ?_
        refine va_get (D := D) (ci := 3) (C := RX3) (T := TX3) (N := 10) hx hb htb inX3 hown hK hP 11 (xw_11 c q σ11) rfl 1 (by decide) (htb _ tb_202) (fun _ h9 => h9) rfl dX3_readPerson_65 ?_
        refine va_getN (D := D) (ci := 1) (C := RX1) (T := TX1) (N := 12) hx hb htb inX1 hown hK hP 13 (xw_13 c q σ11) rfl 8 (by decide) (htb _ tb_157) (fun _ h9 => h9) rfl dX3_readPerson_68 ?_
        refine lv_iload_n hx hb dX3_readPerson_71 rfl (lv_at hl 0 rfl) ?_
        refine lv_aload_n hx hb dX3_readPerson_72 rfl (lv_at hl 1 rfl) ?_
        refine va_get (D := D) (ci := 3) (C := RX3) (T := TX3) (N := 10) hx hb htb inX3 hown hK hP 11 (xw_11 c q σ11) rfl 7 (by decide) (htb _ tb_210) (fun _ h9 => h9) rfl dX3_readPerson_73 ?_
        refine va_iast hx hb hK hP hD hS 14 9 (xw_14 c q σ11) rfl hw.1 dX3_readPerson_76 (fun H locs hP hD hS => ?_)
        have hw := hw.2
        have hP : va_P D vwCl (xw c q (hsA σ11 14 (upd (σ11.2.1 14) v10.toNatClampNeg (σ11.1 711)))) H := hP
        obtain ⟨σ12, eσ12⟩ : ∃ z : hsS, z = hsA σ11 14 (upd (σ11.2.1 14) v10.toNatClampNeg (σ11.1 711)) := ⟨_, rfl⟩
        rw [← eσ12] at hP
        have hD : va_D (wdA 36 q) (xw c q σ12) := xw_D hD0
        have hw := hw σ12 eσ12
        refine lv_aload_n hx hb dX3_readPerson_77 rfl (lv_at hl 1 rfl) ?_
        refine va_get (D := D) (ci := 3) (C := RX3) (T := TX3) (N := 10) hx hb htb inX3 hown hK hP 11 (xw_11 c q σ12) rfl 1 (by decide) (htb _ tb_202) (fun _ h9 => h9) rfl dX3_readPerson_78 ?_
        refine lv_dup hx hb dX3_readPerson_81 rfl ?_
        refine va_getN (D := D) (ci := 1) (C := RX1) (T := TX1) (N := 12) hx hb htb inX1 hown hK hP 13 (xw_13 c q σ12) rfl 2 (by decide) (htb _ tb_140) (fun _ h9 => h9) rfl dX3_readPerson_82 ?_
        refine lv_aload_n hx hb dX3_readPerson_85 rfl (lv_at hl 1 rfl) ?_
        refine va_get (D := D) (ci := 3) (C := RX3) (T := TX3) (N := 10) hx hb htb inX3 hown hK hP 11 (xw_11 c q σ12) rfl 7 (by decide) (htb _ tb_210) (fun _ h9 => h9) rfl dX3_readPerson_86 ?_
        refine lv_iadd hx hb dX3_readPerson_89 ?_
        refine va_putN (D := D) (ci := 1) (ty := .int) (C := RX1) (T := TX1) (N := 12) hx hb htb inX1 tyX1 tyX1_ok nmX1 hown hK hP hD hS 13 (xw_13 c q σ12) rfl 2 (by decide) (htb _ tb_140) (fun _ h9 => h9) rfl (by decide +kernel) rfl rfl (Nat.le_of_ble_eq_true rfl) dX3_readPerson_90 (fun H locs hP hD hS => ?_)
        have hP : va_P D vwCl (xw c q (hsI σ12 834 ((σ12.1 834) + (σ12.1 711)))) H := hP
        obtain ⟨σ13, eσ13⟩ : ∃ z : hsS, z = hsI σ12 834 ((σ12.1 834) + (σ12.1 711)) := ⟨_, rfl⟩
        rw [← eσ13] at hP
        have hD : va_D (wdA 36 q) (xw c q σ13) := xw_D hD0
        have hw := hw σ13 eσ13
        refine lv_aload_n hx hb dX3_readPerson_93 rfl (lv_at hl 1 rfl) ?_
        refine va_callv (va_runV (As := []) (rest := []) ⟨hx, hb, hml, hown, htb⟩ (kcX3_next_11 l D c q ev hev σ13  _ hw) (tb_CW htb kX3_next tb_712 tb_714 tb_12 ⟨Nat.le_of_ble_eq_true rfl, Nat.le_of_ble_eq_true rfl⟩) (wd_preV (wd := xw c q) (k := 11) hev hK hP hD hE hS (xw_11 c q σ13) rfl) rfl rfl hl.1 rfl (lv_room (Nat.le_of_ble_eq_true rfl)) dX3_readPerson_94 ⟨Nat.zero_le _, Nat.zero_le _⟩) hS (fun q _ h => h) (fun q h => h) (fun σ15 t H1 locs1 ht hvm hw hB hz1 hk1 hS => ?_)
        have hP : va_P D vwCl (xw c q σ15) H1 := ht ▸ hB
        have hD : va_D (wdA 36 q) (xw c q σ15) := xw_D hD0
        refine lv_aload_n hx hb dX3_readPerson_97 rfl (lv_at hl 1 rfl) ?_
        refine va_ldcS hx hb hown ((hZ s s.heap hE).2.2.2 ("StrikeHall$Reader", 146, "likes", 3) (by decide)) dX3_readPerson_98 ?_
        refine va_calli (va_runV (As := [.ref (adK 3)]) (rest := []) ⟨hx, hb, hml, hown, htb⟩ (kcX3_isWord_11_s l D c q ev hev adK adV hZ σ15 3 (by decide) _ hw) (tb_CW htb kX3_isWord tb_746 tb_748 tb_18 ⟨Nat.le_of_ble_eq_true rfl, Nat.le_of_ble_eq_true rfl⟩) (wd_preV (wd := xw c q) (k := 11) hev hK hP hD hE hS (xw_11 c q σ15) rfl) rfl rfl hl.1 rfl (lv_room (Nat.le_of_ble_eq_true rfl)) dX3_readPerson_100 ⟨Nat.zero_le _, Nat.zero_le _⟩) hS (fun q _ h => h) (fun q h => h) (fun r16 σ17 t H1 locs1 ht hvm hw hB hz1 hk1 hS => ?_)
        have hP : va_P D vwCl (xw c q σ17) H1 := ht ▸ hB
        have hD : va_D (wdA 36 q) (xw c q σ17) := xw_D hD0
        refine lv_if_eq (tgt := 121) hx hb dX3_readPerson_103 (by decide) (fun c18 => ?_) (fun c18 => ?_)
        · have hw := hw.1 c18
          refine lv_aload_n hx hb dX3_readPerson_121 rfl (lv_at hl 1 rfl) ?_
          refine lv_iload_n hx hb dX3_readPerson_122 rfl (lv_at hl 0 rfl) ?_
          refine va_calli (va_runV (As := [.int v10]) (rest := []) ⟨hx, hb, hml, hown, htb⟩ (kcX3_readOrder_11 l D c q ev hev adK adV hZ σ17 v10 _ hw) (tb_CW htb kX3_readOrder tb_825 tb_827 tb_25 ⟨Nat.le_of_ble_eq_true rfl, Nat.le_of_ble_eq_true rfl⟩) (wd_preV (wd := xw c q) (k := 11) hev hK hP hD hE hS (xw_11 c q σ17) rfl) rfl rfl hl.1 rfl (lv_room (Nat.le_of_ble_eq_true rfl)) dX3_readPerson_123 ⟨Nat.zero_le _, Nat.zero_le _⟩) hS (fun q _ h => h) (fun q h => h) (fun r19 σ20 t H1 locs1 ht hvm hw hB hz1 hk1 hS => ?_)
          have hP : va_P D vwCl (xw c q σ20) H1 := ht ▸ hB
          have hD : va_D (wdA 36 q) (xw c q σ20) := xw_D hD0
          have hq := hw.2
          exact W.zret hx hb hr (nar_b hw.1) (fun t ht hW => ⟨⟨_, σ20, rfl, hq, by unfold wdB; rw [ht]; exact hP⟩, hS.F ht⟩) hS.2.2 dX3_readPerson_126
        · have hw := hw.2 c18
          refine lv_aload_n hx hb dX3_readPerson_106 rfl (lv_at hl 1 rfl) ?_
          refine va_get (D := D) (ci := 3) (C := RX3) (T := TX3) (N := 10) hx hb htb inX3 hown hK hP 11 (xw_11 c q σ17) rfl 1 (by decide) (htb _ tb_202) (fun _ h9 => h9) rfl dX3_readPerson_107 ?_
          refine lv_dup hx hb dX3_readPerson_110 rfl ?_
          refine va_getN (D := D) (ci := 1) (C := RX1) (T := TX1) (N := 12) hx hb htb inX1 hown hK hP 13 (xw_13 c q σ17) rfl 7 (by decide) (htb _ tb_155) (fun _ h9 => h9) rfl dX3_readPerson_111 ?_
          refine lv_iconst (v := (1 : Int32)) hx hb dX3_readPerson_114 (by decide) ?_
          refine lv_iload_n hx hb dX3_readPerson_115 rfl (lv_at hl 0 rfl) ?_
          refine lv_ishl hx hb dX3_readPerson_116 ?_
          refine lv_ior hx hb dX3_readPerson_117 ?_
          refine va_putN (D := D) (ci := 1) (ty := .int) (C := RX1) (T := TX1) (N := 12) hx hb htb inX1 tyX1 tyX1_ok nmX1 hown hK hP hD hS 13 (xw_13 c q σ17) rfl 7 (by decide) (htb _ tb_155) (fun _ h9 => h9) rfl (by decide +kernel) rfl rfl (Nat.le_of_ble_eq_true rfl) dX3_readPerson_118 (fun H locs hP hD hS => ?_)
          have hP : va_P D vwCl (xw c q (hsI σ17 839 ((σ17.1 839) ||| ((1 : Int32) <<< (v10 &&& 31))))) H := hP
          obtain ⟨σ21, eσ21⟩ : ∃ z : hsS, z = hsI σ17 839 ((σ17.1 839) ||| ((1 : Int32) <<< (v10 &&& 31))) := ⟨_, rfl⟩
          rw [← eσ21] at hP
          have hD : va_D (wdA 36 q) (xw c q σ21) := xw_D hD0
          have hw := hw σ21 eσ21
          refine lv_aload_n hx hb dX3_readPerson_121 rfl (lv_at hl 1 rfl) ?_
          refine lv_iload_n hx hb dX3_readPerson_122 rfl (lv_at hl 0 rfl) ?_
          refine va_calli (va_runV (As := [.int v10]) (rest := []) ⟨hx, hb, hml, hown, htb⟩ (kcX3_readOrder_11 l D c q ev hev adK adV hZ σ21 v10 _ hw) (tb_CW htb kX3_readOrder tb_825 tb_827 tb_25 ⟨Nat.le_of_ble_eq_true rfl, Nat.le_of_ble_eq_true rfl⟩) (wd_preV (wd := xw c q) (k := 11) hev hK hP hD hE hS (xw_11 c q σ21) rfl) rfl rfl hl.1 rfl (lv_room (Nat.le_of_ble_eq_true rfl)) dX3_readPerson_123 ⟨Nat.zero_le _, Nat.zero_le _⟩) hS (fun q _ h => h) (fun q h => h) (fun r22 σ23 t H1 locs1 ht hvm hw hB hz1 hk1 hS => ?_)
          have hP : va_P D vwCl (xw c q σ23) H1 := ht ▸ hB
          have hD : va_D (wdA 36 q) (xw c q σ23) := xw_D hD0
          have hq := hw.2
          exact W.zret hx hb hr (nar_b hw.1) (fun t ht hW => ⟨⟨_, σ23, rfl, hq, by unfold wdB; rw [ht]; exact hP⟩, hS.F ht⟩) hS.2.2 dX3_readPerson_126
      · have hw := hw.1 c9
        refine lv_iconst (v := (0 : Int32)) hx hb dX3_readPerson_41 (by decide) ?_
        exact W.zret hx hb hr rfl (fun t ht hW => ⟨⟨_, σ8, rfl, hw, by unfold wdB; rw [ht]; exact hP⟩, hS.F ht⟩) hS.2.2 dX3_readPerson_42
  · have hw := hw.2 c1
    refine lv_aload_n hx hb dX3_readPerson_12 rfl (lv_at hl 0 rfl) ?_
    refine lv_iconst (v := (2 : Int32)) hx hb dX3_readPerson_13 (by decide) ?_
    refine va_calli (va_runV (As := [.int (2 : Int32)]) (rest := []) ⟨hx, hb, hml, hown, htb⟩ (kcX3_fail_11 l D c q ev hev σ (2 : Int32) _ hw) (tb_CW htb kX3_fail tb_798 tb_800 tb_19 ⟨Nat.le_of_ble_eq_true rfl, Nat.le_of_ble_eq_true rfl⟩) (wd_preV (wd := xw c q) (k := 11) hev hK hP hD hE hS (xw_11 c q σ) rfl) rfl rfl hl.1 rfl (lv_room (Nat.le_of_ble_eq_true rfl)) dX3_readPerson_14 ⟨Nat.zero_le _, Nat.zero_le _⟩) hS (fun q _ h => h) (fun q h => h) (fun r24 σ25 t H1 locs1 ht hvm hw hB hz1 hk1 hS => ?_)
    have hP : va_P D vwCl (xw c q σ25) H1 := ht ▸ hB
    have hD : va_D (wdA 36 q) (xw c q σ25) := xw_D hD0
    have hq := hw.2
    exact W.zret hx hb hr (nar_b hw.1) (fun t ht hW => ⟨⟨_, σ25, rfl, hq, by unfold wdB; rw [ht]; exact hP⟩, hS.F ht⟩) hS.2.2 dX3_readPerson_17
def wX3_readLine (b0 : Nat) (post : Int32 → hsS → Prop) (σ : hsS) : Prop := wX3_isWord b0 1 (fun r1 σ2 => ((r1 = (0 : Int32) → wX3_isWord b0 6 (fun r4 σ5 => ((r4 = (0 : Int32) → wX3_isWord b0 10 (fun r7 σ8 => ((r7 = (0 : Int32) → wX3_fail b0 (1 : Int32) (fun r10 σ11 => (r10 = 0 ∨ r10 = 1) ∧ post r10 σ11) σ8) ∧ (¬ r7 = (0 : Int32) → wX3_next b0 (fun σ13 => wX3_readTurns b0 (fun r14 σ15 => (r14 = 0 ∨ r14 = 1) ∧ post r14 σ15) σ13) σ8))) σ5) ∧ (¬ r4 = (0 : Int32) → wX3_next b0 (fun σ17 => wX3_readLaw b0 (fun r18 σ19 => (r18 = 0 ∨ r18 = 1) ∧ post r18 σ19) σ17) σ5))) σ2) ∧ (¬ r1 = (0 : Int32) → wX3_readPerson b0 (fun r20 σ21 => (r20 = 0 ∨ r20 = 1) ∧ post r20 σ21) σ2))) σ
set_option maxHeartbeats 4000000 in
set_option maxRecDepth 100000 in
theorem kcX3_readLine_11 (l : Launch) (D : va_G) (c : Nat → ClassId) (q : Nat → Nat) (ev : State → Heap → Prop) (hev : evOK (wdA 36 q) ev) (adK adV : Nat → Nat) (hZ : ∀ (U : State) (H : Heap), ev U H → evS (wdA 36 q) adK adV U H) (σ : hsS)  (post : Int32 → hsS → Prop) (hw : wX3_readLine 11 post σ) : Met l yX3_readLine (Cond.code yX3_readLine cX3_readLine 1 (some .boolean) :: tb_L) { frames := 7, cells := 0, slots := 0, locals := 153 } (wdPc D (xw c q) (xwT c) (wdA 36 q) ev σ [.ref (q 11)]) (va_Qi post (wdB D (xw c q)) (wdA 36 q)) 0 0 (wdA 36 q) := by
  refine Met.ofW (cc := cX3_readLine) (maxL := 1) (ret := (some .boolean)) (by decide) rfl ?_
  intro p e s m args below meth c₀ s₁ Bd hml hv
  obtain ⟨rfl, hP, hK, hD0, hE⟩ := hv
  have hx := Bd.exec
  have hb := Bd.bytes
  have hr := Bd.returns
  have hts := atoms_spec (ws := Cond.code yX3_readLine cX3_readLine 1 (some .boolean) :: tb_L) Bd.pre
  have htb : ∀ w ∈ tb_L, w.before [.ref (q 11)].toArray s = true := fun w h => hts w (List.mem_cons_of_mem _ h)
  have hown : s.vm.findClass RX3 = some m.cls := findClass_of_methodNamed Bd.named
  have hlocks := Bd.notSynchronized
  have hS : va_S (wdA 36 q) s.heap s.heap [] := va_S.rf
  have hD := hD0
  have hl := lv_entry ([.ref (q 11)]) (n := 1) (Nat.le_of_ble_eq_true rfl)
  rw [lg_entry_eq]
  generalize (lg_sl ([.ref (q 11)]) ++ List.replicate (1 - (lg_sl ([.ref (q 11)])).length) Slot.unset).toArray = ls at hl ⊢
  have hl : lv_has ls 1 [(0, .ref (q 11))] := hl
  unfold wX3_readLine at hw
  refine lv_aload_n hx hb dX3_readLine_0 rfl (lv_at hl 0 rfl) ?_
  refine va_ldcS hx hb hown ((hZ s s.heap hE).2.2.2 ("StrikeHall$Reader", 119, "person", 1) (by decide)) dX3_readLine_1 ?_
  refine va_calli (va_runV (As := [.ref (adK 1)]) (rest := []) ⟨hx, hb, hml, hown, htb⟩ (kcX3_isWord_11_s l D c q ev hev adK adV hZ σ 1 (by decide) _ hw) (tb_CW htb kX3_isWord tb_746 tb_748 tb_18 ⟨Nat.le_of_ble_eq_true rfl, Nat.le_of_ble_eq_true rfl⟩) (wd_preV (wd := xw c q) (k := 11) hev hK hP hD hE hS (xw_11 c q σ) rfl) rfl rfl hl.1 rfl (lv_room (Nat.le_of_ble_eq_true rfl)) dX3_readLine_3 ⟨Nat.zero_le _, Nat.zero_le _⟩) hS (fun q _ h => h) (fun q h => h) (fun r1 σ2 t H1 locs1 ht hvm hw hB hz1 hk1 hS => ?_)
  have hP : va_P D vwCl (xw c q σ2) H1 := ht ▸ hB
  have hD : va_D (wdA 36 q) (xw c q σ2) := xw_D hD0
  refine lv_if_eq (tgt := 14) hx hb dX3_readLine_6 (by decide) (fun c3 => ?_) (fun c3 => ?_)
  · have hw := hw.1 c3
    refine lv_aload_n hx hb dX3_readLine_14 rfl (lv_at hl 0 rfl) ?_
    refine va_ldcS hx hb hown ((hZ s s.heap hE).2.2.2 ("StrikeHall$Reader", 124, "law", 6) (by decide)) dX3_readLine_15 ?_
    refine va_calli (va_runV (As := [.ref (adK 6)]) (rest := []) ⟨hx, hb, hml, hown, htb⟩ (kcX3_isWord_11_s l D c q ev hev adK adV hZ σ2 6 (by decide) _ hw) (tb_CW htb kX3_isWord tb_746 tb_748 tb_18 ⟨Nat.le_of_ble_eq_true rfl, Nat.le_of_ble_eq_true rfl⟩) (wd_preV (wd := xw c q) (k := 11) hev hK hP hD hE hS (xw_11 c q σ2) rfl) rfl rfl hl.1 rfl (lv_room (Nat.le_of_ble_eq_true rfl)) dX3_readLine_17 ⟨Nat.zero_le _, Nat.zero_le _⟩) hS (fun q _ h => h) (fun q h => h) (fun r4 σ5 t H1 locs1 ht hvm hw hB hz1 hk1 hS => ?_)
    have hP : va_P D vwCl (xw c q σ5) H1 := ht ▸ hB
    have hD : va_D (wdA 36 q) (xw c q σ5) := xw_D hD0
    refine lv_if_eq (tgt := 32) hx hb dX3_readLine_20 (by decide) (fun c6 => ?_) (fun c6 => ?_)
    · have hw := hw.1 c6
      refine lv_aload_n hx hb dX3_readLine_32 rfl (lv_at hl 0 rfl) ?_
      refine va_ldcS hx hb hown ((hZ s s.heap hE).2.2.2 ("StrikeHall$Reader", 129, "turns", 10) (by decide)) dX3_readLine_33 ?_
      refine va_calli (va_runV (As := [.ref (adK 10)]) (rest := []) ⟨hx, hb, hml, hown, htb⟩ (kcX3_isWord_11_s l D c q ev hev adK adV hZ σ5 10 (by decide) _ hw) (tb_CW htb kX3_isWord tb_746 tb_748 tb_18 ⟨Nat.le_of_ble_eq_true rfl, Nat.le_of_ble_eq_true rfl⟩) (wd_preV (wd := xw c q) (k := 11) hev hK hP hD hE hS (xw_11 c q σ5) rfl) rfl rfl hl.1 rfl (lv_room (Nat.le_of_ble_eq_true rfl)) dX3_readLine_35 ⟨Nat.zero_le _, Nat.zero_le _⟩) hS (fun q _ h => h) (fun q h => h) (fun r7 σ8 t H1 locs1 ht hvm hw hB hz1 hk1 hS => ?_)
      have hP : va_P D vwCl (xw c q σ8) H1 := ht ▸ hB
      have hD : va_D (wdA 36 q) (xw c q σ8) := xw_D hD0
      refine lv_if_eq (tgt := 50) hx hb dX3_readLine_38 (by decide) (fun c9 => ?_) (fun c9 => ?_)
      · have hw := hw.1 c9
        refine lv_aload_n hx hb dX3_readLine_50 rfl (lv_at hl 0 rfl) ?_
        refine lv_iconst (v := (1 : Int32)) hx hb dX3_readLine_51 (by decide) ?_
        refine va_calli (va_runV (As := [.int (1 : Int32)]) (rest := []) ⟨hx, hb, hml, hown, htb⟩ (kcX3_fail_11 l D c q ev hev σ8 (1 : Int32) _ hw) (tb_CW htb kX3_fail tb_798 tb_800 tb_19 ⟨Nat.le_of_ble_eq_true rfl, Nat.le_of_ble_eq_true rfl⟩) (wd_preV (wd := xw c q) (k := 11) hev hK hP hD hE hS (xw_11 c q σ8) rfl) rfl rfl hl.1 rfl (lv_room (Nat.le_of_ble_eq_true rfl)) dX3_readLine_52 ⟨Nat.zero_le _, Nat.zero_le _⟩) hS (fun q _ h => h) (fun q h => h) (fun r10 σ11 t H1 locs1 ht hvm hw hB hz1 hk1 hS => ?_)
        have hP : va_P D vwCl (xw c q σ11) H1 := ht ▸ hB
        have hD : va_D (wdA 36 q) (xw c q σ11) := xw_D hD0
        have hq := hw.2
        exact W.zret hx hb hr (nar_b hw.1) (fun t ht hW => ⟨⟨_, σ11, rfl, hq, by unfold wdB; rw [ht]; exact hP⟩, hS.F ht⟩) hS.2.2 dX3_readLine_55
      · have hw := hw.2 c9
        refine lv_aload_n hx hb dX3_readLine_41 rfl (lv_at hl 0 rfl) ?_
        refine va_callv (va_runV (As := []) (rest := []) ⟨hx, hb, hml, hown, htb⟩ (kcX3_next_11 l D c q ev hev σ8  _ hw) (tb_CW htb kX3_next tb_712 tb_714 tb_12 ⟨Nat.le_of_ble_eq_true rfl, Nat.le_of_ble_eq_true rfl⟩) (wd_preV (wd := xw c q) (k := 11) hev hK hP hD hE hS (xw_11 c q σ8) rfl) rfl rfl hl.1 rfl (lv_room (Nat.le_of_ble_eq_true rfl)) dX3_readLine_42 ⟨Nat.zero_le _, Nat.zero_le _⟩) hS (fun q _ h => h) (fun q h => h) (fun σ13 t H1 locs1 ht hvm hw hB hz1 hk1 hS => ?_)
        have hP : va_P D vwCl (xw c q σ13) H1 := ht ▸ hB
        have hD : va_D (wdA 36 q) (xw c q σ13) := xw_D hD0
        refine lv_aload_n hx hb dX3_readLine_45 rfl (lv_at hl 0 rfl) ?_
        refine va_calli (va_runV (As := []) (rest := []) ⟨hx, hb, hml, hown, htb⟩ (kcX3_readTurns_11 l D c q ev hev σ13  _ hw) (tb_CW htb kX3_readTurns tb_854 tb_856 tb_30 ⟨Nat.le_of_ble_eq_true rfl, Nat.le_of_ble_eq_true rfl⟩) (wd_preV (wd := xw c q) (k := 11) hev hK hP hD hE hS (xw_11 c q σ13) rfl) rfl rfl hl.1 rfl (lv_room (Nat.le_of_ble_eq_true rfl)) dX3_readLine_46 ⟨Nat.zero_le _, Nat.zero_le _⟩) hS (fun q _ h => h) (fun q h => h) (fun r14 σ15 t H1 locs1 ht hvm hw hB hz1 hk1 hS => ?_)
        have hP : va_P D vwCl (xw c q σ15) H1 := ht ▸ hB
        have hD : va_D (wdA 36 q) (xw c q σ15) := xw_D hD0
        have hq := hw.2
        exact W.zret hx hb hr (nar_b hw.1) (fun t ht hW => ⟨⟨_, σ15, rfl, hq, by unfold wdB; rw [ht]; exact hP⟩, hS.F ht⟩) hS.2.2 dX3_readLine_49
    · have hw := hw.2 c6
      refine lv_aload_n hx hb dX3_readLine_23 rfl (lv_at hl 0 rfl) ?_
      refine va_callv (va_runV (As := []) (rest := []) ⟨hx, hb, hml, hown, htb⟩ (kcX3_next_11 l D c q ev hev σ5  _ hw) (tb_CW htb kX3_next tb_712 tb_714 tb_12 ⟨Nat.le_of_ble_eq_true rfl, Nat.le_of_ble_eq_true rfl⟩) (wd_preV (wd := xw c q) (k := 11) hev hK hP hD hE hS (xw_11 c q σ5) rfl) rfl rfl hl.1 rfl (lv_room (Nat.le_of_ble_eq_true rfl)) dX3_readLine_24 ⟨Nat.zero_le _, Nat.zero_le _⟩) hS (fun q _ h => h) (fun q h => h) (fun σ17 t H1 locs1 ht hvm hw hB hz1 hk1 hS => ?_)
      have hP : va_P D vwCl (xw c q σ17) H1 := ht ▸ hB
      have hD : va_D (wdA 36 q) (xw c q σ17) := xw_D hD0
      refine lv_aload_n hx hb dX3_readLine_27 rfl (lv_at hl 0 rfl) ?_
      refine va_calli (va_runV (As := []) (rest := []) ⟨hx, hb, hml, hown, htb⟩ (kcX3_readLaw_11 l D c q ev hev adK adV hZ σ17  _ hw) (tb_CW htb kX3_readLaw tb_838 tb_840 tb_27 ⟨Nat.le_of_ble_eq_true rfl, Nat.le_of_ble_eq_true rfl⟩) (wd_preV (wd := xw c q) (k := 11) hev hK hP hD hE hS (xw_11 c q σ17) rfl) rfl rfl hl.1 rfl (lv_room (Nat.le_of_ble_eq_true rfl)) dX3_readLine_28 ⟨Nat.zero_le _, Nat.zero_le _⟩) hS (fun q _ h => h) (fun q h => h) (fun r18 σ19 t H1 locs1 ht hvm hw hB hz1 hk1 hS => ?_)
      have hP : va_P D vwCl (xw c q σ19) H1 := ht ▸ hB
      have hD : va_D (wdA 36 q) (xw c q σ19) := xw_D hD0
      have hq := hw.2
      exact W.zret hx hb hr (nar_b hw.1) (fun t ht hW => ⟨⟨_, σ19, rfl, hq, by unfold wdB; rw [ht]; exact hP⟩, hS.F ht⟩) hS.2.2 dX3_readLine_31
  · have hw := hw.2 c3
    refine lv_aload_n hx hb dX3_readLine_9 rfl (lv_at hl 0 rfl) ?_
    refine va_calli (va_runV (As := []) (rest := []) ⟨hx, hb, hml, hown, htb⟩ (kcX3_readPerson_11 l D c q ev hev adK adV hZ σ2  _ hw) (tb_CW htb kX3_readPerson tb_819 tb_821 tb_24 ⟨Nat.le_of_ble_eq_true rfl, Nat.le_of_ble_eq_true rfl⟩) (wd_preV (wd := xw c q) (k := 11) hev hK hP hD hE hS (xw_11 c q σ2) rfl) rfl rfl hl.1 rfl (lv_room (Nat.le_of_ble_eq_true rfl)) dX3_readLine_10 ⟨Nat.zero_le _, Nat.zero_le _⟩) hS (fun q _ h => h) (fun q h => h) (fun r20 σ21 t H1 locs1 ht hvm hw hB hz1 hk1 hS => ?_)
    have hP : va_P D vwCl (xw c q σ21) H1 := ht ▸ hB
    have hD : va_D (wdA 36 q) (xw c q σ21) := xw_D hD0
    have hq := hw.2
    exact W.zret hx hb hr (nar_b hw.1) (fun t ht hW => ⟨⟨_, σ21, rfl, hq, by unfold wdB; rw [ht]; exact hP⟩, hS.F ht⟩) hS.2.2 dX3_readLine_13
def wX3_read_L50 (b0 : Nat) (z1 : Int32) (K94 : Int32 → Int32 → hsS → Prop) (post : Int32 → hsS → Prop) : Nat → Int32 → Int32 → hsS → Prop
  | 0, _, _, _ => False
  | n + 1, y2, y3, σ => (((600 : Int32) < y3 → K94 y2 y3 σ) ∧ (¬ (600 : Int32) < y3 → ((y2 = (0 : Int32) → K94 y2 y3 σ) ∧ (¬ y2 = (0 : Int32) → (((σ.1 (64 * b0 + 4)) = (0 : Int32) → K94 y2 y3 σ) ∧ (¬ (σ.1 (64 * b0 + 4)) = (0 : Int32) → wX3_readLine b0 (fun r15 σ16 => ((r15 = (0 : Int32) → ∀ v18 : Int32, v18 = y3 + (1 : Int32) → wX3_read_L50 b0 z1 K94 post n (0 : Int32) v18 σ16) ∧ (¬ r15 = (0 : Int32) → wX3_passSign b0 (fun r19 σ20 => ((r19 = (0 : Int32) → ∀ v22 : Int32, v22 = y3 + (1 : Int32) → wX3_read_L50 b0 z1 K94 post n (0 : Int32) v22 σ20) ∧ (¬ r19 = (0 : Int32) → ∀ v23 : Int32, v23 = y3 + (1 : Int32) → wX3_read_L50 b0 z1 K94 post n (1 : Int32) v23 σ20))) σ16))) σ))))))
def wX3_read (b0 : Nat) (x1 : Int32) (post : Int32 → hsS → Prop) (σ : hsS) : Prop := ∀ σ1 : hsS, σ1 = hsI σ (64 * b0 + 3) (if (σ.1 (64 * b0 + 2)) < x1 then (σ.1 (64 * b0 + 2)) else x1) → ∀ σ2 : hsS, σ2 = hsI σ1 (64 * b0 + 2) (0 : Int32) → wX1_reset (b0 + 2) (fun σ4 => ∀ σ5 : hsS, σ5 = hsI σ4 (64 * b0 + 8) (0 : Int32) → ∀ σ6 : hsS, σ6 = hsI σ5 (64 * b0 + 9) (-1 : Int32) → ∀ σ7 : hsS, σ7 = hsI σ6 (64 * b0 + 6) (0 : Int32) → wX3_next b0 (fun σ9 => wX3_readThings b0 (fun r10 σ11 => ∃ n24, wX3_read_L50 b0 x1 (fun v25 v26 σ27 => post (σ27.1 (64 * b0 + 8)) σ27) post n24 r10 (0 : Int32) σ11) σ9) σ7) σ2
set_option maxHeartbeats 4000000 in
set_option maxRecDepth 100000 in
theorem kcX3_read_11 (l : Launch) (D : va_G) (c : Nat → ClassId) (q : Nat → Nat) (ev : State → Heap → Prop) (hev : evOK (wdA 36 q) ev) (adK adV : Nat → Nat) (hZ : ∀ (U : State) (H : Heap), ev U H → evS (wdA 36 q) adK adV U H) (σ : hsS) (x1 : Int32) (post : Int32 → hsS → Prop) (hw : wX3_read 11 x1 post σ) : Met l yX3_read (Cond.code yX3_read cX3_read 4 (some .int) :: tb_L) { frames := 8, cells := 0, slots := 0, locals := 173 } (wdPc D (xw c q) (xwT c) (wdA 36 q) ev σ [.ref (q 11), .int x1]) (va_Qi post (wdB D (xw c q)) (wdA 36 q)) 0 0 (wdA 36 q) := by
  refine Met.ofW (cc := cX3_read) (maxL := 4) (ret := (some .int)) (by decide) rfl ?_
  intro p e s m args below meth c₀ s₁ Bd hml hv
  obtain ⟨rfl, hP, hK, hD0, hE⟩ := hv
  have hx := Bd.exec
  have hb := Bd.bytes
  have hr := Bd.returns
  have hts := atoms_spec (ws := Cond.code yX3_read cX3_read 4 (some .int) :: tb_L) Bd.pre
  have htb : ∀ w ∈ tb_L, w.before [.ref (q 11), .int x1].toArray s = true := fun w h => hts w (List.mem_cons_of_mem _ h)
  have hown : s.vm.findClass RX3 = some m.cls := findClass_of_methodNamed Bd.named
  have hlocks := Bd.notSynchronized
  have hS : va_S (wdA 36 q) s.heap s.heap [] := va_S.rf
  have hD := hD0
  have L50 : ∀ (K94 : Int32 → Int32 → hsS → Prop) (z1 : Int32) (n : Nat) (y2 : Int32) (y3 : Int32) (σ : hsS) (H : Heap) (locs : List Loc) (ls : Array Slot), wX3_read_L50 11 z1 K94 post n y2 y3 σ → (∀ (y2 : Int32) (y3 : Int32) (σ : hsS) (H : Heap) (locs : List Loc) (ls : Array Slot), K94 y2 y3 σ → va_P D vwCl (xw c q σ) H → va_S (wdA 36 q) s.heap H locs → lv_has ls 4 [(0, .ref (q 11)), (1, .int z1), (2, .int y2), (3, .int y3)] → W p l e (headSpec (Cond.code yX3_read cX3_read 4 (some .int) :: tb_L) { frames := 8, cells := 0, slots := 0, locals := 173 }).room s m [.ref (q 11), .int x1].toArray below meth c₀ H locs 0 0 (MQ below (va_Qi post (wdB D (xw c q)) (wdA 36 q)) [.ref (q 11), .int x1].toArray s 0 0 (wdA 36 q)) (F0 m 94 ls [])) → va_P D vwCl (xw c q σ) H → va_S (wdA 36 q) s.heap H locs → lv_has ls 4 [(0, .ref (q 11)), (1, .int z1), (2, .int y2), (3, .int y3)] → W p l e (headSpec (Cond.code yX3_read cX3_read 4 (some .int) :: tb_L) { frames := 8, cells := 0, slots := 0, locals := 173 }).room s m [.ref (q 11), .int x1].toArray below meth c₀ H locs 0 0 (MQ below (va_Qi post (wdB D (xw c q)) (wdA 36 q)) [.ref (q 11), .int x1].toArray s 0 0 (wdA 36 q)) (F0 m 50 ls []) := by
    intro K94 z1 n
    induction n with
    | zero =>
      intro y2 y3 σ H locs ls hw hk94 hP hS hl
      exact (show False from hw).elim
    | succ n ih =>
      intro y2 y3 σ H locs ls hw hk94 hP hS hl
      rw [wX3_read_L50] at hw
      have hD : va_D (wdA 36 q) (xw c q σ) := xw_D hD0
      refine lv_iload_n hx hb dX3_read_50 rfl (lv_at hl 3 rfl) ?_
      refine lv_sipush (v := (600 : Int32)) hx hb dX3_read_51 (by decide) ?_
      refine lv_icmp_gt (tgt := 94) hx hb dX3_read_54 (by decide) (fun c12 => ?_) (fun c12 => ?_)
      · have hw := hw.1 c12
        exact hk94 y2 y3 σ _ _ _ hw hP hS (lv_sub hl [0, 1, 2, 3] rfl)
      · have hw := hw.2 c12
        refine lv_iload_n hx hb dX3_read_57 rfl (lv_at hl 2 rfl) ?_
        refine lv_if_eq (tgt := 94) hx hb dX3_read_58 (by decide) (fun c13 => ?_) (fun c13 => ?_)
        · have hw := hw.1 c13
          exact hk94 y2 y3 σ _ _ _ hw hP hS (lv_sub hl [0, 1, 2, 3] rfl)
        · have hw := hw.2 c13
          refine lv_aload_n hx hb dX3_read_61 rfl (lv_at hl 0 rfl) ?_
          refine va_get (D := D) (ci := 3) (C := RX3) (T := TX3) (N := 10) hx hb htb inX3 hown hK hP 11 (xw_11 c q σ) rfl 4 (by decide) (htb _ tb_207) (fun _ h9 => h9) rfl dX3_read_62 ?_
          refine lv_if_eq (tgt := 94) hx hb dX3_read_65 (by decide) (fun c14 => ?_) (fun c14 => ?_)
          · have hw := hw.1 c14
            exact hk94 y2 y3 σ _ _ _ hw hP hS (lv_sub hl [0, 1, 2, 3] rfl)
          · have hw := hw.2 c14
            refine lv_aload_n hx hb dX3_read_68 rfl (lv_at hl 0 rfl) ?_
            refine va_calli (va_runV (As := []) (rest := []) ⟨hx, hb, hml, hown, htb⟩ (kcX3_readLine_11 l D c q ev hev adK adV hZ σ  _ hw) (tb_CW htb kX3_readLine tb_814 tb_816 tb_23 ⟨Nat.le_of_ble_eq_true rfl, Nat.le_of_ble_eq_true rfl⟩) (wd_preV (wd := xw c q) (k := 11) hev hK hP hD hE hS (xw_11 c q σ) rfl) rfl rfl hl.1 rfl (lv_room (Nat.le_of_ble_eq_true rfl)) dX3_read_69 ⟨Nat.zero_le _, Nat.zero_le _⟩) hS (fun q _ h => h) (fun q h => h) (fun r15 σ16 t H1 locs1 ht hvm hw hB hz1 hk1 hS => ?_)
            have hP : va_P D vwCl (xw c q σ16) H1 := ht ▸ hB
            have hD : va_D (wdA 36 q) (xw c q σ16) := xw_D hD0
            refine lv_if_eq (tgt := 86) hx hb dX3_read_72 (by decide) (fun c17 => ?_) (fun c17 => ?_)
            · have hw := hw.1 c17
              refine lv_iconst (v := (0 : Int32)) hx hb dX3_read_86 (by decide) ?_
              refine lv_istore_n (lv' := [(2, .int (0 : Int32)), (0, .ref (q 11)), (1, .int z1), (3, .int y3)]) hx hb dX3_read_87 rfl hl (by decide) rfl (fun ls hl => ?_)
              obtain ⟨v18, ev18⟩ : ∃ z : Int32, z = y3 + (1 : Int32) := ⟨_, rfl⟩
              have hw := hw v18 ev18
              refine lv_iinc (v := v18) (lv' := [(3, .int v18), (2, .int (0 : Int32)), (0, .ref (q 11)), (1, .int z1)]) hx hb dX3_read_88 hl (k := 3) rfl (by rw [ev18]; rfl) (by decide) rfl (fun ls hl => ?_)
              refine lv_goto (tgt := 50) hx hb dX3_read_91 (by decide) ?_
              exact ih (0 : Int32) v18 σ16 _ _ _ hw hk94 hP hS (lv_sub hl [2, 3, 1, 0] rfl)
            · have hw := hw.2 c17
              refine lv_aload_n hx hb dX3_read_75 rfl (lv_at hl 0 rfl) ?_
              refine va_calli (va_runV (As := []) (rest := []) ⟨hx, hb, hml, hown, htb⟩ (kcX3_passSign_11 l D c q ev hev σ16  _ hw) (tb_CW htb kX3_passSign tb_810 tb_812 tb_22 ⟨Nat.le_of_ble_eq_true rfl, Nat.le_of_ble_eq_true rfl⟩) (wd_preV (wd := xw c q) (k := 11) hev hK hP hD hE hS (xw_11 c q σ16) rfl) rfl rfl hl.1 rfl (lv_room (Nat.le_of_ble_eq_true rfl)) dX3_read_76 ⟨Nat.zero_le _, Nat.zero_le _⟩) hS (fun q _ h => h) (fun q h => h) (fun r19 σ20 t H1 locs1 ht hvm hw hB hz1 hk1 hS => ?_)
              have hP : va_P D vwCl (xw c q σ20) H1 := ht ▸ hB
              have hD : va_D (wdA 36 q) (xw c q σ20) := xw_D hD0
              refine lv_if_eq (tgt := 86) hx hb dX3_read_79 (by decide) (fun c21 => ?_) (fun c21 => ?_)
              · have hw := hw.1 c21
                refine lv_iconst (v := (0 : Int32)) hx hb dX3_read_86 (by decide) ?_
                refine lv_istore_n (lv' := [(2, .int (0 : Int32)), (0, .ref (q 11)), (1, .int z1), (3, .int y3)]) hx hb dX3_read_87 rfl hl (by decide) rfl (fun ls hl => ?_)
                obtain ⟨v22, ev22⟩ : ∃ z : Int32, z = y3 + (1 : Int32) := ⟨_, rfl⟩
                have hw := hw v22 ev22
                refine lv_iinc (v := v22) (lv' := [(3, .int v22), (2, .int (0 : Int32)), (0, .ref (q 11)), (1, .int z1)]) hx hb dX3_read_88 hl (k := 3) rfl (by rw [ev22]; rfl) (by decide) rfl (fun ls hl => ?_)
                refine lv_goto (tgt := 50) hx hb dX3_read_91 (by decide) ?_
                exact ih (0 : Int32) v22 σ20 _ _ _ hw hk94 hP hS (lv_sub hl [2, 3, 1, 0] rfl)
              · have hw := hw.2 c21
                refine lv_iconst (v := (1 : Int32)) hx hb dX3_read_82 (by decide) ?_
                refine lv_goto (tgt := 87) hx hb dX3_read_83 (by decide) ?_
                refine lv_istore_n (lv' := [(2, .int (1 : Int32)), (0, .ref (q 11)), (1, .int z1), (3, .int y3)]) hx hb dX3_read_87 rfl hl (by decide) rfl (fun ls hl => ?_)
                obtain ⟨v23, ev23⟩ : ∃ z : Int32, z = y3 + (1 : Int32) := ⟨_, rfl⟩
                have hw := hw v23 ev23
                refine lv_iinc (v := v23) (lv' := [(3, .int v23), (2, .int (1 : Int32)), (0, .ref (q 11)), (1, .int z1)]) hx hb dX3_read_88 hl (k := 3) rfl (by rw [ev23]; rfl) (by decide) rfl (fun ls hl => ?_)
                refine lv_goto (tgt := 50) hx hb dX3_read_91 (by decide) ?_
                exact ih (1 : Int32) v23 σ20 _ _ _ hw hk94 hP hS (lv_sub hl [2, 3, 1, 0] rfl)
  have hl := lv_entry ([.ref (q 11), .int x1]) (n := 4) (Nat.le_of_ble_eq_true rfl)
  rw [lg_entry_eq]
  generalize (lg_sl ([.ref (q 11), .int x1]) ++ List.replicate (4 - (lg_sl ([.ref (q 11), .int x1])).length) Slot.unset).toArray = ls at hl ⊢
  have hl : lv_has ls 4 [(0, .ref (q 11)), (1, .int x1)] := hl
  unfold wX3_read at hw
  refine lv_aload_n hx hb dX3_read_0 rfl (lv_at hl 0 rfl) ?_
  refine lv_iload_n hx hb dX3_read_1 rfl (lv_at hl 1 rfl) ?_
  refine lv_aload_n hx hb dX3_read_2 rfl (lv_at hl 0 rfl) ?_
  refine va_get (D := D) (ci := 3) (C := RX3) (T := TX3) (N := 10) hx hb htb inX3 hown hK hP 11 (xw_11 c q σ) rfl 2 (by decide) (htb _ tb_204) (fun _ h9 => h9) rfl dX3_read_3 ?_
  refine va_mmin hx hb (hml.trans hl.1.symm) hown (htb _ tb_707) (htb _ tb_413) (htb _ tb_104) (htb _ tb_414) (Nat.le_of_ble_eq_true rfl) (Nat.le_of_ble_eq_true rfl) (Nat.zero_le _) (Nat.zero_le _) dX3_read_6 ?_
  refine va_put (D := D) (ci := 3) (ty := .int) (C := RX3) (T := TX3) (N := 10) hx hb htb inX3 tyX3 tyX3_ok nmX3 hown hK hP hD hS 11 (xw_11 c q σ) rfl 3 (by decide) (htb _ tb_206) (fun _ h9 => h9) rfl (by decide +kernel) rfl rfl (Nat.le_of_ble_eq_true rfl) dX3_read_9 (fun H locs hP hD hS => ?_)
  have hP : va_P D vwCl (xw c q (hsI σ 707 (if (σ.1 706) < x1 then (σ.1 706) else x1))) H := hP
  obtain ⟨σ1, eσ1⟩ : ∃ z : hsS, z = hsI σ 707 (if (σ.1 706) < x1 then (σ.1 706) else x1) := ⟨_, rfl⟩
  rw [← eσ1] at hP
  have hD : va_D (wdA 36 q) (xw c q σ1) := xw_D hD0
  have hw := hw σ1 eσ1
  refine lv_aload_n hx hb dX3_read_12 rfl (lv_at hl 0 rfl) ?_
  refine lv_iconst (v := (0 : Int32)) hx hb dX3_read_13 (by decide) ?_
  refine va_put (D := D) (ci := 3) (ty := .int) (C := RX3) (T := TX3) (N := 10) hx hb htb inX3 tyX3 tyX3_ok nmX3 hown hK hP hD hS 11 (xw_11 c q σ1) rfl 2 (by decide) (htb _ tb_204) (fun _ h9 => h9) rfl (by decide +kernel) rfl rfl (Nat.le_of_ble_eq_true rfl) dX3_read_14 (fun H locs hP hD hS => ?_)
  have hP : va_P D vwCl (xw c q (hsI σ1 706 (0 : Int32))) H := hP
  obtain ⟨σ2, eσ2⟩ : ∃ z : hsS, z = hsI σ1 706 (0 : Int32) := ⟨_, rfl⟩
  rw [← eσ2] at hP
  have hD : va_D (wdA 36 q) (xw c q σ2) := xw_D hD0
  have hw := hw σ2 eσ2
  refine lv_aload_n hx hb dX3_read_17 rfl (lv_at hl 0 rfl) ?_
  refine va_get (D := D) (ci := 3) (C := RX3) (T := TX3) (N := 10) hx hb htb inX3 hown hK hP 11 (xw_11 c q σ2) rfl 1 (by decide) (htb _ tb_202) (fun _ h9 => h9) rfl dX3_read_18 ?_
  refine va_callv (va_runV (As := []) (rest := []) ⟨hx, hb, hml, hown, htb⟩ (kcX1_reset_13 l D c q ev hev σ2  _ hw) (tb_CW htb kX1_reset tb_708 tb_709 tb_710 ⟨Nat.le_of_ble_eq_true rfl, Nat.le_of_ble_eq_true rfl⟩) (wd_preV (wd := xw c q) (k := 13) hev hK hP hD hE hS (xw_13 c q σ2) rfl) rfl rfl hl.1 rfl (lv_room (Nat.le_of_ble_eq_true rfl)) dX3_read_21 ⟨Nat.zero_le _, Nat.zero_le _⟩) hS (fun q _ h => h) (fun q h => h) (fun σ4 t H1 locs1 ht hvm hw hB hz1 hk1 hS => ?_)
  have hP : va_P D vwCl (xw c q σ4) H1 := ht ▸ hB
  have hD : va_D (wdA 36 q) (xw c q σ4) := xw_D hD0
  refine lv_aload_n hx hb dX3_read_24 rfl (lv_at hl 0 rfl) ?_
  refine lv_iconst (v := (0 : Int32)) hx hb dX3_read_25 (by decide) ?_
  refine va_put (D := D) (ci := 3) (ty := .int) (C := RX3) (T := TX3) (N := 10) hx hb htb inX3 tyX3 tyX3_ok nmX3 hown hK hP hD hS 11 (xw_11 c q σ4) rfl 8 (by decide) (htb _ tb_211) (fun _ h9 => h9) rfl (by decide +kernel) rfl rfl (Nat.le_of_ble_eq_true rfl) dX3_read_26 (fun H locs hP hD hS => ?_)
  have hP : va_P D vwCl (xw c q (hsI σ4 712 (0 : Int32))) H := hP
  obtain ⟨σ5, eσ5⟩ : ∃ z : hsS, z = hsI σ4 712 (0 : Int32) := ⟨_, rfl⟩
  rw [← eσ5] at hP
  have hD : va_D (wdA 36 q) (xw c q σ5) := xw_D hD0
  have hw := hw σ5 eσ5
  refine lv_aload_n hx hb dX3_read_29 rfl (lv_at hl 0 rfl) ?_
  refine lv_iconst (v := (-1 : Int32)) hx hb dX3_read_30 (by decide) ?_
  refine va_put (D := D) (ci := 3) (ty := .int) (C := RX3) (T := TX3) (N := 10) hx hb htb inX3 tyX3 tyX3_ok nmX3 hown hK hP hD hS 11 (xw_11 c q σ5) rfl 9 (by decide) (htb _ tb_212) (fun _ h9 => h9) rfl (by decide +kernel) rfl rfl (Nat.le_of_ble_eq_true rfl) dX3_read_31 (fun H locs hP hD hS => ?_)
  have hP : va_P D vwCl (xw c q (hsI σ5 713 (-1 : Int32))) H := hP
  obtain ⟨σ6, eσ6⟩ : ∃ z : hsS, z = hsI σ5 713 (-1 : Int32) := ⟨_, rfl⟩
  rw [← eσ6] at hP
  have hD : va_D (wdA 36 q) (xw c q σ6) := xw_D hD0
  have hw := hw σ6 eσ6
  refine lv_aload_n hx hb dX3_read_34 rfl (lv_at hl 0 rfl) ?_
  refine lv_iconst (v := (0 : Int32)) hx hb dX3_read_35 (by decide) ?_
  refine va_put (D := D) (ci := 3) (ty := .int) (C := RX3) (T := TX3) (N := 10) hx hb htb inX3 tyX3 tyX3_ok nmX3 hown hK hP hD hS 11 (xw_11 c q σ6) rfl 6 (by decide) (htb _ tb_209) (fun _ h9 => h9) rfl (by decide +kernel) rfl rfl (Nat.le_of_ble_eq_true rfl) dX3_read_36 (fun H locs hP hD hS => ?_)
  have hP : va_P D vwCl (xw c q (hsI σ6 710 (0 : Int32))) H := hP
  obtain ⟨σ7, eσ7⟩ : ∃ z : hsS, z = hsI σ6 710 (0 : Int32) := ⟨_, rfl⟩
  rw [← eσ7] at hP
  have hD : va_D (wdA 36 q) (xw c q σ7) := xw_D hD0
  have hw := hw σ7 eσ7
  refine lv_aload_n hx hb dX3_read_39 rfl (lv_at hl 0 rfl) ?_
  refine va_callv (va_runV (As := []) (rest := []) ⟨hx, hb, hml, hown, htb⟩ (kcX3_next_11 l D c q ev hev σ7  _ hw) (tb_CW htb kX3_next tb_712 tb_714 tb_12 ⟨Nat.le_of_ble_eq_true rfl, Nat.le_of_ble_eq_true rfl⟩) (wd_preV (wd := xw c q) (k := 11) hev hK hP hD hE hS (xw_11 c q σ7) rfl) rfl rfl hl.1 rfl (lv_room (Nat.le_of_ble_eq_true rfl)) dX3_read_40 ⟨Nat.zero_le _, Nat.zero_le _⟩) hS (fun q _ h => h) (fun q h => h) (fun σ9 t H1 locs1 ht hvm hw hB hz1 hk1 hS => ?_)
  have hP : va_P D vwCl (xw c q σ9) H1 := ht ▸ hB
  have hD : va_D (wdA 36 q) (xw c q σ9) := xw_D hD0
  refine lv_aload_n hx hb dX3_read_43 rfl (lv_at hl 0 rfl) ?_
  refine va_calli (va_runV (As := []) (rest := []) ⟨hx, hb, hml, hown, htb⟩ (kcX3_readThings_11 l D c q ev hev adK adV hZ σ9  _ hw) (tb_CW htb kX3_readThings tb_737 tb_739 tb_16 ⟨Nat.le_of_ble_eq_true rfl, Nat.le_of_ble_eq_true rfl⟩) (wd_preV (wd := xw c q) (k := 11) hev hK hP hD hE hS (xw_11 c q σ9) rfl) rfl rfl hl.1 rfl (lv_room (Nat.le_of_ble_eq_true rfl)) dX3_read_44 ⟨Nat.zero_le _, Nat.zero_le _⟩) hS (fun q _ h => h) (fun q h => h) (fun r10 σ11 t H1 locs1 ht hvm hw hB hz1 hk1 hS => ?_)
  have hP : va_P D vwCl (xw c q σ11) H1 := ht ▸ hB
  have hD : va_D (wdA 36 q) (xw c q σ11) := xw_D hD0
  refine lv_istore_n (lv' := [(2, .int r10), (0, .ref (q 11)), (1, .int x1)]) hx hb dX3_read_47 rfl hl (by decide) rfl (fun ls hl => ?_)
  refine lv_iconst (v := (0 : Int32)) hx hb dX3_read_48 (by decide) ?_
  refine lv_istore_n (lv' := [(3, .int (0 : Int32)), (2, .int r10), (0, .ref (q 11)), (1, .int x1)]) hx hb dX3_read_49 rfl hl (by decide) rfl (fun ls hl => ?_)
  obtain ⟨n24, hw⟩ := hw
  refine L50 _ x1 n24 r10 (0 : Int32) σ11 _ _ _ hw ?_ hP hS (lv_sub hl [2, 3, 1, 0] rfl)
  intro v25 v26 σ27 H locs ls hw hP hS hl
  have hD : va_D (wdA 36 q) (xw c q σ27) := xw_D hD0
  refine lv_aload_n hx hb dX3_read_94 rfl (lv_at hl 0 rfl) ?_
  refine va_get (D := D) (ci := 3) (C := RX3) (T := TX3) (N := 10) hx hb htb inX3 hown hK hP 11 (xw_11 c q σ27) rfl 8 (by decide) (htb _ tb_211) (fun _ h9 => h9) rfl dX3_read_95 ?_
  exact W.iret hx hb hr (fun t ht hW => ⟨⟨_, σ27, rfl, hw, by unfold wdB; rw [ht]; exact hP⟩, hS.F ht⟩) hS.2.2 dX3_read_98
