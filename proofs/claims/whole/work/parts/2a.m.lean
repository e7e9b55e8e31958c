theorem kX8_thrown : tbM yX8_thrown cX8_thrown 1 (some .int) 0 := ⟨tb_1357, tb_99, by decide +kernel, by decide +kernel⟩
theorem kX8_fail : tbM yX8_fail cX8_fail 2 (some .int) 1 := ⟨tb_1369, tb_99, by decide +kernel, by decide +kernel⟩
theorem kX8_refuse : tbM yX8_refuse cX8_refuse 2 (some .boolean) 1 := ⟨tb_1519, tb_99, by decide +kernel, by decide +kernel⟩
theorem kX8_isIn : tbM yX8_isIn cX8_isIn 3 (some .boolean) 3 := ⟨tb_1464, tb_99, by decide +kernel, by decide +kernel⟩
theorem kX8_isThing : tbM yX8_isThing cX8_isThing 2 (some .boolean) 1 := ⟨tb_1476, tb_99, by decide +kernel, by decide +kernel⟩
theorem kX8_isOne : tbM yX8_isOne cX8_isOne 2 (some .boolean) 1 := ⟨tb_1472, tb_99, by decide +kernel, by decide +kernel⟩
theorem kX8_feed : tbM yX8_feed cX8_feed 8 (some .int) 5 := ⟨tb_1361, tb_99, by decide +kernel, by decide +kernel⟩
theorem kX8_byteAt : tbM yX8_byteAt cX8_byteAt 2 (some .int) 1 := ⟨tb_1377, tb_99, by decide +kernel, by decide +kernel⟩
theorem kX8_isLetter : tbM yX8_isLetter cX8_isLetter 1 (some .boolean) 1 := ⟨tb_1380, tb_99, by decide +kernel, by decide +kernel⟩
theorem kX8_isDigit : tbM yX8_isDigit cX8_isDigit 1 (some .boolean) 1 := ⟨tb_1383, tb_99, by decide +kernel, by decide +kernel⟩
theorem kX8_step : tbM yX8_step cX8_step 2 none 0 := ⟨tb_1373, tb_99, by decide +kernel, by decide +kernel⟩
theorem kX8_wrong : tbM yX8_wrong cX8_wrong 2 none 1 := ⟨tb_1399, tb_99, by decide +kernel, by decide +kernel⟩
theorem kX8_isNumber : tbM yX8_isNumber cX8_isNumber 1 (some .boolean) 0 := ⟨tb_1436, tb_99, by decide +kernel, by decide +kernel⟩
theorem kX8_readNumber : tbM yX8_readNumber cX8_readNumber 5 (some .int) 4 := ⟨tb_1403, tb_99, by decide +kernel, by decide +kernel⟩
theorem kX8_semi : tbM yX8_semi cX8_semi 1 none 0 := ⟨tb_1407, tb_99, by decide +kernel, by decide +kernel⟩
theorem kX8_readTurns : tbM yX8_readTurns cX8_readTurns 2 none 0 := ⟨tb_1441, tb_99, by decide +kernel, by decide +kernel⟩
theorem kX8_renew : tbM yX8_renew cX8_renew 2 none 0 := ⟨tb_1445, tb_99, by decide +kernel, by decide +kernel⟩
theorem kX8_fault : tbM yX8_fault cX8_fault 1 (some .int) 0 := ⟨tb_1449, tb_99, by decide +kernel, by decide +kernel⟩
theorem kX8_weightOf : tbM yX8_weightOf cX8_weightOf 4 (some .int) 1 := ⟨tb_1457, tb_99, by decide +kernel, by decide +kernel⟩
theorem kX8_count : tbM yX8_count cX8_count 2 (some .int) 1 := ⟨tb_1453, tb_99, by decide +kernel, by decide +kernel⟩
theorem kX8_turn : tbM yX8_turn cX8_turn 2 (some .int) 1 := ⟨tb_1461, tb_99, by decide +kernel, by decide +kernel⟩
theorem kX8_placeOf : tbM yX8_placeOf cX8_placeOf 6 (some .int) 3 := ⟨tb_1480, tb_99, by decide +kernel, by decide +kernel⟩
theorem kX8_look : tbM yX8_look cX8_look 3 none 0 := ⟨tb_1503, tb_99, by decide +kernel, by decide +kernel⟩
theorem kX8_lookWith : tbM yX8_lookWith cX8_lookWith 7 none 1 := ⟨tb_1550, tb_99, by decide +kernel, by decide +kernel⟩
theorem kX8_place : tbM yX8_place cX8_place 3 (some .int) 2 := ⟨tb_1468, tb_99, by decide +kernel, by decide +kernel⟩
def wX8_thrown  (post : Int32 → hsS → Prop) (σ : hsS) : Prop := post (σ.1 0) σ
set_option maxHeartbeats 4000000 in
set_option maxRecDepth 100000 in
theorem kcX8_thrown (l : Launch) (D : va_G) (c : Nat → ClassId) (q : Nat → Nat) (ev : State → Heap → Prop) (hev : evOK (wdA 31 q) ev) (σ : hsS)  (post : Int32 → hsS → Prop) (hw : wX8_thrown  post σ) : Met l yX8_thrown (Cond.code yX8_thrown cX8_thrown 1 (some .int) :: tb_L) { frames := 0, cells := 0, slots := 0, locals := 0 } (wdPc D (mw c q) (mwT c) (wdA 31 q) ev σ [.ref (q 0)]) (va_Qi post (wdB D (mw c q)) (wdA 31 q)) 0 0 (wdA 31 q) := by
  refine Met.ofW (cc := cX8_thrown) (maxL := 1) (ret := (some .int)) (by decide) rfl ?_
  intro p e s m args below meth c₀ s₁ Bd hml hv
  obtain ⟨rfl, hP, hK, hD0, hE⟩ := hv
  have hx := Bd.exec
  have hb := Bd.bytes
  have hr := Bd.returns
  have hts := atoms_spec (ws := Cond.code yX8_thrown cX8_thrown 1 (some .int) :: tb_L) Bd.pre
  have htb : ∀ w ∈ tb_L, w.before [.ref (q 0)].toArray s = true := fun w h => hts w (List.mem_cons_of_mem _ h)
  have hown : s.vm.findClass RX8 = some m.cls := findClass_of_methodNamed Bd.named
  have hlocks := Bd.notSynchronized
  have hS : va_S (wdA 31 q) s.heap s.heap [] := va_S.rf
  have hD := hD0
  have hl := lv_entry ([.ref (q 0)]) (n := 1) (Nat.le_of_ble_eq_true rfl)
  rw [lg_entry_eq]
  generalize (lg_sl ([.ref (q 0)]) ++ List.replicate (1 - (lg_sl ([.ref (q 0)])).length) Slot.unset).toArray = ls at hl ⊢
  have hl : lv_has ls 1 [(0, .ref (q 0))] := hl
  unfold wX8_thrown at hw
  refine lv_aload_n hx hb dX8_thrown_0 rfl (lv_at hl 0 rfl) ?_
  refine va_get (D := D) (ci := 8) (C := RX8) (T := TX8) (N := 57) hx hb htb inX8 hown hK hP 0 (mw_0 c q σ) rfl 0 (by decide) (htb _ tb_1181) (fun _ h9 => h9) rfl dX8_thrown_1 ?_
  exact W.iret hx hb hr (fun t ht hW => ⟨⟨_, σ, rfl, hw, by unfold wdB; rw [ht]; exact hP⟩, hS.F ht⟩) hS.2.2 dX8_thrown_4
def wX8_fail (x1 : Int32) (post : Int32 → hsS → Prop) (σ : hsS) : Prop := ∀ σ1 : hsS, σ1 = hsI σ 0 x1 → post (0 : Int32) σ1
set_option maxHeartbeats 4000000 in
set_option maxRecDepth 100000 in
theorem kcX8_fail (l : Launch) (D : va_G) (c : Nat → ClassId) (q : Nat → Nat) (ev : State → Heap → Prop) (hev : evOK (wdA 31 q) ev) (σ : hsS) (x1 : Int32) (post : Int32 → hsS → Prop) (hw : wX8_fail x1 post σ) : Met l yX8_fail (Cond.code yX8_fail cX8_fail 2 (some .int) :: tb_L) { frames := 0, cells := 0, slots := 0, locals := 0 } (wdPc D (mw c q) (mwT c) (wdA 31 q) ev σ [.ref (q 0), .int x1]) (va_Qi post (wdB D (mw c q)) (wdA 31 q)) 0 0 (wdA 31 q) := by
  refine Met.ofW (cc := cX8_fail) (maxL := 2) (ret := (some .int)) (by decide) rfl ?_
  intro p e s m args below meth c₀ s₁ Bd hml hv
  obtain ⟨rfl, hP, hK, hD0, hE⟩ := hv
  have hx := Bd.exec
  have hb := Bd.bytes
  have hr := Bd.returns
  have hts := atoms_spec (ws := Cond.code yX8_fail cX8_fail 2 (some .int) :: tb_L) Bd.pre
  have htb : ∀ w ∈ tb_L, w.before [.ref (q 0), .int x1].toArray s = true := fun w h => hts w (List.mem_cons_of_mem _ h)
  have hown : s.vm.findClass RX8 = some m.cls := findClass_of_methodNamed Bd.named
  have hlocks := Bd.notSynchronized
  have hS : va_S (wdA 31 q) s.heap s.heap [] := va_S.rf
  have hD := hD0
  have hl := lv_entry ([.ref (q 0), .int x1]) (n := 2) (Nat.le_of_ble_eq_true rfl)
  rw [lg_entry_eq]
  generalize (lg_sl ([.ref (q 0), .int x1]) ++ List.replicate (2 - (lg_sl ([.ref (q 0), .int x1])).length) Slot.unset).toArray = ls at hl ⊢
  have hl : lv_has ls 2 [(0, .ref (q 0)), (1, .int x1)] := hl
  unfold wX8_fail at hw
  refine lv_aload_n hx hb dX8_fail_0 rfl (lv_at hl 0 rfl) ?_
  refine lv_iload_n hx hb dX8_fail_1 rfl (lv_at hl 1 rfl) ?_
  refine va_put (D := D) (ci := 8) (ty := .int) (C := RX8) (T := TX8) (N := 57) hx hb htb inX8 tyX8 tyX8_ok nmX8 hown hK hP hD hS 0 (mw_0 c q σ) rfl 0 (by decide) (htb _ tb_1181) (fun _ h9 => h9) rfl (by decide +kernel) rfl rfl (Nat.le_of_ble_eq_true rfl) dX8_fail_2 (fun H locs hP hD hS => ?_)
  have hP : va_P D vwCl (mw c q (hsI σ 0 x1)) H := hP
  obtain ⟨σ1, eσ1⟩ : ∃ z : hsS, z = hsI σ 0 x1 := ⟨_, rfl⟩
  rw [← eσ1] at hP
  have hD : va_D (wdA 31 q) (mw c q σ1) := mw_D hD0
  have hw := hw σ1 eσ1
  refine lv_iconst (v := (0 : Int32)) hx hb dX8_fail_5 (by decide) ?_
  exact W.iret hx hb hr (fun t ht hW => ⟨⟨_, σ1, rfl, hw, by unfold wdB; rw [ht]; exact hP⟩, hS.F ht⟩) hS.2.2 dX8_fail_6
def wX8_refuse (x1 : Int32) (post : Int32 → hsS → Prop) (σ : hsS) : Prop := ∀ σ1 : hsS, σ1 = hsI σ 0 x1 → post (0 : Int32) σ1
set_option maxHeartbeats 4000000 in
set_option maxRecDepth 100000 in
theorem kcX8_refuse (l : Launch) (D : va_G) (c : Nat → ClassId) (q : Nat → Nat) (ev : State → Heap → Prop) (hev : evOK (wdA 31 q) ev) (σ : hsS) (x1 : Int32) (post : Int32 → hsS → Prop) (hw : wX8_refuse x1 post σ) : Met l yX8_refuse (Cond.code yX8_refuse cX8_refuse 2 (some .boolean) :: tb_L) { frames := 0, cells := 0, slots := 0, locals := 0 } (wdPc D (mw c q) (mwT c) (wdA 31 q) ev σ [.ref (q 0), .int x1]) (va_Qi post (wdB D (mw c q)) (wdA 31 q)) 0 0 (wdA 31 q) := by
  refine Met.ofW (cc := cX8_refuse) (maxL := 2) (ret := (some .boolean)) (by decide) rfl ?_
  intro p e s m args below meth c₀ s₁ Bd hml hv
  obtain ⟨rfl, hP, hK, hD0, hE⟩ := hv
  have hx := Bd.exec
  have hb := Bd.bytes
  have hr := Bd.returns
  have hts := atoms_spec (ws := Cond.code yX8_refuse cX8_refuse 2 (some .boolean) :: tb_L) Bd.pre
  have htb : ∀ w ∈ tb_L, w.before [.ref (q 0), .int x1].toArray s = true := fun w h => hts w (List.mem_cons_of_mem _ h)
  have hown : s.vm.findClass RX8 = some m.cls := findClass_of_methodNamed Bd.named
  have hlocks := Bd.notSynchronized
  have hS : va_S (wdA 31 q) s.heap s.heap [] := va_S.rf
  have hD := hD0
  have hl := lv_entry ([.ref (q 0), .int x1]) (n := 2) (Nat.le_of_ble_eq_true rfl)
  rw [lg_entry_eq]
  generalize (lg_sl ([.ref (q 0), .int x1]) ++ List.replicate (2 - (lg_sl ([.ref (q 0), .int x1])).length) Slot.unset).toArray = ls at hl ⊢
  have hl : lv_has ls 2 [(0, .ref (q 0)), (1, .int x1)] := hl
  unfold wX8_refuse at hw
  refine lv_aload_n hx hb dX8_refuse_0 rfl (lv_at hl 0 rfl) ?_
  refine lv_iload_n hx hb dX8_refuse_1 rfl (lv_at hl 1 rfl) ?_
  refine va_put (D := D) (ci := 8) (ty := .int) (C := RX8) (T := TX8) (N := 57) hx hb htb inX8 tyX8 tyX8_ok nmX8 hown hK hP hD hS 0 (mw_0 c q σ) rfl 0 (by decide) (htb _ tb_1181) (fun _ h9 => h9) rfl (by decide +kernel) rfl rfl (Nat.le_of_ble_eq_true rfl) dX8_refuse_2 (fun H locs hP hD hS => ?_)
  have hP : va_P D vwCl (mw c q (hsI σ 0 x1)) H := hP
  obtain ⟨σ1, eσ1⟩ : ∃ z : hsS, z = hsI σ 0 x1 := ⟨_, rfl⟩
  rw [← eσ1] at hP
  have hD : va_D (wdA 31 q) (mw c q σ1) := mw_D hD0
  have hw := hw σ1 eσ1
  refine lv_iconst (v := (0 : Int32)) hx hb dX8_refuse_5 (by decide) ?_
  exact W.zret hx hb hr rfl (fun t ht hW => ⟨⟨_, σ1, rfl, hw, by unfold wdB; rw [ht]; exact hP⟩, hS.F ht⟩) hS.2.2 dX8_refuse_6
def wX8_isIn (x0 : Int32) (x1 : Int32) (x2 : Int32) (post : Int32 → hsS → Prop) (σ : hsS) : Prop := ((x0 < x1 → post (0 : Int32) σ) ∧ (¬ x0 < x1 → ((x2 < x0 → post (0 : Int32) σ) ∧ (¬ x2 < x0 → post (1 : Int32) σ))))
set_option maxHeartbeats 4000000 in
set_option maxRecDepth 100000 in
theorem kcX8_isIn_m (l : Launch) (D : va_G) (c : Nat → ClassId) (q : Nat → Nat) (ev : State → Heap → Prop) (hev : evOK (wdA 31 q) ev) (σ : hsS) (x0 : Int32) (x1 : Int32) (x2 : Int32) (post : Int32 → hsS → Prop) (hw : wX8_isIn x0 x1 x2 post σ) : Met l yX8_isIn (Cond.code yX8_isIn cX8_isIn 3 (some .boolean) :: tb_L) { frames := 0, cells := 0, slots := 0, locals := 0 } (wdPc D (mw c q) (mwT c) (wdA 31 q) ev σ [.int x0, .int x1, .int x2]) (va_Qi post (wdB D (mw c q)) (wdA 31 q)) 0 0 (wdA 31 q) := by
  refine Met.ofW (cc := cX8_isIn) (maxL := 3) (ret := (some .boolean)) (by decide) rfl ?_
  intro p e s m args below meth c₀ s₁ Bd hml hv
  obtain ⟨rfl, hP, hK, hD0, hE⟩ := hv
  have hx := Bd.exec
  have hb := Bd.bytes
  have hr := Bd.returns
  have hts := atoms_spec (ws := Cond.code yX8_isIn cX8_isIn 3 (some .boolean) :: tb_L) Bd.pre
  have htb : ∀ w ∈ tb_L, w.before [.int x0, .int x1, .int x2].toArray s = true := fun w h => hts w (List.mem_cons_of_mem _ h)
  have hown : s.vm.findClass RX8 = some m.cls := findClass_of_methodNamed Bd.named
  have hlocks := Bd.notSynchronized
  have hS : va_S (wdA 31 q) s.heap s.heap [] := va_S.rf
  have hD := hD0
  have hl := lv_entry ([.int x0, .int x1, .int x2]) (n := 3) (Nat.le_of_ble_eq_true rfl)
  rw [lg_entry_eq]
  generalize (lg_sl ([.int x0, .int x1, .int x2]) ++ List.replicate (3 - (lg_sl ([.int x0, .int x1, .int x2])).length) Slot.unset).toArray = ls at hl ⊢
  have hl : lv_has ls 3 [(0, .int x0), (1, .int x1), (2, .int x2)] := hl
  unfold wX8_isIn at hw
  refine lv_iload_n hx hb dX8_isIn_0 rfl (lv_at hl 0 rfl) ?_
  refine lv_iload_n hx hb dX8_isIn_1 rfl (lv_at hl 1 rfl) ?_
  refine lv_icmp_lt (tgt := 14) hx hb dX8_isIn_2 (by decide) (fun c1 => ?_) (fun c1 => ?_)
  · have hw := hw.1 c1
    refine lv_iconst (v := (0 : Int32)) hx hb dX8_isIn_14 (by decide) ?_
    exact W.zret hx hb hr rfl (fun t ht hW => ⟨⟨_, σ, rfl, hw, by unfold wdB; rw [ht]; exact hP⟩, hS.F ht⟩) hS.2.2 dX8_isIn_15
  · have hw := hw.2 c1
    refine lv_iload_n hx hb dX8_isIn_5 rfl (lv_at hl 0 rfl) ?_
    refine lv_iload_n hx hb dX8_isIn_6 rfl (lv_at hl 2 rfl) ?_
    refine lv_icmp_gt (tgt := 14) hx hb dX8_isIn_7 (by decide) (fun c2 => ?_) (fun c2 => ?_)
    · have hw := hw.1 c2
      refine lv_iconst (v := (0 : Int32)) hx hb dX8_isIn_14 (by decide) ?_
      exact W.zret hx hb hr rfl (fun t ht hW => ⟨⟨_, σ, rfl, hw, by unfold wdB; rw [ht]; exact hP⟩, hS.F ht⟩) hS.2.2 dX8_isIn_15
    · have hw := hw.2 c2
      refine lv_iconst (v := (1 : Int32)) hx hb dX8_isIn_10 (by decide) ?_
      refine lv_goto (tgt := 15) hx hb dX8_isIn_11 (by decide) ?_
      exact W.zret hx hb hr rfl (fun t ht hW => ⟨⟨_, σ, rfl, hw, by unfold wdB; rw [ht]; exact hP⟩, hS.F ht⟩) hS.2.2 dX8_isIn_15
def wX8_isThing (x1 : Int32) (post : Int32 → hsS → Prop) (σ : hsS) : Prop := wX8_isIn x1 (0 : Int32) ((σ.2.1 1 (0 : Int32).toNatClampNeg) - (1 : Int32)) (fun r1 σ2 => (r1 = 0 ∨ r1 = 1) ∧ post r1 σ2) σ
set_option maxHeartbeats 4000000 in
set_option maxRecDepth 100000 in
theorem kcX8_isThing (l : Launch) (D : va_G) (c : Nat → ClassId) (q : Nat → Nat) (ev : State → Heap → Prop) (hev : evOK (wdA 31 q) ev) (σ : hsS) (x1 : Int32) (post : Int32 → hsS → Prop) (hw : wX8_isThing x1 post σ) : Met l yX8_isThing (Cond.code yX8_isThing cX8_isThing 2 (some .boolean) :: tb_L) { frames := 1, cells := 0, slots := 0, locals := 22 } (wdPc D (mw c q) (mwT c) (wdA 31 q) ev σ [.ref (q 0), .int x1]) (va_Qi post (wdB D (mw c q)) (wdA 31 q)) 0 0 (wdA 31 q) := by
  refine Met.ofW (cc := cX8_isThing) (maxL := 2) (ret := (some .boolean)) (by decide) rfl ?_
  intro p e s m args below meth c₀ s₁ Bd hml hv
  obtain ⟨rfl, hP, hK, hD0, hE⟩ := hv
  have hx := Bd.exec
  have hb := Bd.bytes
  have hr := Bd.returns
  have hts := atoms_spec (ws := Cond.code yX8_isThing cX8_isThing 2 (some .boolean) :: tb_L) Bd.pre
  have htb : ∀ w ∈ tb_L, w.before [.ref (q 0), .int x1].toArray s = true := fun w h => hts w (List.mem_cons_of_mem _ h)
  have hown : s.vm.findClass RX8 = some m.cls := findClass_of_methodNamed Bd.named
  have hlocks := Bd.notSynchronized
  have hS : va_S (wdA 31 q) s.heap s.heap [] := va_S.rf
  have hD := hD0
  have hl := lv_entry ([.ref (q 0), .int x1]) (n := 2) (Nat.le_of_ble_eq_true rfl)
  rw [lg_entry_eq]
  generalize (lg_sl ([.ref (q 0), .int x1]) ++ List.replicate (2 - (lg_sl ([.ref (q 0), .int x1])).length) Slot.unset).toArray = ls at hl ⊢
  have hl : lv_has ls 2 [(0, .ref (q 0)), (1, .int x1)] := hl
  unfold wX8_isThing at hw
  refine lv_iload_n hx hb dX8_isThing_0 rfl (lv_at hl 1 rfl) ?_
  refine lv_iconst (v := (0 : Int32)) hx hb dX8_isThing_1 (by decide) ?_
  refine lv_aload_n hx hb dX8_isThing_2 rfl (lv_at hl 0 rfl) ?_
  refine va_get (D := D) (ci := 8) (C := RX8) (T := TX8) (N := 57) hx hb htb inX8 hown hK hP 0 (mw_0 c q σ) rfl 1 (by decide) (htb _ tb_1182) (fun _ h9 => h9) rfl dX8_isThing_3 ?_
  refine lv_iconst (v := (0 : Int32)) hx hb dX8_isThing_6 (by decide) ?_
  refine va_iald hx hb hK hP 1 0 (mw_1 c q σ) rfl (by unfold vp_in; decide) dX8_isThing_7 ?_
  refine lv_iconst (v := (1 : Int32)) hx hb dX8_isThing_8 (by decide) ?_
  refine lv_isub hx hb dX8_isThing_9 ?_
  refine va_calli (va_runS (As := [.int x1, .int (0 : Int32), .int ((σ.2.1 1 (0 : Int32).toNatClampNeg) - (1 : Int32))]) (rest := []) ⟨hx, hb, hml, hown, htb⟩ (kcX8_isIn_m l D c q ev hev σ x1 (0 : Int32) ((σ.2.1 1 (0 : Int32).toNatClampNeg) - (1 : Int32)) _ hw) (tb_CS htb kX8_isIn tb_1462 tb_1463 ⟨Nat.le_of_ble_eq_true rfl, Nat.le_of_ble_eq_true rfl⟩) (wd_preS (wd := mw c q) hev hK hP hD hE hS) rfl rfl hl.1 rfl (lv_room (Nat.le_of_ble_eq_true rfl)) dX8_isThing_10 ⟨Nat.zero_le _, Nat.zero_le _⟩) hS (fun q _ h => h) (fun q h => h) (fun r1 σ2 t H1 locs1 ht hvm hw hB hz1 hk1 hS => ?_)
  have hP : va_P D vwCl (mw c q σ2) H1 := ht ▸ hB
  have hD : va_D (wdA 31 q) (mw c q σ2) := mw_D hD0
  have hq := hw.2
  exact W.zret hx hb hr (nar_b hw.1) (fun t ht hW => ⟨⟨_, σ2, rfl, hq, by unfold wdB; rw [ht]; exact hP⟩, hS.F ht⟩) hS.2.2 dX8_isThing_13
def wX8_isOne (x1 : Int32) (post : Int32 → hsS → Prop) (σ : hsS) : Prop := wX8_isIn x1 (0 : Int32) ((σ.2.1 2 (0 : Int32).toNatClampNeg) - (1 : Int32)) (fun r1 σ2 => (r1 = 0 ∨ r1 = 1) ∧ post r1 σ2) σ
set_option maxHeartbeats 4000000 in
set_option maxRecDepth 100000 in
theorem kcX8_isOne (l : Launch) (D : va_G) (c : Nat → ClassId) (q : Nat → Nat) (ev : State → Heap → Prop) (hev : evOK (wdA 31 q) ev) (σ : hsS) (x1 : Int32) (post : Int32 → hsS → Prop) (hw : wX8_isOne x1 post σ) : Met l yX8_isOne (Cond.code yX8_isOne cX8_isOne 2 (some .boolean) :: tb_L) { frames := 1, cells := 0, slots := 0, locals := 22 } (wdPc D (mw c q) (mwT c) (wdA 31 q) ev σ [.ref (q 0), .int x1]) (va_Qi post (wdB D (mw c q)) (wdA 31 q)) 0 0 (wdA 31 q) := by
  refine Met.ofW (cc := cX8_isOne) (maxL := 2) (ret := (some .boolean)) (by decide) rfl ?_
  intro p e s m args below meth c₀ s₁ Bd hml hv
  obtain ⟨rfl, hP, hK, hD0, hE⟩ := hv
  have hx := Bd.exec
  have hb := Bd.bytes
  have hr := Bd.returns
  have hts := atoms_spec (ws := Cond.code yX8_isOne cX8_isOne 2 (some .boolean) :: tb_L) Bd.pre
  have htb : ∀ w ∈ tb_L, w.before [.ref (q 0), .int x1].toArray s = true := fun w h => hts w (List.mem_cons_of_mem _ h)
  have hown : s.vm.findClass RX8 = some m.cls := findClass_of_methodNamed Bd.named
  have hlocks := Bd.notSynchronized
  have hS : va_S (wdA 31 q) s.heap s.heap [] := va_S.rf
  have hD := hD0
  have hl := lv_entry ([.ref (q 0), .int x1]) (n := 2) (Nat.le_of_ble_eq_true rfl)
  rw [lg_entry_eq]
  generalize (lg_sl ([.ref (q 0), .int x1]) ++ List.replicate (2 - (lg_sl ([.ref (q 0), .int x1])).length) Slot.unset).toArray = ls at hl ⊢
  have hl : lv_has ls 2 [(0, .ref (q 0)), (1, .int x1)] := hl
  unfold wX8_isOne at hw
  refine lv_iload_n hx hb dX8_isOne_0 rfl (lv_at hl 1 rfl) ?_
  refine lv_iconst (v := (0 : Int32)) hx hb dX8_isOne_1 (by decide) ?_
  refine lv_aload_n hx hb dX8_isOne_2 rfl (lv_at hl 0 rfl) ?_
  refine va_get (D := D) (ci := 8) (C := RX8) (T := TX8) (N := 57) hx hb htb inX8 hown hK hP 0 (mw_0 c q σ) rfl 2 (by decide) (htb _ tb_1183) (fun _ h9 => h9) rfl dX8_isOne_3 ?_
  refine lv_iconst (v := (0 : Int32)) hx hb dX8_isOne_6 (by decide) ?_
  refine va_iald hx hb hK hP 2 1 (mw_2 c q σ) rfl (by unfold vp_in; decide) dX8_isOne_7 ?_
  refine lv_iconst (v := (1 : Int32)) hx hb dX8_isOne_8 (by decide) ?_
  refine lv_isub hx hb dX8_isOne_9 ?_
  refine va_calli (va_runS (As := [.int x1, .int (0 : Int32), .int ((σ.2.1 2 (0 : Int32).toNatClampNeg) - (1 : Int32))]) (rest := []) ⟨hx, hb, hml, hown, htb⟩ (kcX8_isIn_m l D c q ev hev σ x1 (0 : Int32) ((σ.2.1 2 (0 : Int32).toNatClampNeg) - (1 : Int32)) _ hw) (tb_CS htb kX8_isIn tb_1462 tb_1463 ⟨Nat.le_of_ble_eq_true rfl, Nat.le_of_ble_eq_true rfl⟩) (wd_preS (wd := mw c q) hev hK hP hD hE hS) rfl rfl hl.1 rfl (lv_room (Nat.le_of_ble_eq_true rfl)) dX8_isOne_10 ⟨Nat.zero_le _, Nat.zero_le _⟩) hS (fun q _ h => h) (fun q h => h) (fun r1 σ2 t H1 locs1 ht hvm hw hB hz1 hk1 hS => ?_)
  have hP : va_P D vwCl (mw c q σ2) H1 := ht ▸ hB
  have hD : va_D (wdA 31 q) (mw c q σ2) := mw_D hD0
  have hq := hw.2
  exact W.zret hx hb hr (nar_b hw.1) (fun t ht hW => ⟨⟨_, σ2, rfl, hq, by unfold wdB; rw [ht]; exact hP⟩, hS.F ht⟩) hS.2.2 dX8_isOne_13
def wX8_feed_L23 (z1 : Int32) (z2 : Int32) (z3 : Int32) (z4 : Int32) (z5 : Int32) (K120 : Int32 → hsS → Prop) (post : Int32 → hsS → Prop) : Nat → Int32 → hsS → Prop
  | 0, _, _ => False
  | n + 1, y6, σ => (((20 : Int32) ≤ y6 → K120 y6 σ) ∧ (¬ (20 : Int32) ≤ y6 → (((4 : Int32) ≤ y6 → (((8 : Int32) ≤ y6 → (((12 : Int32) ≤ y6 → (((16 : Int32) ≤ y6 → vp_in (σ.1 14) 600 ∧ ∀ σ8 : hsS, σ8 = hsA σ 12 (upd (σ.2.1 12) (σ.1 14).toNatClampNeg ((z5 >>> (((24 : Int32) - ((8 : Int32) * (y6 - y6 / (4 : Int32) * (4 : Int32)))) &&& 31)) &&& (255 : Int32))) → ∀ σ9 : hsS, σ9 = hsI σ8 14 ((σ8.1 14) + (1 : Int32)) → ∀ v10 : Int32, v10 = y6 + (1 : Int32) → wX8_feed_L23 z1 z2 z3 z4 z5 K120 post n v10 σ9) ∧ (¬ (16 : Int32) ≤ y6 → vp_in (σ.1 14) 600 ∧ ∀ σ11 : hsS, σ11 = hsA σ 12 (upd (σ.2.1 12) (σ.1 14).toNatClampNeg ((z4 >>> (((24 : Int32) - ((8 : Int32) * (y6 - y6 / (4 : Int32) * (4 : Int32)))) &&& 31)) &&& (255 : Int32))) → ∀ σ12 : hsS, σ12 = hsI σ11 14 ((σ11.1 14) + (1 : Int32)) → ∀ v13 : Int32, v13 = y6 + (1 : Int32) → wX8_feed_L23 z1 z2 z3 z4 z5 K120 post n v13 σ12))) ∧ (¬ (12 : Int32) ≤ y6 → vp_in (σ.1 14) 600 ∧ ∀ σ14 : hsS, σ14 = hsA σ 12 (upd (σ.2.1 12) (σ.1 14).toNatClampNeg ((z3 >>> (((24 : Int32) - ((8 : Int32) * (y6 - y6 / (4 : Int32) * (4 : Int32)))) &&& 31)) &&& (255 : Int32))) → ∀ σ15 : hsS, σ15 = hsI σ14 14 ((σ14.1 14) + (1 : Int32)) → ∀ v16 : Int32, v16 = y6 + (1 : Int32) → wX8_feed_L23 z1 z2 z3 z4 z5 K120 post n v16 σ15))) ∧ (¬ (8 : Int32) ≤ y6 → vp_in (σ.1 14) 600 ∧ ∀ σ17 : hsS, σ17 = hsA σ 12 (upd (σ.2.1 12) (σ.1 14).toNatClampNeg ((z2 >>> (((24 : Int32) - ((8 : Int32) * (y6 - y6 / (4 : Int32) * (4 : Int32)))) &&& 31)) &&& (255 : Int32))) → ∀ σ18 : hsS, σ18 = hsI σ17 14 ((σ17.1 14) + (1 : Int32)) → ∀ v19 : Int32, v19 = y6 + (1 : Int32) → wX8_feed_L23 z1 z2 z3 z4 z5 K120 post n v19 σ18))) ∧ (¬ (4 : Int32) ≤ y6 → vp_in (σ.1 14) 600 ∧ ∀ σ20 : hsS, σ20 = hsA σ 12 (upd (σ.2.1 12) (σ.1 14).toNatClampNeg ((z1 >>> (((24 : Int32) - ((8 : Int32) * (y6 - y6 / (4 : Int32) * (4 : Int32)))) &&& 31)) &&& (255 : Int32))) → ∀ σ21 : hsS, σ21 = hsI σ20 14 ((σ20.1 14) + (1 : Int32)) → ∀ v22 : Int32, v22 = y6 + (1 : Int32) → wX8_feed_L23 z1 z2 z3 z4 z5 K120 post n v22 σ21))))
def wX8_feed (x1 : Int32) (x2 : Int32) (x3 : Int32) (x4 : Int32) (x5 : Int32) (post : Int32 → hsS → Prop) (σ : hsS) : Prop := ∀ σ1 : hsS, σ1 = hsI σ 0 (0 : Int32) → ((((σ1.1 14) + (20 : Int32)) ≤ (600 : Int32) → ∃ n23, wX8_feed_L23 x1 x2 x3 x4 x5 (fun v24 σ25 => post (σ25.1 14) σ25) post n23 (0 : Int32) σ1) ∧ (¬ ((σ1.1 14) + (20 : Int32)) ≤ (600 : Int32) → post (-1 : Int32) σ1))
set_option maxHeartbeats 4000000 in
set_option maxRecDepth 100000 in
theorem kcX8_feed (l : Launch) (D : va_G) (c : Nat → ClassId) (q : Nat → Nat) (ev : State → Heap → Prop) (hev : evOK (wdA 31 q) ev) (σ : hsS) (x1 : Int32) (x2 : Int32) (x3 : Int32) (x4 : Int32) (x5 : Int32) (post : Int32 → hsS → Prop) (hw : wX8_feed x1 x2 x3 x4 x5 post σ) : Met l yX8_feed (Cond.code yX8_feed cX8_feed 8 (some .int) :: tb_L) { frames := 0, cells := 0, slots := 0, locals := 0 } (wdPc D (mw c q) (mwT c) (wdA 31 q) ev σ [.ref (q 0), .int x1, .int x2, .int x3, .int x4, .int x5]) (va_Qi post (wdB D (mw c q)) (wdA 31 q)) 0 0 (wdA 31 q) := by
  refine Met.ofW (cc := cX8_feed) (maxL := 8) (ret := (some .int)) (by decide) rfl ?_
  intro p e s m args below meth c₀ s₁ Bd hml hv
  obtain ⟨rfl, hP, hK, hD0, hE⟩ := hv
  have hx := Bd.exec
  have hb := Bd.bytes
  have hr := Bd.returns
  have hts := atoms_spec (ws := Cond.code yX8_feed cX8_feed 8 (some .int) :: tb_L) Bd.pre
  have htb : ∀ w ∈ tb_L, w.before [.ref (q 0), .int x1, .int x2, .int x3, .int x4, .int x5].toArray s = true := fun w h => hts w (List.mem_cons_of_mem _ h)
  have hown : s.vm.findClass RX8 = some m.cls := findClass_of_methodNamed Bd.named
  have hlocks := Bd.notSynchronized
  have hS : va_S (wdA 31 q) s.heap s.heap [] := va_S.rf
  have hD := hD0
  have L23 : ∀ (K120 : Int32 → hsS → Prop) (z1 : Int32) (z2 : Int32) (z3 : Int32) (z4 : Int32) (z5 : Int32) (n : Nat) (y6 : Int32) (σ : hsS) (H : Heap) (locs : List Loc) (ls : Array Slot), wX8_feed_L23 z1 z2 z3 z4 z5 K120 post n y6 σ → (∀ (y6 : Int32) (σ : hsS) (H : Heap) (locs : List Loc) (ls : Array Slot), K120 y6 σ → va_P D vwCl (mw c q σ) H → va_S (wdA 31 q) s.heap H locs → lv_has ls 8 [(0, .ref (q 0)), (1, .int z1), (2, .int z2), (3, .int z3), (4, .int z4), (5, .int z5), (6, .int y6)] → W p l e (headSpec (Cond.code yX8_feed cX8_feed 8 (some .int) :: tb_L) { frames := 0, cells := 0, slots := 0, locals := 0 }).room s m [.ref (q 0), .int x1, .int x2, .int x3, .int x4, .int x5].toArray below meth c₀ H locs 0 0 (MQ below (va_Qi post (wdB D (mw c q)) (wdA 31 q)) [.ref (q 0), .int x1, .int x2, .int x3, .int x4, .int x5].toArray s 0 0 (wdA 31 q)) (F0 m 120 ls [])) → va_P D vwCl (mw c q σ) H → va_S (wdA 31 q) s.heap H locs → lv_has ls 8 [(0, .ref (q 0)), (1, .int z1), (2, .int z2), (3, .int z3), (4, .int z4), (5, .int z5), (6, .int y6)] → W p l e (headSpec (Cond.code yX8_feed cX8_feed 8 (some .int) :: tb_L) { frames := 0, cells := 0, slots := 0, locals := 0 }).room s m [.ref (q 0), .int x1, .int x2, .int x3, .int x4, .int x5].toArray below meth c₀ H locs 0 0 (MQ below (va_Qi post (wdB D (mw c q)) (wdA 31 q)) [.ref (q 0), .int x1, .int x2, .int x3, .int x4, .int x5].toArray s 0 0 (wdA 31 q)) (F0 m 23 ls []) := by
    intro K120 z1 z2 z3 z4 z5 n
    induction n with
    | zero =>
      intro y6 σ H locs ls hw hk120 hP hS hl
      exact (show False from hw).elim
    | succ n ih =>
      intro y6 σ H locs ls hw hk120 hP hS hl
      rw [wX8_feed_L23] at hw
      have hD : va_D (wdA 31 q) (mw c q σ) := mw_D hD0
      refine lv_iload hx hb dX8_feed_23 (lv_at hl 6 rfl) ?_
      refine lv_bipush (v := (20 : Int32)) hx hb dX8_feed_25 (by decide) ?_
      refine lv_icmp_ge (tgt := 120) hx hb dX8_feed_27 (by decide) (fun c3 => ?_) (fun c3 => ?_)
      · have hw := hw.1 c3
        exact hk120 y6 σ _ _ _ hw hP hS (lv_sub hl [0, 1, 2, 3, 4, 5, 6] rfl)
      · have hw := hw.2 c3
        refine lv_iload hx hb dX8_feed_30 (lv_at hl 6 rfl) ?_
        refine lv_iconst (v := (4 : Int32)) hx hb dX8_feed_32 (by decide) ?_
        refine lv_icmp_ge (tgt := 40) hx hb dX8_feed_33 (by decide) (fun c4 => ?_) (fun c4 => ?_)
        · have hw := hw.1 c4
          refine lv_iload hx hb dX8_feed_40 (lv_at hl 6 rfl) ?_
          refine lv_bipush (v := (8 : Int32)) hx hb dX8_feed_42 (by decide) ?_
          refine lv_icmp_ge (tgt := 51) hx hb dX8_feed_44 (by decide) (fun c5 => ?_) (fun c5 => ?_)
          · have hw := hw.1 c5
            refine lv_iload hx hb dX8_feed_51 (lv_at hl 6 rfl) ?_
            refine lv_bipush (v := (12 : Int32)) hx hb dX8_feed_53 (by decide) ?_
            refine lv_icmp_ge (tgt := 62) hx hb dX8_feed_55 (by decide) (fun c6 => ?_) (fun c6 => ?_)
            · have hw := hw.1 c6
              refine lv_iload hx hb dX8_feed_62 (lv_at hl 6 rfl) ?_
              refine lv_bipush (v := (16 : Int32)) hx hb dX8_feed_64 (by decide) ?_
              refine lv_icmp_ge (tgt := 74) hx hb dX8_feed_66 (by decide) (fun c7 => ?_) (fun c7 => ?_)
              · have hw := hw.1 c7
                refine lv_iload hx hb dX8_feed_74 (lv_at hl 5 rfl) ?_
                refine lv_istore (lv' := [(7, .int z5), (0, .ref (q 0)), (1, .int z1), (2, .int z2), (3, .int z3), (4, .int z4), (5, .int z5), (6, .int y6)]) hx hb dX8_feed_76 hl (by decide) rfl (fun ls hl => ?_)
                refine lv_aload_n hx hb dX8_feed_78 rfl (lv_at hl 1 rfl) ?_
                refine va_get (D := D) (ci := 8) (C := RX8) (T := TX8) (N := 57) hx hb htb inX8 hown hK hP 0 (mw_0 c q σ) rfl 13 (by decide) (htb _ tb_1194) (fun _ h9 => h9) rfl dX8_feed_79 ?_
                refine lv_aload_n hx hb dX8_feed_82 rfl (lv_at hl 1 rfl) ?_
                refine va_get (D := D) (ci := 8) (C := RX8) (T := TX8) (N := 57) hx hb htb inX8 hown hK hP 0 (mw_0 c q σ) rfl 14 (by decide) (htb _ tb_1195) (fun _ h9 => h9) rfl dX8_feed_83 ?_
                refine lv_iload hx hb dX8_feed_86 (lv_at hl 0 rfl) ?_
                refine lv_bipush (v := (24 : Int32)) hx hb dX8_feed_88 (by decide) ?_
                refine lv_bipush (v := (8 : Int32)) hx hb dX8_feed_90 (by decide) ?_
                refine lv_iload hx hb dX8_feed_92 (lv_at hl 7 rfl) ?_
                refine lv_iconst (v := (4 : Int32)) hx hb dX8_feed_94 (by decide) ?_
                refine lv_irem hx hb dX8_feed_95 (by decide) ?_
                refine lv_imul hx hb dX8_feed_96 ?_
                refine lv_isub hx hb dX8_feed_97 ?_
                refine lv_ishr hx hb dX8_feed_98 ?_
                refine lv_sipush (v := (255 : Int32)) hx hb dX8_feed_99 (by decide) ?_
                refine lv_iand hx hb dX8_feed_102 ?_
                refine va_iast hx hb hK hP hD hS 12 11 (mw_12 c q σ) rfl hw.1 dX8_feed_103 (fun H locs hP hD hS => ?_)
                have hw := hw.2
                have hP : va_P D vwCl (mw c q (hsA σ 12 (upd (σ.2.1 12) (σ.1 14).toNatClampNeg ((z5 >>> (((24 : Int32) - ((8 : Int32) * (y6 - y6 / (4 : Int32) * (4 : Int32)))) &&& 31)) &&& (255 : Int32))))) H := hP
                obtain ⟨σ8, eσ8⟩ : ∃ z : hsS, z = hsA σ 12 (upd (σ.2.1 12) (σ.1 14).toNatClampNeg ((z5 >>> (((24 : Int32) - ((8 : Int32) * (y6 - y6 / (4 : Int32) * (4 : Int32)))) &&& 31)) &&& (255 : Int32))) := ⟨_, rfl⟩
                rw [← eσ8] at hP
                have hD : va_D (wdA 31 q) (mw c q σ8) := mw_D hD0
                have hw := hw σ8 eσ8
                refine lv_aload_n hx hb dX8_feed_104 rfl (lv_at hl 1 rfl) ?_
                refine lv_dup hx hb dX8_feed_105 rfl ?_
                refine va_get (D := D) (ci := 8) (C := RX8) (T := TX8) (N := 57) hx hb htb inX8 hown hK hP 0 (mw_0 c q σ8) rfl 14 (by decide) (htb _ tb_1195) (fun _ h9 => h9) rfl dX8_feed_106 ?_
                refine lv_iconst (v := (1 : Int32)) hx hb dX8_feed_109 (by decide) ?_
                refine lv_iadd hx hb dX8_feed_110 ?_
                refine va_put (D := D) (ci := 8) (ty := .int) (C := RX8) (T := TX8) (N := 57) hx hb htb inX8 tyX8 tyX8_ok nmX8 hown hK hP hD hS 0 (mw_0 c q σ8) rfl 14 (by decide) (htb _ tb_1195) (fun _ h9 => h9) rfl (by decide +kernel) rfl rfl (Nat.le_of_ble_eq_true rfl) dX8_feed_111 (fun H locs hP hD hS => ?_)
                have hP : va_P D vwCl (mw c q (hsI σ8 14 ((σ8.1 14) + (1 : Int32)))) H := hP
                obtain ⟨σ9, eσ9⟩ : ∃ z : hsS, z = hsI σ8 14 ((σ8.1 14) + (1 : Int32)) := ⟨_, rfl⟩
                rw [← eσ9] at hP
                have hD : va_D (wdA 31 q) (mw c q σ9) := mw_D hD0
                have hw := hw σ9 eσ9
                obtain ⟨v10, ev10⟩ : ∃ z : Int32, z = y6 + (1 : Int32) := ⟨_, rfl⟩
                have hw := hw v10 ev10
                refine lv_iinc (v := v10) (lv' := [(6, .int v10), (7, .int z5), (0, .ref (q 0)), (1, .int z1), (2, .int z2), (3, .int z3), (4, .int z4), (5, .int z5)]) hx hb dX8_feed_114 hl (k := 7) rfl (by rw [ev10]; rfl) (by decide) rfl (fun ls hl => ?_)
                refine lv_goto (tgt := 23) hx hb dX8_feed_117 (by decide) ?_
                exact ih v10 σ9 _ _ _ hw hk120 hP hS (lv_sub hl [2, 3, 4, 5, 6, 7, 0] rfl)
              · have hw := hw.2 c7
                refine lv_iload hx hb dX8_feed_69 (lv_at hl 4 rfl) ?_
                refine lv_goto (tgt := 76) hx hb dX8_feed_71 (by decide) ?_
                refine lv_istore (lv' := [(7, .int z4), (0, .ref (q 0)), (1, .int z1), (2, .int z2), (3, .int z3), (4, .int z4), (5, .int z5), (6, .int y6)]) hx hb dX8_feed_76 hl (by decide) rfl (fun ls hl => ?_)
                refine lv_aload_n hx hb dX8_feed_78 rfl (lv_at hl 1 rfl) ?_
                refine va_get (D := D) (ci := 8) (C := RX8) (T := TX8) (N := 57) hx hb htb inX8 hown hK hP 0 (mw_0 c q σ) rfl 13 (by decide) (htb _ tb_1194) (fun _ h9 => h9) rfl dX8_feed_79 ?_
                refine lv_aload_n hx hb dX8_feed_82 rfl (lv_at hl 1 rfl) ?_
                refine va_get (D := D) (ci := 8) (C := RX8) (T := TX8) (N := 57) hx hb htb inX8 hown hK hP 0 (mw_0 c q σ) rfl 14 (by decide) (htb _ tb_1195) (fun _ h9 => h9) rfl dX8_feed_83 ?_
                refine lv_iload hx hb dX8_feed_86 (lv_at hl 0 rfl) ?_
                refine lv_bipush (v := (24 : Int32)) hx hb dX8_feed_88 (by decide) ?_
                refine lv_bipush (v := (8 : Int32)) hx hb dX8_feed_90 (by decide) ?_
                refine lv_iload hx hb dX8_feed_92 (lv_at hl 7 rfl) ?_
                refine lv_iconst (v := (4 : Int32)) hx hb dX8_feed_94 (by decide) ?_
                refine lv_irem hx hb dX8_feed_95 (by decide) ?_
                refine lv_imul hx hb dX8_feed_96 ?_
                refine lv_isub hx hb dX8_feed_97 ?_
                refine lv_ishr hx hb dX8_feed_98 ?_
                refine lv_sipush (v := (255 : Int32)) hx hb dX8_feed_99 (by decide) ?_
                refine lv_iand hx hb dX8_feed_102 ?_
                refine va_iast hx hb hK hP hD hS 12 11 (mw_12 c q σ) rfl hw.1 dX8_feed_103 (fun H locs hP hD hS => ?_)
                have hw := hw.2
                have hP : va_P D vwCl (mw c q (hsA σ 12 (upd (σ.2.1 12) (σ.1 14).toNatClampNeg ((z4 >>> (((24 : Int32) - ((8 : Int32) * (y6 - y6 / (4 : Int32) * (4 : Int32)))) &&& 31)) &&& (255 : Int32))))) H := hP
                obtain ⟨σ11, eσ11⟩ : ∃ z : hsS, z = hsA σ 12 (upd (σ.2.1 12) (σ.1 14).toNatClampNeg ((z4 >>> (((24 : Int32) - ((8 : Int32) * (y6 - y6 / (4 : Int32) * (4 : Int32)))) &&& 31)) &&& (255 : Int32))) := ⟨_, rfl⟩
                rw [← eσ11] at hP
                have hD : va_D (wdA 31 q) (mw c q σ11) := mw_D hD0
                have hw := hw σ11 eσ11
                refine lv_aload_n hx hb dX8_feed_104 rfl (lv_at hl 1 rfl) ?_
                refine lv_dup hx hb dX8_feed_105 rfl ?_
                refine va_get (D := D) (ci := 8) (C := RX8) (T := TX8) (N := 57) hx hb htb inX8 hown hK hP 0 (mw_0 c q σ11) rfl 14 (by decide) (htb _ tb_1195) (fun _ h9 => h9) rfl dX8_feed_106 ?_
                refine lv_iconst (v := (1 : Int32)) hx hb dX8_feed_109 (by decide) ?_
                refine lv_iadd hx hb dX8_feed_110 ?_
                refine va_put (D := D) (ci := 8) (ty := .int) (C := RX8) (T := TX8) (N := 57) hx hb htb inX8 tyX8 tyX8_ok nmX8 hown hK hP hD hS 0 (mw_0 c q σ11) rfl 14 (by decide) (htb _ tb_1195) (fun _ h9 => h9) rfl (by decide +kernel) rfl rfl (Nat.le_of_ble_eq_true rfl) dX8_feed_111 (fun H locs hP hD hS => ?_)
                have hP : va_P D vwCl (mw c q (hsI σ11 14 ((σ11.1 14) + (1 : Int32)))) H := hP
                obtain ⟨σ12, eσ12⟩ : ∃ z : hsS, z = hsI σ11 14 ((σ11.1 14) + (1 : Int32)) := ⟨_, rfl⟩
                rw [← eσ12] at hP
                have hD : va_D (wdA 31 q) (mw c q σ12) := mw_D hD0
                have hw := hw σ12 eσ12
                obtain ⟨v13, ev13⟩ : ∃ z : Int32, z = y6 + (1 : Int32) := ⟨_, rfl⟩
                have hw := hw v13 ev13
                refine lv_iinc (v := v13) (lv' := [(6, .int v13), (7, .int z4), (0, .ref (q 0)), (1, .int z1), (2, .int z2), (3, .int z3), (4, .int z4), (5, .int z5)]) hx hb dX8_feed_114 hl (k := 7) rfl (by rw [ev13]; rfl) (by decide) rfl (fun ls hl => ?_)
                refine lv_goto (tgt := 23) hx hb dX8_feed_117 (by decide) ?_
                exact ih v13 σ12 _ _ _ hw hk120 hP hS (lv_sub hl [2, 3, 4, 5, 6, 7, 0] rfl)
            · have hw := hw.2 c6
              refine lv_iload_n hx hb dX8_feed_58 rfl (lv_at hl 3 rfl) ?_
              refine lv_goto (tgt := 76) hx hb dX8_feed_59 (by decide) ?_
              refine lv_istore (lv' := [(7, .int z3), (0, .ref (q 0)), (1, .int z1), (2, .int z2), (3, .int z3), (4, .int z4), (5, .int z5), (6, .int y6)]) hx hb dX8_feed_76 hl (by decide) rfl (fun ls hl => ?_)
              refine lv_aload_n hx hb dX8_feed_78 rfl (lv_at hl 1 rfl) ?_
              refine va_get (D := D) (ci := 8) (C := RX8) (T := TX8) (N := 57) hx hb htb inX8 hown hK hP 0 (mw_0 c q σ) rfl 13 (by decide) (htb _ tb_1194) (fun _ h9 => h9) rfl dX8_feed_79 ?_
              refine lv_aload_n hx hb dX8_feed_82 rfl (lv_at hl 1 rfl) ?_
              refine va_get (D := D) (ci := 8) (C := RX8) (T := TX8) (N := 57) hx hb htb inX8 hown hK hP 0 (mw_0 c q σ) rfl 14 (by decide) (htb _ tb_1195) (fun _ h9 => h9) rfl dX8_feed_83 ?_
              refine lv_iload hx hb dX8_feed_86 (lv_at hl 0 rfl) ?_
              refine lv_bipush (v := (24 : Int32)) hx hb dX8_feed_88 (by decide) ?_
              refine lv_bipush (v := (8 : Int32)) hx hb dX8_feed_90 (by decide) ?_
              refine lv_iload hx hb dX8_feed_92 (lv_at hl 7 rfl) ?_
              refine lv_iconst (v := (4 : Int32)) hx hb dX8_feed_94 (by decide) ?_
              refine lv_irem hx hb dX8_feed_95 (by decide) ?_
              refine lv_imul hx hb dX8_feed_96 ?_
              refine lv_isub hx hb dX8_feed_97 ?_
              refine lv_ishr hx hb dX8_feed_98 ?_
              refine lv_sipush (v := (255 : Int32)) hx hb dX8_feed_99 (by decide) ?_
              refine lv_iand hx hb dX8_feed_102 ?_
              refine va_iast hx hb hK hP hD hS 12 11 (mw_12 c q σ) rfl hw.1 dX8_feed_103 (fun H locs hP hD hS => ?_)
              have hw := hw.2
              have hP : va_P D vwCl (mw c q (hsA σ 12 (upd (σ.2.1 12) (σ.1 14).toNatClampNeg ((z3 >>> (((24 : Int32) - ((8 : Int32) * (y6 - y6 / (4 : Int32) * (4 : Int32)))) &&& 31)) &&& (255 : Int32))))) H := hP
              obtain ⟨σ14, eσ14⟩ : ∃ z : hsS, z = hsA σ 12 (upd (σ.2.1 12) (σ.1 14).toNatClampNeg ((z3 >>> (((24 : Int32) - ((8 : Int32) * (y6 - y6 / (4 : Int32) * (4 : Int32)))) &&& 31)) &&& (255 : Int32))) := ⟨_, rfl⟩
              rw [← eσ14] at hP
              have hD : va_D (wdA 31 q) (mw c q σ14) := mw_D hD0
              have hw := hw σ14 eσ14
              refine lv_aload_n hx hb dX8_feed_104 rfl (lv_at hl 1 rfl) ?_
              refine lv_dup hx hb dX8_feed_105 rfl ?_
              refine va_get (D := D) (ci := 8) (C := RX8) (T := TX8) (N := 57) hx hb htb inX8 hown hK hP 0 (mw_0 c q σ14) rfl 14 (by decide) (htb _ tb_1195) (fun _ h9 => h9) rfl dX8_feed_106 ?_
              refine lv_iconst (v := (1 : Int32)) hx hb dX8_feed_109 (by decide) ?_
              refine lv_iadd hx hb dX8_feed_110 ?_
              refine va_put (D := D) (ci := 8) (ty := .int) (C := RX8) (T := TX8) (N := 57) hx hb htb inX8 tyX8 tyX8_ok nmX8 hown hK hP hD hS 0 (mw_0 c q σ14) rfl 14 (by decide) (htb _ tb_1195) (fun _ h9 => h9) rfl (by decide +kernel) rfl rfl (Nat.le_of_ble_eq_true rfl) dX8_feed_111 (fun H locs hP hD hS => ?_)
              have hP : va_P D vwCl (mw c q (hsI σ14 14 ((σ14.1 14) + (1 : Int32)))) H := hP
              obtain ⟨σ15, eσ15⟩ : ∃ z : hsS, z = hsI σ14 14 ((σ14.1 14) + (1 : Int32)) := ⟨_, rfl⟩
              rw [← eσ15] at hP
              have hD : va_D (wdA 31 q) (mw c q σ15) := mw_D hD0
              have hw := hw σ15 eσ15
              obtain ⟨v16, ev16⟩ : ∃ z : Int32, z = y6 + (1 : Int32) := ⟨_, rfl⟩
              have hw := hw v16 ev16
              refine lv_iinc (v := v16) (lv' := [(6, .int v16), (7, .int z3), (0, .ref (q 0)), (1, .int z1), (2, .int z2), (3, .int z3), (4, .int z4), (5, .int z5)]) hx hb dX8_feed_114 hl (k := 7) rfl (by rw [ev16]; rfl) (by decide) rfl (fun ls hl => ?_)
              refine lv_goto (tgt := 23) hx hb dX8_feed_117 (by decide) ?_
              exact ih v16 σ15 _ _ _ hw hk120 hP hS (lv_sub hl [2, 3, 4, 5, 6, 7, 0] rfl)
          · have hw := hw.2 c5
            refine lv_iload_n hx hb dX8_feed_47 rfl (lv_at hl 2 rfl) ?_
            refine lv_goto (tgt := 76) hx hb dX8_feed_48 (by decide) ?_
            refine lv_istore (lv' := [(7, .int z2), (0, .ref (q 0)), (1, .int z1), (2, .int z2), (3, .int z3), (4, .int z4), (5, .int z5), (6, .int y6)]) hx hb dX8_feed_76 hl (by decide) rfl (fun ls hl => ?_)
            refine lv_aload_n hx hb dX8_feed_78 rfl (lv_at hl 1 rfl) ?_
            refine va_get (D := D) (ci := 8) (C := RX8) (T := TX8) (N := 57) hx hb htb inX8 hown hK hP 0 (mw_0 c q σ) rfl 13 (by decide) (htb _ tb_1194) (fun _ h9 => h9) rfl dX8_feed_79 ?_
            refine lv_aload_n hx hb dX8_feed_82 rfl (lv_at hl 1 rfl) ?_
            refine va_get (D := D) (ci := 8) (C := RX8) (T := TX8) (N := 57) hx hb htb inX8 hown hK hP 0 (mw_0 c q σ) rfl 14 (by decide) (htb _ tb_1195) (fun _ h9 => h9) rfl dX8_feed_83 ?_
            refine lv_iload hx hb dX8_feed_86 (lv_at hl 0 rfl) ?_
            refine lv_bipush (v := (24 : Int32)) hx hb dX8_feed_88 (by decide) ?_
            refine lv_bipush (v := (8 : Int32)) hx hb dX8_feed_90 (by decide) ?_
            refine lv_iload hx hb dX8_feed_92 (lv_at hl 7 rfl) ?_
            refine lv_iconst (v := (4 : Int32)) hx hb dX8_feed_94 (by decide) ?_
            refine lv_irem hx hb dX8_feed_95 (by decide) ?_
            refine lv_imul hx hb dX8_feed_96 ?_
            refine lv_isub hx hb dX8_feed_97 ?_
            refine lv_ishr hx hb dX8_feed_98 ?_
            refine lv_sipush (v := (255 : Int32)) hx hb dX8_feed_99 (by decide) ?_
            refine lv_iand hx hb dX8_feed_102 ?_
            refine va_iast hx hb hK hP hD hS 12 11 (mw_12 c q σ) rfl hw.1 dX8_feed_103 (fun H locs hP hD hS => ?_)
            have hw := hw.2
            have hP : va_P D vwCl (mw c q (hsA σ 12 (upd (σ.2.1 12) (σ.1 14).toNatClampNeg ((z2 >>> (((24 : Int32) - ((8 : Int32) * (y6 - y6 / (4 : Int32) * (4 : Int32)))) &&& 31)) &&& (255 : Int32))))) H := hP
            obtain ⟨σ17, eσ17⟩ : ∃ z : hsS, z = hsA σ 12 (upd (σ.2.1 12) (σ.1 14).toNatClampNeg ((z2 >>> (((24 : Int32) - ((8 : Int32) * (y6 - y6 / (4 : Int32) * (4 : Int32)))) &&& 31)) &&& (255 : Int32))) := ⟨_, rfl⟩
            rw [← eσ17] at hP
            have hD : va_D (wdA 31 q) (mw c q σ17) := mw_D hD0
            have hw := hw σ17 eσ17
            refine lv_aload_n hx hb dX8_feed_104 rfl (lv_at hl 1 rfl) ?_
            refine lv_dup hx hb dX8_feed_105 rfl ?_
            refine va_get (D := D) (ci := 8) (C := RX8) (T := TX8) (N := 57) hx hb htb inX8 hown hK hP 0 (mw_0 c q σ17) rfl 14 (by decide) (htb _ tb_1195) (fun _ h9 => h9) rfl dX8_feed_106 ?_
            refine lv_iconst (v := (1 : Int32)) hx hb dX8_feed_109 (by decide) ?_
            refine lv_iadd hx hb dX8_feed_110 ?_
            refine va_put (D := D) (ci := 8) (ty := .int) (C := RX8) (T := TX8) (N := 57) hx hb htb inX8 tyX8 tyX8_ok nmX8 hown hK hP hD hS 0 (mw_0 c q σ17) rfl 14 (by decide) (htb _ tb_1195) (fun _ h9 => h9) rfl (by decide +kernel) rfl rfl (Nat.le_of_ble_eq_true rfl) dX8_feed_111 (fun H locs hP hD hS => ?_)
            have hP : va_P D vwCl (mw c q (hsI σ17 14 ((σ17.1 14) + (1 : Int32)))) H := hP
            obtain ⟨σ18, eσ18⟩ : ∃ z : hsS, z = hsI σ17 14 ((σ17.1 14) + (1 : Int32)) := ⟨_, rfl⟩
            rw [← eσ18] at hP
            have hD : va_D (wdA 31 q) (mw c q σ18) := mw_D hD0
            have hw := hw σ18 eσ18
            obtain ⟨v19, ev19⟩ : ∃ z : Int32, z = y6 + (1 : Int32) := ⟨_, rfl⟩
            have hw := hw v19 ev19
            refine lv_iinc (v := v19) (lv' := [(6, .int v19), (7, .int z2), (0, .ref (q 0)), (1, .int z1), (2, .int z2), (3, .int z3), (4, .int z4), (5, .int z5)]) hx hb dX8_feed_114 hl (k := 7) rfl (by rw [ev19]; rfl) (by decide) rfl (fun ls hl => ?_)
            refine lv_goto (tgt := 23) hx hb dX8_feed_117 (by decide) ?_
            exact ih v19 σ18 _ _ _ hw hk120 hP hS (lv_sub hl [2, 3, 4, 5, 6, 7, 0] rfl)
        · have hw := hw.2 c4
          refine lv_iload_n hx hb dX8_feed_36 rfl (lv_at hl 1 rfl) ?_
          refine lv_goto (tgt := 76) hx hb dX8_feed_37 (by decide) ?_
          refine lv_istore (lv' := [(7, .int z1), (0, .ref (q 0)), (1, .int z1), (2, .int z2), (3, .int z3), (4, .int z4), (5, .int z5), (6, .int y6)]) hx hb dX8_feed_76 hl (by decide) rfl (fun ls hl => ?_)
          refine lv_aload_n hx hb dX8_feed_78 rfl (lv_at hl 1 rfl) ?_
          refine va_get (D := D) (ci := 8) (C := RX8) (T := TX8) (N := 57) hx hb htb inX8 hown hK hP 0 (mw_0 c q σ) rfl 13 (by decide) (htb _ tb_1194) (fun _ h9 => h9) rfl dX8_feed_79 ?_
          refine lv_aload_n hx hb dX8_feed_82 rfl (lv_at hl 1 rfl) ?_
          refine va_get (D := D) (ci := 8) (C := RX8) (T := TX8) (N := 57) hx hb htb inX8 hown hK hP 0 (mw_0 c q σ) rfl 14 (by decide) (htb _ tb_1195) (fun _ h9 => h9) rfl dX8_feed_83 ?_
          refine lv_iload hx hb dX8_feed_86 (lv_at hl 0 rfl) ?_
          refine lv_bipush (v := (24 : Int32)) hx hb dX8_feed_88 (by decide) ?_
          refine lv_bipush (v := (8 : Int32)) hx hb dX8_feed_90 (by decide) ?_
          refine lv_iload hx hb dX8_feed_92 (lv_at hl 7 rfl) ?_
          refine lv_iconst (v := (4 : Int32)) hx hb dX8_feed_94 (by decide) ?_
          refine lv_irem hx hb dX8_feed_95 (by decide) ?_
          refine lv_imul hx hb dX8_feed_96 ?_
          refine lv_isub hx hb dX8_feed_97 ?_
          refine lv_ishr hx hb dX8_feed_98 ?_
          refine lv_sipush (v := (255 : Int32)) hx hb dX8_feed_99 (by decide) ?_
          refine lv_iand hx hb dX8_feed_102 ?_
          refine va_iast hx hb hK hP hD hS 12 11 (mw_12 c q σ) rfl hw.1 dX8_feed_103 (fun H locs hP hD hS => ?_)
          have hw := hw.2
          have hP : va_P D vwCl (mw c q (hsA σ 12 (upd (σ.2.1 12) (σ.1 14).toNatClampNeg ((z1 >>> (((24 : Int32) - ((8 : Int32) * (y6 - y6 / (4 : Int32) * (4 : Int32)))) &&& 31)) &&& (255 : Int32))))) H := hP
          obtain ⟨σ20, eσ20⟩ : ∃ z : hsS, z = hsA σ 12 (upd (σ.2.1 12) (σ.1 14).toNatClampNeg ((z1 >>> (((24 : Int32) - ((8 : Int32) * (y6 - y6 / (4 : Int32) * (4 : Int32)))) &&& 31)) &&& (255 : Int32))) := ⟨_, rfl⟩
          rw [← eσ20] at hP
          have hD : va_D (wdA 31 q) (mw c q σ20) := mw_D hD0
          have hw := hw σ20 eσ20
          refine lv_aload_n hx hb dX8_feed_104 rfl (lv_at hl 1 rfl) ?_
          refine lv_dup hx hb dX8_feed_105 rfl ?_
          refine va_get (D := D) (ci := 8) (C := RX8) (T := TX8) (N := 57) hx hb htb inX8 hown hK hP 0 (mw_0 c q σ20) rfl 14 (by decide) (htb _ tb_1195) (fun _ h9 => h9) rfl dX8_feed_106 ?_
          refine lv_iconst (v := (1 : Int32)) hx hb dX8_feed_109 (by decide) ?_
          refine lv_iadd hx hb dX8_feed_110 ?_
          refine va_put (D := D) (ci := 8) (ty := .int) (C := RX8) (T := TX8) (N := 57) hx hb htb inX8 tyX8 tyX8_ok nmX8 hown hK hP hD hS 0 (mw_0 c q σ20) rfl 14 (by decide) (htb _ tb_1195) (fun _ h9 => h9) rfl (by decide +kernel) rfl rfl (Nat.le_of_ble_eq_true rfl) dX8_feed_111 (fun H locs hP hD hS => ?_)
          have hP : va_P D vwCl (mw c q (hsI σ20 14 ((σ20.1 14) + (1 : Int32)))) H := hP
          obtain ⟨σ21, eσ21⟩ : ∃ z : hsS, z = hsI σ20 14 ((σ20.1 14) + (1 : Int32)) := ⟨_, rfl⟩
          rw [← eσ21] at hP
          have hD : va_D (wdA 31 q) (mw c q σ21) := mw_D hD0
          have hw := hw σ21 eσ21
          obtain ⟨v22, ev22⟩ : ∃ z : Int32, z = y6 + (1 : Int32) := ⟨_, rfl⟩
          have hw := hw v22 ev22
          refine lv_iinc (v := v22) (lv' := [(6, .int v22), (7, .int z1), (0, .ref (q 0)), (1, .int z1), (2, .int z2), (3, .int z3), (4, .int z4), (5, .int z5)]) hx hb dX8_feed_114 hl (k := 7) rfl (by rw [ev22]; rfl) (by decide) rfl (fun ls hl => ?_)
          refine lv_goto (tgt := 23) hx hb dX8_feed_117 (by decide) ?_
          exact ih v22 σ21 _ _ _ hw hk120 hP hS (lv_sub hl [2, 3, 4, 5, 6, 7, 0] rfl)
  have hl := lv_entry ([.ref (q 0), .int x1, .int x2, .int x3, .int x4, .int x5]) (n := 8) (Nat.le_of_ble_eq_true rfl)
  rw [lg_entry_eq]
  generalize (lg_sl ([.ref (q 0), .int x1, .int x2, .int x3, .int x4, .int x5]) ++ List.replicate (8 - (lg_sl ([.ref (q 0), .int x1, .int x2, .int x3, .int x4, .int x5])).length) Slot.unset).toArray = ls at hl ⊢
  have hl : lv_has ls 8 [(0, .ref (q 0)), (1, .int x1), (2, .int x2), (3, .int x3), (4, .int x4), (5, .int x5)] := hl
  unfold wX8_feed at hw
  refine lv_aload_n hx hb dX8_feed_0 rfl (lv_at hl 0 rfl) ?_
  refine lv_iconst (v := (0 : Int32)) hx hb dX8_feed_1 (by decide) ?_
  refine va_put (D := D) (ci := 8) (ty := .int) (C := RX8) (T := TX8) (N := 57) hx hb htb inX8 tyX8 tyX8_ok nmX8 hown hK hP hD hS 0 (mw_0 c q σ) rfl 0 (by decide) (htb _ tb_1181) (fun _ h9 => h9) rfl (by decide +kernel) rfl rfl (Nat.le_of_ble_eq_true rfl) dX8_feed_2 (fun H locs hP hD hS => ?_)
  have hP : va_P D vwCl (mw c q (hsI σ 0 (0 : Int32))) H := hP
  obtain ⟨σ1, eσ1⟩ : ∃ z : hsS, z = hsI σ 0 (0 : Int32) := ⟨_, rfl⟩
  rw [← eσ1] at hP
  have hD : va_D (wdA 31 q) (mw c q σ1) := mw_D hD0
  have hw := hw σ1 eσ1
  refine lv_aload_n hx hb dX8_feed_5 rfl (lv_at hl 0 rfl) ?_
  refine va_get (D := D) (ci := 8) (C := RX8) (T := TX8) (N := 57) hx hb htb inX8 hown hK hP 0 (mw_0 c q σ1) rfl 14 (by decide) (htb _ tb_1195) (fun _ h9 => h9) rfl dX8_feed_6 ?_
  refine lv_bipush (v := (20 : Int32)) hx hb dX8_feed_9 (by decide) ?_
  refine lv_iadd hx hb dX8_feed_11 ?_
  refine lv_sipush (v := (600 : Int32)) hx hb dX8_feed_12 (by decide) ?_
  refine lv_icmp_le (tgt := 20) hx hb dX8_feed_15 (by decide) (fun c2 => ?_) (fun c2 => ?_)
  · have hw := hw.1 c2
    refine lv_iconst (v := (0 : Int32)) hx hb dX8_feed_20 (by decide) ?_
    refine lv_istore (lv' := [(6, .int (0 : Int32)), (0, .ref (q 0)), (1, .int x1), (2, .int x2), (3, .int x3), (4, .int x4), (5, .int x5)]) hx hb dX8_feed_21 hl (by decide) rfl (fun ls hl => ?_)
    obtain ⟨n23, hw⟩ := hw
    refine L23 _ x1 x2 x3 x4 x5 n23 (0 : Int32) σ1 _ _ _ hw ?_ hP hS (lv_sub hl [1, 2, 3, 4, 5, 6, 0] rfl)
    intro v24 σ25 H locs ls hw hP hS hl
    have hD : va_D (wdA 31 q) (mw c q σ25) := mw_D hD0
    refine lv_aload_n hx hb dX8_feed_120 rfl (lv_at hl 0 rfl) ?_
    refine va_get (D := D) (ci := 8) (C := RX8) (T := TX8) (N := 57) hx hb htb inX8 hown hK hP 0 (mw_0 c q σ25) rfl 14 (by decide) (htb _ tb_1195) (fun _ h9 => h9) rfl dX8_feed_121 ?_
    exact W.iret hx hb hr (fun t ht hW => ⟨⟨_, σ25, rfl, hw, by unfold wdB; rw [ht]; exact hP⟩, hS.F ht⟩) hS.2.2 dX8_feed_124
  · have hw := hw.2 c2
    refine lv_iconst (v := (-1 : Int32)) hx hb dX8_feed_18 (by decide) ?_
    exact W.iret hx hb hr (fun t ht hW => ⟨⟨_, σ1, rfl, hw, by unfold wdB; rw [ht]; exact hP⟩, hS.F ht⟩) hS.2.2 dX8_feed_19
def wX8_byteAt (x1 : Int32) (post : Int32 → hsS → Prop) (σ : hsS) : Prop := (((σ.1 16) ≤ x1 → post (-1 : Int32) σ) ∧ (¬ (σ.1 16) ≤ x1 → vp_in x1 600 ∧ post (σ.2.1 12 x1.toNatClampNeg) σ))
set_option maxHeartbeats 4000000 in
set_option maxRecDepth 100000 in
theorem kcX8_byteAt (l : Launch) (D : va_G) (c : Nat → ClassId) (q : Nat → Nat) (ev : State → Heap → Prop) (hev : evOK (wdA 31 q) ev) (σ : hsS) (x1 : Int32) (post : Int32 → hsS → Prop) (hw : wX8_byteAt x1 post σ) : Met l yX8_byteAt (Cond.code yX8_byteAt cX8_byteAt 2 (some .int) :: tb_L) { frames := 0, cells := 0, slots := 0, locals := 0 } (wdPc D (mw c q) (mwT c) (wdA 31 q) ev σ [.ref (q 0), .int x1]) (va_Qi post (wdB D (mw c q)) (wdA 31 q)) 0 0 (wdA 31 q) := by
  refine Met.ofW (cc := cX8_byteAt) (maxL := 2) (ret := (some .int)) (by decide) rfl ?_
  intro p e s m args below meth c₀ s₁ Bd hml hv
  obtain ⟨rfl, hP, hK, hD0, hE⟩ := hv
  have hx := Bd.exec
  have hb := Bd.bytes
  have hr := Bd.returns
  have hts := atoms_spec (ws := Cond.code yX8_byteAt cX8_byteAt 2 (some .int) :: tb_L) Bd.pre
  have htb : ∀ w ∈ tb_L, w.before [.ref (q 0), .int x1].toArray s = true := fun w h => hts w (List.mem_cons_of_mem _ h)
  have hown : s.vm.findClass RX8 = some m.cls := findClass_of_methodNamed Bd.named
  have hlocks := Bd.notSynchronized
  have hS : va_S (wdA 31 q) s.heap s.heap [] := va_S.rf
  have hD := hD0
  have hl := lv_entry ([.ref (q 0), .int x1]) (n := 2) (Nat.le_of_ble_eq_true rfl)
  rw [lg_entry_eq]
  generalize (lg_sl ([.ref (q 0), .int x1]) ++ List.replicate (2 - (lg_sl ([.ref (q 0), .int x1])).length) Slot.unset).toArray = ls at hl ⊢
  have hl : lv_has ls 2 [(0, .ref (q 0)), (1, .int x1)] := hl
  unfold wX8_byteAt at hw
  refine lv_iload_n hx hb dX8_byteAt_0 rfl (lv_at hl 1 rfl) ?_
  refine lv_aload_n hx hb dX8_byteAt_1 rfl (lv_at hl 0 rfl) ?_
  refine va_get (D := D) (ci := 8) (C := RX8) (T := TX8) (N := 57) hx hb htb inX8 hown hK hP 0 (mw_0 c q σ) rfl 16 (by decide) (htb _ tb_1197) (fun _ h9 => h9) rfl dX8_byteAt_2 ?_
  refine lv_icmp_ge (tgt := 17) hx hb dX8_byteAt_5 (by decide) (fun c1 => ?_) (fun c1 => ?_)
  · have hw := hw.1 c1
    refine lv_iconst (v := (-1 : Int32)) hx hb dX8_byteAt_17 (by decide) ?_
    exact W.iret hx hb hr (fun t ht hW => ⟨⟨_, σ, rfl, hw, by unfold wdB; rw [ht]; exact hP⟩, hS.F ht⟩) hS.2.2 dX8_byteAt_18
  · have hw := hw.2 c1
    refine lv_aload_n hx hb dX8_byteAt_8 rfl (lv_at hl 0 rfl) ?_
    refine va_get (D := D) (ci := 8) (C := RX8) (T := TX8) (N := 57) hx hb htb inX8 hown hK hP 0 (mw_0 c q σ) rfl 13 (by decide) (htb _ tb_1194) (fun _ h9 => h9) rfl dX8_byteAt_9 ?_
    refine lv_iload_n hx hb dX8_byteAt_12 rfl (lv_at hl 1 rfl) ?_
    refine va_iald hx hb hK hP 12 11 (mw_12 c q σ) rfl hw.1 dX8_byteAt_13 ?_
    have hw := hw.2
    refine lv_goto (tgt := 18) hx hb dX8_byteAt_14 (by decide) ?_
    exact W.iret hx hb hr (fun t ht hW => ⟨⟨_, σ, rfl, hw, by unfold wdB; rw [ht]; exact hP⟩, hS.F ht⟩) hS.2.2 dX8_byteAt_18
def wX8_isLetter (x0 : Int32) (post : Int32 → hsS → Prop) (σ : hsS) : Prop := ((x0 < (97 : Int32) → post (0 : Int32) σ) ∧ (¬ x0 < (97 : Int32) → (((122 : Int32) < x0 → post (0 : Int32) σ) ∧ (¬ (122 : Int32) < x0 → post (1 : Int32) σ))))
set_option maxHeartbeats 4000000 in
set_option maxRecDepth 100000 in
theorem kcX8_isLetter_m (l : Launch) (D : va_G) (c : Nat → ClassId) (q : Nat → Nat) (ev : State → Heap → Prop) (hev : evOK (wdA 31 q) ev) (σ : hsS) (x0 : Int32) (post : Int32 → hsS → Prop) (hw : wX8_isLetter x0 post σ) : Met l yX8_isLetter (Cond.code yX8_isLetter cX8_isLetter 1 (some .boolean) :: tb_L) { frames := 0, cells := 0, slots := 0, locals := 0 } (wdPc D (mw c q) (mwT c) (wdA 31 q) ev σ [.int x0]) (va_Qi post (wdB D (mw c q)) (wdA 31 q)) 0 0 (wdA 31 q) := by
  refine Met.ofW (cc := cX8_isLetter) (maxL := 1) (ret := (some .boolean)) (by decide) rfl ?_
  intro p e s m args below meth c₀ s₁ Bd hml hv
  obtain ⟨rfl, hP, hK, hD0, hE⟩ := hv
  have hx := Bd.exec
  have hb := Bd.bytes
  have hr := Bd.returns
  have hts := atoms_spec (ws := Cond.code yX8_isLetter cX8_isLetter 1 (some .boolean) :: tb_L) Bd.pre
  have htb : ∀ w ∈ tb_L, w.before [.int x0].toArray s = true := fun w h => hts w (List.mem_cons_of_mem _ h)
  have hown : s.vm.findClass RX8 = some m.cls := findClass_of_methodNamed Bd.named
  have hlocks := Bd.notSynchronized
  have hS : va_S (wdA 31 q) s.heap s.heap [] := va_S.rf
  have hD := hD0
  have hl := lv_entry ([.int x0]) (n := 1) (Nat.le_of_ble_eq_true rfl)
  rw [lg_entry_eq]
  generalize (lg_sl ([.int x0]) ++ List.replicate (1 - (lg_sl ([.int x0])).length) Slot.unset).toArray = ls at hl ⊢
  have hl : lv_has ls 1 [(0, .int x0)] := hl
  unfold wX8_isLetter at hw
  refine lv_iload_n hx hb dX8_isLetter_0 rfl (lv_at hl 0 rfl) ?_
  refine lv_bipush (v := (97 : Int32)) hx hb dX8_isLetter_1 (by decide) ?_
  refine lv_icmp_lt (tgt := 16) hx hb dX8_isLetter_3 (by decide) (fun c1 => ?_) (fun c1 => ?_)
  · have hw := hw.1 c1
    refine lv_iconst (v := (0 : Int32)) hx hb dX8_isLetter_16 (by decide) ?_
    exact W.zret hx hb hr rfl (fun t ht hW => ⟨⟨_, σ, rfl, hw, by unfold wdB; rw [ht]; exact hP⟩, hS.F ht⟩) hS.2.2 dX8_isLetter_17
  · have hw := hw.2 c1
    refine lv_iload_n hx hb dX8_isLetter_6 rfl (lv_at hl 0 rfl) ?_
    refine lv_bipush (v := (122 : Int32)) hx hb dX8_isLetter_7 (by decide) ?_
    refine lv_icmp_gt (tgt := 16) hx hb dX8_isLetter_9 (by decide) (fun c2 => ?_) (fun c2 => ?_)
    · have hw := hw.1 c2
      refine lv_iconst (v := (0 : Int32)) hx hb dX8_isLetter_16 (by decide) ?_
      exact W.zret hx hb hr rfl (fun t ht hW => ⟨⟨_, σ, rfl, hw, by unfold wdB; rw [ht]; exact hP⟩, hS.F ht⟩) hS.2.2 dX8_isLetter_17
    · have hw := hw.2 c2
      refine lv_iconst (v := (1 : Int32)) hx hb dX8_isLetter_12 (by decide) ?_
      refine lv_goto (tgt := 17) hx hb dX8_isLetter_13 (by decide) ?_
      exact W.zret hx hb hr rfl (fun t ht hW => ⟨⟨_, σ, rfl, hw, by unfold wdB; rw [ht]; exact hP⟩, hS.F ht⟩) hS.2.2 dX8_isLetter_17
def wX8_isDigit (x0 : Int32) (post : Int32 → hsS → Prop) (σ : hsS) : Prop := ((x0 < (48 : Int32) → post (0 : Int32) σ) ∧ (¬ x0 < (48 : Int32) → (((57 : Int32) < x0 → post (0 : Int32) σ) ∧ (¬ (57 : Int32) < x0 → post (1 : Int32) σ))))
set_option maxHeartbeats 4000000 in
set_option maxRecDepth 100000 in
theorem kcX8_isDigit_m (l : Launch) (D : va_G) (c : Nat → ClassId) (q : Nat → Nat) (ev : State → Heap → Prop) (hev : evOK (wdA 31 q) ev) (σ : hsS) (x0 : Int32) (post : Int32 → hsS → Prop) (hw : wX8_isDigit x0 post σ) : Met l yX8_isDigit (Cond.code yX8_isDigit cX8_isDigit 1 (some .boolean) :: tb_L) { frames := 0, cells := 0, slots := 0, locals := 0 } (wdPc D (mw c q) (mwT c) (wdA 31 q) ev σ [.int x0]) (va_Qi post (wdB D (mw c q)) (wdA 31 q)) 0 0 (wdA 31 q) := by
  refine Met.ofW (cc := cX8_isDigit) (maxL := 1) (ret := (some .boolean)) (by decide) rfl ?_
  intro p e s m args below meth c₀ s₁ Bd hml hv
  obtain ⟨rfl, hP, hK, hD0, hE⟩ := hv
  have hx := Bd.exec
  have hb := Bd.bytes
  have hr := Bd.returns
  have hts := atoms_spec (ws := Cond.code yX8_isDigit cX8_isDigit 1 (some .boolean) :: tb_L) Bd.pre
  have htb : ∀ w ∈ tb_L, w.before [.int x0].toArray s = true := fun w h => hts w (List.mem_cons_of_mem _ h)
  have hown : s.vm.findClass RX8 = some m.cls := findClass_of_methodNamed Bd.named
  have hlocks := Bd.notSynchronized
  have hS : va_S (wdA 31 q) s.heap s.heap [] := va_S.rf
  have hD := hD0
  have hl := lv_entry ([.int x0]) (n := 1) (Nat.le_of_ble_eq_true rfl)
  rw [lg_entry_eq]
  generalize (lg_sl ([.int x0]) ++ List.replicate (1 - (lg_sl ([.int x0])).length) Slot.unset).toArray = ls at hl ⊢
  have hl : lv_has ls 1 [(0, .int x0)] := hl
  unfold wX8_isDigit at hw
  refine lv_iload_n hx hb dX8_isDigit_0 rfl (lv_at hl 0 rfl) ?_
  refine lv_bipush (v := (48 : Int32)) hx hb dX8_isDigit_1 (by decide) ?_
  refine lv_icmp_lt (tgt := 16) hx hb dX8_isDigit_3 (by decide) (fun c1 => ?_) (fun c1 => ?_)
  · have hw := hw.1 c1
    refine lv_iconst (v := (0 : Int32)) hx hb dX8_isDigit_16 (by decide) ?_
    exact W.zret hx hb hr rfl (fun t ht hW => ⟨⟨_, σ, rfl, hw, by unfold wdB; rw [ht]; exact hP⟩, hS.F ht⟩) hS.2.2 dX8_isDigit_17
  · have hw := hw.2 c1
    refine lv_iload_n hx hb dX8_isDigit_6 rfl (lv_at hl 0 rfl) ?_
    refine lv_bipush (v := (57 : Int32)) hx hb dX8_isDigit_7 (by decide) ?_
    refine lv_icmp_gt (tgt := 16) hx hb dX8_isDigit_9 (by decide) (fun c2 => ?_) (fun c2 => ?_)
    · have hw := hw.1 c2
      refine lv_iconst (v := (0 : Int32)) hx hb dX8_isDigit_16 (by decide) ?_
      exact W.zret hx hb hr rfl (fun t ht hW => ⟨⟨_, σ, rfl, hw, by unfold wdB; rw [ht]; exact hP⟩, hS.F ht⟩) hS.2.2 dX8_isDigit_17
    · have hw := hw.2 c2
      refine lv_iconst (v := (1 : Int32)) hx hb dX8_isDigit_12 (by decide) ?_
      refine lv_goto (tgt := 17) hx hb dX8_isDigit_13 (by decide) ?_
      exact W.zret hx hb hr rfl (fun t ht hW => ⟨⟨_, σ, rfl, hw, by unfold wdB; rw [ht]; exact hP⟩, hS.F ht⟩) hS.2.2 dX8_isDigit_17
def wX8_step_L0 (K39 : hsS → Prop) (post : hsS → Prop) : Nat → hsS → Prop
  | 0, _ => False
  | n + 1, σ => wX8_byteAt (σ.1 15) (fun r1 σ2 => ((r1 = (32 : Int32) → ∀ σ4 : hsS, σ4 = hsI σ2 15 ((σ2.1 15) + (1 : Int32)) → wX8_step_L0  K39 post n σ4) ∧ (¬ r1 = (32 : Int32) → wX8_byteAt (σ2.1 15) (fun r5 σ6 => ((r5 = (10 : Int32) → ∀ σ8 : hsS, σ8 = hsI σ6 15 ((σ6.1 15) + (1 : Int32)) → wX8_step_L0  K39 post n σ8) ∧ (¬ r5 = (10 : Int32) → K39 σ6))) σ2))) σ
def wX8_step_L123 (z1 : Int32) (K179 : hsS → Prop) (post : hsS → Prop) : Nat → hsS → Prop
  | 0, _ => False
  | n + 1, σ => wX8_byteAt (σ.1 15) (fun r30 σ31 => wX8_isDigit r30 (fun r32 σ33 => ((r32 = (0 : Int32) → K179 σ33) ∧ (¬ r32 = (0 : Int32) → wX8_byteAt (σ33.1 15) (fun r35 σ36 => ∀ σ37 : hsS, σ37 = hsI σ36 18 (if ((((10 : Int32) * (σ33.1 18)) + r35) - (48 : Int32)) < (10000 : Int32) then ((((10 : Int32) * (σ33.1 18)) + r35) - (48 : Int32)) else (10000 : Int32)) → ∀ σ38 : hsS, σ38 = hsI σ37 15 ((σ37.1 15) + (1 : Int32)) → wX8_step_L123 z1 K179 post n σ38) σ33))) σ31) σ
def wX8_step_L76 (z1 : Int32) (K103 : hsS → Prop) (post : hsS → Prop) : Nat → hsS → Prop
  | 0, _ => False
  | n + 1, σ => wX8_byteAt (σ.1 15) (fun r43 σ44 => wX8_isLetter r43 (fun r45 σ46 => ((r45 = (0 : Int32) → K103 σ46) ∧ (¬ r45 = (0 : Int32) → ∀ σ48 : hsS, σ48 = hsI σ46 15 ((σ46.1 15) + (1 : Int32)) → wX8_step_L76 z1 K103 post n σ48))) σ44) σ
def wX8_step  (post : hsS → Prop) (σ : hsS) : Prop := ∃ n9, wX8_step_L0  (fun σ10 => ∀ σ11 : hsS, σ11 = hsI σ10 19 (σ10.1 15) → wX8_byteAt (σ11.1 15) (fun r12 σ13 => ((r12 = (-1 : Int32) → ∀ σ15 : hsS, σ15 = hsI σ13 17 (0 : Int32) → ∀ σ16 : hsS, σ16 = hsI σ15 20 (σ15.1 15) → post σ16) ∧ (¬ r12 = (-1 : Int32) → wX8_isLetter r12 (fun r17 σ18 => ((r17 = (0 : Int32) → wX8_isDigit r12 (fun r20 σ21 => ((r20 = (0 : Int32) → ∀ σ23 : hsS, σ23 = hsI σ21 15 ((σ21.1 15) + (1 : Int32)) → ((r12 = (59 : Int32) → ∀ σ25 : hsS, σ25 = hsI σ23 17 (3 : Int32) → ∀ σ26 : hsS, σ26 = hsI σ25 20 (σ25.1 15) → post σ26) ∧ (¬ r12 = (59 : Int32) → ∀ σ27 : hsS, σ27 = hsI σ23 17 (4 : Int32) → ∀ σ28 : hsS, σ28 = hsI σ27 20 (σ27.1 15) → post σ28))) ∧ (¬ r20 = (0 : Int32) → ∀ σ29 : hsS, σ29 = hsI σ21 18 (0 : Int32) → ∃ n39, wX8_step_L123 r12 (fun σ40 => ∀ σ41 : hsS, σ41 = hsI σ40 17 (2 : Int32) → ∀ σ42 : hsS, σ42 = hsI σ41 20 (σ41.1 15) → post σ42) post n39  σ29))) σ18) ∧ (¬ r17 = (0 : Int32) → ∃ n49, wX8_step_L76 r12 (fun σ50 => ∀ σ51 : hsS, σ51 = hsI σ50 17 (1 : Int32) → ∀ σ52 : hsS, σ52 = hsI σ51 20 (σ51.1 15) → post σ52) post n49  σ18))) σ13))) σ11) post n9  σ
set_option maxHeartbeats 4000000 in
set_option maxRecDepth 100000 in
theorem kcX8_step (l : Launch) (D : va_G) (c : Nat → ClassId) (q : Nat → Nat) (ev : State → Heap → Prop) (hev : evOK (wdA 31 q) ev) (σ : hsS)  (post : hsS → Prop) (hw : wX8_step  post σ) : Met l yX8_step (Cond.code yX8_step cX8_step 2 none :: tb_L) { frames := 1, cells := 0, slots := 0, locals := 40 } (wdPc D (mw c q) (mwT c) (wdA 31 q) ev σ [.ref (q 0)]) (va_Qv post (wdB D (mw c q)) (wdA 31 q)) 0 0 (wdA 31 q) := by
  refine Met.ofW (cc := cX8_step) (maxL := 2) (ret := none) (by decide) rfl ?_
  intro p e s m args below meth c₀ s₁ Bd hml hv
  obtain ⟨rfl, hP, hK, hD0, hE⟩ := hv
  have hx := Bd.exec
  have hb := Bd.bytes
  have hr := Bd.returns
  have hts := atoms_spec (ws := Cond.code yX8_step cX8_step 2 none :: tb_L) Bd.pre
  have htb : ∀ w ∈ tb_L, w.before [.ref (q 0)].toArray s = true := fun w h => hts w (List.mem_cons_of_mem _ h)
  have hown : s.vm.findClass RX8 = some m.cls := findClass_of_methodNamed Bd.named
  have hlocks := Bd.notSynchronized
  have hS : va_S (wdA 31 q) s.heap s.heap [] := va_S.rf
  have hD := hD0
  have L0 : ∀ (K39 : hsS → Prop) (n : Nat) (σ : hsS) (H : Heap) (locs : List Loc) (ls : Array Slot), wX8_step_L0  K39 post n σ → (∀ (σ : hsS) (H : Heap) (locs : List Loc) (ls : Array Slot), K39 σ → va_P D vwCl (mw c q σ) H → va_S (wdA 31 q) s.heap H locs → lv_has ls 2 [(0, .ref (q 0))] → W p l e (headSpec (Cond.code yX8_step cX8_step 2 none :: tb_L) { frames := 1, cells := 0, slots := 0, locals := 40 }).room s m [.ref (q 0)].toArray below meth c₀ H locs 0 0 (MQ below (va_Qv post (wdB D (mw c q)) (wdA 31 q)) [.ref (q 0)].toArray s 0 0 (wdA 31 q)) (F0 m 39 ls [])) → va_P D vwCl (mw c q σ) H → va_S (wdA 31 q) s.heap H locs → lv_has ls 2 [(0, .ref (q 0))] → W p l e (headSpec (Cond.code yX8_step cX8_step 2 none :: tb_L) { frames := 1, cells := 0, slots := 0, locals := 40 }).room s m [.ref (q 0)].toArray below meth c₀ H locs 0 0 (MQ below (va_Qv post (wdB D (mw c q)) (wdA 31 q)) [.ref (q 0)].toArray s 0 0 (wdA 31 q)) (F0 m 0 ls []) := by
    intro K39 n
    induction n with
    | zero =>
      intro σ H locs ls hw hk39 hP hS hl
      exact (show False from hw).elim
    | succ n ih =>
      intro σ H locs ls hw hk39 hP hS hl
      rw [wX8_step_L0] at hw
      have hD : va_D (wdA 31 q) (mw c q σ) := mw_D hD0
      refine lv_aload_n hx hb dX8_step_0 rfl (lv_at hl 0 rfl) ?_
      refine lv_aload_n hx hb dX8_step_1 rfl (lv_at hl 0 rfl) ?_
      refine va_get (D := D) (ci := 8) (C := RX8) (T := TX8) (N := 57) hx hb htb inX8 hown hK hP 0 (mw_0 c q σ) rfl 15 (by decide) (htb _ tb_1196) (fun _ h9 => h9) rfl dX8_step_2 ?_
      refine va_calli (va_runV (As := [.int (σ.1 15)]) (rest := []) ⟨hx, hb, hml, hown, htb⟩ (kcX8_byteAt l D c q ev hev σ (σ.1 15) _ hw) (tb_CW htb kX8_byteAt tb_1374 tb_1376 tb_44 ⟨Nat.le_of_ble_eq_true rfl, Nat.le_of_ble_eq_true rfl⟩) (wd_preV (wd := mw c q) (k := 0) hev hK hP hD hE hS (mw_0 c q σ) rfl) rfl rfl hl.1 rfl (lv_room (Nat.le_of_ble_eq_true rfl)) dX8_step_5 ⟨Nat.zero_le _, Nat.zero_le _⟩) hS (fun q _ h => h) (fun q h => h) (fun r1 σ2 t H1 locs1 ht hvm hw hB hz1 hk1 hS => ?_)
      have hP : va_P D vwCl (mw c q σ2) H1 := ht ▸ hB
      have hD : va_D (wdA 31 q) (mw c q σ2) := mw_D hD0
      refine lv_bipush (v := (32 : Int32)) hx hb dX8_step_8 (by decide) ?_
      refine lv_icmp_eq (tgt := 26) hx hb dX8_step_10 (by decide) (fun c3 => ?_) (fun c3 => ?_)
      · have hw := hw.1 c3
        refine lv_aload_n hx hb dX8_step_26 rfl (lv_at hl 0 rfl) ?_
        refine lv_dup hx hb dX8_step_27 rfl ?_
        refine va_get (D := D) (ci := 8) (C := RX8) (T := TX8) (N := 57) hx hb htb inX8 hown hK hP 0 (mw_0 c q σ2) rfl 15 (by decide) (htb _ tb_1196) (fun _ h9 => h9) rfl dX8_step_28 ?_
        refine lv_iconst (v := (1 : Int32)) hx hb dX8_step_31 (by decide) ?_
        refine lv_iadd hx hb dX8_step_32 ?_
        refine va_put (D := D) (ci := 8) (ty := .int) (C := RX8) (T := TX8) (N := 57) hx hb htb inX8 tyX8 tyX8_ok nmX8 hown hK hP hD hS 0 (mw_0 c q σ2) rfl 15 (by decide) (htb _ tb_1196) (fun _ h9 => h9) rfl (by decide +kernel) rfl rfl (Nat.le_of_ble_eq_true rfl) dX8_step_33 (fun H locs hP hD hS => ?_)
        have hP : va_P D vwCl (mw c q (hsI σ2 15 ((σ2.1 15) + (1 : Int32)))) H := hP
        obtain ⟨σ4, eσ4⟩ : ∃ z : hsS, z = hsI σ2 15 ((σ2.1 15) + (1 : Int32)) := ⟨_, rfl⟩
        rw [← eσ4] at hP
        have hD : va_D (wdA 31 q) (mw c q σ4) := mw_D hD0
        have hw := hw σ4 eσ4
        refine lv_goto (tgt := 0) hx hb dX8_step_36 (by decide) ?_
        exact ih  σ4 _ _ _ hw hk39 hP hS (lv_sub hl [0] rfl)
      · have hw := hw.2 c3
        refine lv_aload_n hx hb dX8_step_13 rfl (lv_at hl 0 rfl) ?_
        refine lv_aload_n hx hb dX8_step_14 rfl (lv_at hl 0 rfl) ?_
        refine va_get (D := D) (ci := 8) (C := RX8) (T := TX8) (N := 57) hx hb htb inX8 hown hK hP 0 (mw_0 c q σ2) rfl 15 (by decide) (htb _ tb_1196) (fun _ h9 => h9) rfl dX8_step_15 ?_
        refine va_calli (va_runV (As := [.int (σ2.1 15)]) (rest := []) ⟨hx, hb, hml, hown, htb⟩ (kcX8_byteAt l D c q ev hev σ2 (σ2.1 15) _ hw) (tb_CW htb kX8_byteAt tb_1374 tb_1376 tb_44 ⟨Nat.le_of_ble_eq_true rfl, Nat.le_of_ble_eq_true rfl⟩) (wd_preV (wd := mw c q) (k := 0) hev hK hP hD hE hS (mw_0 c q σ2) rfl) rfl rfl hl.1 rfl (lv_room (Nat.le_of_ble_eq_true rfl)) dX8_step_18 ⟨Nat.zero_le _, Nat.zero_le _⟩) hS (fun q _ h => h) (fun q h => h) (fun r5 σ6 t H1 locs1 ht hvm hw hB hz1 hk1 hS => ?_)
        have hP : va_P D vwCl (mw c q σ6) H1 := ht ▸ hB
        have hD : va_D (wdA 31 q) (mw c q σ6) := mw_D hD0
        refine lv_bipush (v := (10 : Int32)) hx hb dX8_step_21 (by decide) ?_
        refine lv_icmp_ne (tgt := 39) hx hb dX8_step_23 (by decide) (fun c7 => ?_) (fun c7 => ?_)
        · have hw := hw.2 c7
          exact hk39  σ6 _ _ _ hw hP hS (lv_sub hl [0] rfl)
        · have hw := hw.1 c7
          refine lv_aload_n hx hb dX8_step_26 rfl (lv_at hl 0 rfl) ?_
          refine lv_dup hx hb dX8_step_27 rfl ?_
          refine va_get (D := D) (ci := 8) (C := RX8) (T := TX8) (N := 57) hx hb htb inX8 hown hK hP 0 (mw_0 c q σ6) rfl 15 (by decide) (htb _ tb_1196) (fun _ h9 => h9) rfl dX8_step_28 ?_
          refine lv_iconst (v := (1 : Int32)) hx hb dX8_step_31 (by decide) ?_
          refine lv_iadd hx hb dX8_step_32 ?_
          refine va_put (D := D) (ci := 8) (ty := .int) (C := RX8) (T := TX8) (N := 57) hx hb htb inX8 tyX8 tyX8_ok nmX8 hown hK hP hD hS 0 (mw_0 c q σ6) rfl 15 (by decide) (htb _ tb_1196) (fun _ h9 => h9) rfl (by decide +kernel) rfl rfl (Nat.le_of_ble_eq_true rfl) dX8_step_33 (fun H locs hP hD hS => ?_)
          have hP : va_P D vwCl (mw c q (hsI σ6 15 ((σ6.1 15) + (1 : Int32)))) H := hP
          obtain ⟨σ8, eσ8⟩ : ∃ z : hsS, z = hsI σ6 15 ((σ6.1 15) + (1 : Int32)) := ⟨_, rfl⟩
          rw [← eσ8] at hP
          have hD : va_D (wdA 31 q) (mw c q σ8) := mw_D hD0
          have hw := hw σ8 eσ8
          refine lv_goto (tgt := 0) hx hb dX8_step_36 (by decide) ?_
          exact ih  σ8 _ _ _ hw hk39 hP hS (lv_sub hl [0] rfl)
  have L123 : ∀ (K179 : hsS → Prop) (z1 : Int32) (n : Nat) (σ : hsS) (H : Heap) (locs : List Loc) (ls : Array Slot), wX8_step_L123 z1 K179 post n σ → (∀ (σ : hsS) (H : Heap) (locs : List Loc) (ls : Array Slot), K179 σ → va_P D vwCl (mw c q σ) H → va_S (wdA 31 q) s.heap H locs → lv_has ls 2 [(0, .ref (q 0)), (1, .int z1)] → W p l e (headSpec (Cond.code yX8_step cX8_step 2 none :: tb_L) { frames := 1, cells := 0, slots := 0, locals := 40 }).room s m [.ref (q 0)].toArray below meth c₀ H locs 0 0 (MQ below (va_Qv post (wdB D (mw c q)) (wdA 31 q)) [.ref (q 0)].toArray s 0 0 (wdA 31 q)) (F0 m 179 ls [])) → va_P D vwCl (mw c q σ) H → va_S (wdA 31 q) s.heap H locs → lv_has ls 2 [(0, .ref (q 0)), (1, .int z1)] → W p l e (headSpec (Cond.code yX8_step cX8_step 2 none :: tb_L) { frames := 1, cells := 0, slots := 0, locals := 40 }).room s m [.ref (q 0)].toArray below meth c₀ H locs 0 0 (MQ below (va_Qv post (wdB D (mw c q)) (wdA 31 q)) [.ref (q 0)].toArray s 0 0 (wdA 31 q)) (F0 m 123 ls []) := by
    intro K179 z1 n
    induction n with
    | zero =>
      intro σ H locs ls hw hk179 hP hS hl
      exact (show False from hw).elim
    | succ n ih =>
      intro σ H locs ls hw hk179 hP hS hl
      rw [wX8_step_L123] at hw
      have hD : va_D (wdA 31 q) (mw c q σ) := mw_D hD0
      refine lv_aload_n hx hb dX8_step_123 rfl (lv_at hl 0 rfl) ?_
      refine lv_aload_n hx hb dX8_step_124 rfl (lv_at hl 0 rfl) ?_
      refine va_get (D := D) (ci := 8) (C := RX8) (T := TX8) (N := 57) hx hb htb inX8 hown hK hP 0 (mw_0 c q σ) rfl 15 (by decide) (htb _ tb_1196) (fun _ h9 => h9) rfl dX8_step_125 ?_
      refine va_calli (va_runV (As := [.int (σ.1 15)]) (rest := []) ⟨hx, hb, hml, hown, htb⟩ (kcX8_byteAt l D c q ev hev σ (σ.1 15) _ hw) (tb_CW htb kX8_byteAt tb_1374 tb_1376 tb_44 ⟨Nat.le_of_ble_eq_true rfl, Nat.le_of_ble_eq_true rfl⟩) (wd_preV (wd := mw c q) (k := 0) hev hK hP hD hE hS (mw_0 c q σ) rfl) rfl rfl hl.1 rfl (lv_room (Nat.le_of_ble_eq_true rfl)) dX8_step_128 ⟨Nat.zero_le _, Nat.zero_le _⟩) hS (fun q _ h => h) (fun q h => h) (fun r30 σ31 t H1 locs1 ht hvm hw hB hz1 hk1 hS => ?_)
      have hP : va_P D vwCl (mw c q σ31) H1 := ht ▸ hB
      have hD : va_D (wdA 31 q) (mw c q σ31) := mw_D hD0
      refine va_calli (va_runS (As := [.int r30]) (rest := []) ⟨hx, hb, hml, hown, htb⟩ (kcX8_isDigit_m l D c q ev hev σ31 r30 _ hw) (tb_CS htb kX8_isDigit tb_1381 tb_1382 ⟨Nat.le_of_ble_eq_true rfl, Nat.le_of_ble_eq_true rfl⟩) (wd_preS (wd := mw c q) hev hK hP hD hE hS) rfl rfl hl.1 rfl (lv_room (Nat.le_of_ble_eq_true rfl)) dX8_step_131 ⟨Nat.zero_le _, Nat.zero_le _⟩) hS (fun q _ h => h) (fun q h => h) (fun r32 σ33 t H1 locs1 ht hvm hw hB hz1 hk1 hS => ?_)
      have hP : va_P D vwCl (mw c q σ33) H1 := ht ▸ hB
      have hD : va_D (wdA 31 q) (mw c q σ33) := mw_D hD0
      refine lv_if_eq (tgt := 179) hx hb dX8_step_134 (by decide) (fun c34 => ?_) (fun c34 => ?_)
      · have hw := hw.1 c34
        exact hk179  σ33 _ _ _ hw hP hS (lv_sub hl [0, 1] rfl)
      · have hw := hw.2 c34
        refine lv_aload_n hx hb dX8_step_137 rfl (lv_at hl 0 rfl) ?_
        refine lv_sipush (v := (10000 : Int32)) hx hb dX8_step_138 (by decide) ?_
        refine lv_bipush (v := (10 : Int32)) hx hb dX8_step_141 (by decide) ?_
        refine lv_aload_n hx hb dX8_step_143 rfl (lv_at hl 0 rfl) ?_
        refine va_get (D := D) (ci := 8) (C := RX8) (T := TX8) (N := 57) hx hb htb inX8 hown hK hP 0 (mw_0 c q σ33) rfl 18 (by decide) (htb _ tb_1199) (fun _ h9 => h9) rfl dX8_step_144 ?_
        refine lv_imul hx hb dX8_step_147 ?_
        refine lv_aload_n hx hb dX8_step_148 rfl (lv_at hl 0 rfl) ?_
        refine lv_aload_n hx hb dX8_step_149 rfl (lv_at hl 0 rfl) ?_
        refine va_get (D := D) (ci := 8) (C := RX8) (T := TX8) (N := 57) hx hb htb inX8 hown hK hP 0 (mw_0 c q σ33) rfl 15 (by decide) (htb _ tb_1196) (fun _ h9 => h9) rfl dX8_step_150 ?_
        refine va_calli (va_runV (As := [.int (σ33.1 15)]) (rest := [.int ((10 : Int32) * (σ33.1 18)), .int (10000 : Int32), .ref (q 0)]) ⟨hx, hb, hml, hown, htb⟩ (kcX8_byteAt l D c q ev hev σ33 (σ33.1 15) _ hw) (tb_CW htb kX8_byteAt tb_1374 tb_1376 tb_44 ⟨Nat.le_of_ble_eq_true rfl, Nat.le_of_ble_eq_true rfl⟩) (wd_preV (wd := mw c q) (k := 0) hev hK hP hD hE hS (mw_0 c q σ33) rfl) rfl rfl hl.1 rfl (lv_room (Nat.le_of_ble_eq_true rfl)) dX8_step_153 ⟨Nat.zero_le _, Nat.zero_le _⟩) hS (fun q _ h => h) (fun q h => h) (fun r35 σ36 t H1 locs1 ht hvm hw hB hz1 hk1 hS => ?_)
        have hP : va_P D vwCl (mw c q σ36) H1 := ht ▸ hB
        have hD : va_D (wdA 31 q) (mw c q σ36) := mw_D hD0
        refine lv_iadd hx hb dX8_step_156 ?_
        refine lv_bipush (v := (48 : Int32)) hx hb dX8_step_157 (by decide) ?_
        refine lv_isub hx hb dX8_step_159 ?_
        refine va_mmin hx hb (hml.trans hl.1.symm) hown (htb _ tb_1384) (htb _ tb_413) (htb _ tb_104) (htb _ tb_414) (Nat.le_of_ble_eq_true rfl) (Nat.le_of_ble_eq_true rfl) (Nat.zero_le _) (Nat.zero_le _) dX8_step_160 ?_
        refine va_put (D := D) (ci := 8) (ty := .int) (C := RX8) (T := TX8) (N := 57) hx hb htb inX8 tyX8 tyX8_ok nmX8 hown hK hP hD hS 0 (mw_0 c q σ36) rfl 18 (by decide) (htb _ tb_1199) (fun _ h9 => h9) rfl (by decide +kernel) rfl rfl (Nat.le_of_ble_eq_true rfl) dX8_step_163 (fun H locs hP hD hS => ?_)
        have hP : va_P D vwCl (mw c q (hsI σ36 18 (if ((((10 : Int32) * (σ33.1 18)) + r35) - (48 : Int32)) < (10000 : Int32) then ((((10 : Int32) * (σ33.1 18)) + r35) - (48 : Int32)) else (10000 : Int32)))) H := hP
        obtain ⟨σ37, eσ37⟩ : ∃ z : hsS, z = hsI σ36 18 (if ((((10 : Int32) * (σ33.1 18)) + r35) - (48 : Int32)) < (10000 : Int32) then ((((10 : Int32) * (σ33.1 18)) + r35) - (48 : Int32)) else (10000 : Int32)) := ⟨_, rfl⟩
        rw [← eσ37] at hP
        have hD : va_D (wdA 31 q) (mw c q σ37) := mw_D hD0
        have hw := hw σ37 eσ37
        refine lv_aload_n hx hb dX8_step_166 rfl (lv_at hl 0 rfl) ?_
        refine lv_dup hx hb dX8_step_167 rfl ?_
        refine va_get (D := D) (ci := 8) (C := RX8) (T := TX8) (N := 57) hx hb htb inX8 hown hK hP 0 (mw_0 c q σ37) rfl 15 (by decide) (htb _ tb_1196) (fun _ h9 => h9) rfl dX8_step_168 ?_
        refine lv_iconst (v := (1 : Int32)) hx hb dX8_step_171 (by decide) ?_
        refine lv_iadd hx hb dX8_step_172 ?_
        refine va_put (D := D) (ci := 8) (ty := .int) (C := RX8) (T := TX8) (N := 57) hx hb htb inX8 tyX8 tyX8_ok nmX8 hown hK hP hD hS 0 (mw_0 c q σ37) rfl 15 (by decide) (htb _ tb_1196) (fun _ h9 => h9) rfl (by decide +kernel) rfl rfl (Nat.le_of_ble_eq_true rfl) dX8_step_173 (fun H locs hP hD hS => ?_)
        have hP : va_P D vwCl (mw c q (hsI σ37 15 ((σ37.1 15) + (1 : Int32)))) H := hP
        obtain ⟨σ38, eσ38⟩ : ∃ z : hsS, z = hsI σ37 15 ((σ37.1 15) + (1 : Int32)) := ⟨_, rfl⟩
        rw [← eσ38] at hP
        have hD : va_D (wdA 31 q) (mw c q σ38) := mw_D hD0
        have hw := hw σ38 eσ38
        refine lv_goto (tgt := 123) hx hb dX8_step_176 (by decide) ?_
        exact ih  σ38 _ _ _ hw hk179 hP hS (lv_sub hl [0, 1] rfl)
  have L76 : ∀ (K103 : hsS → Prop) (z1 : Int32) (n : Nat) (σ : hsS) (H : Heap) (locs : List Loc) (ls : Array Slot), wX8_step_L76 z1 K103 post n σ → (∀ (σ : hsS) (H : Heap) (locs : List Loc) (ls : Array Slot), K103 σ → va_P D vwCl (mw c q σ) H → va_S (wdA 31 q) s.heap H locs → lv_has ls 2 [(0, .ref (q 0)), (1, .int z1)] → W p l e (headSpec (Cond.code yX8_step cX8_step 2 none :: tb_L) { frames := 1, cells := 0, slots := 0, locals := 40 }).room s m [.ref (q 0)].toArray below meth c₀ H locs 0 0 (MQ below (va_Qv post (wdB D (mw c q)) (wdA 31 q)) [.ref (q 0)].toArray s 0 0 (wdA 31 q)) (F0 m 103 ls [])) → va_P D vwCl (mw c q σ) H → va_S (wdA 31 q) s.heap H locs → lv_has ls 2 [(0, .ref (q 0)), (1, .int z1)] → W p l e (headSpec (Cond.code yX8_step cX8_step 2 none :: tb_L) { frames := 1, cells := 0, slots := 0, locals := 40 }).room s m [.ref (q 0)].toArray below meth c₀ H locs 0 0 (MQ below (va_Qv post (wdB D (mw c q)) (wdA 31 q)) [.ref (q 0)].toArray s 0 0 (wdA 31 q)) (F0 m 76 ls []) := by
    intro K103 z1 n
    induction n with
    | zero =>
      intro σ H locs ls hw hk103 hP hS hl
      exact (show False from hw).elim
    | succ n ih =>
      intro σ H locs ls hw hk103 hP hS hl
      rw [wX8_step_L76] at hw
      have hD : va_D (wdA 31 q) (mw c q σ) := mw_D hD0
      refine lv_aload_n hx hb dX8_step_76 rfl (lv_at hl 0 rfl) ?_
      refine lv_aload_n hx hb dX8_step_77 rfl (lv_at hl 0 rfl) ?_
      refine va_get (D := D) (ci := 8) (C := RX8) (T := TX8) (N := 57) hx hb htb inX8 hown hK hP 0 (mw_0 c q σ) rfl 15 (by decide) (htb _ tb_1196) (fun _ h9 => h9) rfl dX8_step_78 ?_
      refine va_calli (va_runV (As := [.int (σ.1 15)]) (rest := []) ⟨hx, hb, hml, hown, htb⟩ (kcX8_byteAt l D c q ev hev σ (σ.1 15) _ hw) (tb_CW htb kX8_byteAt tb_1374 tb_1376 tb_44 ⟨Nat.le_of_ble_eq_true rfl, Nat.le_of_ble_eq_true rfl⟩) (wd_preV (wd := mw c q) (k := 0) hev hK hP hD hE hS (mw_0 c q σ) rfl) rfl rfl hl.1 rfl (lv_room (Nat.le_of_ble_eq_true rfl)) dX8_step_81 ⟨Nat.zero_le _, Nat.zero_le _⟩) hS (fun q _ h => h) (fun q h => h) (fun r43 σ44 t H1 locs1 ht hvm hw hB hz1 hk1 hS => ?_)
      have hP : va_P D vwCl (mw c q σ44) H1 := ht ▸ hB
      have hD : va_D (wdA 31 q) (mw c q σ44) := mw_D hD0
      refine va_calli (va_runS (As := [.int r43]) (rest := []) ⟨hx, hb, hml, hown, htb⟩ (kcX8_isLetter_m l D c q ev hev σ44 r43 _ hw) (tb_CS htb kX8_isLetter tb_1378 tb_1379 ⟨Nat.le_of_ble_eq_true rfl, Nat.le_of_ble_eq_true rfl⟩) (wd_preS (wd := mw c q) hev hK hP hD hE hS) rfl rfl hl.1 rfl (lv_room (Nat.le_of_ble_eq_true rfl)) dX8_step_84 ⟨Nat.zero_le _, Nat.zero_le _⟩) hS (fun q _ h => h) (fun q h => h) (fun r45 σ46 t H1 locs1 ht hvm hw hB hz1 hk1 hS => ?_)
      have hP : va_P D vwCl (mw c q σ46) H1 := ht ▸ hB
      have hD : va_D (wdA 31 q) (mw c q σ46) := mw_D hD0
      refine lv_if_eq (tgt := 103) hx hb dX8_step_87 (by decide) (fun c47 => ?_) (fun c47 => ?_)
      · have hw := hw.1 c47
        exact hk103  σ46 _ _ _ hw hP hS (lv_sub hl [0, 1] rfl)
      · have hw := hw.2 c47
        refine lv_aload_n hx hb dX8_step_90 rfl (lv_at hl 0 rfl) ?_
        refine lv_dup hx hb dX8_step_91 rfl ?_
        refine va_get (D := D) (ci := 8) (C := RX8) (T := TX8) (N := 57) hx hb htb inX8 hown hK hP 0 (mw_0 c q σ46) rfl 15 (by decide) (htb _ tb_1196) (fun _ h9 => h9) rfl dX8_step_92 ?_
        refine lv_iconst (v := (1 : Int32)) hx hb dX8_step_95 (by decide) ?_
        refine lv_iadd hx hb dX8_step_96 ?_
        refine va_put (D := D) (ci := 8) (ty := .int) (C := RX8) (T := TX8) (N := 57) hx hb htb inX8 tyX8 tyX8_ok nmX8 hown hK hP hD hS 0 (mw_0 c q σ46) rfl 15 (by decide) (htb _ tb_1196) (fun _ h9 => h9) rfl (by decide +kernel) rfl rfl (Nat.le_of_ble_eq_true rfl) dX8_step_97 (fun H locs hP hD hS => ?_)
        have hP : va_P D vwCl (mw c q (hsI σ46 15 ((σ46.1 15) + (1 : Int32)))) H := hP
        obtain ⟨σ48, eσ48⟩ : ∃ z : hsS, z = hsI σ46 15 ((σ46.1 15) + (1 : Int32)) := ⟨_, rfl⟩
        rw [← eσ48] at hP
        have hD : va_D (wdA 31 q) (mw c q σ48) := mw_D hD0
        have hw := hw σ48 eσ48
        refine lv_goto (tgt := 76) hx hb dX8_step_100 (by decide) ?_
        exact ih  σ48 _ _ _ hw hk103 hP hS (lv_sub hl [0, 1] rfl)
  have hl := lv_entry ([.ref (q 0)]) (n := 2) (Nat.le_of_ble_eq_true rfl)
  rw [lg_entry_eq]
  generalize (lg_sl ([.ref (q 0)]) ++ List.replicate (2 - (lg_sl ([.ref (q 0)])).length) Slot.unset).toArray = ls at hl ⊢
  have hl : lv_has ls 2 [(0, .ref (q 0))] := hl
  unfold wX8_step at hw
  obtain ⟨n9, hw⟩ := hw
  refine L0 _ n9  σ _ _ _ hw ?_ hP hS (lv_sub hl [0] rfl)
  intro σ10 H locs ls hw hP hS hl
  have hD : va_D (wdA 31 q) (mw c q σ10) := mw_D hD0
  refine lv_aload_n hx hb dX8_step_39 rfl (lv_at hl 0 rfl) ?_
  refine lv_aload_n hx hb dX8_step_40 rfl (lv_at hl 0 rfl) ?_
  refine va_get (D := D) (ci := 8) (C := RX8) (T := TX8) (N := 57) hx hb htb inX8 hown hK hP 0 (mw_0 c q σ10) rfl 15 (by decide) (htb _ tb_1196) (fun _ h9 => h9) rfl dX8_step_41 ?_
  refine va_put (D := D) (ci := 8) (ty := .int) (C := RX8) (T := TX8) (N := 57) hx hb htb inX8 tyX8 tyX8_ok nmX8 hown hK hP hD hS 0 (mw_0 c q σ10) rfl 19 (by decide) (htb _ tb_1200) (fun _ h9 => h9) rfl (by decide +kernel) rfl rfl (Nat.le_of_ble_eq_true rfl) dX8_step_44 (fun H locs hP hD hS => ?_)
  have hP : va_P D vwCl (mw c q (hsI σ10 19 (σ10.1 15))) H := hP
  obtain ⟨σ11, eσ11⟩ : ∃ z : hsS, z = hsI σ10 19 (σ10.1 15) := ⟨_, rfl⟩
  rw [← eσ11] at hP
  have hD : va_D (wdA 31 q) (mw c q σ11) := mw_D hD0
  have hw := hw σ11 eσ11
  refine lv_aload_n hx hb dX8_step_47 rfl (lv_at hl 0 rfl) ?_
  refine lv_aload_n hx hb dX8_step_48 rfl (lv_at hl 0 rfl) ?_
  refine va_get (D := D) (ci := 8) (C := RX8) (T := TX8) (N := 57) hx hb htb inX8 hown hK hP 0 (mw_0 c q σ11) rfl 15 (by decide) (htb _ tb_1196) (fun _ h9 => h9) rfl dX8_step_49 ?_
  refine va_calli (va_runV (As := [.int (σ11.1 15)]) (rest := []) ⟨hx, hb, hml, hown, htb⟩ (kcX8_byteAt l D c q ev hev σ11 (σ11.1 15) _ hw) (tb_CW htb kX8_byteAt tb_1374 tb_1376 tb_44 ⟨Nat.le_of_ble_eq_true rfl, Nat.le_of_ble_eq_true rfl⟩) (wd_preV (wd := mw c q) (k := 0) hev hK hP hD hE hS (mw_0 c q σ11) rfl) rfl rfl hl.1 rfl (lv_room (Nat.le_of_ble_eq_true rfl)) dX8_step_52 ⟨Nat.zero_le _, Nat.zero_le _⟩) hS (fun q _ h => h) (fun q h => h) (fun r12 σ13 t H1 locs1 ht hvm hw hB hz1 hk1 hS => ?_)
  have hP : va_P D vwCl (mw c q σ13) H1 := ht ▸ hB
  have hD : va_D (wdA 31 q) (mw c q σ13) := mw_D hD0
  refine lv_istore_n (lv' := [(1, .int r12), (0, .ref (q 0))]) hx hb dX8_step_55 rfl hl (by decide) rfl (fun ls hl => ?_)
  refine lv_iload_n hx hb dX8_step_56 rfl (lv_at hl 0 rfl) ?_
  refine lv_iconst (v := (-1 : Int32)) hx hb dX8_step_57 (by decide) ?_
  refine lv_icmp_ne (tgt := 69) hx hb dX8_step_58 (by decide) (fun c14 => ?_) (fun c14 => ?_)
  · have hw := hw.2 c14
    refine lv_iload_n hx hb dX8_step_69 rfl (lv_at hl 0 rfl) ?_
    refine va_calli (va_runS (As := [.int r12]) (rest := []) ⟨hx, hb, hml, hown, htb⟩ (kcX8_isLetter_m l D c q ev hev σ13 r12 _ hw) (tb_CS htb kX8_isLetter tb_1378 tb_1379 ⟨Nat.le_of_ble_eq_true rfl, Nat.le_of_ble_eq_true rfl⟩) (wd_preS (wd := mw c q) hev hK hP hD hE hS) rfl rfl hl.1 rfl (lv_room (Nat.le_of_ble_eq_true rfl)) dX8_step_70 ⟨Nat.zero_le _, Nat.zero_le _⟩) hS (fun q _ h => h) (fun q h => h) (fun r17 σ18 t H1 locs1 ht hvm hw hB hz1 hk1 hS => ?_)
    have hP : va_P D vwCl (mw c q σ18) H1 := ht ▸ hB
    have hD : va_D (wdA 31 q) (mw c q σ18) := mw_D hD0
    refine lv_if_eq (tgt := 111) hx hb dX8_step_73 (by decide) (fun c19 => ?_) (fun c19 => ?_)
    · have hw := hw.1 c19
      refine lv_iload_n hx hb dX8_step_111 rfl (lv_at hl 0 rfl) ?_
      refine va_calli (va_runS (As := [.int r12]) (rest := []) ⟨hx, hb, hml, hown, htb⟩ (kcX8_isDigit_m l D c q ev hev σ18 r12 _ hw) (tb_CS htb kX8_isDigit tb_1381 tb_1382 ⟨Nat.le_of_ble_eq_true rfl, Nat.le_of_ble_eq_true rfl⟩) (wd_preS (wd := mw c q) hev hK hP hD hE hS) rfl rfl hl.1 rfl (lv_room (Nat.le_of_ble_eq_true rfl)) dX8_step_112 ⟨Nat.zero_le _, Nat.zero_le _⟩) hS (fun q _ h => h) (fun q h => h) (fun r20 σ21 t H1 locs1 ht hvm hw hB hz1 hk1 hS => ?_)
      have hP : va_P D vwCl (mw c q σ21) H1 := ht ▸ hB
      have hD : va_D (wdA 31 q) (mw c q σ21) := mw_D hD0
      refine lv_if_eq (tgt := 187) hx hb dX8_step_115 (by decide) (fun c22 => ?_) (fun c22 => ?_)
      · have hw := hw.1 c22
        refine lv_aload_n hx hb dX8_step_187 rfl (lv_at hl 1 rfl) ?_
        refine lv_dup hx hb dX8_step_188 rfl ?_
        refine va_get (D := D) (ci := 8) (C := RX8) (T := TX8) (N := 57) hx hb htb inX8 hown hK hP 0 (mw_0 c q σ21) rfl 15 (by decide) (htb _ tb_1196) (fun _ h9 => h9) rfl dX8_step_189 ?_
        refine lv_iconst (v := (1 : Int32)) hx hb dX8_step_192 (by decide) ?_
        refine lv_iadd hx hb dX8_step_193 ?_
        refine va_put (D := D) (ci := 8) (ty := .int) (C := RX8) (T := TX8) (N := 57) hx hb htb inX8 tyX8 tyX8_ok nmX8 hown hK hP hD hS 0 (mw_0 c q σ21) rfl 15 (by decide) (htb _ tb_1196) (fun _ h9 => h9) rfl (by decide +kernel) rfl rfl (Nat.le_of_ble_eq_true rfl) dX8_step_194 (fun H locs hP hD hS => ?_)
        have hP : va_P D vwCl (mw c q (hsI σ21 15 ((σ21.1 15) + (1 : Int32)))) H := hP
        obtain ⟨σ23, eσ23⟩ : ∃ z : hsS, z = hsI σ21 15 ((σ21.1 15) + (1 : Int32)) := ⟨_, rfl⟩
        rw [← eσ23] at hP
        have hD : va_D (wdA 31 q) (mw c q σ23) := mw_D hD0
        have hw := hw σ23 eσ23
        refine lv_aload_n hx hb dX8_step_197 rfl (lv_at hl 1 rfl) ?_
        refine lv_iload_n hx hb dX8_step_198 rfl (lv_at hl 0 rfl) ?_
        refine lv_bipush (v := (59 : Int32)) hx hb dX8_step_199 (by decide) ?_
        refine lv_icmp_ne (tgt := 208) hx hb dX8_step_201 (by decide) (fun c24 => ?_) (fun c24 => ?_)
        · have hw := hw.2 c24
          refine lv_iconst (v := (4 : Int32)) hx hb dX8_step_208 (by decide) ?_
          refine va_put (D := D) (ci := 8) (ty := .int) (C := RX8) (T := TX8) (N := 57) hx hb htb inX8 tyX8 tyX8_ok nmX8 hown hK hP hD hS 0 (mw_0 c q σ23) rfl 17 (by decide) (htb _ tb_1198) (fun _ h9 => h9) rfl (by decide +kernel) rfl rfl (Nat.le_of_ble_eq_true rfl) dX8_step_209 (fun H locs hP hD hS => ?_)
          have hP : va_P D vwCl (mw c q (hsI σ23 17 (4 : Int32))) H := hP
          obtain ⟨σ27, eσ27⟩ : ∃ z : hsS, z = hsI σ23 17 (4 : Int32) := ⟨_, rfl⟩
          rw [← eσ27] at hP
          have hD : va_D (wdA 31 q) (mw c q σ27) := mw_D hD0
          have hw := hw σ27 eσ27
          refine lv_aload_n hx hb dX8_step_212 rfl (lv_at hl 1 rfl) ?_
          refine lv_aload_n hx hb dX8_step_213 rfl (lv_at hl 1 rfl) ?_
          refine va_get (D := D) (ci := 8) (C := RX8) (T := TX8) (N := 57) hx hb htb inX8 hown hK hP 0 (mw_0 c q σ27) rfl 15 (by decide) (htb _ tb_1196) (fun _ h9 => h9) rfl dX8_step_214 ?_
          refine va_put (D := D) (ci := 8) (ty := .int) (C := RX8) (T := TX8) (N := 57) hx hb htb inX8 tyX8 tyX8_ok nmX8 hown hK hP hD hS 0 (mw_0 c q σ27) rfl 20 (by decide) (htb _ tb_1201) (fun _ h9 => h9) rfl (by decide +kernel) rfl rfl (Nat.le_of_ble_eq_true rfl) dX8_step_217 (fun H locs hP hD hS => ?_)
          have hP : va_P D vwCl (mw c q (hsI σ27 20 (σ27.1 15))) H := hP
          obtain ⟨σ28, eσ28⟩ : ∃ z : hsS, z = hsI σ27 20 (σ27.1 15) := ⟨_, rfl⟩
          rw [← eσ28] at hP
          have hD : va_D (wdA 31 q) (mw c q σ28) := mw_D hD0
          have hw := hw σ28 eσ28
          exact W.vret hx hb hr (fun t ht hW => ⟨⟨σ28, rfl, hw, by unfold wdB; rw [ht]; exact hP⟩, hS.F ht⟩) hS.2.2 dX8_step_220
        · have hw := hw.1 c24
          refine lv_iconst (v := (3 : Int32)) hx hb dX8_step_204 (by decide) ?_
          refine lv_goto (tgt := 209) hx hb dX8_step_205 (by decide) ?_
          refine va_put (D := D) (ci := 8) (ty := .int) (C := RX8) (T := TX8) (N := 57) hx hb htb inX8 tyX8 tyX8_ok nmX8 hown hK hP hD hS 0 (mw_0 c q σ23) rfl 17 (by decide) (htb _ tb_1198) (fun _ h9 => h9) rfl (by decide +kernel) rfl rfl (Nat.le_of_ble_eq_true rfl) dX8_step_209 (fun H locs hP hD hS => ?_)
          have hP : va_P D vwCl (mw c q (hsI σ23 17 (3 : Int32))) H := hP
          obtain ⟨σ25, eσ25⟩ : ∃ z : hsS, z = hsI σ23 17 (3 : Int32) := ⟨_, rfl⟩
          rw [← eσ25] at hP
          have hD : va_D (wdA 31 q) (mw c q σ25) := mw_D hD0
          have hw := hw σ25 eσ25
          refine lv_aload_n hx hb dX8_step_212 rfl (lv_at hl 1 rfl) ?_
          refine lv_aload_n hx hb dX8_step_213 rfl (lv_at hl 1 rfl) ?_
          refine va_get (D := D) (ci := 8) (C := RX8) (T := TX8) (N := 57) hx hb htb inX8 hown hK hP 0 (mw_0 c q σ25) rfl 15 (by decide) (htb _ tb_1196) (fun _ h9 => h9) rfl dX8_step_214 ?_
          refine va_put (D := D) (ci := 8) (ty := .int) (C := RX8) (T := TX8) (N := 57) hx hb htb inX8 tyX8 tyX8_ok nmX8 hown hK hP hD hS 0 (mw_0 c q σ25) rfl 20 (by decide) (htb _ tb_1201) (fun _ h9 => h9) rfl (by decide +kernel) rfl rfl (Nat.le_of_ble_eq_true rfl) dX8_step_217 (fun H locs hP hD hS => ?_)
          have hP : va_P D vwCl (mw c q (hsI σ25 20 (σ25.1 15))) H := hP
          obtain ⟨σ26, eσ26⟩ : ∃ z : hsS, z = hsI σ25 20 (σ25.1 15) := ⟨_, rfl⟩
          rw [← eσ26] at hP
          have hD : va_D (wdA 31 q) (mw c q σ26) := mw_D hD0
          have hw := hw σ26 eσ26
          exact W.vret hx hb hr (fun t ht hW => ⟨⟨σ26, rfl, hw, by unfold wdB; rw [ht]; exact hP⟩, hS.F ht⟩) hS.2.2 dX8_step_220
      · have hw := hw.2 c22
        refine lv_aload_n hx hb dX8_step_118 rfl (lv_at hl 1 rfl) ?_
        refine lv_iconst (v := (0 : Int32)) hx hb dX8_step_119 (by decide) ?_
        refine va_put (D := D) (ci := 8) (ty := .int) (C := RX8) (T := TX8) (N := 57) hx hb htb inX8 tyX8 tyX8_ok nmX8 hown hK hP hD hS 0 (mw_0 c q σ21) rfl 18 (by decide) (htb _ tb_1199) (fun _ h9 => h9) rfl (by decide +kernel) rfl rfl (Nat.le_of_ble_eq_true rfl) dX8_step_120 (fun H locs hP hD hS => ?_)
        have hP : va_P D vwCl (mw c q (hsI σ21 18 (0 : Int32))) H := hP
        obtain ⟨σ29, eσ29⟩ : ∃ z : hsS, z = hsI σ21 18 (0 : Int32) := ⟨_, rfl⟩
        rw [← eσ29] at hP
        have hD : va_D (wdA 31 q) (mw c q σ29) := mw_D hD0
        have hw := hw σ29 eσ29
        obtain ⟨n39, hw⟩ := hw
        refine L123 _ r12 n39  σ29 _ _ _ hw ?_ hP hS (lv_sub hl [1, 0] rfl)
        intro σ40 H locs ls hw hP hS hl
        have hD : va_D (wdA 31 q) (mw c q σ40) := mw_D hD0
        refine lv_aload_n hx hb dX8_step_179 rfl (lv_at hl 0 rfl) ?_
        refine lv_iconst (v := (2 : Int32)) hx hb dX8_step_180 (by decide) ?_
        refine va_put (D := D) (ci := 8) (ty := .int) (C := RX8) (T := TX8) (N := 57) hx hb htb inX8 tyX8 tyX8_ok nmX8 hown hK hP hD hS 0 (mw_0 c q σ40) rfl 17 (by decide) (htb _ tb_1198) (fun _ h9 => h9) rfl (by decide +kernel) rfl rfl (Nat.le_of_ble_eq_true rfl) dX8_step_181 (fun H locs hP hD hS => ?_)
        have hP : va_P D vwCl (mw c q (hsI σ40 17 (2 : Int32))) H := hP
        obtain ⟨σ41, eσ41⟩ : ∃ z : hsS, z = hsI σ40 17 (2 : Int32) := ⟨_, rfl⟩
        rw [← eσ41] at hP
        have hD : va_D (wdA 31 q) (mw c q σ41) := mw_D hD0
        have hw := hw σ41 eσ41
        refine lv_goto (tgt := 212) hx hb dX8_step_184 (by decide) ?_
        refine lv_aload_n hx hb dX8_step_212 rfl (lv_at hl 0 rfl) ?_
        refine lv_aload_n hx hb dX8_step_213 rfl (lv_at hl 0 rfl) ?_
        refine va_get (D := D) (ci := 8) (C := RX8) (T := TX8) (N := 57) hx hb htb inX8 hown hK hP 0 (mw_0 c q σ41) rfl 15 (by decide) (htb _ tb_1196) (fun _ h9 => h9) rfl dX8_step_214 ?_
        refine va_put (D := D) (ci := 8) (ty := .int) (C := RX8) (T := TX8) (N := 57) hx hb htb inX8 tyX8 tyX8_ok nmX8 hown hK hP hD hS 0 (mw_0 c q σ41) rfl 20 (by decide) (htb _ tb_1201) (fun _ h9 => h9) rfl (by decide +kernel) rfl rfl (Nat.le_of_ble_eq_true rfl) dX8_step_217 (fun H locs hP hD hS => ?_)
        have hP : va_P D vwCl (mw c q (hsI σ41 20 (σ41.1 15))) H := hP
        obtain ⟨σ42, eσ42⟩ : ∃ z : hsS, z = hsI σ41 20 (σ41.1 15) := ⟨_, rfl⟩
        rw [← eσ42] at hP
        have hD : va_D (wdA 31 q) (mw c q σ42) := mw_D hD0
        have hw := hw σ42 eσ42
        exact W.vret hx hb hr (fun t ht hW => ⟨⟨σ42, rfl, hw, by unfold wdB; rw [ht]; exact hP⟩, hS.F ht⟩) hS.2.2 dX8_step_220
    · have hw := hw.2 c19
      obtain ⟨n49, hw⟩ := hw
      refine L76 _ r12 n49  σ18 _ _ _ hw ?_ hP hS (lv_sub hl [1, 0] rfl)
      intro σ50 H locs ls hw hP hS hl
      have hD : va_D (wdA 31 q) (mw c q σ50) := mw_D hD0
      refine lv_aload_n hx hb dX8_step_103 rfl (lv_at hl 0 rfl) ?_
      refine lv_iconst (v := (1 : Int32)) hx hb dX8_step_104 (by decide) ?_
      refine va_put (D := D) (ci := 8) (ty := .int) (C := RX8) (T := TX8) (N := 57) hx hb htb inX8 tyX8 tyX8_ok nmX8 hown hK hP hD hS 0 (mw_0 c q σ50) rfl 17 (by decide) (htb _ tb_1198) (fun _ h9 => h9) rfl (by decide +kernel) rfl rfl (Nat.le_of_ble_eq_true rfl) dX8_step_105 (fun H locs hP hD hS => ?_)
      have hP : va_P D vwCl (mw c q (hsI σ50 17 (1 : Int32))) H := hP
      obtain ⟨σ51, eσ51⟩ : ∃ z : hsS, z = hsI σ50 17 (1 : Int32) := ⟨_, rfl⟩
      rw [← eσ51] at hP
      have hD : va_D (wdA 31 q) (mw c q σ51) := mw_D hD0
      have hw := hw σ51 eσ51
      refine lv_goto (tgt := 212) hx hb dX8_step_108 (by decide) ?_
      refine lv_aload_n hx hb dX8_step_212 rfl (lv_at hl 0 rfl) ?_
      refine lv_aload_n hx hb dX8_step_213 rfl (lv_at hl 0 rfl) ?_
      refine va_get (D := D) (ci := 8) (C := RX8) (T := TX8) (N := 57) hx hb htb inX8 hown hK hP 0 (mw_0 c q σ51) rfl 15 (by decide) (htb _ tb_1196) (fun _ h9 => h9) rfl dX8_step_214 ?_
      refine va_put (D := D) (ci := 8) (ty := .int) (C := RX8) (T := TX8) (N := 57) hx hb htb inX8 tyX8 tyX8_ok nmX8 hown hK hP hD hS 0 (mw_0 c q σ51) rfl 20 (by decide) (htb _ tb_1201) (fun _ h9 => h9) rfl (by decide +kernel) rfl rfl (Nat.le_of_ble_eq_true rfl) dX8_step_217 (fun H locs hP hD hS => ?_)
      have hP : va_P D vwCl (mw c q (hsI σ51 20 (σ51.1 15))) H := hP
      obtain ⟨σ52, eσ52⟩ : ∃ z : hsS, z = hsI σ51 20 (σ51.1 15) := ⟨_, rfl⟩
      rw [← eσ52] at hP
      have hD : va_D (wdA 31 q) (mw c q σ52) := mw_D hD0
      have hw := hw σ52 eσ52
      exact W.vret hx hb hr (fun t ht hW => ⟨⟨σ52, rfl, hw, by unfold wdB; rw [ht]; exact hP⟩, hS.F ht⟩) hS.2.2 dX8_step_220
  · have hw := hw.1 c14
    refine lv_aload_n hx hb dX8_step_61 rfl (lv_at hl 1 rfl) ?_
    refine lv_iconst (v := (0 : Int32)) hx hb dX8_step_62 (by decide) ?_
    refine va_put (D := D) (ci := 8) (ty := .int) (C := RX8) (T := TX8) (N := 57) hx hb htb inX8 tyX8 tyX8_ok nmX8 hown hK hP hD hS 0 (mw_0 c q σ13) rfl 17 (by decide) (htb _ tb_1198) (fun _ h9 => h9) rfl (by decide +kernel) rfl rfl (Nat.le_of_ble_eq_true rfl) dX8_step_63 (fun H locs hP hD hS => ?_)
    have hP : va_P D vwCl (mw c q (hsI σ13 17 (0 : Int32))) H := hP
    obtain ⟨σ15, eσ15⟩ : ∃ z : hsS, z = hsI σ13 17 (0 : Int32) := ⟨_, rfl⟩
    rw [← eσ15] at hP
    have hD : va_D (wdA 31 q) (mw c q σ15) := mw_D hD0
    have hw := hw σ15 eσ15
    refine lv_goto (tgt := 212) hx hb dX8_step_66 (by decide) ?_
    refine lv_aload_n hx hb dX8_step_212 rfl (lv_at hl 1 rfl) ?_
    refine lv_aload_n hx hb dX8_step_213 rfl (lv_at hl 1 rfl) ?_
    refine va_get (D := D) (ci := 8) (C := RX8) (T := TX8) (N := 57) hx hb htb inX8 hown hK hP 0 (mw_0 c q σ15) rfl 15 (by decide) (htb _ tb_1196) (fun _ h9 => h9) rfl dX8_step_214 ?_
    refine va_put (D := D) (ci := 8) (ty := .int) (C := RX8) (T := TX8) (N := 57) hx hb htb inX8 tyX8 tyX8_ok nmX8 hown hK hP hD hS 0 (mw_0 c q σ15) rfl 20 (by decide) (htb _ tb_1201) (fun _ h9 => h9) rfl (by decide +kernel) rfl rfl (Nat.le_of_ble_eq_true rfl) dX8_step_217 (fun H locs hP hD hS => ?_)
    have hP : va_P D vwCl (mw c q (hsI σ15 20 (σ15.1 15))) H := hP
    obtain ⟨σ16, eσ16⟩ : ∃ z : hsS, z = hsI σ15 20 (σ15.1 15) := ⟨_, rfl⟩
    rw [← eσ16] at hP
    have hD : va_D (wdA 31 q) (mw c q σ16) := mw_D hD0
    have hw := hw σ16 eσ16
    exact W.vret hx hb hr (fun t ht hW => ⟨⟨σ16, rfl, hw, by unfold wdB; rw [ht]; exact hP⟩, hS.F ht⟩) hS.2.2 dX8_step_220
def wX8_wrong (x1 : Int32) (post : hsS → Prop) (σ : hsS) : Prop := (((σ.1 21) = (0 : Int32) → ∀ σ2 : hsS, σ2 = hsI σ 21 x1 → ∀ σ3 : hsS, σ3 = hsI σ2 22 (σ2.1 19) → post σ3) ∧ (¬ (σ.1 21) = (0 : Int32) → post σ))
set_option maxHeartbeats 4000000 in
set_option maxRecDepth 100000 in
theorem kcX8_wrong (l : Launch) (D : va_G) (c : Nat → ClassId) (q : Nat → Nat) (ev : State → Heap → Prop) (hev : evOK (wdA 31 q) ev) (σ : hsS) (x1 : Int32) (post : hsS → Prop) (hw : wX8_wrong x1 post σ) : Met l yX8_wrong (Cond.code yX8_wrong cX8_wrong 2 none :: tb_L) { frames := 0, cells := 0, slots := 0, locals := 0 } (wdPc D (mw c q) (mwT c) (wdA 31 q) ev σ [.ref (q 0), .int x1]) (va_Qv post (wdB D (mw c q)) (wdA 31 q)) 0 0 (wdA 31 q) := by
  refine Met.ofW (cc := cX8_wrong) (maxL := 2) (ret := none) (by decide) rfl ?_
  intro p e s m args below meth c₀ s₁ Bd hml hv
  obtain ⟨rfl, hP, hK, hD0, hE⟩ := hv
  have hx := Bd.exec
  have hb := Bd.bytes
  have hr := Bd.returns
  have hts := atoms_spec (ws := Cond.code yX8_wrong cX8_wrong 2 none :: tb_L) Bd.pre
  have htb : ∀ w ∈ tb_L, w.before [.ref (q 0), .int x1].toArray s = true := fun w h => hts w (List.mem_cons_of_mem _ h)
  have hown : s.vm.findClass RX8 = some m.cls := findClass_of_methodNamed Bd.named
  have hlocks := Bd.notSynchronized
  have hS : va_S (wdA 31 q) s.heap s.heap [] := va_S.rf
  have hD := hD0
  have hl := lv_entry ([.ref (q 0), .int x1]) (n := 2) (Nat.le_of_ble_eq_true rfl)
  rw [lg_entry_eq]
  generalize (lg_sl ([.ref (q 0), .int x1]) ++ List.replicate (2 - (lg_sl ([.ref (q 0), .int x1])).length) Slot.unset).toArray = ls at hl ⊢
  have hl : lv_has ls 2 [(0, .ref (q 0)), (1, .int x1)] := hl
  unfold wX8_wrong at hw
  refine lv_aload_n hx hb dX8_wrong_0 rfl (lv_at hl 0 rfl) ?_
  refine va_get (D := D) (ci := 8) (C := RX8) (T := TX8) (N := 57) hx hb htb inX8 hown hK hP 0 (mw_0 c q σ) rfl 21 (by decide) (htb _ tb_1202) (fun _ h9 => h9) rfl dX8_wrong_1 ?_
  refine lv_if_eq (tgt := 8) hx hb dX8_wrong_4 (by decide) (fun c1 => ?_) (fun c1 => ?_)
  · have hw := hw.1 c1
    refine lv_aload_n hx hb dX8_wrong_8 rfl (lv_at hl 0 rfl) ?_
    refine lv_iload_n hx hb dX8_wrong_9 rfl (lv_at hl 1 rfl) ?_
    refine va_put (D := D) (ci := 8) (ty := .int) (C := RX8) (T := TX8) (N := 57) hx hb htb inX8 tyX8 tyX8_ok nmX8 hown hK hP hD hS 0 (mw_0 c q σ) rfl 21 (by decide) (htb _ tb_1202) (fun _ h9 => h9) rfl (by decide +kernel) rfl rfl (Nat.le_of_ble_eq_true rfl) dX8_wrong_10 (fun H locs hP hD hS => ?_)
    have hP : va_P D vwCl (mw c q (hsI σ 21 x1)) H := hP
    obtain ⟨σ2, eσ2⟩ : ∃ z : hsS, z = hsI σ 21 x1 := ⟨_, rfl⟩
    rw [← eσ2] at hP
    have hD : va_D (wdA 31 q) (mw c q σ2) := mw_D hD0
    have hw := hw σ2 eσ2
    refine lv_aload_n hx hb dX8_wrong_13 rfl (lv_at hl 0 rfl) ?_
    refine lv_aload_n hx hb dX8_wrong_14 rfl (lv_at hl 0 rfl) ?_
    refine va_get (D := D) (ci := 8) (C := RX8) (T := TX8) (N := 57) hx hb htb inX8 hown hK hP 0 (mw_0 c q σ2) rfl 19 (by decide) (htb _ tb_1200) (fun _ h9 => h9) rfl dX8_wrong_15 ?_
    refine va_put (D := D) (ci := 8) (ty := .int) (C := RX8) (T := TX8) (N := 57) hx hb htb inX8 tyX8 tyX8_ok nmX8 hown hK hP hD hS 0 (mw_0 c q σ2) rfl 22 (by decide) (htb _ tb_1203) (fun _ h9 => h9) rfl (by decide +kernel) rfl rfl (Nat.le_of_ble_eq_true rfl) dX8_wrong_18 (fun H locs hP hD hS => ?_)
    have hP : va_P D vwCl (mw c q (hsI σ2 22 (σ2.1 19))) H := hP
    obtain ⟨σ3, eσ3⟩ : ∃ z : hsS, z = hsI σ2 22 (σ2.1 19) := ⟨_, rfl⟩
    rw [← eσ3] at hP
    have hD : va_D (wdA 31 q) (mw c q σ3) := mw_D hD0
    have hw := hw σ3 eσ3
    exact W.vret hx hb hr (fun t ht hW => ⟨⟨σ3, rfl, hw, by unfold wdB; rw [ht]; exact hP⟩, hS.F ht⟩) hS.2.2 dX8_wrong_21
  · have hw := hw.2 c1
    exact W.vret hx hb hr (fun t ht hW => ⟨⟨σ, rfl, hw, by unfold wdB; rw [ht]; exact hP⟩, hS.F ht⟩) hS.2.2 dX8_wrong_7
def wX8_isNumber  (post : Int32 → hsS → Prop) (σ : hsS) : Prop := (((σ.1 21) = (0 : Int32) → (((σ.1 17) = (2 : Int32) → post (1 : Int32) σ) ∧ (¬ (σ.1 17) = (2 : Int32) → post (0 : Int32) σ))) ∧ (¬ (σ.1 21) = (0 : Int32) → post (0 : Int32) σ))
set_option maxHeartbeats 4000000 in
set_option maxRecDepth 100000 in
theorem kcX8_isNumber (l : Launch) (D : va_G) (c : Nat → ClassId) (q : Nat → Nat) (ev : State → Heap → Prop) (hev : evOK (wdA 31 q) ev) (σ : hsS)  (post : Int32 → hsS → Prop) (hw : wX8_isNumber  post σ) : Met l yX8_isNumber (Cond.code yX8_isNumber cX8_isNumber 1 (some .boolean) :: tb_L) { frames := 0, cells := 0, slots := 0, locals := 0 } (wdPc D (mw c q) (mwT c) (wdA 31 q) ev σ [.ref (q 0)]) (va_Qi post (wdB D (mw c q)) (wdA 31 q)) 0 0 (wdA 31 q) := by
  refine Met.ofW (cc := cX8_isNumber) (maxL := 1) (ret := (some .boolean)) (by decide) rfl ?_
  intro p e s m args below meth c₀ s₁ Bd hml hv
  obtain ⟨rfl, hP, hK, hD0, hE⟩ := hv
  have hx := Bd.exec
  have hb := Bd.bytes
  have hr := Bd.returns
  have hts := atoms_spec (ws := Cond.code yX8_isNumber cX8_isNumber 1 (some .boolean) :: tb_L) Bd.pre
  have htb : ∀ w ∈ tb_L, w.before [.ref (q 0)].toArray s = true := fun w h => hts w (List.mem_cons_of_mem _ h)
  have hown : s.vm.findClass RX8 = some m.cls := findClass_of_methodNamed Bd.named
  have hlocks := Bd.notSynchronized
  have hS : va_S (wdA 31 q) s.heap s.heap [] := va_S.rf
  have hD := hD0
  have hl := lv_entry ([.ref (q 0)]) (n := 1) (Nat.le_of_ble_eq_true rfl)
  rw [lg_entry_eq]
  generalize (lg_sl ([.ref (q 0)]) ++ List.replicate (1 - (lg_sl ([.ref (q 0)])).length) Slot.unset).toArray = ls at hl ⊢
  have hl : lv_has ls 1 [(0, .ref (q 0))] := hl
  unfold wX8_isNumber at hw
  refine lv_aload_n hx hb dX8_isNumber_0 rfl (lv_at hl 0 rfl) ?_
  refine va_get (D := D) (ci := 8) (C := RX8) (T := TX8) (N := 57) hx hb htb inX8 hown hK hP 0 (mw_0 c q σ) rfl 21 (by decide) (htb _ tb_1202) (fun _ h9 => h9) rfl dX8_isNumber_1 ?_
  refine lv_if_ne (tgt := 19) hx hb dX8_isNumber_4 (by decide) (fun c1 => ?_) (fun c1 => ?_)
  · have hw := hw.2 c1
    refine lv_iconst (v := (0 : Int32)) hx hb dX8_isNumber_19 (by decide) ?_
    exact W.zret hx hb hr rfl (fun t ht hW => ⟨⟨_, σ, rfl, hw, by unfold wdB; rw [ht]; exact hP⟩, hS.F ht⟩) hS.2.2 dX8_isNumber_20
  · have hw := hw.1 c1
    refine lv_aload_n hx hb dX8_isNumber_7 rfl (lv_at hl 0 rfl) ?_
    refine va_get (D := D) (ci := 8) (C := RX8) (T := TX8) (N := 57) hx hb htb inX8 hown hK hP 0 (mw_0 c q σ) rfl 17 (by decide) (htb _ tb_1198) (fun _ h9 => h9) rfl dX8_isNumber_8 ?_
    refine lv_iconst (v := (2 : Int32)) hx hb dX8_isNumber_11 (by decide) ?_
    refine lv_icmp_ne (tgt := 19) hx hb dX8_isNumber_12 (by decide) (fun c2 => ?_) (fun c2 => ?_)
    · have hw := hw.2 c2
      refine lv_iconst (v := (0 : Int32)) hx hb dX8_isNumber_19 (by decide) ?_
      exact W.zret hx hb hr rfl (fun t ht hW => ⟨⟨_, σ, rfl, hw, by unfold wdB; rw [ht]; exact hP⟩, hS.F ht⟩) hS.2.2 dX8_isNumber_20
    · have hw := hw.1 c2
      refine lv_iconst (v := (1 : Int32)) hx hb dX8_isNumber_15 (by decide) ?_
      refine lv_goto (tgt := 20) hx hb dX8_isNumber_16 (by decide) ?_
      exact W.zret hx hb hr rfl (fun t ht hW => ⟨⟨_, σ, rfl, hw, by unfold wdB; rw [ht]; exact hP⟩, hS.F ht⟩) hS.2.2 dX8_isNumber_20
def wX8_readNumber (x1 : Int32) (x2 : Int32) (x3 : Int32) (x4 : Int32) (post : Int32 → hsS → Prop) (σ : hsS) : Prop := (((σ.1 21) = (0 : Int32) → (((σ.1 17) = (2 : Int32) → (((3 : Int32) < ((σ.1 20) - (σ.1 19)) → wX8_wrong (2 : Int32) (fun σ5 => post (σ5.1 18) σ5) σ) ∧ (¬ (3 : Int32) < ((σ.1 20) - (σ.1 19)) → (((σ.1 18) < x1 → wX8_wrong (2 : Int32) (fun σ8 => post (σ8.1 18) σ8) σ) ∧ (¬ (σ.1 18) < x1 → ((x2 < (σ.1 18) → wX8_wrong (2 : Int32) (fun σ11 => post (σ11.1 18) σ11) σ) ∧ (¬ x2 < (σ.1 18) → ((x4 = (0 : Int32) → (((σ.1 18) < x3 → post (σ.1 18) σ) ∧ (¬ (σ.1 18) < x3 → wX8_wrong (3 : Int32) (fun σ15 => post (σ15.1 18) σ15) σ))) ∧ (¬ x4 = (0 : Int32) → wX8_wrong (2 : Int32) (fun σ17 => post (σ17.1 18) σ17) σ))))))))) ∧ (¬ (σ.1 17) = (2 : Int32) → wX8_wrong (1 : Int32) (fun σ19 => post (σ19.1 18) σ19) σ))) ∧ (¬ (σ.1 21) = (0 : Int32) → post (0 : Int32) σ))
set_option maxHeartbeats 4000000 in
set_option maxRecDepth 100000 in
theorem kcX8_readNumber (l : Launch) (D : va_G) (c : Nat → ClassId) (q : Nat → Nat) (ev : State → Heap → Prop) (hev : evOK (wdA 31 q) ev) (σ : hsS) (x1 : Int32) (x2 : Int32) (x3 : Int32) (x4 : Int32) (post : Int32 → hsS → Prop) (hw : wX8_readNumber x1 x2 x3 x4 post σ) : Met l yX8_readNumber (Cond.code yX8_readNumber cX8_readNumber 5 (some .int) :: tb_L) { frames := 1, cells := 0, slots := 0, locals := 21 } (wdPc D (mw c q) (mwT c) (wdA 31 q) ev σ [.ref (q 0), .int x1, .int x2, .int x3, .int x4]) (va_Qi post (wdB D (mw c q)) (wdA 31 q)) 0 0 (wdA 31 q) := by
  refine Met.ofW (cc := cX8_readNumber) (maxL := 5) (ret := (some .int)) (by decide) rfl ?_
  intro p e s m args below meth c₀ s₁ Bd hml hv
  obtain ⟨rfl, hP, hK, hD0, hE⟩ := hv
  have hx := Bd.exec
  have hb := Bd.bytes
  have hr := Bd.returns
  have hts := atoms_spec (ws := Cond.code yX8_readNumber cX8_readNumber 5 (some .int) :: tb_L) Bd.pre
  have htb : ∀ w ∈ tb_L, w.before [.ref (q 0), .int x1, .int x2, .int x3, .int x4].toArray s = true := fun w h => hts w (List.mem_cons_of_mem _ h)
  have hown : s.vm.findClass RX8 = some m.cls := findClass_of_methodNamed Bd.named
  have hlocks := Bd.notSynchronized
  have hS : va_S (wdA 31 q) s.heap s.heap [] := va_S.rf
  have hD := hD0
  have hl := lv_entry ([.ref (q 0), .int x1, .int x2, .int x3, .int x4]) (n := 5) (Nat.le_of_ble_eq_true rfl)
  rw [lg_entry_eq]
  generalize (lg_sl ([.ref (q 0), .int x1, .int x2, .int x3, .int x4]) ++ List.replicate (5 - (lg_sl ([.ref (q 0), .int x1, .int x2, .int x3, .int x4])).length) Slot.unset).toArray = ls at hl ⊢
  have hl : lv_has ls 5 [(0, .ref (q 0)), (1, .int x1), (2, .int x2), (3, .int x3), (4, .int x4)] := hl
  unfold wX8_readNumber at hw
  refine lv_aload_n hx hb dX8_readNumber_0 rfl (lv_at hl 0 rfl) ?_
  refine va_get (D := D) (ci := 8) (C := RX8) (T := TX8) (N := 57) hx hb htb inX8 hown hK hP 0 (mw_0 c q σ) rfl 21 (by decide) (htb _ tb_1202) (fun _ h9 => h9) rfl dX8_readNumber_1 ?_
  refine lv_if_eq (tgt := 9) hx hb dX8_readNumber_4 (by decide) (fun c1 => ?_) (fun c1 => ?_)
  · have hw := hw.1 c1
    refine lv_aload_n hx hb dX8_readNumber_9 rfl (lv_at hl 0 rfl) ?_
    refine va_get (D := D) (ci := 8) (C := RX8) (T := TX8) (N := 57) hx hb htb inX8 hown hK hP 0 (mw_0 c q σ) rfl 17 (by decide) (htb _ tb_1198) (fun _ h9 => h9) rfl dX8_readNumber_10 ?_
    refine lv_iconst (v := (2 : Int32)) hx hb dX8_readNumber_13 (by decide) ?_
    refine lv_icmp_eq (tgt := 25) hx hb dX8_readNumber_14 (by decide) (fun c2 => ?_) (fun c2 => ?_)
    · have hw := hw.1 c2
      refine lv_aload_n hx hb dX8_readNumber_25 rfl (lv_at hl 0 rfl) ?_
      refine va_get (D := D) (ci := 8) (C := RX8) (T := TX8) (N := 57) hx hb htb inX8 hown hK hP 0 (mw_0 c q σ) rfl 20 (by decide) (htb _ tb_1201) (fun _ h9 => h9) rfl dX8_readNumber_26 ?_
      refine lv_aload_n hx hb dX8_readNumber_29 rfl (lv_at hl 0 rfl) ?_
      refine va_get (D := D) (ci := 8) (C := RX8) (T := TX8) (N := 57) hx hb htb inX8 hown hK hP 0 (mw_0 c q σ) rfl 19 (by decide) (htb _ tb_1200) (fun _ h9 => h9) rfl dX8_readNumber_30 ?_
      refine lv_isub hx hb dX8_readNumber_33 ?_
      refine lv_iconst (v := (3 : Int32)) hx hb dX8_readNumber_34 (by decide) ?_
      refine lv_icmp_gt (tgt := 59) hx hb dX8_readNumber_35 (by decide) (fun c3 => ?_) (fun c3 => ?_)
      · have hw := hw.1 c3
        refine lv_aload_n hx hb dX8_readNumber_59 rfl (lv_at hl 0 rfl) ?_
        refine lv_iconst (v := (2 : Int32)) hx hb dX8_readNumber_60 (by decide) ?_
        refine va_callv (va_runV (As := [.int (2 : Int32)]) (rest := []) ⟨hx, hb, hml, hown, htb⟩ (kcX8_wrong l D c q ev hev σ (2 : Int32) _ hw) (tb_CW htb kX8_wrong tb_1396 tb_1398 tb_47 ⟨Nat.le_of_ble_eq_true rfl, Nat.le_of_ble_eq_true rfl⟩) (wd_preV (wd := mw c q) (k := 0) hev hK hP hD hE hS (mw_0 c q σ) rfl) rfl rfl hl.1 rfl (lv_room (Nat.le_of_ble_eq_true rfl)) dX8_readNumber_61 ⟨Nat.zero_le _, Nat.zero_le _⟩) hS (fun q _ h => h) (fun q h => h) (fun σ5 t H1 locs1 ht hvm hw hB hz1 hk1 hS => ?_)
        have hP : va_P D vwCl (mw c q σ5) H1 := ht ▸ hB
        have hD : va_D (wdA 31 q) (mw c q σ5) := mw_D hD0
        refine lv_goto (tgt := 80) hx hb dX8_readNumber_64 (by decide) ?_
        refine lv_aload_n hx hb dX8_readNumber_80 rfl (lv_at hl 0 rfl) ?_
        refine va_get (D := D) (ci := 8) (C := RX8) (T := TX8) (N := 57) hx hb htb inX8 hown hK hP 0 (mw_0 c q σ5) rfl 18 (by decide) (htb _ tb_1199) (fun _ h9 => h9) rfl dX8_readNumber_81 ?_
        exact W.iret hx hb hr (fun t ht hW => ⟨⟨_, σ5, rfl, hw, by unfold wdB; rw [ht]; exact hP⟩, hS.F ht⟩) hS.2.2 dX8_readNumber_84
      · have hw := hw.2 c3
        refine lv_aload_n hx hb dX8_readNumber_38 rfl (lv_at hl 0 rfl) ?_
        refine va_get (D := D) (ci := 8) (C := RX8) (T := TX8) (N := 57) hx hb htb inX8 hown hK hP 0 (mw_0 c q σ) rfl 18 (by decide) (htb _ tb_1199) (fun _ h9 => h9) rfl dX8_readNumber_39 ?_
        refine lv_iload_n hx hb dX8_readNumber_42 rfl (lv_at hl 1 rfl) ?_
        refine lv_icmp_lt (tgt := 59) hx hb dX8_readNumber_43 (by decide) (fun c6 => ?_) (fun c6 => ?_)
        · have hw := hw.1 c6
          refine lv_aload_n hx hb dX8_readNumber_59 rfl (lv_at hl 0 rfl) ?_
          refine lv_iconst (v := (2 : Int32)) hx hb dX8_readNumber_60 (by decide) ?_
          refine va_callv (va_runV (As := [.int (2 : Int32)]) (rest := []) ⟨hx, hb, hml, hown, htb⟩ (kcX8_wrong l D c q ev hev σ (2 : Int32) _ hw) (tb_CW htb kX8_wrong tb_1396 tb_1398 tb_47 ⟨Nat.le_of_ble_eq_true rfl, Nat.le_of_ble_eq_true rfl⟩) (wd_preV (wd := mw c q) (k := 0) hev hK hP hD hE hS (mw_0 c q σ) rfl) rfl rfl hl.1 rfl (lv_room (Nat.le_of_ble_eq_true rfl)) dX8_readNumber_61 ⟨Nat.zero_le _, Nat.zero_le _⟩) hS (fun q _ h => h) (fun q h => h) (fun σ8 t H1 locs1 ht hvm hw hB hz1 hk1 hS => ?_)
          have hP : va_P D vwCl (mw c q σ8) H1 := ht ▸ hB
          have hD : va_D (wdA 31 q) (mw c q σ8) := mw_D hD0
          refine lv_goto (tgt := 80) hx hb dX8_readNumber_64 (by decide) ?_
          refine lv_aload_n hx hb dX8_readNumber_80 rfl (lv_at hl 0 rfl) ?_
          refine va_get (D := D) (ci := 8) (C := RX8) (T := TX8) (N := 57) hx hb htb inX8 hown hK hP 0 (mw_0 c q σ8) rfl 18 (by decide) (htb _ tb_1199) (fun _ h9 => h9) rfl dX8_readNumber_81 ?_
          exact W.iret hx hb hr (fun t ht hW => ⟨⟨_, σ8, rfl, hw, by unfold wdB; rw [ht]; exact hP⟩, hS.F ht⟩) hS.2.2 dX8_readNumber_84
        · have hw := hw.2 c6
          refine lv_aload_n hx hb dX8_readNumber_46 rfl (lv_at hl 0 rfl) ?_
          refine va_get (D := D) (ci := 8) (C := RX8) (T := TX8) (N := 57) hx hb htb inX8 hown hK hP 0 (mw_0 c q σ) rfl 18 (by decide) (htb _ tb_1199) (fun _ h9 => h9) rfl dX8_readNumber_47 ?_
          refine lv_iload_n hx hb dX8_readNumber_50 rfl (lv_at hl 2 rfl) ?_
          refine lv_icmp_gt (tgt := 59) hx hb dX8_readNumber_51 (by decide) (fun c9 => ?_) (fun c9 => ?_)
          · have hw := hw.1 c9
            refine lv_aload_n hx hb dX8_readNumber_59 rfl (lv_at hl 0 rfl) ?_
            refine lv_iconst (v := (2 : Int32)) hx hb dX8_readNumber_60 (by decide) ?_
            refine va_callv (va_runV (As := [.int (2 : Int32)]) (rest := []) ⟨hx, hb, hml, hown, htb⟩ (kcX8_wrong l D c q ev hev σ (2 : Int32) _ hw) (tb_CW htb kX8_wrong tb_1396 tb_1398 tb_47 ⟨Nat.le_of_ble_eq_true rfl, Nat.le_of_ble_eq_true rfl⟩) (wd_preV (wd := mw c q) (k := 0) hev hK hP hD hE hS (mw_0 c q σ) rfl) rfl rfl hl.1 rfl (lv_room (Nat.le_of_ble_eq_true rfl)) dX8_readNumber_61 ⟨Nat.zero_le _, Nat.zero_le _⟩) hS (fun q _ h => h) (fun q h => h) (fun σ11 t H1 locs1 ht hvm hw hB hz1 hk1 hS => ?_)
            have hP : va_P D vwCl (mw c q σ11) H1 := ht ▸ hB
            have hD : va_D (wdA 31 q) (mw c q σ11) := mw_D hD0
            refine lv_goto (tgt := 80) hx hb dX8_readNumber_64 (by decide) ?_
            refine lv_aload_n hx hb dX8_readNumber_80 rfl (lv_at hl 0 rfl) ?_
            refine va_get (D := D) (ci := 8) (C := RX8) (T := TX8) (N := 57) hx hb htb inX8 hown hK hP 0 (mw_0 c q σ11) rfl 18 (by decide) (htb _ tb_1199) (fun _ h9 => h9) rfl dX8_readNumber_81 ?_
            exact W.iret hx hb hr (fun t ht hW => ⟨⟨_, σ11, rfl, hw, by unfold wdB; rw [ht]; exact hP⟩, hS.F ht⟩) hS.2.2 dX8_readNumber_84
          · have hw := hw.2 c9
            refine lv_iload hx hb dX8_readNumber_54 (lv_at hl 4 rfl) ?_
            refine lv_if_eq (tgt := 67) hx hb dX8_readNumber_56 (by decide) (fun c12 => ?_) (fun c12 => ?_)
            · have hw := hw.1 c12
              refine lv_aload_n hx hb dX8_readNumber_67 rfl (lv_at hl 0 rfl) ?_
              refine va_get (D := D) (ci := 8) (C := RX8) (T := TX8) (N := 57) hx hb htb inX8 hown hK hP 0 (mw_0 c q σ) rfl 18 (by decide) (htb _ tb_1199) (fun _ h9 => h9) rfl dX8_readNumber_68 ?_
              refine lv_iload_n hx hb dX8_readNumber_71 rfl (lv_at hl 3 rfl) ?_
              refine lv_icmp_lt (tgt := 80) hx hb dX8_readNumber_72 (by decide) (fun c13 => ?_) (fun c13 => ?_)
              · have hw := hw.1 c13
                refine lv_aload_n hx hb dX8_readNumber_80 rfl (lv_at hl 0 rfl) ?_
                refine va_get (D := D) (ci := 8) (C := RX8) (T := TX8) (N := 57) hx hb htb inX8 hown hK hP 0 (mw_0 c q σ) rfl 18 (by decide) (htb _ tb_1199) (fun _ h9 => h9) rfl dX8_readNumber_81 ?_
                exact W.iret hx hb hr (fun t ht hW => ⟨⟨_, σ, rfl, hw, by unfold wdB; rw [ht]; exact hP⟩, hS.F ht⟩) hS.2.2 dX8_readNumber_84
              · have hw := hw.2 c13
                refine lv_aload_n hx hb dX8_readNumber_75 rfl (lv_at hl 0 rfl) ?_
                refine lv_iconst (v := (3 : Int32)) hx hb dX8_readNumber_76 (by decide) ?_
                refine va_callv (va_runV (As := [.int (3 : Int32)]) (rest := []) ⟨hx, hb, hml, hown, htb⟩ (kcX8_wrong l D c q ev hev σ (3 : Int32) _ hw) (tb_CW htb kX8_wrong tb_1396 tb_1398 tb_47 ⟨Nat.le_of_ble_eq_true rfl, Nat.le_of_ble_eq_true rfl⟩) (wd_preV (wd := mw c q) (k := 0) hev hK hP hD hE hS (mw_0 c q σ) rfl) rfl rfl hl.1 rfl (lv_room (Nat.le_of_ble_eq_true rfl)) dX8_readNumber_77 ⟨Nat.zero_le _, Nat.zero_le _⟩) hS (fun q _ h => h) (fun q h => h) (fun σ15 t H1 locs1 ht hvm hw hB hz1 hk1 hS => ?_)
                have hP : va_P D vwCl (mw c q σ15) H1 := ht ▸ hB
                have hD : va_D (wdA 31 q) (mw c q σ15) := mw_D hD0
                refine lv_aload_n hx hb dX8_readNumber_80 rfl (lv_at hl 0 rfl) ?_
                refine va_get (D := D) (ci := 8) (C := RX8) (T := TX8) (N := 57) hx hb htb inX8 hown hK hP 0 (mw_0 c q σ15) rfl 18 (by decide) (htb _ tb_1199) (fun _ h9 => h9) rfl dX8_readNumber_81 ?_
                exact W.iret hx hb hr (fun t ht hW => ⟨⟨_, σ15, rfl, hw, by unfold wdB; rw [ht]; exact hP⟩, hS.F ht⟩) hS.2.2 dX8_readNumber_84
            · have hw := hw.2 c12
              refine lv_aload_n hx hb dX8_readNumber_59 rfl (lv_at hl 0 rfl) ?_
              refine lv_iconst (v := (2 : Int32)) hx hb dX8_readNumber_60 (by decide) ?_
              refine va_callv (va_runV (As := [.int (2 : Int32)]) (rest := []) ⟨hx, hb, hml, hown, htb⟩ (kcX8_wrong l D c q ev hev σ (2 : Int32) _ hw) (tb_CW htb kX8_wrong tb_1396 tb_1398 tb_47 ⟨Nat.le_of_ble_eq_true rfl, Nat.le_of_ble_eq_true rfl⟩) (wd_preV (wd := mw c q) (k := 0) hev hK hP hD hE hS (mw_0 c q σ) rfl) rfl rfl hl.1 rfl (lv_room (Nat.le_of_ble_eq_true rfl)) dX8_readNumber_61 ⟨Nat.zero_le _, Nat.zero_le _⟩) hS (fun q _ h => h) (fun q h => h) (fun σ17 t H1 locs1 ht hvm hw hB hz1 hk1 hS => ?_)
              have hP : va_P D vwCl (mw c q σ17) H1 := ht ▸ hB
              have hD : va_D (wdA 31 q) (mw c q σ17) := mw_D hD0
              refine lv_goto (tgt := 80) hx hb dX8_readNumber_64 (by decide) ?_
              refine lv_aload_n hx hb dX8_readNumber_80 rfl (lv_at hl 0 rfl) ?_
              refine va_get (D := D) (ci := 8) (C := RX8) (T := TX8) (N := 57) hx hb htb inX8 hown hK hP 0 (mw_0 c q σ17) rfl 18 (by decide) (htb _ tb_1199) (fun _ h9 => h9) rfl dX8_readNumber_81 ?_
              exact W.iret hx hb hr (fun t ht hW => ⟨⟨_, σ17, rfl, hw, by unfold wdB; rw [ht]; exact hP⟩, hS.F ht⟩) hS.2.2 dX8_readNumber_84
    · have hw := hw.2 c2
      refine lv_aload_n hx hb dX8_readNumber_17 rfl (lv_at hl 0 rfl) ?_
      refine lv_iconst (v := (1 : Int32)) hx hb dX8_readNumber_18 (by decide) ?_
      refine va_callv (va_runV (As := [.int (1 : Int32)]) (rest := []) ⟨hx, hb, hml, hown, htb⟩ (kcX8_wrong l D c q ev hev σ (1 : Int32) _ hw) (tb_CW htb kX8_wrong tb_1396 tb_1398 tb_47 ⟨Nat.le_of_ble_eq_true rfl, Nat.le_of_ble_eq_true rfl⟩) (wd_preV (wd := mw c q) (k := 0) hev hK hP hD hE hS (mw_0 c q σ) rfl) rfl rfl hl.1 rfl (lv_room (Nat.le_of_ble_eq_true rfl)) dX8_readNumber_19 ⟨Nat.zero_le _, Nat.zero_le _⟩) hS (fun q _ h => h) (fun q h => h) (fun σ19 t H1 locs1 ht hvm hw hB hz1 hk1 hS => ?_)
      have hP : va_P D vwCl (mw c q σ19) H1 := ht ▸ hB
      have hD : va_D (wdA 31 q) (mw c q σ19) := mw_D hD0
      refine lv_goto (tgt := 80) hx hb dX8_readNumber_22 (by decide) ?_
      refine lv_aload_n hx hb dX8_readNumber_80 rfl (lv_at hl 0 rfl) ?_
      refine va_get (D := D) (ci := 8) (C := RX8) (T := TX8) (N := 57) hx hb htb inX8 hown hK hP 0 (mw_0 c q σ19) rfl 18 (by decide) (htb _ tb_1199) (fun _ h9 => h9) rfl dX8_readNumber_81 ?_
      exact W.iret hx hb hr (fun t ht hW => ⟨⟨_, σ19, rfl, hw, by unfold wdB; rw [ht]; exact hP⟩, hS.F ht⟩) hS.2.2 dX8_readNumber_84
  · have hw := hw.2 c1
    refine lv_iconst (v := (0 : Int32)) hx hb dX8_readNumber_7 (by decide) ?_
    exact W.iret hx hb hr (fun t ht hW => ⟨⟨_, σ, rfl, hw, by unfold wdB; rw [ht]; exact hP⟩, hS.F ht⟩) hS.2.2 dX8_readNumber_8
def wX8_semi  (post : hsS → Prop) (σ : hsS) : Prop := (((σ.1 21) = (0 : Int32) → (((σ.1 17) = (3 : Int32) → (((σ.1 21) = (0 : Int32) → wX8_step  (fun σ5 => post σ5) σ) ∧ (¬ (σ.1 21) = (0 : Int32) → post σ))) ∧ (¬ (σ.1 17) = (3 : Int32) → wX8_wrong (1 : Int32) (fun σ7 => (((σ7.1 21) = (0 : Int32) → wX8_step  (fun σ10 => post σ10) σ7) ∧ (¬ (σ7.1 21) = (0 : Int32) → post σ7))) σ))) ∧ (¬ (σ.1 21) = (0 : Int32) → (((σ.1 21) = (0 : Int32) → wX8_step  (fun σ13 => post σ13) σ) ∧ (¬ (σ.1 21) = (0 : Int32) → post σ))))
set_option maxHeartbeats 4000000 in
set_option maxRecDepth 100000 in
theorem kcX8_semi (l : Launch) (D : va_G) (c : Nat → ClassId) (q : Nat → Nat) (ev : State → Heap → Prop) (hev : evOK (wdA 31 q) ev) (σ : hsS)  (post : hsS → Prop) (hw : wX8_semi  post σ) : Met l yX8_semi (Cond.code yX8_semi cX8_semi 1 none :: tb_L) { frames := 2, cells := 0, slots := 0, locals := 61 } (wdPc D (mw c q) (mwT c) (wdA 31 q) ev σ [.ref (q 0)]) (va_Qv post (wdB D (mw c q)) (wdA 31 q)) 0 0 (wdA 31 q) := by
  refine Met.ofW (cc := cX8_semi) (maxL := 1) (ret := none) (by decide) rfl ?_
  intro p e s m args below meth c₀ s₁ Bd hml hv
  obtain ⟨rfl, hP, hK, hD0, hE⟩ := hv
  have hx := Bd.exec
  have hb := Bd.bytes
  have hr := Bd.returns
  have hts := atoms_spec (ws := Cond.code yX8_semi cX8_semi 1 none :: tb_L) Bd.pre
  have htb : ∀ w ∈ tb_L, w.before [.ref (q 0)].toArray s = true := fun w h => hts w (List.mem_cons_of_mem _ h)
  have hown : s.vm.findClass RX8 = some m.cls := findClass_of_methodNamed Bd.named
  have hlocks := Bd.notSynchronized
  have hS : va_S (wdA 31 q) s.heap s.heap [] := va_S.rf
  have hD := hD0
  have hl := lv_entry ([.ref (q 0)]) (n := 1) (Nat.le_of_ble_eq_true rfl)
  rw [lg_entry_eq]
  generalize (lg_sl ([.ref (q 0)]) ++ List.replicate (1 - (lg_sl ([.ref (q 0)])).length) Slot.unset).toArray = ls at hl ⊢
  have hl : lv_has ls 1 [(0, .ref (q 0))] := hl
  unfold wX8_semi at hw
  refine lv_aload_n hx hb dX8_semi_0 rfl (lv_at hl 0 rfl) ?_
  refine va_get (D := D) (ci := 8) (C := RX8) (T := TX8) (N := 57) hx hb htb inX8 hown hK hP 0 (mw_0 c q σ) rfl 21 (by decide) (htb _ tb_1202) (fun _ h9 => h9) rfl dX8_semi_1 ?_
  refine lv_if_ne (tgt := 20) hx hb dX8_semi_4 (by decide) (fun c1 => ?_) (fun c1 => ?_)
  · have hw := hw.2 c1
    refine lv_aload_n hx hb dX8_semi_20 rfl (lv_at hl 0 rfl) ?_
    refine va_get (D := D) (ci := 8) (C := RX8) (T := TX8) (N := 57) hx hb htb inX8 hown hK hP 0 (mw_0 c q σ) rfl 21 (by decide) (htb _ tb_1202) (fun _ h9 => h9) rfl dX8_semi_21 ?_
    refine lv_if_ne (tgt := 31) hx hb dX8_semi_24 (by decide) (fun c11 => ?_) (fun c11 => ?_)
    · have hw := hw.2 c11
      exact W.vret hx hb hr (fun t ht hW => ⟨⟨σ, rfl, hw, by unfold wdB; rw [ht]; exact hP⟩, hS.F ht⟩) hS.2.2 dX8_semi_31
    · have hw := hw.1 c11
      refine lv_aload_n hx hb dX8_semi_27 rfl (lv_at hl 0 rfl) ?_
      refine va_callv (va_runV (As := []) (rest := []) ⟨hx, hb, hml, hown, htb⟩ (kcX8_step l D c q ev hev σ  _ hw) (tb_CW htb kX8_step tb_1370 tb_1372 tb_43 ⟨Nat.le_of_ble_eq_true rfl, Nat.le_of_ble_eq_true rfl⟩) (wd_preV (wd := mw c q) (k := 0) hev hK hP hD hE hS (mw_0 c q σ) rfl) rfl rfl hl.1 rfl (lv_room (Nat.le_of_ble_eq_true rfl)) dX8_semi_28 ⟨Nat.zero_le _, Nat.zero_le _⟩) hS (fun q _ h => h) (fun q h => h) (fun σ13 t H1 locs1 ht hvm hw hB hz1 hk1 hS => ?_)
      have hP : va_P D vwCl (mw c q σ13) H1 := ht ▸ hB
      have hD : va_D (wdA 31 q) (mw c q σ13) := mw_D hD0
      exact W.vret hx hb hr (fun t ht hW => ⟨⟨σ13, rfl, hw, by unfold wdB; rw [ht]; exact hP⟩, hS.F ht⟩) hS.2.2 dX8_semi_31
  · have hw := hw.1 c1
    refine lv_aload_n hx hb dX8_semi_7 rfl (lv_at hl 0 rfl) ?_
    refine va_get (D := D) (ci := 8) (C := RX8) (T := TX8) (N := 57) hx hb htb inX8 hown hK hP 0 (mw_0 c q σ) rfl 17 (by decide) (htb _ tb_1198) (fun _ h9 => h9) rfl dX8_semi_8 ?_
    refine lv_iconst (v := (3 : Int32)) hx hb dX8_semi_11 (by decide) ?_
    refine lv_icmp_eq (tgt := 20) hx hb dX8_semi_12 (by decide) (fun c2 => ?_) (fun c2 => ?_)
    · have hw := hw.1 c2
      refine lv_aload_n hx hb dX8_semi_20 rfl (lv_at hl 0 rfl) ?_
      refine va_get (D := D) (ci := 8) (C := RX8) (T := TX8) (N := 57) hx hb htb inX8 hown hK hP 0 (mw_0 c q σ) rfl 21 (by decide) (htb _ tb_1202) (fun _ h9 => h9) rfl dX8_semi_21 ?_
      refine lv_if_ne (tgt := 31) hx hb dX8_semi_24 (by decide) (fun c3 => ?_) (fun c3 => ?_)
      · have hw := hw.2 c3
        exact W.vret hx hb hr (fun t ht hW => ⟨⟨σ, rfl, hw, by unfold wdB; rw [ht]; exact hP⟩, hS.F ht⟩) hS.2.2 dX8_semi_31
      · have hw := hw.1 c3
        refine lv_aload_n hx hb dX8_semi_27 rfl (lv_at hl 0 rfl) ?_
        refine va_callv (va_runV (As := []) (rest := []) ⟨hx, hb, hml, hown, htb⟩ (kcX8_step l D c q ev hev σ  _ hw) (tb_CW htb kX8_step tb_1370 tb_1372 tb_43 ⟨Nat.le_of_ble_eq_true rfl, Nat.le_of_ble_eq_true rfl⟩) (wd_preV (wd := mw c q) (k := 0) hev hK hP hD hE hS (mw_0 c q σ) rfl) rfl rfl hl.1 rfl (lv_room (Nat.le_of_ble_eq_true rfl)) dX8_semi_28 ⟨Nat.zero_le _, Nat.zero_le _⟩) hS (fun q _ h => h) (fun q h => h) (fun σ5 t H1 locs1 ht hvm hw hB hz1 hk1 hS => ?_)
        have hP : va_P D vwCl (mw c q σ5) H1 := ht ▸ hB
        have hD : va_D (wdA 31 q) (mw c q σ5) := mw_D hD0
        exact W.vret hx hb hr (fun t ht hW => ⟨⟨σ5, rfl, hw, by unfold wdB; rw [ht]; exact hP⟩, hS.F ht⟩) hS.2.2 dX8_semi_31
    · have hw := hw.2 c2
      refine lv_aload_n hx hb dX8_semi_15 rfl (lv_at hl 0 rfl) ?_
      refine lv_iconst (v := (1 : Int32)) hx hb dX8_semi_16 (by decide) ?_
      refine va_callv (va_runV (As := [.int (1 : Int32)]) (rest := []) ⟨hx, hb, hml, hown, htb⟩ (kcX8_wrong l D c q ev hev σ (1 : Int32) _ hw) (tb_CW htb kX8_wrong tb_1396 tb_1398 tb_47 ⟨Nat.le_of_ble_eq_true rfl, Nat.le_of_ble_eq_true rfl⟩) (wd_preV (wd := mw c q) (k := 0) hev hK hP hD hE hS (mw_0 c q σ) rfl) rfl rfl hl.1 rfl (lv_room (Nat.le_of_ble_eq_true rfl)) dX8_semi_17 ⟨Nat.zero_le _, Nat.zero_le _⟩) hS (fun q _ h => h) (fun q h => h) (fun σ7 t H1 locs1 ht hvm hw hB hz1 hk1 hS => ?_)
      have hP : va_P D vwCl (mw c q σ7) H1 := ht ▸ hB
      have hD : va_D (wdA 31 q) (mw c q σ7) := mw_D hD0
      refine lv_aload_n hx hb dX8_semi_20 rfl (lv_at hl 0 rfl) ?_
      refine va_get (D := D) (ci := 8) (C := RX8) (T := TX8) (N := 57) hx hb htb inX8 hown hK hP 0 (mw_0 c q σ7) rfl 21 (by decide) (htb _ tb_1202) (fun _ h9 => h9) rfl dX8_semi_21 ?_
      refine lv_if_ne (tgt := 31) hx hb dX8_semi_24 (by decide) (fun c8 => ?_) (fun c8 => ?_)
      · have hw := hw.2 c8
        exact W.vret hx hb hr (fun t ht hW => ⟨⟨σ7, rfl, hw, by unfold wdB; rw [ht]; exact hP⟩, hS.F ht⟩) hS.2.2 dX8_semi_31
      · have hw := hw.1 c8
        refine lv_aload_n hx hb dX8_semi_27 rfl (lv_at hl 0 rfl) ?_
        refine va_callv (va_runV (As := []) (rest := []) ⟨hx, hb, hml, hown, htb⟩ (kcX8_step l D c q ev hev σ7  _ hw) (tb_CW htb kX8_step tb_1370 tb_1372 tb_43 ⟨Nat.le_of_ble_eq_true rfl, Nat.le_of_ble_eq_true rfl⟩) (wd_preV (wd := mw c q) (k := 0) hev hK hP hD hE hS (mw_0 c q σ7) rfl) rfl rfl hl.1 rfl (lv_room (Nat.le_of_ble_eq_true rfl)) dX8_semi_28 ⟨Nat.zero_le _, Nat.zero_le _⟩) hS (fun q _ h => h) (fun q h => h) (fun σ10 t H1 locs1 ht hvm hw hB hz1 hk1 hS => ?_)
        have hP : va_P D vwCl (mw c q σ10) H1 := ht ▸ hB
        have hD : va_D (wdA 31 q) (mw c q σ10) := mw_D hD0
        exact W.vret hx hb hr (fun t ht hW => ⟨⟨σ10, rfl, hw, by unfold wdB; rw [ht]; exact hP⟩, hS.F ht⟩) hS.2.2 dX8_semi_31
def wX8_readTurns_L11 (K55 : hsS → Prop) (K92 : hsS → Prop) (post : hsS → Prop) : Nat → hsS → Prop
  | 0, _ => False
  | n + 1, σ => (((σ.2.1 6 (1 : Int32).toNatClampNeg) = ((σ.2.1 1 (1 : Int32).toNatClampNeg) - (1 : Int32)) → wX8_readNumber (0 : Int32) (999 : Int32) (σ.2.1 2 (1 : Int32).toNatClampNeg) (1 : Int32) (fun r5 σ6 => (((σ6.1 21) = (0 : Int32) → vp_in ((9 : Int32) + (σ6.2.1 6 (1 : Int32).toNatClampNeg)) 18 ∧ ∀ σ8 : hsS, σ8 = hsA σ6 10 (upd (σ6.2.1 10) ((9 : Int32) + (σ6.2.1 6 (1 : Int32).toNatClampNeg)).toNatClampNeg r5) → ∀ σ9 : hsS, σ9 = hsA σ8 6 (upd (σ8.2.1 6) (1 : Int32).toNatClampNeg ((σ8.2.1 6 (1 : Int32).toNatClampNeg) + (1 : Int32))) → wX8_step  (fun σ11 => wX8_isNumber  (fun r12 σ13 => ((r12 = (0 : Int32) → K92 σ13) ∧ (¬ r12 = (0 : Int32) → wX8_readTurns_L11  K55 K92 post n σ13))) σ11) σ9) ∧ (¬ (σ6.1 21) = (0 : Int32) → K55 σ6))) σ) ∧ (¬ (σ.2.1 6 (1 : Int32).toNatClampNeg) = ((σ.2.1 1 (1 : Int32).toNatClampNeg) - (1 : Int32)) → wX8_readNumber (0 : Int32) (999 : Int32) (σ.2.1 2 (1 : Int32).toNatClampNeg) (0 : Int32) (fun r15 σ16 => (((σ16.1 21) = (0 : Int32) → vp_in ((9 : Int32) + (σ16.2.1 6 (1 : Int32).toNatClampNeg)) 18 ∧ ∀ σ18 : hsS, σ18 = hsA σ16 10 (upd (σ16.2.1 10) ((9 : Int32) + (σ16.2.1 6 (1 : Int32).toNatClampNeg)).toNatClampNeg r15) → ∀ σ19 : hsS, σ19 = hsA σ18 6 (upd (σ18.2.1 6) (1 : Int32).toNatClampNeg ((σ18.2.1 6 (1 : Int32).toNatClampNeg) + (1 : Int32))) → wX8_step  (fun σ21 => wX8_isNumber  (fun r22 σ23 => ((r22 = (0 : Int32) → K92 σ23) ∧ (¬ r22 = (0 : Int32) → wX8_readTurns_L11  K55 K92 post n σ23))) σ21) σ19) ∧ (¬ (σ16.1 21) = (0 : Int32) → K55 σ16))) σ))
def wX8_readTurns  (post : hsS → Prop) (σ : hsS) : Prop := wX8_step  (fun σ2 => ∀ σ3 : hsS, σ3 = hsA σ2 6 (upd (σ2.2.1 6) (1 : Int32).toNatClampNeg (0 : Int32)) → ∃ n25, wX8_readTurns_L11  (fun σ26 => post σ26) (fun σ27 => post σ27) post n25  σ3) σ
set_option maxHeartbeats 4000000 in
set_option maxRecDepth 100000 in
theorem kcX8_readTurns (l : Launch) (D : va_G) (c : Nat → ClassId) (q : Nat → Nat) (ev : State → Heap → Prop) (hev : evOK (wdA 31 q) ev) (σ : hsS)  (post : hsS → Prop) (hw : wX8_readTurns  post σ) : Met l yX8_readTurns (Cond.code yX8_readTurns cX8_readTurns 2 none :: tb_L) { frames := 2, cells := 0, slots := 0, locals := 61 } (wdPc D (mw c q) (mwT c) (wdA 31 q) ev σ [.ref (q 0)]) (va_Qv post (wdB D (mw c q)) (wdA 31 q)) 0 0 (wdA 31 q) := by
  refine Met.ofW (cc := cX8_readTurns) (maxL := 2) (ret := none) (by decide) rfl ?_
  intro p e s m args below meth c₀ s₁ Bd hml hv
  obtain ⟨rfl, hP, hK, hD0, hE⟩ := hv
  have hx := Bd.exec
  have hb := Bd.bytes
  have hr := Bd.returns
  have hts := atoms_spec (ws := Cond.code yX8_readTurns cX8_readTurns 2 none :: tb_L) Bd.pre
  have htb : ∀ w ∈ tb_L, w.before [.ref (q 0)].toArray s = true := fun w h => hts w (List.mem_cons_of_mem _ h)
  have hown : s.vm.findClass RX8 = some m.cls := findClass_of_methodNamed Bd.named
  have hlocks := Bd.notSynchronized
  have hS : va_S (wdA 31 q) s.heap s.heap [] := va_S.rf
  have hD := hD0
  have L11 : ∀ (K55 : hsS → Prop) (K92 : hsS → Prop) (n : Nat) (σ : hsS) (H : Heap) (locs : List Loc) (ls : Array Slot), wX8_readTurns_L11  K55 K92 post n σ → (∀ (σ : hsS) (H : Heap) (locs : List Loc) (ls : Array Slot), K55 σ → va_P D vwCl (mw c q σ) H → va_S (wdA 31 q) s.heap H locs → lv_has ls 2 [(0, .ref (q 0))] → W p l e (headSpec (Cond.code yX8_readTurns cX8_readTurns 2 none :: tb_L) { frames := 2, cells := 0, slots := 0, locals := 61 }).room s m [.ref (q 0)].toArray below meth c₀ H locs 0 0 (MQ below (va_Qv post (wdB D (mw c q)) (wdA 31 q)) [.ref (q 0)].toArray s 0 0 (wdA 31 q)) (F0 m 55 ls [])) → (∀ (σ : hsS) (H : Heap) (locs : List Loc) (ls : Array Slot), K92 σ → va_P D vwCl (mw c q σ) H → va_S (wdA 31 q) s.heap H locs → lv_has ls 2 [(0, .ref (q 0))] → W p l e (headSpec (Cond.code yX8_readTurns cX8_readTurns 2 none :: tb_L) { frames := 2, cells := 0, slots := 0, locals := 61 }).room s m [.ref (q 0)].toArray below meth c₀ H locs 0 0 (MQ below (va_Qv post (wdB D (mw c q)) (wdA 31 q)) [.ref (q 0)].toArray s 0 0 (wdA 31 q)) (F0 m 92 ls [])) → va_P D vwCl (mw c q σ) H → va_S (wdA 31 q) s.heap H locs → lv_has ls 2 [(0, .ref (q 0))] → W p l e (headSpec (Cond.code yX8_readTurns cX8_readTurns 2 none :: tb_L) { frames := 2, cells := 0, slots := 0, locals := 61 }).room s m [.ref (q 0)].toArray below meth c₀ H locs 0 0 (MQ below (va_Qv post (wdB D (mw c q)) (wdA 31 q)) [.ref (q 0)].toArray s 0 0 (wdA 31 q)) (F0 m 11 ls []) := by
    intro K55 K92 n
    induction n with
    | zero =>
      intro σ H locs ls hw hk55 hk92 hP hS hl
      exact (show False from hw).elim
    | succ n ih =>
      intro σ H locs ls hw hk55 hk92 hP hS hl
      rw [wX8_readTurns_L11] at hw
      have hD : va_D (wdA 31 q) (mw c q σ) := mw_D hD0
      refine lv_aload_n hx hb dX8_readTurns_11 rfl (lv_at hl 0 rfl) ?_
      refine lv_iconst (v := (0 : Int32)) hx hb dX8_readTurns_12 (by decide) ?_
      refine lv_sipush (v := (999 : Int32)) hx hb dX8_readTurns_13 (by decide) ?_
      refine lv_aload_n hx hb dX8_readTurns_16 rfl (lv_at hl 0 rfl) ?_
      refine va_get (D := D) (ci := 8) (C := RX8) (T := TX8) (N := 57) hx hb htb inX8 hown hK hP 0 (mw_0 c q σ) rfl 2 (by decide) (htb _ tb_1183) (fun _ h9 => h9) rfl dX8_readTurns_17 ?_
      refine lv_iconst (v := (1 : Int32)) hx hb dX8_readTurns_20 (by decide) ?_
      refine va_iald hx hb hK hP 2 1 (mw_2 c q σ) rfl (by unfold vp_in; decide) dX8_readTurns_21 ?_
      refine lv_aload_n hx hb dX8_readTurns_22 rfl (lv_at hl 0 rfl) ?_
      refine va_get (D := D) (ci := 8) (C := RX8) (T := TX8) (N := 57) hx hb htb inX8 hown hK hP 0 (mw_0 c q σ) rfl 6 (by decide) (htb _ tb_1187) (fun _ h9 => h9) rfl dX8_readTurns_23 ?_
      refine lv_iconst (v := (1 : Int32)) hx hb dX8_readTurns_26 (by decide) ?_
      refine va_iald hx hb hK hP 6 5 (mw_6 c q σ) rfl (by unfold vp_in; decide) dX8_readTurns_27 ?_
      refine lv_aload_n hx hb dX8_readTurns_28 rfl (lv_at hl 0 rfl) ?_
      refine va_get (D := D) (ci := 8) (C := RX8) (T := TX8) (N := 57) hx hb htb inX8 hown hK hP 0 (mw_0 c q σ) rfl 1 (by decide) (htb _ tb_1182) (fun _ h9 => h9) rfl dX8_readTurns_29 ?_
      refine lv_iconst (v := (1 : Int32)) hx hb dX8_readTurns_32 (by decide) ?_
      refine va_iald hx hb hK hP 1 0 (mw_1 c q σ) rfl (by unfold vp_in; decide) dX8_readTurns_33 ?_
      refine lv_iconst (v := (1 : Int32)) hx hb dX8_readTurns_34 (by decide) ?_
      refine lv_isub hx hb dX8_readTurns_35 ?_
      refine lv_icmp_ne (tgt := 43) hx hb dX8_readTurns_36 (by decide) (fun c4 => ?_) (fun c4 => ?_)
      · have hw := hw.2 c4
        refine lv_iconst (v := (0 : Int32)) hx hb dX8_readTurns_43 (by decide) ?_
        refine va_calli (va_runV (As := [.int (0 : Int32), .int (999 : Int32), .int (σ.2.1 2 (1 : Int32).toNatClampNeg), .int (0 : Int32)]) (rest := []) ⟨hx, hb, hml, hown, htb⟩ (kcX8_readNumber l D c q ev hev σ (0 : Int32) (999 : Int32) (σ.2.1 2 (1 : Int32).toNatClampNeg) (0 : Int32) _ hw) (tb_CW htb kX8_readNumber tb_1400 tb_1402 tb_48 ⟨Nat.le_of_ble_eq_true rfl, Nat.le_of_ble_eq_true rfl⟩) (wd_preV (wd := mw c q) (k := 0) hev hK hP hD hE hS (mw_0 c q σ) rfl) rfl rfl hl.1 rfl (lv_room (Nat.le_of_ble_eq_true rfl)) dX8_readTurns_44 ⟨Nat.zero_le _, Nat.zero_le _⟩) hS (fun q _ h => h) (fun q h => h) (fun r15 σ16 t H1 locs1 ht hvm hw hB hz1 hk1 hS => ?_)
        have hP : va_P D vwCl (mw c q σ16) H1 := ht ▸ hB
        have hD : va_D (wdA 31 q) (mw c q σ16) := mw_D hD0
        refine lv_istore_n (lv' := [(1, .int r15), (0, .ref (q 0))]) hx hb dX8_readTurns_47 rfl hl (by decide) rfl (fun ls hl => ?_)
        refine lv_aload_n hx hb dX8_readTurns_48 rfl (lv_at hl 1 rfl) ?_
        refine va_get (D := D) (ci := 8) (C := RX8) (T := TX8) (N := 57) hx hb htb inX8 hown hK hP 0 (mw_0 c q σ16) rfl 21 (by decide) (htb _ tb_1202) (fun _ h9 => h9) rfl dX8_readTurns_49 ?_
        refine lv_if_eq (tgt := 56) hx hb dX8_readTurns_52 (by decide) (fun c17 => ?_) (fun c17 => ?_)
        · have hw := hw.1 c17
          refine lv_aload_n hx hb dX8_readTurns_56 rfl (lv_at hl 1 rfl) ?_
          refine va_get (D := D) (ci := 8) (C := RX8) (T := TX8) (N := 57) hx hb htb inX8 hown hK hP 0 (mw_0 c q σ16) rfl 10 (by decide) (htb _ tb_1191) (fun _ h9 => h9) rfl dX8_readTurns_57 ?_
          refine lv_bipush (v := (9 : Int32)) hx hb dX8_readTurns_60 (by decide) ?_
          refine lv_aload_n hx hb dX8_readTurns_62 rfl (lv_at hl 1 rfl) ?_
          refine va_get (D := D) (ci := 8) (C := RX8) (T := TX8) (N := 57) hx hb htb inX8 hown hK hP 0 (mw_0 c q σ16) rfl 6 (by decide) (htb _ tb_1187) (fun _ h9 => h9) rfl dX8_readTurns_63 ?_
          refine lv_iconst (v := (1 : Int32)) hx hb dX8_readTurns_66 (by decide) ?_
          refine va_iald hx hb hK hP 6 5 (mw_6 c q σ16) rfl (by unfold vp_in; decide) dX8_readTurns_67 ?_
          refine lv_iadd hx hb dX8_readTurns_68 ?_
          refine lv_iload_n hx hb dX8_readTurns_69 rfl (lv_at hl 0 rfl) ?_
          refine va_iast hx hb hK hP hD hS 10 9 (mw_10 c q σ16) rfl hw.1 dX8_readTurns_70 (fun H locs hP hD hS => ?_)
          have hw := hw.2
          have hP : va_P D vwCl (mw c q (hsA σ16 10 (upd (σ16.2.1 10) ((9 : Int32) + (σ16.2.1 6 (1 : Int32).toNatClampNeg)).toNatClampNeg r15))) H := hP
          obtain ⟨σ18, eσ18⟩ : ∃ z : hsS, z = hsA σ16 10 (upd (σ16.2.1 10) ((9 : Int32) + (σ16.2.1 6 (1 : Int32).toNatClampNeg)).toNatClampNeg r15) := ⟨_, rfl⟩
          rw [← eσ18] at hP
          have hD : va_D (wdA 31 q) (mw c q σ18) := mw_D hD0
          have hw := hw σ18 eσ18
          refine lv_aload_n hx hb dX8_readTurns_71 rfl (lv_at hl 1 rfl) ?_
          refine va_get (D := D) (ci := 8) (C := RX8) (T := TX8) (N := 57) hx hb htb inX8 hown hK hP 0 (mw_0 c q σ18) rfl 6 (by decide) (htb _ tb_1187) (fun _ h9 => h9) rfl dX8_readTurns_72 ?_
          refine lv_iconst (v := (1 : Int32)) hx hb dX8_readTurns_75 (by decide) ?_
          refine lv_dup2_11 hx hb dX8_readTurns_76 rfl rfl ?_
          refine va_iald hx hb hK hP 6 5 (mw_6 c q σ18) rfl (by unfold vp_in; decide) dX8_readTurns_77 ?_
          refine lv_iconst (v := (1 : Int32)) hx hb dX8_readTurns_78 (by decide) ?_
          refine lv_iadd hx hb dX8_readTurns_79 ?_
          refine va_iast hx hb hK hP hD hS 6 5 (mw_6 c q σ18) rfl (by unfold vp_in; decide) dX8_readTurns_80 (fun H locs hP hD hS => ?_)
          have hP : va_P D vwCl (mw c q (hsA σ18 6 (upd (σ18.2.1 6) (1 : Int32).toNatClampNeg ((σ18.2.1 6 (1 : Int32).toNatClampNeg) + (1 : Int32))))) H := hP
          obtain ⟨σ19, eσ19⟩ : ∃ z : hsS, z = hsA σ18 6 (upd (σ18.2.1 6) (1 : Int32).toNatClampNeg ((σ18.2.1 6 (1 : Int32).toNatClampNeg) + (1 : Int32))) := ⟨_, rfl⟩
          rw [← eσ19] at hP
          have hD : va_D (wdA 31 q) (mw c q σ19) := mw_D hD0
          have hw := hw σ19 eσ19
          refine lv_aload_n hx hb dX8_readTurns_81 rfl (lv_at hl 1 rfl) ?_
          refine va_callv (va_runV (As := []) (rest := []) ⟨hx, hb, hml, hown, htb⟩ (kcX8_step l D c q ev hev σ19  _ hw) (tb_CW htb kX8_step tb_1370 tb_1372 tb_43 ⟨Nat.le_of_ble_eq_true rfl, Nat.le_of_ble_eq_true rfl⟩) (wd_preV (wd := mw c q) (k := 0) hev hK hP hD hE hS (mw_0 c q σ19) rfl) rfl rfl hl.1 rfl (lv_room (Nat.le_of_ble_eq_true rfl)) dX8_readTurns_82 ⟨Nat.zero_le _, Nat.zero_le _⟩) hS (fun q _ h => h) (fun q h => h) (fun σ21 t H1 locs1 ht hvm hw hB hz1 hk1 hS => ?_)
          have hP : va_P D vwCl (mw c q σ21) H1 := ht ▸ hB
          have hD : va_D (wdA 31 q) (mw c q σ21) := mw_D hD0
          refine lv_aload_n hx hb dX8_readTurns_85 rfl (lv_at hl 1 rfl) ?_
          refine va_calli (va_runV (As := []) (rest := []) ⟨hx, hb, hml, hown, htb⟩ (kcX8_isNumber l D c q ev hev σ21  _ hw) (tb_CW htb kX8_isNumber tb_1433 tb_1435 tb_54 ⟨Nat.le_of_ble_eq_true rfl, Nat.le_of_ble_eq_true rfl⟩) (wd_preV (wd := mw c q) (k := 0) hev hK hP hD hE hS (mw_0 c q σ21) rfl) rfl rfl hl.1 rfl (lv_room (Nat.le_of_ble_eq_true rfl)) dX8_readTurns_86 ⟨Nat.zero_le _, Nat.zero_le _⟩) hS (fun q _ h => h) (fun q h => h) (fun r22 σ23 t H1 locs1 ht hvm hw hB hz1 hk1 hS => ?_)
          have hP : va_P D vwCl (mw c q σ23) H1 := ht ▸ hB
          have hD : va_D (wdA 31 q) (mw c q σ23) := mw_D hD0
          refine lv_if_ne (tgt := 11) hx hb dX8_readTurns_89 (by decide) (fun c24 => ?_) (fun c24 => ?_)
          · have hw := hw.2 c24
            exact ih  σ23 _ _ _ hw hk55 hk92 hP hS (lv_sub hl [1] rfl)
          · have hw := hw.1 c24
            exact hk92  σ23 _ _ _ hw hP hS (lv_sub hl [1] rfl)
        · have hw := hw.2 c17
          exact hk55  σ16 _ _ _ hw hP hS (lv_sub hl [1] rfl)
      · have hw := hw.1 c4
        refine lv_iconst (v := (1 : Int32)) hx hb dX8_readTurns_39 (by decide) ?_
        refine lv_goto (tgt := 44) hx hb dX8_readTurns_40 (by decide) ?_
        refine va_calli (va_runV (As := [.int (0 : Int32), .int (999 : Int32), .int (σ.2.1 2 (1 : Int32).toNatClampNeg), .int (1 : Int32)]) (rest := []) ⟨hx, hb, hml, hown, htb⟩ (kcX8_readNumber l D c q ev hev σ (0 : Int32) (999 : Int32) (σ.2.1 2 (1 : Int32).toNatClampNeg) (1 : Int32) _ hw) (tb_CW htb kX8_readNumber tb_1400 tb_1402 tb_48 ⟨Nat.le_of_ble_eq_true rfl, Nat.le_of_ble_eq_true rfl⟩) (wd_preV (wd := mw c q) (k := 0) hev hK hP hD hE hS (mw_0 c q σ) rfl) rfl rfl hl.1 rfl (lv_room (Nat.le_of_ble_eq_true rfl)) dX8_readTurns_44 ⟨Nat.zero_le _, Nat.zero_le _⟩) hS (fun q _ h => h) (fun q h => h) (fun r5 σ6 t H1 locs1 ht hvm hw hB hz1 hk1 hS => ?_)
        have hP : va_P D vwCl (mw c q σ6) H1 := ht ▸ hB
        have hD : va_D (wdA 31 q) (mw c q σ6) := mw_D hD0
        refine lv_istore_n (lv' := [(1, .int r5), (0, .ref (q 0))]) hx hb dX8_readTurns_47 rfl hl (by decide) rfl (fun ls hl => ?_)
        refine lv_aload_n hx hb dX8_readTurns_48 rfl (lv_at hl 1 rfl) ?_
        refine va_get (D := D) (ci := 8) (C := RX8) (T := TX8) (N := 57) hx hb htb inX8 hown hK hP 0 (mw_0 c q σ6) rfl 21 (by decide) (htb _ tb_1202) (fun _ h9 => h9) rfl dX8_readTurns_49 ?_
        refine lv_if_eq (tgt := 56) hx hb dX8_readTurns_52 (by decide) (fun c7 => ?_) (fun c7 => ?_)
        · have hw := hw.1 c7
          refine lv_aload_n hx hb dX8_readTurns_56 rfl (lv_at hl 1 rfl) ?_
          refine va_get (D := D) (ci := 8) (C := RX8) (T := TX8) (N := 57) hx hb htb inX8 hown hK hP 0 (mw_0 c q σ6) rfl 10 (by decide) (htb _ tb_1191) (fun _ h9 => h9) rfl dX8_readTurns_57 ?_
          refine lv_bipush (v := (9 : Int32)) hx hb dX8_readTurns_60 (by decide) ?_
          refine lv_aload_n hx hb dX8_readTurns_62 rfl (lv_at hl 1 rfl) ?_
          refine va_get (D := D) (ci := 8) (C := RX8) (T := TX8) (N := 57) hx hb htb inX8 hown hK hP 0 (mw_0 c q σ6) rfl 6 (by decide) (htb _ tb_1187) (fun _ h9 => h9) rfl dX8_readTurns_63 ?_
          refine lv_iconst (v := (1 : Int32)) hx hb dX8_readTurns_66 (by decide) ?_
          refine va_iald hx hb hK hP 6 5 (mw_6 c q σ6) rfl (by unfold vp_in; decide) dX8_readTurns_67 ?_
          refine lv_iadd hx hb dX8_readTurns_68 ?_
          refine lv_iload_n hx hb dX8_readTurns_69 rfl (lv_at hl 0 rfl) ?_
          refine va_iast hx hb hK hP hD hS 10 9 (mw_10 c q σ6) rfl hw.1 dX8_readTurns_70 (fun H locs hP hD hS => ?_)
          have hw := hw.2
          have hP : va_P D vwCl (mw c q (hsA σ6 10 (upd (σ6.2.1 10) ((9 : Int32) + (σ6.2.1 6 (1 : Int32).toNatClampNeg)).toNatClampNeg r5))) H := hP
          obtain ⟨σ8, eσ8⟩ : ∃ z : hsS, z = hsA σ6 10 (upd (σ6.2.1 10) ((9 : Int32) + (σ6.2.1 6 (1 : Int32).toNatClampNeg)).toNatClampNeg r5) := ⟨_, rfl⟩
          rw [← eσ8] at hP
          have hD : va_D (wdA 31 q) (mw c q σ8) := mw_D hD0
          have hw := hw σ8 eσ8
          refine lv_aload_n hx hb dX8_readTurns_71 rfl (lv_at hl 1 rfl) ?_
          refine va_get (D := D) (ci := 8) (C := RX8) (T := TX8) (N := 57) hx hb htb inX8 hown hK hP 0 (mw_0 c q σ8) rfl 6 (by decide) (htb _ tb_1187) (fun _ h9 => h9) rfl dX8_readTurns_72 ?_
          refine lv_iconst (v := (1 : Int32)) hx hb dX8_readTurns_75 (by decide) ?_
          refine lv_dup2_11 hx hb dX8_readTurns_76 rfl rfl ?_
          refine va_iald hx hb hK hP 6 5 (mw_6 c q σ8) rfl (by unfold vp_in; decide) dX8_readTurns_77 ?_
          refine lv_iconst (v := (1 : Int32)) hx hb dX8_readTurns_78 (by decide) ?_
          refine lv_iadd hx hb dX8_readTurns_79 ?_
          refine va_iast hx hb hK hP hD hS 6 5 (mw_6 c q σ8) rfl (by unfold vp_in; decide) dX8_readTurns_80 (fun H locs hP hD hS => ?_)
          have hP : va_P D vwCl (mw c q (hsA σ8 6 (upd (σ8.2.1 6) (1 : Int32).toNatClampNeg ((σ8.2.1 6 (1 : Int32).toNatClampNeg) + (1 : Int32))))) H := hP
          obtain ⟨σ9, eσ9⟩ : ∃ z : hsS, z = hsA σ8 6 (upd (σ8.2.1 6) (1 : Int32).toNatClampNeg ((σ8.2.1 6 (1 : Int32).toNatClampNeg) + (1 : Int32))) := ⟨_, rfl⟩
          rw [← eσ9] at hP
          have hD : va_D (wdA 31 q) (mw c q σ9) := mw_D hD0
          have hw := hw σ9 eσ9
          refine lv_aload_n hx hb dX8_readTurns_81 rfl (lv_at hl 1 rfl) ?_
          refine va_callv (va_runV (As := []) (rest := []) ⟨hx, hb, hml, hown, htb⟩ (kcX8_step l D c q ev hev σ9  _ hw) (tb_CW htb kX8_step tb_1370 tb_1372 tb_43 ⟨Nat.le_of_ble_eq_true rfl, Nat.le_of_ble_eq_true rfl⟩) (wd_preV (wd := mw c q) (k := 0) hev hK hP hD hE hS (mw_0 c q σ9) rfl) rfl rfl hl.1 rfl (lv_room (Nat.le_of_ble_eq_true rfl)) dX8_readTurns_82 ⟨Nat.zero_le _, Nat.zero_le _⟩) hS (fun q _ h => h) (fun q h => h) (fun σ11 t H1 locs1 ht hvm hw hB hz1 hk1 hS => ?_)
          have hP : va_P D vwCl (mw c q σ11) H1 := ht ▸ hB
          have hD : va_D (wdA 31 q) (mw c q σ11) := mw_D hD0
          refine lv_aload_n hx hb dX8_readTurns_85 rfl (lv_at hl 1 rfl) ?_
          refine va_calli (va_runV (As := []) (rest := []) ⟨hx, hb, hml, hown, htb⟩ (kcX8_isNumber l D c q ev hev σ11  _ hw) (tb_CW htb kX8_isNumber tb_1433 tb_1435 tb_54 ⟨Nat.le_of_ble_eq_true rfl, Nat.le_of_ble_eq_true rfl⟩) (wd_preV (wd := mw c q) (k := 0) hev hK hP hD hE hS (mw_0 c q σ11) rfl) rfl rfl hl.1 rfl (lv_room (Nat.le_of_ble_eq_true rfl)) dX8_readTurns_86 ⟨Nat.zero_le _, Nat.zero_le _⟩) hS (fun q _ h => h) (fun q h => h) (fun r12 σ13 t H1 locs1 ht hvm hw hB hz1 hk1 hS => ?_)
          have hP : va_P D vwCl (mw c q σ13) H1 := ht ▸ hB
          have hD : va_D (wdA 31 q) (mw c q σ13) := mw_D hD0
          refine lv_if_ne (tgt := 11) hx hb dX8_readTurns_89 (by decide) (fun c14 => ?_) (fun c14 => ?_)
          · have hw := hw.2 c14
            exact ih  σ13 _ _ _ hw hk55 hk92 hP hS (lv_sub hl [1] rfl)
          · have hw := hw.1 c14
            exact hk92  σ13 _ _ _ hw hP hS (lv_sub hl [1] rfl)
        · have hw := hw.2 c7
          exact hk55  σ6 _ _ _ hw hP hS (lv_sub hl [1] rfl)
  have hl := lv_entry ([.ref (q 0)]) (n := 2) (Nat.le_of_ble_eq_true rfl)
  rw [lg_entry_eq]
  generalize (lg_sl ([.ref (q 0)]) ++ List.replicate (2 - (lg_sl ([.ref (q 0)])).length) Slot.unset).toArray = ls at hl ⊢
  have hl : lv_has ls 2 [(0, .ref (q 0))] := hl
  unfold wX8_readTurns at hw
  refine lv_aload_n hx hb dX8_readTurns_0 rfl (lv_at hl 0 rfl) ?_
  refine va_callv (va_runV (As := []) (rest := []) ⟨hx, hb, hml, hown, htb⟩ (kcX8_step l D c q ev hev σ  _ hw) (tb_CW htb kX8_step tb_1370 tb_1372 tb_43 ⟨Nat.le_of_ble_eq_true rfl, Nat.le_of_ble_eq_true rfl⟩) (wd_preV (wd := mw c q) (k := 0) hev hK hP hD hE hS (mw_0 c q σ) rfl) rfl rfl hl.1 rfl (lv_room (Nat.le_of_ble_eq_true rfl)) dX8_readTurns_1 ⟨Nat.zero_le _, Nat.zero_le _⟩) hS (fun q _ h => h) (fun q h => h) (fun σ2 t H1 locs1 ht hvm hw hB hz1 hk1 hS => ?_)
  have hP : va_P D vwCl (mw c q σ2) H1 := ht ▸ hB
  have hD : va_D (wdA 31 q) (mw c q σ2) := mw_D hD0
  refine lv_aload_n hx hb dX8_readTurns_4 rfl (lv_at hl 0 rfl) ?_
  refine va_get (D := D) (ci := 8) (C := RX8) (T := TX8) (N := 57) hx hb htb inX8 hown hK hP 0 (mw_0 c q σ2) rfl 6 (by decide) (htb _ tb_1187) (fun _ h9 => h9) rfl dX8_readTurns_5 ?_
  refine lv_iconst (v := (1 : Int32)) hx hb dX8_readTurns_8 (by decide) ?_
  refine lv_iconst (v := (0 : Int32)) hx hb dX8_readTurns_9 (by decide) ?_
  refine va_iast hx hb hK hP hD hS 6 5 (mw_6 c q σ2) rfl (by unfold vp_in; decide) dX8_readTurns_10 (fun H locs hP hD hS => ?_)
  have hP : va_P D vwCl (mw c q (hsA σ2 6 (upd (σ2.2.1 6) (1 : Int32).toNatClampNeg (0 : Int32)))) H := hP
  obtain ⟨σ3, eσ3⟩ : ∃ z : hsS, z = hsA σ2 6 (upd (σ2.2.1 6) (1 : Int32).toNatClampNeg (0 : Int32)) := ⟨_, rfl⟩
  rw [← eσ3] at hP
  have hD : va_D (wdA 31 q) (mw c q σ3) := mw_D hD0
  have hw := hw σ3 eσ3
  obtain ⟨n25, hw⟩ := hw
  refine L11 _ _ n25  σ3 _ _ _ hw ?_ ?_ hP hS (lv_sub hl [0] rfl)
  · intro σ26 H locs ls hw hP hS hl
    have hD : va_D (wdA 31 q) (mw c q σ26) := mw_D hD0
    exact W.vret hx hb hr (fun t ht hW => ⟨⟨σ26, rfl, hw, by unfold wdB; rw [ht]; exact hP⟩, hS.F ht⟩) hS.2.2 dX8_readTurns_55
  · intro σ27 H locs ls hw hP hS hl
    have hD : va_D (wdA 31 q) (mw c q σ27) := mw_D hD0
    exact W.vret hx hb hr (fun t ht hW => ⟨⟨σ27, rfl, hw, by unfold wdB; rw [ht]; exact hP⟩, hS.F ht⟩) hS.2.2 dX8_readTurns_92
def wX8_renew_L17 (K36 : Int32 → hsS → Prop) (post : hsS → Prop) : Nat → Int32 → hsS → Prop
  | 0, _, _ => False
  | n + 1, y1, σ => (((8 : Int32) ≤ y1 → K36 y1 σ) ∧ (¬ (8 : Int32) ≤ y1 → vp_in y1 8 ∧ ∀ σ4 : hsS, σ4 = hsA σ 29 (upd (σ.2.1 29) y1.toNatClampNeg (-1 : Int32)) → ∀ v5 : Int32, v5 = y1 + (1 : Int32) → wX8_renew_L17  K36 post n v5 σ4))
def wX8_renew  (post : hsS → Prop) (σ : hsS) : Prop := ∀ σ1 : hsS, σ1 = hsI σ 12 ((σ.1 12) + (1 : Int32)) → ∀ σ2 : hsS, σ2 = hsI σ1 52 (0 : Int32) → ∃ n6, wX8_renew_L17  (fun v7 σ8 => post σ8) post n6 (0 : Int32) σ2
set_option maxHeartbeats 4000000 in
set_option maxRecDepth 100000 in
theorem kcX8_renew (l : Launch) (D : va_G) (c : Nat → ClassId) (q : Nat → Nat) (ev : State → Heap → Prop) (hev : evOK (wdA 31 q) ev) (σ : hsS)  (post : hsS → Prop) (hw : wX8_renew  post σ) : Met l yX8_renew (Cond.code yX8_renew cX8_renew 2 none :: tb_L) { frames := 0, cells := 0, slots := 0, locals := 0 } (wdPc D (mw c q) (mwT c) (wdA 31 q) ev σ [.ref (q 0)]) (va_Qv post (wdB D (mw c q)) (wdA 31 q)) 0 0 (wdA 31 q) := by
  refine Met.ofW (cc := cX8_renew) (maxL := 2) (ret := none) (by decide) rfl ?_
  intro p e s m args below meth c₀ s₁ Bd hml hv
  obtain ⟨rfl, hP, hK, hD0, hE⟩ := hv
  have hx := Bd.exec
  have hb := Bd.bytes
  have hr := Bd.returns
  have hts := atoms_spec (ws := Cond.code yX8_renew cX8_renew 2 none :: tb_L) Bd.pre
  have htb : ∀ w ∈ tb_L, w.before [.ref (q 0)].toArray s = true := fun w h => hts w (List.mem_cons_of_mem _ h)
  have hown : s.vm.findClass RX8 = some m.cls := findClass_of_methodNamed Bd.named
  have hlocks := Bd.notSynchronized
  have hS : va_S (wdA 31 q) s.heap s.heap [] := va_S.rf
  have hD := hD0
  have L17 : ∀ (K36 : Int32 → hsS → Prop) (n : Nat) (y1 : Int32) (σ : hsS) (H : Heap) (locs : List Loc) (ls : Array Slot), wX8_renew_L17  K36 post n y1 σ → (∀ (y1 : Int32) (σ : hsS) (H : Heap) (locs : List Loc) (ls : Array Slot), K36 y1 σ → va_P D vwCl (mw c q σ) H → va_S (wdA 31 q) s.heap H locs → lv_has ls 2 [(0, .ref (q 0)), (1, .int y1)] → W p l e (headSpec (Cond.code yX8_renew cX8_renew 2 none :: tb_L) { frames := 0, cells := 0, slots := 0, locals := 0 }).room s m [.ref (q 0)].toArray below meth c₀ H locs 0 0 (MQ below (va_Qv post (wdB D (mw c q)) (wdA 31 q)) [.ref (q 0)].toArray s 0 0 (wdA 31 q)) (F0 m 36 ls [])) → va_P D vwCl (mw c q σ) H → va_S (wdA 31 q) s.heap H locs → lv_has ls 2 [(0, .ref (q 0)), (1, .int y1)] → W p l e (headSpec (Cond.code yX8_renew cX8_renew 2 none :: tb_L) { frames := 0, cells := 0, slots := 0, locals := 0 }).room s m [.ref (q 0)].toArray below meth c₀ H locs 0 0 (MQ below (va_Qv post (wdB D (mw c q)) (wdA 31 q)) [.ref (q 0)].toArray s 0 0 (wdA 31 q)) (F0 m 17 ls []) := by
    intro K36 n
    induction n with
    | zero =>
      intro y1 σ H locs ls hw hk36 hP hS hl
      exact (show False from hw).elim
    | succ n ih =>
      intro y1 σ H locs ls hw hk36 hP hS hl
      rw [wX8_renew_L17] at hw
      have hD : va_D (wdA 31 q) (mw c q σ) := mw_D hD0
      refine lv_iload_n hx hb dX8_renew_17 rfl (lv_at hl 1 rfl) ?_
      refine lv_bipush (v := (8 : Int32)) hx hb dX8_renew_18 (by decide) ?_
      refine lv_icmp_ge (tgt := 36) hx hb dX8_renew_20 (by decide) (fun c3 => ?_) (fun c3 => ?_)
      · have hw := hw.1 c3
        exact hk36 y1 σ _ _ _ hw hP hS (lv_sub hl [0, 1] rfl)
      · have hw := hw.2 c3
        refine lv_aload_n hx hb dX8_renew_23 rfl (lv_at hl 0 rfl) ?_
        refine va_get (D := D) (ci := 8) (C := RX8) (T := TX8) (N := 57) hx hb htb inX8 hown hK hP 0 (mw_0 c q σ) rfl 55 (by decide) (htb _ tb_1236) (fun _ h9 => h9) rfl dX8_renew_24 ?_
        refine lv_iload_n hx hb dX8_renew_27 rfl (lv_at hl 1 rfl) ?_
        refine lv_iconst (v := (-1 : Int32)) hx hb dX8_renew_28 (by decide) ?_
        refine va_iast hx hb hK hP hD hS 29 28 (mw_29 c q σ) rfl hw.1 dX8_renew_29 (fun H locs hP hD hS => ?_)
        have hw := hw.2
        have hP : va_P D vwCl (mw c q (hsA σ 29 (upd (σ.2.1 29) y1.toNatClampNeg (-1 : Int32)))) H := hP
        obtain ⟨σ4, eσ4⟩ : ∃ z : hsS, z = hsA σ 29 (upd (σ.2.1 29) y1.toNatClampNeg (-1 : Int32)) := ⟨_, rfl⟩
        rw [← eσ4] at hP
        have hD : va_D (wdA 31 q) (mw c q σ4) := mw_D hD0
        have hw := hw σ4 eσ4
        obtain ⟨v5, ev5⟩ : ∃ z : Int32, z = y1 + (1 : Int32) := ⟨_, rfl⟩
        have hw := hw v5 ev5
        refine lv_iinc (v := v5) (lv' := [(1, .int v5), (0, .ref (q 0))]) hx hb dX8_renew_30 hl (k := 1) rfl (by rw [ev5]; rfl) (by decide) rfl (fun ls hl => ?_)
        refine lv_goto (tgt := 17) hx hb dX8_renew_33 (by decide) ?_
        exact ih v5 σ4 _ _ _ hw hk36 hP hS (lv_sub hl [1, 0] rfl)
  have hl := lv_entry ([.ref (q 0)]) (n := 2) (Nat.le_of_ble_eq_true rfl)
  rw [lg_entry_eq]
  generalize (lg_sl ([.ref (q 0)]) ++ List.replicate (2 - (lg_sl ([.ref (q 0)])).length) Slot.unset).toArray = ls at hl ⊢
  have hl : lv_has ls 2 [(0, .ref (q 0))] := hl
  unfold wX8_renew at hw
  refine lv_aload_n hx hb dX8_renew_0 rfl (lv_at hl 0 rfl) ?_
  refine lv_dup hx hb dX8_renew_1 rfl ?_
  refine va_get (D := D) (ci := 8) (C := RX8) (T := TX8) (N := 57) hx hb htb inX8 hown hK hP 0 (mw_0 c q σ) rfl 12 (by decide) (htb _ tb_1193) (fun _ h9 => h9) rfl dX8_renew_2 ?_
  refine lv_iconst (v := (1 : Int32)) hx hb dX8_renew_5 (by decide) ?_
  refine lv_iadd hx hb dX8_renew_6 ?_
  refine va_put (D := D) (ci := 8) (ty := .int) (C := RX8) (T := TX8) (N := 57) hx hb htb inX8 tyX8 tyX8_ok nmX8 hown hK hP hD hS 0 (mw_0 c q σ) rfl 12 (by decide) (htb _ tb_1193) (fun _ h9 => h9) rfl (by decide +kernel) rfl rfl (Nat.le_of_ble_eq_true rfl) dX8_renew_7 (fun H locs hP hD hS => ?_)
  have hP : va_P D vwCl (mw c q (hsI σ 12 ((σ.1 12) + (1 : Int32)))) H := hP
  obtain ⟨σ1, eσ1⟩ : ∃ z : hsS, z = hsI σ 12 ((σ.1 12) + (1 : Int32)) := ⟨_, rfl⟩
  rw [← eσ1] at hP
  have hD : va_D (wdA 31 q) (mw c q σ1) := mw_D hD0
  have hw := hw σ1 eσ1
  refine lv_aload_n hx hb dX8_renew_10 rfl (lv_at hl 0 rfl) ?_
  refine lv_iconst (v := (0 : Int32)) hx hb dX8_renew_11 (by decide) ?_
  refine va_put (D := D) (ci := 8) (ty := .int) (C := RX8) (T := TX8) (N := 57) hx hb htb inX8 tyX8 tyX8_ok nmX8 hown hK hP hD hS 0 (mw_0 c q σ1) rfl 52 (by decide) (htb _ tb_1233) (fun _ h9 => h9) rfl (by decide +kernel) rfl rfl (Nat.le_of_ble_eq_true rfl) dX8_renew_12 (fun H locs hP hD hS => ?_)
  have hP : va_P D vwCl (mw c q (hsI σ1 52 (0 : Int32))) H := hP
  obtain ⟨σ2, eσ2⟩ : ∃ z : hsS, z = hsI σ1 52 (0 : Int32) := ⟨_, rfl⟩
  rw [← eσ2] at hP
  have hD : va_D (wdA 31 q) (mw c q σ2) := mw_D hD0
  have hw := hw σ2 eσ2
  refine lv_iconst (v := (0 : Int32)) hx hb dX8_renew_15 (by decide) ?_
  refine lv_istore_n (lv' := [(1, .int (0 : Int32)), (0, .ref (q 0))]) hx hb dX8_renew_16 rfl hl (by decide) rfl (fun ls hl => ?_)
  obtain ⟨n6, hw⟩ := hw
  refine L17 _ n6 (0 : Int32) σ2 _ _ _ hw ?_ hP hS (lv_sub hl [1, 0] rfl)
  intro v7 σ8 H locs ls hw hP hS hl
  have hD : va_D (wdA 31 q) (mw c q σ8) := mw_D hD0
  exact W.vret hx hb hr (fun t ht hW => ⟨⟨σ8, rfl, hw, by unfold wdB; rw [ht]; exact hP⟩, hS.F ht⟩) hS.2.2 dX8_renew_36
def wX8_fault  (post : Int32 → hsS → Prop) (σ : hsS) : Prop := ∀ σ1 : hsS, σ1 = hsI σ 0 (0 : Int32) → post (σ1.1 23) σ1
set_option maxHeartbeats 4000000 in
set_option maxRecDepth 100000 in
theorem kcX8_fault (l : Launch) (D : va_G) (c : Nat → ClassId) (q : Nat → Nat) (ev : State → Heap → Prop) (hev : evOK (wdA 31 q) ev) (σ : hsS)  (post : Int32 → hsS → Prop) (hw : wX8_fault  post σ) : Met l yX8_fault (Cond.code yX8_fault cX8_fault 1 (some .int) :: tb_L) { frames := 0, cells := 0, slots := 0, locals := 0 } (wdPc D (mw c q) (mwT c) (wdA 31 q) ev σ [.ref (q 0)]) (va_Qi post (wdB D (mw c q)) (wdA 31 q)) 0 0 (wdA 31 q) := by
  refine Met.ofW (cc := cX8_fault) (maxL := 1) (ret := (some .int)) (by decide) rfl ?_
  intro p e s m args below meth c₀ s₁ Bd hml hv
  obtain ⟨rfl, hP, hK, hD0, hE⟩ := hv
  have hx := Bd.exec
  have hb := Bd.bytes
  have hr := Bd.returns
  have hts := atoms_spec (ws := Cond.code yX8_fault cX8_fault 1 (some .int) :: tb_L) Bd.pre
  have htb : ∀ w ∈ tb_L, w.before [.ref (q 0)].toArray s = true := fun w h => hts w (List.mem_cons_of_mem _ h)
  have hown : s.vm.findClass RX8 = some m.cls := findClass_of_methodNamed Bd.named
  have hlocks := Bd.notSynchronized
  have hS : va_S (wdA 31 q) s.heap s.heap [] := va_S.rf
  have hD := hD0
  have hl := lv_entry ([.ref (q 0)]) (n := 1) (Nat.le_of_ble_eq_true rfl)
  rw [lg_entry_eq]
  generalize (lg_sl ([.ref (q 0)]) ++ List.replicate (1 - (lg_sl ([.ref (q 0)])).length) Slot.unset).toArray = ls at hl ⊢
  have hl : lv_has ls 1 [(0, .ref (q 0))] := hl
  unfold wX8_fault at hw
  refine lv_aload_n hx hb dX8_fault_0 rfl (lv_at hl 0 rfl) ?_
  refine lv_iconst (v := (0 : Int32)) hx hb dX8_fault_1 (by decide) ?_
  refine va_put (D := D) (ci := 8) (ty := .int) (C := RX8) (T := TX8) (N := 57) hx hb htb inX8 tyX8 tyX8_ok nmX8 hown hK hP hD hS 0 (mw_0 c q σ) rfl 0 (by decide) (htb _ tb_1181) (fun _ h9 => h9) rfl (by decide +kernel) rfl rfl (Nat.le_of_ble_eq_true rfl) dX8_fault_2 (fun H locs hP hD hS => ?_)
  have hP : va_P D vwCl (mw c q (hsI σ 0 (0 : Int32))) H := hP
  obtain ⟨σ1, eσ1⟩ : ∃ z : hsS, z = hsI σ 0 (0 : Int32) := ⟨_, rfl⟩
  rw [← eσ1] at hP
  have hD : va_D (wdA 31 q) (mw c q σ1) := mw_D hD0
  have hw := hw σ1 eσ1
  refine lv_aload_n hx hb dX8_fault_5 rfl (lv_at hl 0 rfl) ?_
  refine va_get (D := D) (ci := 8) (C := RX8) (T := TX8) (N := 57) hx hb htb inX8 hown hK hP 0 (mw_0 c q σ1) rfl 23 (by decide) (htb _ tb_1204) (fun _ h9 => h9) rfl dX8_fault_6 ?_
  exact W.iret hx hb hr (fun t ht hW => ⟨⟨_, σ1, rfl, hw, by unfold wdB; rw [ht]; exact hP⟩, hS.F ht⟩) hS.2.2 dX8_fault_9
def wX8_weightOf_L4 (z1 : Int32) (K42 : Int32 → Int32 → hsS → Prop) (post : Int32 → hsS → Prop) : Nat → Int32 → Int32 → hsS → Prop
  | 0, _, _, _ => False
  | n + 1, y2, y3, σ => (((σ.2.1 2 (0 : Int32).toNatClampNeg) ≤ y3 → K42 y2 y3 σ) ∧ (¬ (σ.2.1 2 (0 : Int32).toNatClampNeg) ≤ y3 → ((((z1 >>> (y3 &&& 31)) &&& (1 : Int32)) = (1 : Int32) → vp_in y3 16 ∧ ∀ v3 : Int32, v3 = y2 + (σ.2.1 7 y3.toNatClampNeg) → ∀ v4 : Int32, v4 = y3 + (1 : Int32) → wX8_weightOf_L4 z1 K42 post n v3 v4 σ) ∧ (¬ ((z1 >>> (y3 &&& 31)) &&& (1 : Int32)) = (1 : Int32) → ∀ v5 : Int32, v5 = y2 + (0 : Int32) → ∀ v6 : Int32, v6 = y3 + (1 : Int32) → wX8_weightOf_L4 z1 K42 post n v5 v6 σ))))
def wX8_weightOf (x1 : Int32) (post : Int32 → hsS → Prop) (σ : hsS) : Prop := ∃ n7, wX8_weightOf_L4 x1 (fun v8 v9 σ10 => post v8 σ10) post n7 (0 : Int32) (0 : Int32) σ
set_option maxHeartbeats 4000000 in
set_option maxRecDepth 100000 in
theorem kcX8_weightOf (l : Launch) (D : va_G) (c : Nat → ClassId) (q : Nat → Nat) (ev : State → Heap → Prop) (hev : evOK (wdA 31 q) ev) (σ : hsS) (x1 : Int32) (post : Int32 → hsS → Prop) (hw : wX8_weightOf x1 post σ) : Met l yX8_weightOf (Cond.code yX8_weightOf cX8_weightOf 4 (some .int) :: tb_L) { frames := 0, cells := 0, slots := 0, locals := 0 } (wdPc D (mw c q) (mwT c) (wdA 31 q) ev σ [.ref (q 0), .int x1]) (va_Qi post (wdB D (mw c q)) (wdA 31 q)) 0 0 (wdA 31 q) := by
  refine Met.ofW (cc := cX8_weightOf) (maxL := 4) (ret := (some .int)) (by decide) rfl ?_
  intro p e s m args below meth c₀ s₁ Bd hml hv
  obtain ⟨rfl, hP, hK, hD0, hE⟩ := hv
  have hx := Bd.exec
  have hb := Bd.bytes
  have hr := Bd.returns
  have hts := atoms_spec (ws := Cond.code yX8_weightOf cX8_weightOf 4 (some .int) :: tb_L) Bd.pre
  have htb : ∀ w ∈ tb_L, w.before [.ref (q 0), .int x1].toArray s = true := fun w h => hts w (List.mem_cons_of_mem _ h)
  have hown : s.vm.findClass RX8 = some m.cls := findClass_of_methodNamed Bd.named
  have hlocks := Bd.notSynchronized
  have hS : va_S (wdA 31 q) s.heap s.heap [] := va_S.rf
  have hD := hD0
  have L4 : ∀ (K42 : Int32 → Int32 → hsS → Prop) (z1 : Int32) (n : Nat) (y2 : Int32) (y3 : Int32) (σ : hsS) (H : Heap) (locs : List Loc) (ls : Array Slot), wX8_weightOf_L4 z1 K42 post n y2 y3 σ → (∀ (y2 : Int32) (y3 : Int32) (σ : hsS) (H : Heap) (locs : List Loc) (ls : Array Slot), K42 y2 y3 σ → va_P D vwCl (mw c q σ) H → va_S (wdA 31 q) s.heap H locs → lv_has ls 4 [(0, .ref (q 0)), (1, .int z1), (2, .int y2), (3, .int y3)] → W p l e (headSpec (Cond.code yX8_weightOf cX8_weightOf 4 (some .int) :: tb_L) { frames := 0, cells := 0, slots := 0, locals := 0 }).room s m [.ref (q 0), .int x1].toArray below meth c₀ H locs 0 0 (MQ below (va_Qi post (wdB D (mw c q)) (wdA 31 q)) [.ref (q 0), .int x1].toArray s 0 0 (wdA 31 q)) (F0 m 42 ls [])) → va_P D vwCl (mw c q σ) H → va_S (wdA 31 q) s.heap H locs → lv_has ls 4 [(0, .ref (q 0)), (1, .int z1), (2, .int y2), (3, .int y3)] → W p l e (headSpec (Cond.code yX8_weightOf cX8_weightOf 4 (some .int) :: tb_L) { frames := 0, cells := 0, slots := 0, locals := 0 }).room s m [.ref (q 0), .int x1].toArray below meth c₀ H locs 0 0 (MQ below (va_Qi post (wdB D (mw c q)) (wdA 31 q)) [.ref (q 0), .int x1].toArray s 0 0 (wdA 31 q)) (F0 m 4 ls []) := by
    intro K42 z1 n
    induction n with
    | zero =>
      intro y2 y3 σ H locs ls hw hk42 hP hS hl
      exact (show False from hw).elim
    | succ n ih =>
      intro y2 y3 σ H locs ls hw hk42 hP hS hl
      rw [wX8_weightOf_L4] at hw
      have hD : va_D (wdA 31 q) (mw c q σ) := mw_D hD0
      refine lv_iload_n hx hb dX8_weightOf_4 rfl (lv_at hl 3 rfl) ?_
      refine lv_aload_n hx hb dX8_weightOf_5 rfl (lv_at hl 0 rfl) ?_
      refine va_get (D := D) (ci := 8) (C := RX8) (T := TX8) (N := 57) hx hb htb inX8 hown hK hP 0 (mw_0 c q σ) rfl 2 (by decide) (htb _ tb_1183) (fun _ h9 => h9) rfl dX8_weightOf_6 ?_
      refine lv_iconst (v := (0 : Int32)) hx hb dX8_weightOf_9 (by decide) ?_
      refine va_iald hx hb hK hP 2 1 (mw_2 c q σ) rfl (by unfold vp_in; decide) dX8_weightOf_10 ?_
      refine lv_icmp_ge (tgt := 42) hx hb dX8_weightOf_11 (by decide) (fun c1 => ?_) (fun c1 => ?_)
      · have hw := hw.1 c1
        exact hk42 y2 y3 σ _ _ _ hw hP hS (lv_sub hl [0, 1, 2, 3] rfl)
      · have hw := hw.2 c1
        refine lv_iload_n hx hb dX8_weightOf_14 rfl (lv_at hl 2 rfl) ?_
        refine lv_iload_n hx hb dX8_weightOf_15 rfl (lv_at hl 1 rfl) ?_
        refine lv_iload_n hx hb dX8_weightOf_16 rfl (lv_at hl 3 rfl) ?_
        refine lv_ishr hx hb dX8_weightOf_17 ?_
        refine lv_iconst (v := (1 : Int32)) hx hb dX8_weightOf_18 (by decide) ?_
        refine lv_iand hx hb dX8_weightOf_19 ?_
        refine lv_iconst (v := (1 : Int32)) hx hb dX8_weightOf_20 (by decide) ?_
        refine lv_icmp_ne (tgt := 33) hx hb dX8_weightOf_21 (by decide) (fun c2 => ?_) (fun c2 => ?_)
        · have hw := hw.2 c2
          refine lv_iconst (v := (0 : Int32)) hx hb dX8_weightOf_33 (by decide) ?_
          refine lv_iadd hx hb dX8_weightOf_34 ?_
          refine lv_topi (fun v5 ev5 => ?_)
          have hw := hw v5 ev5
          refine lv_istore_n (lv' := [(2, .int v5), (0, .ref (q 0)), (1, .int z1), (3, .int y3)]) hx hb dX8_weightOf_35 rfl hl (by decide) rfl (fun ls hl => ?_)
          obtain ⟨v6, ev6⟩ : ∃ z : Int32, z = y3 + (1 : Int32) := ⟨_, rfl⟩
          have hw := hw v6 ev6
          refine lv_iinc (v := v6) (lv' := [(3, .int v6), (2, .int v5), (0, .ref (q 0)), (1, .int z1)]) hx hb dX8_weightOf_36 hl (k := 3) rfl (by rw [ev6]; rfl) (by decide) rfl (fun ls hl => ?_)
          refine lv_goto (tgt := 4) hx hb dX8_weightOf_39 (by decide) ?_
          exact ih v5 v6 σ _ _ _ hw hk42 hP hS (lv_sub hl [2, 3, 1, 0] rfl)
        · have hw := hw.1 c2
          refine lv_aload_n hx hb dX8_weightOf_24 rfl (lv_at hl 0 rfl) ?_
          refine va_get (D := D) (ci := 8) (C := RX8) (T := TX8) (N := 57) hx hb htb inX8 hown hK hP 0 (mw_0 c q σ) rfl 7 (by decide) (htb _ tb_1188) (fun _ h9 => h9) rfl dX8_weightOf_25 ?_
          refine lv_iload_n hx hb dX8_weightOf_28 rfl (lv_at hl 3 rfl) ?_
          refine va_iald hx hb hK hP 7 6 (mw_7 c q σ) rfl hw.1 dX8_weightOf_29 ?_
          have hw := hw.2
          refine lv_goto (tgt := 34) hx hb dX8_weightOf_30 (by decide) ?_
          refine lv_iadd hx hb dX8_weightOf_34 ?_
          refine lv_topi (fun v3 ev3 => ?_)
          have hw := hw v3 ev3
          refine lv_istore_n (lv' := [(2, .int v3), (0, .ref (q 0)), (1, .int z1), (3, .int y3)]) hx hb dX8_weightOf_35 rfl hl (by decide) rfl (fun ls hl => ?_)
          obtain ⟨v4, ev4⟩ : ∃ z : Int32, z = y3 + (1 : Int32) := ⟨_, rfl⟩
          have hw := hw v4 ev4
          refine lv_iinc (v := v4) (lv' := [(3, .int v4), (2, .int v3), (0, .ref (q 0)), (1, .int z1)]) hx hb dX8_weightOf_36 hl (k := 3) rfl (by rw [ev4]; rfl) (by decide) rfl (fun ls hl => ?_)
          refine lv_goto (tgt := 4) hx hb dX8_weightOf_39 (by decide) ?_
          exact ih v3 v4 σ _ _ _ hw hk42 hP hS (lv_sub hl [2, 3, 1, 0] rfl)
  have hl := lv_entry ([.ref (q 0), .int x1]) (n := 4) (Nat.le_of_ble_eq_true rfl)
  rw [lg_entry_eq]
  generalize (lg_sl ([.ref (q 0), .int x1]) ++ List.replicate (4 - (lg_sl ([.ref (q 0), .int x1])).length) Slot.unset).toArray = ls at hl ⊢
  have hl : lv_has ls 4 [(0, .ref (q 0)), (1, .int x1)] := hl
  unfold wX8_weightOf at hw
  refine lv_iconst (v := (0 : Int32)) hx hb dX8_weightOf_0 (by decide) ?_
  refine lv_istore_n (lv' := [(2, .int (0 : Int32)), (0, .ref (q 0)), (1, .int x1)]) hx hb dX8_weightOf_1 rfl hl (by decide) rfl (fun ls hl => ?_)
  refine lv_iconst (v := (0 : Int32)) hx hb dX8_weightOf_2 (by decide) ?_
  refine lv_istore_n (lv' := [(3, .int (0 : Int32)), (2, .int (0 : Int32)), (0, .ref (q 0)), (1, .int x1)]) hx hb dX8_weightOf_3 rfl hl (by decide) rfl (fun ls hl => ?_)
  obtain ⟨n7, hw⟩ := hw
  refine L4 _ x1 n7 (0 : Int32) (0 : Int32) σ _ _ _ hw ?_ hP hS (lv_sub hl [2, 3, 1, 0] rfl)
  intro v8 v9 σ10 H locs ls hw hP hS hl
  have hD : va_D (wdA 31 q) (mw c q σ10) := mw_D hD0
  refine lv_iload_n hx hb dX8_weightOf_42 rfl (lv_at hl 2 rfl) ?_
  exact W.iret hx hb hr (fun t ht hW => ⟨⟨_, σ10, rfl, hw, by unfold wdB; rw [ht]; exact hP⟩, hS.F ht⟩) hS.2.2 dX8_weightOf_43
def wX8_count (x1 : Int32) (post : Int32 → hsS → Prop) (σ : hsS) : Prop := ∀ σ1 : hsS, σ1 = hsI σ 0 (0 : Int32) → ((x1 = (0 : Int32) → post (σ1.2.1 1 (0 : Int32).toNatClampNeg) σ1) ∧ (¬ x1 = (0 : Int32) → ((x1 = (1 : Int32) → post (σ1.2.1 2 (0 : Int32).toNatClampNeg) σ1) ∧ (¬ x1 = (1 : Int32) → ((x1 = (2 : Int32) → post (σ1.2.1 6 (0 : Int32).toNatClampNeg) σ1) ∧ (¬ x1 = (2 : Int32) → ((x1 = (3 : Int32) → post (σ1.2.1 3 (0 : Int32).toNatClampNeg) σ1) ∧ (¬ x1 = (3 : Int32) → ((x1 = (4 : Int32) → post (σ1.1 52) σ1) ∧ (¬ x1 = (4 : Int32) → ((x1 = (5 : Int32) → post (σ1.1 14) σ1) ∧ (¬ x1 = (5 : Int32) → ((x1 = (6 : Int32) → wX8_weightOf (((1 : Int32) <<< ((σ1.2.1 2 (0 : Int32).toNatClampNeg) &&& 31)) - (1 : Int32)) (fun r8 σ9 => post r8 σ9) σ1) ∧ (¬ x1 = (6 : Int32) → wX8_fail (1 : Int32) (fun r11 σ12 => post r11 σ12) σ1))))))))))))))
set_option maxHeartbeats 4000000 in
set_option maxRecDepth 100000 in
theorem kcX8_count (l : Launch) (D : va_G) (c : Nat → ClassId) (q : Nat → Nat) (ev : State → Heap → Prop) (hev : evOK (wdA 31 q) ev) (σ : hsS) (x1 : Int32) (post : Int32 → hsS → Prop) (hw : wX8_count x1 post σ) : Met l yX8_count (Cond.code yX8_count cX8_count 2 (some .int) :: tb_L) { frames := 1, cells := 0, slots := 0, locals := 23 } (wdPc D (mw c q) (mwT c) (wdA 31 q) ev σ [.ref (q 0), .int x1]) (va_Qi post (wdB D (mw c q)) (wdA 31 q)) 0 0 (wdA 31 q) := by
  refine Met.ofW (cc := cX8_count) (maxL := 2) (ret := (some .int)) (by decide) rfl ?_
  intro p e s m args below meth c₀ s₁ Bd hml hv
  obtain ⟨rfl, hP, hK, hD0, hE⟩ := hv
  have hx := Bd.exec
  have hb := Bd.bytes
  have hr := Bd.returns
  have hts := atoms_spec (ws := Cond.code yX8_count cX8_count 2 (some .int) :: tb_L) Bd.pre
  have htb : ∀ w ∈ tb_L, w.before [.ref (q 0), .int x1].toArray s = true := fun w h => hts w (List.mem_cons_of_mem _ h)
  have hown : s.vm.findClass RX8 = some m.cls := findClass_of_methodNamed Bd.named
  have hlocks := Bd.notSynchronized
  have hS : va_S (wdA 31 q) s.heap s.heap [] := va_S.rf
  have hD := hD0
  have hl := lv_entry ([.ref (q 0), .int x1]) (n := 2) (Nat.le_of_ble_eq_true rfl)
  rw [lg_entry_eq]
  generalize (lg_sl ([.ref (q 0), .int x1]) ++ List.replicate (2 - (lg_sl ([.ref (q 0), .int x1])).length) Slot.unset).toArray = ls at hl ⊢
  have hl : lv_has ls 2 [(0, .ref (q 0)), (1, .int x1)] := hl
  unfold wX8_count at hw
  refine lv_aload_n hx hb dX8_count_0 rfl (lv_at hl 0 rfl) ?_
  refine lv_iconst (v := (0 : Int32)) hx hb dX8_count_1 (by decide) ?_
  refine va_put (D := D) (ci := 8) (ty := .int) (C := RX8) (T := TX8) (N := 57) hx hb htb inX8 tyX8 tyX8_ok nmX8 hown hK hP hD hS 0 (mw_0 c q σ) rfl 0 (by decide) (htb _ tb_1181) (fun _ h9 => h9) rfl (by decide +kernel) rfl rfl (Nat.le_of_ble_eq_true rfl) dX8_count_2 (fun H locs hP hD hS => ?_)
  have hP : va_P D vwCl (mw c q (hsI σ 0 (0 : Int32))) H := hP
  obtain ⟨σ1, eσ1⟩ : ∃ z : hsS, z = hsI σ 0 (0 : Int32) := ⟨_, rfl⟩
  rw [← eσ1] at hP
  have hD : va_D (wdA 31 q) (mw c q σ1) := mw_D hD0
  have hw := hw σ1 eσ1
  refine lv_iload_n hx hb dX8_count_5 rfl (lv_at hl 1 rfl) ?_
  by_cases c2 : x1 = (0 : Int32)
  · have hw := hw.1 c2
    refine lv_tableIn (off := 42) (tgt := 48) hx hb dX8_count_6 (by rw [c2]; decide) (by rw [c2]; decide) (by rw [c2]; rfl) (by decide) ?_
    refine lv_aload_n hx hb dX8_count_48 rfl (lv_at hl 0 rfl) ?_
    refine va_get (D := D) (ci := 8) (C := RX8) (T := TX8) (N := 57) hx hb htb inX8 hown hK hP 0 (mw_0 c q σ1) rfl 1 (by decide) (htb _ tb_1182) (fun _ h9 => h9) rfl dX8_count_49 ?_
    refine lv_iconst (v := (0 : Int32)) hx hb dX8_count_52 (by decide) ?_
    refine va_iald hx hb hK hP 1 0 (mw_1 c q σ1) rfl (by unfold vp_in; decide) dX8_count_53 ?_
    exact W.iret hx hb hr (fun t ht hW => ⟨⟨_, σ1, rfl, hw, by unfold wdB; rw [ht]; exact hP⟩, hS.F ht⟩) hS.2.2 dX8_count_54
  · have hw := hw.2 c2
    by_cases c3 : x1 = (1 : Int32)
    · have hw := hw.1 c3
      refine lv_tableIn (off := 49) (tgt := 55) hx hb dX8_count_6 (by rw [c3]; decide) (by rw [c3]; decide) (by rw [c3]; rfl) (by decide) ?_
      refine lv_aload_n hx hb dX8_count_55 rfl (lv_at hl 0 rfl) ?_
      refine va_get (D := D) (ci := 8) (C := RX8) (T := TX8) (N := 57) hx hb htb inX8 hown hK hP 0 (mw_0 c q σ1) rfl 2 (by decide) (htb _ tb_1183) (fun _ h9 => h9) rfl dX8_count_56 ?_
      refine lv_iconst (v := (0 : Int32)) hx hb dX8_count_59 (by decide) ?_
      refine va_iald hx hb hK hP 2 1 (mw_2 c q σ1) rfl (by unfold vp_in; decide) dX8_count_60 ?_
      exact W.iret hx hb hr (fun t ht hW => ⟨⟨_, σ1, rfl, hw, by unfold wdB; rw [ht]; exact hP⟩, hS.F ht⟩) hS.2.2 dX8_count_61
    · have hw := hw.2 c3
      by_cases c4 : x1 = (2 : Int32)
      · have hw := hw.1 c4
        refine lv_tableIn (off := 56) (tgt := 62) hx hb dX8_count_6 (by rw [c4]; decide) (by rw [c4]; decide) (by rw [c4]; rfl) (by decide) ?_
        refine lv_aload_n hx hb dX8_count_62 rfl (lv_at hl 0 rfl) ?_
        refine va_get (D := D) (ci := 8) (C := RX8) (T := TX8) (N := 57) hx hb htb inX8 hown hK hP 0 (mw_0 c q σ1) rfl 6 (by decide) (htb _ tb_1187) (fun _ h9 => h9) rfl dX8_count_63 ?_
        refine lv_iconst (v := (0 : Int32)) hx hb dX8_count_66 (by decide) ?_
        refine va_iald hx hb hK hP 6 5 (mw_6 c q σ1) rfl (by unfold vp_in; decide) dX8_count_67 ?_
        exact W.iret hx hb hr (fun t ht hW => ⟨⟨_, σ1, rfl, hw, by unfold wdB; rw [ht]; exact hP⟩, hS.F ht⟩) hS.2.2 dX8_count_68
      · have hw := hw.2 c4
        by_cases c5 : x1 = (3 : Int32)
        · have hw := hw.1 c5
          refine lv_tableIn (off := 63) (tgt := 69) hx hb dX8_count_6 (by rw [c5]; decide) (by rw [c5]; decide) (by rw [c5]; rfl) (by decide) ?_
          refine lv_aload_n hx hb dX8_count_69 rfl (lv_at hl 0 rfl) ?_
          refine va_get (D := D) (ci := 8) (C := RX8) (T := TX8) (N := 57) hx hb htb inX8 hown hK hP 0 (mw_0 c q σ1) rfl 3 (by decide) (htb _ tb_1184) (fun _ h9 => h9) rfl dX8_count_70 ?_
          refine lv_iconst (v := (0 : Int32)) hx hb dX8_count_73 (by decide) ?_
          refine va_iald hx hb hK hP 3 2 (mw_3 c q σ1) rfl (by unfold vp_in; decide) dX8_count_74 ?_
          exact W.iret hx hb hr (fun t ht hW => ⟨⟨_, σ1, rfl, hw, by unfold wdB; rw [ht]; exact hP⟩, hS.F ht⟩) hS.2.2 dX8_count_75
        · have hw := hw.2 c5
          by_cases c6 : x1 = (4 : Int32)
          · have hw := hw.1 c6
            refine lv_tableIn (off := 70) (tgt := 76) hx hb dX8_count_6 (by rw [c6]; decide) (by rw [c6]; decide) (by rw [c6]; rfl) (by decide) ?_
            refine lv_aload_n hx hb dX8_count_76 rfl (lv_at hl 0 rfl) ?_
            refine va_get (D := D) (ci := 8) (C := RX8) (T := TX8) (N := 57) hx hb htb inX8 hown hK hP 0 (mw_0 c q σ1) rfl 52 (by decide) (htb _ tb_1233) (fun _ h9 => h9) rfl dX8_count_77 ?_
            exact W.iret hx hb hr (fun t ht hW => ⟨⟨_, σ1, rfl, hw, by unfold wdB; rw [ht]; exact hP⟩, hS.F ht⟩) hS.2.2 dX8_count_80
          · have hw := hw.2 c6
            by_cases c7 : x1 = (5 : Int32)
            · have hw := hw.1 c7
              refine lv_tableIn (off := 75) (tgt := 81) hx hb dX8_count_6 (by rw [c7]; decide) (by rw [c7]; decide) (by rw [c7]; rfl) (by decide) ?_
              refine lv_aload_n hx hb dX8_count_81 rfl (lv_at hl 0 rfl) ?_
              refine va_get (D := D) (ci := 8) (C := RX8) (T := TX8) (N := 57) hx hb htb inX8 hown hK hP 0 (mw_0 c q σ1) rfl 14 (by decide) (htb _ tb_1195) (fun _ h9 => h9) rfl dX8_count_82 ?_
              exact W.iret hx hb hr (fun t ht hW => ⟨⟨_, σ1, rfl, hw, by unfold wdB; rw [ht]; exact hP⟩, hS.F ht⟩) hS.2.2 dX8_count_85
            · have hw := hw.2 c7
              by_cases c10 : x1 = (6 : Int32)
              · have hw := hw.1 c10
                refine lv_tableIn (off := 80) (tgt := 86) hx hb dX8_count_6 (by rw [c10]; decide) (by rw [c10]; decide) (by rw [c10]; rfl) (by decide) ?_
                refine lv_aload_n hx hb dX8_count_86 rfl (lv_at hl 0 rfl) ?_
                refine lv_iconst (v := (1 : Int32)) hx hb dX8_count_87 (by decide) ?_
                refine lv_aload_n hx hb dX8_count_88 rfl (lv_at hl 0 rfl) ?_
                refine va_get (D := D) (ci := 8) (C := RX8) (T := TX8) (N := 57) hx hb htb inX8 hown hK hP 0 (mw_0 c q σ1) rfl 2 (by decide) (htb _ tb_1183) (fun _ h9 => h9) rfl dX8_count_89 ?_
                refine lv_iconst (v := (0 : Int32)) hx hb dX8_count_92 (by decide) ?_
                refine va_iald hx hb hK hP 2 1 (mw_2 c q σ1) rfl (by unfold vp_in; decide) dX8_count_93 ?_
                refine lv_ishl hx hb dX8_count_94 ?_
                refine lv_iconst (v := (1 : Int32)) hx hb dX8_count_95 (by decide) ?_
                refine lv_isub hx hb dX8_count_96 ?_
                refine va_calli (va_runV (As := [.int (((1 : Int32) <<< ((σ1.2.1 2 (0 : Int32).toNatClampNeg) &&& 31)) - (1 : Int32))]) (rest := []) ⟨hx, hb, hml, hown, htb⟩ (kcX8_weightOf l D c q ev hev σ1 (((1 : Int32) <<< ((σ1.2.1 2 (0 : Int32).toNatClampNeg) &&& 31)) - (1 : Int32)) _ hw) (tb_CW htb kX8_weightOf tb_1454 tb_1456 tb_57 ⟨Nat.le_of_ble_eq_true rfl, Nat.le_of_ble_eq_true rfl⟩) (wd_preV (wd := mw c q) (k := 0) hev hK hP hD hE hS (mw_0 c q σ1) rfl) rfl rfl hl.1 rfl (lv_room (Nat.le_of_ble_eq_true rfl)) dX8_count_97 ⟨Nat.zero_le _, Nat.zero_le _⟩) hS (fun q _ h => h) (fun q h => h) (fun r8 σ9 t H1 locs1 ht hvm hw hB hz1 hk1 hS => ?_)
                have hP : va_P D vwCl (mw c q σ9) H1 := ht ▸ hB
                have hD : va_D (wdA 31 q) (mw c q σ9) := mw_D hD0
                exact W.iret hx hb hr (fun t ht hW => ⟨⟨_, σ9, rfl, hw, by unfold wdB; rw [ht]; exact hP⟩, hS.F ht⟩) hS.2.2 dX8_count_100
              · have hw := hw.2 c10
                have hz : ¬ (x1).toInt = 0 ∧ ¬ (x1).toInt = 1 ∧ ¬ (x1).toInt = 2 ∧ ¬ (x1).toInt = 3 ∧ ¬ (x1).toInt = 4 ∧ ¬ (x1).toInt = 5 ∧ ¬ (x1).toInt = 6 := by
                  exact ⟨lv_neT (a := 0) c2 rfl, lv_neT (a := 1) c3 rfl, lv_neT (a := 2) c4 rfl, lv_neT (a := 3) c5 rfl, lv_neT (a := 4) c6 rfl, lv_neT (a := 5) c7 rfl, lv_neT (a := 6) c10 rfl⟩
                refine lv_tableOut (tgt := 101) hx hb dX8_count_6 (by omega) (by decide) ?_
                refine lv_aload_n hx hb dX8_count_101 rfl (lv_at hl 0 rfl) ?_
                refine lv_iconst (v := (1 : Int32)) hx hb dX8_count_102 (by decide) ?_
                refine va_calli (va_runV (As := [.int (1 : Int32)]) (rest := []) ⟨hx, hb, hml, hown, htb⟩ (kcX8_fail l D c q ev hev σ1 (1 : Int32) _ hw) (tb_CW htb kX8_fail tb_1366 tb_1368 tb_42 ⟨Nat.le_of_ble_eq_true rfl, Nat.le_of_ble_eq_true rfl⟩) (wd_preV (wd := mw c q) (k := 0) hev hK hP hD hE hS (mw_0 c q σ1) rfl) rfl rfl hl.1 rfl (lv_room (Nat.le_of_ble_eq_true rfl)) dX8_count_103 ⟨Nat.zero_le _, Nat.zero_le _⟩) hS (fun q _ h => h) (fun q h => h) (fun r11 σ12 t H1 locs1 ht hvm hw hB hz1 hk1 hS => ?_)
                have hP : va_P D vwCl (mw c q σ12) H1 := ht ▸ hB
                have hD : va_D (wdA 31 q) (mw c q σ12) := mw_D hD0
                exact W.iret hx hb hr (fun t ht hW => ⟨⟨_, σ12, rfl, hw, by unfold wdB; rw [ht]; exact hP⟩, hS.F ht⟩) hS.2.2 dX8_count_106
def wX8_turn (x1 : Int32) (post : Int32 → hsS → Prop) (σ : hsS) : Prop := ∀ σ1 : hsS, σ1 = hsI σ 0 (0 : Int32) → wX8_isIn x1 (0 : Int32) ((σ1.2.1 6 (0 : Int32).toNatClampNeg) - (1 : Int32)) (fun r2 σ3 => ((r2 = (0 : Int32) → wX8_fail (1 : Int32) (fun r5 σ6 => post r5 σ6) σ3) ∧ (¬ r2 = (0 : Int32) → vp_in x1 18 ∧ post (σ3.2.1 10 x1.toNatClampNeg) σ3))) σ1
set_option maxHeartbeats 4000000 in
set_option maxRecDepth 100000 in
theorem kcX8_turn (l : Launch) (D : va_G) (c : Nat → ClassId) (q : Nat → Nat) (ev : State → Heap → Prop) (hev : evOK (wdA 31 q) ev) (σ : hsS) (x1 : Int32) (post : Int32 → hsS → Prop) (hw : wX8_turn x1 post σ) : Met l yX8_turn (Cond.code yX8_turn cX8_turn 2 (some .int) :: tb_L) { frames := 1, cells := 0, slots := 0, locals := 22 } (wdPc D (mw c q) (mwT c) (wdA 31 q) ev σ [.ref (q 0), .int x1]) (va_Qi post (wdB D (mw c q)) (wdA 31 q)) 0 0 (wdA 31 q) := by
  refine Met.ofW (cc := cX8_turn) (maxL := 2) (ret := (some .int)) (by decide) rfl ?_
  intro p e s m args below meth c₀ s₁ Bd hml hv
  obtain ⟨rfl, hP, hK, hD0, hE⟩ := hv
  have hx := Bd.exec
  have hb := Bd.bytes
  have hr := Bd.returns
  have hts := atoms_spec (ws := Cond.code yX8_turn cX8_turn 2 (some .int) :: tb_L) Bd.pre
  have htb : ∀ w ∈ tb_L, w.before [.ref (q 0), .int x1].toArray s = true := fun w h => hts w (List.mem_cons_of_mem _ h)
  have hown : s.vm.findClass RX8 = some m.cls := findClass_of_methodNamed Bd.named
  have hlocks := Bd.notSynchronized
  have hS : va_S (wdA 31 q) s.heap s.heap [] := va_S.rf
  have hD := hD0
  have hl := lv_entry ([.ref (q 0), .int x1]) (n := 2) (Nat.le_of_ble_eq_true rfl)
  rw [lg_entry_eq]
  generalize (lg_sl ([.ref (q 0), .int x1]) ++ List.replicate (2 - (lg_sl ([.ref (q 0), .int x1])).length) Slot.unset).toArray = ls at hl ⊢
  have hl : lv_has ls 2 [(0, .ref (q 0)), (1, .int x1)] := hl
  unfold wX8_turn at hw
  refine lv_aload_n hx hb dX8_turn_0 rfl (lv_at hl 0 rfl) ?_
  refine lv_iconst (v := (0 : Int32)) hx hb dX8_turn_1 (by decide) ?_
  refine va_put (D := D) (ci := 8) (ty := .int) (C := RX8) (T := TX8) (N := 57) hx hb htb inX8 tyX8 tyX8_ok nmX8 hown hK hP hD hS 0 (mw_0 c q σ) rfl 0 (by decide) (htb _ tb_1181) (fun _ h9 => h9) rfl (by decide +kernel) rfl rfl (Nat.le_of_ble_eq_true rfl) dX8_turn_2 (fun H locs hP hD hS => ?_)
  have hP : va_P D vwCl (mw c q (hsI σ 0 (0 : Int32))) H := hP
  obtain ⟨σ1, eσ1⟩ : ∃ z : hsS, z = hsI σ 0 (0 : Int32) := ⟨_, rfl⟩
  rw [← eσ1] at hP
  have hD : va_D (wdA 31 q) (mw c q σ1) := mw_D hD0
  have hw := hw σ1 eσ1
  refine lv_iload_n hx hb dX8_turn_5 rfl (lv_at hl 1 rfl) ?_
  refine lv_iconst (v := (0 : Int32)) hx hb dX8_turn_6 (by decide) ?_
  refine lv_aload_n hx hb dX8_turn_7 rfl (lv_at hl 0 rfl) ?_
  refine va_get (D := D) (ci := 8) (C := RX8) (T := TX8) (N := 57) hx hb htb inX8 hown hK hP 0 (mw_0 c q σ1) rfl 6 (by decide) (htb _ tb_1187) (fun _ h9 => h9) rfl dX8_turn_8 ?_
  refine lv_iconst (v := (0 : Int32)) hx hb dX8_turn_11 (by decide) ?_
  refine va_iald hx hb hK hP 6 5 (mw_6 c q σ1) rfl (by unfold vp_in; decide) dX8_turn_12 ?_
  refine lv_iconst (v := (1 : Int32)) hx hb dX8_turn_13 (by decide) ?_
  refine lv_isub hx hb dX8_turn_14 ?_
  refine va_calli (va_runS (As := [.int x1, .int (0 : Int32), .int ((σ1.2.1 6 (0 : Int32).toNatClampNeg) - (1 : Int32))]) (rest := []) ⟨hx, hb, hml, hown, htb⟩ (kcX8_isIn_m l D c q ev hev σ1 x1 (0 : Int32) ((σ1.2.1 6 (0 : Int32).toNatClampNeg) - (1 : Int32)) _ hw) (tb_CS htb kX8_isIn tb_1462 tb_1463 ⟨Nat.le_of_ble_eq_true rfl, Nat.le_of_ble_eq_true rfl⟩) (wd_preS (wd := mw c q) hev hK hP hD hE hS) rfl rfl hl.1 rfl (lv_room (Nat.le_of_ble_eq_true rfl)) dX8_turn_15 ⟨Nat.zero_le _, Nat.zero_le _⟩) hS (fun q _ h => h) (fun q h => h) (fun r2 σ3 t H1 locs1 ht hvm hw hB hz1 hk1 hS => ?_)
  have hP : va_P D vwCl (mw c q σ3) H1 := ht ▸ hB
  have hD : va_D (wdA 31 q) (mw c q σ3) := mw_D hD0
  refine lv_if_eq (tgt := 30) hx hb dX8_turn_18 (by decide) (fun c4 => ?_) (fun c4 => ?_)
  · have hw := hw.1 c4
    refine lv_aload_n hx hb dX8_turn_30 rfl (lv_at hl 0 rfl) ?_
    refine lv_iconst (v := (1 : Int32)) hx hb dX8_turn_31 (by decide) ?_
    refine va_calli (va_runV (As := [.int (1 : Int32)]) (rest := []) ⟨hx, hb, hml, hown, htb⟩ (kcX8_fail l D c q ev hev σ3 (1 : Int32) _ hw) (tb_CW htb kX8_fail tb_1366 tb_1368 tb_42 ⟨Nat.le_of_ble_eq_true rfl, Nat.le_of_ble_eq_true rfl⟩) (wd_preV (wd := mw c q) (k := 0) hev hK hP hD hE hS (mw_0 c q σ3) rfl) rfl rfl hl.1 rfl (lv_room (Nat.le_of_ble_eq_true rfl)) dX8_turn_32 ⟨Nat.zero_le _, Nat.zero_le _⟩) hS (fun q _ h => h) (fun q h => h) (fun r5 σ6 t H1 locs1 ht hvm hw hB hz1 hk1 hS => ?_)
    have hP : va_P D vwCl (mw c q σ6) H1 := ht ▸ hB
    have hD : va_D (wdA 31 q) (mw c q σ6) := mw_D hD0
    exact W.iret hx hb hr (fun t ht hW => ⟨⟨_, σ6, rfl, hw, by unfold wdB; rw [ht]; exact hP⟩, hS.F ht⟩) hS.2.2 dX8_turn_35
  · have hw := hw.2 c4
    refine lv_aload_n hx hb dX8_turn_21 rfl (lv_at hl 0 rfl) ?_
    refine va_get (D := D) (ci := 8) (C := RX8) (T := TX8) (N := 57) hx hb htb inX8 hown hK hP 0 (mw_0 c q σ3) rfl 10 (by decide) (htb _ tb_1191) (fun _ h9 => h9) rfl dX8_turn_22 ?_
    refine lv_iload_n hx hb dX8_turn_25 rfl (lv_at hl 1 rfl) ?_
    refine va_iald hx hb hK hP 10 9 (mw_10 c q σ3) rfl hw.1 dX8_turn_26 ?_
    have hw := hw.2
    refine lv_goto (tgt := 35) hx hb dX8_turn_27 (by decide) ?_
    exact W.iret hx hb hr (fun t ht hW => ⟨⟨_, σ3, rfl, hw, by unfold wdB; rw [ht]; exact hP⟩, hS.F ht⟩) hS.2.2 dX8_turn_35
def wX8_placeOf_L6 (z1 : Int32) (z2 : Int32) (z3 : Int32) (K54 : Int32 → Int32 → hsS → Prop) (post : Int32 → hsS → Prop) : Nat → Int32 → Int32 → hsS → Prop
  | 0, _, _, _ => False
  | n + 1, y4, y5, σ => ((z3 ≤ y5 → K54 y4 y5 σ) ∧ (¬ z3 ≤ y5 → vp_in ((z1 * (10 : Int32)) + y5) 160 ∧ vp_in ((z1 * (10 : Int32)) + z2) 160 ∧ (((σ.2.1 8 ((z1 * (10 : Int32)) + z2).toNatClampNeg) ≤ (σ.2.1 8 ((z1 * (10 : Int32)) + y5).toNatClampNeg) → ∀ v3 : Int32, v3 = y4 + (0 : Int32) → ∀ v4 : Int32, v4 = y5 + (1 : Int32) → wX8_placeOf_L6 z1 z2 z3 K54 post n v3 v4 σ) ∧ (¬ (σ.2.1 8 ((z1 * (10 : Int32)) + z2).toNatClampNeg) ≤ (σ.2.1 8 ((z1 * (10 : Int32)) + y5).toNatClampNeg) → ∀ v5 : Int32, v5 = y4 + (1 : Int32) → ∀ v6 : Int32, v6 = y5 + (1 : Int32) → wX8_placeOf_L6 z1 z2 z3 K54 post n v5 v6 σ))))
def wX8_placeOf (x1 : Int32) (x2 : Int32) (x3 : Int32) (post : Int32 → hsS → Prop) (σ : hsS) : Prop := ∃ n7, wX8_placeOf_L6 x1 x2 x3 (fun v8 v9 σ10 => post v8 σ10) post n7 (0 : Int32) (0 : Int32) σ
set_option maxHeartbeats 4000000 in
set_option maxRecDepth 100000 in
theorem kcX8_placeOf (l : Launch) (D : va_G) (c : Nat → ClassId) (q : Nat → Nat) (ev : State → Heap → Prop) (hev : evOK (wdA 31 q) ev) (σ : hsS) (x1 : Int32) (x2 : Int32) (x3 : Int32) (post : Int32 → hsS → Prop) (hw : wX8_placeOf x1 x2 x3 post σ) : Met l yX8_placeOf (Cond.code yX8_placeOf cX8_placeOf 6 (some .int) :: tb_L) { frames := 0, cells := 0, slots := 0, locals := 0 } (wdPc D (mw c q) (mwT c) (wdA 31 q) ev σ [.ref (q 0), .int x1, .int x2, .int x3]) (va_Qi post (wdB D (mw c q)) (wdA 31 q)) 0 0 (wdA 31 q) := by
  refine Met.ofW (cc := cX8_placeOf) (maxL := 6) (ret := (some .int)) (by decide) rfl ?_
  intro p e s m args below meth c₀ s₁ Bd hml hv
  obtain ⟨rfl, hP, hK, hD0, hE⟩ := hv
  have hx := Bd.exec
  have hb := Bd.bytes
  have hr := Bd.returns
  have hts := atoms_spec (ws := Cond.code yX8_placeOf cX8_placeOf 6 (some .int) :: tb_L) Bd.pre
  have htb : ∀ w ∈ tb_L, w.before [.ref (q 0), .int x1, .int x2, .int x3].toArray s = true := fun w h => hts w (List.mem_cons_of_mem _ h)
  have hown : s.vm.findClass RX8 = some m.cls := findClass_of_methodNamed Bd.named
  have hlocks := Bd.notSynchronized
  have hS : va_S (wdA 31 q) s.heap s.heap [] := va_S.rf
  have hD := hD0
  have L6 : ∀ (K54 : Int32 → Int32 → hsS → Prop) (z1 : Int32) (z2 : Int32) (z3 : Int32) (n : Nat) (y4 : Int32) (y5 : Int32) (σ : hsS) (H : Heap) (locs : List Loc) (ls : Array Slot), wX8_placeOf_L6 z1 z2 z3 K54 post n y4 y5 σ → (∀ (y4 : Int32) (y5 : Int32) (σ : hsS) (H : Heap) (locs : List Loc) (ls : Array Slot), K54 y4 y5 σ → va_P D vwCl (mw c q σ) H → va_S (wdA 31 q) s.heap H locs → lv_has ls 6 [(0, .ref (q 0)), (1, .int z1), (2, .int z2), (3, .int z3), (4, .int y4), (5, .int y5)] → W p l e (headSpec (Cond.code yX8_placeOf cX8_placeOf 6 (some .int) :: tb_L) { frames := 0, cells := 0, slots := 0, locals := 0 }).room s m [.ref (q 0), .int x1, .int x2, .int x3].toArray below meth c₀ H locs 0 0 (MQ below (va_Qi post (wdB D (mw c q)) (wdA 31 q)) [.ref (q 0), .int x1, .int x2, .int x3].toArray s 0 0 (wdA 31 q)) (F0 m 54 ls [])) → va_P D vwCl (mw c q σ) H → va_S (wdA 31 q) s.heap H locs → lv_has ls 6 [(0, .ref (q 0)), (1, .int z1), (2, .int z2), (3, .int z3), (4, .int y4), (5, .int y5)] → W p l e (headSpec (Cond.code yX8_placeOf cX8_placeOf 6 (some .int) :: tb_L) { frames := 0, cells := 0, slots := 0, locals := 0 }).room s m [.ref (q 0), .int x1, .int x2, .int x3].toArray below meth c₀ H locs 0 0 (MQ below (va_Qi post (wdB D (mw c q)) (wdA 31 q)) [.ref (q 0), .int x1, .int x2, .int x3].toArray s 0 0 (wdA 31 q)) (F0 m 6 ls []) := by
    intro K54 z1 z2 z3 n
    induction n with
    | zero =>
      intro y4 y5 σ H locs ls hw hk54 hP hS hl
      exact (show False from hw).elim
    | succ n ih =>
      intro y4 y5 σ H locs ls hw hk54 hP hS hl
      rw [wX8_placeOf_L6] at hw
      have hD : va_D (wdA 31 q) (mw c q σ) := mw_D hD0
      refine lv_iload hx hb dX8_placeOf_6 (lv_at hl 5 rfl) ?_
      refine lv_iload_n hx hb dX8_placeOf_8 rfl (lv_at hl 3 rfl) ?_
      refine lv_icmp_ge (tgt := 54) hx hb dX8_placeOf_9 (by decide) (fun c1 => ?_) (fun c1 => ?_)
      · have hw := hw.1 c1
        exact hk54 y4 y5 σ _ _ _ hw hP hS (lv_sub hl [0, 1, 2, 3, 4, 5] rfl)
      · have hw := hw.2 c1
        refine lv_iload hx hb dX8_placeOf_12 (lv_at hl 4 rfl) ?_
        refine lv_aload_n hx hb dX8_placeOf_14 rfl (lv_at hl 0 rfl) ?_
        refine va_get (D := D) (ci := 8) (C := RX8) (T := TX8) (N := 57) hx hb htb inX8 hown hK hP 0 (mw_0 c q σ) rfl 8 (by decide) (htb _ tb_1189) (fun _ h9 => h9) rfl dX8_placeOf_15 ?_
        refine lv_iload_n hx hb dX8_placeOf_18 rfl (lv_at hl 1 rfl) ?_
        refine lv_bipush (v := (10 : Int32)) hx hb dX8_placeOf_19 (by decide) ?_
        refine lv_imul hx hb dX8_placeOf_21 ?_
        refine lv_iload hx hb dX8_placeOf_22 (lv_at hl 5 rfl) ?_
        refine lv_iadd hx hb dX8_placeOf_24 ?_
        refine va_iald hx hb hK hP 8 7 (mw_8 c q σ) rfl hw.1 dX8_placeOf_25 ?_
        have hw := hw.2
        refine lv_aload_n hx hb dX8_placeOf_26 rfl (lv_at hl 0 rfl) ?_
        refine va_get (D := D) (ci := 8) (C := RX8) (T := TX8) (N := 57) hx hb htb inX8 hown hK hP 0 (mw_0 c q σ) rfl 8 (by decide) (htb _ tb_1189) (fun _ h9 => h9) rfl dX8_placeOf_27 ?_
        refine lv_iload_n hx hb dX8_placeOf_30 rfl (lv_at hl 1 rfl) ?_
        refine lv_bipush (v := (10 : Int32)) hx hb dX8_placeOf_31 (by decide) ?_
        refine lv_imul hx hb dX8_placeOf_33 ?_
        refine lv_iload_n hx hb dX8_placeOf_34 rfl (lv_at hl 2 rfl) ?_
        refine lv_iadd hx hb dX8_placeOf_35 ?_
        refine va_iald hx hb hK hP 8 7 (mw_8 c q σ) rfl hw.1 dX8_placeOf_36 ?_
        have hw := hw.2
        refine lv_icmp_ge (tgt := 44) hx hb dX8_placeOf_37 (by decide) (fun c2 => ?_) (fun c2 => ?_)
        · have hw := hw.1 c2
          refine lv_iconst (v := (0 : Int32)) hx hb dX8_placeOf_44 (by decide) ?_
          refine lv_iadd hx hb dX8_placeOf_45 ?_
          refine lv_topi (fun v3 ev3 => ?_)
          have hw := hw v3 ev3
          refine lv_istore (lv' := [(4, .int v3), (0, .ref (q 0)), (1, .int z1), (2, .int z2), (3, .int z3), (5, .int y5)]) hx hb dX8_placeOf_46 hl (by decide) rfl (fun ls hl => ?_)
          obtain ⟨v4, ev4⟩ : ∃ z : Int32, z = y5 + (1 : Int32) := ⟨_, rfl⟩
          have hw := hw v4 ev4
          refine lv_iinc (v := v4) (lv' := [(5, .int v4), (4, .int v3), (0, .ref (q 0)), (1, .int z1), (2, .int z2), (3, .int z3)]) hx hb dX8_placeOf_48 hl (k := 5) rfl (by rw [ev4]; rfl) (by decide) rfl (fun ls hl => ?_)
          refine lv_goto (tgt := 6) hx hb dX8_placeOf_51 (by decide) ?_
          exact ih v3 v4 σ _ _ _ hw hk54 hP hS (lv_sub hl [2, 3, 4, 5, 1, 0] rfl)
        · have hw := hw.2 c2
          refine lv_iconst (v := (1 : Int32)) hx hb dX8_placeOf_40 (by decide) ?_
          refine lv_goto (tgt := 45) hx hb dX8_placeOf_41 (by decide) ?_
          refine lv_iadd hx hb dX8_placeOf_45 ?_
          refine lv_topi (fun v5 ev5 => ?_)
          have hw := hw v5 ev5
          refine lv_istore (lv' := [(4, .int v5), (0, .ref (q 0)), (1, .int z1), (2, .int z2), (3, .int z3), (5, .int y5)]) hx hb dX8_placeOf_46 hl (by decide) rfl (fun ls hl => ?_)
          obtain ⟨v6, ev6⟩ : ∃ z : Int32, z = y5 + (1 : Int32) := ⟨_, rfl⟩
          have hw := hw v6 ev6
          refine lv_iinc (v := v6) (lv' := [(5, .int v6), (4, .int v5), (0, .ref (q 0)), (1, .int z1), (2, .int z2), (3, .int z3)]) hx hb dX8_placeOf_48 hl (k := 5) rfl (by rw [ev6]; rfl) (by decide) rfl (fun ls hl => ?_)
          refine lv_goto (tgt := 6) hx hb dX8_placeOf_51 (by decide) ?_
          exact ih v5 v6 σ _ _ _ hw hk54 hP hS (lv_sub hl [2, 3, 4, 5, 1, 0] rfl)
  have hl := lv_entry ([.ref (q 0), .int x1, .int x2, .int x3]) (n := 6) (Nat.le_of_ble_eq_true rfl)
  rw [lg_entry_eq]
  generalize (lg_sl ([.ref (q 0), .int x1, .int x2, .int x3]) ++ List.replicate (6 - (lg_sl ([.ref (q 0), .int x1, .int x2, .int x3])).length) Slot.unset).toArray = ls at hl ⊢
  have hl : lv_has ls 6 [(0, .ref (q 0)), (1, .int x1), (2, .int x2), (3, .int x3)] := hl
  unfold wX8_placeOf at hw
  refine lv_iconst (v := (0 : Int32)) hx hb dX8_placeOf_0 (by decide) ?_
  refine lv_istore (lv' := [(4, .int (0 : Int32)), (0, .ref (q 0)), (1, .int x1), (2, .int x2), (3, .int x3)]) hx hb dX8_placeOf_1 hl (by decide) rfl (fun ls hl => ?_)
  refine lv_iconst (v := (0 : Int32)) hx hb dX8_placeOf_3 (by decide) ?_
  refine lv_istore (lv' := [(5, .int (0 : Int32)), (4, .int (0 : Int32)), (0, .ref (q 0)), (1, .int x1), (2, .int x2), (3, .int x3)]) hx hb dX8_placeOf_4 hl (by decide) rfl (fun ls hl => ?_)
  obtain ⟨n7, hw⟩ := hw
  refine L6 _ x1 x2 x3 n7 (0 : Int32) (0 : Int32) σ _ _ _ hw ?_ hP hS (lv_sub hl [2, 3, 4, 5, 1, 0] rfl)
  intro v8 v9 σ10 H locs ls hw hP hS hl
  have hD : va_D (wdA 31 q) (mw c q σ10) := mw_D hD0
  refine lv_iload hx hb dX8_placeOf_54 (lv_at hl 4 rfl) ?_
  exact W.iret hx hb hr (fun t ht hW => ⟨⟨_, σ10, rfl, hw, by unfold wdB; rw [ht]; exact hP⟩, hS.F ht⟩) hS.2.2 dX8_placeOf_56
def wX8_look_L24 (z1 : Int32) (K59 : Int32 → hsS → Prop) (post : hsS → Prop) : Nat → Int32 → hsS → Prop
  | 0, _, _ => False
  | n + 1, y2, σ => (((σ.1 25) ≤ y2 → K59 y2 σ) ∧ (¬ (σ.1 25) ≤ y2 → wX8_placeOf z1 y2 (σ.1 25) (fun r4 σ5 => vp_in ((z1 * (10 : Int32)) + y2) 80 ∧ ∀ σ6 : hsS, σ6 = hsA σ5 13 (upd (σ5.2.1 13) ((z1 * (10 : Int32)) + y2).toNatClampNeg r4) → ∀ v7 : Int32, v7 = y2 + (1 : Int32) → wX8_look_L24 z1 K59 post n v7 σ6) σ))
def wX8_look_L12 (K65 : Int32 → hsS → Prop) (post : hsS → Prop) : Nat → Int32 → hsS → Prop
  | 0, _, _ => False
  | n + 1, y1, σ => (((σ.2.1 2 (0 : Int32).toNatClampNeg) ≤ y1 → K65 y1 σ) ∧ (¬ (σ.2.1 2 (0 : Int32).toNatClampNeg) ≤ y1 → ∃ n8, wX8_look_L24 y1 (fun v9 σ10 => ∀ v11 : Int32, v11 = y1 + (1 : Int32) → wX8_look_L12  K65 post n v11 σ10) post n8 (0 : Int32) σ))
def wX8_look  (post : hsS → Prop) (σ : hsS) : Prop := ∀ σ1 : hsS, σ1 = hsI σ 25 (σ.2.1 1 (0 : Int32).toNatClampNeg) → ∃ n12, wX8_look_L12  (fun v13 σ14 => post σ14) post n12 (0 : Int32) σ1
set_option maxHeartbeats 4000000 in
set_option maxRecDepth 100000 in
theorem kcX8_look (l : Launch) (D : va_G) (c : Nat → ClassId) (q : Nat → Nat) (ev : State → Heap → Prop) (hev : evOK (wdA 31 q) ev) (σ : hsS)  (post : hsS → Prop) (hw : wX8_look  post σ) : Met l yX8_look (Cond.code yX8_look cX8_look 3 none :: tb_L) { frames := 1, cells := 0, slots := 0, locals := 25 } (wdPc D (mw c q) (mwT c) (wdA 31 q) ev σ [.ref (q 0)]) (va_Qv post (wdB D (mw c q)) (wdA 31 q)) 0 0 (wdA 31 q) := by
  refine Met.ofW (cc := cX8_look) (maxL := 3) (ret := none) (by decide) rfl ?_
  intro p e s m args below meth c₀ s₁ Bd hml hv
  obtain ⟨rfl, hP, hK, hD0, hE⟩ := hv
  have hx := Bd.exec
  have hb := Bd.bytes
  have hr := Bd.returns
  have hts := atoms_spec (ws := Cond.code yX8_look cX8_look 3 none :: tb_L) Bd.pre
  have htb : ∀ w ∈ tb_L, w.before [.ref (q 0)].toArray s = true := fun w h => hts w (List.mem_cons_of_mem _ h)
  have hown : s.vm.findClass RX8 = some m.cls := findClass_of_methodNamed Bd.named
  have hlocks := Bd.notSynchronized
  have hS : va_S (wdA 31 q) s.heap s.heap [] := va_S.rf
  have hD := hD0
  have L24 : ∀ (K59 : Int32 → hsS → Prop) (z1 : Int32) (n : Nat) (y2 : Int32) (σ : hsS) (H : Heap) (locs : List Loc) (ls : Array Slot), wX8_look_L24 z1 K59 post n y2 σ → (∀ (y2 : Int32) (σ : hsS) (H : Heap) (locs : List Loc) (ls : Array Slot), K59 y2 σ → va_P D vwCl (mw c q σ) H → va_S (wdA 31 q) s.heap H locs → lv_has ls 3 [(0, .ref (q 0)), (1, .int z1), (2, .int y2)] → W p l e (headSpec (Cond.code yX8_look cX8_look 3 none :: tb_L) { frames := 1, cells := 0, slots := 0, locals := 25 }).room s m [.ref (q 0)].toArray below meth c₀ H locs 0 0 (MQ below (va_Qv post (wdB D (mw c q)) (wdA 31 q)) [.ref (q 0)].toArray s 0 0 (wdA 31 q)) (F0 m 59 ls [])) → va_P D vwCl (mw c q σ) H → va_S (wdA 31 q) s.heap H locs → lv_has ls 3 [(0, .ref (q 0)), (1, .int z1), (2, .int y2)] → W p l e (headSpec (Cond.code yX8_look cX8_look 3 none :: tb_L) { frames := 1, cells := 0, slots := 0, locals := 25 }).room s m [.ref (q 0)].toArray below meth c₀ H locs 0 0 (MQ below (va_Qv post (wdB D (mw c q)) (wdA 31 q)) [.ref (q 0)].toArray s 0 0 (wdA 31 q)) (F0 m 24 ls []) := by
    intro K59 z1 n
    induction n with
    | zero =>
      intro y2 σ H locs ls hw hk59 hP hS hl
      exact (show False from hw).elim
    | succ n ih =>
      intro y2 σ H locs ls hw hk59 hP hS hl
      rw [wX8_look_L24] at hw
      have hD : va_D (wdA 31 q) (mw c q σ) := mw_D hD0
      refine lv_iload_n hx hb dX8_look_24 rfl (lv_at hl 2 rfl) ?_
      refine lv_aload_n hx hb dX8_look_25 rfl (lv_at hl 0 rfl) ?_
      refine va_get (D := D) (ci := 8) (C := RX8) (T := TX8) (N := 57) hx hb htb inX8 hown hK hP 0 (mw_0 c q σ) rfl 25 (by decide) (htb _ tb_1206) (fun _ h9 => h9) rfl dX8_look_26 ?_
      refine lv_icmp_ge (tgt := 59) hx hb dX8_look_29 (by decide) (fun c3 => ?_) (fun c3 => ?_)
      · have hw := hw.1 c3
        exact hk59 y2 σ _ _ _ hw hP hS (lv_sub hl [0, 1, 2] rfl)
      · have hw := hw.2 c3
        refine lv_aload_n hx hb dX8_look_32 rfl (lv_at hl 0 rfl) ?_
        refine va_get (D := D) (ci := 8) (C := RX8) (T := TX8) (N := 57) hx hb htb inX8 hown hK hP 0 (mw_0 c q σ) rfl 24 (by decide) (htb _ tb_1205) (fun _ h9 => h9) rfl dX8_look_33 ?_
        refine lv_iload_n hx hb dX8_look_36 rfl (lv_at hl 1 rfl) ?_
        refine lv_bipush (v := (10 : Int32)) hx hb dX8_look_37 (by decide) ?_
        refine lv_imul hx hb dX8_look_39 ?_
        refine lv_iload_n hx hb dX8_look_40 rfl (lv_at hl 2 rfl) ?_
        refine lv_iadd hx hb dX8_look_41 ?_
        refine lv_aload_n hx hb dX8_look_42 rfl (lv_at hl 0 rfl) ?_
        refine lv_iload_n hx hb dX8_look_43 rfl (lv_at hl 1 rfl) ?_
        refine lv_iload_n hx hb dX8_look_44 rfl (lv_at hl 2 rfl) ?_
        refine lv_aload_n hx hb dX8_look_45 rfl (lv_at hl 0 rfl) ?_
        refine va_get (D := D) (ci := 8) (C := RX8) (T := TX8) (N := 57) hx hb htb inX8 hown hK hP 0 (mw_0 c q σ) rfl 25 (by decide) (htb _ tb_1206) (fun _ h9 => h9) rfl dX8_look_46 ?_
        refine va_calli (va_runV (As := [.int z1, .int y2, .int (σ.1 25)]) (rest := [.int ((z1 * (10 : Int32)) + y2), .ref (q 13)]) ⟨hx, hb, hml, hown, htb⟩ (kcX8_placeOf l D c q ev hev σ z1 y2 (σ.1 25) _ hw) (tb_CW htb kX8_placeOf tb_1477 tb_1479 tb_60 ⟨Nat.le_of_ble_eq_true rfl, Nat.le_of_ble_eq_true rfl⟩) (wd_preV (wd := mw c q) (k := 0) hev hK hP hD hE hS (mw_0 c q σ) rfl) rfl rfl hl.1 rfl (lv_room (Nat.le_of_ble_eq_true rfl)) dX8_look_49 ⟨Nat.zero_le _, Nat.zero_le _⟩) hS (fun q _ h => h) (fun q h => h) (fun r4 σ5 t H1 locs1 ht hvm hw hB hz1 hk1 hS => ?_)
        have hP : va_P D vwCl (mw c q σ5) H1 := ht ▸ hB
        have hD : va_D (wdA 31 q) (mw c q σ5) := mw_D hD0
        refine va_iast hx hb hK hP hD hS 13 12 (mw_13 c q σ5) rfl hw.1 dX8_look_52 (fun H locs hP hD hS => ?_)
        have hw := hw.2
        have hP : va_P D vwCl (mw c q (hsA σ5 13 (upd (σ5.2.1 13) ((z1 * (10 : Int32)) + y2).toNatClampNeg r4))) H := hP
        obtain ⟨σ6, eσ6⟩ : ∃ z : hsS, z = hsA σ5 13 (upd (σ5.2.1 13) ((z1 * (10 : Int32)) + y2).toNatClampNeg r4) := ⟨_, rfl⟩
        rw [← eσ6] at hP
        have hD : va_D (wdA 31 q) (mw c q σ6) := mw_D hD0
        have hw := hw σ6 eσ6
        obtain ⟨v7, ev7⟩ : ∃ z : Int32, z = y2 + (1 : Int32) := ⟨_, rfl⟩
        have hw := hw v7 ev7
        refine lv_iinc (v := v7) (lv' := [(2, .int v7), (0, .ref (q 0)), (1, .int z1)]) hx hb dX8_look_53 hl (k := 2) rfl (by rw [ev7]; rfl) (by decide) rfl (fun ls hl => ?_)
        refine lv_goto (tgt := 24) hx hb dX8_look_56 (by decide) ?_
        exact ih v7 σ6 _ _ _ hw hk59 hP hS (lv_sub hl [1, 2, 0] rfl)
  have L12 : ∀ (K65 : Int32 → hsS → Prop) (n : Nat) (y1 : Int32) (σ : hsS) (H : Heap) (locs : List Loc) (ls : Array Slot), wX8_look_L12  K65 post n y1 σ → (∀ (y1 : Int32) (σ : hsS) (H : Heap) (locs : List Loc) (ls : Array Slot), K65 y1 σ → va_P D vwCl (mw c q σ) H → va_S (wdA 31 q) s.heap H locs → lv_has ls 3 [(0, .ref (q 0)), (1, .int y1)] → W p l e (headSpec (Cond.code yX8_look cX8_look 3 none :: tb_L) { frames := 1, cells := 0, slots := 0, locals := 25 }).room s m [.ref (q 0)].toArray below meth c₀ H locs 0 0 (MQ below (va_Qv post (wdB D (mw c q)) (wdA 31 q)) [.ref (q 0)].toArray s 0 0 (wdA 31 q)) (F0 m 65 ls [])) → va_P D vwCl (mw c q σ) H → va_S (wdA 31 q) s.heap H locs → lv_has ls 3 [(0, .ref (q 0)), (1, .int y1)] → W p l e (headSpec (Cond.code yX8_look cX8_look 3 none :: tb_L) { frames := 1, cells := 0, slots := 0, locals := 25 }).room s m [.ref (q 0)].toArray below meth c₀ H locs 0 0 (MQ below (va_Qv post (wdB D (mw c q)) (wdA 31 q)) [.ref (q 0)].toArray s 0 0 (wdA 31 q)) (F0 m 12 ls []) := by
    intro K65 n
    induction n with
    | zero =>
      intro y1 σ H locs ls hw hk65 hP hS hl
      exact (show False from hw).elim
    | succ n ih =>
      intro y1 σ H locs ls hw hk65 hP hS hl
      rw [wX8_look_L12] at hw
      have hD : va_D (wdA 31 q) (mw c q σ) := mw_D hD0
      refine lv_iload_n hx hb dX8_look_12 rfl (lv_at hl 1 rfl) ?_
      refine lv_aload_n hx hb dX8_look_13 rfl (lv_at hl 0 rfl) ?_
      refine va_get (D := D) (ci := 8) (C := RX8) (T := TX8) (N := 57) hx hb htb inX8 hown hK hP 0 (mw_0 c q σ) rfl 2 (by decide) (htb _ tb_1183) (fun _ h9 => h9) rfl dX8_look_14 ?_
      refine lv_iconst (v := (0 : Int32)) hx hb dX8_look_17 (by decide) ?_
      refine va_iald hx hb hK hP 2 1 (mw_2 c q σ) rfl (by unfold vp_in; decide) dX8_look_18 ?_
      refine lv_icmp_ge (tgt := 65) hx hb dX8_look_19 (by decide) (fun c2 => ?_) (fun c2 => ?_)
      · have hw := hw.1 c2
        exact hk65 y1 σ _ _ _ hw hP hS (lv_sub hl [0, 1] rfl)
      · have hw := hw.2 c2
        refine lv_iconst (v := (0 : Int32)) hx hb dX8_look_22 (by decide) ?_
        refine lv_istore_n (lv' := [(2, .int (0 : Int32)), (0, .ref (q 0)), (1, .int y1)]) hx hb dX8_look_23 rfl hl (by decide) rfl (fun ls hl => ?_)
        obtain ⟨n8, hw⟩ := hw
        refine L24 _ y1 n8 (0 : Int32) σ _ _ _ hw ?_ hP hS (lv_sub hl [1, 2, 0] rfl)
        intro v9 σ10 H locs ls hw hP hS hl
        have hD : va_D (wdA 31 q) (mw c q σ10) := mw_D hD0
        obtain ⟨v11, ev11⟩ : ∃ z : Int32, z = y1 + (1 : Int32) := ⟨_, rfl⟩
        have hw := hw v11 ev11
        refine lv_iinc (v := v11) (lv' := [(1, .int v11), (0, .ref (q 0)), (2, .int v9)]) hx hb dX8_look_59 hl (k := 1) rfl (by rw [ev11]; rfl) (by decide) rfl (fun ls hl => ?_)
        refine lv_goto (tgt := 12) hx hb dX8_look_62 (by decide) ?_
        exact ih v11 σ10 _ _ _ hw hk65 hP hS (lv_sub hl [1, 0] rfl)
  have hl := lv_entry ([.ref (q 0)]) (n := 3) (Nat.le_of_ble_eq_true rfl)
  rw [lg_entry_eq]
  generalize (lg_sl ([.ref (q 0)]) ++ List.replicate (3 - (lg_sl ([.ref (q 0)])).length) Slot.unset).toArray = ls at hl ⊢
  have hl : lv_has ls 3 [(0, .ref (q 0))] := hl
  unfold wX8_look at hw
  refine lv_aload_n hx hb dX8_look_0 rfl (lv_at hl 0 rfl) ?_
  refine lv_aload_n hx hb dX8_look_1 rfl (lv_at hl 0 rfl) ?_
  refine va_get (D := D) (ci := 8) (C := RX8) (T := TX8) (N := 57) hx hb htb inX8 hown hK hP 0 (mw_0 c q σ) rfl 1 (by decide) (htb _ tb_1182) (fun _ h9 => h9) rfl dX8_look_2 ?_
  refine lv_iconst (v := (0 : Int32)) hx hb dX8_look_5 (by decide) ?_
  refine va_iald hx hb hK hP 1 0 (mw_1 c q σ) rfl (by unfold vp_in; decide) dX8_look_6 ?_
  refine va_put (D := D) (ci := 8) (ty := .int) (C := RX8) (T := TX8) (N := 57) hx hb htb inX8 tyX8 tyX8_ok nmX8 hown hK hP hD hS 0 (mw_0 c q σ) rfl 25 (by decide) (htb _ tb_1206) (fun _ h9 => h9) rfl (by decide +kernel) rfl rfl (Nat.le_of_ble_eq_true rfl) dX8_look_7 (fun H locs hP hD hS => ?_)
  have hP : va_P D vwCl (mw c q (hsI σ 25 (σ.2.1 1 (0 : Int32).toNatClampNeg))) H := hP
  obtain ⟨σ1, eσ1⟩ : ∃ z : hsS, z = hsI σ 25 (σ.2.1 1 (0 : Int32).toNatClampNeg) := ⟨_, rfl⟩
  rw [← eσ1] at hP
  have hD : va_D (wdA 31 q) (mw c q σ1) := mw_D hD0
  have hw := hw σ1 eσ1
  refine lv_iconst (v := (0 : Int32)) hx hb dX8_look_10 (by decide) ?_
  refine lv_istore_n (lv' := [(1, .int (0 : Int32)), (0, .ref (q 0))]) hx hb dX8_look_11 rfl hl (by decide) rfl (fun ls hl => ?_)
  obtain ⟨n12, hw⟩ := hw
  refine L12 _ n12 (0 : Int32) σ1 _ _ _ hw ?_ hP hS (lv_sub hl [1, 0] rfl)
  intro v13 σ14 H locs ls hw hP hS hl
  have hD : va_D (wdA 31 q) (mw c q σ14) := mw_D hD0
  exact W.vret hx hb hr (fun t ht hW => ⟨⟨σ14, rfl, hw, by unfold wdB; rw [ht]; exact hP⟩, hS.F ht⟩) hS.2.2 dX8_look_65
def wX8_lookWith_L35 (z1 : Int32) (z2 : Int32) (z3 : Int32) (z4 : Int32) (K79 : Int32 → Int32 → hsS → Prop) (post : hsS → Prop) : Nat → Int32 → Int32 → hsS → Prop
  | 0, _, _, _ => False
  | n + 1, y5, y6, σ => ((z2 ≤ y6 → K79 y5 y6 σ) ∧ (¬ z2 ≤ y6 → vp_in (z4 + y6) 160 ∧ vp_in (z4 + z1) 160 ∧ (((σ.2.1 8 (z4 + z1).toNatClampNeg) < (σ.2.1 8 (z4 + y6).toNatClampNeg) → ∀ v8 : Int32, v8 = y5 + (0 : Int32) → ∀ v9 : Int32, v9 = y6 + (1 : Int32) → wX8_lookWith_L35 z1 z2 z3 z4 K79 post n v8 v9 σ) ∧ (¬ (σ.2.1 8 (z4 + z1).toNatClampNeg) < (σ.2.1 8 (z4 + y6).toNatClampNeg) → ∀ v10 : Int32, v10 = y5 + (1 : Int32) → ∀ v11 : Int32, v11 = y6 + (1 : Int32) → wX8_lookWith_L35 z1 z2 z3 z4 K79 post n v10 v11 σ))))
def wX8_lookWith_L82 (z1 : Int32) (z2 : Int32) (z3 : Int32) (z4 : Int32) (z5 : Int32) (K134 : Int32 → hsS → Prop) (post : hsS → Prop) : Nat → Int32 → hsS → Prop
  | 0, _, _ => False
  | n + 1, y6, σ => ((z2 ≤ y6 → K134 y6 σ) ∧ (¬ z2 ≤ y6 → vp_in (z4 + y6) 80 ∧ vp_in (z4 + y6) 160 ∧ vp_in (z4 + z1) 160 ∧ (((σ.2.1 8 (z4 + y6).toNatClampNeg) ≤ (σ.2.1 8 (z4 + z1).toNatClampNeg) → vp_in (z4 + y6) 80 ∧ ∀ σ18 : hsS, σ18 = hsA σ 13 (upd (σ.2.1 13) (z4 + y6).toNatClampNeg ((σ.2.1 13 (z4 + y6).toNatClampNeg) + (0 : Int32))) → ∀ v19 : Int32, v19 = y6 + (1 : Int32) → wX8_lookWith_L82 z1 z2 z3 z4 z5 K134 post n v19 σ18) ∧ (¬ (σ.2.1 8 (z4 + y6).toNatClampNeg) ≤ (σ.2.1 8 (z4 + z1).toNatClampNeg) → vp_in (z4 + y6) 80 ∧ ∀ σ20 : hsS, σ20 = hsA σ 13 (upd (σ.2.1 13) (z4 + y6).toNatClampNeg ((σ.2.1 13 (z4 + y6).toNatClampNeg) + (1 : Int32))) → ∀ v21 : Int32, v21 = y6 + (1 : Int32) → wX8_lookWith_L82 z1 z2 z3 z4 z5 K134 post n v21 σ20))))
def wX8_lookWith_L13 (z1 : Int32) (z2 : Int32) (K151 : Int32 → hsS → Prop) (post : hsS → Prop) : Nat → Int32 → hsS → Prop
  | 0, _, _ => False
  | n + 1, y3, σ => (((σ.2.1 2 (0 : Int32).toNatClampNeg) ≤ y3 → K151 y3 σ) ∧ (¬ (σ.2.1 2 (0 : Int32).toNatClampNeg) ≤ y3 → ∀ v5 : Int32, v5 = y3 * (10 : Int32) → ∃ n12, wX8_lookWith_L35 z1 z2 y3 v5 (fun v13 v14 σ15 => ∃ n22, wX8_lookWith_L82 z1 z2 y3 v5 v13 (fun v23 σ24 => vp_in (v5 + z2) 80 ∧ ∀ σ25 : hsS, σ25 = hsA σ24 13 (upd (σ24.2.1 13) (v5 + z2).toNatClampNeg v13) → ∀ v26 : Int32, v26 = y3 + (1 : Int32) → wX8_lookWith_L13 z1 z2 K151 post n v26 σ25) post n22 (0 : Int32) σ15) post n12 (0 : Int32) (0 : Int32) σ))
def wX8_lookWith (x1 : Int32) (post : hsS → Prop) (σ : hsS) : Prop := wX8_look  (fun σ2 => ∀ v3 : Int32, v3 = σ2.2.1 1 (0 : Int32).toNatClampNeg → ∃ n27, wX8_lookWith_L13 x1 v3 (fun v28 σ29 => ∀ σ30 : hsS, σ30 = hsI σ29 25 (v3 + (1 : Int32)) → post σ30) post n27 (0 : Int32) σ2) σ
set_option maxHeartbeats 4000000 in
set_option maxRecDepth 100000 in
theorem kcX8_lookWith (l : Launch) (D : va_G) (c : Nat → ClassId) (q : Nat → Nat) (ev : State → Heap → Prop) (hev : evOK (wdA 31 q) ev) (σ : hsS) (x1 : Int32) (post : hsS → Prop) (hw : wX8_lookWith x1 post σ) : Met l yX8_lookWith (Cond.code yX8_lookWith cX8_lookWith 7 none :: tb_L) { frames := 2, cells := 0, slots := 0, locals := 47 } (wdPc D (mw c q) (mwT c) (wdA 31 q) ev σ [.ref (q 0), .int x1]) (va_Qv post (wdB D (mw c q)) (wdA 31 q)) 0 0 (wdA 31 q) := by
  refine Met.ofW (cc := cX8_lookWith) (maxL := 7) (ret := none) (by decide) rfl ?_
  intro p e s m args below meth c₀ s₁ Bd hml hv
  obtain ⟨rfl, hP, hK, hD0, hE⟩ := hv
  have hx := Bd.exec
  have hb := Bd.bytes
  have hr := Bd.returns
  have hts := atoms_spec (ws := Cond.code yX8_lookWith cX8_lookWith 7 none :: tb_L) Bd.pre
  have htb : ∀ w ∈ tb_L, w.before [.ref (q 0), .int x1].toArray s = true := fun w h => hts w (List.mem_cons_of_mem _ h)
  have hown : s.vm.findClass RX8 = some m.cls := findClass_of_methodNamed Bd.named
  have hlocks := Bd.notSynchronized
  have hS : va_S (wdA 31 q) s.heap s.heap [] := va_S.rf
  have hD := hD0
  have L35 : ∀ (K79 : Int32 → Int32 → hsS → Prop) (z1 : Int32) (z2 : Int32) (z3 : Int32) (z4 : Int32) (n : Nat) (y5 : Int32) (y6 : Int32) (σ : hsS) (H : Heap) (locs : List Loc) (ls : Array Slot), wX8_lookWith_L35 z1 z2 z3 z4 K79 post n y5 y6 σ → (∀ (y5 : Int32) (y6 : Int32) (σ : hsS) (H : Heap) (locs : List Loc) (ls : Array Slot), K79 y5 y6 σ → va_P D vwCl (mw c q σ) H → va_S (wdA 31 q) s.heap H locs → lv_has ls 7 [(0, .ref (q 0)), (1, .int z1), (2, .int z2), (3, .int z3), (4, .int z4), (5, .int y5), (6, .int y6)] → W p l e (headSpec (Cond.code yX8_lookWith cX8_lookWith 7 none :: tb_L) { frames := 2, cells := 0, slots := 0, locals := 47 }).room s m [.ref (q 0), .int x1].toArray below meth c₀ H locs 0 0 (MQ below (va_Qv post (wdB D (mw c q)) (wdA 31 q)) [.ref (q 0), .int x1].toArray s 0 0 (wdA 31 q)) (F0 m 79 ls [])) → va_P D vwCl (mw c q σ) H → va_S (wdA 31 q) s.heap H locs → lv_has ls 7 [(0, .ref (q 0)), (1, .int z1), (2, .int z2), (3, .int z3), (4, .int z4), (5, .int y5), (6, .int y6)] → W p l e (headSpec (Cond.code yX8_lookWith cX8_lookWith 7 none :: tb_L) { frames := 2, cells := 0, slots := 0, locals := 47 }).room s m [.ref (q 0), .int x1].toArray below meth c₀ H locs 0 0 (MQ below (va_Qv post (wdB D (mw c q)) (wdA 31 q)) [.ref (q 0), .int x1].toArray s 0 0 (wdA 31 q)) (F0 m 35 ls []) := by
    intro K79 z1 z2 z3 z4 n
    induction n with
    | zero =>
      intro y5 y6 σ H locs ls hw hk79 hP hS hl
      exact (show False from hw).elim
    | succ n ih =>
      intro y5 y6 σ H locs ls hw hk79 hP hS hl
      rw [wX8_lookWith_L35] at hw
      have hD : va_D (wdA 31 q) (mw c q σ) := mw_D hD0
      refine lv_iload hx hb dX8_lookWith_35 (lv_at hl 6 rfl) ?_
      refine lv_iload_n hx hb dX8_lookWith_37 rfl (lv_at hl 2 rfl) ?_
      refine lv_icmp_ge (tgt := 79) hx hb dX8_lookWith_38 (by decide) (fun c6 => ?_) (fun c6 => ?_)
      · have hw := hw.1 c6
        exact hk79 y5 y6 σ _ _ _ hw hP hS (lv_sub hl [0, 1, 2, 3, 4, 5, 6] rfl)
      · have hw := hw.2 c6
        refine lv_iload hx hb dX8_lookWith_41 (lv_at hl 5 rfl) ?_
        refine lv_aload_n hx hb dX8_lookWith_43 rfl (lv_at hl 0 rfl) ?_
        refine va_get (D := D) (ci := 8) (C := RX8) (T := TX8) (N := 57) hx hb htb inX8 hown hK hP 0 (mw_0 c q σ) rfl 8 (by decide) (htb _ tb_1189) (fun _ h9 => h9) rfl dX8_lookWith_44 ?_
        refine lv_iload hx hb dX8_lookWith_47 (lv_at hl 4 rfl) ?_
        refine lv_iload hx hb dX8_lookWith_49 (lv_at hl 6 rfl) ?_
        refine lv_iadd hx hb dX8_lookWith_51 ?_
        refine va_iald hx hb hK hP 8 7 (mw_8 c q σ) rfl hw.1 dX8_lookWith_52 ?_
        have hw := hw.2
        refine lv_aload_n hx hb dX8_lookWith_53 rfl (lv_at hl 0 rfl) ?_
        refine va_get (D := D) (ci := 8) (C := RX8) (T := TX8) (N := 57) hx hb htb inX8 hown hK hP 0 (mw_0 c q σ) rfl 8 (by decide) (htb _ tb_1189) (fun _ h9 => h9) rfl dX8_lookWith_54 ?_
        refine lv_iload hx hb dX8_lookWith_57 (lv_at hl 4 rfl) ?_
        refine lv_iload_n hx hb dX8_lookWith_59 rfl (lv_at hl 1 rfl) ?_
        refine lv_iadd hx hb dX8_lookWith_60 ?_
        refine va_iald hx hb hK hP 8 7 (mw_8 c q σ) rfl hw.1 dX8_lookWith_61 ?_
        have hw := hw.2
        refine lv_icmp_gt (tgt := 69) hx hb dX8_lookWith_62 (by decide) (fun c7 => ?_) (fun c7 => ?_)
        · have hw := hw.1 c7
          refine lv_iconst (v := (0 : Int32)) hx hb dX8_lookWith_69 (by decide) ?_
          refine lv_iadd hx hb dX8_lookWith_70 ?_
          refine lv_topi (fun v8 ev8 => ?_)
          have hw := hw v8 ev8
          refine lv_istore (lv' := [(5, .int v8), (0, .ref (q 0)), (1, .int z1), (2, .int z2), (3, .int z3), (4, .int z4), (6, .int y6)]) hx hb dX8_lookWith_71 hl (by decide) rfl (fun ls hl => ?_)
          obtain ⟨v9, ev9⟩ : ∃ z : Int32, z = y6 + (1 : Int32) := ⟨_, rfl⟩
          have hw := hw v9 ev9
          refine lv_iinc (v := v9) (lv' := [(6, .int v9), (5, .int v8), (0, .ref (q 0)), (1, .int z1), (2, .int z2), (3, .int z3), (4, .int z4)]) hx hb dX8_lookWith_73 hl (k := 6) rfl (by rw [ev9]; rfl) (by decide) rfl (fun ls hl => ?_)
          refine lv_goto (tgt := 35) hx hb dX8_lookWith_76 (by decide) ?_
          exact ih v8 v9 σ _ _ _ hw hk79 hP hS (lv_sub hl [2, 3, 4, 5, 6, 1, 0] rfl)
        · have hw := hw.2 c7
          refine lv_iconst (v := (1 : Int32)) hx hb dX8_lookWith_65 (by decide) ?_
          refine lv_goto (tgt := 70) hx hb dX8_lookWith_66 (by decide) ?_
          refine lv_iadd hx hb dX8_lookWith_70 ?_
          refine lv_topi (fun v10 ev10 => ?_)
          have hw := hw v10 ev10
          refine lv_istore (lv' := [(5, .int v10), (0, .ref (q 0)), (1, .int z1), (2, .int z2), (3, .int z3), (4, .int z4), (6, .int y6)]) hx hb dX8_lookWith_71 hl (by decide) rfl (fun ls hl => ?_)
          obtain ⟨v11, ev11⟩ : ∃ z : Int32, z = y6 + (1 : Int32) := ⟨_, rfl⟩
          have hw := hw v11 ev11
          refine lv_iinc (v := v11) (lv' := [(6, .int v11), (5, .int v10), (0, .ref (q 0)), (1, .int z1), (2, .int z2), (3, .int z3), (4, .int z4)]) hx hb dX8_lookWith_73 hl (k := 6) rfl (by rw [ev11]; rfl) (by decide) rfl (fun ls hl => ?_)
          refine lv_goto (tgt := 35) hx hb dX8_lookWith_76 (by decide) ?_
          exact ih v10 v11 σ _ _ _ hw hk79 hP hS (lv_sub hl [2, 3, 4, 5, 6, 1, 0] rfl)
  have L82 : ∀ (K134 : Int32 → hsS → Prop) (z1 : Int32) (z2 : Int32) (z3 : Int32) (z4 : Int32) (z5 : Int32) (n : Nat) (y6 : Int32) (σ : hsS) (H : Heap) (locs : List Loc) (ls : Array Slot), wX8_lookWith_L82 z1 z2 z3 z4 z5 K134 post n y6 σ → (∀ (y6 : Int32) (σ : hsS) (H : Heap) (locs : List Loc) (ls : Array Slot), K134 y6 σ → va_P D vwCl (mw c q σ) H → va_S (wdA 31 q) s.heap H locs → lv_has ls 7 [(0, .ref (q 0)), (1, .int z1), (2, .int z2), (3, .int z3), (4, .int z4), (5, .int z5), (6, .int y6)] → W p l e (headSpec (Cond.code yX8_lookWith cX8_lookWith 7 none :: tb_L) { frames := 2, cells := 0, slots := 0, locals := 47 }).room s m [.ref (q 0), .int x1].toArray below meth c₀ H locs 0 0 (MQ below (va_Qv post (wdB D (mw c q)) (wdA 31 q)) [.ref (q 0), .int x1].toArray s 0 0 (wdA 31 q)) (F0 m 134 ls [])) → va_P D vwCl (mw c q σ) H → va_S (wdA 31 q) s.heap H locs → lv_has ls 7 [(0, .ref (q 0)), (1, .int z1), (2, .int z2), (3, .int z3), (4, .int z4), (5, .int z5), (6, .int y6)] → W p l e (headSpec (Cond.code yX8_lookWith cX8_lookWith 7 none :: tb_L) { frames := 2, cells := 0, slots := 0, locals := 47 }).room s m [.ref (q 0), .int x1].toArray below meth c₀ H locs 0 0 (MQ below (va_Qv post (wdB D (mw c q)) (wdA 31 q)) [.ref (q 0), .int x1].toArray s 0 0 (wdA 31 q)) (F0 m 82 ls []) := by
    intro K134 z1 z2 z3 z4 z5 n
    induction n with
    | zero =>
      intro y6 σ H locs ls hw hk134 hP hS hl
      exact (show False from hw).elim
    | succ n ih =>
      intro y6 σ H locs ls hw hk134 hP hS hl
      rw [wX8_lookWith_L82] at hw
      have hD : va_D (wdA 31 q) (mw c q σ) := mw_D hD0
      refine lv_iload hx hb dX8_lookWith_82 (lv_at hl 6 rfl) ?_
      refine lv_iload_n hx hb dX8_lookWith_84 rfl (lv_at hl 2 rfl) ?_
      refine lv_icmp_ge (tgt := 134) hx hb dX8_lookWith_85 (by decide) (fun c16 => ?_) (fun c16 => ?_)
      · have hw := hw.1 c16
        exact hk134 y6 σ _ _ _ hw hP hS (lv_sub hl [0, 1, 2, 3, 4, 5, 6] rfl)
      · have hw := hw.2 c16
        refine lv_aload_n hx hb dX8_lookWith_88 rfl (lv_at hl 0 rfl) ?_
        refine va_get (D := D) (ci := 8) (C := RX8) (T := TX8) (N := 57) hx hb htb inX8 hown hK hP 0 (mw_0 c q σ) rfl 24 (by decide) (htb _ tb_1205) (fun _ h9 => h9) rfl dX8_lookWith_89 ?_
        refine lv_iload hx hb dX8_lookWith_92 (lv_at hl 4 rfl) ?_
        refine lv_iload hx hb dX8_lookWith_94 (lv_at hl 6 rfl) ?_
        refine lv_iadd hx hb dX8_lookWith_96 ?_
        refine lv_dup2_11 hx hb dX8_lookWith_97 rfl rfl ?_
        refine va_iald hx hb hK hP 13 12 (mw_13 c q σ) rfl hw.1 dX8_lookWith_98 ?_
        have hw := hw.2
        refine lv_aload_n hx hb dX8_lookWith_99 rfl (lv_at hl 0 rfl) ?_
        refine va_get (D := D) (ci := 8) (C := RX8) (T := TX8) (N := 57) hx hb htb inX8 hown hK hP 0 (mw_0 c q σ) rfl 8 (by decide) (htb _ tb_1189) (fun _ h9 => h9) rfl dX8_lookWith_100 ?_
        refine lv_iload hx hb dX8_lookWith_103 (lv_at hl 4 rfl) ?_
        refine lv_iload hx hb dX8_lookWith_105 (lv_at hl 6 rfl) ?_
        refine lv_iadd hx hb dX8_lookWith_107 ?_
        refine va_iald hx hb hK hP 8 7 (mw_8 c q σ) rfl hw.1 dX8_lookWith_108 ?_
        have hw := hw.2
        refine lv_aload_n hx hb dX8_lookWith_109 rfl (lv_at hl 0 rfl) ?_
        refine va_get (D := D) (ci := 8) (C := RX8) (T := TX8) (N := 57) hx hb htb inX8 hown hK hP 0 (mw_0 c q σ) rfl 8 (by decide) (htb _ tb_1189) (fun _ h9 => h9) rfl dX8_lookWith_110 ?_
        refine lv_iload hx hb dX8_lookWith_113 (lv_at hl 4 rfl) ?_
        refine lv_iload_n hx hb dX8_lookWith_115 rfl (lv_at hl 1 rfl) ?_
        refine lv_iadd hx hb dX8_lookWith_116 ?_
        refine va_iald hx hb hK hP 8 7 (mw_8 c q σ) rfl hw.1 dX8_lookWith_117 ?_
        have hw := hw.2
        refine lv_icmp_le (tgt := 125) hx hb dX8_lookWith_118 (by decide) (fun c17 => ?_) (fun c17 => ?_)
        · have hw := hw.1 c17
          refine lv_iconst (v := (0 : Int32)) hx hb dX8_lookWith_125 (by decide) ?_
          refine lv_iadd hx hb dX8_lookWith_126 ?_
          refine va_iast hx hb hK hP hD hS 13 12 (mw_13 c q σ) rfl hw.1 dX8_lookWith_127 (fun H locs hP hD hS => ?_)
          have hw := hw.2
          have hP : va_P D vwCl (mw c q (hsA σ 13 (upd (σ.2.1 13) (z4 + y6).toNatClampNeg ((σ.2.1 13 (z4 + y6).toNatClampNeg) + (0 : Int32))))) H := hP
          obtain ⟨σ18, eσ18⟩ : ∃ z : hsS, z = hsA σ 13 (upd (σ.2.1 13) (z4 + y6).toNatClampNeg ((σ.2.1 13 (z4 + y6).toNatClampNeg) + (0 : Int32))) := ⟨_, rfl⟩
          rw [← eσ18] at hP
          have hD : va_D (wdA 31 q) (mw c q σ18) := mw_D hD0
          have hw := hw σ18 eσ18
          obtain ⟨v19, ev19⟩ : ∃ z : Int32, z = y6 + (1 : Int32) := ⟨_, rfl⟩
          have hw := hw v19 ev19
          refine lv_iinc (v := v19) (lv' := [(6, .int v19), (0, .ref (q 0)), (1, .int z1), (2, .int z2), (3, .int z3), (4, .int z4), (5, .int z5)]) hx hb dX8_lookWith_128 hl (k := 6) rfl (by rw [ev19]; rfl) (by decide) rfl (fun ls hl => ?_)
          refine lv_goto (tgt := 82) hx hb dX8_lookWith_131 (by decide) ?_
          exact ih v19 σ18 _ _ _ hw hk134 hP hS (lv_sub hl [1, 2, 3, 4, 5, 6, 0] rfl)
        · have hw := hw.2 c17
          refine lv_iconst (v := (1 : Int32)) hx hb dX8_lookWith_121 (by decide) ?_
          refine lv_goto (tgt := 126) hx hb dX8_lookWith_122 (by decide) ?_
          refine lv_iadd hx hb dX8_lookWith_126 ?_
          refine va_iast hx hb hK hP hD hS 13 12 (mw_13 c q σ) rfl hw.1 dX8_lookWith_127 (fun H locs hP hD hS => ?_)
          have hw := hw.2
          have hP : va_P D vwCl (mw c q (hsA σ 13 (upd (σ.2.1 13) (z4 + y6).toNatClampNeg ((σ.2.1 13 (z4 + y6).toNatClampNeg) + (1 : Int32))))) H := hP
          obtain ⟨σ20, eσ20⟩ : ∃ z : hsS, z = hsA σ 13 (upd (σ.2.1 13) (z4 + y6).toNatClampNeg ((σ.2.1 13 (z4 + y6).toNatClampNeg) + (1 : Int32))) := ⟨_, rfl⟩
          rw [← eσ20] at hP
          have hD : va_D (wdA 31 q) (mw c q σ20) := mw_D hD0
          have hw := hw σ20 eσ20
          obtain ⟨v21, ev21⟩ : ∃ z : Int32, z = y6 + (1 : Int32) := ⟨_, rfl⟩
          have hw := hw v21 ev21
          refine lv_iinc (v := v21) (lv' := [(6, .int v21), (0, .ref (q 0)), (1, .int z1), (2, .int z2), (3, .int z3), (4, .int z4), (5, .int z5)]) hx hb dX8_lookWith_128 hl (k := 6) rfl (by rw [ev21]; rfl) (by decide) rfl (fun ls hl => ?_)
          refine lv_goto (tgt := 82) hx hb dX8_lookWith_131 (by decide) ?_
          exact ih v21 σ20 _ _ _ hw hk134 hP hS (lv_sub hl [1, 2, 3, 4, 5, 6, 0] rfl)
  have L13 : ∀ (K151 : Int32 → hsS → Prop) (z1 : Int32) (z2 : Int32) (n : Nat) (y3 : Int32) (σ : hsS) (H : Heap) (locs : List Loc) (ls : Array Slot), wX8_lookWith_L13 z1 z2 K151 post n y3 σ → (∀ (y3 : Int32) (σ : hsS) (H : Heap) (locs : List Loc) (ls : Array Slot), K151 y3 σ → va_P D vwCl (mw c q σ) H → va_S (wdA 31 q) s.heap H locs → lv_has ls 7 [(0, .ref (q 0)), (1, .int z1), (2, .int z2), (3, .int y3)] → W p l e (headSpec (Cond.code yX8_lookWith cX8_lookWith 7 none :: tb_L) { frames := 2, cells := 0, slots := 0, locals := 47 }).room s m [.ref (q 0), .int x1].toArray below meth c₀ H locs 0 0 (MQ below (va_Qv post (wdB D (mw c q)) (wdA 31 q)) [.ref (q 0), .int x1].toArray s 0 0 (wdA 31 q)) (F0 m 151 ls [])) → va_P D vwCl (mw c q σ) H → va_S (wdA 31 q) s.heap H locs → lv_has ls 7 [(0, .ref (q 0)), (1, .int z1), (2, .int z2), (3, .int y3)] → W p l e (headSpec (Cond.code yX8_lookWith cX8_lookWith 7 none :: tb_L) { frames := 2, cells := 0, slots := 0, locals := 47 }).room s m [.ref (q 0), .int x1].toArray below meth c₀ H locs 0 0 (MQ below (va_Qv post (wdB D (mw c q)) (wdA 31 q)) [.ref (q 0), .int x1].toArray s 0 0 (wdA 31 q)) (F0 m 13 ls []) := by
    intro K151 z1 z2 n
    induction n with
    | zero =>
      intro y3 σ H locs ls hw hk151 hP hS hl
      exact (show False from hw).elim
    | succ n ih =>
      intro y3 σ H locs ls hw hk151 hP hS hl
      rw [wX8_lookWith_L13] at hw
      have hD : va_D (wdA 31 q) (mw c q σ) := mw_D hD0
      refine lv_iload_n hx hb dX8_lookWith_13 rfl (lv_at hl 3 rfl) ?_
      refine lv_aload_n hx hb dX8_lookWith_14 rfl (lv_at hl 0 rfl) ?_
      refine va_get (D := D) (ci := 8) (C := RX8) (T := TX8) (N := 57) hx hb htb inX8 hown hK hP 0 (mw_0 c q σ) rfl 2 (by decide) (htb _ tb_1183) (fun _ h9 => h9) rfl dX8_lookWith_15 ?_
      refine lv_iconst (v := (0 : Int32)) hx hb dX8_lookWith_18 (by decide) ?_
      refine va_iald hx hb hK hP 2 1 (mw_2 c q σ) rfl (by unfold vp_in; decide) dX8_lookWith_19 ?_
      refine lv_icmp_ge (tgt := 151) hx hb dX8_lookWith_20 (by decide) (fun c4 => ?_) (fun c4 => ?_)
      · have hw := hw.1 c4
        exact hk151 y3 σ _ _ _ hw hP hS (lv_sub hl [0, 1, 2, 3] rfl)
      · have hw := hw.2 c4
        refine lv_iload_n hx hb dX8_lookWith_23 rfl (lv_at hl 3 rfl) ?_
        refine lv_bipush (v := (10 : Int32)) hx hb dX8_lookWith_24 (by decide) ?_
        refine lv_imul hx hb dX8_lookWith_26 ?_
        refine lv_topi (fun v5 ev5 => ?_)
        have hw := hw v5 ev5
        refine lv_istore (lv' := [(4, .int v5), (0, .ref (q 0)), (1, .int z1), (2, .int z2), (3, .int y3)]) hx hb dX8_lookWith_27 hl (by decide) rfl (fun ls hl => ?_)
        refine lv_iconst (v := (0 : Int32)) hx hb dX8_lookWith_29 (by decide) ?_
        refine lv_istore (lv' := [(5, .int (0 : Int32)), (4, .int v5), (0, .ref (q 0)), (1, .int z1), (2, .int z2), (3, .int y3)]) hx hb dX8_lookWith_30 hl (by decide) rfl (fun ls hl => ?_)
        refine lv_iconst (v := (0 : Int32)) hx hb dX8_lookWith_32 (by decide) ?_
        refine lv_istore (lv' := [(6, .int (0 : Int32)), (5, .int (0 : Int32)), (4, .int v5), (0, .ref (q 0)), (1, .int z1), (2, .int z2), (3, .int y3)]) hx hb dX8_lookWith_33 hl (by decide) rfl (fun ls hl => ?_)
        obtain ⟨n12, hw⟩ := hw
        refine L35 _ z1 z2 y3 v5 n12 (0 : Int32) (0 : Int32) σ _ _ _ hw ?_ hP hS (lv_sub hl [3, 4, 5, 6, 2, 1, 0] rfl)
        intro v13 v14 σ15 H locs ls hw hP hS hl
        have hD : va_D (wdA 31 q) (mw c q σ15) := mw_D hD0
        refine lv_iconst (v := (0 : Int32)) hx hb dX8_lookWith_79 (by decide) ?_
        refine lv_istore (lv' := [(6, .int (0 : Int32)), (0, .ref (q 0)), (1, .int z1), (2, .int z2), (3, .int y3), (4, .int v5), (5, .int v13)]) hx hb dX8_lookWith_80 hl (by decide) rfl (fun ls hl => ?_)
        obtain ⟨n22, hw⟩ := hw
        refine L82 _ z1 z2 y3 v5 v13 n22 (0 : Int32) σ15 _ _ _ hw ?_ hP hS (lv_sub hl [1, 2, 3, 4, 5, 6, 0] rfl)
        intro v23 σ24 H locs ls hw hP hS hl
        have hD : va_D (wdA 31 q) (mw c q σ24) := mw_D hD0
        refine lv_aload_n hx hb dX8_lookWith_134 rfl (lv_at hl 0 rfl) ?_
        refine va_get (D := D) (ci := 8) (C := RX8) (T := TX8) (N := 57) hx hb htb inX8 hown hK hP 0 (mw_0 c q σ24) rfl 24 (by decide) (htb _ tb_1205) (fun _ h9 => h9) rfl dX8_lookWith_135 ?_
        refine lv_iload hx hb dX8_lookWith_138 (lv_at hl 4 rfl) ?_
        refine lv_iload_n hx hb dX8_lookWith_140 rfl (lv_at hl 2 rfl) ?_
        refine lv_iadd hx hb dX8_lookWith_141 ?_
        refine lv_iload hx hb dX8_lookWith_142 (lv_at hl 5 rfl) ?_
        refine va_iast hx hb hK hP hD hS 13 12 (mw_13 c q σ24) rfl hw.1 dX8_lookWith_144 (fun H locs hP hD hS => ?_)
        have hw := hw.2
        have hP : va_P D vwCl (mw c q (hsA σ24 13 (upd (σ24.2.1 13) (v5 + z2).toNatClampNeg v13))) H := hP
        obtain ⟨σ25, eσ25⟩ : ∃ z : hsS, z = hsA σ24 13 (upd (σ24.2.1 13) (v5 + z2).toNatClampNeg v13) := ⟨_, rfl⟩
        rw [← eσ25] at hP
        have hD : va_D (wdA 31 q) (mw c q σ25) := mw_D hD0
        have hw := hw σ25 eσ25
        obtain ⟨v26, ev26⟩ : ∃ z : Int32, z = y3 + (1 : Int32) := ⟨_, rfl⟩
        have hw := hw v26 ev26
        refine lv_iinc (v := v26) (lv' := [(3, .int v26), (0, .ref (q 0)), (1, .int z1), (2, .int z2), (4, .int v5), (5, .int v13), (6, .int v23)]) hx hb dX8_lookWith_145 hl (k := 3) rfl (by rw [ev26]; rfl) (by decide) rfl (fun ls hl => ?_)
        refine lv_goto (tgt := 13) hx hb dX8_lookWith_148 (by decide) ?_
        exact ih v26 σ25 _ _ _ hw hk151 hP hS (lv_sub hl [1, 2, 3, 0] rfl)
  have hl := lv_entry ([.ref (q 0), .int x1]) (n := 7) (Nat.le_of_ble_eq_true rfl)
  rw [lg_entry_eq]
  generalize (lg_sl ([.ref (q 0), .int x1]) ++ List.replicate (7 - (lg_sl ([.ref (q 0), .int x1])).length) Slot.unset).toArray = ls at hl ⊢
  have hl : lv_has ls 7 [(0, .ref (q 0)), (1, .int x1)] := hl
  unfold wX8_lookWith at hw
  refine lv_aload_n hx hb dX8_lookWith_0 rfl (lv_at hl 0 rfl) ?_
  refine va_callv (va_runV (As := []) (rest := []) ⟨hx, hb, hml, hown, htb⟩ (kcX8_look l D c q ev hev σ  _ hw) (tb_CW htb kX8_look tb_1500 tb_1502 tb_63 ⟨Nat.le_of_ble_eq_true rfl, Nat.le_of_ble_eq_true rfl⟩) (wd_preV (wd := mw c q) (k := 0) hev hK hP hD hE hS (mw_0 c q σ) rfl) rfl rfl hl.1 rfl (lv_room (Nat.le_of_ble_eq_true rfl)) dX8_lookWith_1 ⟨Nat.zero_le _, Nat.zero_le _⟩) hS (fun q _ h => h) (fun q h => h) (fun σ2 t H1 locs1 ht hvm hw hB hz1 hk1 hS => ?_)
  have hP : va_P D vwCl (mw c q σ2) H1 := ht ▸ hB
  have hD : va_D (wdA 31 q) (mw c q σ2) := mw_D hD0
  refine lv_aload_n hx hb dX8_lookWith_4 rfl (lv_at hl 0 rfl) ?_
  refine va_get (D := D) (ci := 8) (C := RX8) (T := TX8) (N := 57) hx hb htb inX8 hown hK hP 0 (mw_0 c q σ2) rfl 1 (by decide) (htb _ tb_1182) (fun _ h9 => h9) rfl dX8_lookWith_5 ?_
  refine lv_iconst (v := (0 : Int32)) hx hb dX8_lookWith_8 (by decide) ?_
  refine va_iald hx hb hK hP 1 0 (mw_1 c q σ2) rfl (by unfold vp_in; decide) dX8_lookWith_9 ?_
  refine lv_topi (fun v3 ev3 => ?_)
  have hw := hw v3 ev3
  refine lv_istore_n (lv' := [(2, .int v3), (0, .ref (q 0)), (1, .int x1)]) hx hb dX8_lookWith_10 rfl hl (by decide) rfl (fun ls hl => ?_)
  refine lv_iconst (v := (0 : Int32)) hx hb dX8_lookWith_11 (by decide) ?_
  refine lv_istore_n (lv' := [(3, .int (0 : Int32)), (2, .int v3), (0, .ref (q 0)), (1, .int x1)]) hx hb dX8_lookWith_12 rfl hl (by decide) rfl (fun ls hl => ?_)
  obtain ⟨n27, hw⟩ := hw
  refine L13 _ x1 v3 n27 (0 : Int32) σ2 _ _ _ hw ?_ hP hS (lv_sub hl [2, 3, 1, 0] rfl)
  intro v28 σ29 H locs ls hw hP hS hl
  have hD : va_D (wdA 31 q) (mw c q σ29) := mw_D hD0
  refine lv_aload_n hx hb dX8_lookWith_151 rfl (lv_at hl 0 rfl) ?_
  refine lv_iload_n hx hb dX8_lookWith_152 rfl (lv_at hl 2 rfl) ?_
  refine lv_iconst (v := (1 : Int32)) hx hb dX8_lookWith_153 (by decide) ?_
  refine lv_iadd hx hb dX8_lookWith_154 ?_
  refine va_put (D := D) (ci := 8) (ty := .int) (C := RX8) (T := TX8) (N := 57) hx hb htb inX8 tyX8 tyX8_ok nmX8 hown hK hP hD hS 0 (mw_0 c q σ29) rfl 25 (by decide) (htb _ tb_1206) (fun _ h9 => h9) rfl (by decide +kernel) rfl rfl (Nat.le_of_ble_eq_true rfl) dX8_lookWith_155 (fun H locs hP hD hS => ?_)
  have hP : va_P D vwCl (mw c q (hsI σ29 25 (v3 + (1 : Int32)))) H := hP
  obtain ⟨σ30, eσ30⟩ : ∃ z : hsS, z = hsI σ29 25 (v3 + (1 : Int32)) := ⟨_, rfl⟩
  rw [← eσ30] at hP
  have hD : va_D (wdA 31 q) (mw c q σ30) := mw_D hD0
  have hw := hw σ30 eσ30
  exact W.vret hx hb hr (fun t ht hW => ⟨⟨σ30, rfl, hw, by unfold wdB; rw [ht]; exact hP⟩, hS.F ht⟩) hS.2.2 dX8_lookWith_158
def wX8_place (x1 : Int32) (x2 : Int32) (post : Int32 → hsS → Prop) (σ : hsS) : Prop := ∀ σ1 : hsS, σ1 = hsI σ 0 (0 : Int32) → wX8_isOne x1 (fun r2 σ3 => ((r2 = (0 : Int32) → wX8_fail (1 : Int32) (fun r5 σ6 => post r5 σ6) σ3) ∧ (¬ r2 = (0 : Int32) → wX8_isThing x2 (fun r7 σ8 => ((r7 = (0 : Int32) → wX8_fail (1 : Int32) (fun r10 σ11 => post r10 σ11) σ8) ∧ (¬ r7 = (0 : Int32) → wX8_placeOf x1 x2 (σ8.2.1 1 (0 : Int32).toNatClampNeg) (fun r12 σ13 => post r12 σ13) σ8))) σ3))) σ1
set_option maxHeartbeats 4000000 in
set_option maxRecDepth 100000 in
theorem kcX8_place (l : Launch) (D : va_G) (c : Nat → ClassId) (q : Nat → Nat) (ev : State → Heap → Prop) (hev : evOK (wdA 31 q) ev) (σ : hsS) (x1 : Int32) (x2 : Int32) (post : Int32 → hsS → Prop) (hw : wX8_place x1 x2 post σ) : Met l yX8_place (Cond.code yX8_place cX8_place 3 (some .int) :: tb_L) { frames := 2, cells := 0, slots := 0, locals := 43 } (wdPc D (mw c q) (mwT c) (wdA 31 q) ev σ [.ref (q 0), .int x1, .int x2]) (va_Qi post (wdB D (mw c q)) (wdA 31 q)) 0 0 (wdA 31 q) := by
  refine Met.ofW (cc := cX8_place) (maxL := 3) (ret := (some .int)) (by decide) rfl ?_
  intro p e s m args below meth c₀ s₁ Bd hml hv
  obtain ⟨rfl, hP, hK, hD0, hE⟩ := hv
  have hx := Bd.exec
  have hb := Bd.bytes
  have hr := Bd.returns
  have hts := atoms_spec (ws := Cond.code yX8_place cX8_place 3 (some .int) :: tb_L) Bd.pre
  have htb : ∀ w ∈ tb_L, w.before [.ref (q 0), .int x1, .int x2].toArray s = true := fun w h => hts w (List.mem_cons_of_mem _ h)
  have hown : s.vm.findClass RX8 = some m.cls := findClass_of_methodNamed Bd.named
  have hlocks := Bd.notSynchronized
  have hS : va_S (wdA 31 q) s.heap s.heap [] := va_S.rf
  have hD := hD0
  have hl := lv_entry ([.ref (q 0), .int x1, .int x2]) (n := 3) (Nat.le_of_ble_eq_true rfl)
  rw [lg_entry_eq]
  generalize (lg_sl ([.ref (q 0), .int x1, .int x2]) ++ List.replicate (3 - (lg_sl ([.ref (q 0), .int x1, .int x2])).length) Slot.unset).toArray = ls at hl ⊢
  have hl : lv_has ls 3 [(0, .ref (q 0)), (1, .int x1), (2, .int x2)] := hl
  unfold wX8_place at hw
  refine lv_aload_n hx hb dX8_place_0 rfl (lv_at hl 0 rfl) ?_
  refine lv_iconst (v := (0 : Int32)) hx hb dX8_place_1 (by decide) ?_
  refine va_put (D := D) (ci := 8) (ty := .int) (C := RX8) (T := TX8) (N := 57) hx hb htb inX8 tyX8 tyX8_ok nmX8 hown hK hP hD hS 0 (mw_0 c q σ) rfl 0 (by decide) (htb _ tb_1181) (fun _ h9 => h9) rfl (by decide +kernel) rfl rfl (Nat.le_of_ble_eq_true rfl) dX8_place_2 (fun H locs hP hD hS => ?_)
  have hP : va_P D vwCl (mw c q (hsI σ 0 (0 : Int32))) H := hP
  obtain ⟨σ1, eσ1⟩ : ∃ z : hsS, z = hsI σ 0 (0 : Int32) := ⟨_, rfl⟩
  rw [← eσ1] at hP
  have hD : va_D (wdA 31 q) (mw c q σ1) := mw_D hD0
  have hw := hw σ1 eσ1
  refine lv_aload_n hx hb dX8_place_5 rfl (lv_at hl 0 rfl) ?_
  refine lv_iload_n hx hb dX8_place_6 rfl (lv_at hl 1 rfl) ?_
  refine va_calli (va_runV (As := [.int x1]) (rest := []) ⟨hx, hb, hml, hown, htb⟩ (kcX8_isOne l D c q ev hev σ1 x1 _ hw) (tb_CW htb kX8_isOne tb_1469 tb_1471 tb_58 ⟨Nat.le_of_ble_eq_true rfl, Nat.le_of_ble_eq_true rfl⟩) (wd_preV (wd := mw c q) (k := 0) hev hK hP hD hE hS (mw_0 c q σ1) rfl) rfl rfl hl.1 rfl (lv_room (Nat.le_of_ble_eq_true rfl)) dX8_place_7 ⟨Nat.zero_le _, Nat.zero_le _⟩) hS (fun q _ h => h) (fun q h => h) (fun r2 σ3 t H1 locs1 ht hvm hw hB hz1 hk1 hS => ?_)
  have hP : va_P D vwCl (mw c q σ3) H1 := ht ▸ hB
  have hD : va_D (wdA 31 q) (mw c q σ3) := mw_D hD0
  refine lv_if_eq (tgt := 21) hx hb dX8_place_10 (by decide) (fun c4 => ?_) (fun c4 => ?_)
  · have hw := hw.1 c4
    refine lv_aload_n hx hb dX8_place_21 rfl (lv_at hl 0 rfl) ?_
    refine lv_iconst (v := (1 : Int32)) hx hb dX8_place_22 (by decide) ?_
    refine va_calli (va_runV (As := [.int (1 : Int32)]) (rest := []) ⟨hx, hb, hml, hown, htb⟩ (kcX8_fail l D c q ev hev σ3 (1 : Int32) _ hw) (tb_CW htb kX8_fail tb_1366 tb_1368 tb_42 ⟨Nat.le_of_ble_eq_true rfl, Nat.le_of_ble_eq_true rfl⟩) (wd_preV (wd := mw c q) (k := 0) hev hK hP hD hE hS (mw_0 c q σ3) rfl) rfl rfl hl.1 rfl (lv_room (Nat.le_of_ble_eq_true rfl)) dX8_place_23 ⟨Nat.zero_le _, Nat.zero_le _⟩) hS (fun q _ h => h) (fun q h => h) (fun r5 σ6 t H1 locs1 ht hvm hw hB hz1 hk1 hS => ?_)
    have hP : va_P D vwCl (mw c q σ6) H1 := ht ▸ hB
    have hD : va_D (wdA 31 q) (mw c q σ6) := mw_D hD0
    exact W.iret hx hb hr (fun t ht hW => ⟨⟨_, σ6, rfl, hw, by unfold wdB; rw [ht]; exact hP⟩, hS.F ht⟩) hS.2.2 dX8_place_26
  · have hw := hw.2 c4
    refine lv_aload_n hx hb dX8_place_13 rfl (lv_at hl 0 rfl) ?_
    refine lv_iload_n hx hb dX8_place_14 rfl (lv_at hl 2 rfl) ?_
    refine va_calli (va_runV (As := [.int x2]) (rest := []) ⟨hx, hb, hml, hown, htb⟩ (kcX8_isThing l D c q ev hev σ3 x2 _ hw) (tb_CW htb kX8_isThing tb_1473 tb_1475 tb_59 ⟨Nat.le_of_ble_eq_true rfl, Nat.le_of_ble_eq_true rfl⟩) (wd_preV (wd := mw c q) (k := 0) hev hK hP hD hE hS (mw_0 c q σ3) rfl) rfl rfl hl.1 rfl (lv_room (Nat.le_of_ble_eq_true rfl)) dX8_place_15 ⟨Nat.zero_le _, Nat.zero_le _⟩) hS (fun q _ h => h) (fun q h => h) (fun r7 σ8 t H1 locs1 ht hvm hw hB hz1 hk1 hS => ?_)
    have hP : va_P D vwCl (mw c q σ8) H1 := ht ▸ hB
    have hD : va_D (wdA 31 q) (mw c q σ8) := mw_D hD0
    refine lv_if_ne (tgt := 27) hx hb dX8_place_18 (by decide) (fun c9 => ?_) (fun c9 => ?_)
    · have hw := hw.2 c9
      refine lv_aload_n hx hb dX8_place_27 rfl (lv_at hl 0 rfl) ?_
      refine lv_iload_n hx hb dX8_place_28 rfl (lv_at hl 1 rfl) ?_
      refine lv_iload_n hx hb dX8_place_29 rfl (lv_at hl 2 rfl) ?_
      refine lv_aload_n hx hb dX8_place_30 rfl (lv_at hl 0 rfl) ?_
      refine va_get (D := D) (ci := 8) (C := RX8) (T := TX8) (N := 57) hx hb htb inX8 hown hK hP 0 (mw_0 c q σ8) rfl 1 (by decide) (htb _ tb_1182) (fun _ h9 => h9) rfl dX8_place_31 ?_
      refine lv_iconst (v := (0 : Int32)) hx hb dX8_place_34 (by decide) ?_
      refine va_iald hx hb hK hP 1 0 (mw_1 c q σ8) rfl (by unfold vp_in; decide) dX8_place_35 ?_
      refine va_calli (va_runV (As := [.int x1, .int x2, .int (σ8.2.1 1 (0 : Int32).toNatClampNeg)]) (rest := []) ⟨hx, hb, hml, hown, htb⟩ (kcX8_placeOf l D c q ev hev σ8 x1 x2 (σ8.2.1 1 (0 : Int32).toNatClampNeg) _ hw) (tb_CW htb kX8_placeOf tb_1477 tb_1479 tb_60 ⟨Nat.le_of_ble_eq_true rfl, Nat.le_of_ble_eq_true rfl⟩) (wd_preV (wd := mw c q) (k := 0) hev hK hP hD hE hS (mw_0 c q σ8) rfl) rfl rfl hl.1 rfl (lv_room (Nat.le_of_ble_eq_true rfl)) dX8_place_36 ⟨Nat.zero_le _, Nat.zero_le _⟩) hS (fun q _ h => h) (fun q h => h) (fun r12 σ13 t H1 locs1 ht hvm hw hB hz1 hk1 hS => ?_)
      have hP : va_P D vwCl (mw c q σ13) H1 := ht ▸ hB
      have hD : va_D (wdA 31 q) (mw c q σ13) := mw_D hD0
      exact W.iret hx hb hr (fun t ht hW => ⟨⟨_, σ13, rfl, hw, by unfold wdB; rw [ht]; exact hP⟩, hS.F ht⟩) hS.2.2 dX8_place_39
    · have hw := hw.1 c9
      refine lv_aload_n hx hb dX8_place_21 rfl (lv_at hl 0 rfl) ?_
      refine lv_iconst (v := (1 : Int32)) hx hb dX8_place_22 (by decide) ?_
      refine va_calli (va_runV (As := [.int (1 : Int32)]) (rest := []) ⟨hx, hb, hml, hown, htb⟩ (kcX8_fail l D c q ev hev σ8 (1 : Int32) _ hw) (tb_CW htb kX8_fail tb_1366 tb_1368 tb_42 ⟨Nat.le_of_ble_eq_true rfl, Nat.le_of_ble_eq_true rfl⟩) (wd_preV (wd := mw c q) (k := 0) hev hK hP hD hE hS (mw_0 c q σ8) rfl) rfl rfl hl.1 rfl (lv_room (Nat.le_of_ble_eq_true rfl)) dX8_place_23 ⟨Nat.zero_le _, Nat.zero_le _⟩) hS (fun q _ h => h) (fun q h => h) (fun r10 σ11 t H1 locs1 ht hvm hw hB hz1 hk1 hS => ?_)
      have hP : va_P D vwCl (mw c q σ11) H1 := ht ▸ hB
      have hD : va_D (wdA 31 q) (mw c q σ11) := mw_D hD0
      exact W.iret hx hb hr (fun t ht hW => ⟨⟨_, σ11, rfl, hw, by unfold wdB; rw [ht]; exact hP⟩, hS.F ht⟩) hS.2.2 dX8_place_26
