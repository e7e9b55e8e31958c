theorem kX8_thrown : tbM yX8_thrown cX8_thrown 1 (some .int) 0 := ⟨tb_1357, tb_99, by decide +kernel, by decide +kernel⟩
theorem kX8_fail : tbM yX8_fail cX8_fail 2 (some .int) 1 := ⟨tb_1369, tb_99, by decide +kernel, by decide +kernel⟩
theorem kX8_refuse : tbM yX8_refuse cX8_refuse 2 (some .boolean) 1 := ⟨tb_1519, tb_99, by decide +kernel, by decide +kernel⟩
theorem kX8_isIn : tbM yX8_isIn cX8_isIn 3 (some .boolean) 3 := ⟨tb_1464, tb_99, by decide +kernel, by decide +kernel⟩
theorem kX8_isThing : tbM yX8_isThing cX8_isThing 2 (some .boolean) 1 := ⟨tb_1476, tb_99, by decide +kernel, by decide +kernel⟩
theorem kX8_isOne : tbM yX8_isOne cX8_isOne 2 (some .boolean) 1 := ⟨tb_1472, tb_99, by decide +kernel, by decide +kernel⟩
theorem kX8_feed : tbM yX8_feed cX8_feed 8 (some .int) 5 := ⟨tb_1361, tb_99, by decide +kernel, by decide +kernel⟩
theorem kX8_byteAt : tbM yX8_byteAt cX8_byteAt 2 (some .int) 1 := ⟨tb_1377, tb_99, by decide +kernel, by decide +kernel⟩
theorem kX8_isLetter : tbM yX8_isLetter cX8_isLetter 1 (some .boolean) 1 := ⟨tb_1380, tb_99, by decide +kernel, by decide +kernel⟩
theorem kX8_isDigit : tbM yX8_isDigit cX8_isDigit 1 (some .boolean) 1 := ⟨tb_1383, tb_99, by decide +kernel, by decide +kernel⟩
theorem kX8_step : tbM yX8_step cX8_step 2 none 0 := ⟨tb_1373, tb_99, by decide +kernel, by decide +kernel⟩
theorem kX8_wrong : tbM yX8_wrong cX8_wrong 2 none 1 := ⟨tb_1399, tb_99, by decide +kernel, by decide +kernel⟩
theorem kX8_isNumber : tbM yX8_isNumber cX8_isNumber 1 (some .boolean) 0 := ⟨tb_1436, tb_99, by decide +kernel, by decide +kernel⟩
theorem kX8_readNumber : tbM yX8_readNumber cX8_readNumber 5 (some .int) 4 := ⟨tb_1403, tb_99, by decide +kernel, by decide +kernel⟩
theorem kX8_semi : tbM yX8_semi cX8_semi 1 none 0 := ⟨tb_1407, tb_99, by decide +kernel, by decide +kernel⟩
def wX8_thrown  (post : Int32 → hsS → Prop) (σ : hsS) : Prop := post (σ.1 0) σ
set_option maxHeartbeats 4000000 in
set_option maxRecDepth 100000 in
theorem kcX8_thrown (l : Launch) (D : va_G) (c : Nat → ClassId) (q : Nat → Nat) (ev : State → Heap → Prop) (hev : evOK (wdA 31 q) ev) (σ : hsS)  (post : Int32 → hsS → Prop) (hw : wX8_thrown  post σ) : Met l yX8_thrown (Cond.code yX8_thrown cX8_thrown 1 (some .int) :: tb_L) { frames := 0, cells := 0, slots := 0, locals := 0 } (wdPc D (mw c q) (mwT c) (wdA 31 q) ev σ [.ref (q 0)]) (va_Qi post (wdB D (mw c q)) (wdA 31 q)) 0 0 (wdA 31 q) := by
  refine Met.ofW (cc := cX8_thrown) (maxL := 1) (ret := (some .int)) (by decide) rfl ?_
  intro p e s m args below meth c₀ s₁ Bd hml hv
  obtain ⟨rfl, hP, hK, hD0, hE⟩ := hv
  have hx := Bd.exec
  have hb := Bd.bytes
  have hr := Bd.returns
  have hts := atoms_spec (ws := Cond.code yX8_thrown cX8_thrown 1 (some .int) :: tb_L) Bd.pre
  have htb : ∀ w ∈ tb_L, w.before [.ref (q 0)].toArray s = true := fun w h => hts w (List.mem_cons_of_mem _ h)
  have hown : s.vm.findClass RX8 = some m.cls := findClass_of_methodNamed Bd.named
  have hlocks := Bd.notSynchronized
  have hS : va_S (wdA 31 q) s.heap s.heap [] := va_S.rf
  have hD := hD0
  have hl := lv_entry ([.ref (q 0)]) (n := 1) (Nat.le_of_ble_eq_true rfl)
  rw [lg_entry_eq]
  generalize (lg_sl ([.ref (q 0)]) ++ List.replicate (1 - (lg_sl ([.ref (q 0)])).length) Slot.unset).toArray = ls at hl ⊢
  have hl : lv_has ls 1 [(0, .ref (q 0))] := hl
  unfold wX8_thrown at hw
  refine lv_aload_n hx hb dX8_thrown_0 rfl (lv_at hl 0 rfl) ?_
  refine va_get (D := D) (ci := 8) (C := RX8) (T := TX8) (N := 57) hx hb htb inX8 hown hK hP 0 (mw_0 c q σ) rfl 0 (by decide) (htb _ tb_1181) (fun _ h9 => h9) rfl dX8_thrown_1 ?_
  exact W.iret hx hb hr (fun t ht hW => ⟨⟨_, σ, rfl, hw, by unfold wdB; rw [ht]; exact hP⟩, hS.F ht⟩) hS.2.2 dX8_thrown_4
def wX8_fail (x1 : Int32) (post : Int32 → hsS → Prop) (σ : hsS) : Prop := ∀ σ1 : hsS, σ1 = hsI σ 0 x1 → post (0 : Int32) σ1
set_option maxHeartbeats 4000000 in
set_option maxRecDepth 100000 in
theorem kcX8_fail (l : Launch) (D : va_G) (c : Nat → ClassId) (q : Nat → Nat) (ev : State → Heap → Prop) (hev : evOK (wdA 31 q) ev) (σ : hsS) (x1 : Int32) (post : Int32 → hsS → Prop) (hw : wX8_fail x1 post σ) : Met l yX8_fail (Cond.code yX8_fail cX8_fail 2 (some .int) :: tb_L) { frames := 0, cells := 0, slots := 0, locals := 0 } (wdPc D (mw c q) (mwT c) (wdA 31 q) ev σ [.ref (q 0), .int x1]) (va_Qi post (wdB D (mw c q)) (wdA 31 q)) 0 0 (wdA 31 q) := by
  refine Met.ofW (cc := cX8_fail) (maxL := 2) (ret := (some .int)) (by decide) rfl ?_
  intro p e s m args below meth c₀ s₁ Bd hml hv
  obtain ⟨rfl, hP, hK, hD0, hE⟩ := hv
  have hx := Bd.exec
  have hb := Bd.bytes
  have hr := Bd.returns
  have hts := atoms_spec (ws := Cond.code yX8_fail cX8_fail 2 (some .int) :: tb_L) Bd.pre
  have htb : ∀ w ∈ tb_L, w.before [.ref (q 0), .int x1].toArray s = true := fun w h => hts w (List.mem_cons_of_mem _ h)
  have hown : s.vm.findClass RX8 = some m.cls := findClass_of_methodNamed Bd.named
  have hlocks := Bd.notSynchronized
  have hS : va_S (wdA 31 q) s.heap s.heap [] := va_S.rf
  have hD := hD0
  have hl := lv_entry ([.ref (q 0), .int x1]) (n := 2) (Nat.le_of_ble_eq_true rfl)
  rw [lg_entry_eq]
  generalize (lg_sl ([.ref (q 0), .int x1]) ++ List.replicate (2 - (lg_sl ([.ref (q 0), .int x1])).length) Slot.unset).toArray = ls at hl ⊢
  have hl : lv_has ls 2 [(0, .ref (q 0)), (1, .int x1)] := hl
  unfold wX8_fail at hw
  refine lv_aload_n hx hb dX8_fail_0 rfl (lv_at hl 0 rfl) ?_
  refine lv_iload_n hx hb dX8_fail_1 rfl (lv_at hl 1 rfl) ?_
  refine va_put (D := D) (ci := 8) (ty := .int) (C := RX8) (T := TX8) (N := 57) hx hb htb inX8 tyX8 tyX8_ok nmX8 hown hK hP hD hS 0 (mw_0 c q σ) rfl 0 (by decide) (htb _ tb_1181) (fun _ h9 => h9) rfl (by decide +kernel) rfl rfl (Nat.le_of_ble_eq_true rfl) dX8_fail_2 (fun H locs hP hD hS => ?_)
  have hP : va_P D vwCl (mw c q (hsI σ 0 x1)) H := hP
  obtain ⟨σ1, eσ1⟩ : ∃ z : hsS, z = hsI σ 0 x1 := ⟨_, rfl⟩
  rw [← eσ1] at hP
  have hD : va_D (wdA 31 q) (mw c q σ1) := mw_D hD0
  have hw := hw σ1 eσ1
  refine lv_iconst (v := (0 : Int32)) hx hb dX8_fail_5 (by decide) ?_
  exact W.iret hx hb hr (fun t ht hW => ⟨⟨_, σ1, rfl, hw, by unfold wdB; rw [ht]; exact hP⟩, hS.F ht⟩) hS.2.2 dX8_fail_6
def wX8_refuse (x1 : Int32) (post : Int32 → hsS → Prop) (σ : hsS) : Prop := ∀ σ1 : hsS, σ1 = hsI σ 0 x1 → post (0 : Int32) σ1
set_option maxHeartbeats 4000000 in
set_option maxRecDepth 100000 in
theorem kcX8_refuse (l : Launch) (D : va_G) (c : Nat → ClassId) (q : Nat → Nat) (ev : State → Heap → Prop) (hev : evOK (wdA 31 q) ev) (σ : hsS) (x1 : Int32) (post : Int32 → hsS → Prop) (hw : wX8_refuse x1 post σ) : Met l yX8_refuse (Cond.code yX8_refuse cX8_refuse 2 (some .boolean) :: tb_L) { frames := 0, cells := 0, slots := 0, locals := 0 } (wdPc D (mw c q) (mwT c) (wdA 31 q) ev σ [.ref (q 0), .int x1]) (va_Qi post (wdB D (mw c q)) (wdA 31 q)) 0 0 (wdA 31 q) := by
  refine Met.ofW (cc := cX8_refuse) (maxL := 2) (ret := (some .boolean)) (by decide) rfl ?_
  intro p e s m args below meth c₀ s₁ Bd hml hv
  obtain ⟨rfl, hP, hK, hD0, hE⟩ := hv
  have hx := Bd.exec
  have hb := Bd.bytes
  have hr := Bd.returns
  have hts := atoms_spec (ws := Cond.code yX8_refuse cX8_refuse 2 (some .boolean) :: tb_L) Bd.pre
  have htb : ∀ w ∈ tb_L, w.before [.ref (q 0), .int x1].toArray s = true := fun w h => hts w (List.mem_cons_of_mem _ h)
  have hown : s.vm.findClass RX8 = some m.cls := findClass_of_methodNamed Bd.named
  have hlocks := Bd.notSynchronized
  have hS : va_S (wdA 31 q) s.heap s.heap [] := va_S.rf
  have hD := hD0
  have hl := lv_entry ([.ref (q 0), .int x1]) (n := 2) (Nat.le_of_ble_eq_true rfl)
  rw [lg_entry_eq]
  generalize (lg_sl ([.ref (q 0), .int x1]) ++ List.replicate (2 - (lg_sl ([.ref (q 0), .int x1])).length) Slot.unset).toArray = ls at hl ⊢
  have hl : lv_has ls 2 [(0, .ref (q 0)), (1, .int x1)] := hl
  unfold wX8_refuse at hw
  refine lv_aload_n hx hb dX8_refuse_0 rfl (lv_at hl 0 rfl) ?_
  refine lv_iload_n hx hb dX8_refuse_1 rfl (lv_at hl 1 rfl) ?_
  refine va_put (D := D) (ci := 8) (ty := .int) (C := RX8) (T := TX8) (N := 57) hx hb htb inX8 tyX8 tyX8_ok nmX8 hown hK hP hD hS 0 (mw_0 c q σ) rfl 0 (by decide) (htb _ tb_1181) (fun _ h9 => h9) rfl (by decide +kernel) rfl rfl (Nat.le_of_ble_eq_true rfl) dX8_refuse_2 (fun H locs hP hD hS => ?_)
  have hP : va_P D vwCl (mw c q (hsI σ 0 x1)) H := hP
  obtain ⟨σ1, eσ1⟩ : ∃ z : hsS, z = hsI σ 0 x1 := ⟨_, rfl⟩
  rw [← eσ1] at hP
  have hD : va_D (wdA 31 q) (mw c q σ1) := mw_D hD0
  have hw := hw σ1 eσ1
  refine lv_iconst (v := (0 : Int32)) hx hb dX8_refuse_5 (by decide) ?_
  exact W.zret hx hb hr rfl (fun t ht hW => ⟨⟨_, σ1, rfl, hw, by unfold wdB; rw [ht]; exact hP⟩, hS.F ht⟩) hS.2.2 dX8_refuse_6
def wX8_isIn (x0 : Int32) (x1 : Int32) (x2 : Int32) (post : Int32 → hsS → Prop) (σ : hsS) : Prop := ((x0 < x1 → post (0 : Int32) σ) ∧ (¬ x0 < x1 → ((x2 < x0 → post (0 : Int32) σ) ∧ (¬ x2 < x0 → post (1 : Int32) σ))))
set_option maxHeartbeats 4000000 in
set_option maxRecDepth 100000 in
theorem kcX8_isIn_m (l : Launch) (D : va_G) (c : Nat → ClassId) (q : Nat → Nat) (ev : State → Heap → Prop) (hev : evOK (wdA 31 q) ev) (σ : hsS) (x0 : Int32) (x1 : Int32) (x2 : Int32) (post : Int32 → hsS → Prop) (hw : wX8_isIn x0 x1 x2 post σ) : Met l yX8_isIn (Cond.code yX8_isIn cX8_isIn 3 (some .boolean) :: tb_L) { frames := 0, cells := 0, slots := 0, locals := 0 } (wdPc D (mw c q) (mwT c) (wdA 31 q) ev σ [.int x0, .int x1, .int x2]) (va_Qi post (wdB D (mw c q)) (wdA 31 q)) 0 0 (wdA 31 q) := by
  refine Met.ofW (cc := cX8_isIn) (maxL := 3) (ret := (some .boolean)) (by decide) rfl ?_
  intro p e s m args below meth c₀ s₁ Bd hml hv
  obtain ⟨rfl, hP, hK, hD0, hE⟩ := hv
  have hx := Bd.exec
  have hb := Bd.bytes
  have hr := Bd.returns
  have hts := atoms_spec (ws := Cond.code yX8_isIn cX8_isIn 3 (some .boolean) :: tb_L) Bd.pre
  have htb : ∀ w ∈ tb_L, w.before [.int x0, .int x1, .int x2].toArray s = true := fun w h => hts w (List.mem_cons_of_mem _ h)
  have hown : s.vm.findClass RX8 = some m.cls := findClass_of_methodNamed Bd.named
  have hlocks := Bd.notSynchronized
  have hS : va_S (wdA 31 q) s.heap s.heap [] := va_S.rf
  have hD := hD0
  have hl := lv_entry ([.int x0, .int x1, .int x2]) (n := 3) (Nat.le_of_ble_eq_true rfl)
  rw [lg_entry_eq]
  generalize (lg_sl ([.int x0, .int x1, .int x2]) ++ List.replicate (3 - (lg_sl ([.int x0, .int x1, .int x2])).length) Slot.unset).toArray = ls at hl ⊢
  have hl : lv_has ls 3 [(0, .int x0), (1, .int x1), (2, .int x2)] := hl
  unfold wX8_isIn at hw
  refine lv_iload_n hx hb dX8_isIn_0 rfl (lv_at hl 0 rfl) ?_
  refine lv_iload_n hx hb dX8_isIn_1 rfl (lv_at hl 1 rfl) ?_
  refine lv_icmp_lt (tgt := 14) hx hb dX8_isIn_2 (by decide) (fun c1 => ?_) (fun c1 => ?_)
  · have hw := hw.1 c1
    refine lv_iconst (v := (0 : Int32)) hx hb dX8_isIn_14 (by decide) ?_
    exact W.zret hx hb hr rfl (fun t ht hW => ⟨⟨_, σ, rfl, hw, by unfold wdB; rw [ht]; exact hP⟩, hS.F ht⟩) hS.2.2 dX8_isIn_15
  · have hw := hw.2 c1
    refine lv_iload_n hx hb dX8_isIn_5 rfl (lv_at hl 0 rfl) ?_
    refine lv_iload_n hx hb dX8_isIn_6 rfl (lv_at hl 2 rfl) ?_
    refine lv_icmp_gt (tgt := 14) hx hb dX8_isIn_7 (by decide) (fun c2 => ?_) (fun c2 => ?_)
    · have hw := hw.1 c2
      refine lv_iconst (v := (0 : Int32)) hx hb dX8_isIn_14 (by decide) ?_
      exact W.zret hx hb hr rfl (fun t ht hW => ⟨⟨_, σ, rfl, hw, by unfold wdB; rw [ht]; exact hP⟩, hS.F ht⟩) hS.2.2 dX8_isIn_15
    · have hw := hw.2 c2
      refine lv_iconst (v := (1 : Int32)) hx hb dX8_isIn_10 (by decide) ?_
      refine lv_goto (tgt := 15) hx hb dX8_isIn_11 (by decide) ?_
      exact W.zret hx hb hr rfl (fun t ht hW => ⟨⟨_, σ, rfl, hw, by unfold wdB; rw [ht]; exact hP⟩, hS.F ht⟩) hS.2.2 dX8_isIn_15
def wX8_isThing (x1 : Int32) (post : Int32 → hsS → Prop) (σ : hsS) : Prop := wX8_isIn x1 (0 : Int32) ((σ.2.1 1 (0 : Int32).toNatClampNeg) - (1 : Int32)) (fun r1 σ2 => (r1 = 0 ∨ r1 = 1) ∧ post r1 σ2) σ
set_option maxHeartbeats 4000000 in
set_option maxRecDepth 100000 in
theorem kcX8_isThing (l : Launch) (D : va_G) (c : Nat → ClassId) (q : Nat → Nat) (ev : State → Heap → Prop) (hev : evOK (wdA 31 q) ev) (σ : hsS) (x1 : Int32) (post : Int32 → hsS → Prop) (hw : wX8_isThing x1 post σ) : Met l yX8_isThing (Cond.code yX8_isThing cX8_isThing 2 (some .boolean) :: tb_L) { frames := 1, cells := 0, slots := 0, locals := 22 } (wdPc D (mw c q) (mwT c) (wdA 31 q) ev σ [.ref (q 0), .int x1]) (va_Qi post (wdB D (mw c q)) (wdA 31 q)) 0 0 (wdA 31 q) := by
  refine Met.ofW (cc := cX8_isThing) (maxL := 2) (ret := (some .boolean)) (by decide) rfl ?_
  intro p e s m args below meth c₀ s₁ Bd hml hv
  obtain ⟨rfl, hP, hK, hD0, hE⟩ := hv
  have hx := Bd.exec
  have hb := Bd.bytes
  have hr := Bd.returns
  have hts := atoms_spec (ws := Cond.code yX8_isThing cX8_isThing 2 (some .boolean) :: tb_L) Bd.pre
  have htb : ∀ w ∈ tb_L, w.before [.ref (q 0), .int x1].toArray s = true := fun w h => hts w (List.mem_cons_of_mem _ h)
  have hown : s.vm.findClass RX8 = some m.cls := findClass_of_methodNamed Bd.named
  have hlocks := Bd.notSynchronized
  have hS : va_S (wdA 31 q) s.heap s.heap [] := va_S.rf
  have hD := hD0
  have hl := lv_entry ([.ref (q 0), .int x1]) (n := 2) (Nat.le_of_ble_eq_true rfl)
  rw [lg_entry_eq]
  generalize (lg_sl ([.ref (q 0), .int x1]) ++ List.replicate (2 - (lg_sl ([.ref (q 0), .int x1])).length) Slot.unset).toArray = ls at hl ⊢
  have hl : lv_has ls 2 [(0, .ref (q 0)), (1, .int x1)] := hl
  unfold wX8_isThing at hw
  refine lv_iload_n hx hb dX8_isThing_0 rfl (lv_at hl 1 rfl) ?_
  refine lv_iconst (v := (0 : Int32)) hx hb dX8_isThing_1 (by decide) ?_
  refine lv_aload_n hx hb dX8_isThing_2 rfl (lv_at hl 0 rfl) ?_
  refine va_get (D := D) (ci := 8) (C := RX8) (T := TX8) (N := 57) hx hb htb inX8 hown hK hP 0 (mw_0 c q σ) rfl 1 (by decide) (htb _ tb_1182) (fun _ h9 => h9) rfl dX8_isThing_3 ?_
  refine lv_iconst (v := (0 : Int32)) hx hb dX8_isThing_6 (by decide) ?_
  refine va_iald hx hb hK hP 1 0 (mw_1 c q σ) rfl (by unfold vp_in; decide) dX8_isThing_7 ?_
  refine lv_iconst (v := (1 : Int32)) hx hb dX8_isThing_8 (by decide) ?_
  refine lv_isub hx hb dX8_isThing_9 ?_
  refine va_calli (va_runS (As := [.int x1, .int (0 : Int32), .int ((σ.2.1 1 (0 : Int32).toNatClampNeg) - (1 : Int32))]) (rest := []) ⟨hx, hb, hml, hown, htb⟩ (kcX8_isIn_m l D c q ev hev σ x1 (0 : Int32) ((σ.2.1 1 (0 : Int32).toNatClampNeg) - (1 : Int32)) _ hw) (tb_CS htb kX8_isIn tb_1462 tb_1463 ⟨Nat.le_of_ble_eq_true rfl, Nat.le_of_ble_eq_true rfl⟩) (wd_preS (wd := mw c q) hev hK hP hD hE hS) rfl rfl hl.1 rfl (lv_room (Nat.le_of_ble_eq_true rfl)) dX8_isThing_10 ⟨Nat.zero_le _, Nat.zero_le _⟩) hS (fun q _ h => h) (fun q h => h) (fun r1 σ2 t H1 locs1 ht hvm hw hB hz1 hk1 hS => ?_)
  have hP : va_P D vwCl (mw c q σ2) H1 := ht ▸ hB
  have hD : va_D (wdA 31 q) (mw c q σ2) := mw_D hD0
  have hq := hw.2
  exact W.zret hx hb hr (nar_b hw.1) (fun t ht hW => ⟨⟨_, σ2, rfl, hq, by unfold wdB; rw [ht]; exact hP⟩, hS.F ht⟩) hS.2.2 dX8_isThing_13
def wX8_isOne (x1 : Int32) (post : Int32 → hsS → Prop) (σ : hsS) : Prop := wX8_isIn x1 (0 : Int32) ((σ.2.1 2 (0 : Int32).toNatClampNeg) - (1 : Int32)) (fun r1 σ2 => (r1 = 0 ∨ r1 = 1) ∧ post r1 σ2) σ
set_option maxHeartbeats 4000000 in
set_option maxRecDepth 100000 in
theorem kcX8_isOne (l : Launch) (D : va_G) (c : Nat → ClassId) (q : Nat → Nat) (ev : State → Heap → Prop) (hev : evOK (wdA 31 q) ev) (σ : hsS) (x1 : Int32) (post : Int32 → hsS → Prop) (hw : wX8_isOne x1 post σ) : Met l yX8_isOne (Cond.code yX8_isOne cX8_isOne 2 (some .boolean) :: tb_L) { frames := 1, cells := 0, slots := 0, locals := 22 } (wdPc D (mw c q) (mwT c) (wdA 31 q) ev σ [.ref (q 0), .int x1]) (va_Qi post (wdB D (mw c q)) (wdA 31 q)) 0 0 (wdA 31 q) := by
  refine Met.ofW (cc := cX8_isOne) (maxL := 2) (ret := (some .boolean)) (by decide) rfl ?_
  intro p e s m args below meth c₀ s₁ Bd hml hv
  obtain ⟨rfl, hP, hK, hD0, hE⟩ := hv
  have hx := Bd.exec
  have hb := Bd.bytes
  have hr := Bd.returns
  have hts := atoms_spec (ws := Cond.code yX8_isOne cX8_isOne 2 (some .boolean) :: tb_L) Bd.pre
  have htb : ∀ w ∈ tb_L, w.before [.ref (q 0), .int x1].toArray s = true := fun w h => hts w (List.mem_cons_of_mem _ h)
  have hown : s.vm.findClass RX8 = some m.cls := findClass_of_methodNamed Bd.named
  have hlocks := Bd.notSynchronized
  have hS : va_S (wdA 31 q) s.heap s.heap [] := va_S.rf
  have hD := hD0
  have hl := lv_entry ([.ref (q 0), .int x1]) (n := 2) (Nat.le_of_ble_eq_true rfl)
  rw [lg_entry_eq]
  generalize (lg_sl ([.ref (q 0), .int x1]) ++ List.replicate (2 - (lg_sl ([.ref (q 0), .int x1])).length) Slot.unset).toArray = ls at hl ⊢
  have hl : lv_has ls 2 [(0, .ref (q 0)), (1, .int x1)] := hl
  unfold wX8_isOne at hw
  refine lv_iload_n hx hb dX8_isOne_0 rfl (lv_at hl 1 rfl) ?_
  refine lv_iconst (v := (0 : Int32)) hx hb dX8_isOne_1 (by decide) ?_
  refine lv_aload_n hx hb dX8_isOne_2 rfl (lv_at hl 0 rfl) ?_
  refine va_get (D := D) (ci := 8) (C := RX8) (T := TX8) (N := 57) hx hb htb inX8 hown hK hP 0 (mw_0 c q σ) rfl 2 (by decide) (htb _ tb_1183) (fun _ h9 => h9) rfl dX8_isOne_3 ?_
  refine lv_iconst (v := (0 : Int32)) hx hb dX8_isOne_6 (by decide) ?_
  refine va_iald hx hb hK hP 2 1 (mw_2 c q σ) rfl (by unfold vp_in; decide) dX8_isOne_7 ?_
  refine lv_iconst (v := (1 : Int32)) hx hb dX8_isOne_8 (by decide) ?_
  refine lv_isub hx hb dX8_isOne_9 ?_
  refine va_calli (va_runS (As := [.int x1, .int (0 : Int32), .int ((σ.2.1 2 (0 : Int32).toNatClampNeg) - (1 : Int32))]) (rest := []) ⟨hx, hb, hml, hown, htb⟩ (kcX8_isIn_m l D c q ev hev σ x1 (0 : Int32) ((σ.2.1 2 (0 : Int32).toNatClampNeg) - (1 : Int32)) _ hw) (tb_CS htb kX8_isIn tb_1462 tb_1463 ⟨Nat.le_of_ble_eq_true rfl, Nat.le_of_ble_eq_true rfl⟩) (wd_preS (wd := mw c q) hev hK hP hD hE hS) rfl rfl hl.1 rfl (lv_room (Nat.le_of_ble_eq_true rfl)) dX8_isOne_10 ⟨Nat.zero_le _, Nat.zero_le _⟩) hS (fun q _ h => h) (fun q h => h) (fun r1 σ2 t H1 locs1 ht hvm hw hB hz1 hk1 hS => ?_)
  have hP : va_P D vwCl (mw c q σ2) H1 := ht ▸ hB
  have hD : va_D (wdA 31 q) (mw c q σ2) := mw_D hD0
  have hq := hw.2
  exact W.zret hx hb hr (nar_b hw.1) (fun t ht hW => ⟨⟨_, σ2, rfl, hq, by unfold wdB; rw [ht]; exact hP⟩, hS.F ht⟩) hS.2.2 dX8_isOne_13
def wX8_feed_L23 (z1 : Int32) (z2 : Int32) (z3 : Int32) (z4 : Int32) (z5 : Int32) (K120 : Int32 → hsS → Prop) (post : Int32 → hsS → Prop) : Nat → Int32 → hsS → Prop
  | 0, _, _ => False
  | n + 1, y6, σ => (((20 : Int32) ≤ y6 → K120 y6 σ) ∧ (¬ (20 : Int32) ≤ y6 → (((4 : Int32) ≤ y6 → (((8 : Int32) ≤ y6 → (((12 : Int32) ≤ y6 → (((16 : Int32) ≤ y6 → vp_in (σ.1 14) 600 ∧ ∀ σ8 : hsS, σ8 = hsA σ 12 (upd (σ.2.1 12) (σ.1 14).toNatClampNeg ((z5 >>> (((24 : Int32) - ((8 : Int32) * (y6 - y6 / (4 : Int32) * (4 : Int32)))) &&& 31)) &&& (255 : Int32))) → ∀ σ9 : hsS, σ9 = hsI σ8 14 ((σ8.1 14) + (1 : Int32)) → ∀ v10 : Int32, v10 = y6 + (1 : Int32) → wX8_feed_L23 z1 z2 z3 z4 z5 K120 post n v10 σ9) ∧ (¬ (16 : Int32) ≤ y6 → vp_in (σ.1 14) 600 ∧ ∀ σ11 : hsS, σ11 = hsA σ 12 (upd (σ.2.1 12) (σ.1 14).toNatClampNeg ((z4 >>> (((24 : Int32) - ((8 : Int32) * (y6 - y6 / (4 : Int32) * (4 : Int32)))) &&& 31)) &&& (255 : Int32))) → ∀ σ12 : hsS, σ12 = hsI σ11 14 ((σ11.1 14) + (1 : Int32)) → ∀ v13 : Int32, v13 = y6 + (1 : Int32) → wX8_feed_L23 z1 z2 z3 z4 z5 K120 post n v13 σ12))) ∧ (¬ (12 : Int32) ≤ y6 → vp_in (σ.1 14) 600 ∧ ∀ σ14 : hsS, σ14 = hsA σ 12 (upd (σ.2.1 12) (σ.1 14).toNatClampNeg ((z3 >>> (((24 : Int32) - ((8 : Int32) * (y6 - y6 / (4 : Int32) * (4 : Int32)))) &&& 31)) &&& (255 : Int32))) → ∀ σ15 : hsS, σ15 = hsI σ14 14 ((σ14.1 14) + (1 : Int32)) → ∀ v16 : Int32, v16 = y6 + (1 : Int32) → wX8_feed_L23 z1 z2 z3 z4 z5 K120 post n v16 σ15))) ∧ (¬ (8 : Int32) ≤ y6 → vp_in (σ.1 14) 600 ∧ ∀ σ17 : hsS, σ17 = hsA σ 12 (upd (σ.2.1 12) (σ.1 14).toNatClampNeg ((z2 >>> (((24 : Int32) - ((8 : Int32) * (y6 - y6 / (4 : Int32) * (4 : Int32)))) &&& 31)) &&& (255 : Int32))) → ∀ σ18 : hsS, σ18 = hsI σ17 14 ((σ17.1 14) + (1 : Int32)) → ∀ v19 : Int32, v19 = y6 + (1 : Int32) → wX8_feed_L23 z1 z2 z3 z4 z5 K120 post n v19 σ18))) ∧ (¬ (4 : Int32) ≤ y6 → vp_in (σ.1 14) 600 ∧ ∀ σ20 : hsS, σ20 = hsA σ 12 (upd (σ.2.1 12) (σ.1 14).toNatClampNeg ((z1 >>> (((24 : Int32) - ((8 : Int32) * (y6 - y6 / (4 : Int32) * (4 : Int32)))) &&& 31)) &&& (255 : Int32))) → ∀ σ21 : hsS, σ21 = hsI σ20 14 ((σ20.1 14) + (1 : Int32)) → ∀ v22 : Int32, v22 = y6 + (1 : Int32) → wX8_feed_L23 z1 z2 z3 z4 z5 K120 post n v22 σ21))))
def wX8_feed (x1 : Int32) (x2 : Int32) (x3 : Int32) (x4 : Int32) (x5 : Int32) (post : Int32 → hsS → Prop) (σ : hsS) : Prop := ∀ σ1 : hsS, σ1 = hsI σ 0 (0 : Int32) → ((((σ1.1 14) + (20 : Int32)) ≤ (600 : Int32) → ∃ n23, wX8_feed_L23 x1 x2 x3 x4 x5 (fun v24 σ25 => post (σ25.1 14) σ25) post n23 (0 : Int32) σ1) ∧ (¬ ((σ1.1 14) + (20 : Int32)) ≤ (600 : Int32) → post (-1 : Int32) σ1))
set_option maxHeartbeats 4000000 in
set_option maxRecDepth 100000 in
theorem kcX8_feed (l : Launch) (D : va_G) (c : Nat → ClassId) (q : Nat → Nat) (ev : State → Heap → Prop) (hev : evOK (wdA 31 q) ev) (σ : hsS) (x1 : Int32) (x2 : Int32) (x3 : Int32) (x4 : Int32) (x5 : Int32) (post : Int32 → hsS → Prop) (hw : wX8_feed x1 x2 x3 x4 x5 post σ) : Met l yX8_feed (Cond.code yX8_feed cX8_feed 8 (some .int) :: tb_L) { frames := 0, cells := 0, slots := 0, locals := 0 } (wdPc D (mw c q) (mwT c) (wdA 31 q) ev σ [.ref (q 0), .int x1, .int x2, .int x3, .int x4, .int x5]) (va_Qi post (wdB D (mw c q)) (wdA 31 q)) 0 0 (wdA 31 q) := by
  refine Met.ofW (cc := cX8_feed) (maxL := 8) (ret := (some .int)) (by decide) rfl ?_
  intro p e s m args below meth c₀ s₁ Bd hml hv
  obtain ⟨rfl, hP, hK, hD0, hE⟩ := hv
  have hx := Bd.exec
  have hb := Bd.bytes
  have hr := Bd.returns
  have hts := atoms_spec (ws := Cond.code yX8_feed cX8_feed 8 (some .int) :: tb_L) Bd.pre
  have htb : ∀ w ∈ tb_L, w.before [.ref (q 0), .int x1, .int x2, .int x3, .int x4, .int x5].toArray s = true := fun w h => hts w (List.mem_cons_of_mem _ h)
  have hown : s.vm.findClass RX8 = some m.cls := findClass_of_methodNamed Bd.named
  have hlocks := Bd.notSynchronized
  have hS : va_S (wdA 31 q) s.heap s.heap [] := va_S.rf
  have hD := hD0
  have L23 : ∀ (K120 : Int32 → hsS → Prop) (z1 : Int32) (z2 : Int32) (z3 : Int32) (z4 : Int32) (z5 : Int32) (n : Nat) (y6 : Int32) (σ : hsS) (H : Heap) (locs : List Loc) (ls : Array Slot), wX8_feed_L23 z1 z2 z3 z4 z5 K120 post n y6 σ → (∀ (y6 : Int32) (σ : hsS) (H : Heap) (locs : List Loc) (ls : Array Slot), K120 y6 σ → va_P D vwCl (mw c q σ) H → va_S (wdA 31 q) s.heap H locs → lv_has ls 8 [(0, .ref (q 0)), (1, .int z1), (2, .int z2), (3, .int z3), (4, .int z4), (5, .int z5), (6, .int y6)] → W p l e (headSpec (Cond.code yX8_feed cX8_feed 8 (some .int) :: tb_L) { frames := 0, cells := 0, slots := 0, locals := 0 }).room s m [.ref (q 0), .int x1, .int x2, .int x3, .int x4, .int x5].toArray below meth c₀ H locs 0 0 (MQ below (va_Qi post (wdB D (mw c q)) (wdA 31 q)) [.ref (q 0), .int x1, .int x2, .int x3, .int x4, .int x5].toArray s 0 0 (wdA 31 q)) (F0 m 120 ls [])) → va_P D vwCl (mw c q σ) H → va_S (wdA 31 q) s.heap H locs → lv_has ls 8 [(0, .ref (q 0)), (1, .int z1), (2, .int z2), (3, .int z3), (4, .int z4), (5, .int z5), (6, .int y6)] → W p l e (headSpec (Cond.code yX8_feed cX8_feed 8 (some .int) :: tb_L) { frames := 0, cells := 0, slots := 0, locals := 0 }).room s m [.ref (q 0), .int x1, .int x2, .int x3, .int x4, .int x5].toArray below meth c₀ H locs 0 0 (MQ below (va_Qi post (wdB D (mw c q)) (wdA 31 q)) [.ref (q 0), .int x1, .int x2, .int x3, .int x4, .int x5].toArray s 0 0 (wdA 31 q)) (F0 m 23 ls []) := by
    intro K120 z1 z2 z3 z4 z5 n
    induction n with
    | zero =>
      intro y6 σ H locs ls hw hk120 hP hS hl
      exact (show False from hw).elim
    | succ n ih =>
      intro y6 σ H locs ls hw hk120 hP hS hl
      rw [wX8_feed_L23] at hw
      have hD : va_D (wdA 31 q) (mw c q σ) := mw_D hD0
      refine lv_iload hx hb dX8_feed_23 (lv_at hl 6 rfl) ?_
      refine lv_bipush (v := (20 : Int32)) hx hb dX8_feed_25 (by decide) ?_
      refine lv_icmp_ge (tgt := 120) hx hb dX8_feed_27 (by decide) (fun c3 => ?_) (fun c3 => ?_)
      · have hw := hw.1 c3
        exact hk120 y6 σ _ _ _ hw hP hS (lv_sub hl [0, 1, 2, 3, 4, 5, 6] rfl)
      · have hw := hw.2 c3
        refine lv_iload hx hb dX8_feed_30 (lv_at hl 6 rfl) ?_
        refine lv_iconst (v := (4 : Int32)) hx hb dX8_feed_32 (by decide) ?_
        refine lv_icmp_ge (tgt := 40) hx hb dX8_feed_33 (by decide) (fun c4 => ?_) (fun c4 => ?_)
        · have hw := hw.1 c4
          refine lv_iload hx hb dX8_feed_40 (lv_at hl 6 rfl) ?_
          refine lv_bipush (v := (8 : Int32)) hx hb dX8_feed_42 (by decide) ?_
          refine lv_icmp_ge (tgt := 51) hx hb dX8_feed_44 (by decide) (fun c5 => ?_) (fun c5 => ?_)
          · have hw := hw.1 c5
            refine lv_iload hx hb dX8_feed_51 (lv_at hl 6 rfl) ?_
            refine lv_bipush (v := (12 : Int32)) hx hb dX8_feed_53 (by decide) ?_
            refine lv_icmp_ge (tgt := 62) hx hb dX8_feed_55 (by decide) (fun c6 => ?_) (fun c6 => ?_)
            · have hw := hw.1 c6
              refine lv_iload hx hb dX8_feed_62 (lv_at hl 6 rfl) ?_
              refine lv_bipush (v := (16 : Int32)) hx hb dX8_feed_64 (by decide) ?_
              refine lv_icmp_ge (tgt := 74) hx hb dX8_feed_66 (by decide) (fun c7 => ?_) (fun c7 => ?_)
              · have hw := hw.1 c7
                refine lv_iload hx hb dX8_feed_74 (lv_at hl 5 rfl) ?_
                refine lv_istore (lv' := [(7, .int z5), (0, .ref (q 0)), (1, .int z1), (2, .int z2), (3, .int z3), (4, .int z4), (5, .int z5), (6, .int y6)]) hx hb dX8_feed_76 hl (by decide) rfl (fun ls hl => ?_)
                refine lv_aload_n hx hb dX8_feed_78 rfl (lv_at hl 1 rfl) ?_
                refine va_get (D := D) (ci := 8) (C := RX8) (T := TX8) (N := 57) hx hb htb inX8 hown hK hP 0 (mw_0 c q σ) rfl 13 (by decide) (htb _ tb_1194) (fun _ h9 => h9) rfl dX8_feed_79 ?_
                refine lv_aload_n hx hb dX8_feed_82 rfl (lv_at hl 1 rfl) ?_
                refine va_get (D := D) (ci := 8) (C := RX8) (T := TX8) (N := 57) hx hb htb inX8 hown hK hP 0 (mw_0 c q σ) rfl 14 (by decide) (htb _ tb_1195) (fun _ h9 => h9) rfl dX8_feed_83 ?_
                refine lv_iload hx hb dX8_feed_86 (lv_at hl 0 rfl) ?_
                refine lv_bipush (v := (24 : Int32)) hx hb dX8_feed_88 (by decide) ?_
                refine lv_bipush (v := (8 : Int32)) hx hb dX8_feed_90 (by decide) ?_
                refine lv_iload hx hb dX8_feed_92 (lv_at hl 7 rfl) ?_
                refine lv_iconst (v := (4 : Int32)) hx hb dX8_feed_94 (by decide) ?_
                refine lv_irem hx hb dX8_feed_95 (by decide) ?_
                refine lv_imul hx hb dX8_feed_96 ?_
                refine lv_isub hx hb dX8_feed_97 ?_
                refine lv_ishr hx hb dX8_feed_98 ?_
                refine lv_sipush (v := (255 : Int32)) hx hb dX8_feed_99 (by decide) ?_
                refine lv_iand hx hb dX8_feed_102 ?_
                refine va_iast hx hb hK hP hD hS 12 11 (mw_12 c q σ) rfl hw.1 dX8_feed_103 (fun H locs hP hD hS => ?_)
                have hw := hw.2
                have hP : va_P D vwCl (mw c q (hsA σ 12 (upd (σ.2.1 12) (σ.1 14).toNatClampNeg ((z5 >>> (((24 : Int32) - ((8 : Int32) * (y6 - y6 / (4 : Int32) * (4 : Int32)))) &&& 31)) &&& (255 : Int32))))) H := hP
                obtain ⟨σ8, eσ8⟩ : ∃ z : hsS, z = hsA σ 12 (upd (σ.2.1 12) (σ.1 14).toNatClampNeg ((z5 >>> (((24 : Int32) - ((8 : Int32) * (y6 - y6 / (4 : Int32) * (4 : Int32)))) &&& 31)) &&& (255 : Int32))) := ⟨_, rfl⟩
                rw [← eσ8] at hP
                have hD : va_D (wdA 31 q) (mw c q σ8) := mw_D hD0
                have hw := hw σ8 eσ8
                refine lv_aload_n hx hb dX8_feed_104 rfl (lv_at hl 1 rfl) ?_
                refine lv_dup hx hb dX8_feed_105 rfl ?_
                refine va_get (D := D) (ci := 8) (C := RX8) (T := TX8) (N := 57) hx hb htb inX8 hown hK hP 0 (mw_0 c q σ8) rfl 14 (by decide) (htb _ tb_1195) (fun _ h9 => h9) rfl dX8_feed_106 ?_
                refine lv_iconst (v := (1 : Int32)) hx hb dX8_feed_109 (by decide) ?_
                refine lv_iadd hx hb dX8_feed_110 ?_
                refine va_put (D := D) (ci := 8) (ty := .int) (C := RX8) (T := TX8) (N := 57) hx hb htb inX8 tyX8 tyX8_ok nmX8 hown hK hP hD hS 0 (mw_0 c q σ8) rfl 14 (by decide) (htb _ tb_1195) (fun _ h9 => h9) rfl (by decide +kernel) rfl rfl (Nat.le_of_ble_eq_true rfl) dX8_feed_111 (fun H locs hP hD hS => ?_)
                have hP : va_P D vwCl (mw c q (hsI σ8 14 ((σ8.1 14) + (1 : Int32)))) H := hP
                obtain ⟨σ9, eσ9⟩ : ∃ z : hsS, z = hsI σ8 14 ((σ8.1 14) + (1 : Int32)) := ⟨_, rfl⟩
                rw [← eσ9] at hP
                have hD : va_D (wdA 31 q) (mw c q σ9) := mw_D hD0
                have hw := hw σ9 eσ9
                obtain ⟨v10, ev10⟩ : ∃ z : Int32, z = y6 + (1 : Int32) := ⟨_, rfl⟩
                have hw := hw v10 ev10
                refine lv_iinc (v := v10) (lv' := [(6, .int v10), (7, .int z5), (0, .ref (q 0)), (1, .int z1), (2, .int z2), (3, .int z3), (4, .int z4), (5, .int z5)]) hx hb dX8_feed_114 hl (k := 7) rfl (by rw [ev10]; rfl) (by decide) rfl (fun ls hl => ?_)
                refine lv_goto (tgt := 23) hx hb dX8_feed_117 (by decide) ?_
                exact ih v10 σ9 _ _ _ hw hk120 hP hS (lv_sub hl [2, 3, 4, 5, 6, 7, 0] rfl)
              · have hw := hw.2 c7
                refine lv_iload hx hb dX8_feed_69 (lv_at hl 4 rfl) ?_
                refine lv_goto (tgt := 76) hx hb dX8_feed_71 (by decide) ?_
                refine lv_istore (lv' := [(7, .int z4), (0, .ref (q 0)), (1, .int z1), (2, .int z2), (3, .int z3), (4, .int z4), (5, .int z5), (6, .int y6)]) hx hb dX8_feed_76 hl (by decide) rfl (fun ls hl => ?_)
                refine lv_aload_n hx hb dX8_feed_78 rfl (lv_at hl 1 rfl) ?_
                refine va_get (D := D) (ci := 8) (C := RX8) (T := TX8) (N := 57) hx hb htb inX8 hown hK hP 0 (mw_0 c q σ) rfl 13 (by decide) (htb _ tb_1194) (fun _ h9 => h9) rfl dX8_feed_79 ?_
                refine lv_aload_n hx hb dX8_feed_82 rfl (lv_at hl 1 rfl) ?_
                refine va_get (D := D) (ci := 8) (C := RX8) (T := TX8) (N := 57) hx hb htb inX8 hown hK hP 0 (mw_0 c q σ) rfl 14 (by decide) (htb _ tb_1195) (fun _ h9 => h9) rfl dX8_feed_83 ?_
                refine lv_iload hx hb dX8_feed_86 (lv_at hl 0 rfl) ?_
                refine lv_bipush (v := (24 : Int32)) hx hb dX8_feed_88 (by decide) ?_
                refine lv_bipush (v := (8 : Int32)) hx hb dX8_feed_90 (by decide) ?_
                refine lv_iload hx hb dX8_feed_92 (lv_at hl 7 rfl) ?_
                refine lv_iconst (v := (4 : Int32)) hx hb dX8_feed_94 (by decide) ?_
                refine lv_irem hx hb dX8_feed_95 (by decide) ?_
                refine lv_imul hx hb dX8_feed_96 ?_
                refine lv_isub hx hb dX8_feed_97 ?_
                refine lv_ishr hx hb dX8_feed_98 ?_
                refine lv_sipush (v := (255 : Int32)) hx hb dX8_feed_99 (by decide) ?_
                refine lv_iand hx hb dX8_feed_102 ?_
                refine va_iast hx hb hK hP hD hS 12 11 (mw_12 c q σ) rfl hw.1 dX8_feed_103 (fun H locs hP hD hS => ?_)
                have hw := hw.2
                have hP : va_P D vwCl (mw c q (hsA σ 12 (upd (σ.2.1 12) (σ.1 14).toNatClampNeg ((z4 >>> (((24 : Int32) - ((8 : Int32) * (y6 - y6 / (4 : Int32) * (4 : Int32)))) &&& 31)) &&& (255 : Int32))))) H := hP
                obtain ⟨σ11, eσ11⟩ : ∃ z : hsS, z = hsA σ 12 (upd (σ.2.1 12) (σ.1 14).toNatClampNeg ((z4 >>> (((24 : Int32) - ((8 : Int32) * (y6 - y6 / (4 : Int32) * (4 : Int32)))) &&& 31)) &&& (255 : Int32))) := ⟨_, rfl⟩
                rw [← eσ11] at hP
                have hD : va_D (wdA 31 q) (mw c q σ11) := mw_D hD0
                have hw := hw σ11 eσ11
                refine lv_aload_n hx hb dX8_feed_104 rfl (lv_at hl 1 rfl) ?_
                refine lv_dup hx hb dX8_feed_105 rfl ?_
                refine va_get (D := D) (ci := 8) (C := RX8) (T := TX8) (N := 57) hx hb htb inX8 hown hK hP 0 (mw_0 c q σ11) rfl 14 (by decide) (htb _ tb_1195) (fun _ h9 => h9) rfl dX8_feed_106 ?_
                refine lv_iconst (v := (1 : Int32)) hx hb dX8_feed_109 (by decide) ?_
                refine lv_iadd hx hb dX8_feed_110 ?_
                refine va_put (D := D) (ci := 8) (ty := .int) (C := RX8) (T := TX8) (N := 57) hx hb htb inX8 tyX8 tyX8_ok nmX8 hown hK hP hD hS 0 (mw_0 c q σ11) rfl 14 (by decide) (htb _ tb_1195) (fun _ h9 => h9) rfl (by decide +kernel) rfl rfl (Nat.le_of_ble_eq_true rfl) dX8_feed_111 (fun H locs hP hD hS => ?_)
                have hP : va_P D vwCl (mw c q (hsI σ11 14 ((σ11.1 14) + (1 : Int32)))) H := hP
                obtain ⟨σ12, eσ12⟩ : ∃ z : hsS, z = hsI σ11 14 ((σ11.1 14) + (1 : Int32)) := ⟨_, rfl⟩
                rw [← eσ12] at hP
                have hD : va_D (wdA 31 q) (mw c q σ12) := mw_D hD0
                have hw := hw σ12 eσ12
                obtain ⟨v13, ev13⟩ : ∃ z : Int32, z = y6 + (1 : Int32) := ⟨_, rfl⟩
                have hw := hw v13 ev13
                refine lv_iinc (v := v13) (lv' := [(6, .int v13), (7, .int z4), (0, .ref (q 0)), (1, .int z1), (2, .int z2), (3, .int z3), (4, .int z4), (5, .int z5)]) hx hb dX8_feed_114 hl (k := 7) rfl (by rw [ev13]; rfl) (by decide) rfl (fun ls hl => ?_)
                refine lv_goto (tgt := 23) hx hb dX8_feed_117 (by decide) ?_
                exact ih v13 σ12 _ _ _ hw hk120 hP hS (lv_sub hl [2, 3, 4, 5, 6, 7, 0] rfl)
            · have hw := hw.2 c6
              refine lv_iload_n hx hb dX8_feed_58 rfl (lv_at hl 3 rfl) ?_
              refine lv_goto (tgt := 76) hx hb dX8_feed_59 (by decide) ?_
              refine lv_istore (lv' := [(7, .int z3), (0, .ref (q 0)), (1, .int z1), (2, .int z2), (3, .int z3), (4, .int z4), (5, .int z5), (6, .int y6)]) hx hb dX8_feed_76 hl (by decide) rfl (fun ls hl => ?_)
              refine lv_aload_n hx hb dX8_feed_78 rfl (lv_at hl 1 rfl) ?_
              refine va_get (D := D) (ci := 8) (C := RX8) (T := TX8) (N := 57) hx hb htb inX8 hown hK hP 0 (mw_0 c q σ) rfl 13 (by decide) (htb _ tb_1194) (fun _ h9 => h9) rfl dX8_feed_79 ?_
              refine lv_aload_n hx hb dX8_feed_82 rfl (lv_at hl 1 rfl) ?_
              refine va_get (D := D) (ci := 8) (C := RX8) (T := TX8) (N := 57) hx hb htb inX8 hown hK hP 0 (mw_0 c q σ) rfl 14 (by decide) (htb _ tb_1195) (fun _ h9 => h9) rfl dX8_feed_83 ?_
              refine lv_iload hx hb dX8_feed_86 (lv_at hl 0 rfl) ?_
              refine lv_bipush (v := (24 : Int32)) hx hb dX8_feed_88 (by decide) ?_
              refine lv_bipush (v := (8 : Int32)) hx hb dX8_feed_90 (by decide) ?_
              refine lv_iload hx hb dX8_feed_92 (lv_at hl 7 rfl) ?_
              refine lv_iconst (v := (4 : Int32)) hx hb dX8_feed_94 (by decide) ?_
              refine lv_irem hx hb dX8_feed_95 (by decide) ?_
              refine lv_imul hx hb dX8_feed_96 ?_
              refine lv_isub hx hb dX8_feed_97 ?_
              refine lv_ishr hx hb dX8_feed_98 ?_
              refine lv_sipush (v := (255 : Int32)) hx hb dX8_feed_99 (by decide) ?_
              refine lv_iand hx hb dX8_feed_102 ?_
              refine va_iast hx hb hK hP hD hS 12 11 (mw_12 c q σ) rfl hw.1 dX8_feed_103 (fun H locs hP hD hS => ?_)
              have hw := hw.2
              have hP : va_P D vwCl (mw c q (hsA σ 12 (upd (σ.2.1 12) (σ.1 14).toNatClampNeg ((z3 >>> (((24 : Int32) - ((8 : Int32) * (y6 - y6 / (4 : Int32) * (4 : Int32)))) &&& 31)) &&& (255 : Int32))))) H := hP
              obtain ⟨σ14, eσ14⟩ : ∃ z : hsS, z = hsA σ 12 (upd (σ.2.1 12) (σ.1 14).toNatClampNeg ((z3 >>> (((24 : Int32) - ((8 : Int32) * (y6 - y6 / (4 : Int32) * (4 : Int32)))) &&& 31)) &&& (255 : Int32))) := ⟨_, rfl⟩
              rw [← eσ14] at hP
              have hD : va_D (wdA 31 q) (mw c q σ14) := mw_D hD0
              have hw := hw σ14 eσ14
              refine lv_aload_n hx hb dX8_feed_104 rfl (lv_at hl 1 rfl) ?_
              refine lv_dup hx hb dX8_feed_105 rfl ?_
              refine va_get (D := D) (ci := 8) (C := RX8) (T := TX8) (N := 57) hx hb htb inX8 hown hK hP 0 (mw_0 c q σ14) rfl 14 (by decide) (htb _ tb_1195) (fun _ h9 => h9) rfl dX8_feed_106 ?_
              refine lv_iconst (v := (1 : Int32)) hx hb dX8_feed_109 (by decide) ?_
              refine lv_iadd hx hb dX8_feed_110 ?_
              refine va_put (D := D) (ci := 8) (ty := .int) (C := RX8) (T := TX8) (N := 57) hx hb htb inX8 tyX8 tyX8_ok nmX8 hown hK hP hD hS 0 (mw_0 c q σ14) rfl 14 (by decide) (htb _ tb_1195) (fun _ h9 => h9) rfl (by decide +kernel) rfl rfl (Nat.le_of_ble_eq_true rfl) dX8_feed_111 (fun H locs hP hD hS => ?_)
              have hP : va_P D vwCl (mw c q (hsI σ14 14 ((σ14.1 14) + (1 : Int32)))) H := hP
              obtain ⟨σ15, eσ15⟩ : ∃ z : hsS, z = hsI σ14 14 ((σ14.1 14) + (1 : Int32)) := ⟨_, rfl⟩
              rw [← eσ15] at hP
              have hD : va_D (wdA 31 q) (mw c q σ15) := mw_D hD0
              have hw := hw σ15 eσ15
              obtain ⟨v16, ev16⟩ : ∃ z : Int32, z = y6 + (1 : Int32) := ⟨_, rfl⟩
              have hw := hw v16 ev16
              refine lv_iinc (v := v16) (lv' := [(6, .int v16), (7, .int z3), (0, .ref (q 0)), (1, .int z1), (2, .int z2), (3, .int z3), (4, .int z4), (5, .int z5)]) hx hb dX8_feed_114 hl (k := 7) rfl (by rw [ev16]; rfl) (by decide) rfl (fun ls hl => ?_)
              refine lv_goto (tgt := 23) hx hb dX8_feed_117 (by decide) ?_
              exact ih v16 σ15 _ _ _ hw hk120 hP hS (lv_sub hl [2, 3, 4, 5, 6, 7, 0] rfl)
          · have hw := hw.2 c5
            refine lv_iload_n hx hb dX8_feed_47 rfl (lv_at hl 2 rfl) ?_
            refine lv_goto (tgt := 76) hx hb dX8_feed_48 (by decide) ?_
            refine lv_istore (lv' := [(7, .int z2), (0, .ref (q 0)), (1, .int z1), (2, .int z2), (3, .int z3), (4, .int z4), (5, .int z5), (6, .int y6)]) hx hb dX8_feed_76 hl (by decide) rfl (fun ls hl => ?_)
            refine lv_aload_n hx hb dX8_feed_78 rfl (lv_at hl 1 rfl) ?_
            refine va_get (D := D) (ci := 8) (C := RX8) (T := TX8) (N := 57) hx hb htb inX8 hown hK hP 0 (mw_0 c q σ) rfl 13 (by decide) (htb _ tb_1194) (fun _ h9 => h9) rfl dX8_feed_79 ?_
            refine lv_aload_n hx hb dX8_feed_82 rfl (lv_at hl 1 rfl) ?_
            refine va_get (D := D) (ci := 8) (C := RX8) (T := TX8) (N := 57) hx hb htb inX8 hown hK hP 0 (mw_0 c q σ) rfl 14 (by decide) (htb _ tb_1195) (fun _ h9 => h9) rfl dX8_feed_83 ?_
            refine lv_iload hx hb dX8_feed_86 (lv_at hl 0 rfl) ?_
            refine lv_bipush (v := (24 : Int32)) hx hb dX8_feed_88 (by decide) ?_
            refine lv_bipush (v := (8 : Int32)) hx hb dX8_feed_90 (by decide) ?_
            refine lv_iload hx hb dX8_feed_92 (lv_at hl 7 rfl) ?_
            refine lv_iconst (v := (4 : Int32)) hx hb dX8_feed_94 (by decide) ?_
            refine lv_irem hx hb dX8_feed_95 (by decide) ?_
            refine lv_imul hx hb dX8_feed_96 ?_
            refine lv_isub hx hb dX8_feed_97 ?_
            refine lv_ishr hx hb dX8_feed_98 ?_
            refine lv_sipush (v := (255 : Int32)) hx hb dX8_feed_99 (by decide) ?_
            refine lv_iand hx hb dX8_feed_102 ?_
            refine va_iast hx hb hK hP hD hS 12 11 (mw_12 c q σ) rfl hw.1 dX8_feed_103 (fun H locs hP hD hS => ?_)
            have hw := hw.2
            have hP : va_P D vwCl (mw c q (hsA σ 12 (upd (σ.2.1 12) (σ.1 14).toNatClampNeg ((z2 >>> (((24 : Int32) - ((8 : Int32) * (y6 - y6 / (4 : Int32) * (4 : Int32)))) &&& 31)) &&& (255 : Int32))))) H := hP
            obtain ⟨σ17, eσ17⟩ : ∃ z : hsS, z = hsA σ 12 (upd (σ.2.1 12) (σ.1 14).toNatClampNeg ((z2 >>> (((24 : Int32) - ((8 : Int32) * (y6 - y6 / (4 : Int32) * (4 : Int32)))) &&& 31)) &&& (255 : Int32))) := ⟨_, rfl⟩
            rw [← eσ17] at hP
            have hD : va_D (wdA 31 q) (mw c q σ17) := mw_D hD0
            have hw := hw σ17 eσ17
            refine lv_aload_n hx hb dX8_feed_104 rfl (lv_at hl 1 rfl) ?_
            refine lv_dup hx hb dX8_feed_105 rfl ?_
            refine va_get (D := D) (ci := 8) (C := RX8) (T := TX8) (N := 57) hx hb htb inX8 hown hK hP 0 (mw_0 c q σ17) rfl 14 (by decide) (htb _ tb_1195) (fun _ h9 => h9) rfl dX8_feed_106 ?_
            refine lv_iconst (v := (1 : Int32)) hx hb dX8_feed_109 (by decide) ?_
            refine lv_iadd hx hb dX8_feed_110 ?_
            refine va_put (D := D) (ci := 8) (ty := .int) (C := RX8) (T := TX8) (N := 57) hx hb htb inX8 tyX8 tyX8_ok nmX8 hown hK hP hD hS 0 (mw_0 c q σ17) rfl 14 (by decide) (htb _ tb_1195) (fun _ h9 => h9) rfl (by decide +kernel) rfl rfl (Nat.le_of_ble_eq_true rfl) dX8_feed_111 (fun H locs hP hD hS => ?_)
            have hP : va_P D vwCl (mw c q (hsI σ17 14 ((σ17.1 14) + (1 : Int32)))) H := hP
            obtain ⟨σ18, eσ18⟩ : ∃ z : hsS, z = hsI σ17 14 ((σ17.1 14) + (1 : Int32)) := ⟨_, rfl⟩
            rw [← eσ18] at hP
            have hD : va_D (wdA 31 q) (mw c q σ18) := mw_D hD0
            have hw := hw σ18 eσ18
            obtain ⟨v19, ev19⟩ : ∃ z : Int32, z = y6 + (1 : Int32) := ⟨_, rfl⟩
            have hw := hw v19 ev19
            refine lv_iinc (v := v19) (lv' := [(6, .int v19), (7, .int z2), (0, .ref (q 0)), (1, .int z1), (2, .int z2), (3, .int z3), (4, .int z4), (5, .int z5)]) hx hb dX8_feed_114 hl (k := 7) rfl (by rw [ev19]; rfl) (by decide) rfl (fun ls hl => ?_)
            refine lv_goto (tgt := 23) hx hb dX8_feed_117 (by decide) ?_
            exact ih v19 σ18 _ _ _ hw hk120 hP hS (lv_sub hl [2, 3, 4, 5, 6, 7, 0] rfl)
        · have hw := hw.2 c4
          refine lv_iload_n hx hb dX8_feed_36 rfl (lv_at hl 1 rfl) ?_
          refine lv_goto (tgt := 76) hx hb dX8_feed_37 (by decide) ?_
          refine lv_istore (lv' := [(7, .int z1), (0, .ref (q 0)), (1, .int z1), (2, .int z2), (3, .int z3), (4, .int z4), (5, .int z5), (6, .int y6)]) hx hb dX8_feed_76 hl (by decide) rfl (fun ls hl => ?_)
          refine lv_aload_n hx hb dX8_feed_78 rfl (lv_at hl 1 rfl) ?_
          refine va_get (D := D) (ci := 8) (C := RX8) (T := TX8) (N := 57) hx hb htb inX8 hown hK hP 0 (mw_0 c q σ) rfl 13 (by decide) (htb _ tb_1194) (fun _ h9 => h9) rfl dX8_feed_79 ?_
          refine lv_aload_n hx hb dX8_feed_82 rfl (lv_at hl 1 rfl) ?_
          refine va_get (D := D) (ci := 8) (C := RX8) (T := TX8) (N := 57) hx hb htb inX8 hown hK hP 0 (mw_0 c q σ) rfl 14 (by decide) (htb _ tb_1195) (fun _ h9 => h9) rfl dX8_feed_83 ?_
          refine lv_iload hx hb dX8_feed_86 (lv_at hl 0 rfl) ?_
          refine lv_bipush (v := (24 : Int32)) hx hb dX8_feed_88 (by decide) ?_
          refine lv_bipush (v := (8 : Int32)) hx hb dX8_feed_90 (by decide) ?_
          refine lv_iload hx hb dX8_feed_92 (lv_at hl 7 rfl) ?_
          refine lv_iconst (v := (4 : Int32)) hx hb dX8_feed_94 (by decide) ?_
          refine lv_irem hx hb dX8_feed_95 (by decide) ?_
          refine lv_imul hx hb dX8_feed_96 ?_
          refine lv_isub hx hb dX8_feed_97 ?_
          refine lv_ishr hx hb dX8_feed_98 ?_
          refine lv_sipush (v := (255 : Int32)) hx hb dX8_feed_99 (by decide) ?_
          refine lv_iand hx hb dX8_feed_102 ?_
          refine va_iast hx hb hK hP hD hS 12 11 (mw_12 c q σ) rfl hw.1 dX8_feed_103 (fun H locs hP hD hS => ?_)
          have hw := hw.2
          have hP : va_P D vwCl (mw c q (hsA σ 12 (upd (σ.2.1 12) (σ.1 14).toNatClampNeg ((z1 >>> (((24 : Int32) - ((8 : Int32) * (y6 - y6 / (4 : Int32) * (4 : Int32)))) &&& 31)) &&& (255 : Int32))))) H := hP
          obtain ⟨σ20, eσ20⟩ : ∃ z : hsS, z = hsA σ 12 (upd (σ.2.1 12) (σ.1 14).toNatClampNeg ((z1 >>> (((24 : Int32) - ((8 : Int32) * (y6 - y6 / (4 : Int32) * (4 : Int32)))) &&& 31)) &&& (255 : Int32))) := ⟨_, rfl⟩
          rw [← eσ20] at hP
          have hD : va_D (wdA 31 q) (mw c q σ20) := mw_D hD0
          have hw := hw σ20 eσ20
          refine lv_aload_n hx hb dX8_feed_104 rfl (lv_at hl 1 rfl) ?_
          refine lv_dup hx hb dX8_feed_105 rfl ?_
          refine va_get (D := D) (ci := 8) (C := RX8) (T := TX8) (N := 57) hx hb htb inX8 hown hK hP 0 (mw_0 c q σ20) rfl 14 (by decide) (htb _ tb_1195) (fun _ h9 => h9) rfl dX8_feed_106 ?_
          refine lv_iconst (v := (1 : Int32)) hx hb dX8_feed_109 (by decide) ?_
          refine lv_iadd hx hb dX8_feed_110 ?_
          refine va_put (D := D) (ci := 8) (ty := .int) (C := RX8) (T := TX8) (N := 57) hx hb htb inX8 tyX8 tyX8_ok nmX8 hown hK hP hD hS 0 (mw_0 c q σ20) rfl 14 (by decide) (htb _ tb_1195) (fun _ h9 => h9) rfl (by decide +kernel) rfl rfl (Nat.le_of_ble_eq_true rfl) dX8_feed_111 (fun H locs hP hD hS => ?_)
          have hP : va_P D vwCl (mw c q (hsI σ20 14 ((σ20.1 14) + (1 : Int32)))) H := hP
          obtain ⟨σ21, eσ21⟩ : ∃ z : hsS, z = hsI σ20 14 ((σ20.1 14) + (1 : Int32)) := ⟨_, rfl⟩
          rw [← eσ21] at hP
          have hD : va_D (wdA 31 q) (mw c q σ21) := mw_D hD0
          have hw := hw σ21 eσ21
          obtain ⟨v22, ev22⟩ : ∃ z : Int32, z = y6 + (1 : Int32) := ⟨_, rfl⟩
          have hw := hw v22 ev22
          refine lv_iinc (v := v22) (lv' := [(6, .int v22), (7, .int z1), (0, .ref (q 0)), (1, .int z1), (2, .int z2), (3, .int z3), (4, .int z4), (5, .int z5)]) hx hb dX8_feed_114 hl (k := 7) rfl (by rw [ev22]; rfl) (by decide) rfl (fun ls hl => ?_)
          refine lv_goto (tgt := 23) hx hb dX8_feed_117 (by decide) ?_
          exact ih v22 σ21 _ _ _ hw hk120 hP hS (lv_sub hl [2, 3, 4, 5, 6, 7, 0] rfl)
  have hl := lv_entry ([.ref (q 0), .int x1, .int x2, .int x3, .int x4, .int x5]) (n := 8) (Nat.le_of_ble_eq_true rfl)
  rw [lg_entry_eq]
  generalize (lg_sl ([.ref (q 0), .int x1, .int x2, .int x3, .int x4, .int x5]) ++ List.replicate (8 - (lg_sl ([.ref (q 0), .int x1, .int x2, .int x3, .int x4, .int x5])).length) Slot.unset).toArray = ls at hl ⊢
  have hl : lv_has ls 8 [(0, .ref (q 0)), (1, .int x1), (2, .int x2), (3, .int x3), (4, .int x4), (5, .int x5)] := hl
  unfold wX8_feed at hw
  refine lv_aload_n hx hb dX8_feed_0 rfl (lv_at hl 0 rfl) ?_
  refine lv_iconst (v := (0 : Int32)) hx hb dX8_feed_1 (by decide) ?_
  refine va_put (D := D) (ci := 8) (ty := .int) (C := RX8) (T := TX8) (N := 57) hx hb htb inX8 tyX8 tyX8_ok nmX8 hown hK hP hD hS 0 (mw_0 c q σ) rfl 0 (by decide) (htb _ tb_1181) (fun _ h9 => h9) rfl (by decide +kernel) rfl rfl (Nat.le_of_ble_eq_true rfl) dX8_feed_2 (fun H locs hP hD hS => ?_)
  have hP : va_P D vwCl (mw c q (hsI σ 0 (0 : Int32))) H := hP
  obtain ⟨σ1, eσ1⟩ : ∃ z : hsS, z = hsI σ 0 (0 : Int32) := ⟨_, rfl⟩
  rw [← eσ1] at hP
  have hD : va_D (wdA 31 q) (mw c q σ1) := mw_D hD0
  have hw := hw σ1 eσ1
  refine lv_aload_n hx hb dX8_feed_5 rfl (lv_at hl 0 rfl) ?_
  refine va_get (D := D) (ci := 8) (C := RX8) (T := TX8) (N := 57) hx hb htb inX8 hown hK hP 0 (mw_0 c q σ1) rfl 14 (by decide) (htb _ tb_1195) (fun _ h9 => h9) rfl dX8_feed_6 ?_
  refine lv_bipush (v := (20 : Int32)) hx hb dX8_feed_9 (by decide) ?_
  refine lv_iadd hx hb dX8_feed_11 ?_
  refine lv_sipush (v := (600 : Int32)) hx hb dX8_feed_12 (by decide) ?_
  refine lv_icmp_le (tgt := 20) hx hb dX8_feed_15 (by decide) (fun c2 => ?_) (fun c2 => ?_)
  · have hw := hw.1 c2
    refine lv_iconst (v := (0 : Int32)) hx hb dX8_feed_20 (by decide) ?_
    refine lv_istore (lv' := [(6, .int (0 : Int32)), (0, .ref (q 0)), (1, .int x1), (2, .int x2), (3, .int x3), (4, .int x4), (5, .int x5)]) hx hb dX8_feed_21 hl (by decide) rfl (fun ls hl => ?_)
    obtain ⟨n23, hw⟩ := hw
    refine L23 _ x1 x2 x3 x4 x5 n23 (0 : Int32) σ1 _ _ _ hw ?_ hP hS (lv_sub hl [1, 2, 3, 4, 5, 6, 0] rfl)
    intro v24 σ25 H locs ls hw hP hS hl
    have hD : va_D (wdA 31 q) (mw c q σ25) := mw_D hD0
    refine lv_aload_n hx hb dX8_feed_120 rfl (lv_at hl 0 rfl) ?_
    refine va_get (D := D) (ci := 8) (C := RX8) (T := TX8) (N := 57) hx hb htb inX8 hown hK hP 0 (mw_0 c q σ25) rfl 14 (by decide) (htb _ tb_1195) (fun _ h9 => h9) rfl dX8_feed_121 ?_
    exact W.iret hx hb hr (fun t ht hW => ⟨⟨_, σ25, rfl, hw, by unfold wdB; rw [ht]; exact hP⟩, hS.F ht⟩) hS.2.2 dX8_feed_124
  · have hw := hw.2 c2
    refine lv_iconst (v := (-1 : Int32)) hx hb dX8_feed_18 (by decide) ?_
    exact W.iret hx hb hr (fun t ht hW => ⟨⟨_, σ1, rfl, hw, by unfold wdB; rw [ht]; exact hP⟩, hS.F ht⟩) hS.2.2 dX8_feed_19
def wX8_byteAt (x1 : Int32) (post : Int32 → hsS → Prop) (σ : hsS) : Prop := (((σ.1 16) ≤ x1 → post (-1 : Int32) σ) ∧ (¬ (σ.1 16) ≤ x1 → vp_in x1 600 ∧ post (σ.2.1 12 x1.toNatClampNeg) σ))
set_option maxHeartbeats 4000000 in
set_option maxRecDepth 100000 in
theorem kcX8_byteAt (l : Launch) (D : va_G) (c : Nat → ClassId) (q : Nat → Nat) (ev : State → Heap → Prop) (hev : evOK (wdA 31 q) ev) (σ : hsS) (x1 : Int32) (post : Int32 → hsS → Prop) (hw : wX8_byteAt x1 post σ) : Met l yX8_byteAt (Cond.code yX8_byteAt cX8_byteAt 2 (some .int) :: tb_L) { frames := 0, cells := 0, slots := 0, locals := 0 } (wdPc D (mw c q) (mwT c) (wdA 31 q) ev σ [.ref (q 0), .int x1]) (va_Qi post (wdB D (mw c q)) (wdA 31 q)) 0 0 (wdA 31 q) := by
  refine Met.ofW (cc := cX8_byteAt) (maxL := 2) (ret := (some .int)) (by decide) rfl ?_
  intro p e s m args below meth c₀ s₁ Bd hml hv
  obtain ⟨rfl, hP, hK, hD0, hE⟩ := hv
  have hx := Bd.exec
  have hb := Bd.bytes
  have hr := Bd.returns
  have hts := atoms_spec (ws := Cond.code yX8_byteAt cX8_byteAt 2 (some .int) :: tb_L) Bd.pre
  have htb : ∀ w ∈ tb_L, w.before [.ref (q 0), .int x1].toArray s = true := fun w h => hts w (List.mem_cons_of_mem _ h)
  have hown : s.vm.findClass RX8 = some m.cls := findClass_of_methodNamed Bd.named
  have hlocks := Bd.notSynchronized
  have hS : va_S (wdA 31 q) s.heap s.heap [] := va_S.rf
  have hD := hD0
  have hl := lv_entry ([.ref (q 0), .int x1]) (n := 2) (Nat.le_of_ble_eq_true rfl)
  rw [lg_entry_eq]
  generalize (lg_sl ([.ref (q 0), .int x1]) ++ List.replicate (2 - (lg_sl ([.ref (q 0), .int x1])).length) Slot.unset).toArray = ls at hl ⊢
  have hl : lv_has ls 2 [(0, .ref (q 0)), (1, .int x1)] := hl
  unfold wX8_byteAt at hw
  refine lv_iload_n hx hb dX8_byteAt_0 rfl (lv_at hl 1 rfl) ?_
  refine lv_aload_n hx hb dX8_byteAt_1 rfl (lv_at hl 0 rfl) ?_
  refine va_get (D := D) (ci := 8) (C := RX8) (T := TX8) (N := 57) hx hb htb inX8 hown hK hP 0 (mw_0 c q σ) rfl 16 (by decide) (htb _ tb_1197) (fun _ h9 => h9) rfl dX8_byteAt_2 ?_
  refine lv_icmp_ge (tgt := 17) hx hb dX8_byteAt_5 (by decide) (fun c1 => ?_) (fun c1 => ?_)
  · have hw := hw.1 c1
    refine lv_iconst (v := (-1 : Int32)) hx hb dX8_byteAt_17 (by decide) ?_
    exact W.iret hx hb hr (fun t ht hW => ⟨⟨_, σ, rfl, hw, by unfold wdB; rw [ht]; exact hP⟩, hS.F ht⟩) hS.2.2 dX8_byteAt_18
  · have hw := hw.2 c1
    refine lv_aload_n hx hb dX8_byteAt_8 rfl (lv_at hl 0 rfl) ?_
    refine va_get (D := D) (ci := 8) (C := RX8) (T := TX8) (N := 57) hx hb htb inX8 hown hK hP 0 (mw_0 c q σ) rfl 13 (by decide) (htb _ tb_1194) (fun _ h9 => h9) rfl dX8_byteAt_9 ?_
    refine lv_iload_n hx hb dX8_byteAt_12 rfl (lv_at hl 1 rfl) ?_
    refine va_iald hx hb hK hP 12 11 (mw_12 c q σ) rfl hw.1 dX8_byteAt_13 ?_
    have hw := hw.2
    refine lv_goto (tgt := 18) hx hb dX8_byteAt_14 (by decide) ?_
    exact W.iret hx hb hr (fun t ht hW => ⟨⟨_, σ, rfl, hw, by unfold wdB; rw [ht]; exact hP⟩, hS.F ht⟩) hS.2.2 dX8_byteAt_18
def wX8_isLetter (x0 : Int32) (post : Int32 → hsS → Prop) (σ : hsS) : Prop := ((x0 < (97 : Int32) → post (0 : Int32) σ) ∧ (¬ x0 < (97 : Int32) → (((122 : Int32) < x0 → post (0 : Int32) σ) ∧ (¬ (122 : Int32) < x0 → post (1 : Int32) σ))))
set_option maxHeartbeats 4000000 in
set_option maxRecDepth 100000 in
theorem kcX8_isLetter_m (l : Launch) (D : va_G) (c : Nat → ClassId) (q : Nat → Nat) (ev : State → Heap → Prop) (hev : evOK (wdA 31 q) ev) (σ : hsS) (x0 : Int32) (post : Int32 → hsS → Prop) (hw : wX8_isLetter x0 post σ) : Met l yX8_isLetter (Cond.code yX8_isLetter cX8_isLetter 1 (some .boolean) :: tb_L) { frames := 0, cells := 0, slots := 0, locals := 0 } (wdPc D (mw c q) (mwT c) (wdA 31 q) ev σ [.int x0]) (va_Qi post (wdB D (mw c q)) (wdA 31 q)) 0 0 (wdA 31 q) := by
  refine Met.ofW (cc := cX8_isLetter) (maxL := 1) (ret := (some .boolean)) (by decide) rfl ?_
  intro p e s m args below meth c₀ s₁ Bd hml hv
  obtain ⟨rfl, hP, hK, hD0, hE⟩ := hv
  have hx := Bd.exec
  have hb := Bd.bytes
  have hr := Bd.returns
  have hts := atoms_spec (ws := Cond.code yX8_isLetter cX8_isLetter 1 (some .boolean) :: tb_L) Bd.pre
  have htb : ∀ w ∈ tb_L, w.before [.int x0].toArray s = true := fun w h => hts w (List.mem_cons_of_mem _ h)
  have hown : s.vm.findClass RX8 = some m.cls := findClass_of_methodNamed Bd.named
  have hlocks := Bd.notSynchronized
  have hS : va_S (wdA 31 q) s.heap s.heap [] := va_S.rf
  have hD := hD0
  have hl := lv_entry ([.int x0]) (n := 1) (Nat.le_of_ble_eq_true rfl)
  rw [lg_entry_eq]
  generalize (lg_sl ([.int x0]) ++ List.replicate (1 - (lg_sl ([.int x0])).length) Slot.unset).toArray = ls at hl ⊢
  have hl : lv_has ls 1 [(0, .int x0)] := hl
  unfold wX8_isLetter at hw
  refine lv_iload_n hx hb dX8_isLetter_0 rfl (lv_at hl 0 rfl) ?_
  refine lv_bipush (v := (97 : Int32)) hx hb dX8_isLetter_1 (by decide) ?_
  refine lv_icmp_lt (tgt := 16) hx hb dX8_isLetter_3 (by decide) (fun c1 => ?_) (fun c1 => ?_)
  · have hw := hw.1 c1
    refine lv_iconst (v := (0 : Int32)) hx hb dX8_isLetter_16 (by decide) ?_
    exact W.zret hx hb hr rfl (fun t ht hW => ⟨⟨_, σ, rfl, hw, by unfold wdB; rw [ht]; exact hP⟩, hS.F ht⟩) hS.2.2 dX8_isLetter_17
  · have hw := hw.2 c1
    refine lv_iload_n hx hb dX8_isLetter_6 rfl (lv_at hl 0 rfl) ?_
    refine lv_bipush (v := (122 : Int32)) hx hb dX8_isLetter_7 (by decide) ?_
    refine lv_icmp_gt (tgt := 16) hx hb dX8_isLetter_9 (by decide) (fun c2 => ?_) (fun c2 => ?_)
    · have hw := hw.1 c2
      refine lv_iconst (v := (0 : Int32)) hx hb dX8_isLetter_16 (by decide) ?_
      exact W.zret hx hb hr rfl (fun t ht hW => ⟨⟨_, σ, rfl, hw, by unfold wdB; rw [ht]; exact hP⟩, hS.F ht⟩) hS.2.2 dX8_isLetter_17
    · have hw := hw.2 c2
      refine lv_iconst (v := (1 : Int32)) hx hb dX8_isLetter_12 (by decide) ?_
      refine lv_goto (tgt := 17) hx hb dX8_isLetter_13 (by decide) ?_
      exact W.zret hx hb hr rfl (fun t ht hW => ⟨⟨_, σ, rfl, hw, by unfold wdB; rw [ht]; exact hP⟩, hS.F ht⟩) hS.2.2 dX8_isLetter_17
def wX8_isDigit (x0 : Int32) (post : Int32 → hsS → Prop) (σ : hsS) : Prop := ((x0 < (48 : Int32) → post (0 : Int32) σ) ∧ (¬ x0 < (48 : Int32) → (((57 : Int32) < x0 → post (0 : Int32) σ) ∧ (¬ (57 : Int32) < x0 → post (1 : Int32) σ))))
set_option maxHeartbeats 4000000 in
set_option maxRecDepth 100000 in
theorem kcX8_isDigit_m (l : Launch) (D : va_G) (c : Nat → ClassId) (q : Nat → Nat) (ev : State → Heap → Prop) (hev : evOK (wdA 31 q) ev) (σ : hsS) (x0 : Int32) (post : Int32 → hsS → Prop) (hw : wX8_isDigit x0 post σ) : Met l yX8_isDigit (Cond.code yX8_isDigit cX8_isDigit 1 (some .boolean) :: tb_L) { frames := 0, cells := 0, slots := 0, locals := 0 } (wdPc D (mw c q) (mwT c) (wdA 31 q) ev σ [.int x0]) (va_Qi post (wdB D (mw c q)) (wdA 31 q)) 0 0 (wdA 31 q) := by
  refine Met.ofW (cc := cX8_isDigit) (maxL := 1) (ret := (some .boolean)) (by decide) rfl ?_
  intro p e s m args below meth c₀ s₁ Bd hml hv
  obtain ⟨rfl, hP, hK, hD0, hE⟩ := hv
  have hx := Bd.exec
  have hb := Bd.bytes
  have hr := Bd.returns
  have hts := atoms_spec (ws := Cond.code yX8_isDigit cX8_isDigit 1 (some .boolean) :: tb_L) Bd.pre
  have htb : ∀ w ∈ tb_L, w.before [.int x0].toArray s = true := fun w h => hts w (List.mem_cons_of_mem _ h)
  have hown : s.vm.findClass RX8 = some m.cls := findClass_of_methodNamed Bd.named
  have hlocks := Bd.notSynchronized
  have hS : va_S (wdA 31 q) s.heap s.heap [] := va_S.rf
  have hD := hD0
  have hl := lv_entry ([.int x0]) (n := 1) (Nat.le_of_ble_eq_true rfl)
  rw [lg_entry_eq]
  generalize (lg_sl ([.int x0]) ++ List.replicate (1 - (lg_sl ([.int x0])).length) Slot.unset).toArray = ls at hl ⊢
  have hl : lv_has ls 1 [(0, .int x0)] := hl
  unfold wX8_isDigit at hw
  refine lv_iload_n hx hb dX8_isDigit_0 rfl (lv_at hl 0 rfl) ?_
  refine lv_bipush (v := (48 : Int32)) hx hb dX8_isDigit_1 (by decide) ?_
  refine lv_icmp_lt (tgt := 16) hx hb dX8_isDigit_3 (by decide) (fun c1 => ?_) (fun c1 => ?_)
  · have hw := hw.1 c1
    refine lv_iconst (v := (0 : Int32)) hx hb dX8_isDigit_16 (by decide) ?_
    exact W.zret hx hb hr rfl (fun t ht hW => ⟨⟨_, σ, rfl, hw, by unfold wdB; rw [ht]; exact hP⟩, hS.F ht⟩) hS.2.2 dX8_isDigit_17
  · have hw := hw.2 c1
    refine lv_iload_n hx hb dX8_isDigit_6 rfl (lv_at hl 0 rfl) ?_
    refine lv_bipush (v := (57 : Int32)) hx hb dX8_isDigit_7 (by decide) ?_
    refine lv_icmp_gt (tgt := 16) hx hb dX8_isDigit_9 (by decide) (fun c2 => ?_) (fun c2 => ?_)
    · have hw := hw.1 c2
      refine lv_iconst (v := (0 : Int32)) hx hb dX8_isDigit_16 (by decide) ?_
      exact W.zret hx hb hr rfl (fun t ht hW => ⟨⟨_, σ, rfl, hw, by unfold wdB; rw [ht]; exact hP⟩, hS.F ht⟩) hS.2.2 dX8_isDigit_17
    · have hw := hw.2 c2
      refine lv_iconst (v := (1 : Int32)) hx hb dX8_isDigit_12 (by decide) ?_
      refine lv_goto (tgt := 17) hx hb dX8_isDigit_13 (by decide) ?_
      exact W.zret hx hb hr rfl (fun t ht hW => ⟨⟨_, σ, rfl, hw, by unfold wdB; rw [ht]; exact hP⟩, hS.F ht⟩) hS.2.2 dX8_isDigit_17
def wX8_step_L0 (K39 : hsS → Prop) (post : hsS → Prop) : Nat → hsS → Prop
  | 0, _ => False
  | n + 1, σ => wX8_byteAt (σ.1 15) (fun r1 σ2 => ((r1 = (32 : Int32) → ∀ σ4 : hsS, σ4 = hsI σ2 15 ((σ2.1 15) + (1 : Int32)) → wX8_step_L0  K39 post n σ4) ∧ (¬ r1 = (32 : Int32) → wX8_byteAt (σ2.1 15) (fun r5 σ6 => ((r5 = (10 : Int32) → ∀ σ8 : hsS, σ8 = hsI σ6 15 ((σ6.1 15) + (1 : Int32)) → wX8_step_L0  K39 post n σ8) ∧ (¬ r5 = (10 : Int32) → K39 σ6))) σ2))) σ
def wX8_step_L123 (z1 : Int32) (K179 : hsS → Prop) (post : hsS → Prop) : Nat → hsS → Prop
  | 0, _ => False
  | n + 1, σ => wX8_byteAt (σ.1 15) (fun r30 σ31 => wX8_isDigit r30 (fun r32 σ33 => ((r32 = (0 : Int32) → K179 σ33) ∧ (¬ r32 = (0 : Int32) → wX8_byteAt (σ33.1 15) (fun r35 σ36 => ∀ σ37 : hsS, σ37 = hsI σ36 18 (if ((((10 : Int32) * (σ33.1 18)) + r35) - (48 : Int32)) < (10000 : Int32) then ((((10 : Int32) * (σ33.1 18)) + r35) - (48 : Int32)) else (10000 : Int32)) → ∀ σ38 : hsS, σ38 = hsI σ37 15 ((σ37.1 15) + (1 : Int32)) → wX8_step_L123 z1 K179 post n σ38) σ33))) σ31) σ
def wX8_step_L76 (z1 : Int32) (K103 : hsS → Prop) (post : hsS → Prop) : Nat → hsS → Prop
  | 0, _ => False
  | n + 1, σ => wX8_byteAt (σ.1 15) (fun r43 σ44 => wX8_isLetter r43 (fun r45 σ46 => ((r45 = (0 : Int32) → K103 σ46) ∧ (¬ r45 = (0 : Int32) → ∀ σ48 : hsS, σ48 = hsI σ46 15 ((σ46.1 15) + (1 : Int32)) → wX8_step_L76 z1 K103 post n σ48))) σ44) σ
def wX8_step  (post : hsS → Prop) (σ : hsS) : Prop := ∃ n9, wX8_step_L0  (fun σ10 => ∀ σ11 : hsS, σ11 = hsI σ10 19 (σ10.1 15) → wX8_byteAt (σ11.1 15) (fun r12 σ13 => ((r12 = (-1 : Int32) → ∀ σ15 : hsS, σ15 = hsI σ13 17 (0 : Int32) → ∀ σ16 : hsS, σ16 = hsI σ15 20 (σ15.1 15) → post σ16) ∧ (¬ r12 = (-1 : Int32) → wX8_isLetter r12 (fun r17 σ18 => ((r17 = (0 : Int32) → wX8_isDigit r12 (fun r20 σ21 => ((r20 = (0 : Int32) → ∀ σ23 : hsS, σ23 = hsI σ21 15 ((σ21.1 15) + (1 : Int32)) → ((r12 = (59 : Int32) → ∀ σ25 : hsS, σ25 = hsI σ23 17 (3 : Int32) → ∀ σ26 : hsS, σ26 = hsI σ25 20 (σ25.1 15) → post σ26) ∧ (¬ r12 = (59 : Int32) → ∀ σ27 : hsS, σ27 = hsI σ23 17 (4 : Int32) → ∀ σ28 : hsS, σ28 = hsI σ27 20 (σ27.1 15) → post σ28))) ∧ (¬ r20 = (0 : Int32) → ∀ σ29 : hsS, σ29 = hsI σ21 18 (0 : Int32) → ∃ n39, wX8_step_L123 r12 (fun σ40 => ∀ σ41 : hsS, σ41 = hsI σ40 17 (2 : Int32) → ∀ σ42 : hsS, σ42 = hsI σ41 20 (σ41.1 15) → post σ42) post n39  σ29))) σ18) ∧ (¬ r17 = (0 : Int32) → ∃ n49, wX8_step_L76 r12 (fun σ50 => ∀ σ51 : hsS, σ51 = hsI σ50 17 (1 : Int32) → ∀ σ52 : hsS, σ52 = hsI σ51 20 (σ51.1 15) → post σ52) post n49  σ18))) σ13))) σ11) post n9  σ
set_option maxHeartbeats 4000000 in
set_option maxRecDepth 100000 in
theorem kcX8_step (l : Launch) (D : va_G) (c : Nat → ClassId) (q : Nat → Nat) (ev : State → Heap → Prop) (hev : evOK (wdA 31 q) ev) (σ : hsS)  (post : hsS → Prop) (hw : wX8_step  post σ) : Met l yX8_step (Cond.code yX8_step cX8_step 2 none :: tb_L) { frames := 1, cells := 0, slots := 0, locals := 40 } (wdPc D (mw c q) (mwT c) (wdA 31 q) ev σ [.ref (q 0)]) (va_Qv post (wdB D (mw c q)) (wdA 31 q)) 0 0 (wdA 31 q) := by
  refine Met.ofW (cc := cX8_step) (maxL := 2) (ret := none) (by decide) rfl ?_
  intro p e s m args below meth c₀ s₁ Bd hml hv
  obtain ⟨rfl, hP, hK, hD0, hE⟩ := hv
  have hx := Bd.exec
  have hb := Bd.bytes
  have hr := Bd.returns
  have hts := atoms_spec (ws := Cond.code yX8_step cX8_step 2 none :: tb_L) Bd.pre
  have htb : ∀ w ∈ tb_L, w.before [.ref (q 0)].toArray s = true := fun w h => hts w (List.mem_cons_of_mem _ h)
  have hown : s.vm.findClass RX8 = some m.cls := findClass_of_methodNamed Bd.named
  have hlocks := Bd.notSynchronized
  have hS : va_S (wdA 31 q) s.heap s.heap [] := va_S.rf
  have hD := hD0
  have L0 : ∀ (K39 : hsS → Prop) (n : Nat) (σ : hsS) (H : Heap) (locs : List Loc) (ls : Array Slot), wX8_step_L0  K39 post n σ → (∀ (σ : hsS) (H : Heap) (locs : List Loc) (ls : Array Slot), K39 σ → va_P D vwCl (mw c q σ) H → va_S (wdA 31 q) s.heap H locs → lv_has ls 2 [(0, .ref (q 0))] → W p l e (headSpec (Cond.code yX8_step cX8_step 2 none :: tb_L) { frames := 1, cells := 0, slots := 0, locals := 40 }).room s m [.ref (q 0)].toArray below meth c₀ H locs 0 0 (MQ below (va_Qv post (wdB D (mw c q)) (wdA 31 q)) [.ref (q 0)].toArray s 0 0 (wdA 31 q)) (F0 m 39 ls [])) → va_P D vwCl (mw c q σ) H → va_S (wdA 31 q) s.heap H locs → lv_has ls 2 [(0, .ref (q 0))] → W p l e (headSpec (Cond.code yX8_step cX8_step 2 none :: tb_L) { frames := 1, cells := 0, slots := 0, locals := 40 }).room s m [.ref (q 0)].toArray below meth c₀ H locs 0 0 (MQ below (va_Qv post (wdB D (mw c q)) (wdA 31 q)) [.ref (q 0)].toArray s 0 0 (wdA 31 q)) (F0 m 0 ls []) := by
    intro K39 n
    induction n with
    | zero =>
      intro σ H locs ls hw hk39 hP hS hl
      exact (show False from hw).elim
    | succ n ih =>
      intro σ H locs ls hw hk39 hP hS hl
      rw [wX8_step_L0] at hw
      have hD : va_D (wdA 31 q) (mw c q σ) := mw_D hD0
      refine lv_aload_n hx hb dX8_step_0 rfl (lv_at hl 0 rfl) ?_
      refine lv_aload_n hx hb dX8_step_1 rfl (lv_at hl 0 rfl) ?_
      refine va_get (D := D) (ci := 8) (C := RX8) (T := TX8) (N := 57) hx hb htb inX8 hown hK hP 0 (mw_0 c q σ) rfl 15 (by decide) (htb _ tb_1196) (fun _ h9 => h9) rfl dX8_step_2 ?_
      refine va_calli (va_runV (As := [.int (σ.1 15)]) (rest := []) ⟨hx, hb, hml, hown, htb⟩ (kcX8_byteAt l D c q ev hev σ (σ.1 15) _ hw) (tb_CW htb kX8_byteAt tb_1374 tb_1376 tb_44 ⟨Nat.le_of_ble_eq_true rfl, Nat.le_of_ble_eq_true rfl⟩) (wd_preV (wd := mw c q) (k := 0) hev hK hP hD hE hS (mw_0 c q σ) rfl) rfl rfl hl.1 rfl (lv_room (Nat.le_of_ble_eq_true rfl)) dX8_step_5 ⟨Nat.zero_le _, Nat.zero_le _⟩) hS (fun q _ h => h) (fun q h => h) (fun r1 σ2 t H1 locs1 ht hvm hw hB hz1 hk1 hS => ?_)
      have hP : va_P D vwCl (mw c q σ2) H1 := ht ▸ hB
      have hD : va_D (wdA 31 q) (mw c q σ2) := mw_D hD0
      refine lv_bipush (v := (32 : Int32)) hx hb dX8_step_8 (by decide) ?_
      refine lv_icmp_eq (tgt := 26) hx hb dX8_step_10 (by decide) (fun c3 => ?_) (fun c3 => ?_)
      · have hw := hw.1 c3
        refine lv_aload_n hx hb dX8_step_26 rfl (lv_at hl 0 rfl) ?_
        refine lv_dup hx hb dX8_step_27 rfl ?_
        refine va_get (D := D) (ci := 8) (C := RX8) (T := TX8) (N := 57) hx hb htb inX8 hown hK hP 0 (mw_0 c q σ2) rfl 15 (by decide) (htb _ tb_1196) (fun _ h9 => h9) rfl dX8_step_28 ?_
        refine lv_iconst (v := (1 : Int32)) hx hb dX8_step_31 (by decide) ?_
        refine lv_iadd hx hb dX8_step_32 ?_
        refine va_put (D := D) (ci := 8) (ty := .int) (C := RX8) (T := TX8) (N := 57) hx hb htb inX8 tyX8 tyX8_ok nmX8 hown hK hP hD hS 0 (mw_0 c q σ2) rfl 15 (by decide) (htb _ tb_1196) (fun _ h9 => h9) rfl (by decide +kernel) rfl rfl (Nat.le_of_ble_eq_true rfl) dX8_step_33 (fun H locs hP hD hS => ?_)
        have hP : va_P D vwCl (mw c q (hsI σ2 15 ((σ2.1 15) + (1 : Int32)))) H := hP
        obtain ⟨σ4, eσ4⟩ : ∃ z : hsS, z = hsI σ2 15 ((σ2.1 15) + (1 : Int32)) := ⟨_, rfl⟩
        rw [← eσ4] at hP
        have hD : va_D (wdA 31 q) (mw c q σ4) := mw_D hD0
        have hw := hw σ4 eσ4
        refine lv_goto (tgt := 0) hx hb dX8_step_36 (by decide) ?_
        exact ih  σ4 _ _ _ hw hk39 hP hS (lv_sub hl [0] rfl)
      · have hw := hw.2 c3
        refine lv_aload_n hx hb dX8_step_13 rfl (lv_at hl 0 rfl) ?_
        refine lv_aload_n hx hb dX8_step_14 rfl (lv_at hl 0 rfl) ?_
        refine va_get (D := D) (ci := 8) (C := RX8) (T := TX8) (N := 57) hx hb htb inX8 hown hK hP 0 (mw_0 c q σ2) rfl 15 (by decide) (htb _ tb_1196) (fun _ h9 => h9) rfl dX8_step_15 ?_
        refine va_calli (va_runV (As := [.int (σ2.1 15)]) (rest := []) ⟨hx, hb, hml, hown, htb⟩ (kcX8_byteAt l D c q ev hev σ2 (σ2.1 15) _ hw) (tb_CW htb kX8_byteAt tb_1374 tb_1376 tb_44 ⟨Nat.le_of_ble_eq_true rfl, Nat.le_of_ble_eq_true rfl⟩) (wd_preV (wd := mw c q) (k := 0) hev hK hP hD hE hS (mw_0 c q σ2) rfl) rfl rfl hl.1 rfl (lv_room (Nat.le_of_ble_eq_true rfl)) dX8_step_18 ⟨Nat.zero_le _, Nat.zero_le _⟩) hS (fun q _ h => h) (fun q h => h) (fun r5 σ6 t H1 locs1 ht hvm hw hB hz1 hk1 hS => ?_)
        have hP : va_P D vwCl (mw c q σ6) H1 := ht ▸ hB
        have hD : va_D (wdA 31 q) (mw c q σ6) := mw_D hD0
        refine lv_bipush (v := (10 : Int32)) hx hb dX8_step_21 (by decide) ?_
        refine lv_icmp_ne (tgt := 39) hx hb dX8_step_23 (by decide) (fun c7 => ?_) (fun c7 => ?_)
        · have hw := hw.2 c7
          exact hk39  σ6 _ _ _ hw hP hS (lv_sub hl [0] rfl)
        · have hw := hw.1 c7
          refine lv_aload_n hx hb dX8_step_26 rfl (lv_at hl 0 rfl) ?_
          refine lv_dup hx hb dX8_step_27 rfl ?_
          refine va_get (D := D) (ci := 8) (C := RX8) (T := TX8) (N := 57) hx hb htb inX8 hown hK hP 0 (mw_0 c q σ6) rfl 15 (by decide) (htb _ tb_1196) (fun _ h9 => h9) rfl dX8_step_28 ?_
          refine lv_iconst (v := (1 : Int32)) hx hb dX8_step_31 (by decide) ?_
          refine lv_iadd hx hb dX8_step_32 ?_
          refine va_put (D := D) (ci := 8) (ty := .int) (C := RX8) (T := TX8) (N := 57) hx hb htb inX8 tyX8 tyX8_ok nmX8 hown hK hP hD hS 0 (mw_0 c q σ6) rfl 15 (by decide) (htb _ tb_1196) (fun _ h9 => h9) rfl (by decide +kernel) rfl rfl (Nat.le_of_ble_eq_true rfl) dX8_step_33 (fun H locs hP hD hS => ?_)
          have hP : va_P D vwCl (mw c q (hsI σ6 15 ((σ6.1 15) + (1 : Int32)))) H := hP
          obtain ⟨σ8, eσ8⟩ : ∃ z : hsS, z = hsI σ6 15 ((σ6.1 15) + (1 : Int32)) := ⟨_, rfl⟩
          rw [← eσ8] at hP
          have hD : va_D (wdA 31 q) (mw c q σ8) := mw_D hD0
          have hw := hw σ8 eσ8
          refine lv_goto (tgt := 0) hx hb dX8_step_36 (by decide) ?_
          exact ih  σ8 _ _ _ hw hk39 hP hS (lv_sub hl [0] rfl)
  have L123 : ∀ (K179 : hsS → Prop) (z1 : Int32) (n : Nat) (σ : hsS) (H : Heap) (locs : List Loc) (ls : Array Slot), wX8_step_L123 z1 K179 post n σ → (∀ (σ : hsS) (H : Heap) (locs : List Loc) (ls : Array Slot), K179 σ → va_P D vwCl (mw c q σ) H → va_S (wdA 31 q) s.heap H locs → lv_has ls 2 [(0, .ref (q 0)), (1, .int z1)] → W p l e (headSpec (Cond.code yX8_step cX8_step 2 none :: tb_L) { frames := 1, cells := 0, slots := 0, locals := 40 }).room s m [.ref (q 0)].toArray below meth c₀ H locs 0 0 (MQ below (va_Qv post (wdB D (mw c q)) (wdA 31 q)) [.ref (q 0)].toArray s 0 0 (wdA 31 q)) (F0 m 179 ls [])) → va_P D vwCl (mw c q σ) H → va_S (wdA 31 q) s.heap H locs → lv_has ls 2 [(0, .ref (q 0)), (1, .int z1)] → W p l e (headSpec (Cond.code yX8_step cX8_step 2 none :: tb_L) { frames := 1, cells := 0, slots := 0, locals := 40 }).room s m [.ref (q 0)].toArray below meth c₀ H locs 0 0 (MQ below (va_Qv post (wdB D (mw c q)) (wdA 31 q)) [.ref (q 0)].toArray s 0 0 (wdA 31 q)) (F0 m 123 ls []) := by
    intro K179 z1 n
    induction n with
    | zero =>
      intro σ H locs ls hw hk179 hP hS hl
      exact (show False from hw).elim
    | succ n ih =>
      intro σ H locs ls hw hk179 hP hS hl
      rw [wX8_step_L123] at hw
      have hD : va_D (wdA 31 q) (mw c q σ) := mw_D hD0
      refine lv_aload_n hx hb dX8_step_123 rfl (lv_at hl 0 rfl) ?_
      refine lv_aload_n hx hb dX8_step_124 rfl (lv_at hl 0 rfl) ?_
      refine va_get (D := D) (ci := 8) (C := RX8) (T := TX8) (N := 57) hx hb htb inX8 hown hK hP 0 (mw_0 c q σ) rfl 15 (by decide) (htb _ tb_1196) (fun _ h9 => h9) rfl dX8_step_125 ?_
      refine va_calli (va_runV (As := [.int (σ.1 15)]) (rest := []) ⟨hx, hb, hml, hown, htb⟩ (kcX8_byteAt l D c q ev hev σ (σ.1 15) _ hw) (tb_CW htb kX8_byteAt tb_1374 tb_1376 tb_44 ⟨Nat.le_of_ble_eq_true rfl, Nat.le_of_ble_eq_true rfl⟩) (wd_preV (wd := mw c q) (k := 0) hev hK hP hD hE hS (mw_0 c q σ) rfl) rfl rfl hl.1 rfl (lv_room (Nat.le_of_ble_eq_true rfl)) dX8_step_128 ⟨Nat.zero_le _, Nat.zero_le _⟩) hS (fun q _ h => h) (fun q h => h) (fun r30 σ31 t H1 locs1 ht hvm hw hB hz1 hk1 hS => ?_)
      have hP : va_P D vwCl (mw c q σ31) H1 := ht ▸ hB
      have hD : va_D (wdA 31 q) (mw c q σ31) := mw_D hD0
      refine va_calli (va_runS (As := [.int r30]) (rest := []) ⟨hx, hb, hml, hown, htb⟩ (kcX8_isDigit_m l D c q ev hev σ31 r30 _ hw) (tb_CS htb kX8_isDigit tb_1381 tb_1382 ⟨Nat.le_of_ble_eq_true rfl, Nat.le_of_ble_eq_true rfl⟩) (wd_preS (wd := mw c q) hev hK hP hD hE hS) rfl rfl hl.1 rfl (lv_room (Nat.le_of_ble_eq_true rfl)) dX8_step_131 ⟨Nat.zero_le _, Nat.zero_le _⟩) hS (fun q _ h => h) (fun q h => h) (fun r32 σ33 t H1 locs1 ht hvm hw hB hz1 hk1 hS => ?_)
      have hP : va_P D vwCl (mw c q σ33) H1 := ht ▸ hB
      have hD : va_D (wdA 31 q) (mw c q σ33) := mw_D hD0
      refine lv_if_eq (tgt := 179) hx hb dX8_step_134 (by decide) (fun c34 => ?_) (fun c34 => ?_)
      · have hw := hw.1 c34
        exact hk179  σ33 _ _ _ hw hP hS (lv_sub hl [0, 1] rfl)
      · have hw := hw.2 c34
        refine lv_aload_n hx hb dX8_step_137 rfl (lv_at hl 0 rfl) ?_
        refine lv_sipush (v := (10000 : Int32)) hx hb dX8_step_138 (by decide) ?_
        refine lv_bipush (v := (10 : Int32)) hx hb dX8_step_141 (by decide) ?_
        refine lv_aload_n hx hb dX8_step_143 rfl (lv_at hl 0 rfl) ?_
        refine va_get (D := D) (ci := 8) (C := RX8) (T := TX8) (N := 57) hx hb htb inX8 hown hK hP 0 (mw_0 c q σ33) rfl 18 (by decide) (htb _ tb_1199) (fun _ h9 => h9) rfl dX8_step_144 ?_
        refine lv_imul hx hb dX8_step_147 ?_
        refine lv_aload_n hx hb dX8_step_148 rfl (lv_at hl 0 rfl) ?_
        refine lv_aload_n hx hb dX8_step_149 rfl (lv_at hl 0 rfl) ?_
        refine va_get (D := D) (ci := 8) (C := RX8) (T := TX8) (N := 57) hx hb htb inX8 hown hK hP 0 (mw_0 c q σ33) rfl 15 (by decide) (htb _ tb_1196) (fun _ h9 => h9) rfl dX8_step_150 ?_
        refine va_calli (va_runV (As := [.int (σ33.1 15)]) (rest := [.int ((10 : Int32) * (σ33.1 18)), .int (10000 : Int32), .ref (q 0)]) ⟨hx, hb, hml, hown, htb⟩ (kcX8_byteAt l D c q ev hev σ33 (σ33.1 15) _ hw) (tb_CW htb kX8_byteAt tb_1374 tb_1376 tb_44 ⟨Nat.le_of_ble_eq_true rfl, Nat.le_of_ble_eq_true rfl⟩) (wd_preV (wd := mw c q) (k := 0) hev hK hP hD hE hS (mw_0 c q σ33) rfl) rfl rfl hl.1 rfl (lv_room (Nat.le_of_ble_eq_true rfl)) dX8_step_153 ⟨Nat.zero_le _, Nat.zero_le _⟩) hS (fun q _ h => h) (fun q h => h) (fun r35 σ36 t H1 locs1 ht hvm hw hB hz1 hk1 hS => ?_)
        have hP : va_P D vwCl (mw c q σ36) H1 := ht ▸ hB
        have hD : va_D (wdA 31 q) (mw c q σ36) := mw_D hD0
        refine lv_iadd hx hb dX8_step_156 ?_
        refine lv_bipush (v := (48 : Int32)) hx hb dX8_step_157 (by decide) ?_
        refine lv_isub hx hb dX8_step_159 ?_
        refine va_mmin hx hb (hml.trans hl.1.symm) hown (htb _ tb_1384) (htb _ tb_413) (htb _ tb_104) (htb _ tb_414) (Nat.le_of_ble_eq_true rfl) (Nat.le_of_ble_eq_true rfl) (Nat.zero_le _) (Nat.zero_le _) dX8_step_160 ?_
        refine va_put (D := D) (ci := 8) (ty := .int) (C := RX8) (T := TX8) (N := 57) hx hb htb inX8 tyX8 tyX8_ok nmX8 hown hK hP hD hS 0 (mw_0 c q σ36) rfl 18 (by decide) (htb _ tb_1199) (fun _ h9 => h9) rfl (by decide +kernel) rfl rfl (Nat.le_of_ble_eq_true rfl) dX8_step_163 (fun H locs hP hD hS => ?_)
        have hP : va_P D vwCl (mw c q (hsI σ36 18 (if ((((10 : Int32) * (σ33.1 18)) + r35) - (48 : Int32)) < (10000 : Int32) then ((((10 : Int32) * (σ33.1 18)) + r35) - (48 : Int32)) else (10000 : Int32)))) H := hP
        obtain ⟨σ37, eσ37⟩ : ∃ z : hsS, z = hsI σ36 18 (if ((((10 : Int32) * (σ33.1 18)) + r35) - (48 : Int32)) < (10000 : Int32) then ((((10 : Int32) * (σ33.1 18)) + r35) - (48 : Int32)) else (10000 : Int32)) := ⟨_, rfl⟩
        rw [← eσ37] at hP
        have hD : va_D (wdA 31 q) (mw c q σ37) := mw_D hD0
        have hw := hw σ37 eσ37
        refine lv_aload_n hx hb dX8_step_166 rfl (lv_at hl 0 rfl) ?_
        refine lv_dup hx hb dX8_step_167 rfl ?_
        refine va_get (D := D) (ci := 8) (C := RX8) (T := TX8) (N := 57) hx hb htb inX8 hown hK hP 0 (mw_0 c q σ37) rfl 15 (by decide) (htb _ tb_1196) (fun _ h9 => h9) rfl dX8_step_168 ?_
        refine lv_iconst (v := (1 : Int32)) hx hb dX8_step_171 (by decide) ?_
        refine lv_iadd hx hb dX8_step_172 ?_
        refine va_put (D := D) (ci := 8) (ty := .int) (C := RX8) (T := TX8) (N := 57) hx hb htb inX8 tyX8 tyX8_ok nmX8 hown hK hP hD hS 0 (mw_0 c q σ37) rfl 15 (by decide) (htb _ tb_1196) (fun _ h9 => h9) rfl (by decide +kernel) rfl rfl (Nat.le_of_ble_eq_true rfl) dX8_step_173 (fun H locs hP hD hS => ?_)
        have hP : va_P D vwCl (mw c q (hsI σ37 15 ((σ37.1 15) + (1 : Int32)))) H := hP
        obtain ⟨σ38, eσ38⟩ : ∃ z : hsS, z = hsI σ37 15 ((σ37.1 15) + (1 : Int32)) := ⟨_, rfl⟩
        rw [← eσ38] at hP
        have hD : va_D (wdA 31 q) (mw c q σ38) := mw_D hD0
        have hw := hw σ38 eσ38
        refine lv_goto (tgt := 123) hx hb dX8_step_176 (by decide) ?_
        exact ih  σ38 _ _ _ hw hk179 hP hS (lv_sub hl [0, 1] rfl)
  have L76 : ∀ (K103 : hsS → Prop) (z1 : Int32) (n : Nat) (σ : hsS) (H : Heap) (locs : List Loc) (ls : Array Slot), wX8_step_L76 z1 K103 post n σ → (∀ (σ : hsS) (H : Heap) (locs : List Loc) (ls : Array Slot), K103 σ → va_P D vwCl (mw c q σ) H → va_S (wdA 31 q) s.heap H locs → lv_has ls 2 [(0, .ref (q 0)), (1, .int z1)] → W p l e (headSpec (Cond.code yX8_step cX8_step 2 none :: tb_L) { frames := 1, cells := 0, slots := 0, locals := 40 }).room s m [.ref (q 0)].toArray below meth c₀ H locs 0 0 (MQ below (va_Qv post (wdB D (mw c q)) (wdA 31 q)) [.ref (q 0)].toArray s 0 0 (wdA 31 q)) (F0 m 103 ls [])) → va_P D vwCl (mw c q σ) H → va_S (wdA 31 q) s.heap H locs → lv_has ls 2 [(0, .ref (q 0)), (1, .int z1)] → W p l e (headSpec (Cond.code yX8_step cX8_step 2 none :: tb_L) { frames := 1, cells := 0, slots := 0, locals := 40 }).room s m [.ref (q 0)].toArray below meth c₀ H locs 0 0 (MQ below (va_Qv post (wdB D (mw c q)) (wdA 31 q)) [.ref (q 0)].toArray s 0 0 (wdA 31 q)) (F0 m 76 ls []) := by
    intro K103 z1 n
    induction n with
    | zero =>
      intro σ H locs ls hw hk103 hP hS hl
      exact (show False from hw).elim
    | succ n ih =>
      intro σ H locs ls hw hk103 hP hS hl
      rw [wX8_step_L76] at hw
      have hD : va_D (wdA 31 q) (mw c q σ) := mw_D hD0
      refine lv_aload_n hx hb dX8_step_76 rfl (lv_at hl 0 rfl) ?_
      refine lv_aload_n hx hb dX8_step_77 rfl (lv_at hl 0 rfl) ?_
      refine va_get (D := D) (ci := 8) (C := RX8) (T := TX8) (N := 57) hx hb htb inX8 hown hK hP 0 (mw_0 c q σ) rfl 15 (by decide) (htb _ tb_1196) (fun _ h9 => h9) rfl dX8_step_78 ?_
      refine va_calli (va_runV (As := [.int (σ.1 15)]) (rest := []) ⟨hx, hb, hml, hown, htb⟩ (kcX8_byteAt l D c q ev hev σ (σ.1 15) _ hw) (tb_CW htb kX8_byteAt tb_1374 tb_1376 tb_44 ⟨Nat.le_of_ble_eq_true rfl, Nat.le_of_ble_eq_true rfl⟩) (wd_preV (wd := mw c q) (k := 0) hev hK hP hD hE hS (mw_0 c q σ) rfl) rfl rfl hl.1 rfl (lv_room (Nat.le_of_ble_eq_true rfl)) dX8_step_81 ⟨Nat.zero_le _, Nat.zero_le _⟩) hS (fun q _ h => h) (fun q h => h) (fun r43 σ44 t H1 locs1 ht hvm hw hB hz1 hk1 hS => ?_)
      have hP : va_P D vwCl (mw c q σ44) H1 := ht ▸ hB
      have hD : va_D (wdA 31 q) (mw c q σ44) := mw_D hD0
      refine va_calli (va_runS (As := [.int r43]) (rest := []) ⟨hx, hb, hml, hown, htb⟩ (kcX8_isLetter_m l D c q ev hev σ44 r43 _ hw) (tb_CS htb kX8_isLetter tb_1378 tb_1379 ⟨Nat.le_of_ble_eq_true rfl, Nat.le_of_ble_eq_true rfl⟩) (wd_preS (wd := mw c q) hev hK hP hD hE hS) rfl rfl hl.1 rfl (lv_room (Nat.le_of_ble_eq_true rfl)) dX8_step_84 ⟨Nat.zero_le _, Nat.zero_le _⟩) hS (fun q _ h => h) (fun q h => h) (fun r45 σ46 t H1 locs1 ht hvm hw hB hz1 hk1 hS => ?_)
      have hP : va_P D vwCl (mw c q σ46) H1 := ht ▸ hB
      have hD : va_D (wdA 31 q) (mw c q σ46) := mw_D hD0
      refine lv_if_eq (tgt := 103) hx hb dX8_step_87 (by decide) (fun c47 => ?_) (fun c47 => ?_)
      · have hw := hw.1 c47
        exact hk103  σ46 _ _ _ hw hP hS (lv_sub hl [0, 1] rfl)
      · have hw := hw.2 c47
        refine lv_aload_n hx hb dX8_step_90 rfl (lv_at hl 0 rfl) ?_
        refine lv_dup hx hb dX8_step_91 rfl ?_
        refine va_get (D := D) (ci := 8) (C := RX8) (T := TX8) (N := 57) hx hb htb inX8 hown hK hP 0 (mw_0 c q σ46) rfl 15 (by decide) (htb _ tb_1196) (fun _ h9 => h9) rfl dX8_step_92 ?_
        refine lv_iconst (v := (1 : Int32)) hx hb dX8_step_95 (by decide) ?_
        refine lv_iadd hx hb dX8_step_96 ?_
        refine va_put (D := D) (ci := 8) (ty := .int) (C := RX8) (T := TX8) (N := 57) hx hb htb inX8 tyX8 tyX8_ok nmX8 hown hK hP hD hS 0 (mw_0 c q σ46) rfl 15 (by decide) (htb _ tb_1196) (fun _ h9 => h9) rfl (by decide +kernel) rfl rfl (Nat.le_of_ble_eq_true rfl) dX8_step_97 (fun H locs hP hD hS => ?_)
        have hP : va_P D vwCl (mw c q (hsI σ46 15 ((σ46.1 15) + (1 : Int32)))) H := hP
        obtain ⟨σ48, eσ48⟩ : ∃ z : hsS, z = hsI σ46 15 ((σ46.1 15) + (1 : Int32)) := ⟨_, rfl⟩
        rw [← eσ48] at hP
        have hD : va_D (wdA 31 q) (mw c q σ48) := mw_D hD0
        have hw := hw σ48 eσ48
        refine lv_goto (tgt := 76) hx hb dX8_step_100 (by decide) ?_
        exact ih  σ48 _ _ _ hw hk103 hP hS (lv_sub hl [0, 1] rfl)
  have hl := lv_entry ([.ref (q 0)]) (n := 2) (Nat.le_of_ble_eq_true rfl)
  rw [lg_entry_eq]
  generalize (lg_sl ([.ref (q 0)]) ++ List.replicate (2 - (lg_sl ([.ref (q 0)])).length) Slot.unset).toArray = ls at hl ⊢
  have hl : lv_has ls 2 [(0, .ref (q 0))] := hl
  unfold wX8_step at hw
  obtain ⟨n9, hw⟩ := hw
  refine L0 _ n9  σ _ _ _ hw ?_ hP hS (lv_sub hl [0] rfl)
  intro σ10 H locs ls hw hP hS hl
  have hD : va_D (wdA 31 q) (mw c q σ10) := mw_D hD0
  refine lv_aload_n hx hb dX8_step_39 rfl (lv_at hl 0 rfl) ?_
  refine lv_aload_n hx hb dX8_step_40 rfl (lv_at hl 0 rfl) ?_
  refine va_get (D := D) (ci := 8) (C := RX8) (T := TX8) (N := 57) hx hb htb inX8 hown hK hP 0 (mw_0 c q σ10) rfl 15 (by decide) (htb _ tb_1196) (fun _ h9 => h9) rfl dX8_step_41 ?_
  refine va_put (D := D) (ci := 8) (ty := .int) (C := RX8) (T := TX8) (N := 57) hx hb htb inX8 tyX8 tyX8_ok nmX8 hown hK hP hD hS 0 (mw_0 c q σ10) rfl 19 (by decide) (htb _ tb_1200) (fun _ h9 => h9) rfl (by decide +kernel) rfl rfl (Nat.le_of_ble_eq_true rfl) dX8_step_44 (fun H locs hP hD hS => ?_)
  have hP : va_P D vwCl (mw c q (hsI σ10 19 (σ10.1 15))) H := hP
  obtain ⟨σ11, eσ11⟩ : ∃ z : hsS, z = hsI σ10 19 (σ10.1 15) := ⟨_, rfl⟩
  rw [← eσ11] at hP
  have hD : va_D (wdA 31 q) (mw c q σ11) := mw_D hD0
  have hw := hw σ11 eσ11
  refine lv_aload_n hx hb dX8_step_47 rfl (lv_at hl 0 rfl) ?_
  refine lv_aload_n hx hb dX8_step_48 rfl (lv_at hl 0 rfl) ?_
  refine va_get (D := D) (ci := 8) (C := RX8) (T := TX8) (N := 57) hx hb htb inX8 hown hK hP 0 (mw_0 c q σ11) rfl 15 (by decide) (htb _ tb_1196) (fun _ h9 => h9) rfl dX8_step_49 ?_
  refine va_calli (va_runV (As := [.int (σ11.1 15)]) (rest := []) ⟨hx, hb, hml, hown, htb⟩ (kcX8_byteAt l D c q ev hev σ11 (σ11.1 15) _ hw) (tb_CW htb kX8_byteAt tb_1374 tb_1376 tb_44 ⟨Nat.le_of_ble_eq_true rfl, Nat.le_of_ble_eq_true rfl⟩) (wd_preV (wd := mw c q) (k := 0) hev hK hP hD hE hS (mw_0 c q σ11) rfl) rfl rfl hl.1 rfl (lv_room (Nat.le_of_ble_eq_true rfl)) dX8_step_52 ⟨Nat.zero_le _, Nat.zero_le _⟩) hS (fun q _ h => h) (fun q h => h) (fun r12 σ13 t H1 locs1 ht hvm hw hB hz1 hk1 hS => ?_)
  have hP : va_P D vwCl (mw c q σ13) H1 := ht ▸ hB
  have hD : va_D (wdA 31 q) (mw c q σ13) := mw_D hD0
  refine lv_istore_n (lv' := [(1, .int r12), (0, .ref (q 0))]) hx hb dX8_step_55 rfl hl (by decide) rfl (fun ls hl => ?_)
  refine lv_iload_n hx hb dX8_step_56 rfl (lv_at hl 0 rfl) ?_
  refine lv_iconst (v := (-1 : Int32)) hx hb dX8_step_57 (by decide) ?_
  refine lv_icmp_ne (tgt := 69) hx hb dX8_step_58 (by decide) (fun c14 => ?_) (fun c14 => ?_)
  · have hw := hw.2 c14
    refine lv_iload_n hx hb dX8_step_69 rfl (lv_at hl 0 rfl) ?_
    refine va_calli (va_runS (As := [.int r12]) (rest := []) ⟨hx, hb, hml, hown, htb⟩ (kcX8_isLetter_m l D c q ev hev σ13 r12 _ hw) (tb_CS htb kX8_isLetter tb_1378 tb_1379 ⟨Nat.le_of_ble_eq_true rfl, Nat.le_of_ble_eq_true rfl⟩) (wd_preS (wd := mw c q) hev hK hP hD hE hS) rfl rfl hl.1 rfl (lv_room (Nat.le_of_ble_eq_true rfl)) dX8_step_70 ⟨Nat.zero_le _, Nat.zero_le _⟩) hS (fun q _ h => h) (fun q h => h) (fun r17 σ18 t H1 locs1 ht hvm hw hB hz1 hk1 hS => ?_)
    have hP : va_P D vwCl (mw c q σ18) H1 := ht ▸ hB
    have hD : va_D (wdA 31 q) (mw c q σ18) := mw_D hD0
    refine lv_if_eq (tgt := 111) hx hb dX8_step_73 (by decide) (fun c19 => ?_) (fun c19 => ?_)
    · have hw := hw.1 c19
      refine lv_iload_n hx hb dX8_step_111 rfl (lv_at hl 0 rfl) ?_
      refine va_calli (va_runS (As := [.int r12]) (rest := []) ⟨hx, hb, hml, hown, htb⟩ (kcX8_isDigit_m l D c q ev hev σ18 r12 _ hw) (tb_CS htb kX8_isDigit tb_1381 tb_1382 ⟨Nat.le_of_ble_eq_true rfl, Nat.le_of_ble_eq_true rfl⟩) (wd_preS (wd := mw c q) hev hK hP hD hE hS) rfl rfl hl.1 rfl (lv_room (Nat.le_of_ble_eq_true rfl)) dX8_step_112 ⟨Nat.zero_le _, Nat.zero_le _⟩) hS (fun q _ h => h) (fun q h => h) (fun r20 σ21 t H1 locs1 ht hvm hw hB hz1 hk1 hS => ?_)
      have hP : va_P D vwCl (mw c q σ21) H1 := ht ▸ hB
      have hD : va_D (wdA 31 q) (mw c q σ21) := mw_D hD0
      refine lv_if_eq (tgt := 187) hx hb dX8_step_115 (by decide) (fun c22 => ?_) (fun c22 => ?_)
      · have hw := hw.1 c22
        refine lv_aload_n hx hb dX8_step_187 rfl (lv_at hl 1 rfl) ?_
        refine lv_dup hx hb dX8_step_188 rfl ?_
        refine va_get (D := D) (ci := 8) (C := RX8) (T := TX8) (N := 57) hx hb htb inX8 hown hK hP 0 (mw_0 c q σ21) rfl 15 (by decide) (htb _ tb_1196) (fun _ h9 => h9) rfl dX8_step_189 ?_
        refine lv_iconst (v := (1 : Int32)) hx hb dX8_step_192 (by decide) ?_
        refine lv_iadd hx hb dX8_step_193 ?_
        refine va_put (D := D) (ci := 8) (ty := .int) (C := RX8) (T := TX8) (N := 57) hx hb htb inX8 tyX8 tyX8_ok nmX8 hown hK hP hD hS 0 (mw_0 c q σ21) rfl 15 (by decide) (htb _ tb_1196) (fun _ h9 => h9) rfl (by decide +kernel) rfl rfl (Nat.le_of_ble_eq_true rfl) dX8_step_194 (fun H locs hP hD hS => ?_)
        have hP : va_P D vwCl (mw c q (hsI σ21 15 ((σ21.1 15) + (1 : Int32)))) H := hP
        obtain ⟨σ23, eσ23⟩ : ∃ z : hsS, z = hsI σ21 15 ((σ21.1 15) + (1 : Int32)) := ⟨_, rfl⟩
        rw [← eσ23] at hP
        have hD : va_D (wdA 31 q) (mw c q σ23) := mw_D hD0
        have hw := hw σ23 eσ23
        refine lv_aload_n hx hb dX8_step_197 rfl (lv_at hl 1 rfl) ?_
        refine lv_iload_n hx hb dX8_step_198 rfl (lv_at hl 0 rfl) ?_
        refine lv_bipush (v := (59 : Int32)) hx hb dX8_step_199 (by decide) ?_
        refine lv_icmp_ne (tgt := 208) hx hb dX8_step_201 (by decide) (fun c24 => ?_) (fun c24 => ?_)
        · have hw := hw.2 c24
          refine lv_iconst (v := (4 : Int32)) hx hb dX8_step_208 (by decide) ?_
          refine va_put (D := D) (ci := 8) (ty := .int) (C := RX8) (T := TX8) (N := 57) hx hb htb inX8 tyX8 tyX8_ok nmX8 hown hK hP hD hS 0 (mw_0 c q σ23) rfl 17 (by decide) (htb _ tb_1198) (fun _ h9 => h9) rfl (by decide +kernel) rfl rfl (Nat.le_of_ble_eq_true rfl) dX8_step_209 (fun H locs hP hD hS => ?_)
          have hP : va_P D vwCl (mw c q (hsI σ23 17 (4 : Int32))) H := hP
          obtain ⟨σ27, eσ27⟩ : ∃ z : hsS, z = hsI σ23 17 (4 : Int32) := ⟨_, rfl⟩
          rw [← eσ27] at hP
          have hD : va_D (wdA 31 q) (mw c q σ27) := mw_D hD0
          have hw := hw σ27 eσ27
          refine lv_aload_n hx hb dX8_step_212 rfl (lv_at hl 1 rfl) ?_
          refine lv_aload_n hx hb dX8_step_213 rfl (lv_at hl 1 rfl) ?_
          refine va_get (D := D) (ci := 8) (C := RX8) (T := TX8) (N := 57) hx hb htb inX8 hown hK hP 0 (mw_0 c q σ27) rfl 15 (by decide) (htb _ tb_1196) (fun _ h9 => h9) rfl dX8_step_214 ?_
          refine va_put (D := D) (ci := 8) (ty := .int) (C := RX8) (T := TX8) (N := 57) hx hb htb inX8 tyX8 tyX8_ok nmX8 hown hK hP hD hS 0 (mw_0 c q σ27) rfl 20 (by decide) (htb _ tb_1201) (fun _ h9 => h9) rfl (by decide +kernel) rfl rfl (Nat.le_of_ble_eq_true rfl) dX8_step_217 (fun H locs hP hD hS => ?_)
          have hP : va_P D vwCl (mw c q (hsI σ27 20 (σ27.1 15))) H := hP
          obtain ⟨σ28, eσ28⟩ : ∃ z : hsS, z = hsI σ27 20 (σ27.1 15) := ⟨_, rfl⟩
          rw [← eσ28] at hP
          have hD : va_D (wdA 31 q) (mw c q σ28) := mw_D hD0
          have hw := hw σ28 eσ28
          exact W.vret hx hb hr (fun t ht hW => ⟨⟨σ28, rfl, hw, by unfold wdB; rw [ht]; exact hP⟩, hS.F ht⟩) hS.2.2 dX8_step_220
        · have hw := hw.1 c24
          refine lv_iconst (v := (3 : Int32)) hx hb dX8_step_204 (by decide) ?_
          refine lv_goto (tgt := 209) hx hb dX8_step_205 (by decide) ?_
          refine va_put (D := D) (ci := 8) (ty := .int) (C := RX8) (T := TX8) (N := 57) hx hb htb inX8 tyX8 tyX8_ok nmX8 hown hK hP hD hS 0 (mw_0 c q σ23) rfl 17 (by decide) (htb _ tb_1198) (fun _ h9 => h9) rfl (by decide +kernel) rfl rfl (Nat.le_of_ble_eq_true rfl) dX8_step_209 (fun H locs hP hD hS => ?_)
          have hP : va_P D vwCl (mw c q (hsI σ23 17 (3 : Int32))) H := hP
          obtain ⟨σ25, eσ25⟩ : ∃ z : hsS, z = hsI σ23 17 (3 : Int32) := ⟨_, rfl⟩
          rw [← eσ25] at hP
          have hD : va_D (wdA 31 q) (mw c q σ25) := mw_D hD0
          have hw := hw σ25 eσ25
          refine lv_aload_n hx hb dX8_step_212 rfl (lv_at hl 1 rfl) ?_
          refine lv_aload_n hx hb dX8_step_213 rfl (lv_at hl 1 rfl) ?_
          refine va_get (D := D) (ci := 8) (C := RX8) (T := TX8) (N := 57) hx hb htb inX8 hown hK hP 0 (mw_0 c q σ25) rfl 15 (by decide) (htb _ tb_1196) (fun _ h9 => h9) rfl dX8_step_214 ?_
          refine va_put (D := D) (ci := 8) (ty := .int) (C := RX8) (T := TX8) (N := 57) hx hb htb inX8 tyX8 tyX8_ok nmX8 hown hK hP hD hS 0 (mw_0 c q σ25) rfl 20 (by decide) (htb _ tb_1201) (fun _ h9 => h9) rfl (by decide +kernel) rfl rfl (Nat.le_of_ble_eq_true rfl) dX8_step_217 (fun H locs hP hD hS => ?_)
          have hP : va_P D vwCl (mw c q (hsI σ25 20 (σ25.1 15))) H := hP
          obtain ⟨σ26, eσ26⟩ : ∃ z : hsS, z = hsI σ25 20 (σ25.1 15) := ⟨_, rfl⟩
          rw [← eσ26] at hP
          have hD : va_D (wdA 31 q) (mw c q σ26) := mw_D hD0
          have hw := hw σ26 eσ26
          exact W.vret hx hb hr (fun t ht hW => ⟨⟨σ26, rfl, hw, by unfold wdB; rw [ht]; exact hP⟩, hS.F ht⟩) hS.2.2 dX8_step_220
      · have hw := hw.2 c22
        refine lv_aload_n hx hb dX8_step_118 rfl (lv_at hl 1 rfl) ?_
        refine lv_iconst (v := (0 : Int32)) hx hb dX8_step_119 (by decide) ?_
        refine va_put (D := D) (ci := 8) (ty := .int) (C := RX8) (T := TX8) (N := 57) hx hb htb inX8 tyX8 tyX8_ok nmX8 hown hK hP hD hS 0 (mw_0 c q σ21) rfl 18 (by decide) (htb _ tb_1199) (fun _ h9 => h9) rfl (by decide +kernel) rfl rfl (Nat.le_of_ble_eq_true rfl) dX8_step_120 (fun H locs hP hD hS => ?_)
        have hP : va_P D vwCl (mw c q (hsI σ21 18 (0 : Int32))) H := hP
        obtain ⟨σ29, eσ29⟩ : ∃ z : hsS, z = hsI σ21 18 (0 : Int32) := ⟨_, rfl⟩
        rw [← eσ29] at hP
        have hD : va_D (wdA 31 q) (mw c q σ29) := mw_D hD0
        have hw := hw σ29 eσ29
        obtain ⟨n39, hw⟩ := hw
        refine L123 _ r12 n39  σ29 _ _ _ hw ?_ hP hS (lv_sub hl [1, 0] rfl)
        intro σ40 H locs ls hw hP hS hl
        have hD : va_D (wdA 31 q) (mw c q σ40) := mw_D hD0
        refine lv_aload_n hx hb dX8_step_179 rfl (lv_at hl 0 rfl) ?_
        refine lv_iconst (v := (2 : Int32)) hx hb dX8_step_180 (by decide) ?_
        refine va_put (D := D) (ci := 8) (ty := .int) (C := RX8) (T := TX8) (N := 57) hx hb htb inX8 tyX8 tyX8_ok nmX8 hown hK hP hD hS 0 (mw_0 c q σ40) rfl 17 (by decide) (htb _ tb_1198) (fun _ h9 => h9) rfl (by decide +kernel) rfl rfl (Nat.le_of_ble_eq_true rfl) dX8_step_181 (fun H locs hP hD hS => ?_)
        have hP : va_P D vwCl (mw c q (hsI σ40 17 (2 : Int32))) H := hP
        obtain ⟨σ41, eσ41⟩ : ∃ z : hsS, z = hsI σ40 17 (2 : Int32) := ⟨_, rfl⟩
        rw [← eσ41] at hP
        have hD : va_D (wdA 31 q) (mw c q σ41) := mw_D hD0
        have hw := hw σ41 eσ41
        refine lv_goto (tgt := 212) hx hb dX8_step_184 (by decide) ?_
        refine lv_aload_n hx hb dX8_step_212 rfl (lv_at hl 0 rfl) ?_
        refine lv_aload_n hx hb dX8_step_213 rfl (lv_at hl 0 rfl) ?_
        refine va_get (D := D) (ci := 8) (C := RX8) (T := TX8) (N := 57) hx hb htb inX8 hown hK hP 0 (mw_0 c q σ41) rfl 15 (by decide) (htb _ tb_1196) (fun _ h9 => h9) rfl dX8_step_214 ?_
        refine va_put (D := D) (ci := 8) (ty := .int) (C := RX8) (T := TX8) (N := 57) hx hb htb inX8 tyX8 tyX8_ok nmX8 hown hK hP hD hS 0 (mw_0 c q σ41) rfl 20 (by decide) (htb _ tb_1201) (fun _ h9 => h9) rfl (by decide +kernel) rfl rfl (Nat.le_of_ble_eq_true rfl) dX8_step_217 (fun H locs hP hD hS => ?_)
        have hP : va_P D vwCl (mw c q (hsI σ41 20 (σ41.1 15))) H := hP
        obtain ⟨σ42, eσ42⟩ : ∃ z : hsS, z = hsI σ41 20 (σ41.1 15) := ⟨_, rfl⟩
        rw [← eσ42] at hP
        have hD : va_D (wdA 31 q) (mw c q σ42) := mw_D hD0
        have hw := hw σ42 eσ42
        exact W.vret hx hb hr (fun t ht hW => ⟨⟨σ42, rfl, hw, by unfold wdB; rw [ht]; exact hP⟩, hS.F ht⟩) hS.2.2 dX8_step_220
    · have hw := hw.2 c19
      obtain ⟨n49, hw⟩ := hw
      refine L76 _ r12 n49  σ18 _ _ _ hw ?_ hP hS (lv_sub hl [1, 0] rfl)
      intro σ50 H locs ls hw hP hS hl
      have hD : va_D (wdA 31 q) (mw c q σ50) := mw_D hD0
      refine lv_aload_n hx hb dX8_step_103 rfl (lv_at hl 0 rfl) ?_
      refine lv_iconst (v := (1 : Int32)) hx hb dX8_step_104 (by decide) ?_
      refine va_put (D := D) (ci := 8) (ty := .int) (C := RX8) (T := TX8) (N := 57) hx hb htb inX8 tyX8 tyX8_ok nmX8 hown hK hP hD hS 0 (mw_0 c q σ50) rfl 17 (by decide) (htb _ tb_1198) (fun _ h9 => h9) rfl (by decide +kernel) rfl rfl (Nat.le_of_ble_eq_true rfl) dX8_step_105 (fun H locs hP hD hS => ?_)
      have hP : va_P D vwCl (mw c q (hsI σ50 17 (1 : Int32))) H := hP
      obtain ⟨σ51, eσ51⟩ : ∃ z : hsS, z = hsI σ50 17 (1 : Int32) := ⟨_, rfl⟩
      rw [← eσ51] at hP
      have hD : va_D (wdA 31 q) (mw c q σ51) := mw_D hD0
      have hw := hw σ51 eσ51
      refine lv_goto (tgt := 212) hx hb dX8_step_108 (by decide) ?_
      refine lv_aload_n hx hb dX8_step_212 rfl (lv_at hl 0 rfl) ?_
      refine lv_aload_n hx hb dX8_step_213 rfl (lv_at hl 0 rfl) ?_
      refine va_get (D := D) (ci := 8) (C := RX8) (T := TX8) (N := 57) hx hb htb inX8 hown hK hP 0 (mw_0 c q σ51) rfl 15 (by decide) (htb _ tb_1196) (fun _ h9 => h9) rfl dX8_step_214 ?_
      refine va_put (D := D) (ci := 8) (ty := .int) (C := RX8) (T := TX8) (N := 57) hx hb htb inX8 tyX8 tyX8_ok nmX8 hown hK hP hD hS 0 (mw_0 c q σ51) rfl 20 (by decide) (htb _ tb_1201) (fun _ h9 => h9) rfl (by decide +kernel) rfl rfl (Nat.le_of_ble_eq_true rfl) dX8_step_217 (fun H locs hP hD hS => ?_)
      have hP : va_P D vwCl (mw c q (hsI σ51 20 (σ51.1 15))) H := hP
      obtain ⟨σ52, eσ52⟩ : ∃ z : hsS, z = hsI σ51 20 (σ51.1 15) := ⟨_, rfl⟩
      rw [← eσ52] at hP
      have hD : va_D (wdA 31 q) (mw c q σ52) := mw_D hD0
      have hw := hw σ52 eσ52
      exact W.vret hx hb hr (fun t ht hW => ⟨⟨σ52, rfl, hw, by unfold wdB; rw [ht]; exact hP⟩, hS.F ht⟩) hS.2.2 dX8_step_220
  · have hw := hw.1 c14
    refine lv_aload_n hx hb dX8_step_61 rfl (lv_at hl 1 rfl) ?_
    refine lv_iconst (v := (0 : Int32)) hx hb dX8_step_62 (by decide) ?_
    refine va_put (D := D) (ci := 8) (ty := .int) (C := RX8) (T := TX8) (N := 57) hx hb htb inX8 tyX8 tyX8_ok nmX8 hown hK hP hD hS 0 (mw_0 c q σ13) rfl 17 (by decide) (htb _ tb_1198) (fun _ h9 => h9) rfl (by decide +kernel) rfl rfl (Nat.le_of_ble_eq_true rfl) dX8_step_63 (fun H locs hP hD hS => ?_)
    have hP : va_P D vwCl (mw c q (hsI σ13 17 (0 : Int32))) H := hP
    obtain ⟨σ15, eσ15⟩ : ∃ z : hsS, z = hsI σ13 17 (0 : Int32) := ⟨_, rfl⟩
    rw [← eσ15] at hP
    have hD : va_D (wdA 31 q) (mw c q σ15) := mw_D hD0
    have hw := hw σ15 eσ15
    refine lv_goto (tgt := 212) hx hb dX8_step_66 (by decide) ?_
    refine lv_aload_n hx hb dX8_step_212 rfl (lv_at hl 1 rfl) ?_
    refine lv_aload_n hx hb dX8_step_213 rfl (lv_at hl 1 rfl) ?_
    refine va_get (D := D) (ci := 8) (C := RX8) (T := TX8) (N := 57) hx hb htb inX8 hown hK hP 0 (mw_0 c q σ15) rfl 15 (by decide) (htb _ tb_1196) (fun _ h9 => h9) rfl dX8_step_214 ?_
    refine va_put (D := D) (ci := 8) (ty := .int) (C := RX8) (T := TX8) (N := 57) hx hb htb inX8 tyX8 tyX8_ok nmX8 hown hK hP hD hS 0 (mw_0 c q σ15) rfl 20 (by decide) (htb _ tb_1201) (fun _ h9 => h9) rfl (by decide +kernel) rfl rfl (Nat.le_of_ble_eq_true rfl) dX8_step_217 (fun H locs hP hD hS => ?_)
    have hP : va_P D vwCl (mw c q (hsI σ15 20 (σ15.1 15))) H := hP
    obtain ⟨σ16, eσ16⟩ : ∃ z : hsS, z = hsI σ15 20 (σ15.1 15) := ⟨_, rfl⟩
    rw [← eσ16] at hP
    have hD : va_D (wdA 31 q) (mw c q σ16) := mw_D hD0
    have hw := hw σ16 eσ16
    exact W.vret hx hb hr (fun t ht hW => ⟨⟨σ16, rfl, hw, by unfold wdB; rw [ht]; exact hP⟩, hS.F ht⟩) hS.2.2 dX8_step_220
def wX8_wrong (x1 : Int32) (post : hsS → Prop) (σ : hsS) : Prop := (((σ.1 21) = (0 : Int32) → ∀ σ2 : hsS, σ2 = hsI σ 21 x1 → ∀ σ3 : hsS, σ3 = hsI σ2 22 (σ2.1 19) → post σ3) ∧ (¬ (σ.1 21) = (0 : Int32) → post σ))
set_option maxHeartbeats 4000000 in
set_option maxRecDepth 100000 in
theorem kcX8_wrong (l : Launch) (D : va_G) (c : Nat → ClassId) (q : Nat → Nat) (ev : State → Heap → Prop) (hev : evOK (wdA 31 q) ev) (σ : hsS) (x1 : Int32) (post : hsS → Prop) (hw : wX8_wrong x1 post σ) : Met l yX8_wrong (Cond.code yX8_wrong cX8_wrong 2 none :: tb_L) { frames := 0, cells := 0, slots := 0, locals := 0 } (wdPc D (mw c q) (mwT c) (wdA 31 q) ev σ [.ref (q 0), .int x1]) (va_Qv post (wdB D (mw c q)) (wdA 31 q)) 0 0 (wdA 31 q) := by
  refine Met.ofW (cc := cX8_wrong) (maxL := 2) (ret := none) (by decide) rfl ?_
  intro p e s m args below meth c₀ s₁ Bd hml hv
  obtain ⟨rfl, hP, hK, hD0, hE⟩ := hv
  have hx := Bd.exec
  have hb := Bd.bytes
  have hr := Bd.returns
  have hts := atoms_spec (ws := Cond.code yX8_wrong cX8_wrong 2 none :: tb_L) Bd.pre
  have htb : ∀ w ∈ tb_L, w.before [.ref (q 0), .int x1].toArray s = true := fun w h => hts w (List.mem_cons_of_mem _ h)
  have hown : s.vm.findClass RX8 = some m.cls := findClass_of_methodNamed Bd.named
  have hlocks := Bd.notSynchronized
  have hS : va_S (wdA 31 q) s.heap s.heap [] := va_S.rf
  have hD := hD0
  have hl := lv_entry ([.ref (q 0), .int x1]) (n := 2) (Nat.le_of_ble_eq_true rfl)
  rw [lg_entry_eq]
  generalize (lg_sl ([.ref (q 0), .int x1]) ++ List.replicate (2 - (lg_sl ([.ref (q 0), .int x1])).length) Slot.unset).toArray = ls at hl ⊢
  have hl : lv_has ls 2 [(0, .ref (q 0)), (1, .int x1)] := hl
  unfold wX8_wrong at hw
  refine lv_aload_n hx hb dX8_wrong_0 rfl (lv_at hl 0 rfl) ?_
  refine va_get (D := D) (ci := 8) (C := RX8) (T := TX8) (N := 57) hx hb htb inX8 hown hK hP 0 (mw_0 c q σ) rfl 21 (by decide) (htb _ tb_1202) (fun _ h9 => h9) rfl dX8_wrong_1 ?_
  refine lv_if_eq (tgt := 8) hx hb dX8_wrong_4 (by decide) (fun c1 => ?_) (fun c1 => ?_)
  · have hw := hw.1 c1
    refine lv_aload_n hx hb dX8_wrong_8 rfl (lv_at hl 0 rfl) ?_
    refine lv_iload_n hx hb dX8_wrong_9 rfl (lv_at hl 1 rfl) ?_
    refine va_put (D := D) (ci := 8) (ty := .int) (C := RX8) (T := TX8) (N := 57) hx hb htb inX8 tyX8 tyX8_ok nmX8 hown hK hP hD hS 0 (mw_0 c q σ) rfl 21 (by decide) (htb _ tb_1202) (fun _ h9 => h9) rfl (by decide +kernel) rfl rfl (Nat.le_of_ble_eq_true rfl) dX8_wrong_10 (fun H locs hP hD hS => ?_)
    have hP : va_P D vwCl (mw c q (hsI σ 21 x1)) H := hP
    obtain ⟨σ2, eσ2⟩ : ∃ z : hsS, z = hsI σ 21 x1 := ⟨_, rfl⟩
    rw [← eσ2] at hP
    have hD : va_D (wdA 31 q) (mw c q σ2) := mw_D hD0
    have hw := hw σ2 eσ2
    refine lv_aload_n hx hb dX8_wrong_13 rfl (lv_at hl 0 rfl) ?_
    refine lv_aload_n hx hb dX8_wrong_14 rfl (lv_at hl 0 rfl) ?_
    refine va_get (D := D) (ci := 8) (C := RX8) (T := TX8) (N := 57) hx hb htb inX8 hown hK hP 0 (mw_0 c q σ2) rfl 19 (by decide) (htb _ tb_1200) (fun _ h9 => h9) rfl dX8_wrong_15 ?_
    refine va_put (D := D) (ci := 8) (ty := .int) (C := RX8) (T := TX8) (N := 57) hx hb htb inX8 tyX8 tyX8_ok nmX8 hown hK hP hD hS 0 (mw_0 c q σ2) rfl 22 (by decide) (htb _ tb_1203) (fun _ h9 => h9) rfl (by decide +kernel) rfl rfl (Nat.le_of_ble_eq_true rfl) dX8_wrong_18 (fun H locs hP hD hS => ?_)
    have hP : va_P D vwCl (mw c q (hsI σ2 22 (σ2.1 19))) H := hP
    obtain ⟨σ3, eσ3⟩ : ∃ z : hsS, z = hsI σ2 22 (σ2.1 19) := ⟨_, rfl⟩
    rw [← eσ3] at hP
    have hD : va_D (wdA 31 q) (mw c q σ3) := mw_D hD0
    have hw := hw σ3 eσ3
    exact W.vret hx hb hr (fun t ht hW => ⟨⟨σ3, rfl, hw, by unfold wdB; rw [ht]; exact hP⟩, hS.F ht⟩) hS.2.2 dX8_wrong_21
  · have hw := hw.2 c1
    exact W.vret hx hb hr (fun t ht hW => ⟨⟨σ, rfl, hw, by unfold wdB; rw [ht]; exact hP⟩, hS.F ht⟩) hS.2.2 dX8_wrong_7
def wX8_isNumber  (post : Int32 → hsS → Prop) (σ : hsS) : Prop := (((σ.1 21) = (0 : Int32) → (((σ.1 17) = (2 : Int32) → post (1 : Int32) σ) ∧ (¬ (σ.1 17) = (2 : Int32) → post (0 : Int32) σ))) ∧ (¬ (σ.1 21) = (0 : Int32) → post (0 : Int32) σ))
set_option maxHeartbeats 4000000 in
set_option maxRecDepth 100000 in
theorem kcX8_isNumber (l : Launch) (D : va_G) (c : Nat → ClassId) (q : Nat → Nat) (ev : State → Heap → Prop) (hev : evOK (wdA 31 q) ev) (σ : hsS)  (post : Int32 → hsS → Prop) (hw : wX8_isNumber  post σ) : Met l yX8_isNumber (Cond.code yX8_isNumber cX8_isNumber 1 (some .boolean) :: tb_L) { frames := 0, cells := 0, slots := 0, locals := 0 } (wdPc D (mw c q) (mwT c) (wdA 31 q) ev σ [.ref (q 0)]) (va_Qi post (wdB D (mw c q)) (wdA 31 q)) 0 0 (wdA 31 q) := by
  refine Met.ofW (cc := cX8_isNumber) (maxL := 1) (ret := (some .boolean)) (by decide) rfl ?_
  intro p e s m args below meth c₀ s₁ Bd hml hv
  obtain ⟨rfl, hP, hK, hD0, hE⟩ := hv
  have hx := Bd.exec
  have hb := Bd.bytes
  have hr := Bd.returns
  have hts := atoms_spec (ws := Cond.code yX8_isNumber cX8_isNumber 1 (some .boolean) :: tb_L) Bd.pre
  have htb : ∀ w ∈ tb_L, w.before [.ref (q 0)].toArray s = true := fun w h => hts w (List.mem_cons_of_mem _ h)
  have hown : s.vm.findClass RX8 = some m.cls := findClass_of_methodNamed Bd.named
  have hlocks := Bd.notSynchronized
  have hS : va_S (wdA 31 q) s.heap s.heap [] := va_S.rf
  have hD := hD0
  have hl := lv_entry ([.ref (q 0)]) (n := 1) (Nat.le_of_ble_eq_true rfl)
  rw [lg_entry_eq]
  generalize (lg_sl ([.ref (q 0)]) ++ List.replicate (1 - (lg_sl ([.ref (q 0)])).length) Slot.unset).toArray = ls at hl ⊢
  have hl : lv_has ls 1 [(0, .ref (q 0))] := hl
  unfold wX8_isNumber at hw
  refine lv_aload_n hx hb dX8_isNumber_0 rfl (lv_at hl 0 rfl) ?_
  refine va_get (D := D) (ci := 8) (C := RX8) (T := TX8) (N := 57) hx hb htb inX8 hown hK hP 0 (mw_0 c q σ) rfl 21 (by decide) (htb _ tb_1202) (fun _ h9 => h9) rfl dX8_isNumber_1 ?_
  refine lv_if_ne (tgt := 19) hx hb dX8_isNumber_4 (by decide) (fun c1 => ?_) (fun c1 => ?_)
  · have hw := hw.2 c1
    refine lv_iconst (v := (0 : Int32)) hx hb dX8_isNumber_19 (by decide) ?_
    exact W.zret hx hb hr rfl (fun t ht hW => ⟨⟨_, σ, rfl, hw, by unfold wdB; rw [ht]; exact hP⟩, hS.F ht⟩) hS.2.2 dX8_isNumber_20
  · have hw := hw.1 c1
    refine lv_aload_n hx hb dX8_isNumber_7 rfl (lv_at hl 0 rfl) ?_
    refine va_get (D := D) (ci := 8) (C := RX8) (T := TX8) (N := 57) hx hb htb inX8 hown hK hP 0 (mw_0 c q σ) rfl 17 (by decide) (htb _ tb_1198) (fun _ h9 => h9) rfl dX8_isNumber_8 ?_
    refine lv_iconst (v := (2 : Int32)) hx hb dX8_isNumber_11 (by decide) ?_
    refine lv_icmp_ne (tgt := 19) hx hb dX8_isNumber_12 (by decide) (fun c2 => ?_) (fun c2 => ?_)
    · have hw := hw.2 c2
      refine lv_iconst (v := (0 : Int32)) hx hb dX8_isNumber_19 (by decide) ?_
      exact W.zret hx hb hr rfl (fun t ht hW => ⟨⟨_, σ, rfl, hw, by unfold wdB; rw [ht]; exact hP⟩, hS.F ht⟩) hS.2.2 dX8_isNumber_20
    · have hw := hw.1 c2
      refine lv_iconst (v := (1 : Int32)) hx hb dX8_isNumber_15 (by decide) ?_
      refine lv_goto (tgt := 20) hx hb dX8_isNumber_16 (by decide) ?_
      exact W.zret hx hb hr rfl (fun t ht hW => ⟨⟨_, σ, rfl, hw, by unfold wdB; rw [ht]; exact hP⟩, hS.F ht⟩) hS.2.2 dX8_isNumber_20
def wX8_readNumber (x1 : Int32) (x2 : Int32) (x3 : Int32) (x4 : Int32) (post : Int32 → hsS → Prop) (σ : hsS) : Prop := (((σ.1 21) = (0 : Int32) → (((σ.1 17) = (2 : Int32) → (((3 : Int32) < ((σ.1 20) - (σ.1 19)) → wX8_wrong (2 : Int32) (fun σ5 => post (σ5.1 18) σ5) σ) ∧ (¬ (3 : Int32) < ((σ.1 20) - (σ.1 19)) → (((σ.1 18) < x1 → wX8_wrong (2 : Int32) (fun σ8 => post (σ8.1 18) σ8) σ) ∧ (¬ (σ.1 18) < x1 → ((x2 < (σ.1 18) → wX8_wrong (2 : Int32) (fun σ11 => post (σ11.1 18) σ11) σ) ∧ (¬ x2 < (σ.1 18) → ((x4 = (0 : Int32) → (((σ.1 18) < x3 → post (σ.1 18) σ) ∧ (¬ (σ.1 18) < x3 → wX8_wrong (3 : Int32) (fun σ15 => post (σ15.1 18) σ15) σ))) ∧ (¬ x4 = (0 : Int32) → wX8_wrong (2 : Int32) (fun σ17 => post (σ17.1 18) σ17) σ))))))))) ∧ (¬ (σ.1 17) = (2 : Int32) → wX8_wrong (1 : Int32) (fun σ19 => post (σ19.1 18) σ19) σ))) ∧ (¬ (σ.1 21) = (0 : Int32) → post (0 : Int32) σ))
set_option maxHeartbeats 4000000 in
set_option maxRecDepth 100000 in
theorem kcX8_readNumber (l : Launch) (D : va_G) (c : Nat → ClassId) (q : Nat → Nat) (ev : State → Heap → Prop) (hev : evOK (wdA 31 q) ev) (σ : hsS) (x1 : Int32) (x2 : Int32) (x3 : Int32) (x4 : Int32) (post : Int32 → hsS → Prop) (hw : wX8_readNumber x1 x2 x3 x4 post σ) : Met l yX8_readNumber (Cond.code yX8_readNumber cX8_readNumber 5 (some .int) :: tb_L) { frames := 1, cells := 0, slots := 0, locals := 21 } (wdPc D (mw c q) (mwT c) (wdA 31 q) ev σ [.ref (q 0), .int x1, .int x2, .int x3, .int x4]) (va_Qi post (wdB D (mw c q)) (wdA 31 q)) 0 0 (wdA 31 q) := by
  refine Met.ofW (cc := cX8_readNumber) (maxL := 5) (ret := (some .int)) (by decide) rfl ?_
  intro p e s m args below meth c₀ s₁ Bd hml hv
  obtain ⟨rfl, hP, hK, hD0, hE⟩ := hv
  have hx := Bd.exec
  have hb := Bd.bytes
  have hr := Bd.returns
  have hts := atoms_spec (ws := Cond.code yX8_readNumber cX8_readNumber 5 (some .int) :: tb_L) Bd.pre
  have htb : ∀ w ∈ tb_L, w.before [.ref (q 0), .int x1, .int x2, .int x3, .int x4].toArray s = true := fun w h => hts w (List.mem_cons_of_mem _ h)
  have hown : s.vm.findClass RX8 = some m.cls := findClass_of_methodNamed Bd.named
  have hlocks := Bd.notSynchronized
  have hS : va_S (wdA 31 q) s.heap s.heap [] := va_S.rf
  have hD := hD0
  have hl := lv_entry ([.ref (q 0), .int x1, .int x2, .int x3, .int x4]) (n := 5) (Nat.le_of_ble_eq_true rfl)
  rw [lg_entry_eq]
  generalize (lg_sl ([.ref (q 0), .int x1, .int x2, .int x3, .int x4]) ++ List.replicate (5 - (lg_sl ([.ref (q 0), .int x1, .int x2, .int x3, .int x4])).length) Slot.unset).toArray = ls at hl ⊢
  have hl : lv_has ls 5 [(0, .ref (q 0)), (1, .int x1), (2, .int x2), (3, .int x3), (4, .int x4)] := hl
  unfold wX8_readNumber at hw
  refine lv_aload_n hx hb dX8_readNumber_0 rfl (lv_at hl 0 rfl) ?_
  refine va_get (D := D) (ci := 8) (C := RX8) (T := TX8) (N := 57) hx hb htb inX8 hown hK hP 0 (mw_0 c q σ) rfl 21 (by decide) (htb _ tb_1202) (fun _ h9 => h9) rfl dX8_readNumber_1 ?_
  refine lv_if_eq (tgt := 9) hx hb dX8_readNumber_4 (by decide) (fun c1 => ?_) (fun c1 => ?_)
  · have hw := hw.1 c1
    refine lv_aload_n hx hb dX8_readNumber_9 rfl (lv_at hl 0 rfl) ?_
    refine va_get (D := D) (ci := 8) (C := RX8) (T := TX8) (N := 57) hx hb htb inX8 hown hK hP 0 (mw_0 c q σ) rfl 17 (by decide) (htb _ tb_1198) (fun _ h9 => h9) rfl dX8_readNumber_10 ?_
    refine lv_iconst (v := (2 : Int32)) hx hb dX8_readNumber_13 (by decide) ?_
    refine lv_icmp_eq (tgt := 25) hx hb dX8_readNumber_14 (by decide) (fun c2 => ?_) (fun c2 => ?_)
    · have hw := hw.1 c2
      refine lv_aload_n hx hb dX8_readNumber_25 rfl (lv_at hl 0 rfl) ?_
      refine va_get (D := D) (ci := 8) (C := RX8) (T := TX8) (N := 57) hx hb htb inX8 hown hK hP 0 (mw_0 c q σ) rfl 20 (by decide) (htb _ tb_1201) (fun _ h9 => h9) rfl dX8_readNumber_26 ?_
      refine lv_aload_n hx hb dX8_readNumber_29 rfl (lv_at hl 0 rfl) ?_
      refine va_get (D := D) (ci := 8) (C := RX8) (T := TX8) (N := 57) hx hb htb inX8 hown hK hP 0 (mw_0 c q σ) rfl 19 (by decide) (htb _ tb_1200) (fun _ h9 => h9) rfl dX8_readNumber_30 ?_
      refine lv_isub hx hb dX8_readNumber_33 ?_
      refine lv_iconst (v := (3 : Int32)) hx hb dX8_readNumber_34 (by decide) ?_
      refine lv_icmp_gt (tgt := 59) hx hb dX8_readNumber_35 (by decide) (fun c3 => ?_) (fun c3 => ?_)
      · have hw := hw.1 c3
        refine lv_aload_n hx hb dX8_readNumber_59 rfl (lv_at hl 0 rfl) ?_
        refine lv_iconst (v := (2 : Int32)) hx hb dX8_readNumber_60 (by decide) ?_
        refine va_callv (va_runV (As := [.int (2 : Int32)]) (rest := []) ⟨hx, hb, hml, hown, htb⟩ (kcX8_wrong l D c q ev hev σ (2 : Int32) _ hw) (tb_CW htb kX8_wrong tb_1396 tb_1398 tb_47 ⟨Nat.le_of_ble_eq_true rfl, Nat.le_of_ble_eq_true rfl⟩) (wd_preV (wd := mw c q) (k := 0) hev hK hP hD hE hS (mw_0 c q σ) rfl) rfl rfl hl.1 rfl (lv_room (Nat.le_of_ble_eq_true rfl)) dX8_readNumber_61 ⟨Nat.zero_le _, Nat.zero_le _⟩) hS (fun q _ h => h) (fun q h => h) (fun σ5 t H1 locs1 ht hvm hw hB hz1 hk1 hS => ?_)
        have hP : va_P D vwCl (mw c q σ5) H1 := ht ▸ hB
        have hD : va_D (wdA 31 q) (mw c q σ5) := mw_D hD0
        refine lv_goto (tgt := 80) hx hb dX8_readNumber_64 (by decide) ?_
        refine lv_aload_n hx hb dX8_readNumber_80 rfl (lv_at hl 0 rfl) ?_
        refine va_get (D := D) (ci := 8) (C := RX8) (T := TX8) (N := 57) hx hb htb inX8 hown hK hP 0 (mw_0 c q σ5) rfl 18 (by decide) (htb _ tb_1199) (fun _ h9 => h9) rfl dX8_readNumber_81 ?_
        exact W.iret hx hb hr (fun t ht hW => ⟨⟨_, σ5, rfl, hw, by unfold wdB; rw [ht]; exact hP⟩, hS.F ht⟩) hS.2.2 dX8_readNumber_84
      · have hw := hw.2 c3
        refine lv_aload_n hx hb dX8_readNumber_38 rfl (lv_at hl 0 rfl) ?_
        refine va_get (D := D) (ci := 8) (C := RX8) (T := TX8) (N := 57) hx hb htb inX8 hown hK hP 0 (mw_0 c q σ) rfl 18 (by decide) (htb _ tb_1199) (fun _ h9 => h9) rfl dX8_readNumber_39 ?_
        refine lv_iload_n hx hb dX8_readNumber_42 rfl (lv_at hl 1 rfl) ?_
        refine lv_icmp_lt (tgt := 59) hx hb dX8_readNumber_43 (by decide) (fun c6 => ?_) (fun c6 => ?_)
        · have hw := hw.1 c6
          refine lv_aload_n hx hb dX8_readNumber_59 rfl (lv_at hl 0 rfl) ?_
          refine lv_iconst (v := (2 : Int32)) hx hb dX8_readNumber_60 (by decide) ?_
          refine va_callv (va_runV (As := [.int (2 : Int32)]) (rest := []) ⟨hx, hb, hml, hown, htb⟩ (kcX8_wrong l D c q ev hev σ (2 : Int32) _ hw) (tb_CW htb kX8_wrong tb_1396 tb_1398 tb_47 ⟨Nat.le_of_ble_eq_true rfl, Nat.le_of_ble_eq_true rfl⟩) (wd_preV (wd := mw c q) (k := 0) hev hK hP hD hE hS (mw_0 c q σ) rfl) rfl rfl hl.1 rfl (lv_room (Nat.le_of_ble_eq_true rfl)) dX8_readNumber_61 ⟨Nat.zero_le _, Nat.zero_le _⟩) hS (fun q _ h => h) (fun q h => h) (fun σ8 t H1 locs1 ht hvm hw hB hz1 hk1 hS => ?_)
          have hP : va_P D vwCl (mw c q σ8) H1 := ht ▸ hB
          have hD : va_D (wdA 31 q) (mw c q σ8) := mw_D hD0
          refine lv_goto (tgt := 80) hx hb dX8_readNumber_64 (by decide) ?_
          refine lv_aload_n hx hb dX8_readNumber_80 rfl (lv_at hl 0 rfl) ?_
          refine va_get (D := D) (ci := 8) (C := RX8) (T := TX8) (N := 57) hx hb htb inX8 hown hK hP 0 (mw_0 c q σ8) rfl 18 (by decide) (htb _ tb_1199) (fun _ h9 => h9) rfl dX8_readNumber_81 ?_
          exact W.iret hx hb hr (fun t ht hW => ⟨⟨_, σ8, rfl, hw, by unfold wdB; rw [ht]; exact hP⟩, hS.F ht⟩) hS.2.2 dX8_readNumber_84
        · have hw := hw.2 c6
          refine lv_aload_n hx hb dX8_readNumber_46 rfl (lv_at hl 0 rfl) ?_
          refine va_get (D := D) (ci := 8) (C := RX8) (T := TX8) (N := 57) hx hb htb inX8 hown hK hP 0 (mw_0 c q σ) rfl 18 (by decide) (htb _ tb_1199) (fun _ h9 => h9) rfl dX8_readNumber_47 ?_
          refine lv_iload_n hx hb dX8_readNumber_50 rfl (lv_at hl 2 rfl) ?_
          refine lv_icmp_gt (tgt := 59) hx hb dX8_readNumber_51 (by decide) (fun c9 => ?_) (fun c9 => ?_)
          · have hw := hw.1 c9
            refine lv_aload_n hx hb dX8_readNumber_59 rfl (lv_at hl 0 rfl) ?_
            refine lv_iconst (v := (2 : Int32)) hx hb dX8_readNumber_60 (by decide) ?_
            refine va_callv (va_runV (As := [.int (2 : Int32)]) (rest := []) ⟨hx, hb, hml, hown, htb⟩ (kcX8_wrong l D c q ev hev σ (2 : Int32) _ hw) (tb_CW htb kX8_wrong tb_1396 tb_1398 tb_47 ⟨Nat.le_of_ble_eq_true rfl, Nat.le_of_ble_eq_true rfl⟩) (wd_preV (wd := mw c q) (k := 0) hev hK hP hD hE hS (mw_0 c q σ) rfl) rfl rfl hl.1 rfl (lv_room (Nat.le_of_ble_eq_true rfl)) dX8_readNumber_61 ⟨Nat.zero_le _, Nat.zero_le _⟩) hS (fun q _ h => h) (fun q h => h) (fun σ11 t H1 locs1 ht hvm hw hB hz1 hk1 hS => ?_)
            have hP : va_P D vwCl (mw c q σ11) H1 := ht ▸ hB
            have hD : va_D (wdA 31 q) (mw c q σ11) := mw_D hD0
            refine lv_goto (tgt := 80) hx hb dX8_readNumber_64 (by decide) ?_
            refine lv_aload_n hx hb dX8_readNumber_80 rfl (lv_at hl 0 rfl) ?_
            refine va_get (D := D) (ci := 8) (C := RX8) (T := TX8) (N := 57) hx hb htb inX8 hown hK hP 0 (mw_0 c q σ11) rfl 18 (by decide) (htb _ tb_1199) (fun _ h9 => h9) rfl dX8_readNumber_81 ?_
            exact W.iret hx hb hr (fun t ht hW => ⟨⟨_, σ11, rfl, hw, by unfold wdB; rw [ht]; exact hP⟩, hS.F ht⟩) hS.2.2 dX8_readNumber_84
          · have hw := hw.2 c9
            refine lv_iload hx hb dX8_readNumber_54 (lv_at hl 4 rfl) ?_
            refine lv_if_eq (tgt := 67) hx hb dX8_readNumber_56 (by decide) (fun c12 => ?_) (fun c12 => ?_)
            · have hw := hw.1 c12
              refine lv_aload_n hx hb dX8_readNumber_67 rfl (lv_at hl 0 rfl) ?_
              refine va_get (D := D) (ci := 8) (C := RX8) (T := TX8) (N := 57) hx hb htb inX8 hown hK hP 0 (mw_0 c q σ) rfl 18 (by decide) (htb _ tb_1199) (fun _ h9 => h9) rfl dX8_readNumber_68 ?_
              refine lv_iload_n hx hb dX8_readNumber_71 rfl (lv_at hl 3 rfl) ?_
              refine lv_icmp_lt (tgt := 80) hx hb dX8_readNumber_72 (by decide) (fun c13 => ?_) (fun c13 => ?_)
              · have hw := hw.1 c13
                refine lv_aload_n hx hb dX8_readNumber_80 rfl (lv_at hl 0 rfl) ?_
                refine va_get (D := D) (ci := 8) (C := RX8) (T := TX8) (N := 57) hx hb htb inX8 hown hK hP 0 (mw_0 c q σ) rfl 18 (by decide) (htb _ tb_1199) (fun _ h9 => h9) rfl dX8_readNumber_81 ?_
                exact W.iret hx hb hr (fun t ht hW => ⟨⟨_, σ, rfl, hw, by unfold wdB; rw [ht]; exact hP⟩, hS.F ht⟩) hS.2.2 dX8_readNumber_84
              · have hw := hw.2 c13
                refine lv_aload_n hx hb dX8_readNumber_75 rfl (lv_at hl 0 rfl) ?_
                refine lv_iconst (v := (3 : Int32)) hx hb dX8_readNumber_76 (by decide) ?_
                refine va_callv (va_runV (As := [.int (3 : Int32)]) (rest := []) ⟨hx, hb, hml, hown, htb⟩ (kcX8_wrong l D c q ev hev σ (3 : Int32) _ hw) (tb_CW htb kX8_wrong tb_1396 tb_1398 tb_47 ⟨Nat.le_of_ble_eq_true rfl, Nat.le_of_ble_eq_true rfl⟩) (wd_preV (wd := mw c q) (k := 0) hev hK hP hD hE hS (mw_0 c q σ) rfl) rfl rfl hl.1 rfl (lv_room (Nat.le_of_ble_eq_true rfl)) dX8_readNumber_77 ⟨Nat.zero_le _, Nat.zero_le _⟩) hS (fun q _ h => h) (fun q h => h) (fun σ15 t H1 locs1 ht hvm hw hB hz1 hk1 hS => ?_)
                have hP : va_P D vwCl (mw c q σ15) H1 := ht ▸ hB
                have hD : va_D (wdA 31 q) (mw c q σ15) := mw_D hD0
                refine lv_aload_n hx hb dX8_readNumber_80 rfl (lv_at hl 0 rfl) ?_
                refine va_get (D := D) (ci := 8) (C := RX8) (T := TX8) (N := 57) hx hb htb inX8 hown hK hP 0 (mw_0 c q σ15) rfl 18 (by decide) (htb _ tb_1199) (fun _ h9 => h9) rfl dX8_readNumber_81 ?_
                exact W.iret hx hb hr (fun t ht hW => ⟨⟨_, σ15, rfl, hw, by unfold wdB; rw [ht]; exact hP⟩, hS.F ht⟩) hS.2.2 dX8_readNumber_84
            · have hw := hw.2 c12
              refine lv_aload_n hx hb dX8_readNumber_59 rfl (lv_at hl 0 rfl) ?_
              refine lv_iconst (v := (2 : Int32)) hx hb dX8_readNumber_60 (by decide) ?_
              refine va_callv (va_runV (As := [.int (2 : Int32)]) (rest := []) ⟨hx, hb, hml, hown, htb⟩ (kcX8_wrong l D c q ev hev σ (2 : Int32) _ hw) (tb_CW htb kX8_wrong tb_1396 tb_1398 tb_47 ⟨Nat.le_of_ble_eq_true rfl, Nat.le_of_ble_eq_true rfl⟩) (wd_preV (wd := mw c q) (k := 0) hev hK hP hD hE hS (mw_0 c q σ) rfl) rfl rfl hl.1 rfl (lv_room (Nat.le_of_ble_eq_true rfl)) dX8_readNumber_61 ⟨Nat.zero_le _, Nat.zero_le _⟩) hS (fun q _ h => h) (fun q h => h) (fun σ17 t H1 locs1 ht hvm hw hB hz1 hk1 hS => ?_)
              have hP : va_P D vwCl (mw c q σ17) H1 := ht ▸ hB
              have hD : va_D (wdA 31 q) (mw c q σ17) := mw_D hD0
              refine lv_goto (tgt := 80) hx hb dX8_readNumber_64 (by decide) ?_
              refine lv_aload_n hx hb dX8_readNumber_80 rfl (lv_at hl 0 rfl) ?_
              refine va_get (D := D) (ci := 8) (C := RX8) (T := TX8) (N := 57) hx hb htb inX8 hown hK hP 0 (mw_0 c q σ17) rfl 18 (by decide) (htb _ tb_1199) (fun _ h9 => h9) rfl dX8_readNumber_81 ?_
              exact W.iret hx hb hr (fun t ht hW => ⟨⟨_, σ17, rfl, hw, by unfold wdB; rw [ht]; exact hP⟩, hS.F ht⟩) hS.2.2 dX8_readNumber_84
    · have hw := hw.2 c2
      refine lv_aload_n hx hb dX8_readNumber_17 rfl (lv_at hl 0 rfl) ?_
      refine lv_iconst (v := (1 : Int32)) hx hb dX8_readNumber_18 (by decide) ?_
      refine va_callv (va_runV (As := [.int (1 : Int32)]) (rest := []) ⟨hx, hb, hml, hown, htb⟩ (kcX8_wrong l D c q ev hev σ (1 : Int32) _ hw) (tb_CW htb kX8_wrong tb_1396 tb_1398 tb_47 ⟨Nat.le_of_ble_eq_true rfl, Nat.le_of_ble_eq_true rfl⟩) (wd_preV (wd := mw c q) (k := 0) hev hK hP hD hE hS (mw_0 c q σ) rfl) rfl rfl hl.1 rfl (lv_room (Nat.le_of_ble_eq_true rfl)) dX8_readNumber_19 ⟨Nat.zero_le _, Nat.zero_le _⟩) hS (fun q _ h => h) (fun q h => h) (fun σ19 t H1 locs1 ht hvm hw hB hz1 hk1 hS => ?_)
      have hP : va_P D vwCl (mw c q σ19) H1 := ht ▸ hB
      have hD : va_D (wdA 31 q) (mw c q σ19) := mw_D hD0
      refine lv_goto (tgt := 80) hx hb dX8_readNumber_22 (by decide) ?_
      refine lv_aload_n hx hb dX8_readNumber_80 rfl (lv_at hl 0 rfl) ?_
      refine va_get (D := D) (ci := 8) (C := RX8) (T := TX8) (N := 57) hx hb htb inX8 hown hK hP 0 (mw_0 c q σ19) rfl 18 (by decide) (htb _ tb_1199) (fun _ h9 => h9) rfl dX8_readNumber_81 ?_
      exact W.iret hx hb hr (fun t ht hW => ⟨⟨_, σ19, rfl, hw, by unfold wdB; rw [ht]; exact hP⟩, hS.F ht⟩) hS.2.2 dX8_readNumber_84
  · have hw := hw.2 c1
    refine lv_iconst (v := (0 : Int32)) hx hb dX8_readNumber_7 (by decide) ?_
    exact W.iret hx hb hr (fun t ht hW => ⟨⟨_, σ, rfl, hw, by unfold wdB; rw [ht]; exact hP⟩, hS.F ht⟩) hS.2.2 dX8_readNumber_8
def wX8_semi  (post : hsS → Prop) (σ : hsS) : Prop := (((σ.1 21) = (0 : Int32) → (((σ.1 17) = (3 : Int32) → (((σ.1 21) = (0 : Int32) → wX8_step  (fun σ5 => post σ5) σ) ∧ (¬ (σ.1 21) = (0 : Int32) → post σ))) ∧ (¬ (σ.1 17) = (3 : Int32) → wX8_wrong (1 : Int32) (fun σ7 => (((σ7.1 21) = (0 : Int32) → wX8_step  (fun σ10 => post σ10) σ7) ∧ (¬ (σ7.1 21) = (0 : Int32) → post σ7))) σ))) ∧ (¬ (σ.1 21) = (0 : Int32) → (((σ.1 21) = (0 : Int32) → wX8_step  (fun σ13 => post σ13) σ) ∧ (¬ (σ.1 21) = (0 : Int32) → post σ))))
set_option maxHeartbeats 4000000 in
set_option maxRecDepth 100000 in
theorem kcX8_semi (l : Launch) (D : va_G) (c : Nat → ClassId) (q : Nat → Nat) (ev : State → Heap → Prop) (hev : evOK (wdA 31 q) ev) (σ : hsS)  (post : hsS → Prop) (hw : wX8_semi  post σ) : Met l yX8_semi (Cond.code yX8_semi cX8_semi 1 none :: tb_L) { frames := 2, cells := 0, slots := 0, locals := 61 } (wdPc D (mw c q) (mwT c) (wdA 31 q) ev σ [.ref (q 0)]) (va_Qv post (wdB D (mw c q)) (wdA 31 q)) 0 0 (wdA 31 q) := by
  refine Met.ofW (cc := cX8_semi) (maxL := 1) (ret := none) (by decide) rfl ?_
  intro p e s m args below meth c₀ s₁ Bd hml hv
  obtain ⟨rfl, hP, hK, hD0, hE⟩ := hv
  have hx := Bd.exec
  have hb := Bd.bytes
  have hr := Bd.returns
  have hts := atoms_spec (ws := Cond.code yX8_semi cX8_semi 1 none :: tb_L) Bd.pre
  have htb : ∀ w ∈ tb_L, w.before [.ref (q 0)].toArray s = true := fun w h => hts w (List.mem_cons_of_mem _ h)
  have hown : s.vm.findClass RX8 = some m.cls := findClass_of_methodNamed Bd.named
  have hlocks := Bd.notSynchronized
  have hS : va_S (wdA 31 q) s.heap s.heap [] := va_S.rf
  have hD := hD0
  have hl := lv_entry ([.ref (q 0)]) (n := 1) (Nat.le_of_ble_eq_true rfl)
  rw [lg_entry_eq]
  generalize (lg_sl ([.ref (q 0)]) ++ List.replicate (1 - (lg_sl ([.ref (q 0)])).length) Slot.unset).toArray = ls at hl ⊢
  have hl : lv_has ls 1 [(0, .ref (q 0))] := hl
  unfold wX8_semi at hw
  refine lv_aload_n hx hb dX8_semi_0 rfl (lv_at hl 0 rfl) ?_
  refine va_get (D := D) (ci := 8) (C := RX8) (T := TX8) (N := 57) hx hb htb inX8 hown hK hP 0 (mw_0 c q σ) rfl 21 (by decide) (htb _ tb_1202) (fun _ h9 => h9) rfl dX8_semi_1 ?_
  refine lv_if_ne (tgt := 20) hx hb dX8_semi_4 (by decide) (fun c1 => ?_) (fun c1 => ?_)
  · have hw := hw.2 c1
    refine lv_aload_n hx hb dX8_semi_20 rfl (lv_at hl 0 rfl) ?_
    refine va_get (D := D) (ci := 8) (C := RX8) (T := TX8) (N := 57) hx hb htb inX8 hown hK hP 0 (mw_0 c q σ) rfl 21 (by decide) (htb _ tb_1202) (fun _ h9 => h9) rfl dX8_semi_21 ?_
    refine lv_if_ne (tgt := 31) hx hb dX8_semi_24 (by decide) (fun c11 => ?_) (fun c11 => ?_)
    · have hw := hw.2 c11
      exact W.vret hx hb hr (fun t ht hW => ⟨⟨σ, rfl, hw, by unfold wdB; rw [ht]; exact hP⟩, hS.F ht⟩) hS.2.2 dX8_semi_31
    · have hw := hw.1 c11
      refine lv_aload_n hx hb dX8_semi_27 rfl (lv_at hl 0 rfl) ?_
      refine va_callv (va_runV (As := []) (rest := []) ⟨hx, hb, hml, hown, htb⟩ (kcX8_step l D c q ev hev σ  _ hw) (tb_CW htb kX8_step tb_1370 tb_1372 tb_43 ⟨Nat.le_of_ble_eq_true rfl, Nat.le_of_ble_eq_true rfl⟩) (wd_preV (wd := mw c q) (k := 0) hev hK hP hD hE hS (mw_0 c q σ) rfl) rfl rfl hl.1 rfl (lv_room (Nat.le_of_ble_eq_true rfl)) dX8_semi_28 ⟨Nat.zero_le _, Nat.zero_le _⟩) hS (fun q _ h => h) (fun q h => h) (fun σ13 t H1 locs1 ht hvm hw hB hz1 hk1 hS => ?_)
      have hP : va_P D vwCl (mw c q σ13) H1 := ht ▸ hB
      have hD : va_D (wdA 31 q) (mw c q σ13) := mw_D hD0
      exact W.vret hx hb hr (fun t ht hW => ⟨⟨σ13, rfl, hw, by unfold wdB; rw [ht]; exact hP⟩, hS.F ht⟩) hS.2.2 dX8_semi_31
  · have hw := hw.1 c1
    refine lv_aload_n hx hb dX8_semi_7 rfl (lv_at hl 0 rfl) ?_
    refine va_get (D := D) (ci := 8) (C := RX8) (T := TX8) (N := 57) hx hb htb inX8 hown hK hP 0 (mw_0 c q σ) rfl 17 (by decide) (htb _ tb_1198) (fun _ h9 => h9) rfl dX8_semi_8 ?_
    refine lv_iconst (v := (3 : Int32)) hx hb dX8_semi_11 (by decide) ?_
    refine lv_icmp_eq (tgt := 20) hx hb dX8_semi_12 (by decide) (fun c2 => ?_) (fun c2 => ?_)
    · have hw := hw.1 c2
      refine lv_aload_n hx hb dX8_semi_20 rfl (lv_at hl 0 rfl) ?_
      refine va_get (D := D) (ci := 8) (C := RX8) (T := TX8) (N := 57) hx hb htb inX8 hown hK hP 0 (mw_0 c q σ) rfl 21 (by decide) (htb _ tb_1202) (fun _ h9 => h9) rfl dX8_semi_21 ?_
      refine lv_if_ne (tgt := 31) hx hb dX8_semi_24 (by decide) (fun c3 => ?_) (fun c3 => ?_)
      · have hw := hw.2 c3
        exact W.vret hx hb hr (fun t ht hW => ⟨⟨σ, rfl, hw, by unfold wdB; rw [ht]; exact hP⟩, hS.F ht⟩) hS.2.2 dX8_semi_31
      · have hw := hw.1 c3
        refine lv_aload_n hx hb dX8_semi_27 rfl (lv_at hl 0 rfl) ?_
        refine va_callv (va_runV (As := []) (rest := []) ⟨hx, hb, hml, hown, htb⟩ (kcX8_step l D c q ev hev σ  _ hw) (tb_CW htb kX8_step tb_1370 tb_1372 tb_43 ⟨Nat.le_of_ble_eq_true rfl, Nat.le_of_ble_eq_true rfl⟩) (wd_preV (wd := mw c q) (k := 0) hev hK hP hD hE hS (mw_0 c q σ) rfl) rfl rfl hl.1 rfl (lv_room (Nat.le_of_ble_eq_true rfl)) dX8_semi_28 ⟨Nat.zero_le _, Nat.zero_le _⟩) hS (fun q _ h => h) (fun q h => h) (fun σ5 t H1 locs1 ht hvm hw hB hz1 hk1 hS => ?_)
        have hP : va_P D vwCl (mw c q σ5) H1 := ht ▸ hB
        have hD : va_D (wdA 31 q) (mw c q σ5) := mw_D hD0
        exact W.vret hx hb hr (fun t ht hW => ⟨⟨σ5, rfl, hw, by unfold wdB; rw [ht]; exact hP⟩, hS.F ht⟩) hS.2.2 dX8_semi_31
    · have hw := hw.2 c2
      refine lv_aload_n hx hb dX8_semi_15 rfl (lv_at hl 0 rfl) ?_
      refine lv_iconst (v := (1 : Int32)) hx hb dX8_semi_16 (by decide) ?_
      refine va_callv (va_runV (As := [.int (1 : Int32)]) (rest := []) ⟨hx, hb, hml, hown, htb⟩ (kcX8_wrong l D c q ev hev σ (1 : Int32) _ hw) (tb_CW htb kX8_wrong tb_1396 tb_1398 tb_47 ⟨Nat.le_of_ble_eq_true rfl, Nat.le_of_ble_eq_true rfl⟩) (wd_preV (wd := mw c q) (k := 0) hev hK hP hD hE hS (mw_0 c q σ) rfl) rfl rfl hl.1 rfl (lv_room (Nat.le_of_ble_eq_true rfl)) dX8_semi_17 ⟨Nat.zero_le _, Nat.zero_le _⟩) hS (fun q _ h => h) (fun q h => h) (fun σ7 t H1 locs1 ht hvm hw hB hz1 hk1 hS => ?_)
      have hP : va_P D vwCl (mw c q σ7) H1 := ht ▸ hB
      have hD : va_D (wdA 31 q) (mw c q σ7) := mw_D hD0
      refine lv_aload_n hx hb dX8_semi_20 rfl (lv_at hl 0 rfl) ?_
      refine va_get (D := D) (ci := 8) (C := RX8) (T := TX8) (N := 57) hx hb htb inX8 hown hK hP 0 (mw_0 c q σ7) rfl 21 (by decide) (htb _ tb_1202) (fun _ h9 => h9) rfl dX8_semi_21 ?_
      refine lv_if_ne (tgt := 31) hx hb dX8_semi_24 (by decide) (fun c8 => ?_) (fun c8 => ?_)
      · have hw := hw.2 c8
        exact W.vret hx hb hr (fun t ht hW => ⟨⟨σ7, rfl, hw, by unfold wdB; rw [ht]; exact hP⟩, hS.F ht⟩) hS.2.2 dX8_semi_31
      · have hw := hw.1 c8
        refine lv_aload_n hx hb dX8_semi_27 rfl (lv_at hl 0 rfl) ?_
        refine va_callv (va_runV (As := []) (rest := []) ⟨hx, hb, hml, hown, htb⟩ (kcX8_step l D c q ev hev σ7  _ hw) (tb_CW htb kX8_step tb_1370 tb_1372 tb_43 ⟨Nat.le_of_ble_eq_true rfl, Nat.le_of_ble_eq_true rfl⟩) (wd_preV (wd := mw c q) (k := 0) hev hK hP hD hE hS (mw_0 c q σ7) rfl) rfl rfl hl.1 rfl (lv_room (Nat.le_of_ble_eq_true rfl)) dX8_semi_28 ⟨Nat.zero_le _, Nat.zero_le _⟩) hS (fun q _ h => h) (fun q h => h) (fun σ10 t H1 locs1 ht hvm hw hB hz1 hk1 hS => ?_)
        have hP : va_P D vwCl (mw c q σ10) H1 := ht ▸ hB
        have hD : va_D (wdA 31 q) (mw c q σ10) := mw_D hD0
        exact W.vret hx hb hr (fun t ht hW => ⟨⟨σ10, rfl, hw, by unfold wdB; rw [ht]; exact hP⟩, hS.F ht⟩) hS.2.2 dX8_semi_31
set_option maxHeartbeats 4000000 in
set_option maxRecDepth 100000 in
theorem kcJ0_coder_7d493_sm (l : Launch) (D : va_G) (c : Nat → ClassId) (q : Nat → Nat) (ev : State → Heap → Prop) (hev : evOK (wdA 31 q) ev) (adK adV : Nat → Nat) (hZ : ∀ (U : State) (H : Heap), ev U H → evS (wdA 31 q) adK adV U H) (σ : hsS) (i0 : Nat) (hi0 : i0 < 11) (post : Int32 → hsS → Prop) (hw : wJ0_coder_7d493 i0 post σ) : Met l yJ0_coder_7d493 (Cond.code yJ0_coder_7d493 cJ0_coder_7d493 1 (some .byte) :: tb_L) { frames := 0, cells := 0, slots := 0, locals := 0 } (wdPc D (mw c q) (mwT c) (wdA 31 q) ev σ [.ref (adK i0)]) (va_Qi post (wdB D (mw c q)) (wdA 31 q)) 0 0 (wdA 31 q) := by
  refine Met.ofW (cc := cJ0_coder_7d493) (maxL := 1) (ret := (some .byte)) (by decide) rfl ?_
  intro p e s m args below meth c₀ s₁ Bd hml hv
  obtain ⟨rfl, hP, hK, hD0, hE⟩ := hv
  have hx := Bd.exec
  have hb := Bd.bytes
  have hr := Bd.returns
  have hts := atoms_spec (ws := Cond.code yJ0_coder_7d493 cJ0_coder_7d493 1 (some .byte) :: tb_L) Bd.pre
  have htb : ∀ w ∈ tb_L, w.before [.ref (adK i0)].toArray s = true := fun w h => hts w (List.mem_cons_of_mem _ h)
  have hown : s.vm.findClass RJ0 = some m.cls := findClass_of_methodNamed Bd.named
  have hlocks := Bd.notSynchronized
  have hS : va_S (wdA 31 q) s.heap s.heap [] := va_S.rf
  have hD := hD0
  have hl := lv_entry ([.ref (adK i0)]) (n := 1) (Nat.le_of_ble_eq_true rfl)
  rw [lg_entry_eq]
  generalize (lg_sl ([.ref (adK i0)]) ++ List.replicate (1 - (lg_sl ([.ref (adK i0)])).length) Slot.unset).toArray = ls at hl ⊢
  have hl : lv_has ls 1 [(0, .ref (adK i0))] := hl
  unfold wJ0_coder_7d493 at hw
  refine va_gets hx hb (hZ s s.heap hE).2.1 hS hown (htb _ tb_758) (fun _ h9 => h9) dJ0_coder_7d493_0 ?_
  refine lv_if_eq (tgt := 13) hx hb dJ0_coder_7d493_3 (by decide) (fun h9 => absurd h9 (by decide)) (fun _ => ?_)
  refine lv_aload_n hx hb dJ0_coder_7d493_6 rfl (lv_at hl 0 rfl) ?_
  refine vk_getf hx hb ((hZ s s.heap hE).1.1 i0 hi0).2.1 hS hown (htb _ tb_1727) (fun _ h9 => h9) dJ0_coder_7d493_7 ?_
  refine lv_goto (tgt := 14) hx hb dJ0_coder_7d493_10 (by decide) ?_
  exact W.zret hx hb hr rfl (fun t ht hW => ⟨⟨_, σ, rfl, hw, by unfold wdB; rw [ht]; exact hP⟩, hS.F ht⟩) hS.2.2 dJ0_coder_7d493_14
set_option maxHeartbeats 4000000 in
set_option maxRecDepth 100000 in
theorem kcJ0_length_8abf5_sm (l : Launch) (D : va_G) (c : Nat → ClassId) (q : Nat → Nat) (ev : State → Heap → Prop) (hev : evOK (wdA 31 q) ev) (adK adV : Nat → Nat) (hZ : ∀ (U : State) (H : Heap), ev U H → evS (wdA 31 q) adK adV U H) (σ : hsS) (i0 : Nat) (hi0 : i0 < 11) (post : Int32 → hsS → Prop) (hw : wJ0_length_8abf5 i0 post σ) : Met l yJ0_length_8abf5 (Cond.code yJ0_length_8abf5 cJ0_length_8abf5 1 (some .int) :: tb_L) { frames := 1, cells := 0, slots := 0, locals := 20 } (wdPc D (mw c q) (mwT c) (wdA 31 q) ev σ [.ref (adK i0)]) (va_Qi post (wdB D (mw c q)) (wdA 31 q)) 0 0 (wdA 31 q) := by
  refine Met.ofW (cc := cJ0_length_8abf5) (maxL := 1) (ret := (some .int)) (by decide) rfl ?_
  intro p e s m args below meth c₀ s₁ Bd hml hv
  obtain ⟨rfl, hP, hK, hD0, hE⟩ := hv
  have hx := Bd.exec
  have hb := Bd.bytes
  have hr := Bd.returns
  have hts := atoms_spec (ws := Cond.code yJ0_length_8abf5 cJ0_length_8abf5 1 (some .int) :: tb_L) Bd.pre
  have htb : ∀ w ∈ tb_L, w.before [.ref (adK i0)].toArray s = true := fun w h => hts w (List.mem_cons_of_mem _ h)
  have hown : s.vm.findClass RJ0 = some m.cls := findClass_of_methodNamed Bd.named
  have hlocks := Bd.notSynchronized
  have hS : va_S (wdA 31 q) s.heap s.heap [] := va_S.rf
  have hD := hD0
  have hl := lv_entry ([.ref (adK i0)]) (n := 1) (Nat.le_of_ble_eq_true rfl)
  rw [lg_entry_eq]
  generalize (lg_sl ([.ref (adK i0)]) ++ List.replicate (1 - (lg_sl ([.ref (adK i0)])).length) Slot.unset).toArray = ls at hl ⊢
  have hl : lv_has ls 1 [(0, .ref (adK i0))] := hl
  unfold wJ0_length_8abf5 at hw
  refine lv_aload_n hx hb dJ0_length_8abf5_0 rfl (lv_at hl 0 rfl) ?_
  refine vk_getf hx hb ((hZ s s.heap hE).1.1 i0 hi0).2.2.1 hS hown (htb _ tb_1726) (fun _ h9 => h9) dJ0_length_8abf5_1 ?_
  refine va_tlen hx hb ((hZ s s.heap hE).1.1 i0 hi0).2.2.2 hS rfl dJ0_length_8abf5_4 ?_
  refine lv_aload_n hx hb dJ0_length_8abf5_5 rfl (lv_at hl 0 rfl) ?_
  refine va_calli (va_runV (As := []) (rest := [.int (Int32.ofNat (sLens.getD i0 0))]) ⟨hx, hb, hml, hown, htb⟩ (kcJ0_coder_7d493_sm l D c q ev hev adK adV hZ σ i0 hi0 _ hw) (tb_CW htb kJ0_coder_7d493 tb_754 tb_755 tb_756 ⟨Nat.le_of_ble_eq_true rfl, Nat.le_of_ble_eq_true rfl⟩) (wd_preVs (wd := mw c q) (hZ s s.heap hE).1 hi0 hev hK hP hD hE hS) rfl rfl hl.1 rfl (lv_room (Nat.le_of_ble_eq_true rfl)) dJ0_length_8abf5_6 ⟨Nat.zero_le _, Nat.zero_le _⟩) hS (fun q _ h => h) (fun q h => h) (fun r1 σ2 t H1 locs1 ht hvm hw hB hz1 hk1 hS => ?_)
  have hP : va_P D vwCl (mw c q σ2) H1 := ht ▸ hB
  have hD : va_D (wdA 31 q) (mw c q σ2) := mw_D hD0
  refine lv_ishr hx hb dJ0_length_8abf5_9 ?_
  exact W.iret hx hb hr (fun t ht hW => ⟨⟨_, σ2, rfl, hw, by unfold wdB; rw [ht]; exact hP⟩, hS.F ht⟩) hS.2.2 dJ0_length_8abf5_10
set_option maxHeartbeats 4000000 in
set_option maxRecDepth 100000 in
theorem kcJ0_isLatin1_aae02_sm (l : Launch) (D : va_G) (c : Nat → ClassId) (q : Nat → Nat) (ev : State → Heap → Prop) (hev : evOK (wdA 31 q) ev) (adK adV : Nat → Nat) (hZ : ∀ (U : State) (H : Heap), ev U H → evS (wdA 31 q) adK adV U H) (σ : hsS) (i0 : Nat) (hi0 : i0 < 11) (post : Int32 → hsS → Prop) (hw : wJ0_isLatin1_aae02 i0 post σ) : Met l yJ0_isLatin1_aae02 (Cond.code yJ0_isLatin1_aae02 cJ0_isLatin1_aae02 1 (some .boolean) :: tb_L) { frames := 0, cells := 0, slots := 0, locals := 0 } (wdPc D (mw c q) (mwT c) (wdA 31 q) ev σ [.ref (adK i0)]) (va_Qi post (wdB D (mw c q)) (wdA 31 q)) 0 0 (wdA 31 q) := by
  refine Met.ofW (cc := cJ0_isLatin1_aae02) (maxL := 1) (ret := (some .boolean)) (by decide) rfl ?_
  intro p e s m args below meth c₀ s₁ Bd hml hv
  obtain ⟨rfl, hP, hK, hD0, hE⟩ := hv
  have hx := Bd.exec
  have hb := Bd.bytes
  have hr := Bd.returns
  have hts := atoms_spec (ws := Cond.code yJ0_isLatin1_aae02 cJ0_isLatin1_aae02 1 (some .boolean) :: tb_L) Bd.pre
  have htb : ∀ w ∈ tb_L, w.before [.ref (adK i0)].toArray s = true := fun w h => hts w (List.mem_cons_of_mem _ h)
  have hown : s.vm.findClass RJ0 = some m.cls := findClass_of_methodNamed Bd.named
  have hlocks := Bd.notSynchronized
  have hS : va_S (wdA 31 q) s.heap s.heap [] := va_S.rf
  have hD := hD0
  have hl := lv_entry ([.ref (adK i0)]) (n := 1) (Nat.le_of_ble_eq_true rfl)
  rw [lg_entry_eq]
  generalize (lg_sl ([.ref (adK i0)]) ++ List.replicate (1 - (lg_sl ([.ref (adK i0)])).length) Slot.unset).toArray = ls at hl ⊢
  have hl : lv_has ls 1 [(0, .ref (adK i0))] := hl
  unfold wJ0_isLatin1_aae02 at hw
  refine va_gets hx hb (hZ s s.heap hE).2.1 hS hown (htb _ tb_758) (fun _ h9 => h9) dJ0_isLatin1_aae02_0 ?_
  refine lv_if_eq (tgt := 17) hx hb dJ0_isLatin1_aae02_3 (by decide) (fun h9 => absurd h9 (by decide)) (fun _ => ?_)
  refine lv_aload_n hx hb dJ0_isLatin1_aae02_6 rfl (lv_at hl 0 rfl) ?_
  refine vk_getf hx hb ((hZ s s.heap hE).1.1 i0 hi0).2.1 hS hown (htb _ tb_1727) (fun _ h9 => h9) dJ0_isLatin1_aae02_7 ?_
  refine lv_if_ne (tgt := 17) hx hb dJ0_isLatin1_aae02_10 (by decide) (fun h9 => absurd h9 (by decide)) (fun _ => ?_)
  refine lv_iconst (v := (1 : Int32)) hx hb dJ0_isLatin1_aae02_13 (by decide) ?_
  refine lv_goto (tgt := 18) hx hb dJ0_isLatin1_aae02_14 (by decide) ?_
  exact W.zret hx hb hr rfl (fun t ht hW => ⟨⟨_, σ, rfl, hw, by unfold wdB; rw [ht]; exact hP⟩, hS.F ht⟩) hS.2.2 dJ0_isLatin1_aae02_18
set_option maxHeartbeats 4000000 in
set_option maxRecDepth 100000 in
theorem kcJ3_checkIndex_8e157_nm (l : Launch) (D : va_G) (c : Nat → ClassId) (q : Nat → Nat) (ev : State → Heap → Prop) (hev : evOK (wdA 31 q) ev) (adK adV : Nat → Nat) (hZ : ∀ (U : State) (H : Heap), ev U H → evS (wdA 31 q) adK adV U H) (σ : hsS) (x0 : Int32) (x1 : Int32) (post : Int32 → hsS → Prop) (hw : wJ3_checkIndex_8e157 x0 x1 post σ) : Met l yJ3_checkIndex_8e157 (Cond.code yJ3_checkIndex_8e157 cJ3_checkIndex_8e157 3 (some .int) :: tb_L) { frames := 0, cells := 0, slots := 0, locals := 0 } (wdPc D (mw c q) (mwT c) (wdA 31 q) ev σ [.int x0, .int x1, .null]) (va_Qi post (wdB D (mw c q)) (wdA 31 q)) 0 0 (wdA 31 q) := by
  refine Met.ofW (cc := cJ3_checkIndex_8e157) (maxL := 3) (ret := (some .int)) (by decide) rfl ?_
  intro p e s m args below meth c₀ s₁ Bd hml hv
  obtain ⟨rfl, hP, hK, hD0, hE⟩ := hv
  have hx := Bd.exec
  have hb := Bd.bytes
  have hr := Bd.returns
  have hts := atoms_spec (ws := Cond.code yJ3_checkIndex_8e157 cJ3_checkIndex_8e157 3 (some .int) :: tb_L) Bd.pre
  have htb : ∀ w ∈ tb_L, w.before [.int x0, .int x1, .null].toArray s = true := fun w h => hts w (List.mem_cons_of_mem _ h)
  have hown : s.vm.findClass RJ3 = some m.cls := findClass_of_methodNamed Bd.named
  have hlocks := Bd.notSynchronized
  have hS : va_S (wdA 31 q) s.heap s.heap [] := va_S.rf
  have hD := hD0
  have hl := lv_entry ([.int x0, .int x1, .null]) (n := 3) (Nat.le_of_ble_eq_true rfl)
  rw [lg_entry_eq]
  generalize (lg_sl ([.int x0, .int x1, .null]) ++ List.replicate (3 - (lg_sl ([.int x0, .int x1, .null])).length) Slot.unset).toArray = ls at hl ⊢
  have hl : lv_has ls 3 [(0, .int x0), (1, .int x1), (2, .null)] := hl
  unfold wJ3_checkIndex_8e157 at hw
  refine lv_iload_n hx hb dJ3_checkIndex_8e157_0 rfl (lv_at hl 0 rfl) ?_
  refine lv_if_lt (tgt := 9) hx hb dJ3_checkIndex_8e157_1 (by decide) (fun c1 => ?_) (fun c1 => ?_)
  · have hw := hw.1 c1
    exact hw.elim
  · have hw := hw.2 c1
    refine lv_iload_n hx hb dJ3_checkIndex_8e157_4 rfl (lv_at hl 0 rfl) ?_
    refine lv_iload_n hx hb dJ3_checkIndex_8e157_5 rfl (lv_at hl 1 rfl) ?_
    refine lv_icmp_lt (tgt := 16) hx hb dJ3_checkIndex_8e157_6 (by decide) (fun c2 => ?_) (fun c2 => ?_)
    · have hw := hw.1 c2
      refine lv_iload_n hx hb dJ3_checkIndex_8e157_16 rfl (lv_at hl 0 rfl) ?_
      exact W.iret hx hb hr (fun t ht hW => ⟨⟨_, σ, rfl, hw, by unfold wdB; rw [ht]; exact hP⟩, hS.F ht⟩) hS.2.2 dJ3_checkIndex_8e157_17
    · have hw := hw.2 c2
      exact hw.elim
set_option maxHeartbeats 4000000 in
set_option maxRecDepth 100000 in
theorem kcJ3_checkIndex_8e157_um (l : Launch) (D : va_G) (c : Nat → ClassId) (q : Nat → Nat) (ev : State → Heap → Prop) (hev : evOK (wdA 31 q) ev) (adK adV : Nat → Nat) (hZ : ∀ (U : State) (H : Heap), ev U H → evS (wdA 31 q) adK adV U H) (σ : hsS) (x0 : Int32) (x1 : Int32) (t2 : Nat) (post : Int32 → hsS → Prop) (hw : wJ3_checkIndex_8e157 x0 x1 post σ) : Met l yJ3_checkIndex_8e157 (Cond.code yJ3_checkIndex_8e157 cJ3_checkIndex_8e157 3 (some .int) :: tb_L) { frames := 0, cells := 0, slots := 0, locals := 0 } (wdPc D (mw c q) (mwT c) (wdA 31 q) ev σ [.int x0, .int x1, .ref t2]) (va_Qi post (wdB D (mw c q)) (wdA 31 q)) 0 0 (wdA 31 q) := by
  refine Met.ofW (cc := cJ3_checkIndex_8e157) (maxL := 3) (ret := (some .int)) (by decide) rfl ?_
  intro p e s m args below meth c₀ s₁ Bd hml hv
  obtain ⟨rfl, hP, hK, hD0, hE⟩ := hv
  have hx := Bd.exec
  have hb := Bd.bytes
  have hr := Bd.returns
  have hts := atoms_spec (ws := Cond.code yJ3_checkIndex_8e157 cJ3_checkIndex_8e157 3 (some .int) :: tb_L) Bd.pre
  have htb : ∀ w ∈ tb_L, w.before [.int x0, .int x1, .ref t2].toArray s = true := fun w h => hts w (List.mem_cons_of_mem _ h)
  have hown : s.vm.findClass RJ3 = some m.cls := findClass_of_methodNamed Bd.named
  have hlocks := Bd.notSynchronized
  have hS : va_S (wdA 31 q) s.heap s.heap [] := va_S.rf
  have hD := hD0
  have hl := lv_entry ([.int x0, .int x1, .ref t2]) (n := 3) (Nat.le_of_ble_eq_true rfl)
  rw [lg_entry_eq]
  generalize (lg_sl ([.int x0, .int x1, .ref t2]) ++ List.replicate (3 - (lg_sl ([.int x0, .int x1, .ref t2])).length) Slot.unset).toArray = ls at hl ⊢
  have hl : lv_has ls 3 [(0, .int x0), (1, .int x1), (2, .ref t2)] := hl
  unfold wJ3_checkIndex_8e157 at hw
  refine lv_iload_n hx hb dJ3_checkIndex_8e157_0 rfl (lv_at hl 0 rfl) ?_
  refine lv_if_lt (tgt := 9) hx hb dJ3_checkIndex_8e157_1 (by decide) (fun c1 => ?_) (fun c1 => ?_)
  · have hw := hw.1 c1
    exact hw.elim
  · have hw := hw.2 c1
    refine lv_iload_n hx hb dJ3_checkIndex_8e157_4 rfl (lv_at hl 0 rfl) ?_
    refine lv_iload_n hx hb dJ3_checkIndex_8e157_5 rfl (lv_at hl 1 rfl) ?_
    refine lv_icmp_lt (tgt := 16) hx hb dJ3_checkIndex_8e157_6 (by decide) (fun c2 => ?_) (fun c2 => ?_)
    · have hw := hw.1 c2
      refine lv_iload_n hx hb dJ3_checkIndex_8e157_16 rfl (lv_at hl 0 rfl) ?_
      exact W.iret hx hb hr (fun t ht hW => ⟨⟨_, σ, rfl, hw, by unfold wdB; rw [ht]; exact hP⟩, hS.F ht⟩) hS.2.2 dJ3_checkIndex_8e157_17
    · have hw := hw.2 c2
      exact hw.elim
set_option maxHeartbeats 4000000 in
set_option maxRecDepth 100000 in
theorem kcJ0_checkIndex_df160_mm (l : Launch) (D : va_G) (c : Nat → ClassId) (q : Nat → Nat) (ev : State → Heap → Prop) (hev : evOK (wdA 31 q) ev) (adK adV : Nat → Nat) (hZ : ∀ (U : State) (H : Heap), ev U H → evS (wdA 31 q) adK adV U H) (σ : hsS) (x0 : Int32) (x1 : Int32) (post : hsS → Prop) (hw : wJ0_checkIndex_df160 x0 x1 post σ) : Met l yJ0_checkIndex_df160 (Cond.code yJ0_checkIndex_df160 cJ0_checkIndex_df160 2 none :: tb_L) { frames := 1, cells := 0, slots := 0, locals := 22 } (wdPc D (mw c q) (mwT c) (wdA 31 q) ev σ [.int x0, .int x1]) (va_Qv post (wdB D (mw c q)) (wdA 31 q)) 0 0 (wdA 31 q) := by
  refine Met.ofW (cc := cJ0_checkIndex_df160) (maxL := 2) (ret := none) (by decide) rfl ?_
  intro p e s m args below meth c₀ s₁ Bd hml hv
  obtain ⟨rfl, hP, hK, hD0, hE⟩ := hv
  have hx := Bd.exec
  have hb := Bd.bytes
  have hr := Bd.returns
  have hts := atoms_spec (ws := Cond.code yJ0_checkIndex_df160 cJ0_checkIndex_df160 2 none :: tb_L) Bd.pre
  have htb : ∀ w ∈ tb_L, w.before [.int x0, .int x1].toArray s = true := fun w h => hts w (List.mem_cons_of_mem _ h)
  have hown : s.vm.findClass RJ0 = some m.cls := findClass_of_methodNamed Bd.named
  have hlocks := Bd.notSynchronized
  have hS : va_S (wdA 31 q) s.heap s.heap [] := va_S.rf
  have hD := hD0
  have hl := lv_entry ([.int x0, .int x1]) (n := 2) (Nat.le_of_ble_eq_true rfl)
  rw [lg_entry_eq]
  generalize (lg_sl ([.int x0, .int x1]) ++ List.replicate (2 - (lg_sl ([.int x0, .int x1])).length) Slot.unset).toArray = ls at hl ⊢
  have hl : lv_has ls 2 [(0, .int x0), (1, .int x1)] := hl
  unfold wJ0_checkIndex_df160 at hw
  refine lv_iload_n hx hb dJ0_checkIndex_df160_0 rfl (lv_at hl 0 rfl) ?_
  refine lv_iload_n hx hb dJ0_checkIndex_df160_1 rfl (lv_at hl 1 rfl) ?_
  rcases (hZ s s.heap hE).2.2.1 with hz | ⟨t9, hz⟩
  · refine va_gets hx hb hz hS hown (htb _ tb_774) (fun _ h9 => h9) dJ0_checkIndex_df160_2 ?_
    refine va_calli (va_runS (As := [.int x0, .int x1, .null]) (rest := []) ⟨hx, hb, hml, hown, htb⟩ (kcJ3_checkIndex_8e157_nm l D c q ev hev adK adV hZ σ x0 x1 _ hw) (tb_CS htb kJ3_checkIndex_8e157 tb_776 tb_777 ⟨Nat.le_of_ble_eq_true rfl, Nat.le_of_ble_eq_true rfl⟩) (wd_preS (wd := mw c q) hev hK hP hD hE hS) rfl rfl hl.1 rfl (lv_room (Nat.le_of_ble_eq_true rfl)) dJ0_checkIndex_df160_5 ⟨Nat.zero_le _, Nat.zero_le _⟩) hS (fun q _ h => h) (fun q h => h) (fun r1 σ2 t H1 locs1 ht hvm hw hB hz1 hk1 hS => ?_)
    have hP : va_P D vwCl (mw c q σ2) H1 := ht ▸ hB
    have hD : va_D (wdA 31 q) (mw c q σ2) := mw_D hD0
    refine lv_pop hx hb dJ0_checkIndex_df160_8 rfl ?_
    exact W.vret hx hb hr (fun t ht hW => ⟨⟨σ2, rfl, hw, by unfold wdB; rw [ht]; exact hP⟩, hS.F ht⟩) hS.2.2 dJ0_checkIndex_df160_9
  · refine va_gets hx hb hz hS hown (htb _ tb_774) (fun _ h9 => h9) dJ0_checkIndex_df160_2 ?_
    refine va_calli (va_runS (As := [.int x0, .int x1, .ref t9]) (rest := []) ⟨hx, hb, hml, hown, htb⟩ (kcJ3_checkIndex_8e157_um l D c q ev hev adK adV hZ σ x0 x1 t9 _ hw) (tb_CS htb kJ3_checkIndex_8e157 tb_776 tb_777 ⟨Nat.le_of_ble_eq_true rfl, Nat.le_of_ble_eq_true rfl⟩) (wd_preS (wd := mw c q) hev hK hP hD hE hS) rfl rfl hl.1 rfl (lv_room (Nat.le_of_ble_eq_true rfl)) dJ0_checkIndex_df160_5 ⟨Nat.zero_le _, Nat.zero_le _⟩) hS (fun q _ h => h) (fun q h => h) (fun r3 σ4 t H1 locs1 ht hvm hw hB hz1 hk1 hS => ?_)
    have hP : va_P D vwCl (mw c q σ4) H1 := ht ▸ hB
    have hD : va_D (wdA 31 q) (mw c q σ4) := mw_D hD0
    refine lv_pop hx hb dJ0_checkIndex_df160_8 rfl ?_
    exact W.vret hx hb hr (fun t ht hW => ⟨⟨σ4, rfl, hw, by unfold wdB; rw [ht]; exact hP⟩, hS.F ht⟩) hS.2.2 dJ0_checkIndex_df160_9
set_option maxHeartbeats 4000000 in
set_option maxRecDepth 100000 in
theorem kcJ1_charAt_3b067_vm (l : Launch) (D : va_G) (c : Nat → ClassId) (q : Nat → Nat) (ev : State → Heap → Prop) (hev : evOK (wdA 31 q) ev) (adK adV : Nat → Nat) (hZ : ∀ (U : State) (H : Heap), ev U H → evS (wdA 31 q) adK adV U H) (σ : hsS) (i0 : Nat) (hi0 : i0 < 11) (x1 : Int32) (post : Int32 → hsS → Prop) (hw : wJ1_charAt_3b067 i0 x1 post σ) : Met l yJ1_charAt_3b067 (Cond.code yJ1_charAt_3b067 cJ1_charAt_3b067 2 (some .char) :: tb_L) { frames := 2, cells := 0, slots := 0, locals := 43 } (wdPc D (mw c q) (mwT c) (wdA 31 q) ev σ [.ref (adV i0), .int x1]) (va_Qi post (wdB D (mw c q)) (wdA 31 q)) 0 0 (wdA 31 q) := by
  refine Met.ofW (cc := cJ1_charAt_3b067) (maxL := 2) (ret := (some .char)) (by decide) rfl ?_
  intro p e s m args below meth c₀ s₁ Bd hml hv
  obtain ⟨rfl, hP, hK, hD0, hE⟩ := hv
  have hx := Bd.exec
  have hb := Bd.bytes
  have hr := Bd.returns
  have hts := atoms_spec (ws := Cond.code yJ1_charAt_3b067 cJ1_charAt_3b067 2 (some .char) :: tb_L) Bd.pre
  have htb : ∀ w ∈ tb_L, w.before [.ref (adV i0), .int x1].toArray s = true := fun w h => hts w (List.mem_cons_of_mem _ h)
  have hown : s.vm.findClass RJ1 = some m.cls := findClass_of_methodNamed Bd.named
  have hlocks := Bd.notSynchronized
  have hS : va_S (wdA 31 q) s.heap s.heap [] := va_S.rf
  have hD := hD0
  have hl := lv_entry ([.ref (adV i0), .int x1]) (n := 2) (Nat.le_of_ble_eq_true rfl)
  rw [lg_entry_eq]
  generalize (lg_sl ([.ref (adV i0), .int x1]) ++ List.replicate (2 - (lg_sl ([.ref (adV i0), .int x1])).length) Slot.unset).toArray = ls at hl ⊢
  have hl : lv_has ls 2 [(0, .ref (adV i0)), (1, .int x1)] := hl
  unfold wJ1_charAt_3b067 at hw
  refine lv_iload_n hx hb dJ1_charAt_3b067_0 rfl (lv_at hl 1 rfl) ?_
  refine lv_aload_n hx hb dJ1_charAt_3b067_1 rfl (lv_at hl 0 rfl) ?_
  refine va_tlen hx hb ((hZ s s.heap hE).1.1 i0 hi0).2.2.2 hS rfl dJ1_charAt_3b067_2 ?_
  refine va_callv (va_runS (As := [.int x1, .int (Int32.ofNat (sLens.getD i0 0))]) (rest := []) ⟨hx, hb, hml, hown, htb⟩ (kcJ0_checkIndex_df160_mm l D c q ev hev adK adV hZ σ x1 (Int32.ofNat (sLens.getD i0 0)) _ hw) (tb_CS htb kJ0_checkIndex_df160 tb_771 tb_772 ⟨Nat.le_of_ble_eq_true rfl, Nat.le_of_ble_eq_true rfl⟩) (wd_preS (wd := mw c q) hev hK hP hD hE hS) rfl rfl hl.1 rfl (lv_room (Nat.le_of_ble_eq_true rfl)) dJ1_charAt_3b067_3 ⟨Nat.zero_le _, Nat.zero_le _⟩) hS (fun q _ h => h) (fun q h => h) (fun σ2 t H1 locs1 ht hvm hw hB hz1 hk1 hS => ?_)
  have hP : va_P D vwCl (mw c q σ2) H1 := ht ▸ hB
  have hD : va_D (wdA 31 q) (mw c q σ2) := mw_D hD0
  refine lv_aload_n hx hb dJ1_charAt_3b067_6 rfl (lv_at hl 0 rfl) ?_
  refine lv_iload_n hx hb dJ1_charAt_3b067_7 rfl (lv_at hl 1 rfl) ?_
  refine va_tb hx hb ((hZ s s.heap hE).1.1 i0 hi0).2.2.2 hS hw.1 rfl dJ1_charAt_3b067_8 ?_
  have hw := hw.2
  refine lv_sipush (v := (255 : Int32)) hx hb dJ1_charAt_3b067_9 (by decide) ?_
  refine lv_iand hx hb dJ1_charAt_3b067_12 ?_
  refine lv_i2c hx hb dJ1_charAt_3b067_13 rfl ?_
  exact W.zret hx hb hr hw.1 (fun t ht hW => ⟨⟨_, σ2, rfl, hw.2, by unfold wdB; rw [ht]; exact hP⟩, hS.F ht⟩) hS.2.2 dJ1_charAt_3b067_14
