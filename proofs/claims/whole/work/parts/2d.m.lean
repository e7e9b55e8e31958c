theorem kX8_why : tbM yX8_why cX8_why 3 (some .int) 2 := ⟨tb_1706, tb_99, by decide +kernel, by decide +kernel⟩
theorem kX8_held : tbM yX8_held cX8_held 4 (some .int) 2 := ⟨tb_1702, tb_99, by decide +kernel, by decide +kernel⟩
theorem kX8_left : tbM yX8_left cX8_left 5 (some .int) 2 := ⟨tb_1710, tb_99, by decide +kernel, by decide +kernel⟩
def wX8_why (x1 : Int32) (x2 : Int32) (post : Int32 → hsS → Prop) (σ : hsS) : Prop := vp_in x1 8 ∧ (((σ.2.1 29 x1.toNatClampNeg) = (-1 : Int32) → post (1 : Int32) σ) ∧ (¬ (σ.2.1 29 x1.toNatClampNeg) = (-1 : Int32) → vp_in x1 8 ∧ (((σ.2.1 29 x1.toNatClampNeg) = x2 → post (0 : Int32) σ) ∧ (¬ (σ.2.1 29 x1.toNatClampNeg) = x2 → post (2 : Int32) σ))))
set_option maxHeartbeats 4000000 in
set_option maxRecDepth 100000 in
theorem kcX8_why (l : Launch) (D : va_G) (c : Nat → ClassId) (q : Nat → Nat) (ev : State → Heap → Prop) (hev : evOK (wdA 31 q) ev) (σ : hsS) (x1 : Int32) (x2 : Int32) (post : Int32 → hsS → Prop) (hw : wX8_why x1 x2 post σ) : Met l yX8_why (Cond.code yX8_why cX8_why 3 (some .int) :: tb_L) { frames := 0, cells := 0, slots := 0, locals := 0 } (wdPc D (mw c q) (mwT c) (wdA 31 q) ev σ [.ref (q 0), .int x1, .int x2]) (va_Qi post (wdB D (mw c q)) (wdA 31 q)) 0 0 (wdA 31 q) := by
  refine Met.ofW (cc := cX8_why) (maxL := 3) (ret := (some .int)) (by decide) rfl ?_
  intro p e s m args below meth c₀ s₁ Bd hml hv
  obtain ⟨rfl, hP, hK, hD0, hE⟩ := hv
  have hx := Bd.exec
  have hb := Bd.bytes
  have hr := Bd.returns
  have hts := atoms_spec (ws := Cond.code yX8_why cX8_why 3 (some .int) :: tb_L) Bd.pre
  have htb : ∀ w ∈ tb_L, w.before [.ref (q 0), .int x1, .int x2].toArray s = true := fun w h => hts w (List.mem_cons_of_mem _ h)
  have hown : s.vm.findClass RX8 = some m.cls := findClass_of_methodNamed Bd.named
  have hlocks := Bd.notSynchronized
  have hS : va_S (wdA 31 q) s.heap s.heap [] := va_S.rf
  have hD := hD0
  have hl := lv_entry ([.ref (q 0), .int x1, .int x2]) (n := 3) (Nat.le_of_ble_eq_true rfl)
  rw [lg_entry_eq]
  generalize (lg_sl ([.ref (q 0), .int x1, .int x2]) ++ List.replicate (3 - (lg_sl ([.ref (q 0), .int x1, .int x2])).length) Slot.unset).toArray = ls at hl ⊢
  have hl : lv_has ls 3 [(0, .ref (q 0)), (1, .int x1), (2, .int x2)] := hl
  unfold wX8_why at hw
  refine lv_aload_n hx hb dX8_why_0 rfl (lv_at hl 0 rfl) ?_
  refine va_get (D := D) (ci := 8) (C := RX8) (T := TX8) (N := 57) hx hb htb inX8 hown hK hP 0 (mw_0 c q σ) rfl 55 (by decide) (htb _ tb_1236) (fun _ h9 => h9) rfl dX8_why_1 ?_
  refine lv_iload_n hx hb dX8_why_4 rfl (lv_at hl 1 rfl) ?_
  refine va_iald hx hb hK hP 29 28 (mw_29 c q σ) rfl hw.1 dX8_why_5 ?_
  have hw := hw.2
  refine lv_iconst (v := (-1 : Int32)) hx hb dX8_why_6 (by decide) ?_
  refine lv_icmp_ne (tgt := 14) hx hb dX8_why_7 (by decide) (fun c1 => ?_) (fun c1 => ?_)
  · have hw := hw.2 c1
    refine lv_aload_n hx hb dX8_why_14 rfl (lv_at hl 0 rfl) ?_
    refine va_get (D := D) (ci := 8) (C := RX8) (T := TX8) (N := 57) hx hb htb inX8 hown hK hP 0 (mw_0 c q σ) rfl 55 (by decide) (htb _ tb_1236) (fun _ h9 => h9) rfl dX8_why_15 ?_
    refine lv_iload_n hx hb dX8_why_18 rfl (lv_at hl 1 rfl) ?_
    refine va_iald hx hb hK hP 29 28 (mw_29 c q σ) rfl hw.1 dX8_why_19 ?_
    have hw := hw.2
    refine lv_iload_n hx hb dX8_why_20 rfl (lv_at hl 2 rfl) ?_
    refine lv_icmp_eq (tgt := 28) hx hb dX8_why_21 (by decide) (fun c2 => ?_) (fun c2 => ?_)
    · have hw := hw.1 c2
      refine lv_iconst (v := (0 : Int32)) hx hb dX8_why_28 (by decide) ?_
      exact W.iret hx hb hr (fun t ht hW => ⟨⟨_, σ, rfl, hw, by unfold wdB; rw [ht]; exact hP⟩, hS.F ht⟩) hS.2.2 dX8_why_29
    · have hw := hw.2 c2
      refine lv_iconst (v := (2 : Int32)) hx hb dX8_why_24 (by decide) ?_
      refine lv_goto (tgt := 29) hx hb dX8_why_25 (by decide) ?_
      exact W.iret hx hb hr (fun t ht hW => ⟨⟨_, σ, rfl, hw, by unfold wdB; rw [ht]; exact hP⟩, hS.F ht⟩) hS.2.2 dX8_why_29
  · have hw := hw.1 c1
    refine lv_iconst (v := (1 : Int32)) hx hb dX8_why_10 (by decide) ?_
    refine lv_goto (tgt := 29) hx hb dX8_why_11 (by decide) ?_
    exact W.iret hx hb hr (fun t ht hW => ⟨⟨_, σ, rfl, hw, by unfold wdB; rw [ht]; exact hP⟩, hS.F ht⟩) hS.2.2 dX8_why_29
def wX8_held (x1 : Int32) (x2 : Int32) (post : Int32 → hsS → Prop) (σ : hsS) : Prop := ∀ σ1 : hsS, σ1 = hsI σ 0 (0 : Int32) → wX8_isHolder x1 (fun r2 σ3 => ((r2 = (0 : Int32) → wX8_fail (1 : Int32) (fun r5 σ6 => post r5 σ6) σ3) ∧ (¬ r2 = (0 : Int32) → ((x2 < (0 : Int32) → wX8_fail (1 : Int32) (fun r8 σ9 => post r8 σ9) σ3) ∧ (¬ x2 < (0 : Int32) → ((x2 ≤ (1 : Int32) → wX8_why x1 x2 (fun r11 σ12 => ((r11 = (0 : Int32) → vp_in x1 8 ∧ post ((10 : Int32) + (σ12.2.1 30 x1.toNatClampNeg)) σ12) ∧ (¬ r11 = (0 : Int32) → post r11 σ12))) σ3) ∧ (¬ x2 ≤ (1 : Int32) → wX8_fail (1 : Int32) (fun r14 σ15 => post r14 σ15) σ3))))))) σ1
set_option maxHeartbeats 4000000 in
set_option maxRecDepth 100000 in
theorem kcX8_held (l : Launch) (D : va_G) (c : Nat → ClassId) (q : Nat → Nat) (ev : State → Heap → Prop) (hev : evOK (wdA 31 q) ev) (σ : hsS) (x1 : Int32) (x2 : Int32) (post : Int32 → hsS → Prop) (hw : wX8_held x1 x2 post σ) : Met l yX8_held (Cond.code yX8_held cX8_held 4 (some .int) :: tb_L) { frames := 2, cells := 0, slots := 0, locals := 42 } (wdPc D (mw c q) (mwT c) (wdA 31 q) ev σ [.ref (q 0), .int x1, .int x2]) (va_Qi post (wdB D (mw c q)) (wdA 31 q)) 0 0 (wdA 31 q) := by
  refine Met.ofW (cc := cX8_held) (maxL := 4) (ret := (some .int)) (by decide) rfl ?_
  intro p e s m args below meth c₀ s₁ Bd hml hv
  obtain ⟨rfl, hP, hK, hD0, hE⟩ := hv
  have hx := Bd.exec
  have hb := Bd.bytes
  have hr := Bd.returns
  have hts := atoms_spec (ws := Cond.code yX8_held cX8_held 4 (some .int) :: tb_L) Bd.pre
  have htb : ∀ w ∈ tb_L, w.before [.ref (q 0), .int x1, .int x2].toArray s = true := fun w h => hts w (List.mem_cons_of_mem _ h)
  have hown : s.vm.findClass RX8 = some m.cls := findClass_of_methodNamed Bd.named
  have hlocks := Bd.notSynchronized
  have hS : va_S (wdA 31 q) s.heap s.heap [] := va_S.rf
  have hD := hD0
  have hl := lv_entry ([.ref (q 0), .int x1, .int x2]) (n := 4) (Nat.le_of_ble_eq_true rfl)
  rw [lg_entry_eq]
  generalize (lg_sl ([.ref (q 0), .int x1, .int x2]) ++ List.replicate (4 - (lg_sl ([.ref (q 0), .int x1, .int x2])).length) Slot.unset).toArray = ls at hl ⊢
  have hl : lv_has ls 4 [(0, .ref (q 0)), (1, .int x1), (2, .int x2)] := hl
  unfold wX8_held at hw
  refine lv_aload_n hx hb dX8_held_0 rfl (lv_at hl 0 rfl) ?_
  refine lv_iconst (v := (0 : Int32)) hx hb dX8_held_1 (by decide) ?_
  refine va_put (D := D) (ci := 8) (ty := .int) (C := RX8) (T := TX8) (N := 57) hx hb htb inX8 tyX8 tyX8_ok nmX8 hown hK hP hD hS 0 (mw_0 c q σ) rfl 0 (by decide) (htb _ tb_1181) (fun _ h9 => h9) rfl (by decide +kernel) rfl rfl (Nat.le_of_ble_eq_true rfl) dX8_held_2 (fun H locs hP hD hS => ?_)
  have hP : va_P D vwCl (mw c q (hsI σ 0 (0 : Int32))) H := hP
  obtain ⟨σ1, eσ1⟩ : ∃ z : hsS, z = hsI σ 0 (0 : Int32) := ⟨_, rfl⟩
  rw [← eσ1] at hP
  have hD : va_D (wdA 31 q) (mw c q σ1) := mw_D hD0
  have hw := hw σ1 eσ1
  refine lv_iload_n hx hb dX8_held_5 rfl (lv_at hl 1 rfl) ?_
  refine va_calli (va_runS (As := [.int x1]) (rest := []) ⟨hx, hb, hml, hown, htb⟩ (kcX8_isHolder_m l D c q ev hev σ1 x1 _ hw) (tb_CS htb kX8_isHolder tb_1696 tb_1697 ⟨Nat.le_of_ble_eq_true rfl, Nat.le_of_ble_eq_true rfl⟩) (wd_preS (wd := mw c q) hev hK hP hD hE hS) rfl rfl hl.1 rfl (lv_room (Nat.le_of_ble_eq_true rfl)) dX8_held_6 ⟨Nat.zero_le _, Nat.zero_le _⟩) hS (fun q _ h => h) (fun q h => h) (fun r2 σ3 t H1 locs1 ht hvm hw hB hz1 hk1 hS => ?_)
  have hP : va_P D vwCl (mw c q σ3) H1 := ht ▸ hB
  have hD : va_D (wdA 31 q) (mw c q σ3) := mw_D hD0
  refine lv_if_eq (tgt := 21) hx hb dX8_held_9 (by decide) (fun c4 => ?_) (fun c4 => ?_)
  · have hw := hw.1 c4
    refine lv_aload_n hx hb dX8_held_21 rfl (lv_at hl 0 rfl) ?_
    refine lv_iconst (v := (1 : Int32)) hx hb dX8_held_22 (by decide) ?_
    refine va_calli (va_runV (As := [.int (1 : Int32)]) (rest := []) ⟨hx, hb, hml, hown, htb⟩ (kcX8_fail l D c q ev hev σ3 (1 : Int32) _ hw) (tb_CW htb kX8_fail tb_1366 tb_1368 tb_42 ⟨Nat.le_of_ble_eq_true rfl, Nat.le_of_ble_eq_true rfl⟩) (wd_preV (wd := mw c q) (k := 0) hev hK hP hD hE hS (mw_0 c q σ3) rfl) rfl rfl hl.1 rfl (lv_room (Nat.le_of_ble_eq_true rfl)) dX8_held_23 ⟨Nat.zero_le _, Nat.zero_le _⟩) hS (fun q _ h => h) (fun q h => h) (fun r5 σ6 t H1 locs1 ht hvm hw hB hz1 hk1 hS => ?_)
    have hP : va_P D vwCl (mw c q σ6) H1 := ht ▸ hB
    have hD : va_D (wdA 31 q) (mw c q σ6) := mw_D hD0
    exact W.iret hx hb hr (fun t ht hW => ⟨⟨_, σ6, rfl, hw, by unfold wdB; rw [ht]; exact hP⟩, hS.F ht⟩) hS.2.2 dX8_held_26
  · have hw := hw.2 c4
    refine lv_iload_n hx hb dX8_held_12 rfl (lv_at hl 2 rfl) ?_
    refine lv_if_lt (tgt := 21) hx hb dX8_held_13 (by decide) (fun c7 => ?_) (fun c7 => ?_)
    · have hw := hw.1 c7
      refine lv_aload_n hx hb dX8_held_21 rfl (lv_at hl 0 rfl) ?_
      refine lv_iconst (v := (1 : Int32)) hx hb dX8_held_22 (by decide) ?_
      refine va_calli (va_runV (As := [.int (1 : Int32)]) (rest := []) ⟨hx, hb, hml, hown, htb⟩ (kcX8_fail l D c q ev hev σ3 (1 : Int32) _ hw) (tb_CW htb kX8_fail tb_1366 tb_1368 tb_42 ⟨Nat.le_of_ble_eq_true rfl, Nat.le_of_ble_eq_true rfl⟩) (wd_preV (wd := mw c q) (k := 0) hev hK hP hD hE hS (mw_0 c q σ3) rfl) rfl rfl hl.1 rfl (lv_room (Nat.le_of_ble_eq_true rfl)) dX8_held_23 ⟨Nat.zero_le _, Nat.zero_le _⟩) hS (fun q _ h => h) (fun q h => h) (fun r8 σ9 t H1 locs1 ht hvm hw hB hz1 hk1 hS => ?_)
      have hP : va_P D vwCl (mw c q σ9) H1 := ht ▸ hB
      have hD : va_D (wdA 31 q) (mw c q σ9) := mw_D hD0
      exact W.iret hx hb hr (fun t ht hW => ⟨⟨_, σ9, rfl, hw, by unfold wdB; rw [ht]; exact hP⟩, hS.F ht⟩) hS.2.2 dX8_held_26
    · have hw := hw.2 c7
      refine lv_iload_n hx hb dX8_held_16 rfl (lv_at hl 2 rfl) ?_
      refine lv_iconst (v := (1 : Int32)) hx hb dX8_held_17 (by decide) ?_
      refine lv_icmp_le (tgt := 27) hx hb dX8_held_18 (by decide) (fun c10 => ?_) (fun c10 => ?_)
      · have hw := hw.1 c10
        refine lv_aload_n hx hb dX8_held_27 rfl (lv_at hl 0 rfl) ?_
        refine lv_iload_n hx hb dX8_held_28 rfl (lv_at hl 1 rfl) ?_
        refine lv_iload_n hx hb dX8_held_29 rfl (lv_at hl 2 rfl) ?_
        refine va_calli (va_runV (As := [.int x1, .int x2]) (rest := []) ⟨hx, hb, hml, hown, htb⟩ (kcX8_why l D c q ev hev σ3 x1 x2 _ hw) (tb_CW htb kX8_why tb_1703 tb_1705 tb_88 ⟨Nat.le_of_ble_eq_true rfl, Nat.le_of_ble_eq_true rfl⟩) (wd_preV (wd := mw c q) (k := 0) hev hK hP hD hE hS (mw_0 c q σ3) rfl) rfl rfl hl.1 rfl (lv_room (Nat.le_of_ble_eq_true rfl)) dX8_held_30 ⟨Nat.zero_le _, Nat.zero_le _⟩) hS (fun q _ h => h) (fun q h => h) (fun r11 σ12 t H1 locs1 ht hvm hw hB hz1 hk1 hS => ?_)
        have hP : va_P D vwCl (mw c q σ12) H1 := ht ▸ hB
        have hD : va_D (wdA 31 q) (mw c q σ12) := mw_D hD0
        refine lv_istore_n (lv' := [(3, .int r11), (0, .ref (q 0)), (1, .int x1), (2, .int x2)]) hx hb dX8_held_33 rfl hl (by decide) rfl (fun ls hl => ?_)
        refine lv_iload_n hx hb dX8_held_34 rfl (lv_at hl 0 rfl) ?_
        refine lv_if_ne (tgt := 50) hx hb dX8_held_35 (by decide) (fun c13 => ?_) (fun c13 => ?_)
        · have hw := hw.2 c13
          refine lv_iload_n hx hb dX8_held_50 rfl (lv_at hl 0 rfl) ?_
          exact W.iret hx hb hr (fun t ht hW => ⟨⟨_, σ12, rfl, hw, by unfold wdB; rw [ht]; exact hP⟩, hS.F ht⟩) hS.2.2 dX8_held_51
        · have hw := hw.1 c13
          refine lv_bipush (v := (10 : Int32)) hx hb dX8_held_38 (by decide) ?_
          refine lv_aload_n hx hb dX8_held_40 rfl (lv_at hl 1 rfl) ?_
          refine va_get (D := D) (ci := 8) (C := RX8) (T := TX8) (N := 57) hx hb htb inX8 hown hK hP 0 (mw_0 c q σ12) rfl 56 (by decide) (htb _ tb_1237) (fun _ h9 => h9) rfl dX8_held_41 ?_
          refine lv_iload_n hx hb dX8_held_44 rfl (lv_at hl 2 rfl) ?_
          refine va_iald hx hb hK hP 30 29 (mw_30 c q σ12) rfl hw.1 dX8_held_45 ?_
          have hw := hw.2
          refine lv_iadd hx hb dX8_held_46 ?_
          refine lv_goto (tgt := 51) hx hb dX8_held_47 (by decide) ?_
          exact W.iret hx hb hr (fun t ht hW => ⟨⟨_, σ12, rfl, hw, by unfold wdB; rw [ht]; exact hP⟩, hS.F ht⟩) hS.2.2 dX8_held_51
      · have hw := hw.2 c10
        refine lv_aload_n hx hb dX8_held_21 rfl (lv_at hl 0 rfl) ?_
        refine lv_iconst (v := (1 : Int32)) hx hb dX8_held_22 (by decide) ?_
        refine va_calli (va_runV (As := [.int (1 : Int32)]) (rest := []) ⟨hx, hb, hml, hown, htb⟩ (kcX8_fail l D c q ev hev σ3 (1 : Int32) _ hw) (tb_CW htb kX8_fail tb_1366 tb_1368 tb_42 ⟨Nat.le_of_ble_eq_true rfl, Nat.le_of_ble_eq_true rfl⟩) (wd_preV (wd := mw c q) (k := 0) hev hK hP hD hE hS (mw_0 c q σ3) rfl) rfl rfl hl.1 rfl (lv_room (Nat.le_of_ble_eq_true rfl)) dX8_held_23 ⟨Nat.zero_le _, Nat.zero_le _⟩) hS (fun q _ h => h) (fun q h => h) (fun r14 σ15 t H1 locs1 ht hvm hw hB hz1 hk1 hS => ?_)
        have hP : va_P D vwCl (mw c q σ15) H1 := ht ▸ hB
        have hD : va_D (wdA 31 q) (mw c q σ15) := mw_D hD0
        exact W.iret hx hb hr (fun t ht hW => ⟨⟨_, σ15, rfl, hw, by unfold wdB; rw [ht]; exact hP⟩, hS.F ht⟩) hS.2.2 dX8_held_26
def wX8_left (x1 : Int32) (x2 : Int32) (post : Int32 → hsS → Prop) (σ : hsS) : Prop := ∀ σ1 : hsS, σ1 = hsI σ 0 (0 : Int32) → wX8_isHolder x1 (fun r2 σ3 => ((r2 = (0 : Int32) → wX8_fail (1 : Int32) (fun r5 σ6 => post r5 σ6) σ3) ∧ (¬ r2 = (0 : Int32) → wX8_isHolder x2 (fun r7 σ8 => ((r7 = (0 : Int32) → wX8_fail (1 : Int32) (fun r10 σ11 => post r10 σ11) σ8) ∧ (¬ r7 = (0 : Int32) → wX8_why x1 (0 : Int32) (fun r12 σ13 => wX8_why x2 (1 : Int32) (fun r14 σ15 => ((r12 = (0 : Int32) → ((r14 = (0 : Int32) → vp_in x2 8 ∧ wX8_leftBehind (σ15.2.1 30 x2.toNatClampNeg) (fun r18 σ19 => vp_in x1 8 ∧ ((((r18 >>> ((σ19.2.1 30 x1.toNatClampNeg) &&& 31)) &&& (1 : Int32)) = (1 : Int32) → post (11 : Int32) σ19) ∧ (¬ ((r18 >>> ((σ19.2.1 30 x1.toNatClampNeg) &&& 31)) &&& (1 : Int32)) = (1 : Int32) → post (10 : Int32) σ19))) σ15) ∧ (¬ r14 = (0 : Int32) → ((r12 = (0 : Int32) → post r14 σ15) ∧ (¬ r12 = (0 : Int32) → ((r14 = (0 : Int32) → post r12 σ15) ∧ (¬ r14 = (0 : Int32) → post (if r14 < r12 then r14 else r12) σ15))))))) ∧ (¬ r12 = (0 : Int32) → ((r12 = (0 : Int32) → post r14 σ15) ∧ (¬ r12 = (0 : Int32) → ((r14 = (0 : Int32) → post r12 σ15) ∧ (¬ r14 = (0 : Int32) → post (if r14 < r12 then r14 else r12) σ15))))))) σ13) σ8))) σ3))) σ1
set_option maxHeartbeats 4000000 in
set_option maxRecDepth 100000 in
theorem kcX8_left (l : Launch) (D : va_G) (c : Nat → ClassId) (q : Nat → Nat) (ev : State → Heap → Prop) (hev : evOK (wdA 31 q) ev) (σ : hsS) (x1 : Int32) (x2 : Int32) (post : Int32 → hsS → Prop) (hw : wX8_left x1 x2 post σ) : Met l yX8_left (Cond.code yX8_left cX8_left 5 (some .int) :: tb_L) { frames := 2, cells := 0, slots := 0, locals := 42 } (wdPc D (mw c q) (mwT c) (wdA 31 q) ev σ [.ref (q 0), .int x1, .int x2]) (va_Qi post (wdB D (mw c q)) (wdA 31 q)) 0 0 (wdA 31 q) := by
  refine Met.ofW (cc := cX8_left) (maxL := 5) (ret := (some .int)) (by decide) rfl ?_
  intro p e s m args below meth c₀ s₁ Bd hml hv
  obtain ⟨rfl, hP, hK, hD0, hE⟩ := hv
  have hx := Bd.exec
  have hb := Bd.bytes
  have hr := Bd.returns
  have hts := atoms_spec (ws := Cond.code yX8_left cX8_left 5 (some .int) :: tb_L) Bd.pre
  have htb : ∀ w ∈ tb_L, w.before [.ref (q 0), .int x1, .int x2].toArray s = true := fun w h => hts w (List.mem_cons_of_mem _ h)
  have hown : s.vm.findClass RX8 = some m.cls := findClass_of_methodNamed Bd.named
  have hlocks := Bd.notSynchronized
  have hS : va_S (wdA 31 q) s.heap s.heap [] := va_S.rf
  have hD := hD0
  have hl := lv_entry ([.ref (q 0), .int x1, .int x2]) (n := 5) (Nat.le_of_ble_eq_true rfl)
  rw [lg_entry_eq]
  generalize (lg_sl ([.ref (q 0), .int x1, .int x2]) ++ List.replicate (5 - (lg_sl ([.ref (q 0), .int x1, .int x2])).length) Slot.unset).toArray = ls at hl ⊢
  have hl : lv_has ls 5 [(0, .ref (q 0)), (1, .int x1), (2, .int x2)] := hl
  unfold wX8_left at hw
  refine lv_aload_n hx hb dX8_left_0 rfl (lv_at hl 0 rfl) ?_
  refine lv_iconst (v := (0 : Int32)) hx hb dX8_left_1 (by decide) ?_
  refine va_put (D := D) (ci := 8) (ty := .int) (C := RX8) (T := TX8) (N := 57) hx hb htb inX8 tyX8 tyX8_ok nmX8 hown hK hP hD hS 0 (mw_0 c q σ) rfl 0 (by decide) (htb _ tb_1181) (fun _ h9 => h9) rfl (by decide +kernel) rfl rfl (Nat.le_of_ble_eq_true rfl) dX8_left_2 (fun H locs hP hD hS => ?_)
  have hP : va_P D vwCl (mw c q (hsI σ 0 (0 : Int32))) H := hP
  obtain ⟨σ1, eσ1⟩ : ∃ z : hsS, z = hsI σ 0 (0 : Int32) := ⟨_, rfl⟩
  rw [← eσ1] at hP
  have hD : va_D (wdA 31 q) (mw c q σ1) := mw_D hD0
  have hw := hw σ1 eσ1
  refine lv_iload_n hx hb dX8_left_5 rfl (lv_at hl 1 rfl) ?_
  refine va_calli (va_runS (As := [.int x1]) (rest := []) ⟨hx, hb, hml, hown, htb⟩ (kcX8_isHolder_m l D c q ev hev σ1 x1 _ hw) (tb_CS htb kX8_isHolder tb_1696 tb_1697 ⟨Nat.le_of_ble_eq_true rfl, Nat.le_of_ble_eq_true rfl⟩) (wd_preS (wd := mw c q) hev hK hP hD hE hS) rfl rfl hl.1 rfl (lv_room (Nat.le_of_ble_eq_true rfl)) dX8_left_6 ⟨Nat.zero_le _, Nat.zero_le _⟩) hS (fun q _ h => h) (fun q h => h) (fun r2 σ3 t H1 locs1 ht hvm hw hB hz1 hk1 hS => ?_)
  have hP : va_P D vwCl (mw c q σ3) H1 := ht ▸ hB
  have hD : va_D (wdA 31 q) (mw c q σ3) := mw_D hD0
  refine lv_if_eq (tgt := 19) hx hb dX8_left_9 (by decide) (fun c4 => ?_) (fun c4 => ?_)
  · have hw := hw.1 c4
    refine lv_aload_n hx hb dX8_left_19 rfl (lv_at hl 0 rfl) ?_
    refine lv_iconst (v := (1 : Int32)) hx hb dX8_left_20 (by decide) ?_
    refine va_calli (va_runV (As := [.int (1 : Int32)]) (rest := []) ⟨hx, hb, hml, hown, htb⟩ (kcX8_fail l D c q ev hev σ3 (1 : Int32) _ hw) (tb_CW htb kX8_fail tb_1366 tb_1368 tb_42 ⟨Nat.le_of_ble_eq_true rfl, Nat.le_of_ble_eq_true rfl⟩) (wd_preV (wd := mw c q) (k := 0) hev hK hP hD hE hS (mw_0 c q σ3) rfl) rfl rfl hl.1 rfl (lv_room (Nat.le_of_ble_eq_true rfl)) dX8_left_21 ⟨Nat.zero_le _, Nat.zero_le _⟩) hS (fun q _ h => h) (fun q h => h) (fun r5 σ6 t H1 locs1 ht hvm hw hB hz1 hk1 hS => ?_)
    have hP : va_P D vwCl (mw c q σ6) H1 := ht ▸ hB
    have hD : va_D (wdA 31 q) (mw c q σ6) := mw_D hD0
    exact W.iret hx hb hr (fun t ht hW => ⟨⟨_, σ6, rfl, hw, by unfold wdB; rw [ht]; exact hP⟩, hS.F ht⟩) hS.2.2 dX8_left_24
  · have hw := hw.2 c4
    refine lv_iload_n hx hb dX8_left_12 rfl (lv_at hl 2 rfl) ?_
    refine va_calli (va_runS (As := [.int x2]) (rest := []) ⟨hx, hb, hml, hown, htb⟩ (kcX8_isHolder_m l D c q ev hev σ3 x2 _ hw) (tb_CS htb kX8_isHolder tb_1696 tb_1697 ⟨Nat.le_of_ble_eq_true rfl, Nat.le_of_ble_eq_true rfl⟩) (wd_preS (wd := mw c q) hev hK hP hD hE hS) rfl rfl hl.1 rfl (lv_room (Nat.le_of_ble_eq_true rfl)) dX8_left_13 ⟨Nat.zero_le _, Nat.zero_le _⟩) hS (fun q _ h => h) (fun q h => h) (fun r7 σ8 t H1 locs1 ht hvm hw hB hz1 hk1 hS => ?_)
    have hP : va_P D vwCl (mw c q σ8) H1 := ht ▸ hB
    have hD : va_D (wdA 31 q) (mw c q σ8) := mw_D hD0
    refine lv_if_ne (tgt := 25) hx hb dX8_left_16 (by decide) (fun c9 => ?_) (fun c9 => ?_)
    · have hw := hw.2 c9
      refine lv_aload_n hx hb dX8_left_25 rfl (lv_at hl 0 rfl) ?_
      refine lv_iload_n hx hb dX8_left_26 rfl (lv_at hl 1 rfl) ?_
      refine lv_iconst (v := (0 : Int32)) hx hb dX8_left_27 (by decide) ?_
      refine va_calli (va_runV (As := [.int x1, .int (0 : Int32)]) (rest := []) ⟨hx, hb, hml, hown, htb⟩ (kcX8_why l D c q ev hev σ8 x1 (0 : Int32) _ hw) (tb_CW htb kX8_why tb_1703 tb_1705 tb_88 ⟨Nat.le_of_ble_eq_true rfl, Nat.le_of_ble_eq_true rfl⟩) (wd_preV (wd := mw c q) (k := 0) hev hK hP hD hE hS (mw_0 c q σ8) rfl) rfl rfl hl.1 rfl (lv_room (Nat.le_of_ble_eq_true rfl)) dX8_left_28 ⟨Nat.zero_le _, Nat.zero_le _⟩) hS (fun q _ h => h) (fun q h => h) (fun r12 σ13 t H1 locs1 ht hvm hw hB hz1 hk1 hS => ?_)
      have hP : va_P D vwCl (mw c q σ13) H1 := ht ▸ hB
      have hD : va_D (wdA 31 q) (mw c q σ13) := mw_D hD0
      refine lv_istore_n (lv' := [(3, .int r12), (0, .ref (q 0)), (1, .int x1), (2, .int x2)]) hx hb dX8_left_31 rfl hl (by decide) rfl (fun ls hl => ?_)
      refine lv_aload_n hx hb dX8_left_32 rfl (lv_at hl 1 rfl) ?_
      refine lv_iload_n hx hb dX8_left_33 rfl (lv_at hl 3 rfl) ?_
      refine lv_iconst (v := (1 : Int32)) hx hb dX8_left_34 (by decide) ?_
      refine va_calli (va_runV (As := [.int x2, .int (1 : Int32)]) (rest := []) ⟨hx, hb, hml, hown, htb⟩ (kcX8_why l D c q ev hev σ13 x2 (1 : Int32) _ hw) (tb_CW htb kX8_why tb_1703 tb_1705 tb_88 ⟨Nat.le_of_ble_eq_true rfl, Nat.le_of_ble_eq_true rfl⟩) (wd_preV (wd := mw c q) (k := 0) hev hK hP hD hE hS (mw_0 c q σ13) rfl) rfl rfl hl.1 rfl (lv_room (Nat.le_of_ble_eq_true rfl)) dX8_left_35 ⟨Nat.zero_le _, Nat.zero_le _⟩) hS (fun q _ h => h) (fun q h => h) (fun r14 σ15 t H1 locs1 ht hvm hw hB hz1 hk1 hS => ?_)
      have hP : va_P D vwCl (mw c q σ15) H1 := ht ▸ hB
      have hD : va_D (wdA 31 q) (mw c q σ15) := mw_D hD0
      refine lv_istore (lv' := [(4, .int r14), (3, .int r12), (0, .ref (q 0)), (1, .int x1), (2, .int x2)]) hx hb dX8_left_38 hl (by decide) rfl (fun ls hl => ?_)
      refine lv_iload_n hx hb dX8_left_40 rfl (lv_at hl 1 rfl) ?_
      refine lv_if_ne (tgt := 49) hx hb dX8_left_41 (by decide) (fun c16 => ?_) (fun c16 => ?_)
      · have hw := hw.2 c16
        refine lv_iload_n hx hb dX8_left_49 rfl (lv_at hl 1 rfl) ?_
        refine lv_if_ne (tgt := 58) hx hb dX8_left_50 (by decide) (fun c23 => ?_) (fun c23 => ?_)
        · have hw := hw.2 c23
          refine lv_iload hx hb dX8_left_58 (lv_at hl 0 rfl) ?_
          refine lv_if_ne (tgt := 67) hx hb dX8_left_60 (by decide) (fun c24 => ?_) (fun c24 => ?_)
          · have hw := hw.2 c24
            refine lv_iload_n hx hb dX8_left_67 rfl (lv_at hl 1 rfl) ?_
            refine lv_iload hx hb dX8_left_68 (lv_at hl 0 rfl) ?_
            refine va_mmin hx hb (hml.trans hl.1.symm) hown (htb _ tb_1384) (htb _ tb_413) (htb _ tb_104) (htb _ tb_414) (Nat.le_of_ble_eq_true rfl) (Nat.le_of_ble_eq_true rfl) (Nat.zero_le _) (Nat.zero_le _) dX8_left_70 ?_
            exact W.iret hx hb hr (fun t ht hW => ⟨⟨_, σ15, rfl, hw, by unfold wdB; rw [ht]; exact hP⟩, hS.F ht⟩) hS.2.2 dX8_left_73
          · have hw := hw.1 c24
            refine lv_iload_n hx hb dX8_left_63 rfl (lv_at hl 1 rfl) ?_
            refine lv_goto (tgt := 73) hx hb dX8_left_64 (by decide) ?_
            exact W.iret hx hb hr (fun t ht hW => ⟨⟨_, σ15, rfl, hw, by unfold wdB; rw [ht]; exact hP⟩, hS.F ht⟩) hS.2.2 dX8_left_73
        · have hw := hw.1 c23
          refine lv_iload hx hb dX8_left_53 (lv_at hl 0 rfl) ?_
          refine lv_goto (tgt := 73) hx hb dX8_left_55 (by decide) ?_
          exact W.iret hx hb hr (fun t ht hW => ⟨⟨_, σ15, rfl, hw, by unfold wdB; rw [ht]; exact hP⟩, hS.F ht⟩) hS.2.2 dX8_left_73
      · have hw := hw.1 c16
        refine lv_iload hx hb dX8_left_44 (lv_at hl 0 rfl) ?_
        refine lv_if_eq (tgt := 74) hx hb dX8_left_46 (by decide) (fun c17 => ?_) (fun c17 => ?_)
        · have hw := hw.1 c17
          refine lv_aload_n hx hb dX8_left_74 rfl (lv_at hl 2 rfl) ?_
          refine lv_aload_n hx hb dX8_left_75 rfl (lv_at hl 2 rfl) ?_
          refine va_get (D := D) (ci := 8) (C := RX8) (T := TX8) (N := 57) hx hb htb inX8 hown hK hP 0 (mw_0 c q σ15) rfl 56 (by decide) (htb _ tb_1237) (fun _ h9 => h9) rfl dX8_left_76 ?_
          refine lv_iload_n hx hb dX8_left_79 rfl (lv_at hl 4 rfl) ?_
          refine va_iald hx hb hK hP 30 29 (mw_30 c q σ15) rfl hw.1 dX8_left_80 ?_
          have hw := hw.2
          refine va_calli (va_runV (As := [.int (σ15.2.1 30 x2.toNatClampNeg)]) (rest := []) ⟨hx, hb, hml, hown, htb⟩ (kcX8_leftBehind l D c q ev hev σ15 (σ15.2.1 30 x2.toNatClampNeg) _ hw) (tb_CW htb kX8_leftBehind tb_1688 tb_1690 tb_87 ⟨Nat.le_of_ble_eq_true rfl, Nat.le_of_ble_eq_true rfl⟩) (wd_preV (wd := mw c q) (k := 0) hev hK hP hD hE hS (mw_0 c q σ15) rfl) rfl rfl hl.1 rfl (lv_room (Nat.le_of_ble_eq_true rfl)) dX8_left_81 ⟨Nat.zero_le _, Nat.zero_le _⟩) hS (fun q _ h => h) (fun q h => h) (fun r18 σ19 t H1 locs1 ht hvm hw hB hz1 hk1 hS => ?_)
          have hP : va_P D vwCl (mw c q σ19) H1 := ht ▸ hB
          have hD : va_D (wdA 31 q) (mw c q σ19) := mw_D hD0
          refine lv_aload_n hx hb dX8_left_84 rfl (lv_at hl 2 rfl) ?_
          refine va_get (D := D) (ci := 8) (C := RX8) (T := TX8) (N := 57) hx hb htb inX8 hown hK hP 0 (mw_0 c q σ19) rfl 56 (by decide) (htb _ tb_1237) (fun _ h9 => h9) rfl dX8_left_85 ?_
          refine lv_iload_n hx hb dX8_left_88 rfl (lv_at hl 3 rfl) ?_
          refine va_iald hx hb hK hP 30 29 (mw_30 c q σ19) rfl hw.1 dX8_left_89 ?_
          have hw := hw.2
          refine lv_ishr hx hb dX8_left_90 ?_
          refine lv_iconst (v := (1 : Int32)) hx hb dX8_left_91 (by decide) ?_
          refine lv_iand hx hb dX8_left_92 ?_
          refine lv_iconst (v := (1 : Int32)) hx hb dX8_left_93 (by decide) ?_
          refine lv_icmp_ne (tgt := 102) hx hb dX8_left_94 (by decide) (fun c20 => ?_) (fun c20 => ?_)
          · have hw := hw.2 c20
            refine lv_bipush (v := (10 : Int32)) hx hb dX8_left_102 (by decide) ?_
            exact W.iret hx hb hr (fun t ht hW => ⟨⟨_, σ19, rfl, hw, by unfold wdB; rw [ht]; exact hP⟩, hS.F ht⟩) hS.2.2 dX8_left_104
          · have hw := hw.1 c20
            refine lv_bipush (v := (11 : Int32)) hx hb dX8_left_97 (by decide) ?_
            refine lv_goto (tgt := 104) hx hb dX8_left_99 (by decide) ?_
            exact W.iret hx hb hr (fun t ht hW => ⟨⟨_, σ19, rfl, hw, by unfold wdB; rw [ht]; exact hP⟩, hS.F ht⟩) hS.2.2 dX8_left_104
        · have hw := hw.2 c17
          refine lv_iload_n hx hb dX8_left_49 rfl (lv_at hl 1 rfl) ?_
          refine lv_if_ne (tgt := 58) hx hb dX8_left_50 (by decide) (fun c21 => ?_) (fun c21 => ?_)
          · have hw := hw.2 c21
            refine lv_iload hx hb dX8_left_58 (lv_at hl 0 rfl) ?_
            refine lv_if_ne (tgt := 67) hx hb dX8_left_60 (by decide) (fun c22 => ?_) (fun c22 => ?_)
            · have hw := hw.2 c22
              refine lv_iload_n hx hb dX8_left_67 rfl (lv_at hl 1 rfl) ?_
              refine lv_iload hx hb dX8_left_68 (lv_at hl 0 rfl) ?_
              refine va_mmin hx hb (hml.trans hl.1.symm) hown (htb _ tb_1384) (htb _ tb_413) (htb _ tb_104) (htb _ tb_414) (Nat.le_of_ble_eq_true rfl) (Nat.le_of_ble_eq_true rfl) (Nat.zero_le _) (Nat.zero_le _) dX8_left_70 ?_
              exact W.iret hx hb hr (fun t ht hW => ⟨⟨_, σ15, rfl, hw, by unfold wdB; rw [ht]; exact hP⟩, hS.F ht⟩) hS.2.2 dX8_left_73
            · have hw := hw.1 c22
              refine lv_iload_n hx hb dX8_left_63 rfl (lv_at hl 1 rfl) ?_
              refine lv_goto (tgt := 73) hx hb dX8_left_64 (by decide) ?_
              exact W.iret hx hb hr (fun t ht hW => ⟨⟨_, σ15, rfl, hw, by unfold wdB; rw [ht]; exact hP⟩, hS.F ht⟩) hS.2.2 dX8_left_73
          · have hw := hw.1 c21
            refine lv_iload hx hb dX8_left_53 (lv_at hl 0 rfl) ?_
            refine lv_goto (tgt := 73) hx hb dX8_left_55 (by decide) ?_
            exact W.iret hx hb hr (fun t ht hW => ⟨⟨_, σ15, rfl, hw, by unfold wdB; rw [ht]; exact hP⟩, hS.F ht⟩) hS.2.2 dX8_left_73
    · have hw := hw.1 c9
      refine lv_aload_n hx hb dX8_left_19 rfl (lv_at hl 0 rfl) ?_
      refine lv_iconst (v := (1 : Int32)) hx hb dX8_left_20 (by decide) ?_
      refine va_calli (va_runV (As := [.int (1 : Int32)]) (rest := []) ⟨hx, hb, hml, hown, htb⟩ (kcX8_fail l D c q ev hev σ8 (1 : Int32) _ hw) (tb_CW htb kX8_fail tb_1366 tb_1368 tb_42 ⟨Nat.le_of_ble_eq_true rfl, Nat.le_of_ble_eq_true rfl⟩) (wd_preV (wd := mw c q) (k := 0) hev hK hP hD hE hS (mw_0 c q σ8) rfl) rfl rfl hl.1 rfl (lv_room (Nat.le_of_ble_eq_true rfl)) dX8_left_21 ⟨Nat.zero_le _, Nat.zero_le _⟩) hS (fun q _ h => h) (fun q h => h) (fun r10 σ11 t H1 locs1 ht hvm hw hB hz1 hk1 hS => ?_)
      have hP : va_P D vwCl (mw c q σ11) H1 := ht ▸ hB
      have hD : va_D (wdA 31 q) (mw c q σ11) := mw_D hD0
      exact W.iret hx hb hr (fun t ht hW => ⟨⟨_, σ11, rfl, hw, by unfold wdB; rw [ht]; exact hP⟩, hS.F ht⟩) hS.2.2 dX8_left_24
