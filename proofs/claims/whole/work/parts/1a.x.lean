theorem kX3_hasRoomFor : tbM yX3_hasRoomFor cX3_hasRoomFor 2 (some .boolean) 1 := ⟨tb_377, tb_92, by decide +kernel, by decide +kernel⟩
theorem kX3_put : tbM yX3_put cX3_put 3 none 1 := ⟨tb_381, tb_92, by decide +kernel, by decide +kernel⟩
theorem kX7_feed : tbM yX7_feed cX7_feed 6 (some .int) 5 := ⟨tb_373, tb_90, by decide +kernel, by decide +kernel⟩
theorem kX1_reset : tbM yX1_reset cX1_reset 1 none 0 := ⟨tb_711, tb_91, by decide +kernel, by decide +kernel⟩
theorem kX3_byteAt : tbM yX3_byteAt cX3_byteAt 2 (some .int) 1 := ⟨tb_719, tb_92, by decide +kernel, by decide +kernel⟩
theorem kX3_isBlank : tbM yX3_isBlank cX3_isBlank 1 (some .boolean) 1 := ⟨tb_722, tb_92, by decide +kernel, by decide +kernel⟩
theorem kX3_isLetter : tbM yX3_isLetter cX3_isLetter 1 (some .boolean) 1 := ⟨tb_725, tb_92, by decide +kernel, by decide +kernel⟩
theorem kX3_isDigit : tbM yX3_isDigit cX3_isDigit 1 (some .boolean) 1 := ⟨tb_732, tb_92, by decide +kernel, by decide +kernel⟩
theorem kX3_passDigits : tbM yX3_passDigits cX3_passDigits 1 none 0 := ⟨tb_736, tb_92, by decide +kernel, by decide +kernel⟩
theorem kX3_passLetters : tbM yX3_passLetters cX3_passLetters 1 none 0 := ⟨tb_729, tb_92, by decide +kernel, by decide +kernel⟩
theorem kX3_next : tbM yX3_next cX3_next 1 none 0 := ⟨tb_715, tb_92, by decide +kernel, by decide +kernel⟩
theorem kJ0_coder_7d493 : tbM yJ0_coder_7d493 cJ0_coder_7d493 1 (some .byte) 0 := ⟨tb_757, tb_105, by decide +kernel, by decide +kernel⟩
theorem kJ0_length_8abf5 : tbM yJ0_length_8abf5 cJ0_length_8abf5 1 (some .int) 0 := ⟨tb_753, tb_105, by decide +kernel, by decide +kernel⟩
theorem kJ0_isLatin1_aae02 : tbM yJ0_isLatin1_aae02 cJ0_isLatin1_aae02 1 (some .boolean) 0 := ⟨tb_767, tb_105, by decide +kernel, by decide +kernel⟩
theorem kJ3_checkIndex_8e157 : tbM yJ3_checkIndex_8e157 cJ3_checkIndex_8e157 3 (some .int) 3 := ⟨tb_778, tb_107, by decide +kernel, by decide +kernel⟩
theorem kJ0_checkIndex_df160 : tbM yJ0_checkIndex_df160 cJ0_checkIndex_df160 2 none 2 := ⟨tb_773, tb_105, by decide +kernel, by decide +kernel⟩
theorem kJ1_charAt_3b067 : tbM yJ1_charAt_3b067 cJ1_charAt_3b067 2 (some .char) 2 := ⟨tb_770, tb_106, by decide +kernel, by decide +kernel⟩
theorem kJ0_charAt_5068e : tbM yJ0_charAt_5068e cJ0_charAt_5068e 2 (some .char) 1 := ⟨tb_763, tb_105, by decide +kernel, by decide +kernel⟩
theorem kX3_isWord : tbM yX3_isWord cX3_isWord 3 (some .boolean) 1 := ⟨tb_749, tb_92, by decide +kernel, by decide +kernel⟩
theorem kX3_fail : tbM yX3_fail cX3_fail 2 (some .boolean) 1 := ⟨tb_801, tb_92, by decide +kernel, by decide +kernel⟩
theorem kX3_passWord : tbM yX3_passWord cX3_passWord 2 (some .boolean) 1 := ⟨tb_745, tb_92, by decide +kernel, by decide +kernel⟩
def wX3_hasRoomFor (b0 : Nat) (x1 : Int32) (post : Int32 → hsS → Prop) (σ : hsS) : Prop := (((600 : Int32) < ((σ.1 (64 * b0 + 2)) + x1) → post (0 : Int32) σ) ∧ (¬ (600 : Int32) < ((σ.1 (64 * b0 + 2)) + x1) → post (1 : Int32) σ))
set_option maxHeartbeats 4000000 in
set_option maxRecDepth 100000 in
theorem kcX3_hasRoomFor_11 (l : Launch) (D : va_G) (c : Nat → ClassId) (q : Nat → Nat) (ev : State → Heap → Prop) (hev : evOK (wdA 36 q) ev) (σ : hsS) (x1 : Int32) (post : Int32 → hsS → Prop) (hw : wX3_hasRoomFor 11 x1 post σ) : Met l yX3_hasRoomFor (Cond.code yX3_hasRoomFor cX3_hasRoomFor 2 (some .boolean) :: tb_L) { frames := 0, cells := 0, slots := 0, locals := 0 } (wdPc D (xw c q) (xwT c) (wdA 36 q) ev σ [.ref (q 11), .int x1]) (va_Qi post (wdB D (xw c q)) (wdA 36 q)) 0 0 (wdA 36 q) := by
  refine Met.ofW (cc := cX3_hasRoomFor) (maxL := 2) (ret := (some .boolean)) (by decide) rfl ?_
  intro p e s m args below meth c₀ s₁ Bd hml hv
  obtain ⟨rfl, hP, hK, hD0, hE⟩ := hv
  have hx := Bd.exec
  have hb := Bd.bytes
  have hr := Bd.returns
  have hts := atoms_spec (ws := Cond.code yX3_hasRoomFor cX3_hasRoomFor 2 (some .boolean) :: tb_L) Bd.pre
  have htb : ∀ w ∈ tb_L, w.before [.ref (q 11), .int x1].toArray s = true := fun w h => hts w (List.mem_cons_of_mem _ h)
  have hown : s.vm.findClass RX3 = some m.cls := findClass_of_methodNamed Bd.named
  have hlocks := Bd.notSynchronized
  have hS : va_S (wdA 36 q) s.heap s.heap [] := va_S.rf
  have hD := hD0
  have hl := lv_entry ([.ref (q 11), .int x1]) (n := 2) (Nat.le_of_ble_eq_true rfl)
  rw [lg_entry_eq]
  generalize (lg_sl ([.ref (q 11), .int x1]) ++ List.replicate (2 - (lg_sl ([.ref (q 11), .int x1])).length) Slot.unset).toArray = ls at hl ⊢
  have hl : lv_has ls 2 [(0, .ref (q 11)), (1, .int x1)] := hl
  unfold wX3_hasRoomFor at hw
  refine lv_aload_n hx hb dX3_hasRoomFor_0 rfl (lv_at hl 0 rfl) ?_
  refine va_get (D := D) (ci := 3) (C := RX3) (T := TX3) (N := 10) hx hb htb inX3 hown hK hP 11 (xw_11 c q σ) rfl 2 (by decide) (htb _ tb_204) (fun _ h9 => h9) rfl dX3_hasRoomFor_1 ?_
  refine lv_iload_n hx hb dX3_hasRoomFor_4 rfl (lv_at hl 1 rfl) ?_
  refine lv_iadd hx hb dX3_hasRoomFor_5 ?_
  refine lv_sipush (v := (600 : Int32)) hx hb dX3_hasRoomFor_6 (by decide) ?_
  refine lv_icmp_gt (tgt := 16) hx hb dX3_hasRoomFor_9 (by decide) (fun c1 => ?_) (fun c1 => ?_)
  · have hw := hw.1 c1
    refine lv_iconst (v := (0 : Int32)) hx hb dX3_hasRoomFor_16 (by decide) ?_
    exact W.zret hx hb hr rfl (fun t ht hW => ⟨⟨_, σ, rfl, hw, by unfold wdB; rw [ht]; exact hP⟩, hS.F ht⟩) hS.2.2 dX3_hasRoomFor_17
  · have hw := hw.2 c1
    refine lv_iconst (v := (1 : Int32)) hx hb dX3_hasRoomFor_12 (by decide) ?_
    refine lv_goto (tgt := 17) hx hb dX3_hasRoomFor_13 (by decide) ?_
    exact W.zret hx hb hr rfl (fun t ht hW => ⟨⟨_, σ, rfl, hw, by unfold wdB; rw [ht]; exact hP⟩, hS.F ht⟩) hS.2.2 dX3_hasRoomFor_17
def wX3_put_L3 (b0 : Nat) (z1 : Int32) (K46 : Int32 → hsS → Prop) (post : hsS → Prop) : Nat → Int32 → hsS → Prop
  | 0, _, _ => False
  | n + 1, y2, σ => ((y2 < (0 : Int32) → K46 y2 σ) ∧ (¬ y2 < (0 : Int32) → (((600 : Int32) ≤ (σ.1 (64 * b0 + 2)) → K46 y2 σ) ∧ (¬ (600 : Int32) ≤ (σ.1 (64 * b0 + 2)) → vp_in (σ.1 (64 * b0 + 2)) 600 ∧ ∀ σ3 : hsS, σ3 = hsA σ (b0 + 1) (upd (σ.2.1 (b0 + 1)) (σ.1 (64 * b0 + 2)).toNatClampNeg (vp_nar .byte ((z1 >>> (y2 &&& 31)).toInt8.toInt32))) → ∀ σ4 : hsS, σ4 = hsI σ3 (64 * b0 + 2) ((σ3.1 (64 * b0 + 2)) + (1 : Int32)) → ∀ v5 : Int32, v5 = y2 + (-8 : Int32) → wX3_put_L3 b0 z1 K46 post n v5 σ4))))
def wX3_put (b0 : Nat) (x1 : Int32) (post : hsS → Prop) (σ : hsS) : Prop := ∃ n6, wX3_put_L3 b0 x1 (fun v7 σ8 => post σ8) post n6 (24 : Int32) σ
set_option maxHeartbeats 4000000 in
set_option maxRecDepth 100000 in
theorem kcX3_put_11 (l : Launch) (D : va_G) (c : Nat → ClassId) (q : Nat → Nat) (ev : State → Heap → Prop) (hev : evOK (wdA 36 q) ev) (σ : hsS) (x1 : Int32) (post : hsS → Prop) (hw : wX3_put 11 x1 post σ) : Met l yX3_put (Cond.code yX3_put cX3_put 3 none :: tb_L) { frames := 0, cells := 0, slots := 0, locals := 0 } (wdPc D (xw c q) (xwT c) (wdA 36 q) ev σ [.ref (q 11), .int x1]) (va_Qv post (wdB D (xw c q)) (wdA 36 q)) 0 0 (wdA 36 q) := by
  refine Met.ofW (cc := cX3_put) (maxL := 3) (ret := none) (by decide) rfl ?_
  intro p e s m args below meth c₀ s₁ Bd hml hv
  obtain ⟨rfl, hP, hK, hD0, hE⟩ := hv
  have hx := Bd.exec
  have hb := Bd.bytes
  have hr := Bd.returns
  have hts := atoms_spec (ws := Cond.code yX3_put cX3_put 3 none :: tb_L) Bd.pre
  have htb : ∀ w ∈ tb_L, w.before [.ref (q 11), .int x1].toArray s = true := fun w h => hts w (List.mem_cons_of_mem _ h)
  have hown : s.vm.findClass RX3 = some m.cls := findClass_of_methodNamed Bd.named
  have hlocks := Bd.notSynchronized
  have hS : va_S (wdA 36 q) s.heap s.heap [] := va_S.rf
  have hD := hD0
  have L3 : ∀ (K46 : Int32 → hsS → Prop) (z1 : Int32) (n : Nat) (y2 : Int32) (σ : hsS) (H : Heap) (locs : List Loc) (ls : Array Slot), wX3_put_L3 11 z1 K46 post n y2 σ → (∀ (y2 : Int32) (σ : hsS) (H : Heap) (locs : List Loc) (ls : Array Slot), K46 y2 σ → va_P D vwCl (xw c q σ) H → va_S (wdA 36 q) s.heap H locs → lv_has ls 3 [(0, .ref (q 11)), (1, .int z1), (2, .int y2)] → W p l e (headSpec (Cond.code yX3_put cX3_put 3 none :: tb_L) { frames := 0, cells := 0, slots := 0, locals := 0 }).room s m [.ref (q 11), .int x1].toArray below meth c₀ H locs 0 0 (MQ below (va_Qv post (wdB D (xw c q)) (wdA 36 q)) [.ref (q 11), .int x1].toArray s 0 0 (wdA 36 q)) (F0 m 46 ls [])) → va_P D vwCl (xw c q σ) H → va_S (wdA 36 q) s.heap H locs → lv_has ls 3 [(0, .ref (q 11)), (1, .int z1), (2, .int y2)] → W p l e (headSpec (Cond.code yX3_put cX3_put 3 none :: tb_L) { frames := 0, cells := 0, slots := 0, locals := 0 }).room s m [.ref (q 11), .int x1].toArray below meth c₀ H locs 0 0 (MQ below (va_Qv post (wdB D (xw c q)) (wdA 36 q)) [.ref (q 11), .int x1].toArray s 0 0 (wdA 36 q)) (F0 m 3 ls []) := by
    intro K46 z1 n
    induction n with
    | zero =>
      intro y2 σ H locs ls hw hk46 hP hS hl
      exact (show False from hw).elim
    | succ n ih =>
      intro y2 σ H locs ls hw hk46 hP hS hl
      rw [wX3_put_L3] at hw
      have hD : va_D (wdA 36 q) (xw c q σ) := xw_D hD0
      refine lv_iload_n hx hb dX3_put_3 rfl (lv_at hl 2 rfl) ?_
      refine lv_if_lt (tgt := 46) hx hb dX3_put_4 (by decide) (fun c1 => ?_) (fun c1 => ?_)
      · have hw := hw.1 c1
        exact hk46 y2 σ _ _ _ hw hP hS (lv_sub hl [0, 1, 2] rfl)
      · have hw := hw.2 c1
        refine lv_aload_n hx hb dX3_put_7 rfl (lv_at hl 0 rfl) ?_
        refine va_get (D := D) (ci := 3) (C := RX3) (T := TX3) (N := 10) hx hb htb inX3 hown hK hP 11 (xw_11 c q σ) rfl 2 (by decide) (htb _ tb_204) (fun _ h9 => h9) rfl dX3_put_8 ?_
        refine lv_sipush (v := (600 : Int32)) hx hb dX3_put_11 (by decide) ?_
        refine lv_icmp_ge (tgt := 46) hx hb dX3_put_14 (by decide) (fun c2 => ?_) (fun c2 => ?_)
        · have hw := hw.1 c2
          exact hk46 y2 σ _ _ _ hw hP hS (lv_sub hl [0, 1, 2] rfl)
        · have hw := hw.2 c2
          refine lv_aload_n hx hb dX3_put_17 rfl (lv_at hl 0 rfl) ?_
          refine va_get (D := D) (ci := 3) (C := RX3) (T := TX3) (N := 10) hx hb htb inX3 hown hK hP 11 (xw_11 c q σ) rfl 0 (by decide) (htb _ tb_201) (fun _ h9 => h9) rfl dX3_put_18 ?_
          refine lv_aload_n hx hb dX3_put_21 rfl (lv_at hl 0 rfl) ?_
          refine va_get (D := D) (ci := 3) (C := RX3) (T := TX3) (N := 10) hx hb htb inX3 hown hK hP 11 (xw_11 c q σ) rfl 2 (by decide) (htb _ tb_204) (fun _ h9 => h9) rfl dX3_put_22 ?_
          refine lv_iload_n hx hb dX3_put_25 rfl (lv_at hl 1 rfl) ?_
          refine lv_iload_n hx hb dX3_put_26 rfl (lv_at hl 2 rfl) ?_
          refine lv_ishr hx hb dX3_put_27 ?_
          refine lv_i2b hx hb dX3_put_28 rfl ?_
          refine va_bast hx hb hK hP hD hS 12 8 (xw_12 c q σ) rfl hw.1 dX3_put_29 (fun H locs hP hD hS => ?_)
          have hw := hw.2
          have hP : va_P D vwCl (xw c q (hsA σ 12 (upd (σ.2.1 12) (σ.1 706).toNatClampNeg (vp_nar .byte ((z1 >>> (y2 &&& 31)).toInt8.toInt32))))) H := hP
          obtain ⟨σ3, eσ3⟩ : ∃ z : hsS, z = hsA σ 12 (upd (σ.2.1 12) (σ.1 706).toNatClampNeg (vp_nar .byte ((z1 >>> (y2 &&& 31)).toInt8.toInt32))) := ⟨_, rfl⟩
          rw [← eσ3] at hP
          have hD : va_D (wdA 36 q) (xw c q σ3) := xw_D hD0
          have hw := hw σ3 eσ3
          refine lv_aload_n hx hb dX3_put_30 rfl (lv_at hl 0 rfl) ?_
          refine lv_dup hx hb dX3_put_31 rfl ?_
          refine va_get (D := D) (ci := 3) (C := RX3) (T := TX3) (N := 10) hx hb htb inX3 hown hK hP 11 (xw_11 c q σ3) rfl 2 (by decide) (htb _ tb_204) (fun _ h9 => h9) rfl dX3_put_32 ?_
          refine lv_iconst (v := (1 : Int32)) hx hb dX3_put_35 (by decide) ?_
          refine lv_iadd hx hb dX3_put_36 ?_
          refine va_put (D := D) (ci := 3) (ty := .int) (C := RX3) (T := TX3) (N := 10) hx hb htb inX3 tyX3 tyX3_ok nmX3 hown hK hP hD hS 11 (xw_11 c q σ3) rfl 2 (by decide) (htb _ tb_204) (fun _ h9 => h9) rfl (by decide +kernel) rfl rfl (Nat.le_of_ble_eq_true rfl) dX3_put_37 (fun H locs hP hD hS => ?_)
          have hP : va_P D vwCl (xw c q (hsI σ3 706 ((σ3.1 706) + (1 : Int32)))) H := hP
          obtain ⟨σ4, eσ4⟩ : ∃ z : hsS, z = hsI σ3 706 ((σ3.1 706) + (1 : Int32)) := ⟨_, rfl⟩
          rw [← eσ4] at hP
          have hD : va_D (wdA 36 q) (xw c q σ4) := xw_D hD0
          have hw := hw σ4 eσ4
          obtain ⟨v5, ev5⟩ : ∃ z : Int32, z = y2 + (-8 : Int32) := ⟨_, rfl⟩
          have hw := hw v5 ev5
          refine lv_iinc (v := v5) (lv' := [(2, .int v5), (0, .ref (q 11)), (1, .int z1)]) hx hb dX3_put_40 hl (k := 2) rfl (by rw [ev5]; rfl) (by decide) rfl (fun ls hl => ?_)
          refine lv_goto (tgt := 3) hx hb dX3_put_43 (by decide) ?_
          exact ih v5 σ4 _ _ _ hw hk46 hP hS (lv_sub hl [1, 2, 0] rfl)
  have hl := lv_entry ([.ref (q 11), .int x1]) (n := 3) (Nat.le_of_ble_eq_true rfl)
  rw [lg_entry_eq]
  generalize (lg_sl ([.ref (q 11), .int x1]) ++ List.replicate (3 - (lg_sl ([.ref (q 11), .int x1])).length) Slot.unset).toArray = ls at hl ⊢
  have hl : lv_has ls 3 [(0, .ref (q 11)), (1, .int x1)] := hl
  unfold wX3_put at hw
  refine lv_bipush (v := (24 : Int32)) hx hb dX3_put_0 (by decide) ?_
  refine lv_istore_n (lv' := [(2, .int (24 : Int32)), (0, .ref (q 11)), (1, .int x1)]) hx hb dX3_put_2 rfl hl (by decide) rfl (fun ls hl => ?_)
  obtain ⟨n6, hw⟩ := hw
  refine L3 _ x1 n6 (24 : Int32) σ _ _ _ hw ?_ hP hS (lv_sub hl [1, 2, 0] rfl)
  intro v7 σ8 H locs ls hw hP hS hl
  have hD : va_D (wdA 36 q) (xw c q σ8) := xw_D hD0
  exact W.vret hx hb hr (fun t ht hW => ⟨⟨σ8, rfl, hw, by unfold wdB; rw [ht]; exact hP⟩, hS.F ht⟩) hS.2.2 dX3_put_46
def wX7_feed (x1 : Int32) (x2 : Int32) (x3 : Int32) (x4 : Int32) (x5 : Int32) (post : Int32 → hsS → Prop) (σ : hsS) : Prop := wX3_hasRoomFor 11 (20 : Int32) (fun r1 σ2 => ((r1 = (0 : Int32) → post (-1 : Int32) σ2) ∧ (¬ r1 = (0 : Int32) → wX3_put 11 x1 (fun σ5 => wX3_put 11 x2 (fun σ7 => wX3_put 11 x3 (fun σ9 => wX3_put 11 x4 (fun σ11 => wX3_put 11 x5 (fun σ13 => post (σ13.1 706) σ13) σ11) σ9) σ7) σ5) σ2))) σ
set_option maxHeartbeats 4000000 in
set_option maxRecDepth 100000 in
theorem kcX7_feed (l : Launch) (D : va_G) (c : Nat → ClassId) (q : Nat → Nat) (ev : State → Heap → Prop) (hev : evOK (wdA 36 q) ev) (σ : hsS) (x1 : Int32) (x2 : Int32) (x3 : Int32) (x4 : Int32) (x5 : Int32) (post : Int32 → hsS → Prop) (hw : wX7_feed x1 x2 x3 x4 x5 post σ) : Met l yX7_feed (Cond.code yX7_feed cX7_feed 6 (some .int) :: tb_L) { frames := 1, cells := 0, slots := 0, locals := 22 } (wdPc D (xw c q) (xwT c) (wdA 36 q) ev σ [.ref (q 0), .int x1, .int x2, .int x3, .int x4, .int x5]) (va_Qi post (wdB D (xw c q)) (wdA 36 q)) 0 0 (wdA 36 q) := by
  refine Met.ofW (cc := cX7_feed) (maxL := 6) (ret := (some .int)) (by decide) rfl ?_
  intro p e s m args below meth c₀ s₁ Bd hml hv
  obtain ⟨rfl, hP, hK, hD0, hE⟩ := hv
  have hx := Bd.exec
  have hb := Bd.bytes
  have hr := Bd.returns
  have hts := atoms_spec (ws := Cond.code yX7_feed cX7_feed 6 (some .int) :: tb_L) Bd.pre
  have htb : ∀ w ∈ tb_L, w.before [.ref (q 0), .int x1, .int x2, .int x3, .int x4, .int x5].toArray s = true := fun w h => hts w (List.mem_cons_of_mem _ h)
  have hown : s.vm.findClass RX7 = some m.cls := findClass_of_methodNamed Bd.named
  have hlocks := Bd.notSynchronized
  have hS : va_S (wdA 36 q) s.heap s.heap [] := va_S.rf
  have hD := hD0
  have hl := lv_entry ([.ref (q 0), .int x1, .int x2, .int x3, .int x4, .int x5]) (n := 6) (Nat.le_of_ble_eq_true rfl)
  rw [lg_entry_eq]
  generalize (lg_sl ([.ref (q 0), .int x1, .int x2, .int x3, .int x4, .int x5]) ++ List.replicate (6 - (lg_sl ([.ref (q 0), .int x1, .int x2, .int x3, .int x4, .int x5])).length) Slot.unset).toArray = ls at hl ⊢
  have hl : lv_has ls 6 [(0, .ref (q 0)), (1, .int x1), (2, .int x2), (3, .int x3), (4, .int x4), (5, .int x5)] := hl
  unfold wX7_feed at hw
  refine lv_aload_n hx hb dX7_feed_0 rfl (lv_at hl 0 rfl) ?_
  refine va_get (D := D) (ci := 7) (C := RX7) (T := TX7) (N := 9) hx hb htb inX7 hown hK hP 0 (xw_0 c q σ) rfl 2 (by decide) (htb _ tb_344) (fun _ h9 => h9) rfl dX7_feed_1 ?_
  refine lv_bipush (v := (20 : Int32)) hx hb dX7_feed_4 (by decide) ?_
  refine va_calli (va_runV (As := [.int (20 : Int32)]) (rest := []) ⟨hx, hb, hml, hown, htb⟩ (kcX3_hasRoomFor_11 l D c q ev hev σ (20 : Int32) _ hw) (tb_CW htb kX3_hasRoomFor tb_374 tb_375 tb_376 ⟨Nat.le_of_ble_eq_true rfl, Nat.le_of_ble_eq_true rfl⟩) (wd_preV (wd := xw c q) (k := 11) hev hK hP hD hE hS (xw_11 c q σ) rfl) rfl rfl hl.1 rfl (lv_room (Nat.le_of_ble_eq_true rfl)) dX7_feed_6 ⟨Nat.zero_le _, Nat.zero_le _⟩) hS (fun q _ h => h) (fun q h => h) (fun r1 σ2 t H1 locs1 ht hvm hw hB hz1 hk1 hS => ?_)
  have hP : va_P D vwCl (xw c q σ2) H1 := ht ▸ hB
  have hD : va_D (wdA 36 q) (xw c q σ2) := xw_D hD0
  refine lv_if_ne (tgt := 14) hx hb dX7_feed_9 (by decide) (fun c3 => ?_) (fun c3 => ?_)
  · have hw := hw.2 c3
    refine lv_aload_n hx hb dX7_feed_14 rfl (lv_at hl 0 rfl) ?_
    refine va_get (D := D) (ci := 7) (C := RX7) (T := TX7) (N := 9) hx hb htb inX7 hown hK hP 0 (xw_0 c q σ2) rfl 2 (by decide) (htb _ tb_344) (fun _ h9 => h9) rfl dX7_feed_15 ?_
    refine lv_iload_n hx hb dX7_feed_18 rfl (lv_at hl 1 rfl) ?_
    refine va_callv (va_runV (As := [.int x1]) (rest := []) ⟨hx, hb, hml, hown, htb⟩ (kcX3_put_11 l D c q ev hev σ2 x1 _ hw) (tb_CW htb kX3_put tb_378 tb_379 tb_380 ⟨Nat.le_of_ble_eq_true rfl, Nat.le_of_ble_eq_true rfl⟩) (wd_preV (wd := xw c q) (k := 11) hev hK hP hD hE hS (xw_11 c q σ2) rfl) rfl rfl hl.1 rfl (lv_room (Nat.le_of_ble_eq_true rfl)) dX7_feed_19 ⟨Nat.zero_le _, Nat.zero_le _⟩) hS (fun q _ h => h) (fun q h => h) (fun σ5 t H1 locs1 ht hvm hw hB hz1 hk1 hS => ?_)
    have hP : va_P D vwCl (xw c q σ5) H1 := ht ▸ hB
    have hD : va_D (wdA 36 q) (xw c q σ5) := xw_D hD0
    refine lv_aload_n hx hb dX7_feed_22 rfl (lv_at hl 0 rfl) ?_
    refine va_get (D := D) (ci := 7) (C := RX7) (T := TX7) (N := 9) hx hb htb inX7 hown hK hP 0 (xw_0 c q σ5) rfl 2 (by decide) (htb _ tb_344) (fun _ h9 => h9) rfl dX7_feed_23 ?_
    refine lv_iload_n hx hb dX7_feed_26 rfl (lv_at hl 2 rfl) ?_
    refine va_callv (va_runV (As := [.int x2]) (rest := []) ⟨hx, hb, hml, hown, htb⟩ (kcX3_put_11 l D c q ev hev σ5 x2 _ hw) (tb_CW htb kX3_put tb_378 tb_379 tb_380 ⟨Nat.le_of_ble_eq_true rfl, Nat.le_of_ble_eq_true rfl⟩) (wd_preV (wd := xw c q) (k := 11) hev hK hP hD hE hS (xw_11 c q σ5) rfl) rfl rfl hl.1 rfl (lv_room (Nat.le_of_ble_eq_true rfl)) dX7_feed_27 ⟨Nat.zero_le _, Nat.zero_le _⟩) hS (fun q _ h => h) (fun q h => h) (fun σ7 t H1 locs1 ht hvm hw hB hz1 hk1 hS => ?_)
    have hP : va_P D vwCl (xw c q σ7) H1 := ht ▸ hB
    have hD : va_D (wdA 36 q) (xw c q σ7) := xw_D hD0
    refine lv_aload_n hx hb dX7_feed_30 rfl (lv_at hl 0 rfl) ?_
    refine va_get (D := D) (ci := 7) (C := RX7) (T := TX7) (N := 9) hx hb htb inX7 hown hK hP 0 (xw_0 c q σ7) rfl 2 (by decide) (htb _ tb_344) (fun _ h9 => h9) rfl dX7_feed_31 ?_
    refine lv_iload_n hx hb dX7_feed_34 rfl (lv_at hl 3 rfl) ?_
    refine va_callv (va_runV (As := [.int x3]) (rest := []) ⟨hx, hb, hml, hown, htb⟩ (kcX3_put_11 l D c q ev hev σ7 x3 _ hw) (tb_CW htb kX3_put tb_378 tb_379 tb_380 ⟨Nat.le_of_ble_eq_true rfl, Nat.le_of_ble_eq_true rfl⟩) (wd_preV (wd := xw c q) (k := 11) hev hK hP hD hE hS (xw_11 c q σ7) rfl) rfl rfl hl.1 rfl (lv_room (Nat.le_of_ble_eq_true rfl)) dX7_feed_35 ⟨Nat.zero_le _, Nat.zero_le _⟩) hS (fun q _ h => h) (fun q h => h) (fun σ9 t H1 locs1 ht hvm hw hB hz1 hk1 hS => ?_)
    have hP : va_P D vwCl (xw c q σ9) H1 := ht ▸ hB
    have hD : va_D (wdA 36 q) (xw c q σ9) := xw_D hD0
    refine lv_aload_n hx hb dX7_feed_38 rfl (lv_at hl 0 rfl) ?_
    refine va_get (D := D) (ci := 7) (C := RX7) (T := TX7) (N := 9) hx hb htb inX7 hown hK hP 0 (xw_0 c q σ9) rfl 2 (by decide) (htb _ tb_344) (fun _ h9 => h9) rfl dX7_feed_39 ?_
    refine lv_iload hx hb dX7_feed_42 (lv_at hl 4 rfl) ?_
    refine va_callv (va_runV (As := [.int x4]) (rest := []) ⟨hx, hb, hml, hown, htb⟩ (kcX3_put_11 l D c q ev hev σ9 x4 _ hw) (tb_CW htb kX3_put tb_378 tb_379 tb_380 ⟨Nat.le_of_ble_eq_true rfl, Nat.le_of_ble_eq_true rfl⟩) (wd_preV (wd := xw c q) (k := 11) hev hK hP hD hE hS (xw_11 c q σ9) rfl) rfl rfl hl.1 rfl (lv_room (Nat.le_of_ble_eq_true rfl)) dX7_feed_44 ⟨Nat.zero_le _, Nat.zero_le _⟩) hS (fun q _ h => h) (fun q h => h) (fun σ11 t H1 locs1 ht hvm hw hB hz1 hk1 hS => ?_)
    have hP : va_P D vwCl (xw c q σ11) H1 := ht ▸ hB
    have hD : va_D (wdA 36 q) (xw c q σ11) := xw_D hD0
    refine lv_aload_n hx hb dX7_feed_47 rfl (lv_at hl 0 rfl) ?_
    refine va_get (D := D) (ci := 7) (C := RX7) (T := TX7) (N := 9) hx hb htb inX7 hown hK hP 0 (xw_0 c q σ11) rfl 2 (by decide) (htb _ tb_344) (fun _ h9 => h9) rfl dX7_feed_48 ?_
    refine lv_iload hx hb dX7_feed_51 (lv_at hl 5 rfl) ?_
    refine va_callv (va_runV (As := [.int x5]) (rest := []) ⟨hx, hb, hml, hown, htb⟩ (kcX3_put_11 l D c q ev hev σ11 x5 _ hw) (tb_CW htb kX3_put tb_378 tb_379 tb_380 ⟨Nat.le_of_ble_eq_true rfl, Nat.le_of_ble_eq_true rfl⟩) (wd_preV (wd := xw c q) (k := 11) hev hK hP hD hE hS (xw_11 c q σ11) rfl) rfl rfl hl.1 rfl (lv_room (Nat.le_of_ble_eq_true rfl)) dX7_feed_53 ⟨Nat.zero_le _, Nat.zero_le _⟩) hS (fun q _ h => h) (fun q h => h) (fun σ13 t H1 locs1 ht hvm hw hB hz1 hk1 hS => ?_)
    have hP : va_P D vwCl (xw c q σ13) H1 := ht ▸ hB
    have hD : va_D (wdA 36 q) (xw c q σ13) := xw_D hD0
    refine lv_aload_n hx hb dX7_feed_56 rfl (lv_at hl 0 rfl) ?_
    refine va_get (D := D) (ci := 7) (C := RX7) (T := TX7) (N := 9) hx hb htb inX7 hown hK hP 0 (xw_0 c q σ13) rfl 2 (by decide) (htb _ tb_344) (fun _ h9 => h9) rfl dX7_feed_57 ?_
    refine va_getN (D := D) (ci := 3) (C := RX3) (T := TX3) (N := 10) hx hb htb inX3 hown hK hP 11 (xw_11 c q σ13) rfl 2 (by decide) (htb _ tb_205) (fun _ h9 => h9) rfl dX7_feed_60 ?_
    exact W.iret hx hb hr (fun t ht hW => ⟨⟨_, σ13, rfl, hw, by unfold wdB; rw [ht]; exact hP⟩, hS.F ht⟩) hS.2.2 dX7_feed_63
  · have hw := hw.1 c3
    refine lv_iconst (v := (-1 : Int32)) hx hb dX7_feed_12 (by decide) ?_
    exact W.iret hx hb hr (fun t ht hW => ⟨⟨_, σ2, rfl, hw, by unfold wdB; rw [ht]; exact hP⟩, hS.F ht⟩) hS.2.2 dX7_feed_13
def wX1_reset (b0 : Nat) (post : hsS → Prop) (σ : hsS) : Prop := ∀ σ1 : hsS, σ1 = hsI σ (64 * b0 + 0) (2 : Int32) → ∀ σ2 : hsS, σ2 = hsI σ1 (64 * b0 + 1) (0 : Int32) → ∀ σ3 : hsS, σ3 = hsI σ2 (64 * b0 + 2) (0 : Int32) → ∀ σ4 : hsS, σ4 = hsI σ3 (64 * b0 + 3) (0 : Int32) → ∀ σ5 : hsS, σ5 = hsI σ4 (64 * b0 + 4) (1 : Int32) → ∀ σ6 : hsS, σ6 = hsI σ5 (64 * b0 + 5) (0 : Int32) → ∀ σ7 : hsS, σ7 = hsI σ6 (64 * b0 + 6) (0 : Int32) → ∀ σ8 : hsS, σ8 = hsI σ7 (64 * b0 + 7) (0 : Int32) → post σ8
set_option maxHeartbeats 4000000 in
set_option maxRecDepth 100000 in
theorem kcX1_reset_13 (l : Launch) (D : va_G) (c : Nat → ClassId) (q : Nat → Nat) (ev : State → Heap → Prop) (hev : evOK (wdA 36 q) ev) (σ : hsS)  (post : hsS → Prop) (hw : wX1_reset 13 post σ) : Met l yX1_reset (Cond.code yX1_reset cX1_reset 1 none :: tb_L) { frames := 0, cells := 0, slots := 0, locals := 0 } (wdPc D (xw c q) (xwT c) (wdA 36 q) ev σ [.ref (q 13)]) (va_Qv post (wdB D (xw c q)) (wdA 36 q)) 0 0 (wdA 36 q) := by
  refine Met.ofW (cc := cX1_reset) (maxL := 1) (ret := none) (by decide) rfl ?_
  intro p e s m args below meth c₀ s₁ Bd hml hv
  obtain ⟨rfl, hP, hK, hD0, hE⟩ := hv
  have hx := Bd.exec
  have hb := Bd.bytes
  have hr := Bd.returns
  have hts := atoms_spec (ws := Cond.code yX1_reset cX1_reset 1 none :: tb_L) Bd.pre
  have htb : ∀ w ∈ tb_L, w.before [.ref (q 13)].toArray s = true := fun w h => hts w (List.mem_cons_of_mem _ h)
  have hown : s.vm.findClass RX1 = some m.cls := findClass_of_methodNamed Bd.named
  have hlocks := Bd.notSynchronized
  have hS : va_S (wdA 36 q) s.heap s.heap [] := va_S.rf
  have hD := hD0
  have hl := lv_entry ([.ref (q 13)]) (n := 1) (Nat.le_of_ble_eq_true rfl)
  rw [lg_entry_eq]
  generalize (lg_sl ([.ref (q 13)]) ++ List.replicate (1 - (lg_sl ([.ref (q 13)])).length) Slot.unset).toArray = ls at hl ⊢
  have hl : lv_has ls 1 [(0, .ref (q 13))] := hl
  unfold wX1_reset at hw
  refine lv_aload_n hx hb dX1_reset_0 rfl (lv_at hl 0 rfl) ?_
  refine lv_iconst (v := (2 : Int32)) hx hb dX1_reset_1 (by decide) ?_
  refine va_put (D := D) (ci := 1) (ty := .int) (C := RX1) (T := TX1) (N := 12) hx hb htb inX1 tyX1 tyX1_ok nmX1 hown hK hP hD hS 13 (xw_13 c q σ) rfl 0 (by decide) (htb _ tb_126) (fun _ h9 => h9) rfl (by decide +kernel) rfl rfl (Nat.le_of_ble_eq_true rfl) dX1_reset_2 (fun H locs hP hD hS => ?_)
  have hP : va_P D vwCl (xw c q (hsI σ 832 (2 : Int32))) H := hP
  obtain ⟨σ1, eσ1⟩ : ∃ z : hsS, z = hsI σ 832 (2 : Int32) := ⟨_, rfl⟩
  rw [← eσ1] at hP
  have hD : va_D (wdA 36 q) (xw c q σ1) := xw_D hD0
  have hw := hw σ1 eσ1
  refine lv_aload_n hx hb dX1_reset_5 rfl (lv_at hl 0 rfl) ?_
  refine lv_iconst (v := (0 : Int32)) hx hb dX1_reset_6 (by decide) ?_
  refine va_put (D := D) (ci := 1) (ty := .int) (C := RX1) (T := TX1) (N := 12) hx hb htb inX1 tyX1 tyX1_ok nmX1 hown hK hP hD hS 13 (xw_13 c q σ1) rfl 1 (by decide) (htb _ tb_132) (fun _ h9 => h9) rfl (by decide +kernel) rfl rfl (Nat.le_of_ble_eq_true rfl) dX1_reset_7 (fun H locs hP hD hS => ?_)
  have hP : va_P D vwCl (xw c q (hsI σ1 833 (0 : Int32))) H := hP
  obtain ⟨σ2, eσ2⟩ : ∃ z : hsS, z = hsI σ1 833 (0 : Int32) := ⟨_, rfl⟩
  rw [← eσ2] at hP
  have hD : va_D (wdA 36 q) (xw c q σ2) := xw_D hD0
  have hw := hw σ2 eσ2
  refine lv_aload_n hx hb dX1_reset_10 rfl (lv_at hl 0 rfl) ?_
  refine lv_iconst (v := (0 : Int32)) hx hb dX1_reset_11 (by decide) ?_
  refine va_put (D := D) (ci := 1) (ty := .int) (C := RX1) (T := TX1) (N := 12) hx hb htb inX1 tyX1 tyX1_ok nmX1 hown hK hP hD hS 13 (xw_13 c q σ2) rfl 2 (by decide) (htb _ tb_138) (fun _ h9 => h9) rfl (by decide +kernel) rfl rfl (Nat.le_of_ble_eq_true rfl) dX1_reset_12 (fun H locs hP hD hS => ?_)
  have hP : va_P D vwCl (xw c q (hsI σ2 834 (0 : Int32))) H := hP
  obtain ⟨σ3, eσ3⟩ : ∃ z : hsS, z = hsI σ2 834 (0 : Int32) := ⟨_, rfl⟩
  rw [← eσ3] at hP
  have hD : va_D (wdA 36 q) (xw c q σ3) := xw_D hD0
  have hw := hw σ3 eσ3
  refine lv_aload_n hx hb dX1_reset_15 rfl (lv_at hl 0 rfl) ?_
  refine lv_iconst (v := (0 : Int32)) hx hb dX1_reset_16 (by decide) ?_
  refine va_put (D := D) (ci := 1) (ty := .int) (C := RX1) (T := TX1) (N := 12) hx hb htb inX1 tyX1 tyX1_ok nmX1 hown hK hP hD hS 13 (xw_13 c q σ3) rfl 3 (by decide) (htb _ tb_141) (fun _ h9 => h9) rfl (by decide +kernel) rfl rfl (Nat.le_of_ble_eq_true rfl) dX1_reset_17 (fun H locs hP hD hS => ?_)
  have hP : va_P D vwCl (xw c q (hsI σ3 835 (0 : Int32))) H := hP
  obtain ⟨σ4, eσ4⟩ : ∃ z : hsS, z = hsI σ3 835 (0 : Int32) := ⟨_, rfl⟩
  rw [← eσ4] at hP
  have hD : va_D (wdA 36 q) (xw c q σ4) := xw_D hD0
  have hw := hw σ4 eσ4
  refine lv_aload_n hx hb dX1_reset_20 rfl (lv_at hl 0 rfl) ?_
  refine lv_iconst (v := (1 : Int32)) hx hb dX1_reset_21 (by decide) ?_
  refine va_put (D := D) (ci := 1) (ty := .int) (C := RX1) (T := TX1) (N := 12) hx hb htb inX1 tyX1 tyX1_ok nmX1 hown hK hP hD hS 13 (xw_13 c q σ4) rfl 4 (by decide) (htb _ tb_144) (fun _ h9 => h9) rfl (by decide +kernel) rfl rfl (Nat.le_of_ble_eq_true rfl) dX1_reset_22 (fun H locs hP hD hS => ?_)
  have hP : va_P D vwCl (xw c q (hsI σ4 836 (1 : Int32))) H := hP
  obtain ⟨σ5, eσ5⟩ : ∃ z : hsS, z = hsI σ4 836 (1 : Int32) := ⟨_, rfl⟩
  rw [← eσ5] at hP
  have hD : va_D (wdA 36 q) (xw c q σ5) := xw_D hD0
  have hw := hw σ5 eσ5
  refine lv_aload_n hx hb dX1_reset_25 rfl (lv_at hl 0 rfl) ?_
  refine lv_iconst (v := (0 : Int32)) hx hb dX1_reset_26 (by decide) ?_
  refine va_put (D := D) (ci := 1) (ty := .int) (C := RX1) (T := TX1) (N := 12) hx hb htb inX1 tyX1 tyX1_ok nmX1 hown hK hP hD hS 13 (xw_13 c q σ5) rfl 5 (by decide) (htb _ tb_146) (fun _ h9 => h9) rfl (by decide +kernel) rfl rfl (Nat.le_of_ble_eq_true rfl) dX1_reset_27 (fun H locs hP hD hS => ?_)
  have hP : va_P D vwCl (xw c q (hsI σ5 837 (0 : Int32))) H := hP
  obtain ⟨σ6, eσ6⟩ : ∃ z : hsS, z = hsI σ5 837 (0 : Int32) := ⟨_, rfl⟩
  rw [← eσ6] at hP
  have hD : va_D (wdA 36 q) (xw c q σ6) := xw_D hD0
  have hw := hw σ6 eσ6
  refine lv_aload_n hx hb dX1_reset_30 rfl (lv_at hl 0 rfl) ?_
  refine lv_iconst (v := (0 : Int32)) hx hb dX1_reset_31 (by decide) ?_
  refine va_put (D := D) (ci := 1) (ty := .int) (C := RX1) (T := TX1) (N := 12) hx hb htb inX1 tyX1 tyX1_ok nmX1 hown hK hP hD hS 13 (xw_13 c q σ6) rfl 6 (by decide) (htb _ tb_148) (fun _ h9 => h9) rfl (by decide +kernel) rfl rfl (Nat.le_of_ble_eq_true rfl) dX1_reset_32 (fun H locs hP hD hS => ?_)
  have hP : va_P D vwCl (xw c q (hsI σ6 838 (0 : Int32))) H := hP
  obtain ⟨σ7, eσ7⟩ : ∃ z : hsS, z = hsI σ6 838 (0 : Int32) := ⟨_, rfl⟩
  rw [← eσ7] at hP
  have hD : va_D (wdA 36 q) (xw c q σ7) := xw_D hD0
  have hw := hw σ7 eσ7
  refine lv_aload_n hx hb dX1_reset_35 rfl (lv_at hl 0 rfl) ?_
  refine lv_iconst (v := (0 : Int32)) hx hb dX1_reset_36 (by decide) ?_
  refine va_put (D := D) (ci := 1) (ty := .int) (C := RX1) (T := TX1) (N := 12) hx hb htb inX1 tyX1 tyX1_ok nmX1 hown hK hP hD hS 13 (xw_13 c q σ7) rfl 7 (by decide) (htb _ tb_154) (fun _ h9 => h9) rfl (by decide +kernel) rfl rfl (Nat.le_of_ble_eq_true rfl) dX1_reset_37 (fun H locs hP hD hS => ?_)
  have hP : va_P D vwCl (xw c q (hsI σ7 839 (0 : Int32))) H := hP
  obtain ⟨σ8, eσ8⟩ : ∃ z : hsS, z = hsI σ7 839 (0 : Int32) := ⟨_, rfl⟩
  rw [← eσ8] at hP
  have hD : va_D (wdA 36 q) (xw c q σ8) := xw_D hD0
  have hw := hw σ8 eσ8
  exact W.vret hx hb hr (fun t ht hW => ⟨⟨σ8, rfl, hw, by unfold wdB; rw [ht]; exact hP⟩, hS.F ht⟩) hS.2.2 dX1_reset_40
def wX3_byteAt (b0 : Nat) (x1 : Int32) (post : Int32 → hsS → Prop) (σ : hsS) : Prop := ((x1 < (0 : Int32) → post (0 : Int32) σ) ∧ (¬ x1 < (0 : Int32) → (((σ.1 (64 * b0 + 3)) ≤ x1 → post (0 : Int32) σ) ∧ (¬ (σ.1 (64 * b0 + 3)) ≤ x1 → (((600 : Int32) ≤ x1 → post (0 : Int32) σ) ∧ (¬ (600 : Int32) ≤ x1 → vp_in x1 600 ∧ post ((σ.2.1 (b0 + 1) x1.toNatClampNeg) &&& (255 : Int32)) σ))))))
set_option maxHeartbeats 4000000 in
set_option maxRecDepth 100000 in
theorem kcX3_byteAt_11 (l : Launch) (D : va_G) (c : Nat → ClassId) (q : Nat → Nat) (ev : State → Heap → Prop) (hev : evOK (wdA 36 q) ev) (σ : hsS) (x1 : Int32) (post : Int32 → hsS → Prop) (hw : wX3_byteAt 11 x1 post σ) : Met l yX3_byteAt (Cond.code yX3_byteAt cX3_byteAt 2 (some .int) :: tb_L) { frames := 0, cells := 0, slots := 0, locals := 0 } (wdPc D (xw c q) (xwT c) (wdA 36 q) ev σ [.ref (q 11), .int x1]) (va_Qi post (wdB D (xw c q)) (wdA 36 q)) 0 0 (wdA 36 q) := by
  refine Met.ofW (cc := cX3_byteAt) (maxL := 2) (ret := (some .int)) (by decide) rfl ?_
  intro p e s m args below meth c₀ s₁ Bd hml hv
  obtain ⟨rfl, hP, hK, hD0, hE⟩ := hv
  have hx := Bd.exec
  have hb := Bd.bytes
  have hr := Bd.returns
  have hts := atoms_spec (ws := Cond.code yX3_byteAt cX3_byteAt 2 (some .int) :: tb_L) Bd.pre
  have htb : ∀ w ∈ tb_L, w.before [.ref (q 11), .int x1].toArray s = true := fun w h => hts w (List.mem_cons_of_mem _ h)
  have hown : s.vm.findClass RX3 = some m.cls := findClass_of_methodNamed Bd.named
  have hlocks := Bd.notSynchronized
  have hS : va_S (wdA 36 q) s.heap s.heap [] := va_S.rf
  have hD := hD0
  have hl := lv_entry ([.ref (q 11), .int x1]) (n := 2) (Nat.le_of_ble_eq_true rfl)
  rw [lg_entry_eq]
  generalize (lg_sl ([.ref (q 11), .int x1]) ++ List.replicate (2 - (lg_sl ([.ref (q 11), .int x1])).length) Slot.unset).toArray = ls at hl ⊢
  have hl : lv_has ls 2 [(0, .ref (q 11)), (1, .int x1)] := hl
  unfold wX3_byteAt at hw
  refine lv_iload_n hx hb dX3_byteAt_0 rfl (lv_at hl 1 rfl) ?_
  refine lv_if_lt (tgt := 32) hx hb dX3_byteAt_1 (by decide) (fun c1 => ?_) (fun c1 => ?_)
  · have hw := hw.1 c1
    refine lv_iconst (v := (0 : Int32)) hx hb dX3_byteAt_32 (by decide) ?_
    exact W.iret hx hb hr (fun t ht hW => ⟨⟨_, σ, rfl, hw, by unfold wdB; rw [ht]; exact hP⟩, hS.F ht⟩) hS.2.2 dX3_byteAt_33
  · have hw := hw.2 c1
    refine lv_iload_n hx hb dX3_byteAt_4 rfl (lv_at hl 1 rfl) ?_
    refine lv_aload_n hx hb dX3_byteAt_5 rfl (lv_at hl 0 rfl) ?_
    refine va_get (D := D) (ci := 3) (C := RX3) (T := TX3) (N := 10) hx hb htb inX3 hown hK hP 11 (xw_11 c q σ) rfl 3 (by decide) (htb _ tb_206) (fun _ h9 => h9) rfl dX3_byteAt_6 ?_
    refine lv_icmp_ge (tgt := 32) hx hb dX3_byteAt_9 (by decide) (fun c2 => ?_) (fun c2 => ?_)
    · have hw := hw.1 c2
      refine lv_iconst (v := (0 : Int32)) hx hb dX3_byteAt_32 (by decide) ?_
      exact W.iret hx hb hr (fun t ht hW => ⟨⟨_, σ, rfl, hw, by unfold wdB; rw [ht]; exact hP⟩, hS.F ht⟩) hS.2.2 dX3_byteAt_33
    · have hw := hw.2 c2
      refine lv_iload_n hx hb dX3_byteAt_12 rfl (lv_at hl 1 rfl) ?_
      refine lv_sipush (v := (600 : Int32)) hx hb dX3_byteAt_13 (by decide) ?_
      refine lv_icmp_ge (tgt := 32) hx hb dX3_byteAt_16 (by decide) (fun c3 => ?_) (fun c3 => ?_)
      · have hw := hw.1 c3
        refine lv_iconst (v := (0 : Int32)) hx hb dX3_byteAt_32 (by decide) ?_
        exact W.iret hx hb hr (fun t ht hW => ⟨⟨_, σ, rfl, hw, by unfold wdB; rw [ht]; exact hP⟩, hS.F ht⟩) hS.2.2 dX3_byteAt_33
      · have hw := hw.2 c3
        refine lv_aload_n hx hb dX3_byteAt_19 rfl (lv_at hl 0 rfl) ?_
        refine va_get (D := D) (ci := 3) (C := RX3) (T := TX3) (N := 10) hx hb htb inX3 hown hK hP 11 (xw_11 c q σ) rfl 0 (by decide) (htb _ tb_201) (fun _ h9 => h9) rfl dX3_byteAt_20 ?_
        refine lv_iload_n hx hb dX3_byteAt_23 rfl (lv_at hl 1 rfl) ?_
        refine va_bald hx hb hK hP 12 8 (xw_12 c q σ) rfl hw.1 dX3_byteAt_24 ?_
        have hw := hw.2
        refine lv_sipush (v := (255 : Int32)) hx hb dX3_byteAt_25 (by decide) ?_
        refine lv_iand hx hb dX3_byteAt_28 ?_
        refine lv_goto (tgt := 33) hx hb dX3_byteAt_29 (by decide) ?_
        exact W.iret hx hb hr (fun t ht hW => ⟨⟨_, σ, rfl, hw, by unfold wdB; rw [ht]; exact hP⟩, hS.F ht⟩) hS.2.2 dX3_byteAt_33
def wX3_isBlank (x0 : Int32) (post : Int32 → hsS → Prop) (σ : hsS) : Prop := ((x0 = (32 : Int32) → post (1 : Int32) σ) ∧ (¬ x0 = (32 : Int32) → ((x0 = (10 : Int32) → post (1 : Int32) σ) ∧ (¬ x0 = (10 : Int32) → post (0 : Int32) σ))))
set_option maxHeartbeats 4000000 in
set_option maxRecDepth 100000 in
theorem kcX3_isBlank_x (l : Launch) (D : va_G) (c : Nat → ClassId) (q : Nat → Nat) (ev : State → Heap → Prop) (hev : evOK (wdA 36 q) ev) (σ : hsS) (x0 : Int32) (post : Int32 → hsS → Prop) (hw : wX3_isBlank x0 post σ) : Met l yX3_isBlank (Cond.code yX3_isBlank cX3_isBlank 1 (some .boolean) :: tb_L) { frames := 0, cells := 0, slots := 0, locals := 0 } (wdPc D (xw c q) (xwT c) (wdA 36 q) ev σ [.int x0]) (va_Qi post (wdB D (xw c q)) (wdA 36 q)) 0 0 (wdA 36 q) := by
  refine Met.ofW (cc := cX3_isBlank) (maxL := 1) (ret := (some .boolean)) (by decide) rfl ?_
  intro p e s m args below meth c₀ s₁ Bd hml hv
  obtain ⟨rfl, hP, hK, hD0, hE⟩ := hv
  have hx := Bd.exec
  have hb := Bd.bytes
  have hr := Bd.returns
  have hts := atoms_spec (ws := Cond.code yX3_isBlank cX3_isBlank 1 (some .boolean) :: tb_L) Bd.pre
  have htb : ∀ w ∈ tb_L, w.before [.int x0].toArray s = true := fun w h => hts w (List.mem_cons_of_mem _ h)
  have hown : s.vm.findClass RX3 = some m.cls := findClass_of_methodNamed Bd.named
  have hlocks := Bd.notSynchronized
  have hS : va_S (wdA 36 q) s.heap s.heap [] := va_S.rf
  have hD := hD0
  have hl := lv_entry ([.int x0]) (n := 1) (Nat.le_of_ble_eq_true rfl)
  rw [lg_entry_eq]
  generalize (lg_sl ([.int x0]) ++ List.replicate (1 - (lg_sl ([.int x0])).length) Slot.unset).toArray = ls at hl ⊢
  have hl : lv_has ls 1 [(0, .int x0)] := hl
  unfold wX3_isBlank at hw
  refine lv_iload_n hx hb dX3_isBlank_0 rfl (lv_at hl 0 rfl) ?_
  refine lv_bipush (v := (32 : Int32)) hx hb dX3_isBlank_1 (by decide) ?_
  refine lv_icmp_eq (tgt := 12) hx hb dX3_isBlank_3 (by decide) (fun c1 => ?_) (fun c1 => ?_)
  · have hw := hw.1 c1
    refine lv_iconst (v := (1 : Int32)) hx hb dX3_isBlank_12 (by decide) ?_
    refine lv_goto (tgt := 17) hx hb dX3_isBlank_13 (by decide) ?_
    exact W.zret hx hb hr rfl (fun t ht hW => ⟨⟨_, σ, rfl, hw, by unfold wdB; rw [ht]; exact hP⟩, hS.F ht⟩) hS.2.2 dX3_isBlank_17
  · have hw := hw.2 c1
    refine lv_iload_n hx hb dX3_isBlank_6 rfl (lv_at hl 0 rfl) ?_
    refine lv_bipush (v := (10 : Int32)) hx hb dX3_isBlank_7 (by decide) ?_
    refine lv_icmp_ne (tgt := 16) hx hb dX3_isBlank_9 (by decide) (fun c2 => ?_) (fun c2 => ?_)
    · have hw := hw.2 c2
      refine lv_iconst (v := (0 : Int32)) hx hb dX3_isBlank_16 (by decide) ?_
      exact W.zret hx hb hr rfl (fun t ht hW => ⟨⟨_, σ, rfl, hw, by unfold wdB; rw [ht]; exact hP⟩, hS.F ht⟩) hS.2.2 dX3_isBlank_17
    · have hw := hw.1 c2
      refine lv_iconst (v := (1 : Int32)) hx hb dX3_isBlank_12 (by decide) ?_
      refine lv_goto (tgt := 17) hx hb dX3_isBlank_13 (by decide) ?_
      exact W.zret hx hb hr rfl (fun t ht hW => ⟨⟨_, σ, rfl, hw, by unfold wdB; rw [ht]; exact hP⟩, hS.F ht⟩) hS.2.2 dX3_isBlank_17
def wX3_isLetter (x0 : Int32) (post : Int32 → hsS → Prop) (σ : hsS) : Prop := ((x0 < (97 : Int32) → post (0 : Int32) σ) ∧ (¬ x0 < (97 : Int32) → (((122 : Int32) < x0 → post (0 : Int32) σ) ∧ (¬ (122 : Int32) < x0 → post (1 : Int32) σ))))
set_option maxHeartbeats 4000000 in
set_option maxRecDepth 100000 in
theorem kcX3_isLetter_x (l : Launch) (D : va_G) (c : Nat → ClassId) (q : Nat → Nat) (ev : State → Heap → Prop) (hev : evOK (wdA 36 q) ev) (σ : hsS) (x0 : Int32) (post : Int32 → hsS → Prop) (hw : wX3_isLetter x0 post σ) : Met l yX3_isLetter (Cond.code yX3_isLetter cX3_isLetter 1 (some .boolean) :: tb_L) { frames := 0, cells := 0, slots := 0, locals := 0 } (wdPc D (xw c q) (xwT c) (wdA 36 q) ev σ [.int x0]) (va_Qi post (wdB D (xw c q)) (wdA 36 q)) 0 0 (wdA 36 q) := by
  refine Met.ofW (cc := cX3_isLetter) (maxL := 1) (ret := (some .boolean)) (by decide) rfl ?_
  intro p e s m args below meth c₀ s₁ Bd hml hv
  obtain ⟨rfl, hP, hK, hD0, hE⟩ := hv
  have hx := Bd.exec
  have hb := Bd.bytes
  have hr := Bd.returns
  have hts := atoms_spec (ws := Cond.code yX3_isLetter cX3_isLetter 1 (some .boolean) :: tb_L) Bd.pre
  have htb : ∀ w ∈ tb_L, w.before [.int x0].toArray s = true := fun w h => hts w (List.mem_cons_of_mem _ h)
  have hown : s.vm.findClass RX3 = some m.cls := findClass_of_methodNamed Bd.named
  have hlocks := Bd.notSynchronized
  have hS : va_S (wdA 36 q) s.heap s.heap [] := va_S.rf
  have hD := hD0
  have hl := lv_entry ([.int x0]) (n := 1) (Nat.le_of_ble_eq_true rfl)
  rw [lg_entry_eq]
  generalize (lg_sl ([.int x0]) ++ List.replicate (1 - (lg_sl ([.int x0])).length) Slot.unset).toArray = ls at hl ⊢
  have hl : lv_has ls 1 [(0, .int x0)] := hl
  unfold wX3_isLetter at hw
  refine lv_iload_n hx hb dX3_isLetter_0 rfl (lv_at hl 0 rfl) ?_
  refine lv_bipush (v := (97 : Int32)) hx hb dX3_isLetter_1 (by decide) ?_
  refine lv_icmp_lt (tgt := 16) hx hb dX3_isLetter_3 (by decide) (fun c1 => ?_) (fun c1 => ?_)
  · have hw := hw.1 c1
    refine lv_iconst (v := (0 : Int32)) hx hb dX3_isLetter_16 (by decide) ?_
    exact W.zret hx hb hr rfl (fun t ht hW => ⟨⟨_, σ, rfl, hw, by unfold wdB; rw [ht]; exact hP⟩, hS.F ht⟩) hS.2.2 dX3_isLetter_17
  · have hw := hw.2 c1
    refine lv_iload_n hx hb dX3_isLetter_6 rfl (lv_at hl 0 rfl) ?_
    refine lv_bipush (v := (122 : Int32)) hx hb dX3_isLetter_7 (by decide) ?_
    refine lv_icmp_gt (tgt := 16) hx hb dX3_isLetter_9 (by decide) (fun c2 => ?_) (fun c2 => ?_)
    · have hw := hw.1 c2
      refine lv_iconst (v := (0 : Int32)) hx hb dX3_isLetter_16 (by decide) ?_
      exact W.zret hx hb hr rfl (fun t ht hW => ⟨⟨_, σ, rfl, hw, by unfold wdB; rw [ht]; exact hP⟩, hS.F ht⟩) hS.2.2 dX3_isLetter_17
    · have hw := hw.2 c2
      refine lv_iconst (v := (1 : Int32)) hx hb dX3_isLetter_12 (by decide) ?_
      refine lv_goto (tgt := 17) hx hb dX3_isLetter_13 (by decide) ?_
      exact W.zret hx hb hr rfl (fun t ht hW => ⟨⟨_, σ, rfl, hw, by unfold wdB; rw [ht]; exact hP⟩, hS.F ht⟩) hS.2.2 dX3_isLetter_17
def wX3_isDigit (x0 : Int32) (post : Int32 → hsS → Prop) (σ : hsS) : Prop := ((x0 < (48 : Int32) → post (0 : Int32) σ) ∧ (¬ x0 < (48 : Int32) → (((57 : Int32) < x0 → post (0 : Int32) σ) ∧ (¬ (57 : Int32) < x0 → post (1 : Int32) σ))))
set_option maxHeartbeats 4000000 in
set_option maxRecDepth 100000 in
theorem kcX3_isDigit_x (l : Launch) (D : va_G) (c : Nat → ClassId) (q : Nat → Nat) (ev : State → Heap → Prop) (hev : evOK (wdA 36 q) ev) (σ : hsS) (x0 : Int32) (post : Int32 → hsS → Prop) (hw : wX3_isDigit x0 post σ) : Met l yX3_isDigit (Cond.code yX3_isDigit cX3_isDigit 1 (some .boolean) :: tb_L) { frames := 0, cells := 0, slots := 0, locals := 0 } (wdPc D (xw c q) (xwT c) (wdA 36 q) ev σ [.int x0]) (va_Qi post (wdB D (xw c q)) (wdA 36 q)) 0 0 (wdA 36 q) := by
  refine Met.ofW (cc := cX3_isDigit) (maxL := 1) (ret := (some .boolean)) (by decide) rfl ?_
  intro p e s m args below meth c₀ s₁ Bd hml hv
  obtain ⟨rfl, hP, hK, hD0, hE⟩ := hv
  have hx := Bd.exec
  have hb := Bd.bytes
  have hr := Bd.returns
  have hts := atoms_spec (ws := Cond.code yX3_isDigit cX3_isDigit 1 (some .boolean) :: tb_L) Bd.pre
  have htb : ∀ w ∈ tb_L, w.before [.int x0].toArray s = true := fun w h => hts w (List.mem_cons_of_mem _ h)
  have hown : s.vm.findClass RX3 = some m.cls := findClass_of_methodNamed Bd.named
  have hlocks := Bd.notSynchronized
  have hS : va_S (wdA 36 q) s.heap s.heap [] := va_S.rf
  have hD := hD0
  have hl := lv_entry ([.int x0]) (n := 1) (Nat.le_of_ble_eq_true rfl)
  rw [lg_entry_eq]
  generalize (lg_sl ([.int x0]) ++ List.replicate (1 - (lg_sl ([.int x0])).length) Slot.unset).toArray = ls at hl ⊢
  have hl : lv_has ls 1 [(0, .int x0)] := hl
  unfold wX3_isDigit at hw
  refine lv_iload_n hx hb dX3_isDigit_0 rfl (lv_at hl 0 rfl) ?_
  refine lv_bipush (v := (48 : Int32)) hx hb dX3_isDigit_1 (by decide) ?_
  refine lv_icmp_lt (tgt := 16) hx hb dX3_isDigit_3 (by decide) (fun c1 => ?_) (fun c1 => ?_)
  · have hw := hw.1 c1
    refine lv_iconst (v := (0 : Int32)) hx hb dX3_isDigit_16 (by decide) ?_
    exact W.zret hx hb hr rfl (fun t ht hW => ⟨⟨_, σ, rfl, hw, by unfold wdB; rw [ht]; exact hP⟩, hS.F ht⟩) hS.2.2 dX3_isDigit_17
  · have hw := hw.2 c1
    refine lv_iload_n hx hb dX3_isDigit_6 rfl (lv_at hl 0 rfl) ?_
    refine lv_bipush (v := (57 : Int32)) hx hb dX3_isDigit_7 (by decide) ?_
    refine lv_icmp_gt (tgt := 16) hx hb dX3_isDigit_9 (by decide) (fun c2 => ?_) (fun c2 => ?_)
    · have hw := hw.1 c2
      refine lv_iconst (v := (0 : Int32)) hx hb dX3_isDigit_16 (by decide) ?_
      exact W.zret hx hb hr rfl (fun t ht hW => ⟨⟨_, σ, rfl, hw, by unfold wdB; rw [ht]; exact hP⟩, hS.F ht⟩) hS.2.2 dX3_isDigit_17
    · have hw := hw.2 c2
      refine lv_iconst (v := (1 : Int32)) hx hb dX3_isDigit_12 (by decide) ?_
      refine lv_goto (tgt := 17) hx hb dX3_isDigit_13 (by decide) ?_
      exact W.zret hx hb hr rfl (fun t ht hW => ⟨⟨_, σ, rfl, hw, by unfold wdB; rw [ht]; exact hP⟩, hS.F ht⟩) hS.2.2 dX3_isDigit_17
def wX3_passDigits_L5 (b0 : Nat) (K66 : hsS → Prop) (post : hsS → Prop) : Nat → hsS → Prop
  | 0, _ => False
  | n + 1, σ => (((σ.1 (64 * b0 + 3)) ≤ (σ.1 (64 * b0 + 6)) → K66 σ) ∧ (¬ (σ.1 (64 * b0 + 3)) ≤ (σ.1 (64 * b0 + 6)) → wX3_byteAt b0 (σ.1 (64 * b0 + 6)) (fun r3 σ4 => wX3_isDigit r3 (fun r5 σ6 => ((r5 = (0 : Int32) → K66 σ6) ∧ (¬ r5 = (0 : Int32) → wX3_byteAt b0 (σ6.1 (64 * b0 + 6)) (fun r8 σ9 => ∀ σ10 : hsS, σ10 = hsI σ9 (64 * b0 + 7) ((((σ6.1 (64 * b0 + 7)) * (10 : Int32)) + r8) - (48 : Int32)) → ∀ σ11 : hsS, σ11 = hsI σ10 (64 * b0 + 6) ((σ10.1 (64 * b0 + 6)) + (1 : Int32)) → wX3_passDigits_L5 b0 K66 post n σ11) σ6))) σ4) σ))
def wX3_passDigits (b0 : Nat) (post : hsS → Prop) (σ : hsS) : Prop := ∀ σ1 : hsS, σ1 = hsI σ (64 * b0 + 7) (0 : Int32) → ∃ n12, wX3_passDigits_L5 b0 (fun σ13 => post σ13) post n12  σ1
set_option maxHeartbeats 4000000 in
set_option maxRecDepth 100000 in
theorem kcX3_passDigits_11 (l : Launch) (D : va_G) (c : Nat → ClassId) (q : Nat → Nat) (ev : State → Heap → Prop) (hev : evOK (wdA 36 q) ev) (σ : hsS)  (post : hsS → Prop) (hw : wX3_passDigits 11 post σ) : Met l yX3_passDigits (Cond.code yX3_passDigits cX3_passDigits 1 none :: tb_L) { frames := 1, cells := 0, slots := 0, locals := 21 } (wdPc D (xw c q) (xwT c) (wdA 36 q) ev σ [.ref (q 11)]) (va_Qv post (wdB D (xw c q)) (wdA 36 q)) 0 0 (wdA 36 q) := by
  refine Met.ofW (cc := cX3_passDigits) (maxL := 1) (ret := none) (by decide) rfl ?_
  intro p e s m args below meth c₀ s₁ Bd hml hv
  obtain ⟨rfl, hP, hK, hD0, hE⟩ := hv
  have hx := Bd.exec
  have hb := Bd.bytes
  have hr := Bd.returns
  have hts := atoms_spec (ws := Cond.code yX3_passDigits cX3_passDigits 1 none :: tb_L) Bd.pre
  have htb : ∀ w ∈ tb_L, w.before [.ref (q 11)].toArray s = true := fun w h => hts w (List.mem_cons_of_mem _ h)
  have hown : s.vm.findClass RX3 = some m.cls := findClass_of_methodNamed Bd.named
  have hlocks := Bd.notSynchronized
  have hS : va_S (wdA 36 q) s.heap s.heap [] := va_S.rf
  have hD := hD0
  have L5 : ∀ (K66 : hsS → Prop) (n : Nat) (σ : hsS) (H : Heap) (locs : List Loc) (ls : Array Slot), wX3_passDigits_L5 11 K66 post n σ → (∀ (σ : hsS) (H : Heap) (locs : List Loc) (ls : Array Slot), K66 σ → va_P D vwCl (xw c q σ) H → va_S (wdA 36 q) s.heap H locs → lv_has ls 1 [(0, .ref (q 11))] → W p l e (headSpec (Cond.code yX3_passDigits cX3_passDigits 1 none :: tb_L) { frames := 1, cells := 0, slots := 0, locals := 21 }).room s m [.ref (q 11)].toArray below meth c₀ H locs 0 0 (MQ below (va_Qv post (wdB D (xw c q)) (wdA 36 q)) [.ref (q 11)].toArray s 0 0 (wdA 36 q)) (F0 m 66 ls [])) → va_P D vwCl (xw c q σ) H → va_S (wdA 36 q) s.heap H locs → lv_has ls 1 [(0, .ref (q 11))] → W p l e (headSpec (Cond.code yX3_passDigits cX3_passDigits 1 none :: tb_L) { frames := 1, cells := 0, slots := 0, locals := 21 }).room s m [.ref (q 11)].toArray below meth c₀ H locs 0 0 (MQ below (va_Qv post (wdB D (xw c q)) (wdA 36 q)) [.ref (q 11)].toArray s 0 0 (wdA 36 q)) (F0 m 5 ls []) := by
    intro K66 n
    induction n with
    | zero =>
      intro σ H locs ls hw hk66 hP hS hl
      exact (show False from hw).elim
    | succ n ih =>
      intro σ H locs ls hw hk66 hP hS hl
      rw [wX3_passDigits_L5] at hw
      have hD : va_D (wdA 36 q) (xw c q σ) := xw_D hD0
      refine lv_aload_n hx hb dX3_passDigits_5 rfl (lv_at hl 0 rfl) ?_
      refine va_get (D := D) (ci := 3) (C := RX3) (T := TX3) (N := 10) hx hb htb inX3 hown hK hP 11 (xw_11 c q σ) rfl 6 (by decide) (htb _ tb_209) (fun _ h9 => h9) rfl dX3_passDigits_6 ?_
      refine lv_aload_n hx hb dX3_passDigits_9 rfl (lv_at hl 0 rfl) ?_
      refine va_get (D := D) (ci := 3) (C := RX3) (T := TX3) (N := 10) hx hb htb inX3 hown hK hP 11 (xw_11 c q σ) rfl 3 (by decide) (htb _ tb_206) (fun _ h9 => h9) rfl dX3_passDigits_10 ?_
      refine lv_icmp_ge (tgt := 66) hx hb dX3_passDigits_13 (by decide) (fun c2 => ?_) (fun c2 => ?_)
      · have hw := hw.1 c2
        exact hk66  σ _ _ _ hw hP hS (lv_sub hl [0] rfl)
      · have hw := hw.2 c2
        refine lv_aload_n hx hb dX3_passDigits_16 rfl (lv_at hl 0 rfl) ?_
        refine lv_aload_n hx hb dX3_passDigits_17 rfl (lv_at hl 0 rfl) ?_
        refine va_get (D := D) (ci := 3) (C := RX3) (T := TX3) (N := 10) hx hb htb inX3 hown hK hP 11 (xw_11 c q σ) rfl 6 (by decide) (htb _ tb_209) (fun _ h9 => h9) rfl dX3_passDigits_18 ?_
        refine va_calli (va_runV (As := [.int (σ.1 710)]) (rest := []) ⟨hx, hb, hml, hown, htb⟩ (kcX3_byteAt_11 l D c q ev hev σ (σ.1 710) _ hw) (tb_CW htb kX3_byteAt tb_716 tb_718 tb_13 ⟨Nat.le_of_ble_eq_true rfl, Nat.le_of_ble_eq_true rfl⟩) (wd_preV (wd := xw c q) (k := 11) hev hK hP hD hE hS (xw_11 c q σ) rfl) rfl rfl hl.1 rfl (lv_room (Nat.le_of_ble_eq_true rfl)) dX3_passDigits_21 ⟨Nat.zero_le _, Nat.zero_le _⟩) hS (fun q _ h => h) (fun q h => h) (fun r3 σ4 t H1 locs1 ht hvm hw hB hz1 hk1 hS => ?_)
        have hP : va_P D vwCl (xw c q σ4) H1 := ht ▸ hB
        have hD : va_D (wdA 36 q) (xw c q σ4) := xw_D hD0
        refine va_calli (va_runS (As := [.int r3]) (rest := []) ⟨hx, hb, hml, hown, htb⟩ (kcX3_isDigit_x l D c q ev hev σ4 r3 _ hw) (tb_CS htb kX3_isDigit tb_730 tb_731 ⟨Nat.le_of_ble_eq_true rfl, Nat.le_of_ble_eq_true rfl⟩) (wd_preS (wd := xw c q) hev hK hP hD hE hS) rfl rfl hl.1 rfl (lv_room (Nat.le_of_ble_eq_true rfl)) dX3_passDigits_24 ⟨Nat.zero_le _, Nat.zero_le _⟩) hS (fun q _ h => h) (fun q h => h) (fun r5 σ6 t H1 locs1 ht hvm hw hB hz1 hk1 hS => ?_)
        have hP : va_P D vwCl (xw c q σ6) H1 := ht ▸ hB
        have hD : va_D (wdA 36 q) (xw c q σ6) := xw_D hD0
        refine lv_if_eq (tgt := 66) hx hb dX3_passDigits_27 (by decide) (fun c7 => ?_) (fun c7 => ?_)
        · have hw := hw.1 c7
          exact hk66  σ6 _ _ _ hw hP hS (lv_sub hl [0] rfl)
        · have hw := hw.2 c7
          refine lv_aload_n hx hb dX3_passDigits_30 rfl (lv_at hl 0 rfl) ?_
          refine lv_aload_n hx hb dX3_passDigits_31 rfl (lv_at hl 0 rfl) ?_
          refine va_get (D := D) (ci := 3) (C := RX3) (T := TX3) (N := 10) hx hb htb inX3 hown hK hP 11 (xw_11 c q σ6) rfl 7 (by decide) (htb _ tb_210) (fun _ h9 => h9) rfl dX3_passDigits_32 ?_
          refine lv_bipush (v := (10 : Int32)) hx hb dX3_passDigits_35 (by decide) ?_
          refine lv_imul hx hb dX3_passDigits_37 ?_
          refine lv_aload_n hx hb dX3_passDigits_38 rfl (lv_at hl 0 rfl) ?_
          refine lv_aload_n hx hb dX3_passDigits_39 rfl (lv_at hl 0 rfl) ?_
          refine va_get (D := D) (ci := 3) (C := RX3) (T := TX3) (N := 10) hx hb htb inX3 hown hK hP 11 (xw_11 c q σ6) rfl 6 (by decide) (htb _ tb_209) (fun _ h9 => h9) rfl dX3_passDigits_40 ?_
          refine va_calli (va_runV (As := [.int (σ6.1 710)]) (rest := [.int ((σ6.1 711) * (10 : Int32)), .ref (q 11)]) ⟨hx, hb, hml, hown, htb⟩ (kcX3_byteAt_11 l D c q ev hev σ6 (σ6.1 710) _ hw) (tb_CW htb kX3_byteAt tb_716 tb_718 tb_13 ⟨Nat.le_of_ble_eq_true rfl, Nat.le_of_ble_eq_true rfl⟩) (wd_preV (wd := xw c q) (k := 11) hev hK hP hD hE hS (xw_11 c q σ6) rfl) rfl rfl hl.1 rfl (lv_room (Nat.le_of_ble_eq_true rfl)) dX3_passDigits_43 ⟨Nat.zero_le _, Nat.zero_le _⟩) hS (fun q _ h => h) (fun q h => h) (fun r8 σ9 t H1 locs1 ht hvm hw hB hz1 hk1 hS => ?_)
          have hP : va_P D vwCl (xw c q σ9) H1 := ht ▸ hB
          have hD : va_D (wdA 36 q) (xw c q σ9) := xw_D hD0
          refine lv_iadd hx hb dX3_passDigits_46 ?_
          refine lv_bipush (v := (48 : Int32)) hx hb dX3_passDigits_47 (by decide) ?_
          refine lv_isub hx hb dX3_passDigits_49 ?_
          refine va_put (D := D) (ci := 3) (ty := .int) (C := RX3) (T := TX3) (N := 10) hx hb htb inX3 tyX3 tyX3_ok nmX3 hown hK hP hD hS 11 (xw_11 c q σ9) rfl 7 (by decide) (htb _ tb_210) (fun _ h9 => h9) rfl (by decide +kernel) rfl rfl (Nat.le_of_ble_eq_true rfl) dX3_passDigits_50 (fun H locs hP hD hS => ?_)
          have hP : va_P D vwCl (xw c q (hsI σ9 711 ((((σ6.1 711) * (10 : Int32)) + r8) - (48 : Int32)))) H := hP
          obtain ⟨σ10, eσ10⟩ : ∃ z : hsS, z = hsI σ9 711 ((((σ6.1 711) * (10 : Int32)) + r8) - (48 : Int32)) := ⟨_, rfl⟩
          rw [← eσ10] at hP
          have hD : va_D (wdA 36 q) (xw c q σ10) := xw_D hD0
          have hw := hw σ10 eσ10
          refine lv_aload_n hx hb dX3_passDigits_53 rfl (lv_at hl 0 rfl) ?_
          refine lv_dup hx hb dX3_passDigits_54 rfl ?_
          refine va_get (D := D) (ci := 3) (C := RX3) (T := TX3) (N := 10) hx hb htb inX3 hown hK hP 11 (xw_11 c q σ10) rfl 6 (by decide) (htb _ tb_209) (fun _ h9 => h9) rfl dX3_passDigits_55 ?_
          refine lv_iconst (v := (1 : Int32)) hx hb dX3_passDigits_58 (by decide) ?_
          refine lv_iadd hx hb dX3_passDigits_59 ?_
          refine va_put (D := D) (ci := 3) (ty := .int) (C := RX3) (T := TX3) (N := 10) hx hb htb inX3 tyX3 tyX3_ok nmX3 hown hK hP hD hS 11 (xw_11 c q σ10) rfl 6 (by decide) (htb _ tb_209) (fun _ h9 => h9) rfl (by decide +kernel) rfl rfl (Nat.le_of_ble_eq_true rfl) dX3_passDigits_60 (fun H locs hP hD hS => ?_)
          have hP : va_P D vwCl (xw c q (hsI σ10 710 ((σ10.1 710) + (1 : Int32)))) H := hP
          obtain ⟨σ11, eσ11⟩ : ∃ z : hsS, z = hsI σ10 710 ((σ10.1 710) + (1 : Int32)) := ⟨_, rfl⟩
          rw [← eσ11] at hP
          have hD : va_D (wdA 36 q) (xw c q σ11) := xw_D hD0
          have hw := hw σ11 eσ11
          refine lv_goto (tgt := 5) hx hb dX3_passDigits_63 (by decide) ?_
          exact ih  σ11 _ _ _ hw hk66 hP hS (lv_sub hl [0] rfl)
  have hl := lv_entry ([.ref (q 11)]) (n := 1) (Nat.le_of_ble_eq_true rfl)
  rw [lg_entry_eq]
  generalize (lg_sl ([.ref (q 11)]) ++ List.replicate (1 - (lg_sl ([.ref (q 11)])).length) Slot.unset).toArray = ls at hl ⊢
  have hl : lv_has ls 1 [(0, .ref (q 11))] := hl
  unfold wX3_passDigits at hw
  refine lv_aload_n hx hb dX3_passDigits_0 rfl (lv_at hl 0 rfl) ?_
  refine lv_iconst (v := (0 : Int32)) hx hb dX3_passDigits_1 (by decide) ?_
  refine va_put (D := D) (ci := 3) (ty := .int) (C := RX3) (T := TX3) (N := 10) hx hb htb inX3 tyX3 tyX3_ok nmX3 hown hK hP hD hS 11 (xw_11 c q σ) rfl 7 (by decide) (htb _ tb_210) (fun _ h9 => h9) rfl (by decide +kernel) rfl rfl (Nat.le_of_ble_eq_true rfl) dX3_passDigits_2 (fun H locs hP hD hS => ?_)
  have hP : va_P D vwCl (xw c q (hsI σ 711 (0 : Int32))) H := hP
  obtain ⟨σ1, eσ1⟩ : ∃ z : hsS, z = hsI σ 711 (0 : Int32) := ⟨_, rfl⟩
  rw [← eσ1] at hP
  have hD : va_D (wdA 36 q) (xw c q σ1) := xw_D hD0
  have hw := hw σ1 eσ1
  obtain ⟨n12, hw⟩ := hw
  refine L5 _ n12  σ1 _ _ _ hw ?_ hP hS (lv_sub hl [0] rfl)
  intro σ13 H locs ls hw hP hS hl
  have hD : va_D (wdA 36 q) (xw c q σ13) := xw_D hD0
  exact W.vret hx hb hr (fun t ht hW => ⟨⟨σ13, rfl, hw, by unfold wdB; rw [ht]; exact hP⟩, hS.F ht⟩) hS.2.2 dX3_passDigits_66
def wX3_passLetters_L0 (b0 : Nat) (K38 : hsS → Prop) (post : hsS → Prop) : Nat → hsS → Prop
  | 0, _ => False
  | n + 1, σ => (((σ.1 (64 * b0 + 3)) ≤ (σ.1 (64 * b0 + 6)) → K38 σ) ∧ (¬ (σ.1 (64 * b0 + 3)) ≤ (σ.1 (64 * b0 + 6)) → wX3_byteAt b0 (σ.1 (64 * b0 + 6)) (fun r2 σ3 => wX3_isLetter r2 (fun r4 σ5 => ((r4 = (0 : Int32) → K38 σ5) ∧ (¬ r4 = (0 : Int32) → ∀ σ7 : hsS, σ7 = hsI σ5 (64 * b0 + 6) ((σ5.1 (64 * b0 + 6)) + (1 : Int32)) → wX3_passLetters_L0 b0 K38 post n σ7))) σ3) σ))
def wX3_passLetters (b0 : Nat) (post : hsS → Prop) (σ : hsS) : Prop := ∃ n8, wX3_passLetters_L0 b0 (fun σ9 => post σ9) post n8  σ
set_option maxHeartbeats 4000000 in
set_option maxRecDepth 100000 in
theorem kcX3_passLetters_11 (l : Launch) (D : va_G) (c : Nat → ClassId) (q : Nat → Nat) (ev : State → Heap → Prop) (hev : evOK (wdA 36 q) ev) (σ : hsS)  (post : hsS → Prop) (hw : wX3_passLetters 11 post σ) : Met l yX3_passLetters (Cond.code yX3_passLetters cX3_passLetters 1 none :: tb_L) { frames := 1, cells := 0, slots := 0, locals := 21 } (wdPc D (xw c q) (xwT c) (wdA 36 q) ev σ [.ref (q 11)]) (va_Qv post (wdB D (xw c q)) (wdA 36 q)) 0 0 (wdA 36 q) := by
  refine Met.ofW (cc := cX3_passLetters) (maxL := 1) (ret := none) (by decide) rfl ?_
  intro p e s m args below meth c₀ s₁ Bd hml hv
  obtain ⟨rfl, hP, hK, hD0, hE⟩ := hv
  have hx := Bd.exec
  have hb := Bd.bytes
  have hr := Bd.returns
  have hts := atoms_spec (ws := Cond.code yX3_passLetters cX3_passLetters 1 none :: tb_L) Bd.pre
  have htb : ∀ w ∈ tb_L, w.before [.ref (q 11)].toArray s = true := fun w h => hts w (List.mem_cons_of_mem _ h)
  have hown : s.vm.findClass RX3 = some m.cls := findClass_of_methodNamed Bd.named
  have hlocks := Bd.notSynchronized
  have hS : va_S (wdA 36 q) s.heap s.heap [] := va_S.rf
  have hD := hD0
  have L0 : ∀ (K38 : hsS → Prop) (n : Nat) (σ : hsS) (H : Heap) (locs : List Loc) (ls : Array Slot), wX3_passLetters_L0 11 K38 post n σ → (∀ (σ : hsS) (H : Heap) (locs : List Loc) (ls : Array Slot), K38 σ → va_P D vwCl (xw c q σ) H → va_S (wdA 36 q) s.heap H locs → lv_has ls 1 [(0, .ref (q 11))] → W p l e (headSpec (Cond.code yX3_passLetters cX3_passLetters 1 none :: tb_L) { frames := 1, cells := 0, slots := 0, locals := 21 }).room s m [.ref (q 11)].toArray below meth c₀ H locs 0 0 (MQ below (va_Qv post (wdB D (xw c q)) (wdA 36 q)) [.ref (q 11)].toArray s 0 0 (wdA 36 q)) (F0 m 38 ls [])) → va_P D vwCl (xw c q σ) H → va_S (wdA 36 q) s.heap H locs → lv_has ls 1 [(0, .ref (q 11))] → W p l e (headSpec (Cond.code yX3_passLetters cX3_passLetters 1 none :: tb_L) { frames := 1, cells := 0, slots := 0, locals := 21 }).room s m [.ref (q 11)].toArray below meth c₀ H locs 0 0 (MQ below (va_Qv post (wdB D (xw c q)) (wdA 36 q)) [.ref (q 11)].toArray s 0 0 (wdA 36 q)) (F0 m 0 ls []) := by
    intro K38 n
    induction n with
    | zero =>
      intro σ H locs ls hw hk38 hP hS hl
      exact (show False from hw).elim
    | succ n ih =>
      intro σ H locs ls hw hk38 hP hS hl
      rw [wX3_passLetters_L0] at hw
      have hD : va_D (wdA 36 q) (xw c q σ) := xw_D hD0
      refine lv_aload_n hx hb dX3_passLetters_0 rfl (lv_at hl 0 rfl) ?_
      refine va_get (D := D) (ci := 3) (C := RX3) (T := TX3) (N := 10) hx hb htb inX3 hown hK hP 11 (xw_11 c q σ) rfl 6 (by decide) (htb _ tb_209) (fun _ h9 => h9) rfl dX3_passLetters_1 ?_
      refine lv_aload_n hx hb dX3_passLetters_4 rfl (lv_at hl 0 rfl) ?_
      refine va_get (D := D) (ci := 3) (C := RX3) (T := TX3) (N := 10) hx hb htb inX3 hown hK hP 11 (xw_11 c q σ) rfl 3 (by decide) (htb _ tb_206) (fun _ h9 => h9) rfl dX3_passLetters_5 ?_
      refine lv_icmp_ge (tgt := 38) hx hb dX3_passLetters_8 (by decide) (fun c1 => ?_) (fun c1 => ?_)
      · have hw := hw.1 c1
        exact hk38  σ _ _ _ hw hP hS (lv_sub hl [0] rfl)
      · have hw := hw.2 c1
        refine lv_aload_n hx hb dX3_passLetters_11 rfl (lv_at hl 0 rfl) ?_
        refine lv_aload_n hx hb dX3_passLetters_12 rfl (lv_at hl 0 rfl) ?_
        refine va_get (D := D) (ci := 3) (C := RX3) (T := TX3) (N := 10) hx hb htb inX3 hown hK hP 11 (xw_11 c q σ) rfl 6 (by decide) (htb _ tb_209) (fun _ h9 => h9) rfl dX3_passLetters_13 ?_
        refine va_calli (va_runV (As := [.int (σ.1 710)]) (rest := []) ⟨hx, hb, hml, hown, htb⟩ (kcX3_byteAt_11 l D c q ev hev σ (σ.1 710) _ hw) (tb_CW htb kX3_byteAt tb_716 tb_718 tb_13 ⟨Nat.le_of_ble_eq_true rfl, Nat.le_of_ble_eq_true rfl⟩) (wd_preV (wd := xw c q) (k := 11) hev hK hP hD hE hS (xw_11 c q σ) rfl) rfl rfl hl.1 rfl (lv_room (Nat.le_of_ble_eq_true rfl)) dX3_passLetters_16 ⟨Nat.zero_le _, Nat.zero_le _⟩) hS (fun q _ h => h) (fun q h => h) (fun r2 σ3 t H1 locs1 ht hvm hw hB hz1 hk1 hS => ?_)
        have hP : va_P D vwCl (xw c q σ3) H1 := ht ▸ hB
        have hD : va_D (wdA 36 q) (xw c q σ3) := xw_D hD0
        refine va_calli (va_runS (As := [.int r2]) (rest := []) ⟨hx, hb, hml, hown, htb⟩ (kcX3_isLetter_x l D c q ev hev σ3 r2 _ hw) (tb_CS htb kX3_isLetter tb_723 tb_724 ⟨Nat.le_of_ble_eq_true rfl, Nat.le_of_ble_eq_true rfl⟩) (wd_preS (wd := xw c q) hev hK hP hD hE hS) rfl rfl hl.1 rfl (lv_room (Nat.le_of_ble_eq_true rfl)) dX3_passLetters_19 ⟨Nat.zero_le _, Nat.zero_le _⟩) hS (fun q _ h => h) (fun q h => h) (fun r4 σ5 t H1 locs1 ht hvm hw hB hz1 hk1 hS => ?_)
        have hP : va_P D vwCl (xw c q σ5) H1 := ht ▸ hB
        have hD : va_D (wdA 36 q) (xw c q σ5) := xw_D hD0
        refine lv_if_eq (tgt := 38) hx hb dX3_passLetters_22 (by decide) (fun c6 => ?_) (fun c6 => ?_)
        · have hw := hw.1 c6
          exact hk38  σ5 _ _ _ hw hP hS (lv_sub hl [0] rfl)
        · have hw := hw.2 c6
          refine lv_aload_n hx hb dX3_passLetters_25 rfl (lv_at hl 0 rfl) ?_
          refine lv_dup hx hb dX3_passLetters_26 rfl ?_
          refine va_get (D := D) (ci := 3) (C := RX3) (T := TX3) (N := 10) hx hb htb inX3 hown hK hP 11 (xw_11 c q σ5) rfl 6 (by decide) (htb _ tb_209) (fun _ h9 => h9) rfl dX3_passLetters_27 ?_
          refine lv_iconst (v := (1 : Int32)) hx hb dX3_passLetters_30 (by decide) ?_
          refine lv_iadd hx hb dX3_passLetters_31 ?_
          refine va_put (D := D) (ci := 3) (ty := .int) (C := RX3) (T := TX3) (N := 10) hx hb htb inX3 tyX3 tyX3_ok nmX3 hown hK hP hD hS 11 (xw_11 c q σ5) rfl 6 (by decide) (htb _ tb_209) (fun _ h9 => h9) rfl (by decide +kernel) rfl rfl (Nat.le_of_ble_eq_true rfl) dX3_passLetters_32 (fun H locs hP hD hS => ?_)
          have hP : va_P D vwCl (xw c q (hsI σ5 710 ((σ5.1 710) + (1 : Int32)))) H := hP
          obtain ⟨σ7, eσ7⟩ : ∃ z : hsS, z = hsI σ5 710 ((σ5.1 710) + (1 : Int32)) := ⟨_, rfl⟩
          rw [← eσ7] at hP
          have hD : va_D (wdA 36 q) (xw c q σ7) := xw_D hD0
          have hw := hw σ7 eσ7
          refine lv_goto (tgt := 0) hx hb dX3_passLetters_35 (by decide) ?_
          exact ih  σ7 _ _ _ hw hk38 hP hS (lv_sub hl [0] rfl)
  have hl := lv_entry ([.ref (q 11)]) (n := 1) (Nat.le_of_ble_eq_true rfl)
  rw [lg_entry_eq]
  generalize (lg_sl ([.ref (q 11)]) ++ List.replicate (1 - (lg_sl ([.ref (q 11)])).length) Slot.unset).toArray = ls at hl ⊢
  have hl : lv_has ls 1 [(0, .ref (q 11))] := hl
  unfold wX3_passLetters at hw
  obtain ⟨n8, hw⟩ := hw
  refine L0 _ n8  σ _ _ _ hw ?_ hP hS (lv_sub hl [0] rfl)
  intro σ9 H locs ls hw hP hS hl
  have hD : va_D (wdA 36 q) (xw c q σ9) := xw_D hD0
  exact W.vret hx hb hr (fun t ht hW => ⟨⟨σ9, rfl, hw, by unfold wdB; rw [ht]; exact hP⟩, hS.F ht⟩) hS.2.2 dX3_passLetters_38
def wX3_next_L8 (b0 : Nat) (K46 : hsS → Prop) (post : hsS → Prop) : Nat → hsS → Prop
  | 0, _ => False
  | n + 1, σ => (((σ.1 (64 * b0 + 3)) ≤ (σ.1 (64 * b0 + 5)) → K46 σ) ∧ (¬ (σ.1 (64 * b0 + 3)) ≤ (σ.1 (64 * b0 + 5)) → wX3_byteAt b0 (σ.1 (64 * b0 + 5)) (fun r3 σ4 => wX3_isBlank r3 (fun r5 σ6 => ((r5 = (0 : Int32) → K46 σ6) ∧ (¬ r5 = (0 : Int32) → ∀ σ8 : hsS, σ8 = hsI σ6 (64 * b0 + 5) ((σ6.1 (64 * b0 + 5)) + (1 : Int32)) → wX3_next_L8 b0 K46 post n σ8))) σ4) σ))
def wX3_next (b0 : Nat) (post : hsS → Prop) (σ : hsS) : Prop := ∀ σ1 : hsS, σ1 = hsI σ (64 * b0 + 5) (σ.1 (64 * b0 + 6)) → ∃ n9, wX3_next_L8 b0 (fun σ10 => ∀ σ11 : hsS, σ11 = hsI σ10 (64 * b0 + 6) (σ10.1 (64 * b0 + 5)) → (((σ11.1 (64 * b0 + 5)) < (σ11.1 (64 * b0 + 3)) → wX3_byteAt b0 (σ11.1 (64 * b0 + 5)) (fun r13 σ14 => wX3_isLetter r13 (fun r15 σ16 => ((r15 = (0 : Int32) → wX3_byteAt b0 (σ16.1 (64 * b0 + 5)) (fun r18 σ19 => wX3_isDigit r18 (fun r20 σ21 => ((r20 = (0 : Int32) → wX3_byteAt b0 (σ21.1 (64 * b0 + 5)) (fun r23 σ24 => ((r23 = (59 : Int32) → ∀ σ26 : hsS, σ26 = hsI σ24 (64 * b0 + 4) (3 : Int32) → ∀ σ27 : hsS, σ27 = hsI σ26 (64 * b0 + 6) ((σ26.1 (64 * b0 + 5)) + (1 : Int32)) → post σ27) ∧ (¬ r23 = (59 : Int32) → ∀ σ28 : hsS, σ28 = hsI σ24 (64 * b0 + 4) (4 : Int32) → ∀ σ29 : hsS, σ29 = hsI σ28 (64 * b0 + 6) ((σ28.1 (64 * b0 + 5)) + (1 : Int32)) → post σ29))) σ21) ∧ (¬ r20 = (0 : Int32) → ∀ σ30 : hsS, σ30 = hsI σ21 (64 * b0 + 4) (2 : Int32) → wX3_passDigits b0 (fun σ32 => post σ32) σ30))) σ19) σ16) ∧ (¬ r15 = (0 : Int32) → ∀ σ33 : hsS, σ33 = hsI σ16 (64 * b0 + 4) (1 : Int32) → wX3_passLetters b0 (fun σ35 => post σ35) σ33))) σ14) σ11) ∧ (¬ (σ11.1 (64 * b0 + 5)) < (σ11.1 (64 * b0 + 3)) → ∀ σ36 : hsS, σ36 = hsI σ11 (64 * b0 + 4) (0 : Int32) → post σ36))) post n9  σ1
set_option maxHeartbeats 4000000 in
set_option maxRecDepth 100000 in
theorem kcX3_next_11 (l : Launch) (D : va_G) (c : Nat → ClassId) (q : Nat → Nat) (ev : State → Heap → Prop) (hev : evOK (wdA 36 q) ev) (σ : hsS)  (post : hsS → Prop) (hw : wX3_next 11 post σ) : Met l yX3_next (Cond.code yX3_next cX3_next 1 none :: tb_L) { frames := 2, cells := 0, slots := 0, locals := 41 } (wdPc D (xw c q) (xwT c) (wdA 36 q) ev σ [.ref (q 11)]) (va_Qv post (wdB D (xw c q)) (wdA 36 q)) 0 0 (wdA 36 q) := by
  refine Met.ofW (cc := cX3_next) (maxL := 1) (ret := none) (by decide) rfl ?_
  intro p e s m args below meth c₀ s₁ Bd hml hv
  obtain ⟨rfl, hP, hK, hD0, hE⟩ := hv
  have hx := Bd.exec
  have hb := Bd.bytes
  have hr := Bd.returns
  have hts := atoms_spec (ws := Cond.code yX3_next cX3_next 1 none :: tb_L) Bd.pre
  have htb : ∀ w ∈ tb_L, w.before [.ref (q 11)].toArray s = true := fun w h => hts w (List.mem_cons_of_mem _ h)
  have hown : s.vm.findClass RX3 = some m.cls := findClass_of_methodNamed Bd.named
  have hlocks := Bd.notSynchronized
  have hS : va_S (wdA 36 q) s.heap s.heap [] := va_S.rf
  have hD := hD0
  have L8 : ∀ (K46 : hsS → Prop) (n : Nat) (σ : hsS) (H : Heap) (locs : List Loc) (ls : Array Slot), wX3_next_L8 11 K46 post n σ → (∀ (σ : hsS) (H : Heap) (locs : List Loc) (ls : Array Slot), K46 σ → va_P D vwCl (xw c q σ) H → va_S (wdA 36 q) s.heap H locs → lv_has ls 1 [(0, .ref (q 11))] → W p l e (headSpec (Cond.code yX3_next cX3_next 1 none :: tb_L) { frames := 2, cells := 0, slots := 0, locals := 41 }).room s m [.ref (q 11)].toArray below meth c₀ H locs 0 0 (MQ below (va_Qv post (wdB D (xw c q)) (wdA 36 q)) [.ref (q 11)].toArray s 0 0 (wdA 36 q)) (F0 m 46 ls [])) → va_P D vwCl (xw c q σ) H → va_S (wdA 36 q) s.heap H locs → lv_has ls 1 [(0, .ref (q 11))] → W p l e (headSpec (Cond.code yX3_next cX3_next 1 none :: tb_L) { frames := 2, cells := 0, slots := 0, locals := 41 }).room s m [.ref (q 11)].toArray below meth c₀ H locs 0 0 (MQ below (va_Qv post (wdB D (xw c q)) (wdA 36 q)) [.ref (q 11)].toArray s 0 0 (wdA 36 q)) (F0 m 8 ls []) := by
    intro K46 n
    induction n with
    | zero =>
      intro σ H locs ls hw hk46 hP hS hl
      exact (show False from hw).elim
    | succ n ih =>
      intro σ H locs ls hw hk46 hP hS hl
      rw [wX3_next_L8] at hw
      have hD : va_D (wdA 36 q) (xw c q σ) := xw_D hD0
      refine lv_aload_n hx hb dX3_next_8 rfl (lv_at hl 0 rfl) ?_
      refine va_get (D := D) (ci := 3) (C := RX3) (T := TX3) (N := 10) hx hb htb inX3 hown hK hP 11 (xw_11 c q σ) rfl 5 (by decide) (htb _ tb_208) (fun _ h9 => h9) rfl dX3_next_9 ?_
      refine lv_aload_n hx hb dX3_next_12 rfl (lv_at hl 0 rfl) ?_
      refine va_get (D := D) (ci := 3) (C := RX3) (T := TX3) (N := 10) hx hb htb inX3 hown hK hP 11 (xw_11 c q σ) rfl 3 (by decide) (htb _ tb_206) (fun _ h9 => h9) rfl dX3_next_13 ?_
      refine lv_icmp_ge (tgt := 46) hx hb dX3_next_16 (by decide) (fun c2 => ?_) (fun c2 => ?_)
      · have hw := hw.1 c2
        exact hk46  σ _ _ _ hw hP hS (lv_sub hl [0] rfl)
      · have hw := hw.2 c2
        refine lv_aload_n hx hb dX3_next_19 rfl (lv_at hl 0 rfl) ?_
        refine lv_aload_n hx hb dX3_next_20 rfl (lv_at hl 0 rfl) ?_
        refine va_get (D := D) (ci := 3) (C := RX3) (T := TX3) (N := 10) hx hb htb inX3 hown hK hP 11 (xw_11 c q σ) rfl 5 (by decide) (htb _ tb_208) (fun _ h9 => h9) rfl dX3_next_21 ?_
        refine va_calli (va_runV (As := [.int (σ.1 709)]) (rest := []) ⟨hx, hb, hml, hown, htb⟩ (kcX3_byteAt_11 l D c q ev hev σ (σ.1 709) _ hw) (tb_CW htb kX3_byteAt tb_716 tb_718 tb_13 ⟨Nat.le_of_ble_eq_true rfl, Nat.le_of_ble_eq_true rfl⟩) (wd_preV (wd := xw c q) (k := 11) hev hK hP hD hE hS (xw_11 c q σ) rfl) rfl rfl hl.1 rfl (lv_room (Nat.le_of_ble_eq_true rfl)) dX3_next_24 ⟨Nat.zero_le _, Nat.zero_le _⟩) hS (fun q _ h => h) (fun q h => h) (fun r3 σ4 t H1 locs1 ht hvm hw hB hz1 hk1 hS => ?_)
        have hP : va_P D vwCl (xw c q σ4) H1 := ht ▸ hB
        have hD : va_D (wdA 36 q) (xw c q σ4) := xw_D hD0
        refine va_calli (va_runS (As := [.int r3]) (rest := []) ⟨hx, hb, hml, hown, htb⟩ (kcX3_isBlank_x l D c q ev hev σ4 r3 _ hw) (tb_CS htb kX3_isBlank tb_720 tb_721 ⟨Nat.le_of_ble_eq_true rfl, Nat.le_of_ble_eq_true rfl⟩) (wd_preS (wd := xw c q) hev hK hP hD hE hS) rfl rfl hl.1 rfl (lv_room (Nat.le_of_ble_eq_true rfl)) dX3_next_27 ⟨Nat.zero_le _, Nat.zero_le _⟩) hS (fun q _ h => h) (fun q h => h) (fun r5 σ6 t H1 locs1 ht hvm hw hB hz1 hk1 hS => ?_)
        have hP : va_P D vwCl (xw c q σ6) H1 := ht ▸ hB
        have hD : va_D (wdA 36 q) (xw c q σ6) := xw_D hD0
        refine lv_if_eq (tgt := 46) hx hb dX3_next_30 (by decide) (fun c7 => ?_) (fun c7 => ?_)
        · have hw := hw.1 c7
          exact hk46  σ6 _ _ _ hw hP hS (lv_sub hl [0] rfl)
        · have hw := hw.2 c7
          refine lv_aload_n hx hb dX3_next_33 rfl (lv_at hl 0 rfl) ?_
          refine lv_dup hx hb dX3_next_34 rfl ?_
          refine va_get (D := D) (ci := 3) (C := RX3) (T := TX3) (N := 10) hx hb htb inX3 hown hK hP 11 (xw_11 c q σ6) rfl 5 (by decide) (htb _ tb_208) (fun _ h9 => h9) rfl dX3_next_35 ?_
          refine lv_iconst (v := (1 : Int32)) hx hb dX3_next_38 (by decide) ?_
          refine lv_iadd hx hb dX3_next_39 ?_
          refine va_put (D := D) (ci := 3) (ty := .int) (C := RX3) (T := TX3) (N := 10) hx hb htb inX3 tyX3 tyX3_ok nmX3 hown hK hP hD hS 11 (xw_11 c q σ6) rfl 5 (by decide) (htb _ tb_208) (fun _ h9 => h9) rfl (by decide +kernel) rfl rfl (Nat.le_of_ble_eq_true rfl) dX3_next_40 (fun H locs hP hD hS => ?_)
          have hP : va_P D vwCl (xw c q (hsI σ6 709 ((σ6.1 709) + (1 : Int32)))) H := hP
          obtain ⟨σ8, eσ8⟩ : ∃ z : hsS, z = hsI σ6 709 ((σ6.1 709) + (1 : Int32)) := ⟨_, rfl⟩
          rw [← eσ8] at hP
          have hD : va_D (wdA 36 q) (xw c q σ8) := xw_D hD0
          have hw := hw σ8 eσ8
          refine lv_goto (tgt := 8) hx hb dX3_next_43 (by decide) ?_
          exact ih  σ8 _ _ _ hw hk46 hP hS (lv_sub hl [0] rfl)
  have hl := lv_entry ([.ref (q 11)]) (n := 1) (Nat.le_of_ble_eq_true rfl)
  rw [lg_entry_eq]
  generalize (lg_sl ([.ref (q 11)]) ++ List.replicate (1 - (lg_sl ([.ref (q 11)])).length) Slot.unset).toArray = ls at hl ⊢
  have hl : lv_has ls 1 [(0, .ref (q 11))] := hl
  unfold wX3_next at hw
  refine lv_aload_n hx hb dX3_next_0 rfl (lv_at hl 0 rfl) ?_
  refine lv_aload_n hx hb dX3_next_1 rfl (lv_at hl 0 rfl) ?_
  refine va_get (D := D) (ci := 3) (C := RX3) (T := TX3) (N := 10) hx hb htb inX3 hown hK hP 11 (xw_11 c q σ) rfl 6 (by decide) (htb _ tb_209) (fun _ h9 => h9) rfl dX3_next_2 ?_
  refine va_put (D := D) (ci := 3) (ty := .int) (C := RX3) (T := TX3) (N := 10) hx hb htb inX3 tyX3 tyX3_ok nmX3 hown hK hP hD hS 11 (xw_11 c q σ) rfl 5 (by decide) (htb _ tb_208) (fun _ h9 => h9) rfl (by decide +kernel) rfl rfl (Nat.le_of_ble_eq_true rfl) dX3_next_5 (fun H locs hP hD hS => ?_)
  have hP : va_P D vwCl (xw c q (hsI σ 709 (σ.1 710))) H := hP
  obtain ⟨σ1, eσ1⟩ : ∃ z : hsS, z = hsI σ 709 (σ.1 710) := ⟨_, rfl⟩
  rw [← eσ1] at hP
  have hD : va_D (wdA 36 q) (xw c q σ1) := xw_D hD0
  have hw := hw σ1 eσ1
  obtain ⟨n9, hw⟩ := hw
  refine L8 _ n9  σ1 _ _ _ hw ?_ hP hS (lv_sub hl [0] rfl)
  intro σ10 H locs ls hw hP hS hl
  have hD : va_D (wdA 36 q) (xw c q σ10) := xw_D hD0
  refine lv_aload_n hx hb dX3_next_46 rfl (lv_at hl 0 rfl) ?_
  refine lv_aload_n hx hb dX3_next_47 rfl (lv_at hl 0 rfl) ?_
  refine va_get (D := D) (ci := 3) (C := RX3) (T := TX3) (N := 10) hx hb htb inX3 hown hK hP 11 (xw_11 c q σ10) rfl 5 (by decide) (htb _ tb_208) (fun _ h9 => h9) rfl dX3_next_48 ?_
  refine va_put (D := D) (ci := 3) (ty := .int) (C := RX3) (T := TX3) (N := 10) hx hb htb inX3 tyX3 tyX3_ok nmX3 hown hK hP hD hS 11 (xw_11 c q σ10) rfl 6 (by decide) (htb _ tb_209) (fun _ h9 => h9) rfl (by decide +kernel) rfl rfl (Nat.le_of_ble_eq_true rfl) dX3_next_51 (fun H locs hP hD hS => ?_)
  have hP : va_P D vwCl (xw c q (hsI σ10 710 (σ10.1 709))) H := hP
  obtain ⟨σ11, eσ11⟩ : ∃ z : hsS, z = hsI σ10 710 (σ10.1 709) := ⟨_, rfl⟩
  rw [← eσ11] at hP
  have hD : va_D (wdA 36 q) (xw c q σ11) := xw_D hD0
  have hw := hw σ11 eσ11
  refine lv_aload_n hx hb dX3_next_54 rfl (lv_at hl 0 rfl) ?_
  refine va_get (D := D) (ci := 3) (C := RX3) (T := TX3) (N := 10) hx hb htb inX3 hown hK hP 11 (xw_11 c q σ11) rfl 5 (by decide) (htb _ tb_208) (fun _ h9 => h9) rfl dX3_next_55 ?_
  refine lv_aload_n hx hb dX3_next_58 rfl (lv_at hl 0 rfl) ?_
  refine va_get (D := D) (ci := 3) (C := RX3) (T := TX3) (N := 10) hx hb htb inX3 hown hK hP 11 (xw_11 c q σ11) rfl 3 (by decide) (htb _ tb_206) (fun _ h9 => h9) rfl dX3_next_59 ?_
  refine lv_icmp_lt (tgt := 73) hx hb dX3_next_62 (by decide) (fun c12 => ?_) (fun c12 => ?_)
  · have hw := hw.1 c12
    refine lv_aload_n hx hb dX3_next_73 rfl (lv_at hl 0 rfl) ?_
    refine lv_aload_n hx hb dX3_next_74 rfl (lv_at hl 0 rfl) ?_
    refine va_get (D := D) (ci := 3) (C := RX3) (T := TX3) (N := 10) hx hb htb inX3 hown hK hP 11 (xw_11 c q σ11) rfl 5 (by decide) (htb _ tb_208) (fun _ h9 => h9) rfl dX3_next_75 ?_
    refine va_calli (va_runV (As := [.int (σ11.1 709)]) (rest := []) ⟨hx, hb, hml, hown, htb⟩ (kcX3_byteAt_11 l D c q ev hev σ11 (σ11.1 709) _ hw) (tb_CW htb kX3_byteAt tb_716 tb_718 tb_13 ⟨Nat.le_of_ble_eq_true rfl, Nat.le_of_ble_eq_true rfl⟩) (wd_preV (wd := xw c q) (k := 11) hev hK hP hD hE hS (xw_11 c q σ11) rfl) rfl rfl hl.1 rfl (lv_room (Nat.le_of_ble_eq_true rfl)) dX3_next_78 ⟨Nat.zero_le _, Nat.zero_le _⟩) hS (fun q _ h => h) (fun q h => h) (fun r13 σ14 t H1 locs1 ht hvm hw hB hz1 hk1 hS => ?_)
    have hP : va_P D vwCl (xw c q σ14) H1 := ht ▸ hB
    have hD : va_D (wdA 36 q) (xw c q σ14) := xw_D hD0
    refine va_calli (va_runS (As := [.int r13]) (rest := []) ⟨hx, hb, hml, hown, htb⟩ (kcX3_isLetter_x l D c q ev hev σ14 r13 _ hw) (tb_CS htb kX3_isLetter tb_723 tb_724 ⟨Nat.le_of_ble_eq_true rfl, Nat.le_of_ble_eq_true rfl⟩) (wd_preS (wd := xw c q) hev hK hP hD hE hS) rfl rfl hl.1 rfl (lv_room (Nat.le_of_ble_eq_true rfl)) dX3_next_81 ⟨Nat.zero_le _, Nat.zero_le _⟩) hS (fun q _ h => h) (fun q h => h) (fun r15 σ16 t H1 locs1 ht hvm hw hB hz1 hk1 hS => ?_)
    have hP : va_P D vwCl (xw c q σ16) H1 := ht ▸ hB
    have hD : va_D (wdA 36 q) (xw c q σ16) := xw_D hD0
    refine lv_if_eq (tgt := 99) hx hb dX3_next_84 (by decide) (fun c17 => ?_) (fun c17 => ?_)
    · have hw := hw.1 c17
      refine lv_aload_n hx hb dX3_next_99 rfl (lv_at hl 0 rfl) ?_
      refine lv_aload_n hx hb dX3_next_100 rfl (lv_at hl 0 rfl) ?_
      refine va_get (D := D) (ci := 3) (C := RX3) (T := TX3) (N := 10) hx hb htb inX3 hown hK hP 11 (xw_11 c q σ16) rfl 5 (by decide) (htb _ tb_208) (fun _ h9 => h9) rfl dX3_next_101 ?_
      refine va_calli (va_runV (As := [.int (σ16.1 709)]) (rest := []) ⟨hx, hb, hml, hown, htb⟩ (kcX3_byteAt_11 l D c q ev hev σ16 (σ16.1 709) _ hw) (tb_CW htb kX3_byteAt tb_716 tb_718 tb_13 ⟨Nat.le_of_ble_eq_true rfl, Nat.le_of_ble_eq_true rfl⟩) (wd_preV (wd := xw c q) (k := 11) hev hK hP hD hE hS (xw_11 c q σ16) rfl) rfl rfl hl.1 rfl (lv_room (Nat.le_of_ble_eq_true rfl)) dX3_next_104 ⟨Nat.zero_le _, Nat.zero_le _⟩) hS (fun q _ h => h) (fun q h => h) (fun r18 σ19 t H1 locs1 ht hvm hw hB hz1 hk1 hS => ?_)
      have hP : va_P D vwCl (xw c q σ19) H1 := ht ▸ hB
      have hD : va_D (wdA 36 q) (xw c q σ19) := xw_D hD0
      refine va_calli (va_runS (As := [.int r18]) (rest := []) ⟨hx, hb, hml, hown, htb⟩ (kcX3_isDigit_x l D c q ev hev σ19 r18 _ hw) (tb_CS htb kX3_isDigit tb_730 tb_731 ⟨Nat.le_of_ble_eq_true rfl, Nat.le_of_ble_eq_true rfl⟩) (wd_preS (wd := xw c q) hev hK hP hD hE hS) rfl rfl hl.1 rfl (lv_room (Nat.le_of_ble_eq_true rfl)) dX3_next_107 ⟨Nat.zero_le _, Nat.zero_le _⟩) hS (fun q _ h => h) (fun q h => h) (fun r20 σ21 t H1 locs1 ht hvm hw hB hz1 hk1 hS => ?_)
      have hP : va_P D vwCl (xw c q σ21) H1 := ht ▸ hB
      have hD : va_D (wdA 36 q) (xw c q σ21) := xw_D hD0
      refine lv_if_eq (tgt := 125) hx hb dX3_next_110 (by decide) (fun c22 => ?_) (fun c22 => ?_)
      · have hw := hw.1 c22
        refine lv_aload_n hx hb dX3_next_125 rfl (lv_at hl 0 rfl) ?_
        refine lv_aload_n hx hb dX3_next_126 rfl (lv_at hl 0 rfl) ?_
        refine lv_aload_n hx hb dX3_next_127 rfl (lv_at hl 0 rfl) ?_
        refine va_get (D := D) (ci := 3) (C := RX3) (T := TX3) (N := 10) hx hb htb inX3 hown hK hP 11 (xw_11 c q σ21) rfl 5 (by decide) (htb _ tb_208) (fun _ h9 => h9) rfl dX3_next_128 ?_
        refine va_calli (va_runV (As := [.int (σ21.1 709)]) (rest := [.ref (q 11)]) ⟨hx, hb, hml, hown, htb⟩ (kcX3_byteAt_11 l D c q ev hev σ21 (σ21.1 709) _ hw) (tb_CW htb kX3_byteAt tb_716 tb_718 tb_13 ⟨Nat.le_of_ble_eq_true rfl, Nat.le_of_ble_eq_true rfl⟩) (wd_preV (wd := xw c q) (k := 11) hev hK hP hD hE hS (xw_11 c q σ21) rfl) rfl rfl hl.1 rfl (lv_room (Nat.le_of_ble_eq_true rfl)) dX3_next_131 ⟨Nat.zero_le _, Nat.zero_le _⟩) hS (fun q _ h => h) (fun q h => h) (fun r23 σ24 t H1 locs1 ht hvm hw hB hz1 hk1 hS => ?_)
        have hP : va_P D vwCl (xw c q σ24) H1 := ht ▸ hB
        have hD : va_D (wdA 36 q) (xw c q σ24) := xw_D hD0
        refine lv_bipush (v := (59 : Int32)) hx hb dX3_next_134 (by decide) ?_
        refine lv_icmp_ne (tgt := 143) hx hb dX3_next_136 (by decide) (fun c25 => ?_) (fun c25 => ?_)
        · have hw := hw.2 c25
          refine lv_iconst (v := (4 : Int32)) hx hb dX3_next_143 (by decide) ?_
          refine va_put (D := D) (ci := 3) (ty := .int) (C := RX3) (T := TX3) (N := 10) hx hb htb inX3 tyX3 tyX3_ok nmX3 hown hK hP hD hS 11 (xw_11 c q σ24) rfl 4 (by decide) (htb _ tb_207) (fun _ h9 => h9) rfl (by decide +kernel) rfl rfl (Nat.le_of_ble_eq_true rfl) dX3_next_144 (fun H locs hP hD hS => ?_)
          have hP : va_P D vwCl (xw c q (hsI σ24 708 (4 : Int32))) H := hP
          obtain ⟨σ28, eσ28⟩ : ∃ z : hsS, z = hsI σ24 708 (4 : Int32) := ⟨_, rfl⟩
          rw [← eσ28] at hP
          have hD : va_D (wdA 36 q) (xw c q σ28) := xw_D hD0
          have hw := hw σ28 eσ28
          refine lv_aload_n hx hb dX3_next_147 rfl (lv_at hl 0 rfl) ?_
          refine lv_aload_n hx hb dX3_next_148 rfl (lv_at hl 0 rfl) ?_
          refine va_get (D := D) (ci := 3) (C := RX3) (T := TX3) (N := 10) hx hb htb inX3 hown hK hP 11 (xw_11 c q σ28) rfl 5 (by decide) (htb _ tb_208) (fun _ h9 => h9) rfl dX3_next_149 ?_
          refine lv_iconst (v := (1 : Int32)) hx hb dX3_next_152 (by decide) ?_
          refine lv_iadd hx hb dX3_next_153 ?_
          refine va_put (D := D) (ci := 3) (ty := .int) (C := RX3) (T := TX3) (N := 10) hx hb htb inX3 tyX3 tyX3_ok nmX3 hown hK hP hD hS 11 (xw_11 c q σ28) rfl 6 (by decide) (htb _ tb_209) (fun _ h9 => h9) rfl (by decide +kernel) rfl rfl (Nat.le_of_ble_eq_true rfl) dX3_next_154 (fun H locs hP hD hS => ?_)
          have hP : va_P D vwCl (xw c q (hsI σ28 710 ((σ28.1 709) + (1 : Int32)))) H := hP
          obtain ⟨σ29, eσ29⟩ : ∃ z : hsS, z = hsI σ28 710 ((σ28.1 709) + (1 : Int32)) := ⟨_, rfl⟩
          rw [← eσ29] at hP
          have hD : va_D (wdA 36 q) (xw c q σ29) := xw_D hD0
          have hw := hw σ29 eσ29
          exact W.vret hx hb hr (fun t ht hW => ⟨⟨σ29, rfl, hw, by unfold wdB; rw [ht]; exact hP⟩, hS.F ht⟩) hS.2.2 dX3_next_157
        · have hw := hw.1 c25
          refine lv_iconst (v := (3 : Int32)) hx hb dX3_next_139 (by decide) ?_
          refine lv_goto (tgt := 144) hx hb dX3_next_140 (by decide) ?_
          refine va_put (D := D) (ci := 3) (ty := .int) (C := RX3) (T := TX3) (N := 10) hx hb htb inX3 tyX3 tyX3_ok nmX3 hown hK hP hD hS 11 (xw_11 c q σ24) rfl 4 (by decide) (htb _ tb_207) (fun _ h9 => h9) rfl (by decide +kernel) rfl rfl (Nat.le_of_ble_eq_true rfl) dX3_next_144 (fun H locs hP hD hS => ?_)
          have hP : va_P D vwCl (xw c q (hsI σ24 708 (3 : Int32))) H := hP
          obtain ⟨σ26, eσ26⟩ : ∃ z : hsS, z = hsI σ24 708 (3 : Int32) := ⟨_, rfl⟩
          rw [← eσ26] at hP
          have hD : va_D (wdA 36 q) (xw c q σ26) := xw_D hD0
          have hw := hw σ26 eσ26
          refine lv_aload_n hx hb dX3_next_147 rfl (lv_at hl 0 rfl) ?_
          refine lv_aload_n hx hb dX3_next_148 rfl (lv_at hl 0 rfl) ?_
          refine va_get (D := D) (ci := 3) (C := RX3) (T := TX3) (N := 10) hx hb htb inX3 hown hK hP 11 (xw_11 c q σ26) rfl 5 (by decide) (htb _ tb_208) (fun _ h9 => h9) rfl dX3_next_149 ?_
          refine lv_iconst (v := (1 : Int32)) hx hb dX3_next_152 (by decide) ?_
          refine lv_iadd hx hb dX3_next_153 ?_
          refine va_put (D := D) (ci := 3) (ty := .int) (C := RX3) (T := TX3) (N := 10) hx hb htb inX3 tyX3 tyX3_ok nmX3 hown hK hP hD hS 11 (xw_11 c q σ26) rfl 6 (by decide) (htb _ tb_209) (fun _ h9 => h9) rfl (by decide +kernel) rfl rfl (Nat.le_of_ble_eq_true rfl) dX3_next_154 (fun H locs hP hD hS => ?_)
          have hP : va_P D vwCl (xw c q (hsI σ26 710 ((σ26.1 709) + (1 : Int32)))) H := hP
          obtain ⟨σ27, eσ27⟩ : ∃ z : hsS, z = hsI σ26 710 ((σ26.1 709) + (1 : Int32)) := ⟨_, rfl⟩
          rw [← eσ27] at hP
          have hD : va_D (wdA 36 q) (xw c q σ27) := xw_D hD0
          have hw := hw σ27 eσ27
          exact W.vret hx hb hr (fun t ht hW => ⟨⟨σ27, rfl, hw, by unfold wdB; rw [ht]; exact hP⟩, hS.F ht⟩) hS.2.2 dX3_next_157
      · have hw := hw.2 c22
        refine lv_aload_n hx hb dX3_next_113 rfl (lv_at hl 0 rfl) ?_
        refine lv_iconst (v := (2 : Int32)) hx hb dX3_next_114 (by decide) ?_
        refine va_put (D := D) (ci := 3) (ty := .int) (C := RX3) (T := TX3) (N := 10) hx hb htb inX3 tyX3 tyX3_ok nmX3 hown hK hP hD hS 11 (xw_11 c q σ21) rfl 4 (by decide) (htb _ tb_207) (fun _ h9 => h9) rfl (by decide +kernel) rfl rfl (Nat.le_of_ble_eq_true rfl) dX3_next_115 (fun H locs hP hD hS => ?_)
        have hP : va_P D vwCl (xw c q (hsI σ21 708 (2 : Int32))) H := hP
        obtain ⟨σ30, eσ30⟩ : ∃ z : hsS, z = hsI σ21 708 (2 : Int32) := ⟨_, rfl⟩
        rw [← eσ30] at hP
        have hD : va_D (wdA 36 q) (xw c q σ30) := xw_D hD0
        have hw := hw σ30 eσ30
        refine lv_aload_n hx hb dX3_next_118 rfl (lv_at hl 0 rfl) ?_
        refine va_callv (va_runV (As := []) (rest := []) ⟨hx, hb, hml, hown, htb⟩ (kcX3_passDigits_11 l D c q ev hev σ30  _ hw) (tb_CW htb kX3_passDigits tb_733 tb_735 tb_15 ⟨Nat.le_of_ble_eq_true rfl, Nat.le_of_ble_eq_true rfl⟩) (wd_preV (wd := xw c q) (k := 11) hev hK hP hD hE hS (xw_11 c q σ30) rfl) rfl rfl hl.1 rfl (lv_room (Nat.le_of_ble_eq_true rfl)) dX3_next_119 ⟨Nat.zero_le _, Nat.zero_le _⟩) hS (fun q _ h => h) (fun q h => h) (fun σ32 t H1 locs1 ht hvm hw hB hz1 hk1 hS => ?_)
        have hP : va_P D vwCl (xw c q σ32) H1 := ht ▸ hB
        have hD : va_D (wdA 36 q) (xw c q σ32) := xw_D hD0
        refine lv_goto (tgt := 157) hx hb dX3_next_122 (by decide) ?_
        exact W.vret hx hb hr (fun t ht hW => ⟨⟨σ32, rfl, hw, by unfold wdB; rw [ht]; exact hP⟩, hS.F ht⟩) hS.2.2 dX3_next_157
    · have hw := hw.2 c17
      refine lv_aload_n hx hb dX3_next_87 rfl (lv_at hl 0 rfl) ?_
      refine lv_iconst (v := (1 : Int32)) hx hb dX3_next_88 (by decide) ?_
      refine va_put (D := D) (ci := 3) (ty := .int) (C := RX3) (T := TX3) (N := 10) hx hb htb inX3 tyX3 tyX3_ok nmX3 hown hK hP hD hS 11 (xw_11 c q σ16) rfl 4 (by decide) (htb _ tb_207) (fun _ h9 => h9) rfl (by decide +kernel) rfl rfl (Nat.le_of_ble_eq_true rfl) dX3_next_89 (fun H locs hP hD hS => ?_)
      have hP : va_P D vwCl (xw c q (hsI σ16 708 (1 : Int32))) H := hP
      obtain ⟨σ33, eσ33⟩ : ∃ z : hsS, z = hsI σ16 708 (1 : Int32) := ⟨_, rfl⟩
      rw [← eσ33] at hP
      have hD : va_D (wdA 36 q) (xw c q σ33) := xw_D hD0
      have hw := hw σ33 eσ33
      refine lv_aload_n hx hb dX3_next_92 rfl (lv_at hl 0 rfl) ?_
      refine va_callv (va_runV (As := []) (rest := []) ⟨hx, hb, hml, hown, htb⟩ (kcX3_passLetters_11 l D c q ev hev σ33  _ hw) (tb_CW htb kX3_passLetters tb_726 tb_728 tb_14 ⟨Nat.le_of_ble_eq_true rfl, Nat.le_of_ble_eq_true rfl⟩) (wd_preV (wd := xw c q) (k := 11) hev hK hP hD hE hS (xw_11 c q σ33) rfl) rfl rfl hl.1 rfl (lv_room (Nat.le_of_ble_eq_true rfl)) dX3_next_93 ⟨Nat.zero_le _, Nat.zero_le _⟩) hS (fun q _ h => h) (fun q h => h) (fun σ35 t H1 locs1 ht hvm hw hB hz1 hk1 hS => ?_)
      have hP : va_P D vwCl (xw c q σ35) H1 := ht ▸ hB
      have hD : va_D (wdA 36 q) (xw c q σ35) := xw_D hD0
      refine lv_goto (tgt := 157) hx hb dX3_next_96 (by decide) ?_
      exact W.vret hx hb hr (fun t ht hW => ⟨⟨σ35, rfl, hw, by unfold wdB; rw [ht]; exact hP⟩, hS.F ht⟩) hS.2.2 dX3_next_157
  · have hw := hw.2 c12
    refine lv_aload_n hx hb dX3_next_65 rfl (lv_at hl 0 rfl) ?_
    refine lv_iconst (v := (0 : Int32)) hx hb dX3_next_66 (by decide) ?_
    refine va_put (D := D) (ci := 3) (ty := .int) (C := RX3) (T := TX3) (N := 10) hx hb htb inX3 tyX3 tyX3_ok nmX3 hown hK hP hD hS 11 (xw_11 c q σ11) rfl 4 (by decide) (htb _ tb_207) (fun _ h9 => h9) rfl (by decide +kernel) rfl rfl (Nat.le_of_ble_eq_true rfl) dX3_next_67 (fun H locs hP hD hS => ?_)
    have hP : va_P D vwCl (xw c q (hsI σ11 708 (0 : Int32))) H := hP
    obtain ⟨σ36, eσ36⟩ : ∃ z : hsS, z = hsI σ11 708 (0 : Int32) := ⟨_, rfl⟩
    rw [← eσ36] at hP
    have hD : va_D (wdA 36 q) (xw c q σ36) := xw_D hD0
    have hw := hw σ36 eσ36
    refine lv_goto (tgt := 157) hx hb dX3_next_70 (by decide) ?_
    exact W.vret hx hb hr (fun t ht hW => ⟨⟨σ36, rfl, hw, by unfold wdB; rw [ht]; exact hP⟩, hS.F ht⟩) hS.2.2 dX3_next_157
def wJ0_coder_7d493 (i0 : Nat) (post : Int32 → hsS → Prop) (σ : hsS) : Prop := post (0 : Int32) σ
set_option maxHeartbeats 4000000 in
set_option maxRecDepth 100000 in
theorem kcJ0_coder_7d493_s (l : Launch) (D : va_G) (c : Nat → ClassId) (q : Nat → Nat) (ev : State → Heap → Prop) (hev : evOK (wdA 36 q) ev) (adK adV : Nat → Nat) (hZ : ∀ (U : State) (H : Heap), ev U H → evS (wdA 36 q) adK adV U H) (σ : hsS) (i0 : Nat) (hi0 : i0 < 11) (post : Int32 → hsS → Prop) (hw : wJ0_coder_7d493 i0 post σ) : Met l yJ0_coder_7d493 (Cond.code yJ0_coder_7d493 cJ0_coder_7d493 1 (some .byte) :: tb_L) { frames := 0, cells := 0, slots := 0, locals := 0 } (wdPc D (xw c q) (xwT c) (wdA 36 q) ev σ [.ref (adK i0)]) (va_Qi post (wdB D (xw c q)) (wdA 36 q)) 0 0 (wdA 36 q) := by
  refine Met.ofW (cc := cJ0_coder_7d493) (maxL := 1) (ret := (some .byte)) (by decide) rfl ?_
  intro p e s m args below meth c₀ s₁ Bd hml hv
  obtain ⟨rfl, hP, hK, hD0, hE⟩ := hv
  have hx := Bd.exec
  have hb := Bd.bytes
  have hr := Bd.returns
  have hts := atoms_spec (ws := Cond.code yJ0_coder_7d493 cJ0_coder_7d493 1 (some .byte) :: tb_L) Bd.pre
  have htb : ∀ w ∈ tb_L, w.before [.ref (adK i0)].toArray s = true := fun w h => hts w (List.mem_cons_of_mem _ h)
  have hown : s.vm.findClass RJ0 = some m.cls := findClass_of_methodNamed Bd.named
  have hlocks := Bd.notSynchronized
  have hS : va_S (wdA 36 q) s.heap s.heap [] := va_S.rf
  have hD := hD0
  have hl := lv_entry ([.ref (adK i0)]) (n := 1) (Nat.le_of_ble_eq_true rfl)
  rw [lg_entry_eq]
  generalize (lg_sl ([.ref (adK i0)]) ++ List.replicate (1 - (lg_sl ([.ref (adK i0)])).length) Slot.unset).toArray = ls at hl ⊢
  have hl : lv_has ls 1 [(0, .ref (adK i0))] := hl
  unfold wJ0_coder_7d493 at hw
  refine va_gets hx hb (hZ s s.heap hE).2.1 hS hown (htb _ tb_758) (fun _ h9 => h9) dJ0_coder_7d493_0 ?_
  refine lv_if_eq (tgt := 13) hx hb dJ0_coder_7d493_3 (by decide) (fun h9 => absurd h9 (by decide)) (fun _ => ?_)
  refine lv_aload_n hx hb dJ0_coder_7d493_6 rfl (lv_at hl 0 rfl) ?_
  refine vk_getf hx hb ((hZ s s.heap hE).1.1 i0 hi0).2.1 hS hown (htb _ tb_1727) (fun _ h9 => h9) dJ0_coder_7d493_7 ?_
  refine lv_goto (tgt := 14) hx hb dJ0_coder_7d493_10 (by decide) ?_
  exact W.zret hx hb hr rfl (fun t ht hW => ⟨⟨_, σ, rfl, hw, by unfold wdB; rw [ht]; exact hP⟩, hS.F ht⟩) hS.2.2 dJ0_coder_7d493_14
def wJ0_length_8abf5 (i0 : Nat) (post : Int32 → hsS → Prop) (σ : hsS) : Prop := wJ0_coder_7d493 i0 (fun r1 σ2 => post ((Int32.ofNat (sLens.getD i0 0)) >>> (r1 &&& 31)) σ2) σ
set_option maxHeartbeats 4000000 in
set_option maxRecDepth 100000 in
theorem kcJ0_length_8abf5_s (l : Launch) (D : va_G) (c : Nat → ClassId) (q : Nat → Nat) (ev : State → Heap → Prop) (hev : evOK (wdA 36 q) ev) (adK adV : Nat → Nat) (hZ : ∀ (U : State) (H : Heap), ev U H → evS (wdA 36 q) adK adV U H) (σ : hsS) (i0 : Nat) (hi0 : i0 < 11) (post : Int32 → hsS → Prop) (hw : wJ0_length_8abf5 i0 post σ) : Met l yJ0_length_8abf5 (Cond.code yJ0_length_8abf5 cJ0_length_8abf5 1 (some .int) :: tb_L) { frames := 1, cells := 0, slots := 0, locals := 20 } (wdPc D (xw c q) (xwT c) (wdA 36 q) ev σ [.ref (adK i0)]) (va_Qi post (wdB D (xw c q)) (wdA 36 q)) 0 0 (wdA 36 q) := by
  refine Met.ofW (cc := cJ0_length_8abf5) (maxL := 1) (ret := (some .int)) (by decide) rfl ?_
  intro p e s m args below meth c₀ s₁ Bd hml hv
  obtain ⟨rfl, hP, hK, hD0, hE⟩ := hv
  have hx := Bd.exec
  have hb := Bd.bytes
  have hr := Bd.returns
  have hts := atoms_spec (ws := Cond.code yJ0_length_8abf5 cJ0_length_8abf5 1 (some .int) :: tb_L) Bd.pre
  have htb : ∀ w ∈ tb_L, w.before [.ref (adK i0)].toArray s = true := fun w h => hts w (List.mem_cons_of_mem _ h)
  have hown : s.vm.findClass RJ0 = some m.cls := findClass_of_methodNamed Bd.named
  have hlocks := Bd.notSynchronized
  have hS : va_S (wdA 36 q) s.heap s.heap [] := va_S.rf
  have hD := hD0
  have hl := lv_entry ([.ref (adK i0)]) (n := 1) (Nat.le_of_ble_eq_true rfl)
  rw [lg_entry_eq]
  generalize (lg_sl ([.ref (adK i0)]) ++ List.replicate (1 - (lg_sl ([.ref (adK i0)])).length) Slot.unset).toArray = ls at hl ⊢
  have hl : lv_has ls 1 [(0, .ref (adK i0))] := hl
  unfold wJ0_length_8abf5 at hw
  refine lv_aload_n hx hb dJ0_length_8abf5_0 rfl (lv_at hl 0 rfl) ?_
  refine vk_getf hx hb ((hZ s s.heap hE).1.1 i0 hi0).2.2.1 hS hown (htb _ tb_1726) (fun _ h9 => h9) dJ0_length_8abf5_1 ?_
  refine va_tlen hx hb ((hZ s s.heap hE).1.1 i0 hi0).2.2.2 hS rfl dJ0_length_8abf5_4 ?_
  refine lv_aload_n hx hb dJ0_length_8abf5_5 rfl (lv_at hl 0 rfl) ?_
  refine va_calli (va_runV (As := []) (rest := [.int (Int32.ofNat (sLens.getD i0 0))]) ⟨hx, hb, hml, hown, htb⟩ (kcJ0_coder_7d493_s l D c q ev hev adK adV hZ σ i0 hi0 _ hw) (tb_CW htb kJ0_coder_7d493 tb_754 tb_755 tb_756 ⟨Nat.le_of_ble_eq_true rfl, Nat.le_of_ble_eq_true rfl⟩) (wd_preVs (wd := xw c q) (hZ s s.heap hE).1 hi0 hev hK hP hD hE hS) rfl rfl hl.1 rfl (lv_room (Nat.le_of_ble_eq_true rfl)) dJ0_length_8abf5_6 ⟨Nat.zero_le _, Nat.zero_le _⟩) hS (fun q _ h => h) (fun q h => h) (fun r1 σ2 t H1 locs1 ht hvm hw hB hz1 hk1 hS => ?_)
  have hP : va_P D vwCl (xw c q σ2) H1 := ht ▸ hB
  have hD : va_D (wdA 36 q) (xw c q σ2) := xw_D hD0
  refine lv_ishr hx hb dJ0_length_8abf5_9 ?_
  exact W.iret hx hb hr (fun t ht hW => ⟨⟨_, σ2, rfl, hw, by unfold wdB; rw [ht]; exact hP⟩, hS.F ht⟩) hS.2.2 dJ0_length_8abf5_10
def wJ0_isLatin1_aae02 (i0 : Nat) (post : Int32 → hsS → Prop) (σ : hsS) : Prop := post (1 : Int32) σ
set_option maxHeartbeats 4000000 in
set_option maxRecDepth 100000 in
theorem kcJ0_isLatin1_aae02_s (l : Launch) (D : va_G) (c : Nat → ClassId) (q : Nat → Nat) (ev : State → Heap → Prop) (hev : evOK (wdA 36 q) ev) (adK adV : Nat → Nat) (hZ : ∀ (U : State) (H : Heap), ev U H → evS (wdA 36 q) adK adV U H) (σ : hsS) (i0 : Nat) (hi0 : i0 < 11) (post : Int32 → hsS → Prop) (hw : wJ0_isLatin1_aae02 i0 post σ) : Met l yJ0_isLatin1_aae02 (Cond.code yJ0_isLatin1_aae02 cJ0_isLatin1_aae02 1 (some .boolean) :: tb_L) { frames := 0, cells := 0, slots := 0, locals := 0 } (wdPc D (xw c q) (xwT c) (wdA 36 q) ev σ [.ref (adK i0)]) (va_Qi post (wdB D (xw c q)) (wdA 36 q)) 0 0 (wdA 36 q) := by
  refine Met.ofW (cc := cJ0_isLatin1_aae02) (maxL := 1) (ret := (some .boolean)) (by decide) rfl ?_
  intro p e s m args below meth c₀ s₁ Bd hml hv
  obtain ⟨rfl, hP, hK, hD0, hE⟩ := hv
  have hx := Bd.exec
  have hb := Bd.bytes
  have hr := Bd.returns
  have hts := atoms_spec (ws := Cond.code yJ0_isLatin1_aae02 cJ0_isLatin1_aae02 1 (some .boolean) :: tb_L) Bd.pre
  have htb : ∀ w ∈ tb_L, w.before [.ref (adK i0)].toArray s = true := fun w h => hts w (List.mem_cons_of_mem _ h)
  have hown : s.vm.findClass RJ0 = some m.cls := findClass_of_methodNamed Bd.named
  have hlocks := Bd.notSynchronized
  have hS : va_S (wdA 36 q) s.heap s.heap [] := va_S.rf
  have hD := hD0
  have hl := lv_entry ([.ref (adK i0)]) (n := 1) (Nat.le_of_ble_eq_true rfl)
  rw [lg_entry_eq]
  generalize (lg_sl ([.ref (adK i0)]) ++ List.replicate (1 - (lg_sl ([.ref (adK i0)])).length) Slot.unset).toArray = ls at hl ⊢
  have hl : lv_has ls 1 [(0, .ref (adK i0))] := hl
  unfold wJ0_isLatin1_aae02 at hw
  refine va_gets hx hb (hZ s s.heap hE).2.1 hS hown (htb _ tb_758) (fun _ h9 => h9) dJ0_isLatin1_aae02_0 ?_
  refine lv_if_eq (tgt := 17) hx hb dJ0_isLatin1_aae02_3 (by decide) (fun h9 => absurd h9 (by decide)) (fun _ => ?_)
  refine lv_aload_n hx hb dJ0_isLatin1_aae02_6 rfl (lv_at hl 0 rfl) ?_
  refine vk_getf hx hb ((hZ s s.heap hE).1.1 i0 hi0).2.1 hS hown (htb _ tb_1727) (fun _ h9 => h9) dJ0_isLatin1_aae02_7 ?_
  refine lv_if_ne (tgt := 17) hx hb dJ0_isLatin1_aae02_10 (by decide) (fun h9 => absurd h9 (by decide)) (fun _ => ?_)
  refine lv_iconst (v := (1 : Int32)) hx hb dJ0_isLatin1_aae02_13 (by decide) ?_
  refine lv_goto (tgt := 18) hx hb dJ0_isLatin1_aae02_14 (by decide) ?_
  exact W.zret hx hb hr rfl (fun t ht hW => ⟨⟨_, σ, rfl, hw, by unfold wdB; rw [ht]; exact hP⟩, hS.F ht⟩) hS.2.2 dJ0_isLatin1_aae02_18
def wJ3_checkIndex_8e157 (x0 : Int32) (x1 : Int32) (post : Int32 → hsS → Prop) (σ : hsS) : Prop := ((x0 < (0 : Int32) → False) ∧ (¬ x0 < (0 : Int32) → ((x0 < x1 → post x0 σ) ∧ (¬ x0 < x1 → False))))
set_option maxHeartbeats 4000000 in
set_option maxRecDepth 100000 in
theorem kcJ3_checkIndex_8e157_n (l : Launch) (D : va_G) (c : Nat → ClassId) (q : Nat → Nat) (ev : State → Heap → Prop) (hev : evOK (wdA 36 q) ev) (adK adV : Nat → Nat) (hZ : ∀ (U : State) (H : Heap), ev U H → evS (wdA 36 q) adK adV U H) (σ : hsS) (x0 : Int32) (x1 : Int32) (post : Int32 → hsS → Prop) (hw : wJ3_checkIndex_8e157 x0 x1 post σ) : Met l yJ3_checkIndex_8e157 (Cond.code yJ3_checkIndex_8e157 cJ3_checkIndex_8e157 3 (some .int) :: tb_L) { frames := 0, cells := 0, slots := 0, locals := 0 } (wdPc D (xw c q) (xwT c) (wdA 36 q) ev σ [.int x0, .int x1, .null]) (va_Qi post (wdB D (xw c q)) (wdA 36 q)) 0 0 (wdA 36 q) := by
  refine Met.ofW (cc := cJ3_checkIndex_8e157) (maxL := 3) (ret := (some .int)) (by decide) rfl ?_
  intro p e s m args below meth c₀ s₁ Bd hml hv
  obtain ⟨rfl, hP, hK, hD0, hE⟩ := hv
  have hx := Bd.exec
  have hb := Bd.bytes
  have hr := Bd.returns
  have hts := atoms_spec (ws := Cond.code yJ3_checkIndex_8e157 cJ3_checkIndex_8e157 3 (some .int) :: tb_L) Bd.pre
  have htb : ∀ w ∈ tb_L, w.before [.int x0, .int x1, .null].toArray s = true := fun w h => hts w (List.mem_cons_of_mem _ h)
  have hown : s.vm.findClass RJ3 = some m.cls := findClass_of_methodNamed Bd.named
  have hlocks := Bd.notSynchronized
  have hS : va_S (wdA 36 q) s.heap s.heap [] := va_S.rf
  have hD := hD0
  have hl := lv_entry ([.int x0, .int x1, .null]) (n := 3) (Nat.le_of_ble_eq_true rfl)
  rw [lg_entry_eq]
  generalize (lg_sl ([.int x0, .int x1, .null]) ++ List.replicate (3 - (lg_sl ([.int x0, .int x1, .null])).length) Slot.unset).toArray = ls at hl ⊢
  have hl : lv_has ls 3 [(0, .int x0), (1, .int x1), (2, .null)] := hl
  unfold wJ3_checkIndex_8e157 at hw
  refine lv_iload_n hx hb dJ3_checkIndex_8e157_0 rfl (lv_at hl 0 rfl) ?_
  refine lv_if_lt (tgt := 9) hx hb dJ3_checkIndex_8e157_1 (by decide) (fun c1 => ?_) (fun c1 => ?_)
  · have hw := hw.1 c1
    exact hw.elim
  · have hw := hw.2 c1
    refine lv_iload_n hx hb dJ3_checkIndex_8e157_4 rfl (lv_at hl 0 rfl) ?_
    refine lv_iload_n hx hb dJ3_checkIndex_8e157_5 rfl (lv_at hl 1 rfl) ?_
    refine lv_icmp_lt (tgt := 16) hx hb dJ3_checkIndex_8e157_6 (by decide) (fun c2 => ?_) (fun c2 => ?_)
    · have hw := hw.1 c2
      refine lv_iload_n hx hb dJ3_checkIndex_8e157_16 rfl (lv_at hl 0 rfl) ?_
      exact W.iret hx hb hr (fun t ht hW => ⟨⟨_, σ, rfl, hw, by unfold wdB; rw [ht]; exact hP⟩, hS.F ht⟩) hS.2.2 dJ3_checkIndex_8e157_17
    · have hw := hw.2 c2
      exact hw.elim
set_option maxHeartbeats 4000000 in
set_option maxRecDepth 100000 in
theorem kcJ3_checkIndex_8e157_u (l : Launch) (D : va_G) (c : Nat → ClassId) (q : Nat → Nat) (ev : State → Heap → Prop) (hev : evOK (wdA 36 q) ev) (adK adV : Nat → Nat) (hZ : ∀ (U : State) (H : Heap), ev U H → evS (wdA 36 q) adK adV U H) (σ : hsS) (x0 : Int32) (x1 : Int32) (t2 : Nat) (post : Int32 → hsS → Prop) (hw : wJ3_checkIndex_8e157 x0 x1 post σ) : Met l yJ3_checkIndex_8e157 (Cond.code yJ3_checkIndex_8e157 cJ3_checkIndex_8e157 3 (some .int) :: tb_L) { frames := 0, cells := 0, slots := 0, locals := 0 } (wdPc D (xw c q) (xwT c) (wdA 36 q) ev σ [.int x0, .int x1, .ref t2]) (va_Qi post (wdB D (xw c q)) (wdA 36 q)) 0 0 (wdA 36 q) := by
  refine Met.ofW (cc := cJ3_checkIndex_8e157) (maxL := 3) (ret := (some .int)) (by decide) rfl ?_
  intro p e s m args below meth c₀ s₁ Bd hml hv
  obtain ⟨rfl, hP, hK, hD0, hE⟩ := hv
  have hx := Bd.exec
  have hb := Bd.bytes
  have hr := Bd.returns
  have hts := atoms_spec (ws := Cond.code yJ3_checkIndex_8e157 cJ3_checkIndex_8e157 3 (some .int) :: tb_L) Bd.pre
  have htb : ∀ w ∈ tb_L, w.before [.int x0, .int x1, .ref t2].toArray s = true := fun w h => hts w (List.mem_cons_of_mem _ h)
  have hown : s.vm.findClass RJ3 = some m.cls := findClass_of_methodNamed Bd.named
  have hlocks := Bd.notSynchronized
  have hS : va_S (wdA 36 q) s.heap s.heap [] := va_S.rf
  have hD := hD0
  have hl := lv_entry ([.int x0, .int x1, .ref t2]) (n := 3) (Nat.le_of_ble_eq_true rfl)
  rw [lg_entry_eq]
  generalize (lg_sl ([.int x0, .int x1, .ref t2]) ++ List.replicate (3 - (lg_sl ([.int x0, .int x1, .ref t2])).length) Slot.unset).toArray = ls at hl ⊢
  have hl : lv_has ls 3 [(0, .int x0), (1, .int x1), (2, .ref t2)] := hl
  unfold wJ3_checkIndex_8e157 at hw
  refine lv_iload_n hx hb dJ3_checkIndex_8e157_0 rfl (lv_at hl 0 rfl) ?_
  refine lv_if_lt (tgt := 9) hx hb dJ3_checkIndex_8e157_1 (by decide) (fun c1 => ?_) (fun c1 => ?_)
  · have hw := hw.1 c1
    exact hw.elim
  · have hw := hw.2 c1
    refine lv_iload_n hx hb dJ3_checkIndex_8e157_4 rfl (lv_at hl 0 rfl) ?_
    refine lv_iload_n hx hb dJ3_checkIndex_8e157_5 rfl (lv_at hl 1 rfl) ?_
    refine lv_icmp_lt (tgt := 16) hx hb dJ3_checkIndex_8e157_6 (by decide) (fun c2 => ?_) (fun c2 => ?_)
    · have hw := hw.1 c2
      refine lv_iload_n hx hb dJ3_checkIndex_8e157_16 rfl (lv_at hl 0 rfl) ?_
      exact W.iret hx hb hr (fun t ht hW => ⟨⟨_, σ, rfl, hw, by unfold wdB; rw [ht]; exact hP⟩, hS.F ht⟩) hS.2.2 dJ3_checkIndex_8e157_17
    · have hw := hw.2 c2
      exact hw.elim
def wJ0_checkIndex_df160 (x0 : Int32) (x1 : Int32) (post : hsS → Prop) (σ : hsS) : Prop := wJ3_checkIndex_8e157 x0 x1 (fun r1 σ2 => post σ2) σ
set_option maxHeartbeats 4000000 in
set_option maxRecDepth 100000 in
theorem kcJ0_checkIndex_df160_x (l : Launch) (D : va_G) (c : Nat → ClassId) (q : Nat → Nat) (ev : State → Heap → Prop) (hev : evOK (wdA 36 q) ev) (adK adV : Nat → Nat) (hZ : ∀ (U : State) (H : Heap), ev U H → evS (wdA 36 q) adK adV U H) (σ : hsS) (x0 : Int32) (x1 : Int32) (post : hsS → Prop) (hw : wJ0_checkIndex_df160 x0 x1 post σ) : Met l yJ0_checkIndex_df160 (Cond.code yJ0_checkIndex_df160 cJ0_checkIndex_df160 2 none :: tb_L) { frames := 1, cells := 0, slots := 0, locals := 22 } (wdPc D (xw c q) (xwT c) (wdA 36 q) ev σ [.int x0, .int x1]) (va_Qv post (wdB D (xw c q)) (wdA 36 q)) 0 0 (wdA 36 q) := by
  refine Met.ofW (cc := cJ0_checkIndex_df160) (maxL := 2) (ret := none) (by decide) rfl ?_
  intro p e s m args below meth c₀ s₁ Bd hml hv
  obtain ⟨rfl, hP, hK, hD0, hE⟩ := hv
  have hx := Bd.exec
  have hb := Bd.bytes
  have hr := Bd.returns
  have hts := atoms_spec (ws := Cond.code yJ0_checkIndex_df160 cJ0_checkIndex_df160 2 none :: tb_L) Bd.pre
  have htb : ∀ w ∈ tb_L, w.before [.int x0, .int x1].toArray s = true := fun w h => hts w (List.mem_cons_of_mem _ h)
  have hown : s.vm.findClass RJ0 = some m.cls := findClass_of_methodNamed Bd.named
  have hlocks := Bd.notSynchronized
  have hS : va_S (wdA 36 q) s.heap s.heap [] := va_S.rf
  have hD := hD0
  have hl := lv_entry ([.int x0, .int x1]) (n := 2) (Nat.le_of_ble_eq_true rfl)
  rw [lg_entry_eq]
  generalize (lg_sl ([.int x0, .int x1]) ++ List.replicate (2 - (lg_sl ([.int x0, .int x1])).length) Slot.unset).toArray = ls at hl ⊢
  have hl : lv_has ls 2 [(0, .int x0), (1, .int x1)] := hl
  unfold wJ0_checkIndex_df160 at hw
  refine lv_iload_n hx hb dJ0_checkIndex_df160_0 rfl (lv_at hl 0 rfl) ?_
  refine lv_iload_n hx hb dJ0_checkIndex_df160_1 rfl (lv_at hl 1 rfl) ?_
  rcases (hZ s s.heap hE).2.2.1 with hz | ⟨t9, hz⟩
  · refine va_gets hx hb hz hS hown (htb _ tb_774) (fun _ h9 => h9) dJ0_checkIndex_df160_2 ?_
    refine va_calli (va_runS (As := [.int x0, .int x1, .null]) (rest := []) ⟨hx, hb, hml, hown, htb⟩ (kcJ3_checkIndex_8e157_n l D c q ev hev adK adV hZ σ x0 x1 _ hw) (tb_CS htb kJ3_checkIndex_8e157 tb_776 tb_777 ⟨Nat.le_of_ble_eq_true rfl, Nat.le_of_ble_eq_true rfl⟩) (wd_preS (wd := xw c q) hev hK hP hD hE hS) rfl rfl hl.1 rfl (lv_room (Nat.le_of_ble_eq_true rfl)) dJ0_checkIndex_df160_5 ⟨Nat.zero_le _, Nat.zero_le _⟩) hS (fun q _ h => h) (fun q h => h) (fun r1 σ2 t H1 locs1 ht hvm hw hB hz1 hk1 hS => ?_)
    have hP : va_P D vwCl (xw c q σ2) H1 := ht ▸ hB
    have hD : va_D (wdA 36 q) (xw c q σ2) := xw_D hD0
    refine lv_pop hx hb dJ0_checkIndex_df160_8 rfl ?_
    exact W.vret hx hb hr (fun t ht hW => ⟨⟨σ2, rfl, hw, by unfold wdB; rw [ht]; exact hP⟩, hS.F ht⟩) hS.2.2 dJ0_checkIndex_df160_9
  · refine va_gets hx hb hz hS hown (htb _ tb_774) (fun _ h9 => h9) dJ0_checkIndex_df160_2 ?_
    refine va_calli (va_runS (As := [.int x0, .int x1, .ref t9]) (rest := []) ⟨hx, hb, hml, hown, htb⟩ (kcJ3_checkIndex_8e157_u l D c q ev hev adK adV hZ σ x0 x1 t9 _ hw) (tb_CS htb kJ3_checkIndex_8e157 tb_776 tb_777 ⟨Nat.le_of_ble_eq_true rfl, Nat.le_of_ble_eq_true rfl⟩) (wd_preS (wd := xw c q) hev hK hP hD hE hS) rfl rfl hl.1 rfl (lv_room (Nat.le_of_ble_eq_true rfl)) dJ0_checkIndex_df160_5 ⟨Nat.zero_le _, Nat.zero_le _⟩) hS (fun q _ h => h) (fun q h => h) (fun r3 σ4 t H1 locs1 ht hvm hw hB hz1 hk1 hS => ?_)
    have hP : va_P D vwCl (xw c q σ4) H1 := ht ▸ hB
    have hD : va_D (wdA 36 q) (xw c q σ4) := xw_D hD0
    refine lv_pop hx hb dJ0_checkIndex_df160_8 rfl ?_
    exact W.vret hx hb hr (fun t ht hW => ⟨⟨σ4, rfl, hw, by unfold wdB; rw [ht]; exact hP⟩, hS.F ht⟩) hS.2.2 dJ0_checkIndex_df160_9
def wJ1_charAt_3b067 (i0 : Nat) (x1 : Int32) (post : Int32 → hsS → Prop) (σ : hsS) : Prop := wJ0_checkIndex_df160 x1 (Int32.ofNat (sLens.getD i0 0)) (fun σ2 => vp_in x1 (sLens.getD i0 0) ∧ narrow .char (.int (((((sByts.getD i0 []).getD x1.toNatClampNeg 0) &&& (255 : Int32)).toUInt32 % 65536).toInt32)) = .int (((((sByts.getD i0 []).getD x1.toNatClampNeg 0) &&& (255 : Int32)).toUInt32 % 65536).toInt32) ∧ post (((((sByts.getD i0 []).getD x1.toNatClampNeg 0) &&& (255 : Int32)).toUInt32 % 65536).toInt32) σ2) σ
set_option maxHeartbeats 4000000 in
set_option maxRecDepth 100000 in
theorem kcJ1_charAt_3b067_v (l : Launch) (D : va_G) (c : Nat → ClassId) (q : Nat → Nat) (ev : State → Heap → Prop) (hev : evOK (wdA 36 q) ev) (adK adV : Nat → Nat) (hZ : ∀ (U : State) (H : Heap), ev U H → evS (wdA 36 q) adK adV U H) (σ : hsS) (i0 : Nat) (hi0 : i0 < 11) (x1 : Int32) (post : Int32 → hsS → Prop) (hw : wJ1_charAt_3b067 i0 x1 post σ) : Met l yJ1_charAt_3b067 (Cond.code yJ1_charAt_3b067 cJ1_charAt_3b067 2 (some .char) :: tb_L) { frames := 2, cells := 0, slots := 0, locals := 43 } (wdPc D (xw c q) (xwT c) (wdA 36 q) ev σ [.ref (adV i0), .int x1]) (va_Qi post (wdB D (xw c q)) (wdA 36 q)) 0 0 (wdA 36 q) := by
  refine Met.ofW (cc := cJ1_charAt_3b067) (maxL := 2) (ret := (some .char)) (by decide) rfl ?_
  intro p e s m args below meth c₀ s₁ Bd hml hv
  obtain ⟨rfl, hP, hK, hD0, hE⟩ := hv
  have hx := Bd.exec
  have hb := Bd.bytes
  have hr := Bd.returns
  have hts := atoms_spec (ws := Cond.code yJ1_charAt_3b067 cJ1_charAt_3b067 2 (some .char) :: tb_L) Bd.pre
  have htb : ∀ w ∈ tb_L, w.before [.ref (adV i0), .int x1].toArray s = true := fun w h => hts w (List.mem_cons_of_mem _ h)
  have hown : s.vm.findClass RJ1 = some m.cls := findClass_of_methodNamed Bd.named
  have hlocks := Bd.notSynchronized
  have hS : va_S (wdA 36 q) s.heap s.heap [] := va_S.rf
  have hD := hD0
  have hl := lv_entry ([.ref (adV i0), .int x1]) (n := 2) (Nat.le_of_ble_eq_true rfl)
  rw [lg_entry_eq]
  generalize (lg_sl ([.ref (adV i0), .int x1]) ++ List.replicate (2 - (lg_sl ([.ref (adV i0), .int x1])).length) Slot.unset).toArray = ls at hl ⊢
  have hl : lv_has ls 2 [(0, .ref (adV i0)), (1, .int x1)] := hl
  unfold wJ1_charAt_3b067 at hw
  refine lv_iload_n hx hb dJ1_charAt_3b067_0 rfl (lv_at hl 1 rfl) ?_
  refine lv_aload_n hx hb dJ1_charAt_3b067_1 rfl (lv_at hl 0 rfl) ?_
  refine va_tlen hx hb ((hZ s s.heap hE).1.1 i0 hi0).2.2.2 hS rfl dJ1_charAt_3b067_2 ?_
  refine va_callv (va_runS (As := [.int x1, .int (Int32.ofNat (sLens.getD i0 0))]) (rest := []) ⟨hx, hb, hml, hown, htb⟩ (kcJ0_checkIndex_df160_x l D c q ev hev adK adV hZ σ x1 (Int32.ofNat (sLens.getD i0 0)) _ hw) (tb_CS htb kJ0_checkIndex_df160 tb_771 tb_772 ⟨Nat.le_of_ble_eq_true rfl, Nat.le_of_ble_eq_true rfl⟩) (wd_preS (wd := xw c q) hev hK hP hD hE hS) rfl rfl hl.1 rfl (lv_room (Nat.le_of_ble_eq_true rfl)) dJ1_charAt_3b067_3 ⟨Nat.zero_le _, Nat.zero_le _⟩) hS (fun q _ h => h) (fun q h => h) (fun σ2 t H1 locs1 ht hvm hw hB hz1 hk1 hS => ?_)
  have hP : va_P D vwCl (xw c q σ2) H1 := ht ▸ hB
  have hD : va_D (wdA 36 q) (xw c q σ2) := xw_D hD0
  refine lv_aload_n hx hb dJ1_charAt_3b067_6 rfl (lv_at hl 0 rfl) ?_
  refine lv_iload_n hx hb dJ1_charAt_3b067_7 rfl (lv_at hl 1 rfl) ?_
  refine va_tb hx hb ((hZ s s.heap hE).1.1 i0 hi0).2.2.2 hS hw.1 rfl dJ1_charAt_3b067_8 ?_
  have hw := hw.2
  refine lv_sipush (v := (255 : Int32)) hx hb dJ1_charAt_3b067_9 (by decide) ?_
  refine lv_iand hx hb dJ1_charAt_3b067_12 ?_
  refine lv_i2c hx hb dJ1_charAt_3b067_13 rfl ?_
  exact W.zret hx hb hr hw.1 (fun t ht hW => ⟨⟨_, σ2, rfl, hw.2, by unfold wdB; rw [ht]; exact hP⟩, hS.F ht⟩) hS.2.2 dJ1_charAt_3b067_14
def wJ0_charAt_5068e (i0 : Nat) (x1 : Int32) (post : Int32 → hsS → Prop) (σ : hsS) : Prop := wJ0_isLatin1_aae02 i0 (fun r1 σ2 => ((r1 = (0 : Int32) → False) ∧ (¬ r1 = (0 : Int32) → wJ1_charAt_3b067 i0 x1 (fun r4 σ5 => narrow .char (.int r4) = .int r4 ∧ post r4 σ5) σ2))) σ
set_option maxHeartbeats 4000000 in
set_option maxRecDepth 100000 in
theorem kcJ0_charAt_5068e_s (l : Launch) (D : va_G) (c : Nat → ClassId) (q : Nat → Nat) (ev : State → Heap → Prop) (hev : evOK (wdA 36 q) ev) (adK adV : Nat → Nat) (hZ : ∀ (U : State) (H : Heap), ev U H → evS (wdA 36 q) adK adV U H) (σ : hsS) (i0 : Nat) (hi0 : i0 < 11) (x1 : Int32) (post : Int32 → hsS → Prop) (hw : wJ0_charAt_5068e i0 x1 post σ) : Met l yJ0_charAt_5068e (Cond.code yJ0_charAt_5068e cJ0_charAt_5068e 2 (some .char) :: tb_L) { frames := 3, cells := 0, slots := 0, locals := 64 } (wdPc D (xw c q) (xwT c) (wdA 36 q) ev σ [.ref (adK i0), .int x1]) (va_Qi post (wdB D (xw c q)) (wdA 36 q)) 0 0 (wdA 36 q) := by
  refine Met.ofW (cc := cJ0_charAt_5068e) (maxL := 2) (ret := (some .char)) (by decide) rfl ?_
  intro p e s m args below meth c₀ s₁ Bd hml hv
  obtain ⟨rfl, hP, hK, hD0, hE⟩ := hv
  have hx := Bd.exec
  have hb := Bd.bytes
  have hr := Bd.returns
  have hts := atoms_spec (ws := Cond.code yJ0_charAt_5068e cJ0_charAt_5068e 2 (some .char) :: tb_L) Bd.pre
  have htb : ∀ w ∈ tb_L, w.before [.ref (adK i0), .int x1].toArray s = true := fun w h => hts w (List.mem_cons_of_mem _ h)
  have hown : s.vm.findClass RJ0 = some m.cls := findClass_of_methodNamed Bd.named
  have hlocks := Bd.notSynchronized
  have hS : va_S (wdA 36 q) s.heap s.heap [] := va_S.rf
  have hD := hD0
  have hl := lv_entry ([.ref (adK i0), .int x1]) (n := 2) (Nat.le_of_ble_eq_true rfl)
  rw [lg_entry_eq]
  generalize (lg_sl ([.ref (adK i0), .int x1]) ++ List.replicate (2 - (lg_sl ([.ref (adK i0), .int x1])).length) Slot.unset).toArray = ls at hl ⊢
  have hl : lv_has ls 2 [(0, .ref (adK i0)), (1, .int x1)] := hl
  unfold wJ0_charAt_5068e at hw
  refine lv_aload_n hx hb dJ0_charAt_5068e_0 rfl (lv_at hl 0 rfl) ?_
  refine va_calli (va_runV (As := []) (rest := []) ⟨hx, hb, hml, hown, htb⟩ (kcJ0_isLatin1_aae02_s l D c q ev hev adK adV hZ σ i0 hi0 _ hw) (tb_CW htb kJ0_isLatin1_aae02 tb_764 tb_765 tb_766 ⟨Nat.le_of_ble_eq_true rfl, Nat.le_of_ble_eq_true rfl⟩) (wd_preVs (wd := xw c q) (hZ s s.heap hE).1 hi0 hev hK hP hD hE hS) rfl rfl hl.1 rfl (lv_room (Nat.le_of_ble_eq_true rfl)) dJ0_charAt_5068e_1 ⟨Nat.zero_le _, Nat.zero_le _⟩) hS (fun q _ h => h) (fun q h => h) (fun r1 σ2 t H1 locs1 ht hvm hw hB hz1 hk1 hS => ?_)
  have hP : va_P D vwCl (xw c q σ2) H1 := ht ▸ hB
  have hD : va_D (wdA 36 q) (xw c q σ2) := xw_D hD0
  refine lv_if_eq (tgt := 16) hx hb dJ0_charAt_5068e_4 (by decide) (fun c3 => ?_) (fun c3 => ?_)
  · have hw := hw.1 c3
    exact hw.elim
  · have hw := hw.2 c3
    refine lv_aload_n hx hb dJ0_charAt_5068e_7 rfl (lv_at hl 0 rfl) ?_
    refine vk_getf hx hb ((hZ s s.heap hE).1.1 i0 hi0).2.2.1 hS hown (htb _ tb_1726) (fun _ h9 => h9) dJ0_charAt_5068e_8 ?_
    refine lv_iload_n hx hb dJ0_charAt_5068e_11 rfl (lv_at hl 1 rfl) ?_
    refine va_calli (va_runS (As := [.ref (adV i0), .int x1]) (rest := []) ⟨hx, hb, hml, hown, htb⟩ (kcJ1_charAt_3b067_v l D c q ev hev adK adV hZ σ2 i0 hi0 x1 _ hw) (tb_CS htb kJ1_charAt_3b067 tb_768 tb_769 ⟨Nat.le_of_ble_eq_true rfl, Nat.le_of_ble_eq_true rfl⟩) (wd_preS (wd := xw c q) hev hK hP hD hE hS) rfl rfl hl.1 rfl (lv_room (Nat.le_of_ble_eq_true rfl)) dJ0_charAt_5068e_12 ⟨Nat.zero_le _, Nat.zero_le _⟩) hS (fun q _ h => h) (fun q h => h) (fun r4 σ5 t H1 locs1 ht hvm hw hB hz1 hk1 hS => ?_)
    have hP : va_P D vwCl (xw c q σ5) H1 := ht ▸ hB
    have hD : va_D (wdA 36 q) (xw c q σ5) := xw_D hD0
    exact W.zret hx hb hr hw.1 (fun t ht hW => ⟨⟨_, σ5, rfl, hw.2, by unfold wdB; rw [ht]; exact hP⟩, hS.F ht⟩) hS.2.2 dJ0_charAt_5068e_15
def wX3_isWord_L28 (b0 : Nat) (i1 : Nat) (K54 : Int32 → hsS → Prop) (K62 : Int32 → hsS → Prop) (post : Int32 → hsS → Prop) : Nat → Int32 → hsS → Prop
  | 0, _, _ => False
  | n + 1, y2, σ => wJ0_length_8abf5 i1 (fun r5 σ6 => ((r5 ≤ y2 → K62 y2 σ6) ∧ (¬ r5 ≤ y2 → wX3_byteAt b0 ((σ6.1 (64 * b0 + 5)) + y2) (fun r8 σ9 => wJ0_charAt_5068e i1 y2 (fun r10 σ11 => ((r8 = r10 → ∀ v13 : Int32, v13 = y2 + (1 : Int32) → wX3_isWord_L28 b0 i1 K54 K62 post n v13 σ11) ∧ (¬ r8 = r10 → K54 y2 σ11))) σ9) σ6))) σ
def wX3_isWord (b0 : Nat) (i1 : Nat) (post : Int32 → hsS → Prop) (σ : hsS) : Prop := (((σ.1 (64 * b0 + 4)) = (1 : Int32) → wJ0_length_8abf5 i1 (fun r2 σ3 => ((((σ.1 (64 * b0 + 6)) - (σ.1 (64 * b0 + 5))) = r2 → ∃ n14, wX3_isWord_L28 b0 i1 (fun v15 σ16 => post (0 : Int32) σ16) (fun v17 σ18 => post (1 : Int32) σ18) post n14 (0 : Int32) σ3) ∧ (¬ ((σ.1 (64 * b0 + 6)) - (σ.1 (64 * b0 + 5))) = r2 → post (0 : Int32) σ3))) σ) ∧ (¬ (σ.1 (64 * b0 + 4)) = (1 : Int32) → post (0 : Int32) σ))
set_option maxHeartbeats 4000000 in
set_option maxRecDepth 100000 in
theorem kcX3_isWord_11_s (l : Launch) (D : va_G) (c : Nat → ClassId) (q : Nat → Nat) (ev : State → Heap → Prop) (hev : evOK (wdA 36 q) ev) (adK adV : Nat → Nat) (hZ : ∀ (U : State) (H : Heap), ev U H → evS (wdA 36 q) adK adV U H) (σ : hsS) (i1 : Nat) (hi1 : i1 < 11) (post : Int32 → hsS → Prop) (hw : wX3_isWord 11 i1 post σ) : Met l yX3_isWord (Cond.code yX3_isWord cX3_isWord 3 (some .boolean) :: tb_L) { frames := 4, cells := 0, slots := 0, locals := 85 } (wdPc D (xw c q) (xwT c) (wdA 36 q) ev σ [.ref (q 11), .ref (adK i1)]) (va_Qi post (wdB D (xw c q)) (wdA 36 q)) 0 0 (wdA 36 q) := by
  refine Met.ofW (cc := cX3_isWord) (maxL := 3) (ret := (some .boolean)) (by decide) rfl ?_
  intro p e s m args below meth c₀ s₁ Bd hml hv
  obtain ⟨rfl, hP, hK, hD0, hE⟩ := hv
  have hx := Bd.exec
  have hb := Bd.bytes
  have hr := Bd.returns
  have hts := atoms_spec (ws := Cond.code yX3_isWord cX3_isWord 3 (some .boolean) :: tb_L) Bd.pre
  have htb : ∀ w ∈ tb_L, w.before [.ref (q 11), .ref (adK i1)].toArray s = true := fun w h => hts w (List.mem_cons_of_mem _ h)
  have hown : s.vm.findClass RX3 = some m.cls := findClass_of_methodNamed Bd.named
  have hlocks := Bd.notSynchronized
  have hS : va_S (wdA 36 q) s.heap s.heap [] := va_S.rf
  have hD := hD0
  have L28 : ∀ (K54 : Int32 → hsS → Prop) (K62 : Int32 → hsS → Prop) (n : Nat) (y2 : Int32) (σ : hsS) (H : Heap) (locs : List Loc) (ls : Array Slot), wX3_isWord_L28 11 i1 K54 K62 post n y2 σ → (∀ (y2 : Int32) (σ : hsS) (H : Heap) (locs : List Loc) (ls : Array Slot), K54 y2 σ → va_P D vwCl (xw c q σ) H → va_S (wdA 36 q) s.heap H locs → lv_has ls 3 [(0, .ref (q 11)), (1, .ref (adK i1)), (2, .int y2)] → W p l e (headSpec (Cond.code yX3_isWord cX3_isWord 3 (some .boolean) :: tb_L) { frames := 4, cells := 0, slots := 0, locals := 85 }).room s m [.ref (q 11), .ref (adK i1)].toArray below meth c₀ H locs 0 0 (MQ below (va_Qi post (wdB D (xw c q)) (wdA 36 q)) [.ref (q 11), .ref (adK i1)].toArray s 0 0 (wdA 36 q)) (F0 m 54 ls [])) → (∀ (y2 : Int32) (σ : hsS) (H : Heap) (locs : List Loc) (ls : Array Slot), K62 y2 σ → va_P D vwCl (xw c q σ) H → va_S (wdA 36 q) s.heap H locs → lv_has ls 3 [(0, .ref (q 11)), (1, .ref (adK i1)), (2, .int y2)] → W p l e (headSpec (Cond.code yX3_isWord cX3_isWord 3 (some .boolean) :: tb_L) { frames := 4, cells := 0, slots := 0, locals := 85 }).room s m [.ref (q 11), .ref (adK i1)].toArray below meth c₀ H locs 0 0 (MQ below (va_Qi post (wdB D (xw c q)) (wdA 36 q)) [.ref (q 11), .ref (adK i1)].toArray s 0 0 (wdA 36 q)) (F0 m 62 ls [])) → va_P D vwCl (xw c q σ) H → va_S (wdA 36 q) s.heap H locs → lv_has ls 3 [(0, .ref (q 11)), (1, .ref (adK i1)), (2, .int y2)] → W p l e (headSpec (Cond.code yX3_isWord cX3_isWord 3 (some .boolean) :: tb_L) { frames := 4, cells := 0, slots := 0, locals := 85 }).room s m [.ref (q 11), .ref (adK i1)].toArray below meth c₀ H locs 0 0 (MQ below (va_Qi post (wdB D (xw c q)) (wdA 36 q)) [.ref (q 11), .ref (adK i1)].toArray s 0 0 (wdA 36 q)) (F0 m 28 ls []) := by
    intro K54 K62 n
    induction n with
    | zero =>
      intro y2 σ H locs ls hw hk54 hk62 hP hS hl
      exact (show False from hw).elim
    | succ n ih =>
      intro y2 σ H locs ls hw hk54 hk62 hP hS hl
      rw [wX3_isWord_L28] at hw
      have hD : va_D (wdA 36 q) (xw c q σ) := xw_D hD0
      refine lv_iload_n hx hb dX3_isWord_28 rfl (lv_at hl 2 rfl) ?_
      refine lv_aload_n hx hb dX3_isWord_29 rfl (lv_at hl 1 rfl) ?_
      refine va_calli (va_runV (As := []) (rest := [.int y2]) ⟨hx, hb, hml, hown, htb⟩ (kcJ0_length_8abf5_s l D c q ev hev adK adV hZ σ i1 hi1 _ hw) (tb_CW htb kJ0_length_8abf5 tb_750 tb_751 tb_752 ⟨Nat.le_of_ble_eq_true rfl, Nat.le_of_ble_eq_true rfl⟩) (wd_preVs (wd := xw c q) (hZ s s.heap hE).1 hi1 hev hK hP hD hE hS) rfl rfl hl.1 rfl (lv_room (Nat.le_of_ble_eq_true rfl)) dX3_isWord_30 ⟨Nat.zero_le _, Nat.zero_le _⟩) hS (fun q _ h => h) (fun q h => h) (fun r5 σ6 t H1 locs1 ht hvm hw hB hz1 hk1 hS => ?_)
      have hP : va_P D vwCl (xw c q σ6) H1 := ht ▸ hB
      have hD : va_D (wdA 36 q) (xw c q σ6) := xw_D hD0
      refine lv_icmp_ge (tgt := 62) hx hb dX3_isWord_33 (by decide) (fun c7 => ?_) (fun c7 => ?_)
      · have hw := hw.1 c7
        exact hk62 y2 σ6 _ _ _ hw hP hS (lv_sub hl [0, 1, 2] rfl)
      · have hw := hw.2 c7
        refine lv_aload_n hx hb dX3_isWord_36 rfl (lv_at hl 0 rfl) ?_
        refine lv_aload_n hx hb dX3_isWord_37 rfl (lv_at hl 0 rfl) ?_
        refine va_get (D := D) (ci := 3) (C := RX3) (T := TX3) (N := 10) hx hb htb inX3 hown hK hP 11 (xw_11 c q σ6) rfl 5 (by decide) (htb _ tb_208) (fun _ h9 => h9) rfl dX3_isWord_38 ?_
        refine lv_iload_n hx hb dX3_isWord_41 rfl (lv_at hl 2 rfl) ?_
        refine lv_iadd hx hb dX3_isWord_42 ?_
        refine va_calli (va_runV (As := [.int ((σ6.1 709) + y2)]) (rest := []) ⟨hx, hb, hml, hown, htb⟩ (kcX3_byteAt_11 l D c q ev hev σ6 ((σ6.1 709) + y2) _ hw) (tb_CW htb kX3_byteAt tb_716 tb_718 tb_13 ⟨Nat.le_of_ble_eq_true rfl, Nat.le_of_ble_eq_true rfl⟩) (wd_preV (wd := xw c q) (k := 11) hev hK hP hD hE hS (xw_11 c q σ6) rfl) rfl rfl hl.1 rfl (lv_room (Nat.le_of_ble_eq_true rfl)) dX3_isWord_43 ⟨Nat.zero_le _, Nat.zero_le _⟩) hS (fun q _ h => h) (fun q h => h) (fun r8 σ9 t H1 locs1 ht hvm hw hB hz1 hk1 hS => ?_)
        have hP : va_P D vwCl (xw c q σ9) H1 := ht ▸ hB
        have hD : va_D (wdA 36 q) (xw c q σ9) := xw_D hD0
        refine lv_aload_n hx hb dX3_isWord_46 rfl (lv_at hl 1 rfl) ?_
        refine lv_iload_n hx hb dX3_isWord_47 rfl (lv_at hl 2 rfl) ?_
        refine va_calli (va_runV (As := [.int y2]) (rest := [.int r8]) ⟨hx, hb, hml, hown, htb⟩ (kcJ0_charAt_5068e_s l D c q ev hev adK adV hZ σ9 i1 hi1 y2 _ hw) (tb_CW htb kJ0_charAt_5068e tb_760 tb_761 tb_762 ⟨Nat.le_of_ble_eq_true rfl, Nat.le_of_ble_eq_true rfl⟩) (wd_preVs (wd := xw c q) (hZ s s.heap hE).1 hi1 hev hK hP hD hE hS) rfl rfl hl.1 rfl (lv_room (Nat.le_of_ble_eq_true rfl)) dX3_isWord_48 ⟨Nat.zero_le _, Nat.zero_le _⟩) hS (fun q _ h => h) (fun q h => h) (fun r10 σ11 t H1 locs1 ht hvm hw hB hz1 hk1 hS => ?_)
        have hP : va_P D vwCl (xw c q σ11) H1 := ht ▸ hB
        have hD : va_D (wdA 36 q) (xw c q σ11) := xw_D hD0
        refine lv_icmp_eq (tgt := 56) hx hb dX3_isWord_51 (by decide) (fun c12 => ?_) (fun c12 => ?_)
        · have hw := hw.1 c12
          obtain ⟨v13, ev13⟩ : ∃ z : Int32, z = y2 + (1 : Int32) := ⟨_, rfl⟩
          have hw := hw v13 ev13
          refine lv_iinc (v := v13) (lv' := [(2, .int v13), (0, .ref (q 11)), (1, .ref (adK i1))]) hx hb dX3_isWord_56 hl (k := 2) rfl (by rw [ev13]; rfl) (by decide) rfl (fun ls hl => ?_)
          refine lv_goto (tgt := 28) hx hb dX3_isWord_59 (by decide) ?_
          exact ih v13 σ11 _ _ _ hw hk54 hk62 hP hS (lv_sub hl [1, 2, 0] rfl)
        · have hw := hw.2 c12
          exact hk54 y2 σ11 _ _ _ hw hP hS (lv_sub hl [0, 1, 2] rfl)
  have hl := lv_entry ([.ref (q 11), .ref (adK i1)]) (n := 3) (Nat.le_of_ble_eq_true rfl)
  rw [lg_entry_eq]
  generalize (lg_sl ([.ref (q 11), .ref (adK i1)]) ++ List.replicate (3 - (lg_sl ([.ref (q 11), .ref (adK i1)])).length) Slot.unset).toArray = ls at hl ⊢
  have hl : lv_has ls 3 [(0, .ref (q 11)), (1, .ref (adK i1))] := hl
  unfold wX3_isWord at hw
  refine lv_aload_n hx hb dX3_isWord_0 rfl (lv_at hl 0 rfl) ?_
  refine va_get (D := D) (ci := 3) (C := RX3) (T := TX3) (N := 10) hx hb htb inX3 hown hK hP 11 (xw_11 c q σ) rfl 4 (by decide) (htb _ tb_207) (fun _ h9 => h9) rfl dX3_isWord_1 ?_
  refine lv_iconst (v := (1 : Int32)) hx hb dX3_isWord_4 (by decide) ?_
  refine lv_icmp_ne (tgt := 24) hx hb dX3_isWord_5 (by decide) (fun c1 => ?_) (fun c1 => ?_)
  · have hw := hw.2 c1
    refine lv_iconst (v := (0 : Int32)) hx hb dX3_isWord_24 (by decide) ?_
    exact W.zret hx hb hr rfl (fun t ht hW => ⟨⟨_, σ, rfl, hw, by unfold wdB; rw [ht]; exact hP⟩, hS.F ht⟩) hS.2.2 dX3_isWord_25
  · have hw := hw.1 c1
    refine lv_aload_n hx hb dX3_isWord_8 rfl (lv_at hl 0 rfl) ?_
    refine va_get (D := D) (ci := 3) (C := RX3) (T := TX3) (N := 10) hx hb htb inX3 hown hK hP 11 (xw_11 c q σ) rfl 6 (by decide) (htb _ tb_209) (fun _ h9 => h9) rfl dX3_isWord_9 ?_
    refine lv_aload_n hx hb dX3_isWord_12 rfl (lv_at hl 0 rfl) ?_
    refine va_get (D := D) (ci := 3) (C := RX3) (T := TX3) (N := 10) hx hb htb inX3 hown hK hP 11 (xw_11 c q σ) rfl 5 (by decide) (htb _ tb_208) (fun _ h9 => h9) rfl dX3_isWord_13 ?_
    refine lv_isub hx hb dX3_isWord_16 ?_
    refine lv_aload_n hx hb dX3_isWord_17 rfl (lv_at hl 1 rfl) ?_
    refine va_calli (va_runV (As := []) (rest := [.int ((σ.1 710) - (σ.1 709))]) ⟨hx, hb, hml, hown, htb⟩ (kcJ0_length_8abf5_s l D c q ev hev adK adV hZ σ i1 hi1 _ hw) (tb_CW htb kJ0_length_8abf5 tb_750 tb_751 tb_752 ⟨Nat.le_of_ble_eq_true rfl, Nat.le_of_ble_eq_true rfl⟩) (wd_preVs (wd := xw c q) (hZ s s.heap hE).1 hi1 hev hK hP hD hE hS) rfl rfl hl.1 rfl (lv_room (Nat.le_of_ble_eq_true rfl)) dX3_isWord_18 ⟨Nat.zero_le _, Nat.zero_le _⟩) hS (fun q _ h => h) (fun q h => h) (fun r2 σ3 t H1 locs1 ht hvm hw hB hz1 hk1 hS => ?_)
    have hP : va_P D vwCl (xw c q σ3) H1 := ht ▸ hB
    have hD : va_D (wdA 36 q) (xw c q σ3) := xw_D hD0
    refine lv_icmp_eq (tgt := 26) hx hb dX3_isWord_21 (by decide) (fun c4 => ?_) (fun c4 => ?_)
    · have hw := hw.1 c4
      refine lv_iconst (v := (0 : Int32)) hx hb dX3_isWord_26 (by decide) ?_
      refine lv_istore_n (lv' := [(2, .int (0 : Int32)), (0, .ref (q 11)), (1, .ref (adK i1))]) hx hb dX3_isWord_27 rfl hl (by decide) rfl (fun ls hl => ?_)
      obtain ⟨n14, hw⟩ := hw
      refine L28 _ _ n14 (0 : Int32) σ3 _ _ _ hw ?_ ?_ hP hS (lv_sub hl [1, 2, 0] rfl)
      · intro v15 σ16 H locs ls hw hP hS hl
        have hD : va_D (wdA 36 q) (xw c q σ16) := xw_D hD0
        refine lv_iconst (v := (0 : Int32)) hx hb dX3_isWord_54 (by decide) ?_
        exact W.zret hx hb hr rfl (fun t ht hW => ⟨⟨_, σ16, rfl, hw, by unfold wdB; rw [ht]; exact hP⟩, hS.F ht⟩) hS.2.2 dX3_isWord_55
      · intro v17 σ18 H locs ls hw hP hS hl
        have hD : va_D (wdA 36 q) (xw c q σ18) := xw_D hD0
        refine lv_iconst (v := (1 : Int32)) hx hb dX3_isWord_62 (by decide) ?_
        exact W.zret hx hb hr rfl (fun t ht hW => ⟨⟨_, σ18, rfl, hw, by unfold wdB; rw [ht]; exact hP⟩, hS.F ht⟩) hS.2.2 dX3_isWord_63
    · have hw := hw.2 c4
      refine lv_iconst (v := (0 : Int32)) hx hb dX3_isWord_24 (by decide) ?_
      exact W.zret hx hb hr rfl (fun t ht hW => ⟨⟨_, σ3, rfl, hw, by unfold wdB; rw [ht]; exact hP⟩, hS.F ht⟩) hS.2.2 dX3_isWord_25
def wX3_fail (b0 : Nat) (x1 : Int32) (post : Int32 → hsS → Prop) (σ : hsS) : Prop := ∀ σ1 : hsS, σ1 = hsI σ (64 * b0 + 8) x1 → ∀ σ2 : hsS, σ2 = hsI σ1 (64 * b0 + 9) (σ1.1 (64 * b0 + 5)) → post (0 : Int32) σ2
set_option maxHeartbeats 4000000 in
set_option maxRecDepth 100000 in
theorem kcX3_fail_11 (l : Launch) (D : va_G) (c : Nat → ClassId) (q : Nat → Nat) (ev : State → Heap → Prop) (hev : evOK (wdA 36 q) ev) (σ : hsS) (x1 : Int32) (post : Int32 → hsS → Prop) (hw : wX3_fail 11 x1 post σ) : Met l yX3_fail (Cond.code yX3_fail cX3_fail 2 (some .boolean) :: tb_L) { frames := 0, cells := 0, slots := 0, locals := 0 } (wdPc D (xw c q) (xwT c) (wdA 36 q) ev σ [.ref (q 11), .int x1]) (va_Qi post (wdB D (xw c q)) (wdA 36 q)) 0 0 (wdA 36 q) := by
  refine Met.ofW (cc := cX3_fail) (maxL := 2) (ret := (some .boolean)) (by decide) rfl ?_
  intro p e s m args below meth c₀ s₁ Bd hml hv
  obtain ⟨rfl, hP, hK, hD0, hE⟩ := hv
  have hx := Bd.exec
  have hb := Bd.bytes
  have hr := Bd.returns
  have hts := atoms_spec (ws := Cond.code yX3_fail cX3_fail 2 (some .boolean) :: tb_L) Bd.pre
  have htb : ∀ w ∈ tb_L, w.before [.ref (q 11), .int x1].toArray s = true := fun w h => hts w (List.mem_cons_of_mem _ h)
  have hown : s.vm.findClass RX3 = some m.cls := findClass_of_methodNamed Bd.named
  have hlocks := Bd.notSynchronized
  have hS : va_S (wdA 36 q) s.heap s.heap [] := va_S.rf
  have hD := hD0
  have hl := lv_entry ([.ref (q 11), .int x1]) (n := 2) (Nat.le_of_ble_eq_true rfl)
  rw [lg_entry_eq]
  generalize (lg_sl ([.ref (q 11), .int x1]) ++ List.replicate (2 - (lg_sl ([.ref (q 11), .int x1])).length) Slot.unset).toArray = ls at hl ⊢
  have hl : lv_has ls 2 [(0, .ref (q 11)), (1, .int x1)] := hl
  unfold wX3_fail at hw
  refine lv_aload_n hx hb dX3_fail_0 rfl (lv_at hl 0 rfl) ?_
  refine lv_iload_n hx hb dX3_fail_1 rfl (lv_at hl 1 rfl) ?_
  refine va_put (D := D) (ci := 3) (ty := .int) (C := RX3) (T := TX3) (N := 10) hx hb htb inX3 tyX3 tyX3_ok nmX3 hown hK hP hD hS 11 (xw_11 c q σ) rfl 8 (by decide) (htb _ tb_211) (fun _ h9 => h9) rfl (by decide +kernel) rfl rfl (Nat.le_of_ble_eq_true rfl) dX3_fail_2 (fun H locs hP hD hS => ?_)
  have hP : va_P D vwCl (xw c q (hsI σ 712 x1)) H := hP
  obtain ⟨σ1, eσ1⟩ : ∃ z : hsS, z = hsI σ 712 x1 := ⟨_, rfl⟩
  rw [← eσ1] at hP
  have hD : va_D (wdA 36 q) (xw c q σ1) := xw_D hD0
  have hw := hw σ1 eσ1
  refine lv_aload_n hx hb dX3_fail_5 rfl (lv_at hl 0 rfl) ?_
  refine lv_aload_n hx hb dX3_fail_6 rfl (lv_at hl 0 rfl) ?_
  refine va_get (D := D) (ci := 3) (C := RX3) (T := TX3) (N := 10) hx hb htb inX3 hown hK hP 11 (xw_11 c q σ1) rfl 5 (by decide) (htb _ tb_208) (fun _ h9 => h9) rfl dX3_fail_7 ?_
  refine va_put (D := D) (ci := 3) (ty := .int) (C := RX3) (T := TX3) (N := 10) hx hb htb inX3 tyX3 tyX3_ok nmX3 hown hK hP hD hS 11 (xw_11 c q σ1) rfl 9 (by decide) (htb _ tb_212) (fun _ h9 => h9) rfl (by decide +kernel) rfl rfl (Nat.le_of_ble_eq_true rfl) dX3_fail_10 (fun H locs hP hD hS => ?_)
  have hP : va_P D vwCl (xw c q (hsI σ1 713 (σ1.1 709))) H := hP
  obtain ⟨σ2, eσ2⟩ : ∃ z : hsS, z = hsI σ1 713 (σ1.1 709) := ⟨_, rfl⟩
  rw [← eσ2] at hP
  have hD : va_D (wdA 36 q) (xw c q σ2) := xw_D hD0
  have hw := hw σ2 eσ2
  refine lv_iconst (v := (0 : Int32)) hx hb dX3_fail_13 (by decide) ?_
  exact W.zret hx hb hr rfl (fun t ht hW => ⟨⟨_, σ2, rfl, hw, by unfold wdB; rw [ht]; exact hP⟩, hS.F ht⟩) hS.2.2 dX3_fail_14
def wX3_passWord (b0 : Nat) (i1 : Nat) (post : Int32 → hsS → Prop) (σ : hsS) : Prop := wX3_isWord b0 i1 (fun r1 σ2 => ((r1 = (0 : Int32) → wX3_fail b0 (1 : Int32) (fun r4 σ5 => (r4 = 0 ∨ r4 = 1) ∧ post r4 σ5) σ2) ∧ (¬ r1 = (0 : Int32) → wX3_next b0 (fun σ7 => post (1 : Int32) σ7) σ2))) σ
set_option maxHeartbeats 4000000 in
set_option maxRecDepth 100000 in
theorem kcX3_passWord_11_s (l : Launch) (D : va_G) (c : Nat → ClassId) (q : Nat → Nat) (ev : State → Heap → Prop) (hev : evOK (wdA 36 q) ev) (adK adV : Nat → Nat) (hZ : ∀ (U : State) (H : Heap), ev U H → evS (wdA 36 q) adK adV U H) (σ : hsS) (i1 : Nat) (hi1 : i1 < 11) (post : Int32 → hsS → Prop) (hw : wX3_passWord 11 i1 post σ) : Met l yX3_passWord (Cond.code yX3_passWord cX3_passWord 2 (some .boolean) :: tb_L) { frames := 5, cells := 0, slots := 0, locals := 107 } (wdPc D (xw c q) (xwT c) (wdA 36 q) ev σ [.ref (q 11), .ref (adK i1)]) (va_Qi post (wdB D (xw c q)) (wdA 36 q)) 0 0 (wdA 36 q) := by
  refine Met.ofW (cc := cX3_passWord) (maxL := 2) (ret := (some .boolean)) (by decide) rfl ?_
  intro p e s m args below meth c₀ s₁ Bd hml hv
  obtain ⟨rfl, hP, hK, hD0, hE⟩ := hv
  have hx := Bd.exec
  have hb := Bd.bytes
  have hr := Bd.returns
  have hts := atoms_spec (ws := Cond.code yX3_passWord cX3_passWord 2 (some .boolean) :: tb_L) Bd.pre
  have htb : ∀ w ∈ tb_L, w.before [.ref (q 11), .ref (adK i1)].toArray s = true := fun w h => hts w (List.mem_cons_of_mem _ h)
  have hown : s.vm.findClass RX3 = some m.cls := findClass_of_methodNamed Bd.named
  have hlocks := Bd.notSynchronized
  have hS : va_S (wdA 36 q) s.heap s.heap [] := va_S.rf
  have hD := hD0
  have hl := lv_entry ([.ref (q 11), .ref (adK i1)]) (n := 2) (Nat.le_of_ble_eq_true rfl)
  rw [lg_entry_eq]
  generalize (lg_sl ([.ref (q 11), .ref (adK i1)]) ++ List.replicate (2 - (lg_sl ([.ref (q 11), .ref (adK i1)])).length) Slot.unset).toArray = ls at hl ⊢
  have hl : lv_has ls 2 [(0, .ref (q 11)), (1, .ref (adK i1))] := hl
  unfold wX3_passWord at hw
  refine lv_aload_n hx hb dX3_passWord_0 rfl (lv_at hl 0 rfl) ?_
  refine lv_aload_n hx hb dX3_passWord_1 rfl (lv_at hl 1 rfl) ?_
  refine va_calli (va_runV (As := [.ref (adK i1)]) (rest := []) ⟨hx, hb, hml, hown, htb⟩ (kcX3_isWord_11_s l D c q ev hev adK adV hZ σ i1 hi1 _ hw) (tb_CW htb kX3_isWord tb_746 tb_748 tb_18 ⟨Nat.le_of_ble_eq_true rfl, Nat.le_of_ble_eq_true rfl⟩) (wd_preV (wd := xw c q) (k := 11) hev hK hP hD hE hS (xw_11 c q σ) rfl) rfl rfl hl.1 rfl (lv_room (Nat.le_of_ble_eq_true rfl)) dX3_passWord_2 ⟨Nat.zero_le _, Nat.zero_le _⟩) hS (fun q _ h => h) (fun q h => h) (fun r1 σ2 t H1 locs1 ht hvm hw hB hz1 hk1 hS => ?_)
  have hP : va_P D vwCl (xw c q σ2) H1 := ht ▸ hB
  have hD : va_D (wdA 36 q) (xw c q σ2) := xw_D hD0
  refine lv_if_ne (tgt := 14) hx hb dX3_passWord_5 (by decide) (fun c3 => ?_) (fun c3 => ?_)
  · have hw := hw.2 c3
    refine lv_aload_n hx hb dX3_passWord_14 rfl (lv_at hl 0 rfl) ?_
    refine va_callv (va_runV (As := []) (rest := []) ⟨hx, hb, hml, hown, htb⟩ (kcX3_next_11 l D c q ev hev σ2  _ hw) (tb_CW htb kX3_next tb_712 tb_714 tb_12 ⟨Nat.le_of_ble_eq_true rfl, Nat.le_of_ble_eq_true rfl⟩) (wd_preV (wd := xw c q) (k := 11) hev hK hP hD hE hS (xw_11 c q σ2) rfl) rfl rfl hl.1 rfl (lv_room (Nat.le_of_ble_eq_true rfl)) dX3_passWord_15 ⟨Nat.zero_le _, Nat.zero_le _⟩) hS (fun q _ h => h) (fun q h => h) (fun σ7 t H1 locs1 ht hvm hw hB hz1 hk1 hS => ?_)
    have hP : va_P D vwCl (xw c q σ7) H1 := ht ▸ hB
    have hD : va_D (wdA 36 q) (xw c q σ7) := xw_D hD0
    refine lv_iconst (v := (1 : Int32)) hx hb dX3_passWord_18 (by decide) ?_
    exact W.zret hx hb hr rfl (fun t ht hW => ⟨⟨_, σ7, rfl, hw, by unfold wdB; rw [ht]; exact hP⟩, hS.F ht⟩) hS.2.2 dX3_passWord_19
  · have hw := hw.1 c3
    refine lv_aload_n hx hb dX3_passWord_8 rfl (lv_at hl 0 rfl) ?_
    refine lv_iconst (v := (1 : Int32)) hx hb dX3_passWord_9 (by decide) ?_
    refine va_calli (va_runV (As := [.int (1 : Int32)]) (rest := []) ⟨hx, hb, hml, hown, htb⟩ (kcX3_fail_11 l D c q ev hev σ2 (1 : Int32) _ hw) (tb_CW htb kX3_fail tb_798 tb_800 tb_19 ⟨Nat.le_of_ble_eq_true rfl, Nat.le_of_ble_eq_true rfl⟩) (wd_preV (wd := xw c q) (k := 11) hev hK hP hD hE hS (xw_11 c q σ2) rfl) rfl rfl hl.1 rfl (lv_room (Nat.le_of_ble_eq_true rfl)) dX3_passWord_10 ⟨Nat.zero_le _, Nat.zero_le _⟩) hS (fun q _ h => h) (fun q h => h) (fun r4 σ5 t H1 locs1 ht hvm hw hB hz1 hk1 hS => ?_)
    have hP : va_P D vwCl (xw c q σ5) H1 := ht ▸ hB
    have hD : va_D (wdA 36 q) (xw c q σ5) := xw_D hD0
    have hq := hw.2
    exact W.zret hx hb hr (nar_b hw.1) (fun t ht hW => ⟨⟨_, σ5, rfl, hq, by unfold wdB; rw [ht]; exact hP⟩, hS.F ht⟩) hS.2.2 dX3_passWord_13
