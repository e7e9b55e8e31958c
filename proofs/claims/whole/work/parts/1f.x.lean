theorem kX1_greatestGrumble : tbM yX1_greatestGrumble cX1_greatestGrumble 4 (some .int) 1 := ⟨tb_533, tb_91, by decide +kernel, by decide +kernel⟩
theorem kX1_wholeGrumble : tbM yX1_wholeGrumble cX1_wholeGrumble 4 (some .int) 1 := ⟨tb_537, tb_91, by decide +kernel, by decide +kernel⟩
theorem kX7_grumble : tbM yX7_grumble cX7_grumble 3 (some .int) 2 := ⟨tb_1051, tb_90, by decide +kernel, by decide +kernel⟩
theorem kX7_grumblesLess : tbM yX7_grumblesLess cX7_grumblesLess 5 (some .boolean) 2 := ⟨tb_529, tb_90, by decide +kernel, by decide +kernel⟩
theorem kX7_leastGrumbled : tbM yX7_leastGrumbled cX7_leastGrumbled 5 (some .int) 0 := ⟨tb_524, tb_90, by decide +kernel, by decide +kernel⟩
theorem kX7_least : tbM yX7_least cX7_least 1 (some .int) 0 := ⟨tb_520, tb_90, by decide +kernel, by decide +kernel⟩
theorem kX1_headWeight : tbM yX1_headWeight cX1_headWeight 4 (some .int) 1 := ⟨tb_1063, tb_91, by decide +kernel, by decide +kernel⟩
theorem kX7_heads : tbM yX7_heads cX7_heads 2 (some .int) 1 := ⟨tb_1059, tb_90, by decide +kernel, by decide +kernel⟩
theorem kX1_thingOfMostHeads : tbM yX1_thingOfMostHeads cX1_thingOfMostHeads 3 (some .int) 0 := ⟨tb_1074, tb_91, by decide +kernel, by decide +kernel⟩
theorem kX7_head : tbM yX7_head cX7_head 2 (some .int) 1 := ⟨tb_1070, tb_90, by decide +kernel, by decide +kernel⟩
theorem kX1_groupSize : tbM yX1_groupSize cX1_groupSize 5 (some .int) 2 := ⟨tb_556, tb_91, by decide +kernel, by decide +kernel⟩
theorem kX1_putCopy : tbM yX1_putCopy cX1_putCopy 6 none 1 := ⟨tb_1087, tb_91, by decide +kernel, by decide +kernel⟩
theorem kX7_copy : tbM yX7_copy cX7_copy 2 (some .int) 1 := ⟨tb_1083, tb_90, by decide +kernel, by decide +kernel⟩
def wX1_greatestGrumble_L4 (b0 : Nat) (z1 : Int32) (K29 : Int32 → Int32 → hsS → Prop) (post : Int32 → hsS → Prop) : Nat → Int32 → Int32 → hsS → Prop
  | 0, _, _, _ => False
  | n + 1, y2, y3, σ => (((σ.1 (64 * b0 + 1)) ≤ y3 → K29 y2 y3 σ) ∧ (¬ (σ.1 (64 * b0 + 1)) ≤ y3 → wX1_placeOf b0 y3 z1 (fun r2 σ3 => ∀ v4 : Int32, v4 = (if y2 < r2 then r2 else y2) → ∀ v5 : Int32, v5 = y3 + (1 : Int32) → wX1_greatestGrumble_L4 b0 z1 K29 post n v4 v5 σ3) σ))
def wX1_greatestGrumble (b0 : Nat) (x1 : Int32) (post : Int32 → hsS → Prop) (σ : hsS) : Prop := ∃ n6, wX1_greatestGrumble_L4 b0 x1 (fun v7 v8 σ9 => post v7 σ9) post n6 (0 : Int32) (0 : Int32) σ
set_option maxHeartbeats 4000000 in
set_option maxRecDepth 100000 in
theorem kcX1_greatestGrumble_1 (l : Launch) (D : va_G) (c : Nat → ClassId) (q : Nat → Nat) (ev : State → Heap → Prop) (hev : evOK (wdA 36 q) ev) (σ : hsS) (x1 : Int32) (post : Int32 → hsS → Prop) (hw : wX1_greatestGrumble 1 x1 post σ) : Met l yX1_greatestGrumble (Cond.code yX1_greatestGrumble cX1_greatestGrumble 4 (some .int) :: tb_L) { frames := 1, cells := 0, slots := 0, locals := 40 } (wdPc D (xw c q) (xwT c) (wdA 36 q) ev σ [.ref (q 1), .int x1]) (va_Qi post (wdB D (xw c q)) (wdA 36 q)) 0 0 (wdA 36 q) := by
  refine Met.ofW (cc := cX1_greatestGrumble) (maxL := 4) (ret := (some .int)) (by decide) rfl ?_
  intro p e s m args below meth c₀ s₁ Bd hml hv
  obtain ⟨rfl, hP, hK, hD0, hE⟩ := hv
  have hx := Bd.exec
  have hb := Bd.bytes
  have hr := Bd.returns
  have hts := atoms_spec (ws := Cond.code yX1_greatestGrumble cX1_greatestGrumble 4 (some .int) :: tb_L) Bd.pre
  have htb : ∀ w ∈ tb_L, w.before [.ref (q 1), .int x1].toArray s = true := fun w h => hts w (List.mem_cons_of_mem _ h)
  have hown : s.vm.findClass RX1 = some m.cls := findClass_of_methodNamed Bd.named
  have hlocks := Bd.notSynchronized
  have hS : va_S (wdA 36 q) s.heap s.heap [] := va_S.rf
  have hD := hD0
  have L4 : ∀ (K29 : Int32 → Int32 → hsS → Prop) (z1 : Int32) (n : Nat) (y2 : Int32) (y3 : Int32) (σ : hsS) (H : Heap) (locs : List Loc) (ls : Array Slot), wX1_greatestGrumble_L4 1 z1 K29 post n y2 y3 σ → (∀ (y2 : Int32) (y3 : Int32) (σ : hsS) (H : Heap) (locs : List Loc) (ls : Array Slot), K29 y2 y3 σ → va_P D vwCl (xw c q σ) H → va_S (wdA 36 q) s.heap H locs → lv_has ls 4 [(0, .ref (q 1)), (1, .int z1), (2, .int y2), (3, .int y3)] → W p l e (headSpec (Cond.code yX1_greatestGrumble cX1_greatestGrumble 4 (some .int) :: tb_L) { frames := 1, cells := 0, slots := 0, locals := 40 }).room s m [.ref (q 1), .int x1].toArray below meth c₀ H locs 0 0 (MQ below (va_Qi post (wdB D (xw c q)) (wdA 36 q)) [.ref (q 1), .int x1].toArray s 0 0 (wdA 36 q)) (F0 m 29 ls [])) → va_P D vwCl (xw c q σ) H → va_S (wdA 36 q) s.heap H locs → lv_has ls 4 [(0, .ref (q 1)), (1, .int z1), (2, .int y2), (3, .int y3)] → W p l e (headSpec (Cond.code yX1_greatestGrumble cX1_greatestGrumble 4 (some .int) :: tb_L) { frames := 1, cells := 0, slots := 0, locals := 40 }).room s m [.ref (q 1), .int x1].toArray below meth c₀ H locs 0 0 (MQ below (va_Qi post (wdB D (xw c q)) (wdA 36 q)) [.ref (q 1), .int x1].toArray s 0 0 (wdA 36 q)) (F0 m 4 ls []) := by
    intro K29 z1 n
    induction n with
    | zero =>
      intro y2 y3 σ H locs ls hw hk29 hP hS hl
      exact (show False from hw).elim
    | succ n ih =>
      intro y2 y3 σ H locs ls hw hk29 hP hS hl
      rw [wX1_greatestGrumble_L4] at hw
      have hD : va_D (wdA 36 q) (xw c q σ) := xw_D hD0
      refine lv_iload_n hx hb dX1_greatestGrumble_4 rfl (lv_at hl 3 rfl) ?_
      refine lv_aload_n hx hb dX1_greatestGrumble_5 rfl (lv_at hl 0 rfl) ?_
      refine va_get (D := D) (ci := 1) (C := RX1) (T := TX1) (N := 12) hx hb htb inX1 hown hK hP 1 (xw_1 c q σ) rfl 1 (by decide) (htb _ tb_132) (fun _ h9 => h9) rfl dX1_greatestGrumble_6 ?_
      refine lv_icmp_ge (tgt := 29) hx hb dX1_greatestGrumble_9 (by decide) (fun c1 => ?_) (fun c1 => ?_)
      · have hw := hw.1 c1
        exact hk29 y2 y3 σ _ _ _ hw hP hS (lv_sub hl [0, 1, 2, 3] rfl)
      · have hw := hw.2 c1
        refine lv_iload_n hx hb dX1_greatestGrumble_12 rfl (lv_at hl 2 rfl) ?_
        refine lv_aload_n hx hb dX1_greatestGrumble_13 rfl (lv_at hl 0 rfl) ?_
        refine lv_iload_n hx hb dX1_greatestGrumble_14 rfl (lv_at hl 3 rfl) ?_
        refine lv_iload_n hx hb dX1_greatestGrumble_15 rfl (lv_at hl 1 rfl) ?_
        refine va_calli (va_runV (As := [.int y3, .int z1]) (rest := [.int y2]) ⟨hx, hb, hml, hown, htb⟩ (kcX1_placeOf_1 l D c q ev hev σ y3 z1 _ hw) (tb_CW htb kX1_placeOf tb_445 tb_446 tb_447 ⟨Nat.le_of_ble_eq_true rfl, Nat.le_of_ble_eq_true rfl⟩) (wd_preV (wd := xw c q) (k := 1) hev hK hP hD hE hS (xw_1 c q σ) rfl) rfl rfl hl.1 rfl (lv_room (Nat.le_of_ble_eq_true rfl)) dX1_greatestGrumble_16 ⟨Nat.zero_le _, Nat.zero_le _⟩) hS (fun q _ h => h) (fun q h => h) (fun r2 σ3 t H1 locs1 ht hvm hw hB hz1 hk1 hS => ?_)
        have hP : va_P D vwCl (xw c q σ3) H1 := ht ▸ hB
        have hD : va_D (wdA 36 q) (xw c q σ3) := xw_D hD0
        refine va_mmax hx hb (hml.trans hl.1.symm) hown (htb _ tb_494) (htb _ tb_495) (htb _ tb_104) (htb _ tb_496) (Nat.le_of_ble_eq_true rfl) (Nat.le_of_ble_eq_true rfl) (Nat.zero_le _) (Nat.zero_le _) dX1_greatestGrumble_19 ?_
        refine lv_topi (fun v4 ev4 => ?_)
        have hw := hw v4 ev4
        refine lv_istore_n (lv' := [(2, .int v4), (0, .ref (q 1)), (1, .int z1), (3, .int y3)]) hx hb dX1_greatestGrumble_22 rfl hl (by decide) rfl (fun ls hl => ?_)
        obtain ⟨v5, ev5⟩ : ∃ z : Int32, z = y3 + (1 : Int32) := ⟨_, rfl⟩
        have hw := hw v5 ev5
        refine lv_iinc (v := v5) (lv' := [(3, .int v5), (2, .int v4), (0, .ref (q 1)), (1, .int z1)]) hx hb dX1_greatestGrumble_23 hl (k := 3) rfl (by rw [ev5]; rfl) (by decide) rfl (fun ls hl => ?_)
        refine lv_goto (tgt := 4) hx hb dX1_greatestGrumble_26 (by decide) ?_
        exact ih v4 v5 σ3 _ _ _ hw hk29 hP hS (lv_sub hl [2, 3, 1, 0] rfl)
  have hl := lv_entry ([.ref (q 1), .int x1]) (n := 4) (Nat.le_of_ble_eq_true rfl)
  rw [lg_entry_eq]
  generalize (lg_sl ([.ref (q 1), .int x1]) ++ List.replicate (4 - (lg_sl ([.ref (q 1), .int x1])).length) Slot.unset).toArray = ls at hl ⊢
  have hl : lv_has ls 4 [(0, .ref (q 1)), (1, .int x1)] := hl
  unfold wX1_greatestGrumble at hw
  refine lv_iconst (v := (0 : Int32)) hx hb dX1_greatestGrumble_0 (by decide) ?_
  refine lv_istore_n (lv' := [(2, .int (0 : Int32)), (0, .ref (q 1)), (1, .int x1)]) hx hb dX1_greatestGrumble_1 rfl hl (by decide) rfl (fun ls hl => ?_)
  refine lv_iconst (v := (0 : Int32)) hx hb dX1_greatestGrumble_2 (by decide) ?_
  refine lv_istore_n (lv' := [(3, .int (0 : Int32)), (2, .int (0 : Int32)), (0, .ref (q 1)), (1, .int x1)]) hx hb dX1_greatestGrumble_3 rfl hl (by decide) rfl (fun ls hl => ?_)
  obtain ⟨n6, hw⟩ := hw
  refine L4 _ x1 n6 (0 : Int32) (0 : Int32) σ _ _ _ hw ?_ hP hS (lv_sub hl [2, 3, 1, 0] rfl)
  intro v7 v8 σ9 H locs ls hw hP hS hl
  have hD : va_D (wdA 36 q) (xw c q σ9) := xw_D hD0
  refine lv_iload_n hx hb dX1_greatestGrumble_29 rfl (lv_at hl 2 rfl) ?_
  exact W.iret hx hb hr (fun t ht hW => ⟨⟨_, σ9, rfl, hw, by unfold wdB; rw [ht]; exact hP⟩, hS.F ht⟩) hS.2.2 dX1_greatestGrumble_30
def wX1_wholeGrumble_L4 (b0 : Nat) (z1 : Int32) (K34 : Int32 → Int32 → hsS → Prop) (post : Int32 → hsS → Prop) : Nat → Int32 → Int32 → hsS → Prop
  | 0, _, _, _ => False
  | n + 1, y2, y3, σ => (((σ.1 (64 * b0 + 1)) ≤ y3 → K34 y2 y3 σ) ∧ (¬ (σ.1 (64 * b0 + 1)) ≤ y3 → wX1_placeOf b0 y3 z1 (fun r2 σ3 => vp_in y3 8 ∧ ∀ v4 : Int32, v4 = y2 + (r2 * (σ3.2.1 (b0 + 1) y3.toNatClampNeg)) → ∀ v5 : Int32, v5 = y3 + (1 : Int32) → wX1_wholeGrumble_L4 b0 z1 K34 post n v4 v5 σ3) σ))
def wX1_wholeGrumble (b0 : Nat) (x1 : Int32) (post : Int32 → hsS → Prop) (σ : hsS) : Prop := ∃ n6, wX1_wholeGrumble_L4 b0 x1 (fun v7 v8 σ9 => post v7 σ9) post n6 (0 : Int32) (0 : Int32) σ
set_option maxHeartbeats 4000000 in
set_option maxRecDepth 100000 in
theorem kcX1_wholeGrumble_1 (l : Launch) (D : va_G) (c : Nat → ClassId) (q : Nat → Nat) (ev : State → Heap → Prop) (hev : evOK (wdA 36 q) ev) (σ : hsS) (x1 : Int32) (post : Int32 → hsS → Prop) (hw : wX1_wholeGrumble 1 x1 post σ) : Met l yX1_wholeGrumble (Cond.code yX1_wholeGrumble cX1_wholeGrumble 4 (some .int) :: tb_L) { frames := 1, cells := 0, slots := 0, locals := 22 } (wdPc D (xw c q) (xwT c) (wdA 36 q) ev σ [.ref (q 1), .int x1]) (va_Qi post (wdB D (xw c q)) (wdA 36 q)) 0 0 (wdA 36 q) := by
  refine Met.ofW (cc := cX1_wholeGrumble) (maxL := 4) (ret := (some .int)) (by decide) rfl ?_
  intro p e s m args below meth c₀ s₁ Bd hml hv
  obtain ⟨rfl, hP, hK, hD0, hE⟩ := hv
  have hx := Bd.exec
  have hb := Bd.bytes
  have hr := Bd.returns
  have hts := atoms_spec (ws := Cond.code yX1_wholeGrumble cX1_wholeGrumble 4 (some .int) :: tb_L) Bd.pre
  have htb : ∀ w ∈ tb_L, w.before [.ref (q 1), .int x1].toArray s = true := fun w h => hts w (List.mem_cons_of_mem _ h)
  have hown : s.vm.findClass RX1 = some m.cls := findClass_of_methodNamed Bd.named
  have hlocks := Bd.notSynchronized
  have hS : va_S (wdA 36 q) s.heap s.heap [] := va_S.rf
  have hD := hD0
  have L4 : ∀ (K34 : Int32 → Int32 → hsS → Prop) (z1 : Int32) (n : Nat) (y2 : Int32) (y3 : Int32) (σ : hsS) (H : Heap) (locs : List Loc) (ls : Array Slot), wX1_wholeGrumble_L4 1 z1 K34 post n y2 y3 σ → (∀ (y2 : Int32) (y3 : Int32) (σ : hsS) (H : Heap) (locs : List Loc) (ls : Array Slot), K34 y2 y3 σ → va_P D vwCl (xw c q σ) H → va_S (wdA 36 q) s.heap H locs → lv_has ls 4 [(0, .ref (q 1)), (1, .int z1), (2, .int y2), (3, .int y3)] → W p l e (headSpec (Cond.code yX1_wholeGrumble cX1_wholeGrumble 4 (some .int) :: tb_L) { frames := 1, cells := 0, slots := 0, locals := 22 }).room s m [.ref (q 1), .int x1].toArray below meth c₀ H locs 0 0 (MQ below (va_Qi post (wdB D (xw c q)) (wdA 36 q)) [.ref (q 1), .int x1].toArray s 0 0 (wdA 36 q)) (F0 m 34 ls [])) → va_P D vwCl (xw c q σ) H → va_S (wdA 36 q) s.heap H locs → lv_has ls 4 [(0, .ref (q 1)), (1, .int z1), (2, .int y2), (3, .int y3)] → W p l e (headSpec (Cond.code yX1_wholeGrumble cX1_wholeGrumble 4 (some .int) :: tb_L) { frames := 1, cells := 0, slots := 0, locals := 22 }).room s m [.ref (q 1), .int x1].toArray below meth c₀ H locs 0 0 (MQ below (va_Qi post (wdB D (xw c q)) (wdA 36 q)) [.ref (q 1), .int x1].toArray s 0 0 (wdA 36 q)) (F0 m 4 ls []) := by
    intro K34 z1 n
    induction n with
    | zero =>
      intro y2 y3 σ H locs ls hw hk34 hP hS hl
      exact (show False from hw).elim
    | succ n ih =>
      intro y2 y3 σ H locs ls hw hk34 hP hS hl
      rw [wX1_wholeGrumble_L4] at hw
      have hD : va_D (wdA 36 q) (xw c q σ) := xw_D hD0
      refine lv_iload_n hx hb dX1_wholeGrumble_4 rfl (lv_at hl 3 rfl) ?_
      refine lv_aload_n hx hb dX1_wholeGrumble_5 rfl (lv_at hl 0 rfl) ?_
      refine va_get (D := D) (ci := 1) (C := RX1) (T := TX1) (N := 12) hx hb htb inX1 hown hK hP 1 (xw_1 c q σ) rfl 1 (by decide) (htb _ tb_132) (fun _ h9 => h9) rfl dX1_wholeGrumble_6 ?_
      refine lv_icmp_ge (tgt := 34) hx hb dX1_wholeGrumble_9 (by decide) (fun c1 => ?_) (fun c1 => ?_)
      · have hw := hw.1 c1
        exact hk34 y2 y3 σ _ _ _ hw hP hS (lv_sub hl [0, 1, 2, 3] rfl)
      · have hw := hw.2 c1
        refine lv_iload_n hx hb dX1_wholeGrumble_12 rfl (lv_at hl 2 rfl) ?_
        refine lv_aload_n hx hb dX1_wholeGrumble_13 rfl (lv_at hl 0 rfl) ?_
        refine lv_iload_n hx hb dX1_wholeGrumble_14 rfl (lv_at hl 3 rfl) ?_
        refine lv_iload_n hx hb dX1_wholeGrumble_15 rfl (lv_at hl 1 rfl) ?_
        refine va_calli (va_runV (As := [.int y3, .int z1]) (rest := [.int y2]) ⟨hx, hb, hml, hown, htb⟩ (kcX1_placeOf_1 l D c q ev hev σ y3 z1 _ hw) (tb_CW htb kX1_placeOf tb_445 tb_446 tb_447 ⟨Nat.le_of_ble_eq_true rfl, Nat.le_of_ble_eq_true rfl⟩) (wd_preV (wd := xw c q) (k := 1) hev hK hP hD hE hS (xw_1 c q σ) rfl) rfl rfl hl.1 rfl (lv_room (Nat.le_of_ble_eq_true rfl)) dX1_wholeGrumble_16 ⟨Nat.zero_le _, Nat.zero_le _⟩) hS (fun q _ h => h) (fun q h => h) (fun r2 σ3 t H1 locs1 ht hvm hw hB hz1 hk1 hS => ?_)
        have hP : va_P D vwCl (xw c q σ3) H1 := ht ▸ hB
        have hD : va_D (wdA 36 q) (xw c q σ3) := xw_D hD0
        refine lv_aload_n hx hb dX1_wholeGrumble_19 rfl (lv_at hl 0 rfl) ?_
        refine va_get (D := D) (ci := 1) (C := RX1) (T := TX1) (N := 12) hx hb htb inX1 hown hK hP 1 (xw_1 c q σ3) rfl 8 (by decide) (htb _ tb_156) (fun _ h9 => h9) rfl dX1_wholeGrumble_20 ?_
        refine lv_iload_n hx hb dX1_wholeGrumble_23 rfl (lv_at hl 3 rfl) ?_
        refine va_iald hx hb hK hP 2 0 (xw_2 c q σ3) rfl hw.1 dX1_wholeGrumble_24 ?_
        have hw := hw.2
        refine lv_imul hx hb dX1_wholeGrumble_25 ?_
        refine lv_iadd hx hb dX1_wholeGrumble_26 ?_
        refine lv_topi (fun v4 ev4 => ?_)
        have hw := hw v4 ev4
        refine lv_istore_n (lv' := [(2, .int v4), (0, .ref (q 1)), (1, .int z1), (3, .int y3)]) hx hb dX1_wholeGrumble_27 rfl hl (by decide) rfl (fun ls hl => ?_)
        obtain ⟨v5, ev5⟩ : ∃ z : Int32, z = y3 + (1 : Int32) := ⟨_, rfl⟩
        have hw := hw v5 ev5
        refine lv_iinc (v := v5) (lv' := [(3, .int v5), (2, .int v4), (0, .ref (q 1)), (1, .int z1)]) hx hb dX1_wholeGrumble_28 hl (k := 3) rfl (by rw [ev5]; rfl) (by decide) rfl (fun ls hl => ?_)
        refine lv_goto (tgt := 4) hx hb dX1_wholeGrumble_31 (by decide) ?_
        exact ih v4 v5 σ3 _ _ _ hw hk34 hP hS (lv_sub hl [2, 3, 1, 0] rfl)
  have hl := lv_entry ([.ref (q 1), .int x1]) (n := 4) (Nat.le_of_ble_eq_true rfl)
  rw [lg_entry_eq]
  generalize (lg_sl ([.ref (q 1), .int x1]) ++ List.replicate (4 - (lg_sl ([.ref (q 1), .int x1])).length) Slot.unset).toArray = ls at hl ⊢
  have hl : lv_has ls 4 [(0, .ref (q 1)), (1, .int x1)] := hl
  unfold wX1_wholeGrumble at hw
  refine lv_iconst (v := (0 : Int32)) hx hb dX1_wholeGrumble_0 (by decide) ?_
  refine lv_istore_n (lv' := [(2, .int (0 : Int32)), (0, .ref (q 1)), (1, .int x1)]) hx hb dX1_wholeGrumble_1 rfl hl (by decide) rfl (fun ls hl => ?_)
  refine lv_iconst (v := (0 : Int32)) hx hb dX1_wholeGrumble_2 (by decide) ?_
  refine lv_istore_n (lv' := [(3, .int (0 : Int32)), (2, .int (0 : Int32)), (0, .ref (q 1)), (1, .int x1)]) hx hb dX1_wholeGrumble_3 rfl hl (by decide) rfl (fun ls hl => ?_)
  obtain ⟨n6, hw⟩ := hw
  refine L4 _ x1 n6 (0 : Int32) (0 : Int32) σ _ _ _ hw ?_ hP hS (lv_sub hl [2, 3, 1, 0] rfl)
  intro v7 v8 σ9 H locs ls hw hP hS hl
  have hD : va_D (wdA 36 q) (xw c q σ9) := xw_D hD0
  refine lv_iload_n hx hb dX1_wholeGrumble_34 rfl (lv_at hl 2 rfl) ?_
  exact W.iret hx hb hr (fun t ht hW => ⟨⟨_, σ9, rfl, hw, by unfold wdB; rw [ht]; exact hP⟩, hS.F ht⟩) hS.2.2 dX1_wholeGrumble_35
def wX7_grumble (x1 : Int32) (x2 : Int32) (post : Int32 → hsS → Prop) (px : hsS → Prop) (σ : hsS) : Prop := wX7_needThing x1 (fun σ2 => ((x2 = (0 : Int32) → wX1_greatestGrumble 1 x1 (fun r3 σ4 => post r3 σ4) σ2) ∧ (¬ x2 = (0 : Int32) → ((x2 = (1 : Int32) → wX1_wholeGrumble 1 x1 (fun r6 σ7 => post r6 σ7) σ2) ∧ (¬ x2 = (1 : Int32) → px σ2))))) px σ
set_option maxHeartbeats 4000000 in
set_option maxRecDepth 100000 in
theorem kcX7_grumble (l : Launch) (D : va_G) (c : Nat → ClassId) (q : Nat → Nat) (ev : State → Heap → Prop) (hev : evOK (wdA 36 q) ev) (hst : l.stackTraces = false) (hX : ∀ (U : State) (H : Heap), ev U H → evT (wdA 36 q) U H) (σ : hsS) (x1 : Int32) (x2 : Int32) (post : Int32 → hsS → Prop) (px : hsS → Prop) (hw : wX7_grumble x1 x2 post px σ) : vx_Met l yX7_grumble (Cond.code yX7_grumble cX7_grumble 3 (some .int) :: tb_L) { frames := 9, cells := 2, slots := 12, locals := 149 } (wdPc D (xw c q) (xwT c) (wdA 36 q) ev σ [.ref (q 0), .int x1, .int x2]) (va_Qi post (wdB D (xw c q)) (wdA 36 q)) (vx_X px (xpB D (xw c q) "java/util/NoSuchElementException") (wdA 36 q)) 2 12 (wdA 36 q) := by
  refine vx_ofW (cc := cX7_grumble) (maxL := 3) (ret := (some .int)) (by decide) rfl ?_
  intro p e s m args below meth c₀ s₁ Bd hml htab hv
  obtain ⟨rfl, hP, hK, hD0, hE⟩ := hv
  have hx := Bd.exec
  have hb := Bd.bytes
  have hr := Bd.returns
  have hts := atoms_spec (ws := Cond.code yX7_grumble cX7_grumble 3 (some .int) :: tb_L) Bd.pre
  have htb : ∀ w ∈ tb_L, w.before [.ref (q 0), .int x1, .int x2].toArray s = true := fun w h => hts w (List.mem_cons_of_mem _ h)
  have hown : s.vm.findClass RX7 = some m.cls := findClass_of_methodNamed Bd.named
  have hlocks := Bd.notSynchronized
  have hS : va_S (wdA 36 q) s.heap s.heap [] := va_S.rf
  have hD := hD0
  have hl := lv_entry ([.ref (q 0), .int x1, .int x2]) (n := 3) (Nat.le_of_ble_eq_true rfl)
  rw [lg_entry_eq]
  generalize (lg_sl ([.ref (q 0), .int x1, .int x2]) ++ List.replicate (3 - (lg_sl ([.ref (q 0), .int x1, .int x2])).length) Slot.unset).toArray = ls at hl ⊢
  have hl : lv_has ls 3 [(0, .ref (q 0)), (1, .int x1), (2, .int x2)] := hl
  unfold wX7_grumble at hw
  refine lv_aload_n hx hb dX7_grumble_0 rfl (lv_at hl 0 rfl) ?_
  refine lv_iload_n hx hb dX7_grumble_1 rfl (lv_at hl 1 rfl) ?_
  refine vx_callv (vx_runV (As := [.int x1]) (rest := []) ⟨hx, hb, hml, hown, htb⟩ (kcX7_needThing l D c q ev hev hst hX σ x1 _ px hw) (tb_CW htb kX7_needThing tb_911 tb_913 tb_33 ⟨Nat.le_of_ble_eq_true rfl, Nat.le_of_ble_eq_true rfl⟩) (wd_preV (wd := xw c q) (k := 0) hev hK hP hD hE hS (xw_0 c q σ) rfl) rfl rfl hl.1 rfl (lv_room (Nat.le_of_ble_eq_true rfl)) dX7_grumble_2 ⟨Nat.le_of_ble_eq_true rfl, Nat.le_of_ble_eq_true rfl⟩) hS (fun q _ h => h) (fun q h => h) (fun q _ h => h) (fun E9 ce9 q9 σx t H1 locs1 ht hvm hpx hBX hz1 hk1 hS hce hcv hcl => vx_out (fun x h => (htab x h).elim) hlocks hce hcv hcl (fun t2 ht2 _ => ⟨σx, hpx, ⟨hBX.1, by rw [ht2, ← ht]; exact hBX.2⟩, hS.F ht2⟩) hS.2.2 (Nat.le_of_ble_eq_true rfl) (Nat.le_of_ble_eq_true rfl)) (fun σ2 t H1 locs1 ht hvm hw hB hz1 hk1 hS => ?_)
  have hP : va_P D vwCl (xw c q σ2) H1 := ht ▸ hB
  have hD : va_D (wdA 36 q) (xw c q σ2) := xw_D hD0
  refine lv_iload_n hx hb dX7_grumble_5 rfl (lv_at hl 2 rfl) ?_
  by_cases c5 : x2 = (0 : Int32)
  · have hw := hw.1 c5
    refine lv_lookup (off := 26) (tgt := 32) hx hb dX7_grumble_6 (by decide) (by rw [c5]; rfl) (by decide) ?_
    refine lv_aload_n hx hb dX7_grumble_32 rfl (lv_at hl 0 rfl) ?_
    refine va_get (D := D) (ci := 7) (C := RX7) (T := TX7) (N := 9) hx hb htb inX7 hown hK hP 0 (xw_0 c q σ2) rfl 0 (by decide) (htb _ tb_342) (fun _ h9 => h9) rfl dX7_grumble_33 ?_
    refine lv_iload_n hx hb dX7_grumble_36 rfl (lv_at hl 1 rfl) ?_
    refine va_calli (va_runV (As := [.int x1]) (rest := []) ⟨hx, hb, hml, hown, htb⟩ (kcX1_greatestGrumble_1 l D c q ev hev σ2 x1 _ hw) (tb_CW htb kX1_greatestGrumble tb_530 tb_531 tb_532 ⟨Nat.le_of_ble_eq_true rfl, Nat.le_of_ble_eq_true rfl⟩) (wd_preV (wd := xw c q) (k := 1) hev hK hP hD hE hS (xw_1 c q σ2) rfl) rfl rfl hl.1 rfl (lv_room (Nat.le_of_ble_eq_true rfl)) dX7_grumble_37 ⟨Nat.le_of_ble_eq_true rfl, Nat.le_of_ble_eq_true rfl⟩) hS (fun q _ h => h) (fun q h => h) (fun r3 σ4 t H1 locs1 ht hvm hw hB hz1 hk1 hS => ?_)
    have hP : va_P D vwCl (xw c q σ4) H1 := ht ▸ hB
    have hD : va_D (wdA 36 q) (xw c q σ4) := xw_D hD0
    exact vx_ret (W.widen (k := 2) (n := 12) (Nat.le_of_ble_eq_true rfl) (Nat.le_of_ble_eq_true rfl) (W.iret hx hb hr (fun t ht hW => ⟨⟨_, σ4, rfl, hw, by unfold wdB; rw [ht]; exact hP⟩, hS.F ht⟩) hS.2.2 dX7_grumble_40))
  · have hw := hw.2 c5
    by_cases c8 : x2 = (1 : Int32)
    · have hw := hw.1 c8
      refine lv_lookup (off := 35) (tgt := 41) hx hb dX7_grumble_6 (by decide) (by rw [c8]; rfl) (by decide) ?_
      refine lv_aload_n hx hb dX7_grumble_41 rfl (lv_at hl 0 rfl) ?_
      refine va_get (D := D) (ci := 7) (C := RX7) (T := TX7) (N := 9) hx hb htb inX7 hown hK hP 0 (xw_0 c q σ2) rfl 0 (by decide) (htb _ tb_342) (fun _ h9 => h9) rfl dX7_grumble_42 ?_
      refine lv_iload_n hx hb dX7_grumble_45 rfl (lv_at hl 1 rfl) ?_
      refine va_calli (va_runV (As := [.int x1]) (rest := []) ⟨hx, hb, hml, hown, htb⟩ (kcX1_wholeGrumble_1 l D c q ev hev σ2 x1 _ hw) (tb_CW htb kX1_wholeGrumble tb_534 tb_535 tb_536 ⟨Nat.le_of_ble_eq_true rfl, Nat.le_of_ble_eq_true rfl⟩) (wd_preV (wd := xw c q) (k := 1) hev hK hP hD hE hS (xw_1 c q σ2) rfl) rfl rfl hl.1 rfl (lv_room (Nat.le_of_ble_eq_true rfl)) dX7_grumble_46 ⟨Nat.le_of_ble_eq_true rfl, Nat.le_of_ble_eq_true rfl⟩) hS (fun q _ h => h) (fun q h => h) (fun r6 σ7 t H1 locs1 ht hvm hw hB hz1 hk1 hS => ?_)
      have hP : va_P D vwCl (xw c q σ7) H1 := ht ▸ hB
      have hD : va_D (wdA 36 q) (xw c q σ7) := xw_D hD0
      exact vx_ret (W.widen (k := 2) (n := 12) (Nat.le_of_ble_eq_true rfl) (Nat.le_of_ble_eq_true rfl) (W.iret hx hb hr (fun t ht hW => ⟨⟨_, σ7, rfl, hw, by unfold wdB; rw [ht]; exact hP⟩, hS.F ht⟩) hS.2.2 dX7_grumble_49))
    · have hw := hw.2 c8
      refine lv_lookup (off := 44) (tgt := 50) hx hb dX7_grumble_6 (by decide) (by show Op.lookupswitch.offset [(0, 26), (1, 35)] 44 _ = _; rw [lv_osw (a := 0) c5 rfl, lv_osw (a := 1) c8 rfl]; rfl) (by decide) ?_
      obtain ⟨hU9, hN9, hF9, hR9⟩ := hX s s.heap hE
      obtain ⟨sa9, hsa9⟩ := hR9 (251, "no such grumble") (by decide)
      exact xt_throwS hx hb hst (own := "StrikeHall") (cls := "java/util/NoSuchElementException") (text := "no such grumble") (names := ["java/lang/Exception"]) (ix := 13) (rx := xt_rx) (Yc := "java/lang/RuntimeException") hown (by decide) (by decide) (by decide +kernel) (by decide +kernel) (by decide +kernel) (by decide +kernel) (by decide) (htb _ tb_883) (htb _ tb_111) hsa9 (hat_NSE htb hF9) hot_NSE hU9 hN9 hS (hl.1.trans hml.symm) dX7_grumble_50 dX7_grumble_53 dX7_grumble_54 dX7_grumble_56 dX7_grumble_59 (fun x h => (htab x h).elim) (Nat.le_of_ble_eq_true rfl) (Nat.le_of_ble_eq_true rfl) (Nat.le_of_ble_eq_true rfl) (Nat.le_of_ble_eq_true rfl) hlocks (fun t hvm hsz hk => ⟨σ2, hw, ⟨rfl, wd_grow hP hk⟩, wd_F hS hsz hk⟩) hS.2.2 (Nat.le_of_ble_eq_true rfl) (Nat.le_of_ble_eq_true rfl)
def wX7_grumblesLess (x1 : Int32) (x2 : Int32) (post : Int32 → hsS → Prop) (σ : hsS) : Prop := wX1_greatestGrumble 1 x1 (fun r1 σ2 => wX1_greatestGrumble 1 x2 (fun r3 σ4 => ((r1 < r3 → post (1 : Int32) σ4) ∧ (¬ r1 < r3 → ((r1 = r3 → wX1_wholeGrumble 1 x1 (fun r7 σ8 => wX1_wholeGrumble 1 x2 (fun r9 σ10 => ((r9 ≤ r7 → post (0 : Int32) σ10) ∧ (¬ r9 ≤ r7 → post (1 : Int32) σ10))) σ8) σ4) ∧ (¬ r1 = r3 → post (0 : Int32) σ4))))) σ2) σ
set_option maxHeartbeats 4000000 in
set_option maxRecDepth 100000 in
theorem kcX7_grumblesLess (l : Launch) (D : va_G) (c : Nat → ClassId) (q : Nat → Nat) (ev : State → Heap → Prop) (hev : evOK (wdA 36 q) ev) (σ : hsS) (x1 : Int32) (x2 : Int32) (post : Int32 → hsS → Prop) (hw : wX7_grumblesLess x1 x2 post σ) : Met l yX7_grumblesLess (Cond.code yX7_grumblesLess cX7_grumblesLess 5 (some .boolean) :: tb_L) { frames := 2, cells := 0, slots := 0, locals := 63 } (wdPc D (xw c q) (xwT c) (wdA 36 q) ev σ [.ref (q 0), .int x1, .int x2]) (va_Qi post (wdB D (xw c q)) (wdA 36 q)) 0 0 (wdA 36 q) := by
  refine Met.ofW (cc := cX7_grumblesLess) (maxL := 5) (ret := (some .boolean)) (by decide) rfl ?_
  intro p e s m args below meth c₀ s₁ Bd hml hv
  obtain ⟨rfl, hP, hK, hD0, hE⟩ := hv
  have hx := Bd.exec
  have hb := Bd.bytes
  have hr := Bd.returns
  have hts := atoms_spec (ws := Cond.code yX7_grumblesLess cX7_grumblesLess 5 (some .boolean) :: tb_L) Bd.pre
  have htb : ∀ w ∈ tb_L, w.before [.ref (q 0), .int x1, .int x2].toArray s = true := fun w h => hts w (List.mem_cons_of_mem _ h)
  have hown : s.vm.findClass RX7 = some m.cls := findClass_of_methodNamed Bd.named
  have hlocks := Bd.notSynchronized
  have hS : va_S (wdA 36 q) s.heap s.heap [] := va_S.rf
  have hD := hD0
  have hl := lv_entry ([.ref (q 0), .int x1, .int x2]) (n := 5) (Nat.le_of_ble_eq_true rfl)
  rw [lg_entry_eq]
  generalize (lg_sl ([.ref (q 0), .int x1, .int x2]) ++ List.replicate (5 - (lg_sl ([.ref (q 0), .int x1, .int x2])).length) Slot.unset).toArray = ls at hl ⊢
  have hl : lv_has ls 5 [(0, .ref (q 0)), (1, .int x1), (2, .int x2)] := hl
  unfold wX7_grumblesLess at hw
  refine lv_aload_n hx hb dX7_grumblesLess_0 rfl (lv_at hl 0 rfl) ?_
  refine va_get (D := D) (ci := 7) (C := RX7) (T := TX7) (N := 9) hx hb htb inX7 hown hK hP 0 (xw_0 c q σ) rfl 0 (by decide) (htb _ tb_342) (fun _ h9 => h9) rfl dX7_grumblesLess_1 ?_
  refine lv_iload_n hx hb dX7_grumblesLess_4 rfl (lv_at hl 1 rfl) ?_
  refine va_calli (va_runV (As := [.int x1]) (rest := []) ⟨hx, hb, hml, hown, htb⟩ (kcX1_greatestGrumble_1 l D c q ev hev σ x1 _ hw) (tb_CW htb kX1_greatestGrumble tb_530 tb_531 tb_532 ⟨Nat.le_of_ble_eq_true rfl, Nat.le_of_ble_eq_true rfl⟩) (wd_preV (wd := xw c q) (k := 1) hev hK hP hD hE hS (xw_1 c q σ) rfl) rfl rfl hl.1 rfl (lv_room (Nat.le_of_ble_eq_true rfl)) dX7_grumblesLess_5 ⟨Nat.zero_le _, Nat.zero_le _⟩) hS (fun q _ h => h) (fun q h => h) (fun r1 σ2 t H1 locs1 ht hvm hw hB hz1 hk1 hS => ?_)
  have hP : va_P D vwCl (xw c q σ2) H1 := ht ▸ hB
  have hD : va_D (wdA 36 q) (xw c q σ2) := xw_D hD0
  refine lv_istore_n (lv' := [(3, .int r1), (0, .ref (q 0)), (1, .int x1), (2, .int x2)]) hx hb dX7_grumblesLess_8 rfl hl (by decide) rfl (fun ls hl => ?_)
  refine lv_aload_n hx hb dX7_grumblesLess_9 rfl (lv_at hl 1 rfl) ?_
  refine va_get (D := D) (ci := 7) (C := RX7) (T := TX7) (N := 9) hx hb htb inX7 hown hK hP 0 (xw_0 c q σ2) rfl 0 (by decide) (htb _ tb_342) (fun _ h9 => h9) rfl dX7_grumblesLess_10 ?_
  refine lv_iload_n hx hb dX7_grumblesLess_13 rfl (lv_at hl 3 rfl) ?_
  refine va_calli (va_runV (As := [.int x2]) (rest := []) ⟨hx, hb, hml, hown, htb⟩ (kcX1_greatestGrumble_1 l D c q ev hev σ2 x2 _ hw) (tb_CW htb kX1_greatestGrumble tb_530 tb_531 tb_532 ⟨Nat.le_of_ble_eq_true rfl, Nat.le_of_ble_eq_true rfl⟩) (wd_preV (wd := xw c q) (k := 1) hev hK hP hD hE hS (xw_1 c q σ2) rfl) rfl rfl hl.1 rfl (lv_room (Nat.le_of_ble_eq_true rfl)) dX7_grumblesLess_14 ⟨Nat.zero_le _, Nat.zero_le _⟩) hS (fun q _ h => h) (fun q h => h) (fun r3 σ4 t H1 locs1 ht hvm hw hB hz1 hk1 hS => ?_)
  have hP : va_P D vwCl (xw c q σ4) H1 := ht ▸ hB
  have hD : va_D (wdA 36 q) (xw c q σ4) := xw_D hD0
  refine lv_istore (lv' := [(4, .int r3), (3, .int r1), (0, .ref (q 0)), (1, .int x1), (2, .int x2)]) hx hb dX7_grumblesLess_17 hl (by decide) rfl (fun ls hl => ?_)
  refine lv_iload_n hx hb dX7_grumblesLess_19 rfl (lv_at hl 1 rfl) ?_
  refine lv_iload hx hb dX7_grumblesLess_20 (lv_at hl 0 rfl) ?_
  refine lv_icmp_lt (tgt := 50) hx hb dX7_grumblesLess_22 (by decide) (fun c5 => ?_) (fun c5 => ?_)
  · have hw := hw.1 c5
    refine lv_iconst (v := (1 : Int32)) hx hb dX7_grumblesLess_50 (by decide) ?_
    refine lv_goto (tgt := 55) hx hb dX7_grumblesLess_51 (by decide) ?_
    exact W.zret hx hb hr rfl (fun t ht hW => ⟨⟨_, σ4, rfl, hw, by unfold wdB; rw [ht]; exact hP⟩, hS.F ht⟩) hS.2.2 dX7_grumblesLess_55
  · have hw := hw.2 c5
    refine lv_iload_n hx hb dX7_grumblesLess_25 rfl (lv_at hl 1 rfl) ?_
    refine lv_iload hx hb dX7_grumblesLess_26 (lv_at hl 0 rfl) ?_
    refine lv_icmp_ne (tgt := 54) hx hb dX7_grumblesLess_28 (by decide) (fun c6 => ?_) (fun c6 => ?_)
    · have hw := hw.2 c6
      refine lv_iconst (v := (0 : Int32)) hx hb dX7_grumblesLess_54 (by decide) ?_
      exact W.zret hx hb hr rfl (fun t ht hW => ⟨⟨_, σ4, rfl, hw, by unfold wdB; rw [ht]; exact hP⟩, hS.F ht⟩) hS.2.2 dX7_grumblesLess_55
    · have hw := hw.1 c6
      refine lv_aload_n hx hb dX7_grumblesLess_31 rfl (lv_at hl 2 rfl) ?_
      refine va_get (D := D) (ci := 7) (C := RX7) (T := TX7) (N := 9) hx hb htb inX7 hown hK hP 0 (xw_0 c q σ4) rfl 0 (by decide) (htb _ tb_342) (fun _ h9 => h9) rfl dX7_grumblesLess_32 ?_
      refine lv_iload_n hx hb dX7_grumblesLess_35 rfl (lv_at hl 3 rfl) ?_
      refine va_calli (va_runV (As := [.int x1]) (rest := []) ⟨hx, hb, hml, hown, htb⟩ (kcX1_wholeGrumble_1 l D c q ev hev σ4 x1 _ hw) (tb_CW htb kX1_wholeGrumble tb_534 tb_535 tb_536 ⟨Nat.le_of_ble_eq_true rfl, Nat.le_of_ble_eq_true rfl⟩) (wd_preV (wd := xw c q) (k := 1) hev hK hP hD hE hS (xw_1 c q σ4) rfl) rfl rfl hl.1 rfl (lv_room (Nat.le_of_ble_eq_true rfl)) dX7_grumblesLess_36 ⟨Nat.zero_le _, Nat.zero_le _⟩) hS (fun q _ h => h) (fun q h => h) (fun r7 σ8 t H1 locs1 ht hvm hw hB hz1 hk1 hS => ?_)
      have hP : va_P D vwCl (xw c q σ8) H1 := ht ▸ hB
      have hD : va_D (wdA 36 q) (xw c q σ8) := xw_D hD0
      refine lv_aload_n hx hb dX7_grumblesLess_39 rfl (lv_at hl 2 rfl) ?_
      refine va_get (D := D) (ci := 7) (C := RX7) (T := TX7) (N := 9) hx hb htb inX7 hown hK hP 0 (xw_0 c q σ8) rfl 0 (by decide) (htb _ tb_342) (fun _ h9 => h9) rfl dX7_grumblesLess_40 ?_
      refine lv_iload_n hx hb dX7_grumblesLess_43 rfl (lv_at hl 4 rfl) ?_
      refine va_calli (va_runV (As := [.int x2]) (rest := [.int r7]) ⟨hx, hb, hml, hown, htb⟩ (kcX1_wholeGrumble_1 l D c q ev hev σ8 x2 _ hw) (tb_CW htb kX1_wholeGrumble tb_534 tb_535 tb_536 ⟨Nat.le_of_ble_eq_true rfl, Nat.le_of_ble_eq_true rfl⟩) (wd_preV (wd := xw c q) (k := 1) hev hK hP hD hE hS (xw_1 c q σ8) rfl) rfl rfl hl.1 rfl (lv_room (Nat.le_of_ble_eq_true rfl)) dX7_grumblesLess_44 ⟨Nat.zero_le _, Nat.zero_le _⟩) hS (fun q _ h => h) (fun q h => h) (fun r9 σ10 t H1 locs1 ht hvm hw hB hz1 hk1 hS => ?_)
      have hP : va_P D vwCl (xw c q σ10) H1 := ht ▸ hB
      have hD : va_D (wdA 36 q) (xw c q σ10) := xw_D hD0
      refine lv_icmp_ge (tgt := 54) hx hb dX7_grumblesLess_47 (by decide) (fun c11 => ?_) (fun c11 => ?_)
      · have hw := hw.1 c11
        refine lv_iconst (v := (0 : Int32)) hx hb dX7_grumblesLess_54 (by decide) ?_
        exact W.zret hx hb hr rfl (fun t ht hW => ⟨⟨_, σ10, rfl, hw, by unfold wdB; rw [ht]; exact hP⟩, hS.F ht⟩) hS.2.2 dX7_grumblesLess_55
      · have hw := hw.2 c11
        refine lv_iconst (v := (1 : Int32)) hx hb dX7_grumblesLess_50 (by decide) ?_
        refine lv_goto (tgt := 55) hx hb dX7_grumblesLess_51 (by decide) ?_
        exact W.zret hx hb hr rfl (fun t ht hW => ⟨⟨_, σ10, rfl, hw, by unfold wdB; rw [ht]; exact hP⟩, hS.F ht⟩) hS.2.2 dX7_grumblesLess_55
def wX7_leastGrumbled_L33 (z1 : Int32) (z2 : Int32) (K79 : Int32 → Int32 → hsS → Prop) (post : Int32 → hsS → Prop) : Nat → Int32 → Int32 → hsS → Prop
  | 0, _, _, _ => False
  | n + 1, y3, y4, σ => (((σ.1 64) ≤ y4 → K79 y3 y4 σ) ∧ (¬ (σ.1 64) ≤ y4 → ((((z2 >>> (y4 &&& 31)) &&& (1 : Int32)) = (1 : Int32) → ((y3 = (-1 : Int32) → ∀ v9 : Int32, v9 = y4 + (1 : Int32) → wX7_leastGrumbled_L33 z1 z2 K79 post n y4 v9 σ) ∧ (¬ y3 = (-1 : Int32) → wX7_grumblesLess y4 y3 (fun r10 σ11 => ((r10 = (0 : Int32) → ∀ v13 : Int32, v13 = y4 + (1 : Int32) → wX7_leastGrumbled_L33 z1 z2 K79 post n y3 v13 σ11) ∧ (¬ r10 = (0 : Int32) → ∀ v14 : Int32, v14 = y4 + (1 : Int32) → wX7_leastGrumbled_L33 z1 z2 K79 post n y4 v14 σ11))) σ))) ∧ (¬ ((z2 >>> (y4 &&& 31)) &&& (1 : Int32)) = (1 : Int32) → ∀ v15 : Int32, v15 = y4 + (1 : Int32) → wX7_leastGrumbled_L33 z1 z2 K79 post n y3 v15 σ))))
def wX7_leastGrumbled  (post : Int32 → hsS → Prop) (σ : hsS) : Prop := wX4_coreOf 18 1 (fun r1 σ2 => ((r1 = (0 : Int32) → wX1_allThings 1 (fun r4 σ5 => ∃ n16, wX7_leastGrumbled_L33 r1 r4 (fun v17 v18 σ19 => post v17 σ19) post n16 (-1 : Int32) (0 : Int32) σ5) σ2) ∧ (¬ r1 = (0 : Int32) → ∃ n20, wX7_leastGrumbled_L33 r1 r1 (fun v21 v22 σ23 => post v21 σ23) post n20 (-1 : Int32) (0 : Int32) σ2))) σ
set_option maxHeartbeats 4000000 in
set_option maxRecDepth 100000 in
theorem kcX7_leastGrumbled (l : Launch) (D : va_G) (c : Nat → ClassId) (q : Nat → Nat) (ev : State → Heap → Prop) (hev : evOK (wdA 36 q) ev) (σ : hsS)  (post : Int32 → hsS → Prop) (hw : wX7_leastGrumbled  post σ) : Met l yX7_leastGrumbled (Cond.code yX7_leastGrumbled cX7_leastGrumbled 5 (some .int) :: tb_L) { frames := 5, cells := 0, slots := 0, locals := 127 } (wdPc D (xw c q) (xwT c) (wdA 36 q) ev σ [.ref (q 0)]) (va_Qi post (wdB D (xw c q)) (wdA 36 q)) 0 0 (wdA 36 q) := by
  refine Met.ofW (cc := cX7_leastGrumbled) (maxL := 5) (ret := (some .int)) (by decide) rfl ?_
  intro p e s m args below meth c₀ s₁ Bd hml hv
  obtain ⟨rfl, hP, hK, hD0, hE⟩ := hv
  have hx := Bd.exec
  have hb := Bd.bytes
  have hr := Bd.returns
  have hts := atoms_spec (ws := Cond.code yX7_leastGrumbled cX7_leastGrumbled 5 (some .int) :: tb_L) Bd.pre
  have htb : ∀ w ∈ tb_L, w.before [.ref (q 0)].toArray s = true := fun w h => hts w (List.mem_cons_of_mem _ h)
  have hown : s.vm.findClass RX7 = some m.cls := findClass_of_methodNamed Bd.named
  have hlocks := Bd.notSynchronized
  have hS : va_S (wdA 36 q) s.heap s.heap [] := va_S.rf
  have hD := hD0
  have L33 : ∀ (K79 : Int32 → Int32 → hsS → Prop) (z1 : Int32) (z2 : Int32) (n : Nat) (y3 : Int32) (y4 : Int32) (σ : hsS) (H : Heap) (locs : List Loc) (ls : Array Slot), wX7_leastGrumbled_L33 z1 z2 K79 post n y3 y4 σ → (∀ (y3 : Int32) (y4 : Int32) (σ : hsS) (H : Heap) (locs : List Loc) (ls : Array Slot), K79 y3 y4 σ → va_P D vwCl (xw c q σ) H → va_S (wdA 36 q) s.heap H locs → lv_has ls 5 [(0, .ref (q 0)), (1, .int z1), (2, .int z2), (3, .int y3), (4, .int y4)] → W p l e (headSpec (Cond.code yX7_leastGrumbled cX7_leastGrumbled 5 (some .int) :: tb_L) { frames := 5, cells := 0, slots := 0, locals := 127 }).room s m [.ref (q 0)].toArray below meth c₀ H locs 0 0 (MQ below (va_Qi post (wdB D (xw c q)) (wdA 36 q)) [.ref (q 0)].toArray s 0 0 (wdA 36 q)) (F0 m 79 ls [])) → va_P D vwCl (xw c q σ) H → va_S (wdA 36 q) s.heap H locs → lv_has ls 5 [(0, .ref (q 0)), (1, .int z1), (2, .int z2), (3, .int y3), (4, .int y4)] → W p l e (headSpec (Cond.code yX7_leastGrumbled cX7_leastGrumbled 5 (some .int) :: tb_L) { frames := 5, cells := 0, slots := 0, locals := 127 }).room s m [.ref (q 0)].toArray below meth c₀ H locs 0 0 (MQ below (va_Qi post (wdB D (xw c q)) (wdA 36 q)) [.ref (q 0)].toArray s 0 0 (wdA 36 q)) (F0 m 33 ls []) := by
    intro K79 z1 z2 n
    induction n with
    | zero =>
      intro y3 y4 σ H locs ls hw hk79 hP hS hl
      exact (show False from hw).elim
    | succ n ih =>
      intro y3 y4 σ H locs ls hw hk79 hP hS hl
      rw [wX7_leastGrumbled_L33] at hw
      have hD : va_D (wdA 36 q) (xw c q σ) := xw_D hD0
      refine lv_iload hx hb dX7_leastGrumbled_33 (lv_at hl 4 rfl) ?_
      refine lv_aload_n hx hb dX7_leastGrumbled_35 rfl (lv_at hl 0 rfl) ?_
      refine va_get (D := D) (ci := 7) (C := RX7) (T := TX7) (N := 9) hx hb htb inX7 hown hK hP 0 (xw_0 c q σ) rfl 0 (by decide) (htb _ tb_342) (fun _ h9 => h9) rfl dX7_leastGrumbled_36 ?_
      refine va_getN (D := D) (ci := 1) (C := RX1) (T := TX1) (N := 12) hx hb htb inX1 hown hK hP 1 (xw_1 c q σ) rfl 0 (by decide) (htb _ tb_130) (fun _ h9 => h9) rfl dX7_leastGrumbled_39 ?_
      refine lv_icmp_ge (tgt := 79) hx hb dX7_leastGrumbled_42 (by decide) (fun c6 => ?_) (fun c6 => ?_)
      · have hw := hw.1 c6
        exact hk79 y3 y4 σ _ _ _ hw hP hS (lv_sub hl [0, 1, 2, 3, 4] rfl)
      · have hw := hw.2 c6
        refine lv_iload_n hx hb dX7_leastGrumbled_45 rfl (lv_at hl 2 rfl) ?_
        refine lv_iload hx hb dX7_leastGrumbled_46 (lv_at hl 4 rfl) ?_
        refine lv_ishr hx hb dX7_leastGrumbled_48 ?_
        refine lv_iconst (v := (1 : Int32)) hx hb dX7_leastGrumbled_49 (by decide) ?_
        refine lv_iand hx hb dX7_leastGrumbled_50 ?_
        refine lv_iconst (v := (1 : Int32)) hx hb dX7_leastGrumbled_51 (by decide) ?_
        refine lv_icmp_ne (tgt := 73) hx hb dX7_leastGrumbled_52 (by decide) (fun c7 => ?_) (fun c7 => ?_)
        · have hw := hw.2 c7
          obtain ⟨v15, ev15⟩ : ∃ z : Int32, z = y4 + (1 : Int32) := ⟨_, rfl⟩
          have hw := hw v15 ev15
          refine lv_iinc (v := v15) (lv' := [(4, .int v15), (0, .ref (q 0)), (1, .int z1), (2, .int z2), (3, .int y3)]) hx hb dX7_leastGrumbled_73 hl (k := 4) rfl (by rw [ev15]; rfl) (by decide) rfl (fun ls hl => ?_)
          refine lv_goto (tgt := 33) hx hb dX7_leastGrumbled_76 (by decide) ?_
          exact ih y3 v15 σ _ _ _ hw hk79 hP hS (lv_sub hl [1, 2, 3, 4, 0] rfl)
        · have hw := hw.1 c7
          refine lv_iload_n hx hb dX7_leastGrumbled_55 rfl (lv_at hl 3 rfl) ?_
          refine lv_iconst (v := (-1 : Int32)) hx hb dX7_leastGrumbled_56 (by decide) ?_
          refine lv_icmp_eq (tgt := 70) hx hb dX7_leastGrumbled_57 (by decide) (fun c8 => ?_) (fun c8 => ?_)
          · have hw := hw.1 c8
            refine lv_iload hx hb dX7_leastGrumbled_70 (lv_at hl 4 rfl) ?_
            refine lv_istore_n (lv' := [(3, .int y4), (0, .ref (q 0)), (1, .int z1), (2, .int z2), (4, .int y4)]) hx hb dX7_leastGrumbled_72 rfl hl (by decide) rfl (fun ls hl => ?_)
            obtain ⟨v9, ev9⟩ : ∃ z : Int32, z = y4 + (1 : Int32) := ⟨_, rfl⟩
            have hw := hw v9 ev9
            refine lv_iinc (v := v9) (lv' := [(4, .int v9), (3, .int y4), (0, .ref (q 0)), (1, .int z1), (2, .int z2)]) hx hb dX7_leastGrumbled_73 hl (k := 4) rfl (by rw [ev9]; rfl) (by decide) rfl (fun ls hl => ?_)
            refine lv_goto (tgt := 33) hx hb dX7_leastGrumbled_76 (by decide) ?_
            exact ih y4 v9 σ _ _ _ hw hk79 hP hS (lv_sub hl [2, 3, 4, 1, 0] rfl)
          · have hw := hw.2 c8
            refine lv_aload_n hx hb dX7_leastGrumbled_60 rfl (lv_at hl 0 rfl) ?_
            refine lv_iload hx hb dX7_leastGrumbled_61 (lv_at hl 4 rfl) ?_
            refine lv_iload_n hx hb dX7_leastGrumbled_63 rfl (lv_at hl 3 rfl) ?_
            refine va_calli (va_runV (As := [.int y4, .int y3]) (rest := []) ⟨hx, hb, hml, hown, htb⟩ (kcX7_grumblesLess l D c q ev hev σ y4 y3 _ hw) (tb_CW htb kX7_grumblesLess tb_526 tb_528 tb_4 ⟨Nat.le_of_ble_eq_true rfl, Nat.le_of_ble_eq_true rfl⟩) (wd_preV (wd := xw c q) (k := 0) hev hK hP hD hE hS (xw_0 c q σ) rfl) rfl rfl hl.1 rfl (lv_room (Nat.le_of_ble_eq_true rfl)) dX7_leastGrumbled_64 ⟨Nat.zero_le _, Nat.zero_le _⟩) hS (fun q _ h => h) (fun q h => h) (fun r10 σ11 t H1 locs1 ht hvm hw hB hz1 hk1 hS => ?_)
            have hP : va_P D vwCl (xw c q σ11) H1 := ht ▸ hB
            have hD : va_D (wdA 36 q) (xw c q σ11) := xw_D hD0
            refine lv_if_eq (tgt := 73) hx hb dX7_leastGrumbled_67 (by decide) (fun c12 => ?_) (fun c12 => ?_)
            · have hw := hw.1 c12
              obtain ⟨v13, ev13⟩ : ∃ z : Int32, z = y4 + (1 : Int32) := ⟨_, rfl⟩
              have hw := hw v13 ev13
              refine lv_iinc (v := v13) (lv' := [(4, .int v13), (0, .ref (q 0)), (1, .int z1), (2, .int z2), (3, .int y3)]) hx hb dX7_leastGrumbled_73 hl (k := 4) rfl (by rw [ev13]; rfl) (by decide) rfl (fun ls hl => ?_)
              refine lv_goto (tgt := 33) hx hb dX7_leastGrumbled_76 (by decide) ?_
              exact ih y3 v13 σ11 _ _ _ hw hk79 hP hS (lv_sub hl [1, 2, 3, 4, 0] rfl)
            · have hw := hw.2 c12
              refine lv_iload hx hb dX7_leastGrumbled_70 (lv_at hl 4 rfl) ?_
              refine lv_istore_n (lv' := [(3, .int y4), (0, .ref (q 0)), (1, .int z1), (2, .int z2), (4, .int y4)]) hx hb dX7_leastGrumbled_72 rfl hl (by decide) rfl (fun ls hl => ?_)
              obtain ⟨v14, ev14⟩ : ∃ z : Int32, z = y4 + (1 : Int32) := ⟨_, rfl⟩
              have hw := hw v14 ev14
              refine lv_iinc (v := v14) (lv' := [(4, .int v14), (3, .int y4), (0, .ref (q 0)), (1, .int z1), (2, .int z2)]) hx hb dX7_leastGrumbled_73 hl (k := 4) rfl (by rw [ev14]; rfl) (by decide) rfl (fun ls hl => ?_)
              refine lv_goto (tgt := 33) hx hb dX7_leastGrumbled_76 (by decide) ?_
              exact ih y4 v14 σ11 _ _ _ hw hk79 hP hS (lv_sub hl [2, 3, 4, 1, 0] rfl)
  have hl := lv_entry ([.ref (q 0)]) (n := 5) (Nat.le_of_ble_eq_true rfl)
  rw [lg_entry_eq]
  generalize (lg_sl ([.ref (q 0)]) ++ List.replicate (5 - (lg_sl ([.ref (q 0)])).length) Slot.unset).toArray = ls at hl ⊢
  have hl : lv_has ls 5 [(0, .ref (q 0))] := hl
  unfold wX7_leastGrumbled at hw
  refine lv_aload_n hx hb dX7_leastGrumbled_0 rfl (lv_at hl 0 rfl) ?_
  refine va_get (D := D) (ci := 7) (C := RX7) (T := TX7) (N := 9) hx hb htb inX7 hown hK hP 0 (xw_0 c q σ) rfl 3 (by decide) (htb _ tb_345) (fun _ h9 => h9) rfl dX7_leastGrumbled_1 ?_
  refine lv_aload_n hx hb dX7_leastGrumbled_4 rfl (lv_at hl 0 rfl) ?_
  refine va_get (D := D) (ci := 7) (C := RX7) (T := TX7) (N := 9) hx hb htb inX7 hown hK hP 0 (xw_0 c q σ) rfl 0 (by decide) (htb _ tb_342) (fun _ h9 => h9) rfl dX7_leastGrumbled_5 ?_
  refine va_calli (va_runV (As := [.ref (q 1)]) (rest := []) ⟨hx, hb, hml, hown, htb⟩ (kcX4_coreOf_18_1 l D c q ev hev σ  _ hw) (tb_CW htb kX4_coreOf tb_419 tb_420 tb_421 ⟨Nat.le_of_ble_eq_true rfl, Nat.le_of_ble_eq_true rfl⟩) (wd_preV (wd := xw c q) (k := 18) hev hK hP hD hE hS (xw_18 c q σ) rfl) rfl rfl hl.1 rfl (lv_room (Nat.le_of_ble_eq_true rfl)) dX7_leastGrumbled_8 ⟨Nat.zero_le _, Nat.zero_le _⟩) hS (fun q _ h => h) (fun q h => h) (fun r1 σ2 t H1 locs1 ht hvm hw hB hz1 hk1 hS => ?_)
  have hP : va_P D vwCl (xw c q σ2) H1 := ht ▸ hB
  have hD : va_D (wdA 36 q) (xw c q σ2) := xw_D hD0
  refine lv_istore_n (lv' := [(1, .int r1), (0, .ref (q 0))]) hx hb dX7_leastGrumbled_11 rfl hl (by decide) rfl (fun ls hl => ?_)
  refine lv_iload_n hx hb dX7_leastGrumbled_12 rfl (lv_at hl 0 rfl) ?_
  refine lv_if_ne (tgt := 26) hx hb dX7_leastGrumbled_13 (by decide) (fun c3 => ?_) (fun c3 => ?_)
  · have hw := hw.2 c3
    refine lv_iload_n hx hb dX7_leastGrumbled_26 rfl (lv_at hl 0 rfl) ?_
    refine lv_istore_n (lv' := [(2, .int r1), (1, .int r1), (0, .ref (q 0))]) hx hb dX7_leastGrumbled_27 rfl hl (by decide) rfl (fun ls hl => ?_)
    refine lv_iconst (v := (-1 : Int32)) hx hb dX7_leastGrumbled_28 (by decide) ?_
    refine lv_istore_n (lv' := [(3, .int (-1 : Int32)), (2, .int r1), (1, .int r1), (0, .ref (q 0))]) hx hb dX7_leastGrumbled_29 rfl hl (by decide) rfl (fun ls hl => ?_)
    refine lv_iconst (v := (0 : Int32)) hx hb dX7_leastGrumbled_30 (by decide) ?_
    refine lv_istore (lv' := [(4, .int (0 : Int32)), (3, .int (-1 : Int32)), (2, .int r1), (1, .int r1), (0, .ref (q 0))]) hx hb dX7_leastGrumbled_31 hl (by decide) rfl (fun ls hl => ?_)
    obtain ⟨n20, hw⟩ := hw
    refine L33 _ r1 r1 n20 (-1 : Int32) (0 : Int32) σ2 _ _ _ hw ?_ hP hS (lv_sub hl [4, 3, 2, 1, 0] rfl)
    intro v21 v22 σ23 H locs ls hw hP hS hl
    have hD : va_D (wdA 36 q) (xw c q σ23) := xw_D hD0
    refine lv_iload_n hx hb dX7_leastGrumbled_79 rfl (lv_at hl 3 rfl) ?_
    exact W.iret hx hb hr (fun t ht hW => ⟨⟨_, σ23, rfl, hw, by unfold wdB; rw [ht]; exact hP⟩, hS.F ht⟩) hS.2.2 dX7_leastGrumbled_80
  · have hw := hw.1 c3
    refine lv_aload_n hx hb dX7_leastGrumbled_16 rfl (lv_at hl 1 rfl) ?_
    refine va_get (D := D) (ci := 7) (C := RX7) (T := TX7) (N := 9) hx hb htb inX7 hown hK hP 0 (xw_0 c q σ2) rfl 0 (by decide) (htb _ tb_342) (fun _ h9 => h9) rfl dX7_leastGrumbled_17 ?_
    refine va_calli (va_runV (As := []) (rest := []) ⟨hx, hb, hml, hown, htb⟩ (kcX1_allThings_1 l D c q ev hev σ2  _ hw) (tb_CW htb kX1_allThings tb_525 tb_438 tb_439 ⟨Nat.le_of_ble_eq_true rfl, Nat.le_of_ble_eq_true rfl⟩) (wd_preV (wd := xw c q) (k := 1) hev hK hP hD hE hS (xw_1 c q σ2) rfl) rfl rfl hl.1 rfl (lv_room (Nat.le_of_ble_eq_true rfl)) dX7_leastGrumbled_20 ⟨Nat.zero_le _, Nat.zero_le _⟩) hS (fun q _ h => h) (fun q h => h) (fun r4 σ5 t H1 locs1 ht hvm hw hB hz1 hk1 hS => ?_)
    have hP : va_P D vwCl (xw c q σ5) H1 := ht ▸ hB
    have hD : va_D (wdA 36 q) (xw c q σ5) := xw_D hD0
    refine lv_goto (tgt := 27) hx hb dX7_leastGrumbled_23 (by decide) ?_
    refine lv_istore_n (lv' := [(2, .int r4), (1, .int r1), (0, .ref (q 0))]) hx hb dX7_leastGrumbled_27 rfl hl (by decide) rfl (fun ls hl => ?_)
    refine lv_iconst (v := (-1 : Int32)) hx hb dX7_leastGrumbled_28 (by decide) ?_
    refine lv_istore_n (lv' := [(3, .int (-1 : Int32)), (2, .int r4), (1, .int r1), (0, .ref (q 0))]) hx hb dX7_leastGrumbled_29 rfl hl (by decide) rfl (fun ls hl => ?_)
    refine lv_iconst (v := (0 : Int32)) hx hb dX7_leastGrumbled_30 (by decide) ?_
    refine lv_istore (lv' := [(4, .int (0 : Int32)), (3, .int (-1 : Int32)), (2, .int r4), (1, .int r1), (0, .ref (q 0))]) hx hb dX7_leastGrumbled_31 hl (by decide) rfl (fun ls hl => ?_)
    obtain ⟨n16, hw⟩ := hw
    refine L33 _ r1 r4 n16 (-1 : Int32) (0 : Int32) σ5 _ _ _ hw ?_ hP hS (lv_sub hl [4, 3, 2, 1, 0] rfl)
    intro v17 v18 σ19 H locs ls hw hP hS hl
    have hD : va_D (wdA 36 q) (xw c q σ19) := xw_D hD0
    refine lv_iload_n hx hb dX7_leastGrumbled_79 rfl (lv_at hl 3 rfl) ?_
    exact W.iret hx hb hr (fun t ht hW => ⟨⟨_, σ19, rfl, hw, by unfold wdB; rw [ht]; exact hP⟩, hS.F ht⟩) hS.2.2 dX7_leastGrumbled_80
def wX7_least  (post : Int32 → hsS → Prop) (σ : hsS) : Prop := wX7_leastGrumbled  (fun r1 σ2 => post r1 σ2) σ
set_option maxHeartbeats 4000000 in
set_option maxRecDepth 100000 in
theorem kcX7_least (l : Launch) (D : va_G) (c : Nat → ClassId) (q : Nat → Nat) (ev : State → Heap → Prop) (hev : evOK (wdA 36 q) ev) (σ : hsS)  (post : Int32 → hsS → Prop) (hw : wX7_least  post σ) : Met l yX7_least (Cond.code yX7_least cX7_least 1 (some .int) :: tb_L) { frames := 6, cells := 0, slots := 0, locals := 151 } (wdPc D (xw c q) (xwT c) (wdA 36 q) ev σ [.ref (q 0)]) (va_Qi post (wdB D (xw c q)) (wdA 36 q)) 0 0 (wdA 36 q) := by
  refine Met.ofW (cc := cX7_least) (maxL := 1) (ret := (some .int)) (by decide) rfl ?_
  intro p e s m args below meth c₀ s₁ Bd hml hv
  obtain ⟨rfl, hP, hK, hD0, hE⟩ := hv
  have hx := Bd.exec
  have hb := Bd.bytes
  have hr := Bd.returns
  have hts := atoms_spec (ws := Cond.code yX7_least cX7_least 1 (some .int) :: tb_L) Bd.pre
  have htb : ∀ w ∈ tb_L, w.before [.ref (q 0)].toArray s = true := fun w h => hts w (List.mem_cons_of_mem _ h)
  have hown : s.vm.findClass RX7 = some m.cls := findClass_of_methodNamed Bd.named
  have hlocks := Bd.notSynchronized
  have hS : va_S (wdA 36 q) s.heap s.heap [] := va_S.rf
  have hD := hD0
  have hl := lv_entry ([.ref (q 0)]) (n := 1) (Nat.le_of_ble_eq_true rfl)
  rw [lg_entry_eq]
  generalize (lg_sl ([.ref (q 0)]) ++ List.replicate (1 - (lg_sl ([.ref (q 0)])).length) Slot.unset).toArray = ls at hl ⊢
  have hl : lv_has ls 1 [(0, .ref (q 0))] := hl
  unfold wX7_least at hw
  refine lv_aload_n hx hb dX7_least_0 rfl (lv_at hl 0 rfl) ?_
  refine va_calli (va_runV (As := []) (rest := []) ⟨hx, hb, hml, hown, htb⟩ (kcX7_leastGrumbled l D c q ev hev σ  _ hw) (tb_CW htb kX7_leastGrumbled tb_521 tb_523 tb_3 ⟨Nat.le_of_ble_eq_true rfl, Nat.le_of_ble_eq_true rfl⟩) (wd_preV (wd := xw c q) (k := 0) hev hK hP hD hE hS (xw_0 c q σ) rfl) rfl rfl hl.1 rfl (lv_room (Nat.le_of_ble_eq_true rfl)) dX7_least_1 ⟨Nat.zero_le _, Nat.zero_le _⟩) hS (fun q _ h => h) (fun q h => h) (fun r1 σ2 t H1 locs1 ht hvm hw hB hz1 hk1 hS => ?_)
  have hP : va_P D vwCl (xw c q σ2) H1 := ht ▸ hB
  have hD : va_D (wdA 36 q) (xw c q σ2) := xw_D hD0
  exact W.iret hx hb hr (fun t ht hW => ⟨⟨_, σ2, rfl, hw, by unfold wdB; rw [ht]; exact hP⟩, hS.F ht⟩) hS.2.2 dX7_least_4
def wX1_headWeight_L4 (b0 : Nat) (z1 : Int32) (K48 : Int32 → Int32 → hsS → Prop) (post : Int32 → hsS → Prop) : Nat → Int32 → Int32 → hsS → Prop
  | 0, _, _, _ => False
  | n + 1, y2, y3, σ => (((σ.1 (64 * b0 + 1)) ≤ y3 → K48 y2 y3 σ) ∧ (¬ (σ.1 (64 * b0 + 1)) ≤ y3 → (((((σ.1 (64 * b0 + 7)) >>> (y3 &&& 31)) &&& (1 : Int32)) = (1 : Int32) → wX1_placeOf b0 y3 z1 (fun r3 σ4 => ((r3 = (0 : Int32) → vp_in y3 8 ∧ ∀ v6 : Int32, v6 = y2 + (σ4.2.1 (b0 + 1) y3.toNatClampNeg) → ∀ v7 : Int32, v7 = y3 + (1 : Int32) → wX1_headWeight_L4 b0 z1 K48 post n v6 v7 σ4) ∧ (¬ r3 = (0 : Int32) → ∀ v8 : Int32, v8 = y3 + (1 : Int32) → wX1_headWeight_L4 b0 z1 K48 post n y2 v8 σ4))) σ) ∧ (¬ (((σ.1 (64 * b0 + 7)) >>> (y3 &&& 31)) &&& (1 : Int32)) = (1 : Int32) → ∀ v9 : Int32, v9 = y3 + (1 : Int32) → wX1_headWeight_L4 b0 z1 K48 post n y2 v9 σ))))
def wX1_headWeight (b0 : Nat) (x1 : Int32) (post : Int32 → hsS → Prop) (σ : hsS) : Prop := ∃ n10, wX1_headWeight_L4 b0 x1 (fun v11 v12 σ13 => post v11 σ13) post n10 (0 : Int32) (0 : Int32) σ
set_option maxHeartbeats 4000000 in
set_option maxRecDepth 100000 in
theorem kcX1_headWeight_1 (l : Launch) (D : va_G) (c : Nat → ClassId) (q : Nat → Nat) (ev : State → Heap → Prop) (hev : evOK (wdA 36 q) ev) (σ : hsS) (x1 : Int32) (post : Int32 → hsS → Prop) (hw : wX1_headWeight 1 x1 post σ) : Met l yX1_headWeight (Cond.code yX1_headWeight cX1_headWeight 4 (some .int) :: tb_L) { frames := 1, cells := 0, slots := 0, locals := 22 } (wdPc D (xw c q) (xwT c) (wdA 36 q) ev σ [.ref (q 1), .int x1]) (va_Qi post (wdB D (xw c q)) (wdA 36 q)) 0 0 (wdA 36 q) := by
  refine Met.ofW (cc := cX1_headWeight) (maxL := 4) (ret := (some .int)) (by decide) rfl ?_
  intro p e s m args below meth c₀ s₁ Bd hml hv
  obtain ⟨rfl, hP, hK, hD0, hE⟩ := hv
  have hx := Bd.exec
  have hb := Bd.bytes
  have hr := Bd.returns
  have hts := atoms_spec (ws := Cond.code yX1_headWeight cX1_headWeight 4 (some .int) :: tb_L) Bd.pre
  have htb : ∀ w ∈ tb_L, w.before [.ref (q 1), .int x1].toArray s = true := fun w h => hts w (List.mem_cons_of_mem _ h)
  have hown : s.vm.findClass RX1 = some m.cls := findClass_of_methodNamed Bd.named
  have hlocks := Bd.notSynchronized
  have hS : va_S (wdA 36 q) s.heap s.heap [] := va_S.rf
  have hD := hD0
  have L4 : ∀ (K48 : Int32 → Int32 → hsS → Prop) (z1 : Int32) (n : Nat) (y2 : Int32) (y3 : Int32) (σ : hsS) (H : Heap) (locs : List Loc) (ls : Array Slot), wX1_headWeight_L4 1 z1 K48 post n y2 y3 σ → (∀ (y2 : Int32) (y3 : Int32) (σ : hsS) (H : Heap) (locs : List Loc) (ls : Array Slot), K48 y2 y3 σ → va_P D vwCl (xw c q σ) H → va_S (wdA 36 q) s.heap H locs → lv_has ls 4 [(0, .ref (q 1)), (1, .int z1), (2, .int y2), (3, .int y3)] → W p l e (headSpec (Cond.code yX1_headWeight cX1_headWeight 4 (some .int) :: tb_L) { frames := 1, cells := 0, slots := 0, locals := 22 }).room s m [.ref (q 1), .int x1].toArray below meth c₀ H locs 0 0 (MQ below (va_Qi post (wdB D (xw c q)) (wdA 36 q)) [.ref (q 1), .int x1].toArray s 0 0 (wdA 36 q)) (F0 m 48 ls [])) → va_P D vwCl (xw c q σ) H → va_S (wdA 36 q) s.heap H locs → lv_has ls 4 [(0, .ref (q 1)), (1, .int z1), (2, .int y2), (3, .int y3)] → W p l e (headSpec (Cond.code yX1_headWeight cX1_headWeight 4 (some .int) :: tb_L) { frames := 1, cells := 0, slots := 0, locals := 22 }).room s m [.ref (q 1), .int x1].toArray below meth c₀ H locs 0 0 (MQ below (va_Qi post (wdB D (xw c q)) (wdA 36 q)) [.ref (q 1), .int x1].toArray s 0 0 (wdA 36 q)) (F0 m 4 ls []) := by
    intro K48 z1 n
    induction n with
    | zero =>
      intro y2 y3 σ H locs ls hw hk48 hP hS hl
      exact (show False from hw).elim
    | succ n ih =>
      intro y2 y3 σ H locs ls hw hk48 hP hS hl
      rw [wX1_headWeight_L4] at hw
      have hD : va_D (wdA 36 q) (xw c q σ) := xw_D hD0
      refine lv_iload_n hx hb dX1_headWeight_4 rfl (lv_at hl 3 rfl) ?_
      refine lv_aload_n hx hb dX1_headWeight_5 rfl (lv_at hl 0 rfl) ?_
      refine va_get (D := D) (ci := 1) (C := RX1) (T := TX1) (N := 12) hx hb htb inX1 hown hK hP 1 (xw_1 c q σ) rfl 1 (by decide) (htb _ tb_132) (fun _ h9 => h9) rfl dX1_headWeight_6 ?_
      refine lv_icmp_ge (tgt := 48) hx hb dX1_headWeight_9 (by decide) (fun c1 => ?_) (fun c1 => ?_)
      · have hw := hw.1 c1
        exact hk48 y2 y3 σ _ _ _ hw hP hS (lv_sub hl [0, 1, 2, 3] rfl)
      · have hw := hw.2 c1
        refine lv_aload_n hx hb dX1_headWeight_12 rfl (lv_at hl 0 rfl) ?_
        refine va_get (D := D) (ci := 1) (C := RX1) (T := TX1) (N := 12) hx hb htb inX1 hown hK hP 1 (xw_1 c q σ) rfl 7 (by decide) (htb _ tb_154) (fun _ h9 => h9) rfl dX1_headWeight_13 ?_
        refine lv_iload_n hx hb dX1_headWeight_16 rfl (lv_at hl 3 rfl) ?_
        refine lv_ishr hx hb dX1_headWeight_17 ?_
        refine lv_iconst (v := (1 : Int32)) hx hb dX1_headWeight_18 (by decide) ?_
        refine lv_iand hx hb dX1_headWeight_19 ?_
        refine lv_iconst (v := (1 : Int32)) hx hb dX1_headWeight_20 (by decide) ?_
        refine lv_icmp_ne (tgt := 42) hx hb dX1_headWeight_21 (by decide) (fun c2 => ?_) (fun c2 => ?_)
        · have hw := hw.2 c2
          obtain ⟨v9, ev9⟩ : ∃ z : Int32, z = y3 + (1 : Int32) := ⟨_, rfl⟩
          have hw := hw v9 ev9
          refine lv_iinc (v := v9) (lv' := [(3, .int v9), (0, .ref (q 1)), (1, .int z1), (2, .int y2)]) hx hb dX1_headWeight_42 hl (k := 3) rfl (by rw [ev9]; rfl) (by decide) rfl (fun ls hl => ?_)
          refine lv_goto (tgt := 4) hx hb dX1_headWeight_45 (by decide) ?_
          exact ih y2 v9 σ _ _ _ hw hk48 hP hS (lv_sub hl [1, 2, 3, 0] rfl)
        · have hw := hw.1 c2
          refine lv_aload_n hx hb dX1_headWeight_24 rfl (lv_at hl 0 rfl) ?_
          refine lv_iload_n hx hb dX1_headWeight_25 rfl (lv_at hl 3 rfl) ?_
          refine lv_iload_n hx hb dX1_headWeight_26 rfl (lv_at hl 1 rfl) ?_
          refine va_calli (va_runV (As := [.int y3, .int z1]) (rest := []) ⟨hx, hb, hml, hown, htb⟩ (kcX1_placeOf_1 l D c q ev hev σ y3 z1 _ hw) (tb_CW htb kX1_placeOf tb_445 tb_446 tb_447 ⟨Nat.le_of_ble_eq_true rfl, Nat.le_of_ble_eq_true rfl⟩) (wd_preV (wd := xw c q) (k := 1) hev hK hP hD hE hS (xw_1 c q σ) rfl) rfl rfl hl.1 rfl (lv_room (Nat.le_of_ble_eq_true rfl)) dX1_headWeight_27 ⟨Nat.zero_le _, Nat.zero_le _⟩) hS (fun q _ h => h) (fun q h => h) (fun r3 σ4 t H1 locs1 ht hvm hw hB hz1 hk1 hS => ?_)
          have hP : va_P D vwCl (xw c q σ4) H1 := ht ▸ hB
          have hD : va_D (wdA 36 q) (xw c q σ4) := xw_D hD0
          refine lv_if_ne (tgt := 42) hx hb dX1_headWeight_30 (by decide) (fun c5 => ?_) (fun c5 => ?_)
          · have hw := hw.2 c5
            obtain ⟨v8, ev8⟩ : ∃ z : Int32, z = y3 + (1 : Int32) := ⟨_, rfl⟩
            have hw := hw v8 ev8
            refine lv_iinc (v := v8) (lv' := [(3, .int v8), (0, .ref (q 1)), (1, .int z1), (2, .int y2)]) hx hb dX1_headWeight_42 hl (k := 3) rfl (by rw [ev8]; rfl) (by decide) rfl (fun ls hl => ?_)
            refine lv_goto (tgt := 4) hx hb dX1_headWeight_45 (by decide) ?_
            exact ih y2 v8 σ4 _ _ _ hw hk48 hP hS (lv_sub hl [1, 2, 3, 0] rfl)
          · have hw := hw.1 c5
            refine lv_iload_n hx hb dX1_headWeight_33 rfl (lv_at hl 2 rfl) ?_
            refine lv_aload_n hx hb dX1_headWeight_34 rfl (lv_at hl 0 rfl) ?_
            refine va_get (D := D) (ci := 1) (C := RX1) (T := TX1) (N := 12) hx hb htb inX1 hown hK hP 1 (xw_1 c q σ4) rfl 8 (by decide) (htb _ tb_156) (fun _ h9 => h9) rfl dX1_headWeight_35 ?_
            refine lv_iload_n hx hb dX1_headWeight_38 rfl (lv_at hl 3 rfl) ?_
            refine va_iald hx hb hK hP 2 0 (xw_2 c q σ4) rfl hw.1 dX1_headWeight_39 ?_
            have hw := hw.2
            refine lv_iadd hx hb dX1_headWeight_40 ?_
            refine lv_topi (fun v6 ev6 => ?_)
            have hw := hw v6 ev6
            refine lv_istore_n (lv' := [(2, .int v6), (0, .ref (q 1)), (1, .int z1), (3, .int y3)]) hx hb dX1_headWeight_41 rfl hl (by decide) rfl (fun ls hl => ?_)
            obtain ⟨v7, ev7⟩ : ∃ z : Int32, z = y3 + (1 : Int32) := ⟨_, rfl⟩
            have hw := hw v7 ev7
            refine lv_iinc (v := v7) (lv' := [(3, .int v7), (2, .int v6), (0, .ref (q 1)), (1, .int z1)]) hx hb dX1_headWeight_42 hl (k := 3) rfl (by rw [ev7]; rfl) (by decide) rfl (fun ls hl => ?_)
            refine lv_goto (tgt := 4) hx hb dX1_headWeight_45 (by decide) ?_
            exact ih v6 v7 σ4 _ _ _ hw hk48 hP hS (lv_sub hl [2, 3, 1, 0] rfl)
  have hl := lv_entry ([.ref (q 1), .int x1]) (n := 4) (Nat.le_of_ble_eq_true rfl)
  rw [lg_entry_eq]
  generalize (lg_sl ([.ref (q 1), .int x1]) ++ List.replicate (4 - (lg_sl ([.ref (q 1), .int x1])).length) Slot.unset).toArray = ls at hl ⊢
  have hl : lv_has ls 4 [(0, .ref (q 1)), (1, .int x1)] := hl
  unfold wX1_headWeight at hw
  refine lv_iconst (v := (0 : Int32)) hx hb dX1_headWeight_0 (by decide) ?_
  refine lv_istore_n (lv' := [(2, .int (0 : Int32)), (0, .ref (q 1)), (1, .int x1)]) hx hb dX1_headWeight_1 rfl hl (by decide) rfl (fun ls hl => ?_)
  refine lv_iconst (v := (0 : Int32)) hx hb dX1_headWeight_2 (by decide) ?_
  refine lv_istore_n (lv' := [(3, .int (0 : Int32)), (2, .int (0 : Int32)), (0, .ref (q 1)), (1, .int x1)]) hx hb dX1_headWeight_3 rfl hl (by decide) rfl (fun ls hl => ?_)
  obtain ⟨n10, hw⟩ := hw
  refine L4 _ x1 n10 (0 : Int32) (0 : Int32) σ _ _ _ hw ?_ hP hS (lv_sub hl [2, 3, 1, 0] rfl)
  intro v11 v12 σ13 H locs ls hw hP hS hl
  have hD : va_D (wdA 36 q) (xw c q σ13) := xw_D hD0
  refine lv_iload_n hx hb dX1_headWeight_48 rfl (lv_at hl 2 rfl) ?_
  exact W.iret hx hb hr (fun t ht hW => ⟨⟨_, σ13, rfl, hw, by unfold wdB; rw [ht]; exact hP⟩, hS.F ht⟩) hS.2.2 dX1_headWeight_49
def wX7_heads (x1 : Int32) (post : Int32 → hsS → Prop) (px : hsS → Prop) (σ : hsS) : Prop := wX7_needThing x1 (fun σ2 => wX1_headWeight 1 x1 (fun r3 σ4 => post r3 σ4) σ2) px σ
set_option maxHeartbeats 4000000 in
set_option maxRecDepth 100000 in
theorem kcX7_heads (l : Launch) (D : va_G) (c : Nat → ClassId) (q : Nat → Nat) (ev : State → Heap → Prop) (hev : evOK (wdA 36 q) ev) (hst : l.stackTraces = false) (hX : ∀ (U : State) (H : Heap), ev U H → evT (wdA 36 q) U H) (σ : hsS) (x1 : Int32) (post : Int32 → hsS → Prop) (px : hsS → Prop) (hw : wX7_heads x1 post px σ) : vx_Met l yX7_heads (Cond.code yX7_heads cX7_heads 2 (some .int) :: tb_L) { frames := 9, cells := 1, slots := 6, locals := 149 } (wdPc D (xw c q) (xwT c) (wdA 36 q) ev σ [.ref (q 0), .int x1]) (va_Qi post (wdB D (xw c q)) (wdA 36 q)) (vx_X px (xpB D (xw c q) "java/util/NoSuchElementException") (wdA 36 q)) 1 6 (wdA 36 q) := by
  refine vx_ofW (cc := cX7_heads) (maxL := 2) (ret := (some .int)) (by decide) rfl ?_
  intro p e s m args below meth c₀ s₁ Bd hml htab hv
  obtain ⟨rfl, hP, hK, hD0, hE⟩ := hv
  have hx := Bd.exec
  have hb := Bd.bytes
  have hr := Bd.returns
  have hts := atoms_spec (ws := Cond.code yX7_heads cX7_heads 2 (some .int) :: tb_L) Bd.pre
  have htb : ∀ w ∈ tb_L, w.before [.ref (q 0), .int x1].toArray s = true := fun w h => hts w (List.mem_cons_of_mem _ h)
  have hown : s.vm.findClass RX7 = some m.cls := findClass_of_methodNamed Bd.named
  have hlocks := Bd.notSynchronized
  have hS : va_S (wdA 36 q) s.heap s.heap [] := va_S.rf
  have hD := hD0
  have hl := lv_entry ([.ref (q 0), .int x1]) (n := 2) (Nat.le_of_ble_eq_true rfl)
  rw [lg_entry_eq]
  generalize (lg_sl ([.ref (q 0), .int x1]) ++ List.replicate (2 - (lg_sl ([.ref (q 0), .int x1])).length) Slot.unset).toArray = ls at hl ⊢
  have hl : lv_has ls 2 [(0, .ref (q 0)), (1, .int x1)] := hl
  unfold wX7_heads at hw
  refine lv_aload_n hx hb dX7_heads_0 rfl (lv_at hl 0 rfl) ?_
  refine lv_iload_n hx hb dX7_heads_1 rfl (lv_at hl 1 rfl) ?_
  refine vx_callv (vx_runV (As := [.int x1]) (rest := []) ⟨hx, hb, hml, hown, htb⟩ (kcX7_needThing l D c q ev hev hst hX σ x1 _ px hw) (tb_CW htb kX7_needThing tb_911 tb_913 tb_33 ⟨Nat.le_of_ble_eq_true rfl, Nat.le_of_ble_eq_true rfl⟩) (wd_preV (wd := xw c q) (k := 0) hev hK hP hD hE hS (xw_0 c q σ) rfl) rfl rfl hl.1 rfl (lv_room (Nat.le_of_ble_eq_true rfl)) dX7_heads_2 ⟨Nat.le_of_ble_eq_true rfl, Nat.le_of_ble_eq_true rfl⟩) hS (fun q _ h => h) (fun q h => h) (fun q _ h => h) (fun E9 ce9 q9 σx t H1 locs1 ht hvm hpx hBX hz1 hk1 hS hce hcv hcl => vx_out (fun x h => (htab x h).elim) hlocks hce hcv hcl (fun t2 ht2 _ => ⟨σx, hpx, ⟨hBX.1, by rw [ht2, ← ht]; exact hBX.2⟩, hS.F ht2⟩) hS.2.2 (Nat.le_of_ble_eq_true rfl) (Nat.le_of_ble_eq_true rfl)) (fun σ2 t H1 locs1 ht hvm hw hB hz1 hk1 hS => ?_)
  have hP : va_P D vwCl (xw c q σ2) H1 := ht ▸ hB
  have hD : va_D (wdA 36 q) (xw c q σ2) := xw_D hD0
  refine lv_aload_n hx hb dX7_heads_5 rfl (lv_at hl 0 rfl) ?_
  refine va_get (D := D) (ci := 7) (C := RX7) (T := TX7) (N := 9) hx hb htb inX7 hown hK hP 0 (xw_0 c q σ2) rfl 0 (by decide) (htb _ tb_342) (fun _ h9 => h9) rfl dX7_heads_6 ?_
  refine lv_iload_n hx hb dX7_heads_9 rfl (lv_at hl 1 rfl) ?_
  refine va_calli (va_runV (As := [.int x1]) (rest := []) ⟨hx, hb, hml, hown, htb⟩ (kcX1_headWeight_1 l D c q ev hev σ2 x1 _ hw) (tb_CW htb kX1_headWeight tb_1060 tb_1061 tb_1062 ⟨Nat.le_of_ble_eq_true rfl, Nat.le_of_ble_eq_true rfl⟩) (wd_preV (wd := xw c q) (k := 1) hev hK hP hD hE hS (xw_1 c q σ2) rfl) rfl rfl hl.1 rfl (lv_room (Nat.le_of_ble_eq_true rfl)) dX7_heads_10 ⟨Nat.le_of_ble_eq_true rfl, Nat.le_of_ble_eq_true rfl⟩) hS (fun q _ h => h) (fun q h => h) (fun r3 σ4 t H1 locs1 ht hvm hw hB hz1 hk1 hS => ?_)
  have hP : va_P D vwCl (xw c q σ4) H1 := ht ▸ hB
  have hD : va_D (wdA 36 q) (xw c q σ4) := xw_D hD0
  exact vx_ret (W.widen (k := 1) (n := 6) (Nat.le_of_ble_eq_true rfl) (Nat.le_of_ble_eq_true rfl) (W.iret hx hb hr (fun t ht hW => ⟨⟨_, σ4, rfl, hw, by unfold wdB; rw [ht]; exact hP⟩, hS.F ht⟩) hS.2.2 dX7_heads_13))
def wX1_thingOfMostHeads_L4 (b0 : Nat) (K33 : Int32 → Int32 → hsS → Prop) (post : Int32 → hsS → Prop) : Nat → Int32 → Int32 → hsS → Prop
  | 0, _, _, _ => False
  | n + 1, y1, y2, σ => (((σ.1 (64 * b0 + 0)) ≤ y2 → K33 y1 y2 σ) ∧ (¬ (σ.1 (64 * b0 + 0)) ≤ y2 → wX1_headWeight b0 y2 (fun r2 σ3 => wX1_headWeight b0 y1 (fun r4 σ5 => ((r2 ≤ r4 → ∀ v7 : Int32, v7 = y2 + (1 : Int32) → wX1_thingOfMostHeads_L4 b0 K33 post n y1 v7 σ5) ∧ (¬ r2 ≤ r4 → ∀ v8 : Int32, v8 = y2 + (1 : Int32) → wX1_thingOfMostHeads_L4 b0 K33 post n y2 v8 σ5))) σ3) σ))
def wX1_thingOfMostHeads (b0 : Nat) (post : Int32 → hsS → Prop) (σ : hsS) : Prop := ∃ n9, wX1_thingOfMostHeads_L4 b0 (fun v10 v11 σ12 => post v10 σ12) post n9 (0 : Int32) (1 : Int32) σ
set_option maxHeartbeats 4000000 in
set_option maxRecDepth 100000 in
theorem kcX1_thingOfMostHeads_1 (l : Launch) (D : va_G) (c : Nat → ClassId) (q : Nat → Nat) (ev : State → Heap → Prop) (hev : evOK (wdA 36 q) ev) (σ : hsS)  (post : Int32 → hsS → Prop) (hw : wX1_thingOfMostHeads 1 post σ) : Met l yX1_thingOfMostHeads (Cond.code yX1_thingOfMostHeads cX1_thingOfMostHeads 3 (some .int) :: tb_L) { frames := 2, cells := 0, slots := 0, locals := 45 } (wdPc D (xw c q) (xwT c) (wdA 36 q) ev σ [.ref (q 1)]) (va_Qi post (wdB D (xw c q)) (wdA 36 q)) 0 0 (wdA 36 q) := by
  refine Met.ofW (cc := cX1_thingOfMostHeads) (maxL := 3) (ret := (some .int)) (by decide) rfl ?_
  intro p e s m args below meth c₀ s₁ Bd hml hv
  obtain ⟨rfl, hP, hK, hD0, hE⟩ := hv
  have hx := Bd.exec
  have hb := Bd.bytes
  have hr := Bd.returns
  have hts := atoms_spec (ws := Cond.code yX1_thingOfMostHeads cX1_thingOfMostHeads 3 (some .int) :: tb_L) Bd.pre
  have htb : ∀ w ∈ tb_L, w.before [.ref (q 1)].toArray s = true := fun w h => hts w (List.mem_cons_of_mem _ h)
  have hown : s.vm.findClass RX1 = some m.cls := findClass_of_methodNamed Bd.named
  have hlocks := Bd.notSynchronized
  have hS : va_S (wdA 36 q) s.heap s.heap [] := va_S.rf
  have hD := hD0
  have L4 : ∀ (K33 : Int32 → Int32 → hsS → Prop) (n : Nat) (y1 : Int32) (y2 : Int32) (σ : hsS) (H : Heap) (locs : List Loc) (ls : Array Slot), wX1_thingOfMostHeads_L4 1 K33 post n y1 y2 σ → (∀ (y1 : Int32) (y2 : Int32) (σ : hsS) (H : Heap) (locs : List Loc) (ls : Array Slot), K33 y1 y2 σ → va_P D vwCl (xw c q σ) H → va_S (wdA 36 q) s.heap H locs → lv_has ls 3 [(0, .ref (q 1)), (1, .int y1), (2, .int y2)] → W p l e (headSpec (Cond.code yX1_thingOfMostHeads cX1_thingOfMostHeads 3 (some .int) :: tb_L) { frames := 2, cells := 0, slots := 0, locals := 45 }).room s m [.ref (q 1)].toArray below meth c₀ H locs 0 0 (MQ below (va_Qi post (wdB D (xw c q)) (wdA 36 q)) [.ref (q 1)].toArray s 0 0 (wdA 36 q)) (F0 m 33 ls [])) → va_P D vwCl (xw c q σ) H → va_S (wdA 36 q) s.heap H locs → lv_has ls 3 [(0, .ref (q 1)), (1, .int y1), (2, .int y2)] → W p l e (headSpec (Cond.code yX1_thingOfMostHeads cX1_thingOfMostHeads 3 (some .int) :: tb_L) { frames := 2, cells := 0, slots := 0, locals := 45 }).room s m [.ref (q 1)].toArray below meth c₀ H locs 0 0 (MQ below (va_Qi post (wdB D (xw c q)) (wdA 36 q)) [.ref (q 1)].toArray s 0 0 (wdA 36 q)) (F0 m 4 ls []) := by
    intro K33 n
    induction n with
    | zero =>
      intro y1 y2 σ H locs ls hw hk33 hP hS hl
      exact (show False from hw).elim
    | succ n ih =>
      intro y1 y2 σ H locs ls hw hk33 hP hS hl
      rw [wX1_thingOfMostHeads_L4] at hw
      have hD : va_D (wdA 36 q) (xw c q σ) := xw_D hD0
      refine lv_iload_n hx hb dX1_thingOfMostHeads_4 rfl (lv_at hl 2 rfl) ?_
      refine lv_aload_n hx hb dX1_thingOfMostHeads_5 rfl (lv_at hl 0 rfl) ?_
      refine va_get (D := D) (ci := 1) (C := RX1) (T := TX1) (N := 12) hx hb htb inX1 hown hK hP 1 (xw_1 c q σ) rfl 0 (by decide) (htb _ tb_126) (fun _ h9 => h9) rfl dX1_thingOfMostHeads_6 ?_
      refine lv_icmp_ge (tgt := 33) hx hb dX1_thingOfMostHeads_9 (by decide) (fun c1 => ?_) (fun c1 => ?_)
      · have hw := hw.1 c1
        exact hk33 y1 y2 σ _ _ _ hw hP hS (lv_sub hl [0, 1, 2] rfl)
      · have hw := hw.2 c1
        refine lv_aload_n hx hb dX1_thingOfMostHeads_12 rfl (lv_at hl 0 rfl) ?_
        refine lv_iload_n hx hb dX1_thingOfMostHeads_13 rfl (lv_at hl 2 rfl) ?_
        refine va_calli (va_runV (As := [.int y2]) (rest := []) ⟨hx, hb, hml, hown, htb⟩ (kcX1_headWeight_1 l D c q ev hev σ y2 _ hw) (tb_CW htb kX1_headWeight tb_1075 tb_1061 tb_1062 ⟨Nat.le_of_ble_eq_true rfl, Nat.le_of_ble_eq_true rfl⟩) (wd_preV (wd := xw c q) (k := 1) hev hK hP hD hE hS (xw_1 c q σ) rfl) rfl rfl hl.1 rfl (lv_room (Nat.le_of_ble_eq_true rfl)) dX1_thingOfMostHeads_14 ⟨Nat.zero_le _, Nat.zero_le _⟩) hS (fun q _ h => h) (fun q h => h) (fun r2 σ3 t H1 locs1 ht hvm hw hB hz1 hk1 hS => ?_)
        have hP : va_P D vwCl (xw c q σ3) H1 := ht ▸ hB
        have hD : va_D (wdA 36 q) (xw c q σ3) := xw_D hD0
        refine lv_aload_n hx hb dX1_thingOfMostHeads_17 rfl (lv_at hl 0 rfl) ?_
        refine lv_iload_n hx hb dX1_thingOfMostHeads_18 rfl (lv_at hl 1 rfl) ?_
        refine va_calli (va_runV (As := [.int y1]) (rest := [.int r2]) ⟨hx, hb, hml, hown, htb⟩ (kcX1_headWeight_1 l D c q ev hev σ3 y1 _ hw) (tb_CW htb kX1_headWeight tb_1075 tb_1061 tb_1062 ⟨Nat.le_of_ble_eq_true rfl, Nat.le_of_ble_eq_true rfl⟩) (wd_preV (wd := xw c q) (k := 1) hev hK hP hD hE hS (xw_1 c q σ3) rfl) rfl rfl hl.1 rfl (lv_room (Nat.le_of_ble_eq_true rfl)) dX1_thingOfMostHeads_19 ⟨Nat.zero_le _, Nat.zero_le _⟩) hS (fun q _ h => h) (fun q h => h) (fun r4 σ5 t H1 locs1 ht hvm hw hB hz1 hk1 hS => ?_)
        have hP : va_P D vwCl (xw c q σ5) H1 := ht ▸ hB
        have hD : va_D (wdA 36 q) (xw c q σ5) := xw_D hD0
        refine lv_icmp_le (tgt := 27) hx hb dX1_thingOfMostHeads_22 (by decide) (fun c6 => ?_) (fun c6 => ?_)
        · have hw := hw.1 c6
          obtain ⟨v7, ev7⟩ : ∃ z : Int32, z = y2 + (1 : Int32) := ⟨_, rfl⟩
          have hw := hw v7 ev7
          refine lv_iinc (v := v7) (lv' := [(2, .int v7), (0, .ref (q 1)), (1, .int y1)]) hx hb dX1_thingOfMostHeads_27 hl (k := 2) rfl (by rw [ev7]; rfl) (by decide) rfl (fun ls hl => ?_)
          refine lv_goto (tgt := 4) hx hb dX1_thingOfMostHeads_30 (by decide) ?_
          exact ih y1 v7 σ5 _ _ _ hw hk33 hP hS (lv_sub hl [1, 2, 0] rfl)
        · have hw := hw.2 c6
          refine lv_iload_n hx hb dX1_thingOfMostHeads_25 rfl (lv_at hl 2 rfl) ?_
          refine lv_istore_n (lv' := [(1, .int y2), (0, .ref (q 1)), (2, .int y2)]) hx hb dX1_thingOfMostHeads_26 rfl hl (by decide) rfl (fun ls hl => ?_)
          obtain ⟨v8, ev8⟩ : ∃ z : Int32, z = y2 + (1 : Int32) := ⟨_, rfl⟩
          have hw := hw v8 ev8
          refine lv_iinc (v := v8) (lv' := [(2, .int v8), (1, .int y2), (0, .ref (q 1))]) hx hb dX1_thingOfMostHeads_27 hl (k := 2) rfl (by rw [ev8]; rfl) (by decide) rfl (fun ls hl => ?_)
          refine lv_goto (tgt := 4) hx hb dX1_thingOfMostHeads_30 (by decide) ?_
          exact ih y2 v8 σ5 _ _ _ hw hk33 hP hS (lv_sub hl [2, 1, 0] rfl)
  have hl := lv_entry ([.ref (q 1)]) (n := 3) (Nat.le_of_ble_eq_true rfl)
  rw [lg_entry_eq]
  generalize (lg_sl ([.ref (q 1)]) ++ List.replicate (3 - (lg_sl ([.ref (q 1)])).length) Slot.unset).toArray = ls at hl ⊢
  have hl : lv_has ls 3 [(0, .ref (q 1))] := hl
  unfold wX1_thingOfMostHeads at hw
  refine lv_iconst (v := (0 : Int32)) hx hb dX1_thingOfMostHeads_0 (by decide) ?_
  refine lv_istore_n (lv' := [(1, .int (0 : Int32)), (0, .ref (q 1))]) hx hb dX1_thingOfMostHeads_1 rfl hl (by decide) rfl (fun ls hl => ?_)
  refine lv_iconst (v := (1 : Int32)) hx hb dX1_thingOfMostHeads_2 (by decide) ?_
  refine lv_istore_n (lv' := [(2, .int (1 : Int32)), (1, .int (0 : Int32)), (0, .ref (q 1))]) hx hb dX1_thingOfMostHeads_3 rfl hl (by decide) rfl (fun ls hl => ?_)
  obtain ⟨n9, hw⟩ := hw
  refine L4 _ n9 (0 : Int32) (1 : Int32) σ _ _ _ hw ?_ hP hS (lv_sub hl [2, 1, 0] rfl)
  intro v10 v11 σ12 H locs ls hw hP hS hl
  have hD : va_D (wdA 36 q) (xw c q σ12) := xw_D hD0
  refine lv_iload_n hx hb dX1_thingOfMostHeads_33 rfl (lv_at hl 1 rfl) ?_
  exact W.iret hx hb hr (fun t ht hW => ⟨⟨_, σ12, rfl, hw, by unfold wdB; rw [ht]; exact hP⟩, hS.F ht⟩) hS.2.2 dX1_thingOfMostHeads_34
def wX7_head (x1 : Int32) (post : Int32 → hsS → Prop) (px : hsS → Prop) (σ : hsS) : Prop := ((x1 = (0 : Int32) → wX1_thingOfMostHeads 1 (fun r1 σ2 => post r1 σ2) σ) ∧ (¬ x1 = (0 : Int32) → ((x1 = (1 : Int32) → wX1_thingOfMostHeads 1 (fun r4 σ5 => wX1_greatestGrumble 1 r4 (fun r6 σ7 => wX7_leastGrumbled  (fun r8 σ9 => wX1_greatestGrumble 1 r8 (fun r10 σ11 => post (r6 - r10) σ11) σ9) σ7) σ5) σ) ∧ (¬ x1 = (1 : Int32) → px σ))))
set_option maxHeartbeats 4000000 in
set_option maxRecDepth 100000 in
theorem kcX7_head (l : Launch) (D : va_G) (c : Nat → ClassId) (q : Nat → Nat) (ev : State → Heap → Prop) (hev : evOK (wdA 36 q) ev) (hst : l.stackTraces = false) (hX : ∀ (U : State) (H : Heap), ev U H → evT (wdA 36 q) U H) (σ : hsS) (x1 : Int32) (post : Int32 → hsS → Prop) (px : hsS → Prop) (hw : wX7_head x1 post px σ) : vx_Met l yX7_head (Cond.code yX7_head cX7_head 2 (some .int) :: tb_L) { frames := 8, cells := 1, slots := 6, locals := 151 } (wdPc D (xw c q) (xwT c) (wdA 36 q) ev σ [.ref (q 0), .int x1]) (va_Qi post (wdB D (xw c q)) (wdA 36 q)) (vx_X px (xpB D (xw c q) "java/util/NoSuchElementException") (wdA 36 q)) 1 6 (wdA 36 q) := by
  refine vx_ofW (cc := cX7_head) (maxL := 2) (ret := (some .int)) (by decide) rfl ?_
  intro p e s m args below meth c₀ s₁ Bd hml htab hv
  obtain ⟨rfl, hP, hK, hD0, hE⟩ := hv
  have hx := Bd.exec
  have hb := Bd.bytes
  have hr := Bd.returns
  have hts := atoms_spec (ws := Cond.code yX7_head cX7_head 2 (some .int) :: tb_L) Bd.pre
  have htb : ∀ w ∈ tb_L, w.before [.ref (q 0), .int x1].toArray s = true := fun w h => hts w (List.mem_cons_of_mem _ h)
  have hown : s.vm.findClass RX7 = some m.cls := findClass_of_methodNamed Bd.named
  have hlocks := Bd.notSynchronized
  have hS : va_S (wdA 36 q) s.heap s.heap [] := va_S.rf
  have hD := hD0
  have hl := lv_entry ([.ref (q 0), .int x1]) (n := 2) (Nat.le_of_ble_eq_true rfl)
  rw [lg_entry_eq]
  generalize (lg_sl ([.ref (q 0), .int x1]) ++ List.replicate (2 - (lg_sl ([.ref (q 0), .int x1])).length) Slot.unset).toArray = ls at hl ⊢
  have hl : lv_has ls 2 [(0, .ref (q 0)), (1, .int x1)] := hl
  unfold wX7_head at hw
  refine lv_iload_n hx hb dX7_head_0 rfl (lv_at hl 1 rfl) ?_
  by_cases c3 : x1 = (0 : Int32)
  · have hw := hw.1 c3
    refine lv_lookup (off := 27) (tgt := 28) hx hb dX7_head_1 (by decide) (by rw [c3]; rfl) (by decide) ?_
    refine lv_aload_n hx hb dX7_head_28 rfl (lv_at hl 0 rfl) ?_
    refine va_get (D := D) (ci := 7) (C := RX7) (T := TX7) (N := 9) hx hb htb inX7 hown hK hP 0 (xw_0 c q σ) rfl 0 (by decide) (htb _ tb_342) (fun _ h9 => h9) rfl dX7_head_29 ?_
    refine va_calli (va_runV (As := []) (rest := []) ⟨hx, hb, hml, hown, htb⟩ (kcX1_thingOfMostHeads_1 l D c q ev hev σ  _ hw) (tb_CW htb kX1_thingOfMostHeads tb_1071 tb_1072 tb_1073 ⟨Nat.le_of_ble_eq_true rfl, Nat.le_of_ble_eq_true rfl⟩) (wd_preV (wd := xw c q) (k := 1) hev hK hP hD hE hS (xw_1 c q σ) rfl) rfl rfl hl.1 rfl (lv_room (Nat.le_of_ble_eq_true rfl)) dX7_head_32 ⟨Nat.le_of_ble_eq_true rfl, Nat.le_of_ble_eq_true rfl⟩) hS (fun q _ h => h) (fun q h => h) (fun r1 σ2 t H1 locs1 ht hvm hw hB hz1 hk1 hS => ?_)
    have hP : va_P D vwCl (xw c q σ2) H1 := ht ▸ hB
    have hD : va_D (wdA 36 q) (xw c q σ2) := xw_D hD0
    exact vx_ret (W.widen (k := 1) (n := 6) (Nat.le_of_ble_eq_true rfl) (Nat.le_of_ble_eq_true rfl) (W.iret hx hb hr (fun t ht hW => ⟨⟨_, σ2, rfl, hw, by unfold wdB; rw [ht]; exact hP⟩, hS.F ht⟩) hS.2.2 dX7_head_35))
  · have hw := hw.2 c3
    by_cases c12 : x1 = (1 : Int32)
    · have hw := hw.1 c12
      refine lv_lookup (off := 35) (tgt := 36) hx hb dX7_head_1 (by decide) (by rw [c12]; rfl) (by decide) ?_
      refine lv_aload_n hx hb dX7_head_36 rfl (lv_at hl 0 rfl) ?_
      refine va_get (D := D) (ci := 7) (C := RX7) (T := TX7) (N := 9) hx hb htb inX7 hown hK hP 0 (xw_0 c q σ) rfl 0 (by decide) (htb _ tb_342) (fun _ h9 => h9) rfl dX7_head_37 ?_
      refine lv_aload_n hx hb dX7_head_40 rfl (lv_at hl 0 rfl) ?_
      refine va_get (D := D) (ci := 7) (C := RX7) (T := TX7) (N := 9) hx hb htb inX7 hown hK hP 0 (xw_0 c q σ) rfl 0 (by decide) (htb _ tb_342) (fun _ h9 => h9) rfl dX7_head_41 ?_
      refine va_calli (va_runV (As := []) (rest := [.ref (q 1)]) ⟨hx, hb, hml, hown, htb⟩ (kcX1_thingOfMostHeads_1 l D c q ev hev σ  _ hw) (tb_CW htb kX1_thingOfMostHeads tb_1071 tb_1072 tb_1073 ⟨Nat.le_of_ble_eq_true rfl, Nat.le_of_ble_eq_true rfl⟩) (wd_preV (wd := xw c q) (k := 1) hev hK hP hD hE hS (xw_1 c q σ) rfl) rfl rfl hl.1 rfl (lv_room (Nat.le_of_ble_eq_true rfl)) dX7_head_44 ⟨Nat.le_of_ble_eq_true rfl, Nat.le_of_ble_eq_true rfl⟩) hS (fun q _ h => h) (fun q h => h) (fun r4 σ5 t H1 locs1 ht hvm hw hB hz1 hk1 hS => ?_)
      have hP : va_P D vwCl (xw c q σ5) H1 := ht ▸ hB
      have hD : va_D (wdA 36 q) (xw c q σ5) := xw_D hD0
      refine va_calli (va_runV (As := [.int r4]) (rest := []) ⟨hx, hb, hml, hown, htb⟩ (kcX1_greatestGrumble_1 l D c q ev hev σ5 r4 _ hw) (tb_CW htb kX1_greatestGrumble tb_530 tb_531 tb_532 ⟨Nat.le_of_ble_eq_true rfl, Nat.le_of_ble_eq_true rfl⟩) (wd_preV (wd := xw c q) (k := 1) hev hK hP hD hE hS (xw_1 c q σ5) rfl) rfl rfl hl.1 rfl (lv_room (Nat.le_of_ble_eq_true rfl)) dX7_head_47 ⟨Nat.le_of_ble_eq_true rfl, Nat.le_of_ble_eq_true rfl⟩) hS (fun q _ h => h) (fun q h => h) (fun r6 σ7 t H1 locs1 ht hvm hw hB hz1 hk1 hS => ?_)
      have hP : va_P D vwCl (xw c q σ7) H1 := ht ▸ hB
      have hD : va_D (wdA 36 q) (xw c q σ7) := xw_D hD0
      refine lv_aload_n hx hb dX7_head_50 rfl (lv_at hl 0 rfl) ?_
      refine va_get (D := D) (ci := 7) (C := RX7) (T := TX7) (N := 9) hx hb htb inX7 hown hK hP 0 (xw_0 c q σ7) rfl 0 (by decide) (htb _ tb_342) (fun _ h9 => h9) rfl dX7_head_51 ?_
      refine lv_aload_n hx hb dX7_head_54 rfl (lv_at hl 0 rfl) ?_
      refine va_calli (va_runV (As := []) (rest := [.ref (q 1), .int r6]) ⟨hx, hb, hml, hown, htb⟩ (kcX7_leastGrumbled l D c q ev hev σ7  _ hw) (tb_CW htb kX7_leastGrumbled tb_521 tb_523 tb_3 ⟨Nat.le_of_ble_eq_true rfl, Nat.le_of_ble_eq_true rfl⟩) (wd_preV (wd := xw c q) (k := 0) hev hK hP hD hE hS (xw_0 c q σ7) rfl) rfl rfl hl.1 rfl (lv_room (Nat.le_of_ble_eq_true rfl)) dX7_head_55 ⟨Nat.le_of_ble_eq_true rfl, Nat.le_of_ble_eq_true rfl⟩) hS (fun q _ h => h) (fun q h => h) (fun r8 σ9 t H1 locs1 ht hvm hw hB hz1 hk1 hS => ?_)
      have hP : va_P D vwCl (xw c q σ9) H1 := ht ▸ hB
      have hD : va_D (wdA 36 q) (xw c q σ9) := xw_D hD0
      refine va_calli (va_runV (As := [.int r8]) (rest := [.int r6]) ⟨hx, hb, hml, hown, htb⟩ (kcX1_greatestGrumble_1 l D c q ev hev σ9 r8 _ hw) (tb_CW htb kX1_greatestGrumble tb_530 tb_531 tb_532 ⟨Nat.le_of_ble_eq_true rfl, Nat.le_of_ble_eq_true rfl⟩) (wd_preV (wd := xw c q) (k := 1) hev hK hP hD hE hS (xw_1 c q σ9) rfl) rfl rfl hl.1 rfl (lv_room (Nat.le_of_ble_eq_true rfl)) dX7_head_58 ⟨Nat.le_of_ble_eq_true rfl, Nat.le_of_ble_eq_true rfl⟩) hS (fun q _ h => h) (fun q h => h) (fun r10 σ11 t H1 locs1 ht hvm hw hB hz1 hk1 hS => ?_)
      have hP : va_P D vwCl (xw c q σ11) H1 := ht ▸ hB
      have hD : va_D (wdA 36 q) (xw c q σ11) := xw_D hD0
      refine lv_isub hx hb dX7_head_61 ?_
      exact vx_ret (W.widen (k := 1) (n := 6) (Nat.le_of_ble_eq_true rfl) (Nat.le_of_ble_eq_true rfl) (W.iret hx hb hr (fun t ht hW => ⟨⟨_, σ11, rfl, hw, by unfold wdB; rw [ht]; exact hP⟩, hS.F ht⟩) hS.2.2 dX7_head_62))
    · have hw := hw.2 c12
      refine lv_lookup (off := 62) (tgt := 63) hx hb dX7_head_1 (by decide) (by show Op.lookupswitch.offset [(0, 27), (1, 35)] 62 _ = _; rw [lv_osw (a := 0) c3 rfl, lv_osw (a := 1) c12 rfl]; rfl) (by decide) ?_
      obtain ⟨hU9, hN9, hF9, hR9⟩ := hX s s.heap hE
      obtain ⟨sa9, hsa9⟩ := hR9 (266, "no such answer about the head") (by decide)
      exact xt_throwSW hx hb hst (own := "StrikeHall") (cls := "java/util/NoSuchElementException") (text := "no such answer about the head") (names := ["java/lang/Exception"]) (ix := 13) (rx := xt_rx) (Yc := "java/lang/RuntimeException") hown (by decide) (by decide) (by decide +kernel) (by decide +kernel) (by decide +kernel) (by decide +kernel) (by decide) (htb _ tb_883) (htb _ tb_111) hsa9 (hat_NSE htb hF9) hot_NSE hU9 hN9 hS (hl.1.trans hml.symm) dX7_head_63 dX7_head_66 dX7_head_67 dX7_head_70 dX7_head_73 (fun x h => (htab x h).elim) (Nat.le_of_ble_eq_true rfl) (Nat.le_of_ble_eq_true rfl) (Nat.le_of_ble_eq_true rfl) (Nat.le_of_ble_eq_true rfl) hlocks (fun t hvm hsz hk => ⟨σ, hw, ⟨rfl, wd_grow hP hk⟩, wd_F hS hsz hk⟩) hS.2.2 (Nat.le_of_ble_eq_true rfl) (Nat.le_of_ble_eq_true rfl)
def wX1_groupSize_L5 (b0 : Nat) (z1 : Int32) (z2 : Int32) (K34 : Int32 → Int32 → hsS → Prop) (post : Int32 → hsS → Prop) : Nat → Int32 → Int32 → hsS → Prop
  | 0, _, _, _ => False
  | n + 1, y3, y4, σ => (((σ.1 (64 * b0 + 0)) ≤ y4 → K34 y3 y4 σ) ∧ (¬ (σ.1 (64 * b0 + 0)) ≤ y4 → wX1_placeOf b0 z1 y4 (fun r2 σ3 => ((r2 = z2 → ∀ v5 : Int32, v5 = y3 + (1 : Int32) → ∀ v6 : Int32, v6 = y4 + (1 : Int32) → wX1_groupSize_L5 b0 z1 z2 K34 post n v5 v6 σ3) ∧ (¬ r2 = z2 → ∀ v7 : Int32, v7 = y4 + (1 : Int32) → wX1_groupSize_L5 b0 z1 z2 K34 post n y3 v7 σ3))) σ))
def wX1_groupSize (b0 : Nat) (x1 : Int32) (x2 : Int32) (post : Int32 → hsS → Prop) (σ : hsS) : Prop := ∃ n8, wX1_groupSize_L5 b0 x1 x2 (fun v9 v10 σ11 => post v9 σ11) post n8 (0 : Int32) (0 : Int32) σ
set_option maxHeartbeats 4000000 in
set_option maxRecDepth 100000 in
theorem kcX1_groupSize_6 (l : Launch) (D : va_G) (c : Nat → ClassId) (q : Nat → Nat) (ev : State → Heap → Prop) (hev : evOK (wdA 36 q) ev) (σ : hsS) (x1 : Int32) (x2 : Int32) (post : Int32 → hsS → Prop) (hw : wX1_groupSize 6 x1 x2 post σ) : Met l yX1_groupSize (Cond.code yX1_groupSize cX1_groupSize 5 (some .int) :: tb_L) { frames := 1, cells := 0, slots := 0, locals := 22 } (wdPc D (xw c q) (xwT c) (wdA 36 q) ev σ [.ref (q 6), .int x1, .int x2]) (va_Qi post (wdB D (xw c q)) (wdA 36 q)) 0 0 (wdA 36 q) := by
  refine Met.ofW (cc := cX1_groupSize) (maxL := 5) (ret := (some .int)) (by decide) rfl ?_
  intro p e s m args below meth c₀ s₁ Bd hml hv
  obtain ⟨rfl, hP, hK, hD0, hE⟩ := hv
  have hx := Bd.exec
  have hb := Bd.bytes
  have hr := Bd.returns
  have hts := atoms_spec (ws := Cond.code yX1_groupSize cX1_groupSize 5 (some .int) :: tb_L) Bd.pre
  have htb : ∀ w ∈ tb_L, w.before [.ref (q 6), .int x1, .int x2].toArray s = true := fun w h => hts w (List.mem_cons_of_mem _ h)
  have hown : s.vm.findClass RX1 = some m.cls := findClass_of_methodNamed Bd.named
  have hlocks := Bd.notSynchronized
  have hS : va_S (wdA 36 q) s.heap s.heap [] := va_S.rf
  have hD := hD0
  have L5 : ∀ (K34 : Int32 → Int32 → hsS → Prop) (z1 : Int32) (z2 : Int32) (n : Nat) (y3 : Int32) (y4 : Int32) (σ : hsS) (H : Heap) (locs : List Loc) (ls : Array Slot), wX1_groupSize_L5 6 z1 z2 K34 post n y3 y4 σ → (∀ (y3 : Int32) (y4 : Int32) (σ : hsS) (H : Heap) (locs : List Loc) (ls : Array Slot), K34 y3 y4 σ → va_P D vwCl (xw c q σ) H → va_S (wdA 36 q) s.heap H locs → lv_has ls 5 [(0, .ref (q 6)), (1, .int z1), (2, .int z2), (3, .int y3), (4, .int y4)] → W p l e (headSpec (Cond.code yX1_groupSize cX1_groupSize 5 (some .int) :: tb_L) { frames := 1, cells := 0, slots := 0, locals := 22 }).room s m [.ref (q 6), .int x1, .int x2].toArray below meth c₀ H locs 0 0 (MQ below (va_Qi post (wdB D (xw c q)) (wdA 36 q)) [.ref (q 6), .int x1, .int x2].toArray s 0 0 (wdA 36 q)) (F0 m 34 ls [])) → va_P D vwCl (xw c q σ) H → va_S (wdA 36 q) s.heap H locs → lv_has ls 5 [(0, .ref (q 6)), (1, .int z1), (2, .int z2), (3, .int y3), (4, .int y4)] → W p l e (headSpec (Cond.code yX1_groupSize cX1_groupSize 5 (some .int) :: tb_L) { frames := 1, cells := 0, slots := 0, locals := 22 }).room s m [.ref (q 6), .int x1, .int x2].toArray below meth c₀ H locs 0 0 (MQ below (va_Qi post (wdB D (xw c q)) (wdA 36 q)) [.ref (q 6), .int x1, .int x2].toArray s 0 0 (wdA 36 q)) (F0 m 5 ls []) := by
    intro K34 z1 z2 n
    induction n with
    | zero =>
      intro y3 y4 σ H locs ls hw hk34 hP hS hl
      exact (show False from hw).elim
    | succ n ih =>
      intro y3 y4 σ H locs ls hw hk34 hP hS hl
      rw [wX1_groupSize_L5] at hw
      have hD : va_D (wdA 36 q) (xw c q σ) := xw_D hD0
      refine lv_iload hx hb dX1_groupSize_5 (lv_at hl 4 rfl) ?_
      refine lv_aload_n hx hb dX1_groupSize_7 rfl (lv_at hl 0 rfl) ?_
      refine va_get (D := D) (ci := 1) (C := RX1) (T := TX1) (N := 12) hx hb htb inX1 hown hK hP 6 (xw_6 c q σ) rfl 0 (by decide) (htb _ tb_126) (fun _ h9 => h9) rfl dX1_groupSize_8 ?_
      refine lv_icmp_ge (tgt := 34) hx hb dX1_groupSize_11 (by decide) (fun c1 => ?_) (fun c1 => ?_)
      · have hw := hw.1 c1
        exact hk34 y3 y4 σ _ _ _ hw hP hS (lv_sub hl [0, 1, 2, 3, 4] rfl)
      · have hw := hw.2 c1
        refine lv_aload_n hx hb dX1_groupSize_14 rfl (lv_at hl 0 rfl) ?_
        refine lv_iload_n hx hb dX1_groupSize_15 rfl (lv_at hl 1 rfl) ?_
        refine lv_iload hx hb dX1_groupSize_16 (lv_at hl 4 rfl) ?_
        refine va_calli (va_runV (As := [.int z1, .int y4]) (rest := []) ⟨hx, hb, hml, hown, htb⟩ (kcX1_placeOf_6 l D c q ev hev σ z1 y4 _ hw) (tb_CW htb kX1_placeOf tb_445 tb_446 tb_447 ⟨Nat.le_of_ble_eq_true rfl, Nat.le_of_ble_eq_true rfl⟩) (wd_preV (wd := xw c q) (k := 6) hev hK hP hD hE hS (xw_6 c q σ) rfl) rfl rfl hl.1 rfl (lv_room (Nat.le_of_ble_eq_true rfl)) dX1_groupSize_18 ⟨Nat.zero_le _, Nat.zero_le _⟩) hS (fun q _ h => h) (fun q h => h) (fun r2 σ3 t H1 locs1 ht hvm hw hB hz1 hk1 hS => ?_)
        have hP : va_P D vwCl (xw c q σ3) H1 := ht ▸ hB
        have hD : va_D (wdA 36 q) (xw c q σ3) := xw_D hD0
        refine lv_iload_n hx hb dX1_groupSize_21 rfl (lv_at hl 2 rfl) ?_
        refine lv_icmp_ne (tgt := 28) hx hb dX1_groupSize_22 (by decide) (fun c4 => ?_) (fun c4 => ?_)
        · have hw := hw.2 c4
          obtain ⟨v7, ev7⟩ : ∃ z : Int32, z = y4 + (1 : Int32) := ⟨_, rfl⟩
          have hw := hw v7 ev7
          refine lv_iinc (v := v7) (lv' := [(4, .int v7), (0, .ref (q 6)), (1, .int z1), (2, .int z2), (3, .int y3)]) hx hb dX1_groupSize_28 hl (k := 4) rfl (by rw [ev7]; rfl) (by decide) rfl (fun ls hl => ?_)
          refine lv_goto (tgt := 5) hx hb dX1_groupSize_31 (by decide) ?_
          exact ih y3 v7 σ3 _ _ _ hw hk34 hP hS (lv_sub hl [1, 2, 3, 4, 0] rfl)
        · have hw := hw.1 c4
          obtain ⟨v5, ev5⟩ : ∃ z : Int32, z = y3 + (1 : Int32) := ⟨_, rfl⟩
          have hw := hw v5 ev5
          refine lv_iinc (v := v5) (lv' := [(3, .int v5), (0, .ref (q 6)), (1, .int z1), (2, .int z2), (4, .int y4)]) hx hb dX1_groupSize_25 hl (k := 3) rfl (by rw [ev5]; rfl) (by decide) rfl (fun ls hl => ?_)
          obtain ⟨v6, ev6⟩ : ∃ z : Int32, z = y4 + (1 : Int32) := ⟨_, rfl⟩
          have hw := hw v6 ev6
          refine lv_iinc (v := v6) (lv' := [(4, .int v6), (3, .int v5), (0, .ref (q 6)), (1, .int z1), (2, .int z2)]) hx hb dX1_groupSize_28 hl (k := 4) rfl (by rw [ev6]; rfl) (by decide) rfl (fun ls hl => ?_)
          refine lv_goto (tgt := 5) hx hb dX1_groupSize_31 (by decide) ?_
          exact ih v5 v6 σ3 _ _ _ hw hk34 hP hS (lv_sub hl [2, 3, 4, 1, 0] rfl)
  have hl := lv_entry ([.ref (q 6), .int x1, .int x2]) (n := 5) (Nat.le_of_ble_eq_true rfl)
  rw [lg_entry_eq]
  generalize (lg_sl ([.ref (q 6), .int x1, .int x2]) ++ List.replicate (5 - (lg_sl ([.ref (q 6), .int x1, .int x2])).length) Slot.unset).toArray = ls at hl ⊢
  have hl : lv_has ls 5 [(0, .ref (q 6)), (1, .int x1), (2, .int x2)] := hl
  unfold wX1_groupSize at hw
  refine lv_iconst (v := (0 : Int32)) hx hb dX1_groupSize_0 (by decide) ?_
  refine lv_istore_n (lv' := [(3, .int (0 : Int32)), (0, .ref (q 6)), (1, .int x1), (2, .int x2)]) hx hb dX1_groupSize_1 rfl hl (by decide) rfl (fun ls hl => ?_)
  refine lv_iconst (v := (0 : Int32)) hx hb dX1_groupSize_2 (by decide) ?_
  refine lv_istore (lv' := [(4, .int (0 : Int32)), (3, .int (0 : Int32)), (0, .ref (q 6)), (1, .int x1), (2, .int x2)]) hx hb dX1_groupSize_3 hl (by decide) rfl (fun ls hl => ?_)
  obtain ⟨n8, hw⟩ := hw
  refine L5 _ x1 x2 n8 (0 : Int32) (0 : Int32) σ _ _ _ hw ?_ hP hS (lv_sub hl [2, 3, 4, 1, 0] rfl)
  intro v9 v10 σ11 H locs ls hw hP hS hl
  have hD : va_D (wdA 36 q) (xw c q σ11) := xw_D hD0
  refine lv_iload_n hx hb dX1_groupSize_34 rfl (lv_at hl 3 rfl) ?_
  exact W.iret hx hb hr (fun t ht hW => ⟨⟨_, σ11, rfl, hw, by unfold wdB; rw [ht]; exact hP⟩, hS.F ht⟩) hS.2.2 dX1_groupSize_35
def wX1_putCopy_L30 (b0 : Nat) (z1 : Int32) (z2 : Int32) (z3 : Int32) (z4 : Int32) (K72 : Int32 → hsS → Prop) (post : hsS → Prop) : Nat → Int32 → hsS → Prop
  | 0, _, _ => False
  | n + 1, y5, σ => (((σ.1 (64 * b0 + 0)) ≤ y5 → K72 y5 σ) ∧ (¬ (σ.1 (64 * b0 + 0)) ≤ y5 → wX1_placeOf b0 z2 y5 (fun r8 σ9 => ((r8 ≤ z3 → ∀ v11 : Int32, v11 = y5 + (1 : Int32) → wX1_putCopy_L30 b0 z1 z2 z3 z4 K72 post n v11 σ9) ∧ (¬ r8 ≤ z3 → wX1_placeOf b0 z2 y5 (fun r12 σ13 => wX1_putPlace b0 z2 y5 (r12 + (1 : Int32)) (fun σ15 => ∀ v16 : Int32, v16 = y5 + (1 : Int32) → wX1_putCopy_L30 b0 z1 z2 z3 z4 K72 post n v16 σ15) σ13) σ9))) σ))
def wX1_putCopy_L2 (b0 : Nat) (z1 : Int32) (K89 : Int32 → hsS → Prop) (post : hsS → Prop) : Nat → Int32 → hsS → Prop
  | 0, _, _ => False
  | n + 1, y2, σ => (((σ.1 (64 * b0 + 1)) ≤ y2 → K89 y2 σ) ∧ (¬ (σ.1 (64 * b0 + 1)) ≤ y2 → wX1_placeOf b0 y2 z1 (fun r2 σ3 => wX1_groupSize b0 y2 r2 (fun r4 σ5 => ∀ v6 : Int32, v6 = r2 + r4 → ∃ n17, wX1_putCopy_L30 b0 z1 y2 r2 v6 (fun v18 σ19 => wX1_putPlace b0 y2 (σ19.1 (64 * b0 + 0)) v6 (fun σ21 => ∀ v22 : Int32, v22 = y2 + (1 : Int32) → wX1_putCopy_L2 b0 z1 K89 post n v22 σ21) σ19) post n17 (0 : Int32) σ5) σ3) σ))
def wX1_putCopy (b0 : Nat) (x1 : Int32) (post : hsS → Prop) (σ : hsS) : Prop := ∃ n23, wX1_putCopy_L2 b0 x1 (fun v24 σ25 => ∀ σ26 : hsS, σ26 = hsI σ25 (64 * b0 + 0) ((σ25.1 (64 * b0 + 0)) + (1 : Int32)) → post σ26) post n23 (0 : Int32) σ
set_option maxHeartbeats 4000000 in
set_option maxRecDepth 100000 in
theorem kcX1_putCopy_6 (l : Launch) (D : va_G) (c : Nat → ClassId) (q : Nat → Nat) (ev : State → Heap → Prop) (hev : evOK (wdA 36 q) ev) (σ : hsS) (x1 : Int32) (post : hsS → Prop) (hw : wX1_putCopy 6 x1 post σ) : Met l yX1_putCopy (Cond.code yX1_putCopy cX1_putCopy 6 none :: tb_L) { frames := 2, cells := 0, slots := 0, locals := 46 } (wdPc D (xw c q) (xwT c) (wdA 36 q) ev σ [.ref (q 6), .int x1]) (va_Qv post (wdB D (xw c q)) (wdA 36 q)) 0 0 (wdA 36 q) := by
  refine Met.ofW (cc := cX1_putCopy) (maxL := 6) (ret := none) (by decide) rfl ?_
  intro p e s m args below meth c₀ s₁ Bd hml hv
  obtain ⟨rfl, hP, hK, hD0, hE⟩ := hv
  have hx := Bd.exec
  have hb := Bd.bytes
  have hr := Bd.returns
  have hts := atoms_spec (ws := Cond.code yX1_putCopy cX1_putCopy 6 none :: tb_L) Bd.pre
  have htb : ∀ w ∈ tb_L, w.before [.ref (q 6), .int x1].toArray s = true := fun w h => hts w (List.mem_cons_of_mem _ h)
  have hown : s.vm.findClass RX1 = some m.cls := findClass_of_methodNamed Bd.named
  have hlocks := Bd.notSynchronized
  have hS : va_S (wdA 36 q) s.heap s.heap [] := va_S.rf
  have hD := hD0
  have L30 : ∀ (K72 : Int32 → hsS → Prop) (z1 : Int32) (z2 : Int32) (z3 : Int32) (z4 : Int32) (n : Nat) (y5 : Int32) (σ : hsS) (H : Heap) (locs : List Loc) (ls : Array Slot), wX1_putCopy_L30 6 z1 z2 z3 z4 K72 post n y5 σ → (∀ (y5 : Int32) (σ : hsS) (H : Heap) (locs : List Loc) (ls : Array Slot), K72 y5 σ → va_P D vwCl (xw c q σ) H → va_S (wdA 36 q) s.heap H locs → lv_has ls 6 [(0, .ref (q 6)), (1, .int z1), (2, .int z2), (3, .int z3), (4, .int z4), (5, .int y5)] → W p l e (headSpec (Cond.code yX1_putCopy cX1_putCopy 6 none :: tb_L) { frames := 2, cells := 0, slots := 0, locals := 46 }).room s m [.ref (q 6), .int x1].toArray below meth c₀ H locs 0 0 (MQ below (va_Qv post (wdB D (xw c q)) (wdA 36 q)) [.ref (q 6), .int x1].toArray s 0 0 (wdA 36 q)) (F0 m 72 ls [])) → va_P D vwCl (xw c q σ) H → va_S (wdA 36 q) s.heap H locs → lv_has ls 6 [(0, .ref (q 6)), (1, .int z1), (2, .int z2), (3, .int z3), (4, .int z4), (5, .int y5)] → W p l e (headSpec (Cond.code yX1_putCopy cX1_putCopy 6 none :: tb_L) { frames := 2, cells := 0, slots := 0, locals := 46 }).room s m [.ref (q 6), .int x1].toArray below meth c₀ H locs 0 0 (MQ below (va_Qv post (wdB D (xw c q)) (wdA 36 q)) [.ref (q 6), .int x1].toArray s 0 0 (wdA 36 q)) (F0 m 30 ls []) := by
    intro K72 z1 z2 z3 z4 n
    induction n with
    | zero =>
      intro y5 σ H locs ls hw hk72 hP hS hl
      exact (show False from hw).elim
    | succ n ih =>
      intro y5 σ H locs ls hw hk72 hP hS hl
      rw [wX1_putCopy_L30] at hw
      have hD : va_D (wdA 36 q) (xw c q σ) := xw_D hD0
      refine lv_iload hx hb dX1_putCopy_30 (lv_at hl 5 rfl) ?_
      refine lv_aload_n hx hb dX1_putCopy_32 rfl (lv_at hl 0 rfl) ?_
      refine va_get (D := D) (ci := 1) (C := RX1) (T := TX1) (N := 12) hx hb htb inX1 hown hK hP 6 (xw_6 c q σ) rfl 0 (by decide) (htb _ tb_126) (fun _ h9 => h9) rfl dX1_putCopy_33 ?_
      refine lv_icmp_ge (tgt := 72) hx hb dX1_putCopy_36 (by decide) (fun c7 => ?_) (fun c7 => ?_)
      · have hw := hw.1 c7
        exact hk72 y5 σ _ _ _ hw hP hS (lv_sub hl [0, 1, 2, 3, 4, 5] rfl)
      · have hw := hw.2 c7
        refine lv_aload_n hx hb dX1_putCopy_39 rfl (lv_at hl 0 rfl) ?_
        refine lv_iload_n hx hb dX1_putCopy_40 rfl (lv_at hl 2 rfl) ?_
        refine lv_iload hx hb dX1_putCopy_41 (lv_at hl 5 rfl) ?_
        refine va_calli (va_runV (As := [.int z2, .int y5]) (rest := []) ⟨hx, hb, hml, hown, htb⟩ (kcX1_placeOf_6 l D c q ev hev σ z2 y5 _ hw) (tb_CW htb kX1_placeOf tb_445 tb_446 tb_447 ⟨Nat.le_of_ble_eq_true rfl, Nat.le_of_ble_eq_true rfl⟩) (wd_preV (wd := xw c q) (k := 6) hev hK hP hD hE hS (xw_6 c q σ) rfl) rfl rfl hl.1 rfl (lv_room (Nat.le_of_ble_eq_true rfl)) dX1_putCopy_43 ⟨Nat.zero_le _, Nat.zero_le _⟩) hS (fun q _ h => h) (fun q h => h) (fun r8 σ9 t H1 locs1 ht hvm hw hB hz1 hk1 hS => ?_)
        have hP : va_P D vwCl (xw c q σ9) H1 := ht ▸ hB
        have hD : va_D (wdA 36 q) (xw c q σ9) := xw_D hD0
        refine lv_iload_n hx hb dX1_putCopy_46 rfl (lv_at hl 3 rfl) ?_
        refine lv_icmp_le (tgt := 66) hx hb dX1_putCopy_47 (by decide) (fun c10 => ?_) (fun c10 => ?_)
        · have hw := hw.1 c10
          obtain ⟨v11, ev11⟩ : ∃ z : Int32, z = y5 + (1 : Int32) := ⟨_, rfl⟩
          have hw := hw v11 ev11
          refine lv_iinc (v := v11) (lv' := [(5, .int v11), (0, .ref (q 6)), (1, .int z1), (2, .int z2), (3, .int z3), (4, .int z4)]) hx hb dX1_putCopy_66 hl (k := 5) rfl (by rw [ev11]; rfl) (by decide) rfl (fun ls hl => ?_)
          refine lv_goto (tgt := 30) hx hb dX1_putCopy_69 (by decide) ?_
          exact ih v11 σ9 _ _ _ hw hk72 hP hS (lv_sub hl [1, 2, 3, 4, 5, 0] rfl)
        · have hw := hw.2 c10
          refine lv_aload_n hx hb dX1_putCopy_50 rfl (lv_at hl 0 rfl) ?_
          refine lv_iload_n hx hb dX1_putCopy_51 rfl (lv_at hl 2 rfl) ?_
          refine lv_iload hx hb dX1_putCopy_52 (lv_at hl 5 rfl) ?_
          refine lv_aload_n hx hb dX1_putCopy_54 rfl (lv_at hl 0 rfl) ?_
          refine lv_iload_n hx hb dX1_putCopy_55 rfl (lv_at hl 2 rfl) ?_
          refine lv_iload hx hb dX1_putCopy_56 (lv_at hl 5 rfl) ?_
          refine va_calli (va_runV (As := [.int z2, .int y5]) (rest := [.int y5, .int z2, .ref (q 6)]) ⟨hx, hb, hml, hown, htb⟩ (kcX1_placeOf_6 l D c q ev hev σ9 z2 y5 _ hw) (tb_CW htb kX1_placeOf tb_445 tb_446 tb_447 ⟨Nat.le_of_ble_eq_true rfl, Nat.le_of_ble_eq_true rfl⟩) (wd_preV (wd := xw c q) (k := 6) hev hK hP hD hE hS (xw_6 c q σ9) rfl) rfl rfl hl.1 rfl (lv_room (Nat.le_of_ble_eq_true rfl)) dX1_putCopy_58 ⟨Nat.zero_le _, Nat.zero_le _⟩) hS (fun q _ h => h) (fun q h => h) (fun r12 σ13 t H1 locs1 ht hvm hw hB hz1 hk1 hS => ?_)
          have hP : va_P D vwCl (xw c q σ13) H1 := ht ▸ hB
          have hD : va_D (wdA 36 q) (xw c q σ13) := xw_D hD0
          refine lv_iconst (v := (1 : Int32)) hx hb dX1_putCopy_61 (by decide) ?_
          refine lv_iadd hx hb dX1_putCopy_62 ?_
          refine va_callv (va_runV (As := [.int z2, .int y5, .int (r12 + (1 : Int32))]) (rest := []) ⟨hx, hb, hml, hown, htb⟩ (kcX1_putPlace_6 l D c q ev hev σ13 z2 y5 (r12 + (1 : Int32)) _ hw) (tb_CW htb kX1_putPlace tb_1029 tb_599 tb_600 ⟨Nat.le_of_ble_eq_true rfl, Nat.le_of_ble_eq_true rfl⟩) (wd_preV (wd := xw c q) (k := 6) hev hK hP hD hE hS (xw_6 c q σ13) rfl) rfl rfl hl.1 rfl (lv_room (Nat.le_of_ble_eq_true rfl)) dX1_putCopy_63 ⟨Nat.zero_le _, Nat.zero_le _⟩) hS (fun q _ h => h) (fun q h => h) (fun σ15 t H1 locs1 ht hvm hw hB hz1 hk1 hS => ?_)
          have hP : va_P D vwCl (xw c q σ15) H1 := ht ▸ hB
          have hD : va_D (wdA 36 q) (xw c q σ15) := xw_D hD0
          obtain ⟨v16, ev16⟩ : ∃ z : Int32, z = y5 + (1 : Int32) := ⟨_, rfl⟩
          have hw := hw v16 ev16
          refine lv_iinc (v := v16) (lv' := [(5, .int v16), (0, .ref (q 6)), (1, .int z1), (2, .int z2), (3, .int z3), (4, .int z4)]) hx hb dX1_putCopy_66 hl (k := 5) rfl (by rw [ev16]; rfl) (by decide) rfl (fun ls hl => ?_)
          refine lv_goto (tgt := 30) hx hb dX1_putCopy_69 (by decide) ?_
          exact ih v16 σ15 _ _ _ hw hk72 hP hS (lv_sub hl [1, 2, 3, 4, 5, 0] rfl)
  have L2 : ∀ (K89 : Int32 → hsS → Prop) (z1 : Int32) (n : Nat) (y2 : Int32) (σ : hsS) (H : Heap) (locs : List Loc) (ls : Array Slot), wX1_putCopy_L2 6 z1 K89 post n y2 σ → (∀ (y2 : Int32) (σ : hsS) (H : Heap) (locs : List Loc) (ls : Array Slot), K89 y2 σ → va_P D vwCl (xw c q σ) H → va_S (wdA 36 q) s.heap H locs → lv_has ls 6 [(0, .ref (q 6)), (1, .int z1), (2, .int y2)] → W p l e (headSpec (Cond.code yX1_putCopy cX1_putCopy 6 none :: tb_L) { frames := 2, cells := 0, slots := 0, locals := 46 }).room s m [.ref (q 6), .int x1].toArray below meth c₀ H locs 0 0 (MQ below (va_Qv post (wdB D (xw c q)) (wdA 36 q)) [.ref (q 6), .int x1].toArray s 0 0 (wdA 36 q)) (F0 m 89 ls [])) → va_P D vwCl (xw c q σ) H → va_S (wdA 36 q) s.heap H locs → lv_has ls 6 [(0, .ref (q 6)), (1, .int z1), (2, .int y2)] → W p l e (headSpec (Cond.code yX1_putCopy cX1_putCopy 6 none :: tb_L) { frames := 2, cells := 0, slots := 0, locals := 46 }).room s m [.ref (q 6), .int x1].toArray below meth c₀ H locs 0 0 (MQ below (va_Qv post (wdB D (xw c q)) (wdA 36 q)) [.ref (q 6), .int x1].toArray s 0 0 (wdA 36 q)) (F0 m 2 ls []) := by
    intro K89 z1 n
    induction n with
    | zero =>
      intro y2 σ H locs ls hw hk89 hP hS hl
      exact (show False from hw).elim
    | succ n ih =>
      intro y2 σ H locs ls hw hk89 hP hS hl
      rw [wX1_putCopy_L2] at hw
      have hD : va_D (wdA 36 q) (xw c q σ) := xw_D hD0
      refine lv_iload_n hx hb dX1_putCopy_2 rfl (lv_at hl 2 rfl) ?_
      refine lv_aload_n hx hb dX1_putCopy_3 rfl (lv_at hl 0 rfl) ?_
      refine va_get (D := D) (ci := 1) (C := RX1) (T := TX1) (N := 12) hx hb htb inX1 hown hK hP 6 (xw_6 c q σ) rfl 1 (by decide) (htb _ tb_132) (fun _ h9 => h9) rfl dX1_putCopy_4 ?_
      refine lv_icmp_ge (tgt := 89) hx hb dX1_putCopy_7 (by decide) (fun c1 => ?_) (fun c1 => ?_)
      · have hw := hw.1 c1
        exact hk89 y2 σ _ _ _ hw hP hS (lv_sub hl [0, 1, 2] rfl)
      · have hw := hw.2 c1
        refine lv_aload_n hx hb dX1_putCopy_10 rfl (lv_at hl 0 rfl) ?_
        refine lv_iload_n hx hb dX1_putCopy_11 rfl (lv_at hl 2 rfl) ?_
        refine lv_iload_n hx hb dX1_putCopy_12 rfl (lv_at hl 1 rfl) ?_
        refine va_calli (va_runV (As := [.int y2, .int z1]) (rest := []) ⟨hx, hb, hml, hown, htb⟩ (kcX1_placeOf_6 l D c q ev hev σ y2 z1 _ hw) (tb_CW htb kX1_placeOf tb_445 tb_446 tb_447 ⟨Nat.le_of_ble_eq_true rfl, Nat.le_of_ble_eq_true rfl⟩) (wd_preV (wd := xw c q) (k := 6) hev hK hP hD hE hS (xw_6 c q σ) rfl) rfl rfl hl.1 rfl (lv_room (Nat.le_of_ble_eq_true rfl)) dX1_putCopy_13 ⟨Nat.zero_le _, Nat.zero_le _⟩) hS (fun q _ h => h) (fun q h => h) (fun r2 σ3 t H1 locs1 ht hvm hw hB hz1 hk1 hS => ?_)
        have hP : va_P D vwCl (xw c q σ3) H1 := ht ▸ hB
        have hD : va_D (wdA 36 q) (xw c q σ3) := xw_D hD0
        refine lv_istore_n (lv' := [(3, .int r2), (0, .ref (q 6)), (1, .int z1), (2, .int y2)]) hx hb dX1_putCopy_16 rfl hl (by decide) rfl (fun ls hl => ?_)
        refine lv_iload_n hx hb dX1_putCopy_17 rfl (lv_at hl 0 rfl) ?_
        refine lv_aload_n hx hb dX1_putCopy_18 rfl (lv_at hl 1 rfl) ?_
        refine lv_iload_n hx hb dX1_putCopy_19 rfl (lv_at hl 3 rfl) ?_
        refine lv_iload_n hx hb dX1_putCopy_20 rfl (lv_at hl 0 rfl) ?_
        refine va_calli (va_runV (As := [.int y2, .int r2]) (rest := [.int r2]) ⟨hx, hb, hml, hown, htb⟩ (kcX1_groupSize_6 l D c q ev hev σ3 y2 r2 _ hw) (tb_CW htb kX1_groupSize tb_1088 tb_554 tb_555 ⟨Nat.le_of_ble_eq_true rfl, Nat.le_of_ble_eq_true rfl⟩) (wd_preV (wd := xw c q) (k := 6) hev hK hP hD hE hS (xw_6 c q σ3) rfl) rfl rfl hl.1 rfl (lv_room (Nat.le_of_ble_eq_true rfl)) dX1_putCopy_21 ⟨Nat.zero_le _, Nat.zero_le _⟩) hS (fun q _ h => h) (fun q h => h) (fun r4 σ5 t H1 locs1 ht hvm hw hB hz1 hk1 hS => ?_)
        have hP : va_P D vwCl (xw c q σ5) H1 := ht ▸ hB
        have hD : va_D (wdA 36 q) (xw c q σ5) := xw_D hD0
        refine lv_iadd hx hb dX1_putCopy_24 ?_
        refine lv_topi (fun v6 ev6 => ?_)
        have hw := hw v6 ev6
        refine lv_istore (lv' := [(4, .int v6), (3, .int r2), (0, .ref (q 6)), (1, .int z1), (2, .int y2)]) hx hb dX1_putCopy_25 hl (by decide) rfl (fun ls hl => ?_)
        refine lv_iconst (v := (0 : Int32)) hx hb dX1_putCopy_27 (by decide) ?_
        refine lv_istore (lv' := [(5, .int (0 : Int32)), (4, .int v6), (3, .int r2), (0, .ref (q 6)), (1, .int z1), (2, .int y2)]) hx hb dX1_putCopy_28 hl (by decide) rfl (fun ls hl => ?_)
        obtain ⟨n17, hw⟩ := hw
        refine L30 _ z1 y2 r2 v6 n17 (0 : Int32) σ5 _ _ _ hw ?_ hP hS (lv_sub hl [3, 4, 5, 2, 1, 0] rfl)
        intro v18 σ19 H locs ls hw hP hS hl
        have hD : va_D (wdA 36 q) (xw c q σ19) := xw_D hD0
        refine lv_aload_n hx hb dX1_putCopy_72 rfl (lv_at hl 0 rfl) ?_
        refine lv_iload_n hx hb dX1_putCopy_73 rfl (lv_at hl 2 rfl) ?_
        refine lv_aload_n hx hb dX1_putCopy_74 rfl (lv_at hl 0 rfl) ?_
        refine va_get (D := D) (ci := 1) (C := RX1) (T := TX1) (N := 12) hx hb htb inX1 hown hK hP 6 (xw_6 c q σ19) rfl 0 (by decide) (htb _ tb_126) (fun _ h9 => h9) rfl dX1_putCopy_75 ?_
        refine lv_iload hx hb dX1_putCopy_78 (lv_at hl 4 rfl) ?_
        refine va_callv (va_runV (As := [.int y2, .int (σ19.1 384), .int v6]) (rest := []) ⟨hx, hb, hml, hown, htb⟩ (kcX1_putPlace_6 l D c q ev hev σ19 y2 (σ19.1 384) v6 _ hw) (tb_CW htb kX1_putPlace tb_1029 tb_599 tb_600 ⟨Nat.le_of_ble_eq_true rfl, Nat.le_of_ble_eq_true rfl⟩) (wd_preV (wd := xw c q) (k := 6) hev hK hP hD hE hS (xw_6 c q σ19) rfl) rfl rfl hl.1 rfl (lv_room (Nat.le_of_ble_eq_true rfl)) dX1_putCopy_80 ⟨Nat.zero_le _, Nat.zero_le _⟩) hS (fun q _ h => h) (fun q h => h) (fun σ21 t H1 locs1 ht hvm hw hB hz1 hk1 hS => ?_)
        have hP : va_P D vwCl (xw c q σ21) H1 := ht ▸ hB
        have hD : va_D (wdA 36 q) (xw c q σ21) := xw_D hD0
        obtain ⟨v22, ev22⟩ : ∃ z : Int32, z = y2 + (1 : Int32) := ⟨_, rfl⟩
        have hw := hw v22 ev22
        refine lv_iinc (v := v22) (lv' := [(2, .int v22), (0, .ref (q 6)), (1, .int z1), (3, .int r2), (4, .int v6), (5, .int v18)]) hx hb dX1_putCopy_83 hl (k := 2) rfl (by rw [ev22]; rfl) (by decide) rfl (fun ls hl => ?_)
        refine lv_goto (tgt := 2) hx hb dX1_putCopy_86 (by decide) ?_
        exact ih v22 σ21 _ _ _ hw hk89 hP hS (lv_sub hl [1, 2, 0] rfl)
  have hl := lv_entry ([.ref (q 6), .int x1]) (n := 6) (Nat.le_of_ble_eq_true rfl)
  rw [lg_entry_eq]
  generalize (lg_sl ([.ref (q 6), .int x1]) ++ List.replicate (6 - (lg_sl ([.ref (q 6), .int x1])).length) Slot.unset).toArray = ls at hl ⊢
  have hl : lv_has ls 6 [(0, .ref (q 6)), (1, .int x1)] := hl
  unfold wX1_putCopy at hw
  refine lv_iconst (v := (0 : Int32)) hx hb dX1_putCopy_0 (by decide) ?_
  refine lv_istore_n (lv' := [(2, .int (0 : Int32)), (0, .ref (q 6)), (1, .int x1)]) hx hb dX1_putCopy_1 rfl hl (by decide) rfl (fun ls hl => ?_)
  obtain ⟨n23, hw⟩ := hw
  refine L2 _ x1 n23 (0 : Int32) σ _ _ _ hw ?_ hP hS (lv_sub hl [1, 2, 0] rfl)
  intro v24 σ25 H locs ls hw hP hS hl
  have hD : va_D (wdA 36 q) (xw c q σ25) := xw_D hD0
  refine lv_aload_n hx hb dX1_putCopy_89 rfl (lv_at hl 0 rfl) ?_
  refine lv_dup hx hb dX1_putCopy_90 rfl ?_
  refine va_get (D := D) (ci := 1) (C := RX1) (T := TX1) (N := 12) hx hb htb inX1 hown hK hP 6 (xw_6 c q σ25) rfl 0 (by decide) (htb _ tb_126) (fun _ h9 => h9) rfl dX1_putCopy_91 ?_
  refine lv_iconst (v := (1 : Int32)) hx hb dX1_putCopy_94 (by decide) ?_
  refine lv_iadd hx hb dX1_putCopy_95 ?_
  refine va_put (D := D) (ci := 1) (ty := .int) (C := RX1) (T := TX1) (N := 12) hx hb htb inX1 tyX1 tyX1_ok nmX1 hown hK hP hD hS 6 (xw_6 c q σ25) rfl 0 (by decide) (htb _ tb_126) (fun _ h9 => h9) rfl (by decide +kernel) rfl rfl (Nat.le_of_ble_eq_true rfl) dX1_putCopy_96 (fun H locs hP hD hS => ?_)
  have hP : va_P D vwCl (xw c q (hsI σ25 384 ((σ25.1 384) + (1 : Int32)))) H := hP
  obtain ⟨σ26, eσ26⟩ : ∃ z : hsS, z = hsI σ25 384 ((σ25.1 384) + (1 : Int32)) := ⟨_, rfl⟩
  rw [← eσ26] at hP
  have hD : va_D (wdA 36 q) (xw c q σ26) := xw_D hD0
  have hw := hw σ26 eσ26
  exact W.vret hx hb hr (fun t ht hW => ⟨⟨σ26, rfl, hw, by unfold wdB; rw [ht]; exact hP⟩, hS.F ht⟩) hS.2.2 dX1_putCopy_99
set_option maxHeartbeats 4000000 in
set_option maxRecDepth 100000 in
theorem kcX1_allPeople_6 (l : Launch) (D : va_G) (c : Nat → ClassId) (q : Nat → Nat) (ev : State → Heap → Prop) (hev : evOK (wdA 36 q) ev) (σ : hsS)  (post : Int32 → hsS → Prop) (hw : wX1_allPeople 6 post σ) : Met l yX1_allPeople (Cond.code yX1_allPeople cX1_allPeople 1 (some .int) :: tb_L) { frames := 0, cells := 0, slots := 0, locals := 0 } (wdPc D (xw c q) (xwT c) (wdA 36 q) ev σ [.ref (q 6)]) (va_Qi post (wdB D (xw c q)) (wdA 36 q)) 0 0 (wdA 36 q) := by
  refine Met.ofW (cc := cX1_allPeople) (maxL := 1) (ret := (some .int)) (by decide) rfl ?_
  intro p e s m args below meth c₀ s₁ Bd hml hv
  obtain ⟨rfl, hP, hK, hD0, hE⟩ := hv
  have hx := Bd.exec
  have hb := Bd.bytes
  have hr := Bd.returns
  have hts := atoms_spec (ws := Cond.code yX1_allPeople cX1_allPeople 1 (some .int) :: tb_L) Bd.pre
  have htb : ∀ w ∈ tb_L, w.before [.ref (q 6)].toArray s = true := fun w h => hts w (List.mem_cons_of_mem _ h)
  have hown : s.vm.findClass RX1 = some m.cls := findClass_of_methodNamed Bd.named
  have hlocks := Bd.notSynchronized
  have hS : va_S (wdA 36 q) s.heap s.heap [] := va_S.rf
  have hD := hD0
  have hl := lv_entry ([.ref (q 6)]) (n := 1) (Nat.le_of_ble_eq_true rfl)
  rw [lg_entry_eq]
  generalize (lg_sl ([.ref (q 6)]) ++ List.replicate (1 - (lg_sl ([.ref (q 6)])).length) Slot.unset).toArray = ls at hl ⊢
  have hl : lv_has ls 1 [(0, .ref (q 6))] := hl
  unfold wX1_allPeople at hw
  refine lv_iconst (v := (1 : Int32)) hx hb dX1_allPeople_0 (by decide) ?_
  refine lv_aload_n hx hb dX1_allPeople_1 rfl (lv_at hl 0 rfl) ?_
  refine va_get (D := D) (ci := 1) (C := RX1) (T := TX1) (N := 12) hx hb htb inX1 hown hK hP 6 (xw_6 c q σ) rfl 1 (by decide) (htb _ tb_132) (fun _ h9 => h9) rfl dX1_allPeople_2 ?_
  refine lv_ishl hx hb dX1_allPeople_5 ?_
  refine lv_iconst (v := (1 : Int32)) hx hb dX1_allPeople_6 (by decide) ?_
  refine lv_isub hx hb dX1_allPeople_7 ?_
  exact W.iret hx hb hr (fun t ht hW => ⟨⟨_, σ, rfl, hw, by unfold wdB; rw [ht]; exact hP⟩, hS.F ht⟩) hS.2.2 dX1_allPeople_8
set_option maxHeartbeats 4000000 in
set_option maxRecDepth 100000 in
theorem kcX1_weightOf_6 (l : Launch) (D : va_G) (c : Nat → ClassId) (q : Nat → Nat) (ev : State → Heap → Prop) (hev : evOK (wdA 36 q) ev) (σ : hsS) (x1 : Int32) (post : Int32 → hsS → Prop) (hw : wX1_weightOf 6 x1 post σ) : Met l yX1_weightOf (Cond.code yX1_weightOf cX1_weightOf 4 (some .int) :: tb_L) { frames := 0, cells := 0, slots := 0, locals := 0 } (wdPc D (xw c q) (xwT c) (wdA 36 q) ev σ [.ref (q 6), .int x1]) (va_Qi post (wdB D (xw c q)) (wdA 36 q)) 0 0 (wdA 36 q) := by
  refine Met.ofW (cc := cX1_weightOf) (maxL := 4) (ret := (some .int)) (by decide) rfl ?_
  intro p e s m args below meth c₀ s₁ Bd hml hv
  obtain ⟨rfl, hP, hK, hD0, hE⟩ := hv
  have hx := Bd.exec
  have hb := Bd.bytes
  have hr := Bd.returns
  have hts := atoms_spec (ws := Cond.code yX1_weightOf cX1_weightOf 4 (some .int) :: tb_L) Bd.pre
  have htb : ∀ w ∈ tb_L, w.before [.ref (q 6), .int x1].toArray s = true := fun w h => hts w (List.mem_cons_of_mem _ h)
  have hown : s.vm.findClass RX1 = some m.cls := findClass_of_methodNamed Bd.named
  have hlocks := Bd.notSynchronized
  have hS : va_S (wdA 36 q) s.heap s.heap [] := va_S.rf
  have hD := hD0
  have L4 : ∀ (K36 : Int32 → Int32 → hsS → Prop) (z1 : Int32) (n : Nat) (y2 : Int32) (y3 : Int32) (σ : hsS) (H : Heap) (locs : List Loc) (ls : Array Slot), wX1_weightOf_L4 6 z1 K36 post n y2 y3 σ → (∀ (y2 : Int32) (y3 : Int32) (σ : hsS) (H : Heap) (locs : List Loc) (ls : Array Slot), K36 y2 y3 σ → va_P D vwCl (xw c q σ) H → va_S (wdA 36 q) s.heap H locs → lv_has ls 4 [(0, .ref (q 6)), (1, .int z1), (2, .int y2), (3, .int y3)] → W p l e (headSpec (Cond.code yX1_weightOf cX1_weightOf 4 (some .int) :: tb_L) { frames := 0, cells := 0, slots := 0, locals := 0 }).room s m [.ref (q 6), .int x1].toArray below meth c₀ H locs 0 0 (MQ below (va_Qi post (wdB D (xw c q)) (wdA 36 q)) [.ref (q 6), .int x1].toArray s 0 0 (wdA 36 q)) (F0 m 36 ls [])) → va_P D vwCl (xw c q σ) H → va_S (wdA 36 q) s.heap H locs → lv_has ls 4 [(0, .ref (q 6)), (1, .int z1), (2, .int y2), (3, .int y3)] → W p l e (headSpec (Cond.code yX1_weightOf cX1_weightOf 4 (some .int) :: tb_L) { frames := 0, cells := 0, slots := 0, locals := 0 }).room s m [.ref (q 6), .int x1].toArray below meth c₀ H locs 0 0 (MQ below (va_Qi post (wdB D (xw c q)) (wdA 36 q)) [.ref (q 6), .int x1].toArray s 0 0 (wdA 36 q)) (F0 m 4 ls []) := by
    intro K36 z1 n
    induction n with
    | zero =>
      intro y2 y3 σ H locs ls hw hk36 hP hS hl
      exact (show False from hw).elim
    | succ n ih =>
      intro y2 y3 σ H locs ls hw hk36 hP hS hl
      rw [wX1_weightOf_L4] at hw
      have hD : va_D (wdA 36 q) (xw c q σ) := xw_D hD0
      refine lv_iload_n hx hb dX1_weightOf_4 rfl (lv_at hl 3 rfl) ?_
      refine lv_aload_n hx hb dX1_weightOf_5 rfl (lv_at hl 0 rfl) ?_
      refine va_get (D := D) (ci := 1) (C := RX1) (T := TX1) (N := 12) hx hb htb inX1 hown hK hP 6 (xw_6 c q σ) rfl 1 (by decide) (htb _ tb_132) (fun _ h9 => h9) rfl dX1_weightOf_6 ?_
      refine lv_icmp_ge (tgt := 36) hx hb dX1_weightOf_9 (by decide) (fun c1 => ?_) (fun c1 => ?_)
      · have hw := hw.1 c1
        exact hk36 y2 y3 σ _ _ _ hw hP hS (lv_sub hl [0, 1, 2, 3] rfl)
      · have hw := hw.2 c1
        refine lv_iload_n hx hb dX1_weightOf_12 rfl (lv_at hl 1 rfl) ?_
        refine lv_iload_n hx hb dX1_weightOf_13 rfl (lv_at hl 3 rfl) ?_
        refine lv_ishr hx hb dX1_weightOf_14 ?_
        refine lv_iconst (v := (1 : Int32)) hx hb dX1_weightOf_15 (by decide) ?_
        refine lv_iand hx hb dX1_weightOf_16 ?_
        refine lv_iconst (v := (1 : Int32)) hx hb dX1_weightOf_17 (by decide) ?_
        refine lv_icmp_ne (tgt := 30) hx hb dX1_weightOf_18 (by decide) (fun c2 => ?_) (fun c2 => ?_)
        · have hw := hw.2 c2
          obtain ⟨v5, ev5⟩ : ∃ z : Int32, z = y3 + (1 : Int32) := ⟨_, rfl⟩
          have hw := hw v5 ev5
          refine lv_iinc (v := v5) (lv' := [(3, .int v5), (0, .ref (q 6)), (1, .int z1), (2, .int y2)]) hx hb dX1_weightOf_30 hl (k := 3) rfl (by rw [ev5]; rfl) (by decide) rfl (fun ls hl => ?_)
          refine lv_goto (tgt := 4) hx hb dX1_weightOf_33 (by decide) ?_
          exact ih y2 v5 σ _ _ _ hw hk36 hP hS (lv_sub hl [1, 2, 3, 0] rfl)
        · have hw := hw.1 c2
          refine lv_iload_n hx hb dX1_weightOf_21 rfl (lv_at hl 2 rfl) ?_
          refine lv_aload_n hx hb dX1_weightOf_22 rfl (lv_at hl 0 rfl) ?_
          refine va_get (D := D) (ci := 1) (C := RX1) (T := TX1) (N := 12) hx hb htb inX1 hown hK hP 6 (xw_6 c q σ) rfl 8 (by decide) (htb _ tb_156) (fun _ h9 => h9) rfl dX1_weightOf_23 ?_
          refine lv_iload_n hx hb dX1_weightOf_26 rfl (lv_at hl 3 rfl) ?_
          refine va_iald hx hb hK hP 7 4 (xw_7 c q σ) rfl hw.1 dX1_weightOf_27 ?_
          have hw := hw.2
          refine lv_iadd hx hb dX1_weightOf_28 ?_
          refine lv_topi (fun v3 ev3 => ?_)
          have hw := hw v3 ev3
          refine lv_istore_n (lv' := [(2, .int v3), (0, .ref (q 6)), (1, .int z1), (3, .int y3)]) hx hb dX1_weightOf_29 rfl hl (by decide) rfl (fun ls hl => ?_)
          obtain ⟨v4, ev4⟩ : ∃ z : Int32, z = y3 + (1 : Int32) := ⟨_, rfl⟩
          have hw := hw v4 ev4
          refine lv_iinc (v := v4) (lv' := [(3, .int v4), (2, .int v3), (0, .ref (q 6)), (1, .int z1)]) hx hb dX1_weightOf_30 hl (k := 3) rfl (by rw [ev4]; rfl) (by decide) rfl (fun ls hl => ?_)
          refine lv_goto (tgt := 4) hx hb dX1_weightOf_33 (by decide) ?_
          exact ih v3 v4 σ _ _ _ hw hk36 hP hS (lv_sub hl [2, 3, 1, 0] rfl)
  have hl := lv_entry ([.ref (q 6), .int x1]) (n := 4) (Nat.le_of_ble_eq_true rfl)
  rw [lg_entry_eq]
  generalize (lg_sl ([.ref (q 6), .int x1]) ++ List.replicate (4 - (lg_sl ([.ref (q 6), .int x1])).length) Slot.unset).toArray = ls at hl ⊢
  have hl : lv_has ls 4 [(0, .ref (q 6)), (1, .int x1)] := hl
  unfold wX1_weightOf at hw
  refine lv_iconst (v := (0 : Int32)) hx hb dX1_weightOf_0 (by decide) ?_
  refine lv_istore_n (lv' := [(2, .int (0 : Int32)), (0, .ref (q 6)), (1, .int x1)]) hx hb dX1_weightOf_1 rfl hl (by decide) rfl (fun ls hl => ?_)
  refine lv_iconst (v := (0 : Int32)) hx hb dX1_weightOf_2 (by decide) ?_
  refine lv_istore_n (lv' := [(3, .int (0 : Int32)), (2, .int (0 : Int32)), (0, .ref (q 6)), (1, .int x1)]) hx hb dX1_weightOf_3 rfl hl (by decide) rfl (fun ls hl => ?_)
  obtain ⟨n6, hw⟩ := hw
  refine L4 _ x1 n6 (0 : Int32) (0 : Int32) σ _ _ _ hw ?_ hP hS (lv_sub hl [2, 3, 1, 0] rfl)
  intro v7 v8 σ9 H locs ls hw hP hS hl
  have hD : va_D (wdA 36 q) (xw c q σ9) := xw_D hD0
  refine lv_iload_n hx hb dX1_weightOf_36 rfl (lv_at hl 2 rfl) ?_
  exact W.iret hx hb hr (fun t ht hW => ⟨⟨_, σ9, rfl, hw, by unfold wdB; rw [ht]; exact hP⟩, hS.F ht⟩) hS.2.2 dX1_weightOf_37
set_option maxHeartbeats 4000000 in
set_option maxRecDepth 100000 in
theorem kcX1_lawGives_6 (l : Launch) (D : va_G) (c : Nat → ClassId) (q : Nat → Nat) (ev : State → Heap → Prop) (hev : evOK (wdA 36 q) ev) (σ : hsS) (x1 : Int32) (post : Int32 → hsS → Prop) (hw : wX1_lawGives 6 x1 post σ) : Met l yX1_lawGives (Cond.code yX1_lawGives cX1_lawGives 2 (some .int) :: tb_L) { frames := 1, cells := 0, slots := 0, locals := 40 } (wdPc D (xw c q) (xwT c) (wdA 36 q) ev σ [.ref (q 6), .int x1]) (va_Qi post (wdB D (xw c q)) (wdA 36 q)) 0 0 (wdA 36 q) := by
  refine Met.ofW (cc := cX1_lawGives) (maxL := 2) (ret := (some .int)) (by decide) rfl ?_
  intro p e s m args below meth c₀ s₁ Bd hml hv
  obtain ⟨rfl, hP, hK, hD0, hE⟩ := hv
  have hx := Bd.exec
  have hb := Bd.bytes
  have hr := Bd.returns
  have hts := atoms_spec (ws := Cond.code yX1_lawGives cX1_lawGives 2 (some .int) :: tb_L) Bd.pre
  have htb : ∀ w ∈ tb_L, w.before [.ref (q 6), .int x1].toArray s = true := fun w h => hts w (List.mem_cons_of_mem _ h)
  have hown : s.vm.findClass RX1 = some m.cls := findClass_of_methodNamed Bd.named
  have hlocks := Bd.notSynchronized
  have hS : va_S (wdA 36 q) s.heap s.heap [] := va_S.rf
  have hD := hD0
  have hl := lv_entry ([.ref (q 6), .int x1]) (n := 2) (Nat.le_of_ble_eq_true rfl)
  rw [lg_entry_eq]
  generalize (lg_sl ([.ref (q 6), .int x1]) ++ List.replicate (2 - (lg_sl ([.ref (q 6), .int x1])).length) Slot.unset).toArray = ls at hl ⊢
  have hl : lv_has ls 2 [(0, .ref (q 6)), (1, .int x1)] := hl
  unfold wX1_lawGives at hw
  refine lv_aload_n hx hb dX1_lawGives_0 rfl (lv_at hl 0 rfl) ?_
  refine va_get (D := D) (ci := 1) (C := RX1) (T := TX1) (N := 12) hx hb htb inX1 hown hK hP 6 (xw_6 c q σ) rfl 3 (by decide) (htb _ tb_141) (fun _ h9 => h9) rfl dX1_lawGives_1 ?_
  by_cases c4 : σ.1 387 = (1 : Int32)
  · have hw := hw.1 c4
    refine lv_lookup (off := 28) (tgt := 32) hx hb dX1_lawGives_4 (by decide) (by rw [c4]; rfl) (by decide) ?_
    refine lv_aload_n hx hb dX1_lawGives_32 rfl (lv_at hl 0 rfl) ?_
    refine va_get (D := D) (ci := 1) (C := RX1) (T := TX1) (N := 12) hx hb htb inX1 hown hK hP 6 (xw_6 c q σ) rfl 4 (by decide) (htb _ tb_144) (fun _ h9 => h9) rfl dX1_lawGives_33 ?_
    refine lv_if_le (tgt := 52) hx hb dX1_lawGives_36 (by decide) (fun c1 => ?_) (fun c1 => ?_)
    · have hw := hw.1 c1
      refine lv_iconst (v := (0 : Int32)) hx hb dX1_lawGives_52 (by decide) ?_
      exact W.iret hx hb hr (fun t ht hW => ⟨⟨_, σ, rfl, hw, by unfold wdB; rw [ht]; exact hP⟩, hS.F ht⟩) hS.2.2 dX1_lawGives_53
    · have hw := hw.2 c1
      refine lv_aload_n hx hb dX1_lawGives_39 rfl (lv_at hl 0 rfl) ?_
      refine lv_iload_n hx hb dX1_lawGives_40 rfl (lv_at hl 1 rfl) ?_
      refine va_calli (va_runV (As := [.int x1]) (rest := []) ⟨hx, hb, hml, hown, htb⟩ (kcX1_weightOf_6 l D c q ev hev σ x1 _ hw) (tb_CW htb kX1_weightOf tb_402 tb_403 tb_404 ⟨Nat.le_of_ble_eq_true rfl, Nat.le_of_ble_eq_true rfl⟩) (wd_preV (wd := xw c q) (k := 6) hev hK hP hD hE hS (xw_6 c q σ) rfl) rfl rfl hl.1 rfl (lv_room (Nat.le_of_ble_eq_true rfl)) dX1_lawGives_41 ⟨Nat.zero_le _, Nat.zero_le _⟩) hS (fun q _ h => h) (fun q h => h) (fun r2 σ3 t H1 locs1 ht hvm hw hB hz1 hk1 hS => ?_)
      have hP : va_P D vwCl (xw c q σ3) H1 := ht ▸ hB
      have hD : va_D (wdA 36 q) (xw c q σ3) := xw_D hD0
      refine lv_aload_n hx hb dX1_lawGives_44 rfl (lv_at hl 0 rfl) ?_
      refine va_get (D := D) (ci := 1) (C := RX1) (T := TX1) (N := 12) hx hb htb inX1 hown hK hP 6 (xw_6 c q σ3) rfl 4 (by decide) (htb _ tb_144) (fun _ h9 => h9) rfl dX1_lawGives_45 ?_
      refine lv_idiv hx hb dX1_lawGives_48 hw.1 ?_
      have hw := hw.2
      refine lv_goto (tgt := 53) hx hb dX1_lawGives_49 (by decide) ?_
      exact W.iret hx hb hr (fun t ht hW => ⟨⟨_, σ3, rfl, hw, by unfold wdB; rw [ht]; exact hP⟩, hS.F ht⟩) hS.2.2 dX1_lawGives_53
  · have hw := hw.2 c4
    by_cases c8 : σ.1 387 = (2 : Int32)
    · have hw := hw.1 c8
      refine lv_lookup (off := 50) (tgt := 54) hx hb dX1_lawGives_4 (by decide) (by rw [c8]; rfl) (by decide) ?_
      refine lv_aload_n hx hb dX1_lawGives_54 rfl (lv_at hl 0 rfl) ?_
      refine va_get (D := D) (ci := 1) (C := RX1) (T := TX1) (N := 12) hx hb htb inX1 hown hK hP 6 (xw_6 c q σ) rfl 5 (by decide) (htb _ tb_146) (fun _ h9 => h9) rfl dX1_lawGives_55 ?_
      refine lv_if_le (tgt := 82) hx hb dX1_lawGives_58 (by decide) (fun c5 => ?_) (fun c5 => ?_)
      · have hw := hw.1 c5
        refine lv_iconst (v := (0 : Int32)) hx hb dX1_lawGives_82 (by decide) ?_
        exact W.iret hx hb hr (fun t ht hW => ⟨⟨_, σ, rfl, hw, by unfold wdB; rw [ht]; exact hP⟩, hS.F ht⟩) hS.2.2 dX1_lawGives_83
      · have hw := hw.2 c5
        refine lv_aload_n hx hb dX1_lawGives_61 rfl (lv_at hl 0 rfl) ?_
        refine va_get (D := D) (ci := 1) (C := RX1) (T := TX1) (N := 12) hx hb htb inX1 hown hK hP 6 (xw_6 c q σ) rfl 10 (by decide) (htb _ tb_159) (fun _ h9 => h9) rfl dX1_lawGives_62 ?_
        refine lv_iload_n hx hb dX1_lawGives_65 rfl (lv_at hl 1 rfl) ?_
        refine va_calli (va_runS (As := [.int x1]) (rest := [.ref (q 9)]) ⟨hx, hb, hml, hown, htb⟩ (kcJ6_bitCount_0f7a4_x l D c q ev hev σ x1 _ hw) (tb_CS htb kJ6_bitCount_0f7a4 tb_406 tb_407 ⟨Nat.le_of_ble_eq_true rfl, Nat.le_of_ble_eq_true rfl⟩) (wd_preS (wd := xw c q) hev hK hP hD hE hS) rfl rfl hl.1 rfl (lv_room (Nat.le_of_ble_eq_true rfl)) dX1_lawGives_66 ⟨Nat.zero_le _, Nat.zero_le _⟩) hS (fun q _ h => h) (fun q h => h) (fun r6 σ7 t H1 locs1 ht hvm hw hB hz1 hk1 hS => ?_)
        have hP : va_P D vwCl (xw c q σ7) H1 := ht ▸ hB
        have hD : va_D (wdA 36 q) (xw c q σ7) := xw_D hD0
        refine lv_aload_n hx hb dX1_lawGives_69 rfl (lv_at hl 0 rfl) ?_
        refine va_get (D := D) (ci := 1) (C := RX1) (T := TX1) (N := 12) hx hb htb inX1 hown hK hP 6 (xw_6 c q σ7) rfl 5 (by decide) (htb _ tb_146) (fun _ h9 => h9) rfl dX1_lawGives_70 ?_
        refine va_mmin hx hb (hml.trans hl.1.symm) hown (htb _ tb_412) (htb _ tb_413) (htb _ tb_104) (htb _ tb_414) (Nat.le_of_ble_eq_true rfl) (Nat.le_of_ble_eq_true rfl) (Nat.zero_le _) (Nat.zero_le _) dX1_lawGives_73 ?_
        refine lv_iconst (v := (1 : Int32)) hx hb dX1_lawGives_76 (by decide) ?_
        refine lv_isub hx hb dX1_lawGives_77 ?_
        refine va_iald hx hb hK hP 9 6 (xw_9 c q σ7) rfl hw.1 dX1_lawGives_78 ?_
        have hw := hw.2
        refine lv_goto (tgt := 83) hx hb dX1_lawGives_79 (by decide) ?_
        exact W.iret hx hb hr (fun t ht hW => ⟨⟨_, σ7, rfl, hw, by unfold wdB; rw [ht]; exact hP⟩, hS.F ht⟩) hS.2.2 dX1_lawGives_83
    · have hw := hw.2 c8
      refine lv_lookup (off := 80) (tgt := 84) hx hb dX1_lawGives_4 (by decide) (by show Op.lookupswitch.offset [(1, 28), (2, 50)] 80 _ = _; rw [lv_osw (a := 1) c4 rfl, lv_osw (a := 2) c8 rfl]; rfl) (by decide) ?_
      refine lv_aload_n hx hb dX1_lawGives_84 rfl (lv_at hl 0 rfl) ?_
      refine va_get (D := D) (ci := 1) (C := RX1) (T := TX1) (N := 12) hx hb htb inX1 hown hK hP 6 (xw_6 c q σ) rfl 2 (by decide) (htb _ tb_138) (fun _ h9 => h9) rfl dX1_lawGives_85 ?_
      refine lv_if_le (tgt := 118) hx hb dX1_lawGives_88 (by decide) (fun c9 => ?_) (fun c9 => ?_)
      · have hw := hw.1 c9
        refine lv_iconst (v := (0 : Int32)) hx hb dX1_lawGives_118 (by decide) ?_
        exact W.iret hx hb hr (fun t ht hW => ⟨⟨_, σ, rfl, hw, by unfold wdB; rw [ht]; exact hP⟩, hS.F ht⟩) hS.2.2 dX1_lawGives_119
      · have hw := hw.2 c9
        refine lv_aload_n hx hb dX1_lawGives_91 rfl (lv_at hl 0 rfl) ?_
        refine va_get (D := D) (ci := 1) (C := RX1) (T := TX1) (N := 12) hx hb htb inX1 hown hK hP 6 (xw_6 c q σ) rfl 0 (by decide) (htb _ tb_126) (fun _ h9 => h9) rfl dX1_lawGives_92 ?_
        refine lv_aload_n hx hb dX1_lawGives_95 rfl (lv_at hl 0 rfl) ?_
        refine lv_iload_n hx hb dX1_lawGives_96 rfl (lv_at hl 1 rfl) ?_
        refine va_calli (va_runV (As := [.int x1]) (rest := [.int (σ.1 384)]) ⟨hx, hb, hml, hown, htb⟩ (kcX1_weightOf_6 l D c q ev hev σ x1 _ hw) (tb_CW htb kX1_weightOf tb_402 tb_403 tb_404 ⟨Nat.le_of_ble_eq_true rfl, Nat.le_of_ble_eq_true rfl⟩) (wd_preV (wd := xw c q) (k := 6) hev hK hP hD hE hS (xw_6 c q σ) rfl) rfl rfl hl.1 rfl (lv_room (Nat.le_of_ble_eq_true rfl)) dX1_lawGives_97 ⟨Nat.zero_le _, Nat.zero_le _⟩) hS (fun q _ h => h) (fun q h => h) (fun r10 σ11 t H1 locs1 ht hvm hw hB hz1 hk1 hS => ?_)
        have hP : va_P D vwCl (xw c q σ11) H1 := ht ▸ hB
        have hD : va_D (wdA 36 q) (xw c q σ11) := xw_D hD0
        refine lv_imul hx hb dX1_lawGives_100 ?_
        refine lv_aload_n hx hb dX1_lawGives_101 rfl (lv_at hl 0 rfl) ?_
        refine va_get (D := D) (ci := 1) (C := RX1) (T := TX1) (N := 12) hx hb htb inX1 hown hK hP 6 (xw_6 c q σ11) rfl 2 (by decide) (htb _ tb_138) (fun _ h9 => h9) rfl dX1_lawGives_102 ?_
        refine lv_iadd hx hb dX1_lawGives_105 ?_
        refine lv_iconst (v := (1 : Int32)) hx hb dX1_lawGives_106 (by decide) ?_
        refine lv_isub hx hb dX1_lawGives_107 ?_
        refine lv_aload_n hx hb dX1_lawGives_108 rfl (lv_at hl 0 rfl) ?_
        refine va_get (D := D) (ci := 1) (C := RX1) (T := TX1) (N := 12) hx hb htb inX1 hown hK hP 6 (xw_6 c q σ11) rfl 2 (by decide) (htb _ tb_138) (fun _ h9 => h9) rfl dX1_lawGives_109 ?_
        refine lv_idiv hx hb dX1_lawGives_112 hw.1 ?_
        have hw := hw.2
        refine lv_iconst (v := (1 : Int32)) hx hb dX1_lawGives_113 (by decide) ?_
        refine lv_isub hx hb dX1_lawGives_114 ?_
        refine lv_goto (tgt := 119) hx hb dX1_lawGives_115 (by decide) ?_
        exact W.iret hx hb hr (fun t ht hW => ⟨⟨_, σ11, rfl, hw, by unfold wdB; rw [ht]; exact hP⟩, hS.F ht⟩) hS.2.2 dX1_lawGives_119
set_option maxHeartbeats 4000000 in
set_option maxRecDepth 100000 in
theorem kcX1_mayStrike_6 (l : Launch) (D : va_G) (c : Nat → ClassId) (q : Nat → Nat) (ev : State → Heap → Prop) (hev : evOK (wdA 36 q) ev) (σ : hsS) (x1 : Int32) (post : Int32 → hsS → Prop) (hw : wX1_mayStrike 6 x1 post σ) : Met l yX1_mayStrike (Cond.code yX1_mayStrike cX1_mayStrike 3 (some .int) :: tb_L) { frames := 2, cells := 0, slots := 0, locals := 61 } (wdPc D (xw c q) (xwT c) (wdA 36 q) ev σ [.ref (q 6), .int x1]) (va_Qi post (wdB D (xw c q)) (wdA 36 q)) 0 0 (wdA 36 q) := by
  refine Met.ofW (cc := cX1_mayStrike) (maxL := 3) (ret := (some .int)) (by decide) rfl ?_
  intro p e s m args below meth c₀ s₁ Bd hml hv
  obtain ⟨rfl, hP, hK, hD0, hE⟩ := hv
  have hx := Bd.exec
  have hb := Bd.bytes
  have hr := Bd.returns
  have hts := atoms_spec (ws := Cond.code yX1_mayStrike cX1_mayStrike 3 (some .int) :: tb_L) Bd.pre
  have htb : ∀ w ∈ tb_L, w.before [.ref (q 6), .int x1].toArray s = true := fun w h => hts w (List.mem_cons_of_mem _ h)
  have hown : s.vm.findClass RX1 = some m.cls := findClass_of_methodNamed Bd.named
  have hlocks := Bd.notSynchronized
  have hS : va_S (wdA 36 q) s.heap s.heap [] := va_S.rf
  have hD := hD0
  have hl := lv_entry ([.ref (q 6), .int x1]) (n := 3) (Nat.le_of_ble_eq_true rfl)
  rw [lg_entry_eq]
  generalize (lg_sl ([.ref (q 6), .int x1]) ++ List.replicate (3 - (lg_sl ([.ref (q 6), .int x1])).length) Slot.unset).toArray = ls at hl ⊢
  have hl : lv_has ls 3 [(0, .ref (q 6)), (1, .int x1)] := hl
  unfold wX1_mayStrike at hw
  refine lv_iload_n hx hb dX1_mayStrike_0 rfl (lv_at hl 1 rfl) ?_
  refine lv_aload_n hx hb dX1_mayStrike_1 rfl (lv_at hl 0 rfl) ?_
  refine va_calli (va_runV (As := []) (rest := [.int x1]) ⟨hx, hb, hml, hown, htb⟩ (kcX1_allPeople_6 l D c q ev hev σ  _ hw) (tb_CW htb kX1_allPeople tb_394 tb_395 tb_396 ⟨Nat.le_of_ble_eq_true rfl, Nat.le_of_ble_eq_true rfl⟩) (wd_preV (wd := xw c q) (k := 6) hev hK hP hD hE hS (xw_6 c q σ) rfl) rfl rfl hl.1 rfl (lv_room (Nat.le_of_ble_eq_true rfl)) dX1_mayStrike_2 ⟨Nat.zero_le _, Nat.zero_le _⟩) hS (fun q _ h => h) (fun q h => h) (fun r1 σ2 t H1 locs1 ht hvm hw hB hz1 hk1 hS => ?_)
  have hP : va_P D vwCl (xw c q σ2) H1 := ht ▸ hB
  have hD : va_D (wdA 36 q) (xw c q σ2) := xw_D hD0
  refine lv_iand hx hb dX1_mayStrike_5 ?_
  refine lv_topi (fun v3 ev3 => ?_)
  have hw := hw v3 ev3
  refine lv_istore_n (lv' := [(2, .int v3), (0, .ref (q 6)), (1, .int x1)]) hx hb dX1_mayStrike_6 rfl hl (by decide) rfl (fun ls hl => ?_)
  refine lv_iload_n hx hb dX1_mayStrike_7 rfl (lv_at hl 0 rfl) ?_
  refine lv_if_ne (tgt := 13) hx hb dX1_mayStrike_8 (by decide) (fun c4 => ?_) (fun c4 => ?_)
  · have hw := hw.2 c4
    refine lv_aload_n hx hb dX1_mayStrike_13 rfl (lv_at hl 1 rfl) ?_
    refine va_get (D := D) (ci := 1) (C := RX1) (T := TX1) (N := 12) hx hb htb inX1 hown hK hP 6 (xw_6 c q σ2) rfl 0 (by decide) (htb _ tb_126) (fun _ h9 => h9) rfl dX1_mayStrike_14 ?_
    refine lv_iconst (v := (1 : Int32)) hx hb dX1_mayStrike_17 (by decide) ?_
    refine lv_isub hx hb dX1_mayStrike_18 ?_
    refine lv_aload_n hx hb dX1_mayStrike_19 rfl (lv_at hl 1 rfl) ?_
    refine lv_iload_n hx hb dX1_mayStrike_20 rfl (lv_at hl 0 rfl) ?_
    refine va_calli (va_runV (As := [.int v3]) (rest := [.int ((σ2.1 384) - (1 : Int32))]) ⟨hx, hb, hml, hown, htb⟩ (kcX1_lawGives_6 l D c q ev hev σ2 v3 _ hw) (tb_CW htb kX1_lawGives tb_398 tb_400 tb_0 ⟨Nat.le_of_ble_eq_true rfl, Nat.le_of_ble_eq_true rfl⟩) (wd_preV (wd := xw c q) (k := 6) hev hK hP hD hE hS (xw_6 c q σ2) rfl) rfl rfl hl.1 rfl (lv_room (Nat.le_of_ble_eq_true rfl)) dX1_mayStrike_21 ⟨Nat.zero_le _, Nat.zero_le _⟩) hS (fun q _ h => h) (fun q h => h) (fun r5 σ6 t H1 locs1 ht hvm hw hB hz1 hk1 hS => ?_)
    have hP : va_P D vwCl (xw c q σ6) H1 := ht ▸ hB
    have hD : va_D (wdA 36 q) (xw c q σ6) := xw_D hD0
    refine va_mmin hx hb (hml.trans hl.1.symm) hown (htb _ tb_412) (htb _ tb_413) (htb _ tb_104) (htb _ tb_414) (Nat.le_of_ble_eq_true rfl) (Nat.le_of_ble_eq_true rfl) (Nat.zero_le _) (Nat.zero_le _) dX1_mayStrike_24 ?_
    exact W.iret hx hb hr (fun t ht hW => ⟨⟨_, σ6, rfl, hw, by unfold wdB; rw [ht]; exact hP⟩, hS.F ht⟩) hS.2.2 dX1_mayStrike_27
  · have hw := hw.1 c4
    refine lv_iconst (v := (0 : Int32)) hx hb dX1_mayStrike_11 (by decide) ?_
    exact W.iret hx hb hr (fun t ht hW => ⟨⟨_, σ2, rfl, hw, by unfold wdB; rw [ht]; exact hP⟩, hS.F ht⟩) hS.2.2 dX1_mayStrike_12
set_option maxHeartbeats 4000000 in
set_option maxRecDepth 100000 in
theorem kcX4_weigh_18_6 (l : Launch) (D : va_G) (c : Nat → ClassId) (q : Nat → Nat) (ev : State → Heap → Prop) (hev : evOK (wdA 36 q) ev) (σ : hsS)  (post : hsS → Prop) (hw : wX4_weigh 18 6 post σ) : Met l yX4_weigh (Cond.code yX4_weigh cX4_weigh 4 none :: tb_L) { frames := 3, cells := 0, slots := 0, locals := 83 } (wdPc D (xw c q) (xwT c) (wdA 36 q) ev σ [.ref (q 18), .ref (q 6)]) (va_Qv post (wdB D (xw c q)) (wdA 36 q)) 0 0 (wdA 36 q) := by
  refine Met.ofW (cc := cX4_weigh) (maxL := 4) (ret := none) (by decide) rfl ?_
  intro p e s m args below meth c₀ s₁ Bd hml hv
  obtain ⟨rfl, hP, hK, hD0, hE⟩ := hv
  have hx := Bd.exec
  have hb := Bd.bytes
  have hr := Bd.returns
  have hts := atoms_spec (ws := Cond.code yX4_weigh cX4_weigh 4 none :: tb_L) Bd.pre
  have htb : ∀ w ∈ tb_L, w.before [.ref (q 18), .ref (q 6)].toArray s = true := fun w h => hts w (List.mem_cons_of_mem _ h)
  have hown : s.vm.findClass RX4 = some m.cls := findClass_of_methodNamed Bd.named
  have hlocks := Bd.notSynchronized
  have hS : va_S (wdA 36 q) s.heap s.heap [] := va_S.rf
  have hD := hD0
  have L17 : ∀ (K39 : Int32 → hsS → Prop) (z2 : Int32) (n : Nat) (y3 : Int32) (σ : hsS) (H : Heap) (locs : List Loc) (ls : Array Slot), wX4_weigh_L17 18 6 z2 K39 post n y3 σ → (∀ (y3 : Int32) (σ : hsS) (H : Heap) (locs : List Loc) (ls : Array Slot), K39 y3 σ → va_P D vwCl (xw c q σ) H → va_S (wdA 36 q) s.heap H locs → lv_has ls 4 [(0, .ref (q 18)), (1, .ref (q 6)), (2, .int z2), (3, .int y3)] → W p l e (headSpec (Cond.code yX4_weigh cX4_weigh 4 none :: tb_L) { frames := 3, cells := 0, slots := 0, locals := 83 }).room s m [.ref (q 18), .ref (q 6)].toArray below meth c₀ H locs 0 0 (MQ below (va_Qv post (wdB D (xw c q)) (wdA 36 q)) [.ref (q 18), .ref (q 6)].toArray s 0 0 (wdA 36 q)) (F0 m 39 ls [])) → va_P D vwCl (xw c q σ) H → va_S (wdA 36 q) s.heap H locs → lv_has ls 4 [(0, .ref (q 18)), (1, .ref (q 6)), (2, .int z2), (3, .int y3)] → W p l e (headSpec (Cond.code yX4_weigh cX4_weigh 4 none :: tb_L) { frames := 3, cells := 0, slots := 0, locals := 83 }).room s m [.ref (q 18), .ref (q 6)].toArray below meth c₀ H locs 0 0 (MQ below (va_Qv post (wdB D (xw c q)) (wdA 36 q)) [.ref (q 18), .ref (q 6)].toArray s 0 0 (wdA 36 q)) (F0 m 17 ls []) := by
    intro K39 z2 n
    induction n with
    | zero =>
      intro y3 σ H locs ls hw hk39 hP hS hl
      exact (show False from hw).elim
    | succ n ih =>
      intro y3 σ H locs ls hw hk39 hP hS hl
      rw [wX4_weigh_L17] at hw
      have hD : va_D (wdA 36 q) (xw c q σ) := xw_D hD0
      refine lv_iload_n hx hb dX4_weigh_17 rfl (lv_at hl 3 rfl) ?_
      refine lv_iload_n hx hb dX4_weigh_18 rfl (lv_at hl 2 rfl) ?_
      refine lv_icmp_ge (tgt := 39) hx hb dX4_weigh_19 (by decide) (fun c2 => ?_) (fun c2 => ?_)
      · have hw := hw.1 c2
        exact hk39 y3 σ _ _ _ hw hP hS (lv_sub hl [0, 1, 2, 3] rfl)
      · have hw := hw.2 c2
        refine lv_aload_n hx hb dX4_weigh_22 rfl (lv_at hl 0 rfl) ?_
        refine va_get (D := D) (ci := 4) (C := RX4) (T := TX4) (N := 2) hx hb htb inX4 hown hK hP 18 (xw_18 c q σ) rfl 0 (by decide) (htb _ tb_242) (fun _ h9 => h9) rfl dX4_weigh_23 ?_
        refine lv_iload_n hx hb dX4_weigh_26 rfl (lv_at hl 3 rfl) ?_
        refine lv_aload_n hx hb dX4_weigh_27 rfl (lv_at hl 1 rfl) ?_
        refine lv_iload_n hx hb dX4_weigh_28 rfl (lv_at hl 3 rfl) ?_
        refine va_calli (va_runV (As := [.int y3]) (rest := [.int y3, .ref (q 19)]) ⟨hx, hb, hml, hown, htb⟩ (kcX1_mayStrike_6 l D c q ev hev σ y3 _ hw) (tb_CW htb kX1_mayStrike tb_428 tb_391 tb_392 ⟨Nat.le_of_ble_eq_true rfl, Nat.le_of_ble_eq_true rfl⟩) (wd_preV (wd := xw c q) (k := 6) hev hK hP hD hE hS (xw_6 c q σ) rfl) rfl rfl hl.1 rfl (lv_room (Nat.le_of_ble_eq_true rfl)) dX4_weigh_29 ⟨Nat.zero_le _, Nat.zero_le _⟩) hS (fun q _ h => h) (fun q h => h) (fun r3 σ4 t H1 locs1 ht hvm hw hB hz1 hk1 hS => ?_)
        have hP : va_P D vwCl (xw c q σ4) H1 := ht ▸ hB
        have hD : va_D (wdA 36 q) (xw c q σ4) := xw_D hD0
        refine va_iast hx hb hK hP hD hS 19 13 (xw_19 c q σ4) rfl hw.1 dX4_weigh_32 (fun H locs hP hD hS => ?_)
        have hw := hw.2
        have hP : va_P D vwCl (xw c q (hsA σ4 19 (upd (σ4.2.1 19) y3.toNatClampNeg r3))) H := hP
        obtain ⟨σ5, eσ5⟩ : ∃ z : hsS, z = hsA σ4 19 (upd (σ4.2.1 19) y3.toNatClampNeg r3) := ⟨_, rfl⟩
        rw [← eσ5] at hP
        have hD : va_D (wdA 36 q) (xw c q σ5) := xw_D hD0
        have hw := hw σ5 eσ5
        obtain ⟨v6, ev6⟩ : ∃ z : Int32, z = y3 + (1 : Int32) := ⟨_, rfl⟩
        have hw := hw v6 ev6
        refine lv_iinc (v := v6) (lv' := [(3, .int v6), (0, .ref (q 18)), (1, .ref (q 6)), (2, .int z2)]) hx hb dX4_weigh_33 hl (k := 3) rfl (by rw [ev6]; rfl) (by decide) rfl (fun ls hl => ?_)
        refine lv_goto (tgt := 17) hx hb dX4_weigh_36 (by decide) ?_
        exact ih v6 σ5 _ _ _ hw hk39 hP hS (lv_sub hl [1, 2, 3, 0] rfl)
  have hl := lv_entry ([.ref (q 18), .ref (q 6)]) (n := 4) (Nat.le_of_ble_eq_true rfl)
  rw [lg_entry_eq]
  generalize (lg_sl ([.ref (q 18), .ref (q 6)]) ++ List.replicate (4 - (lg_sl ([.ref (q 18), .ref (q 6)])).length) Slot.unset).toArray = ls at hl ⊢
  have hl : lv_has ls 4 [(0, .ref (q 18)), (1, .ref (q 6))] := hl
  unfold wX4_weigh at hw
  refine lv_iconst (v := (1 : Int32)) hx hb dX4_weigh_0 (by decide) ?_
  refine lv_aload_n hx hb dX4_weigh_1 rfl (lv_at hl 1 rfl) ?_
  refine va_getN (D := D) (ci := 1) (C := RX1) (T := TX1) (N := 12) hx hb htb inX1 hown hK hP 6 (xw_6 c q σ) rfl 1 (by decide) (htb _ tb_133) (fun _ h9 => h9) rfl dX4_weigh_2 ?_
  refine lv_ishl hx hb dX4_weigh_5 ?_
  refine lv_aload_n hx hb dX4_weigh_6 rfl (lv_at hl 0 rfl) ?_
  refine va_get (D := D) (ci := 4) (C := RX4) (T := TX4) (N := 2) hx hb htb inX4 hown hK hP 18 (xw_18 c q σ) rfl 0 (by decide) (htb _ tb_242) (fun _ h9 => h9) rfl dX4_weigh_7 ?_
  refine va_alen (v := 256) (ty := .int) hx hb hK hP 19 13 (xw_19 c q σ) rfl rfl dX4_weigh_10 ?_
  refine va_mmin hx hb (hml.trans hl.1.symm) hown (htb _ tb_427) (htb _ tb_413) (htb _ tb_104) (htb _ tb_414) (Nat.le_of_ble_eq_true rfl) (Nat.le_of_ble_eq_true rfl) (Nat.zero_le _) (Nat.zero_le _) dX4_weigh_11 ?_
  refine lv_topi (fun v1 ev1 => ?_)
  have hw := hw v1 ev1
  refine lv_istore_n (lv' := [(2, .int v1), (0, .ref (q 18)), (1, .ref (q 6))]) hx hb dX4_weigh_14 rfl hl (by decide) rfl (fun ls hl => ?_)
  refine lv_iconst (v := (0 : Int32)) hx hb dX4_weigh_15 (by decide) ?_
  refine lv_istore_n (lv' := [(3, .int (0 : Int32)), (2, .int v1), (0, .ref (q 18)), (1, .ref (q 6))]) hx hb dX4_weigh_16 rfl hl (by decide) rfl (fun ls hl => ?_)
  obtain ⟨n7, hw⟩ := hw
  refine L17 _ v1 n7 (0 : Int32) σ _ _ _ hw ?_ hP hS (lv_sub hl [2, 3, 1, 0] rfl)
  intro v8 σ9 H locs ls hw hP hS hl
  have hD : va_D (wdA 36 q) (xw c q σ9) := xw_D hD0
  exact W.vret hx hb hr (fun t ht hW => ⟨⟨σ9, rfl, hw, by unfold wdB; rw [ht]; exact hP⟩, hS.F ht⟩) hS.2.2 dX4_weigh_39
set_option maxHeartbeats 4000000 in
set_option maxRecDepth 100000 in
theorem kcX1_dearerThan_6 (l : Launch) (D : va_G) (c : Nat → ClassId) (q : Nat → Nat) (ev : State → Heap → Prop) (hev : evOK (wdA 36 q) ev) (σ : hsS) (x1 : Int32) (x2 : Int32) (post : Int32 → hsS → Prop) (hw : wX1_dearerThan 6 x1 x2 post σ) : Met l yX1_dearerThan (Cond.code yX1_dearerThan cX1_dearerThan 6 (some .int) :: tb_L) { frames := 1, cells := 0, slots := 0, locals := 22 } (wdPc D (xw c q) (xwT c) (wdA 36 q) ev σ [.ref (q 6), .int x1, .int x2]) (va_Qi post (wdB D (xw c q)) (wdA 36 q)) 0 0 (wdA 36 q) := by
  refine Met.ofW (cc := cX1_dearerThan) (maxL := 6) (ret := (some .int)) (by decide) rfl ?_
  intro p e s m args below meth c₀ s₁ Bd hml hv
  obtain ⟨rfl, hP, hK, hD0, hE⟩ := hv
  have hx := Bd.exec
  have hb := Bd.bytes
  have hr := Bd.returns
  have hts := atoms_spec (ws := Cond.code yX1_dearerThan cX1_dearerThan 6 (some .int) :: tb_L) Bd.pre
  have htb : ∀ w ∈ tb_L, w.before [.ref (q 6), .int x1, .int x2].toArray s = true := fun w h => hts w (List.mem_cons_of_mem _ h)
  have hown : s.vm.findClass RX1 = some m.cls := findClass_of_methodNamed Bd.named
  have hlocks := Bd.notSynchronized
  have hS : va_S (wdA 36 q) s.heap s.heap [] := va_S.rf
  have hD := hD0
  have L13 : ∀ (K48 : Int32 → Int32 → hsS → Prop) (z1 : Int32) (z2 : Int32) (z3 : Int32) (n : Nat) (y4 : Int32) (y5 : Int32) (σ : hsS) (H : Heap) (locs : List Loc) (ls : Array Slot), wX1_dearerThan_L13 6 z1 z2 z3 K48 post n y4 y5 σ → (∀ (y4 : Int32) (y5 : Int32) (σ : hsS) (H : Heap) (locs : List Loc) (ls : Array Slot), K48 y4 y5 σ → va_P D vwCl (xw c q σ) H → va_S (wdA 36 q) s.heap H locs → lv_has ls 6 [(0, .ref (q 6)), (1, .int z1), (2, .int z2), (3, .int z3), (4, .int y4), (5, .int y5)] → W p l e (headSpec (Cond.code yX1_dearerThan cX1_dearerThan 6 (some .int) :: tb_L) { frames := 1, cells := 0, slots := 0, locals := 22 }).room s m [.ref (q 6), .int x1, .int x2].toArray below meth c₀ H locs 0 0 (MQ below (va_Qi post (wdB D (xw c q)) (wdA 36 q)) [.ref (q 6), .int x1, .int x2].toArray s 0 0 (wdA 36 q)) (F0 m 48 ls [])) → va_P D vwCl (xw c q σ) H → va_S (wdA 36 q) s.heap H locs → lv_has ls 6 [(0, .ref (q 6)), (1, .int z1), (2, .int z2), (3, .int z3), (4, .int y4), (5, .int y5)] → W p l e (headSpec (Cond.code yX1_dearerThan cX1_dearerThan 6 (some .int) :: tb_L) { frames := 1, cells := 0, slots := 0, locals := 22 }).room s m [.ref (q 6), .int x1, .int x2].toArray below meth c₀ H locs 0 0 (MQ below (va_Qi post (wdB D (xw c q)) (wdA 36 q)) [.ref (q 6), .int x1, .int x2].toArray s 0 0 (wdA 36 q)) (F0 m 13 ls []) := by
    intro K48 z1 z2 z3 n
    induction n with
    | zero =>
      intro y4 y5 σ H locs ls hw hk48 hP hS hl
      exact (show False from hw).elim
    | succ n ih =>
      intro y4 y5 σ H locs ls hw hk48 hP hS hl
      rw [wX1_dearerThan_L13] at hw
      have hD : va_D (wdA 36 q) (xw c q σ) := xw_D hD0
      refine lv_iload hx hb dX1_dearerThan_13 (lv_at hl 5 rfl) ?_
      refine lv_aload_n hx hb dX1_dearerThan_15 rfl (lv_at hl 0 rfl) ?_
      refine va_get (D := D) (ci := 1) (C := RX1) (T := TX1) (N := 12) hx hb htb inX1 hown hK hP 6 (xw_6 c q σ) rfl 0 (by decide) (htb _ tb_126) (fun _ h9 => h9) rfl dX1_dearerThan_16 ?_
      refine lv_icmp_ge (tgt := 48) hx hb dX1_dearerThan_19 (by decide) (fun c3 => ?_) (fun c3 => ?_)
      · have hw := hw.1 c3
        exact hk48 y4 y5 σ _ _ _ hw hP hS (lv_sub hl [0, 1, 2, 3, 4, 5] rfl)
      · have hw := hw.2 c3
        refine lv_aload_n hx hb dX1_dearerThan_22 rfl (lv_at hl 0 rfl) ?_
        refine lv_iload_n hx hb dX1_dearerThan_23 rfl (lv_at hl 1 rfl) ?_
        refine lv_iload hx hb dX1_dearerThan_24 (lv_at hl 5 rfl) ?_
        refine va_calli (va_runV (As := [.int z1, .int y5]) (rest := []) ⟨hx, hb, hml, hown, htb⟩ (kcX1_placeOf_6 l D c q ev hev σ z1 y5 _ hw) (tb_CW htb kX1_placeOf tb_445 tb_446 tb_447 ⟨Nat.le_of_ble_eq_true rfl, Nat.le_of_ble_eq_true rfl⟩) (wd_preV (wd := xw c q) (k := 6) hev hK hP hD hE hS (xw_6 c q σ) rfl) rfl rfl hl.1 rfl (lv_room (Nat.le_of_ble_eq_true rfl)) dX1_dearerThan_26 ⟨Nat.zero_le _, Nat.zero_le _⟩) hS (fun q _ h => h) (fun q h => h) (fun r4 σ5 t H1 locs1 ht hvm hw hB hz1 hk1 hS => ?_)
        have hP : va_P D vwCl (xw c q σ5) H1 := ht ▸ hB
        have hD : va_D (wdA 36 q) (xw c q σ5) := xw_D hD0
        refine lv_iload_n hx hb dX1_dearerThan_29 rfl (lv_at hl 3 rfl) ?_
        refine lv_icmp_ge (tgt := 42) hx hb dX1_dearerThan_30 (by decide) (fun c6 => ?_) (fun c6 => ?_)
        · have hw := hw.1 c6
          obtain ⟨v7, ev7⟩ : ∃ z : Int32, z = y5 + (1 : Int32) := ⟨_, rfl⟩
          have hw := hw v7 ev7
          refine lv_iinc (v := v7) (lv' := [(5, .int v7), (0, .ref (q 6)), (1, .int z1), (2, .int z2), (3, .int z3), (4, .int y4)]) hx hb dX1_dearerThan_42 hl (k := 5) rfl (by rw [ev7]; rfl) (by decide) rfl (fun ls hl => ?_)
          refine lv_goto (tgt := 13) hx hb dX1_dearerThan_45 (by decide) ?_
          exact ih y4 v7 σ5 _ _ _ hw hk48 hP hS (lv_sub hl [1, 2, 3, 4, 5, 0] rfl)
        · have hw := hw.2 c6
          refine lv_iload hx hb dX1_dearerThan_33 (lv_at hl 4 rfl) ?_
          refine lv_iconst (v := (1 : Int32)) hx hb dX1_dearerThan_35 (by decide) ?_
          refine lv_iload hx hb dX1_dearerThan_36 (lv_at hl 5 rfl) ?_
          refine lv_ishl hx hb dX1_dearerThan_38 ?_
          refine lv_ior hx hb dX1_dearerThan_39 ?_
          refine lv_topi (fun v8 ev8 => ?_)
          have hw := hw v8 ev8
          refine lv_istore (lv' := [(4, .int v8), (0, .ref (q 6)), (1, .int z1), (2, .int z2), (3, .int z3), (5, .int y5)]) hx hb dX1_dearerThan_40 hl (by decide) rfl (fun ls hl => ?_)
          obtain ⟨v9, ev9⟩ : ∃ z : Int32, z = y5 + (1 : Int32) := ⟨_, rfl⟩
          have hw := hw v9 ev9
          refine lv_iinc (v := v9) (lv' := [(5, .int v9), (4, .int v8), (0, .ref (q 6)), (1, .int z1), (2, .int z2), (3, .int z3)]) hx hb dX1_dearerThan_42 hl (k := 5) rfl (by rw [ev9]; rfl) (by decide) rfl (fun ls hl => ?_)
          refine lv_goto (tgt := 13) hx hb dX1_dearerThan_45 (by decide) ?_
          exact ih v8 v9 σ5 _ _ _ hw hk48 hP hS (lv_sub hl [2, 3, 4, 5, 1, 0] rfl)
  have hl := lv_entry ([.ref (q 6), .int x1, .int x2]) (n := 6) (Nat.le_of_ble_eq_true rfl)
  rw [lg_entry_eq]
  generalize (lg_sl ([.ref (q 6), .int x1, .int x2]) ++ List.replicate (6 - (lg_sl ([.ref (q 6), .int x1, .int x2])).length) Slot.unset).toArray = ls at hl ⊢
  have hl : lv_has ls 6 [(0, .ref (q 6)), (1, .int x1), (2, .int x2)] := hl
  unfold wX1_dearerThan at hw
  refine lv_aload_n hx hb dX1_dearerThan_0 rfl (lv_at hl 0 rfl) ?_
  refine lv_iload_n hx hb dX1_dearerThan_1 rfl (lv_at hl 1 rfl) ?_
  refine lv_iload_n hx hb dX1_dearerThan_2 rfl (lv_at hl 2 rfl) ?_
  refine va_calli (va_runV (As := [.int x1, .int x2]) (rest := []) ⟨hx, hb, hml, hown, htb⟩ (kcX1_placeOf_6 l D c q ev hev σ x1 x2 _ hw) (tb_CW htb kX1_placeOf tb_445 tb_446 tb_447 ⟨Nat.le_of_ble_eq_true rfl, Nat.le_of_ble_eq_true rfl⟩) (wd_preV (wd := xw c q) (k := 6) hev hK hP hD hE hS (xw_6 c q σ) rfl) rfl rfl hl.1 rfl (lv_room (Nat.le_of_ble_eq_true rfl)) dX1_dearerThan_3 ⟨Nat.zero_le _, Nat.zero_le _⟩) hS (fun q _ h => h) (fun q h => h) (fun r1 σ2 t H1 locs1 ht hvm hw hB hz1 hk1 hS => ?_)
  have hP : va_P D vwCl (xw c q σ2) H1 := ht ▸ hB
  have hD : va_D (wdA 36 q) (xw c q σ2) := xw_D hD0
  refine lv_istore_n (lv' := [(3, .int r1), (0, .ref (q 6)), (1, .int x1), (2, .int x2)]) hx hb dX1_dearerThan_6 rfl hl (by decide) rfl (fun ls hl => ?_)
  refine lv_iconst (v := (0 : Int32)) hx hb dX1_dearerThan_7 (by decide) ?_
  refine lv_istore (lv' := [(4, .int (0 : Int32)), (3, .int r1), (0, .ref (q 6)), (1, .int x1), (2, .int x2)]) hx hb dX1_dearerThan_8 hl (by decide) rfl (fun ls hl => ?_)
  refine lv_iconst (v := (0 : Int32)) hx hb dX1_dearerThan_10 (by decide) ?_
  refine lv_istore (lv' := [(5, .int (0 : Int32)), (4, .int (0 : Int32)), (3, .int r1), (0, .ref (q 6)), (1, .int x1), (2, .int x2)]) hx hb dX1_dearerThan_11 hl (by decide) rfl (fun ls hl => ?_)
  obtain ⟨n10, hw⟩ := hw
  refine L13 _ x1 x2 r1 n10 (0 : Int32) (0 : Int32) σ2 _ _ _ hw ?_ hP hS (lv_sub hl [3, 4, 5, 2, 1, 0] rfl)
  intro v11 v12 σ13 H locs ls hw hP hS hl
  have hD : va_D (wdA 36 q) (xw c q σ13) := xw_D hD0
  refine lv_iload hx hb dX1_dearerThan_48 (lv_at hl 4 rfl) ?_
  exact W.iret hx hb hr (fun t ht hW => ⟨⟨_, σ13, rfl, hw, by unfold wdB; rw [ht]; exact hP⟩, hS.F ht⟩) hS.2.2 dX1_dearerThan_50
set_option maxHeartbeats 4000000 in
set_option maxRecDepth 100000 in
theorem kcX4_strikerOf_18_6 (l : Launch) (D : va_G) (c : Nat → ClassId) (q : Nat → Nat) (ev : State → Heap → Prop) (hev : evOK (wdA 36 q) ev) (σ : hsS) (x2 : Int32) (x3 : Int32) (post : Int32 → hsS → Prop) (hw : wX4_strikerOf 18 6 x2 x3 post σ) : Met l yX4_strikerOf (Cond.code yX4_strikerOf cX4_strikerOf 10 (some .int) :: tb_L) { frames := 2, cells := 0, slots := 0, locals := 47 } (wdPc D (xw c q) (xwT c) (wdA 36 q) ev σ [.ref (q 18), .ref (q 6), .int x2, .int x3]) (va_Qi post (wdB D (xw c q)) (wdA 36 q)) 0 0 (wdA 36 q) := by
  refine Met.ofW (cc := cX4_strikerOf) (maxL := 10) (ret := (some .int)) (by decide) rfl ?_
  intro p e s m args below meth c₀ s₁ Bd hml hv
  obtain ⟨rfl, hP, hK, hD0, hE⟩ := hv
  have hx := Bd.exec
  have hb := Bd.bytes
  have hr := Bd.returns
  have hts := atoms_spec (ws := Cond.code yX4_strikerOf cX4_strikerOf 10 (some .int) :: tb_L) Bd.pre
  have htb : ∀ w ∈ tb_L, w.before [.ref (q 18), .ref (q 6), .int x2, .int x3].toArray s = true := fun w h => hts w (List.mem_cons_of_mem _ h)
  have hown : s.vm.findClass RX4 = some m.cls := findClass_of_methodNamed Bd.named
  have hlocks := Bd.notSynchronized
  have hS : va_S (wdA 36 q) s.heap s.heap [] := va_S.rf
  have hD := hD0
  have L50 : ∀ (K129 : Int32 → Int32 → hsS → Prop) (K138 : Int32 → Int32 → hsS → Prop) (z2 : Int32) (z3 : Int32) (z5 : Int32) (z6 : Int32) (z7 : Int32) (n : Nat) (y4 : Int32) (y8 : Int32) (σ : hsS) (H : Heap) (locs : List Loc) (ls : Array Slot), wX4_strikerOf_L50 18 6 z2 z3 z5 z6 z7 K129 K138 post n y4 y8 σ → (∀ (y4 : Int32) (y8 : Int32) (σ : hsS) (H : Heap) (locs : List Loc) (ls : Array Slot), K129 y4 y8 σ → va_P D vwCl (xw c q σ) H → va_S (wdA 36 q) s.heap H locs → lv_has ls 10 [(0, .ref (q 18)), (1, .ref (q 6)), (2, .int z2), (3, .int z3), (4, .int y4), (5, .int z5), (6, .int z6), (7, .int z7), (8, .int y8)] → W p l e (headSpec (Cond.code yX4_strikerOf cX4_strikerOf 10 (some .int) :: tb_L) { frames := 2, cells := 0, slots := 0, locals := 47 }).room s m [.ref (q 18), .ref (q 6), .int x2, .int x3].toArray below meth c₀ H locs 0 0 (MQ below (va_Qi post (wdB D (xw c q)) (wdA 36 q)) [.ref (q 18), .ref (q 6), .int x2, .int x3].toArray s 0 0 (wdA 36 q)) (F0 m 129 ls [])) → (∀ (y4 : Int32) (y8 : Int32) (σ : hsS) (H : Heap) (locs : List Loc) (ls : Array Slot), K138 y4 y8 σ → va_P D vwCl (xw c q σ) H → va_S (wdA 36 q) s.heap H locs → lv_has ls 10 [(0, .ref (q 18)), (1, .ref (q 6)), (2, .int z2), (3, .int z3), (4, .int y4), (5, .int z5), (6, .int z6), (7, .int z7), (8, .int y8)] → W p l e (headSpec (Cond.code yX4_strikerOf cX4_strikerOf 10 (some .int) :: tb_L) { frames := 2, cells := 0, slots := 0, locals := 47 }).room s m [.ref (q 18), .ref (q 6), .int x2, .int x3].toArray below meth c₀ H locs 0 0 (MQ below (va_Qi post (wdB D (xw c q)) (wdA 36 q)) [.ref (q 18), .ref (q 6), .int x2, .int x3].toArray s 0 0 (wdA 36 q)) (F0 m 138 ls [])) → va_P D vwCl (xw c q σ) H → va_S (wdA 36 q) s.heap H locs → lv_has ls 10 [(0, .ref (q 18)), (1, .ref (q 6)), (2, .int z2), (3, .int z3), (4, .int y4), (5, .int z5), (6, .int z6), (7, .int z7), (8, .int y8)] → W p l e (headSpec (Cond.code yX4_strikerOf cX4_strikerOf 10 (some .int) :: tb_L) { frames := 2, cells := 0, slots := 0, locals := 47 }).room s m [.ref (q 18), .ref (q 6), .int x2, .int x3].toArray below meth c₀ H locs 0 0 (MQ below (va_Qi post (wdB D (xw c q)) (wdA 36 q)) [.ref (q 18), .ref (q 6), .int x2, .int x3].toArray s 0 0 (wdA 36 q)) (F0 m 50 ls []) := by
    intro K129 K138 z2 z3 z5 z6 z7 n
    induction n with
    | zero =>
      intro y4 y8 σ H locs ls hw hk129 hk138 hP hS hl
      exact (show False from hw).elim
    | succ n ih =>
      intro y4 y8 σ H locs ls hw hk129 hk138 hP hS hl
      rw [wX4_strikerOf_L50] at hw
      have hD : va_D (wdA 36 q) (xw c q σ) := xw_D hD0
      refine lv_iload hx hb dX4_strikerOf_50 (lv_at hl 8 rfl) ?_
      refine lv_iload hx hb dX4_strikerOf_52 (lv_at hl 5 rfl) ?_
      refine lv_icmp_ge (tgt := 138) hx hb dX4_strikerOf_54 (by decide) (fun c8 => ?_) (fun c8 => ?_)
      · have hw := hw.1 c8
        exact hk138 y4 y8 σ _ _ _ hw hP hS (lv_sub hl [0, 1, 2, 3, 4, 5, 6, 7, 8] rfl)
      · have hw := hw.2 c8
        refine lv_iload hx hb dX4_strikerOf_57 (lv_at hl 5 rfl) ?_
        refine lv_iload hx hb dX4_strikerOf_59 (lv_at hl 8 rfl) ?_
        refine lv_iadd hx hb dX4_strikerOf_61 ?_
        refine lv_topi (fun v9 ev9 => ?_)
        have hw := hw v9 ev9
        refine lv_istore (lv' := [(9, .int v9), (0, .ref (q 18)), (1, .ref (q 6)), (2, .int z2), (3, .int z3), (4, .int y4), (5, .int z5), (6, .int z6), (7, .int z7), (8, .int y8)]) hx hb dX4_strikerOf_62 hl (by decide) rfl (fun ls hl => ?_)
        refine lv_aload_n hx hb dX4_strikerOf_64 rfl (lv_at hl 1 rfl) ?_
        refine va_get (D := D) (ci := 4) (C := RX4) (T := TX4) (N := 2) hx hb htb inX4 hown hK hP 18 (xw_18 c q σ) rfl 1 (by decide) (htb _ tb_243) (fun _ h9 => h9) rfl dX4_strikerOf_65 ?_
        refine lv_iload hx hb dX4_strikerOf_68 (lv_at hl 0 rfl) ?_
        refine lv_aload_n hx hb dX4_strikerOf_70 rfl (lv_at hl 1 rfl) ?_
        refine va_get (D := D) (ci := 4) (C := RX4) (T := TX4) (N := 2) hx hb htb inX4 hown hK hP 18 (xw_18 c q σ) rfl 1 (by decide) (htb _ tb_243) (fun _ h9 => h9) rfl dX4_strikerOf_71 ?_
        refine lv_iload hx hb dX4_strikerOf_74 (lv_at hl 9 rfl) ?_
        refine va_iald hx hb hK hP 20 14 (xw_20 c q σ) rfl hw.1 dX4_strikerOf_76 ?_
        have hw := hw.2
        refine lv_iload hx hb dX4_strikerOf_77 (lv_at hl 8 rfl) ?_
        refine lv_iand hx hb dX4_strikerOf_79 ?_
        refine va_iast hx hb hK hP hD hS 20 14 (xw_20 c q σ) rfl hw.1 dX4_strikerOf_80 (fun H locs hP hD hS => ?_)
        have hw := hw.2
        have hP : va_P D vwCl (xw c q (hsA σ 20 (upd (σ.2.1 20) v9.toNatClampNeg ((σ.2.1 20 y8.toNatClampNeg) &&& z7)))) H := hP
        obtain ⟨σ10, eσ10⟩ : ∃ z : hsS, z = hsA σ 20 (upd (σ.2.1 20) v9.toNatClampNeg ((σ.2.1 20 y8.toNatClampNeg) &&& z7)) := ⟨_, rfl⟩
        rw [← eσ10] at hP
        have hD : va_D (wdA 36 q) (xw c q σ10) := xw_D hD0
        have hw := hw σ10 eσ10
        refine lv_aload_n hx hb dX4_strikerOf_81 rfl (lv_at hl 1 rfl) ?_
        refine va_get (D := D) (ci := 4) (C := RX4) (T := TX4) (N := 2) hx hb htb inX4 hown hK hP 18 (xw_18 c q σ10) rfl 1 (by decide) (htb _ tb_243) (fun _ h9 => h9) rfl dX4_strikerOf_82 ?_
        refine lv_iload hx hb dX4_strikerOf_85 (lv_at hl 0 rfl) ?_
        refine va_iald hx hb hK hP 20 14 (xw_20 c q σ10) rfl hw.1 dX4_strikerOf_87 ?_
        have hw := hw.2
        refine va_calli (va_runS (As := [.int (σ10.2.1 20 v9.toNatClampNeg)]) (rest := []) ⟨hx, hb, hml, hown, htb⟩ (kcJ6_bitCount_0f7a4_x l D c q ev hev σ10 (σ10.2.1 20 v9.toNatClampNeg) _ hw) (tb_CS htb kJ6_bitCount_0f7a4 tb_449 tb_407 ⟨Nat.le_of_ble_eq_true rfl, Nat.le_of_ble_eq_true rfl⟩) (wd_preS (wd := xw c q) hev hK hP hD hE hS) rfl rfl hl.1 rfl (lv_room (Nat.le_of_ble_eq_true rfl)) dX4_strikerOf_88 ⟨Nat.zero_le _, Nat.zero_le _⟩) hS (fun q _ h => h) (fun q h => h) (fun r11 σ12 t H1 locs1 ht hvm hw hB hz1 hk1 hS => ?_)
        have hP : va_P D vwCl (xw c q σ12) H1 := ht ▸ hB
        have hD : va_D (wdA 36 q) (xw c q σ12) := xw_D hD0
        refine lv_aload_n hx hb dX4_strikerOf_91 rfl (lv_at hl 2 rfl) ?_
        refine va_getN (D := D) (ci := 1) (C := RX1) (T := TX1) (N := 12) hx hb htb inX1 hown hK hP 6 (xw_6 c q σ12) rfl 0 (by decide) (htb _ tb_127) (fun _ h9 => h9) rfl dX4_strikerOf_92 ?_
        refine lv_aload_n hx hb dX4_strikerOf_95 rfl (lv_at hl 1 rfl) ?_
        refine va_get (D := D) (ci := 4) (C := RX4) (T := TX4) (N := 2) hx hb htb inX4 hown hK hP 18 (xw_18 c q σ12) rfl 0 (by decide) (htb _ tb_242) (fun _ h9 => h9) rfl dX4_strikerOf_96 ?_
        refine lv_iload hx hb dX4_strikerOf_99 (lv_at hl 0 rfl) ?_
        refine va_iald hx hb hK hP 19 13 (xw_19 c q σ12) rfl hw.1 dX4_strikerOf_101 ?_
        have hw := hw.2
        refine lv_isub hx hb dX4_strikerOf_102 ?_
        refine lv_icmp_lt (tgt := 132) hx hb dX4_strikerOf_103 (by decide) (fun c13 => ?_) (fun c13 => ?_)
        · have hw := hw.1 c13
          obtain ⟨v14, ev14⟩ : ∃ z : Int32, z = y8 + (1 : Int32) := ⟨_, rfl⟩
          have hw := hw v14 ev14
          refine lv_iinc (v := v14) (lv' := [(8, .int v14), (9, .int v9), (0, .ref (q 18)), (1, .ref (q 6)), (2, .int z2), (3, .int z3), (4, .int y4), (5, .int z5), (6, .int z6), (7, .int z7)]) hx hb dX4_strikerOf_132 hl (k := 9) rfl (by rw [ev14]; rfl) (by decide) rfl (fun ls hl => ?_)
          refine lv_goto (tgt := 50) hx hb dX4_strikerOf_135 (by decide) ?_
          exact ih y4 v14 σ12 _ _ _ hw hk129 hk138 hP hS (lv_sub hl [2, 3, 4, 5, 6, 7, 8, 9, 0] rfl)
        · have hw := hw.2 c13
          refine lv_iload hx hb dX4_strikerOf_106 (lv_at hl 5 rfl) ?_
          refine lv_if_ne (tgt := 116) hx hb dX4_strikerOf_108 (by decide) (fun c15 => ?_) (fun c15 => ?_)
          · have hw := hw.2 c15
            refine lv_iload hx hb dX4_strikerOf_116 (lv_at hl 5 rfl) ?_
            refine lv_iload hx hb dX4_strikerOf_118 (lv_at hl 0 rfl) ?_
            refine va_calli (va_runS (As := [.int y4, .int v9]) (rest := []) ⟨hx, hb, hml, hown, htb⟩ (kcX4_ahead_x l D c q ev hev σ12 y4 v9 _ hw) (tb_CS htb kX4_ahead tb_450 tb_451 ⟨Nat.le_of_ble_eq_true rfl, Nat.le_of_ble_eq_true rfl⟩) (wd_preS (wd := xw c q) hev hK hP hD hE hS) rfl rfl hl.1 rfl (lv_room (Nat.le_of_ble_eq_true rfl)) dX4_strikerOf_120 ⟨Nat.zero_le _, Nat.zero_le _⟩) hS (fun q _ h => h) (fun q h => h) (fun r18 σ19 t H1 locs1 ht hvm hw hB hz1 hk1 hS => ?_)
            have hP : va_P D vwCl (xw c q σ19) H1 := ht ▸ hB
            have hD : va_D (wdA 36 q) (xw c q σ19) := xw_D hD0
            refine lv_istore (lv' := [(4, .int r18), (9, .int v9), (0, .ref (q 18)), (1, .ref (q 6)), (2, .int z2), (3, .int z3), (5, .int z5), (6, .int z6), (7, .int z7), (8, .int y8)]) hx hb dX4_strikerOf_123 hl (by decide) rfl (fun ls hl => ?_)
            refine lv_iload_n hx hb dX4_strikerOf_125 rfl (lv_at hl 5 rfl) ?_
            refine lv_if_eq (tgt := 132) hx hb dX4_strikerOf_126 (by decide) (fun c20 => ?_) (fun c20 => ?_)
            · have hw := hw.1 c20
              obtain ⟨v21, ev21⟩ : ∃ z : Int32, z = y8 + (1 : Int32) := ⟨_, rfl⟩
              have hw := hw v21 ev21
              refine lv_iinc (v := v21) (lv' := [(8, .int v21), (4, .int r18), (9, .int v9), (0, .ref (q 18)), (1, .ref (q 6)), (2, .int z2), (3, .int z3), (5, .int z5), (6, .int z6), (7, .int z7)]) hx hb dX4_strikerOf_132 hl (k := 9) rfl (by rw [ev21]; rfl) (by decide) rfl (fun ls hl => ?_)
              refine lv_goto (tgt := 50) hx hb dX4_strikerOf_135 (by decide) ?_
              exact ih r18 v21 σ19 _ _ _ hw hk129 hk138 hP hS (lv_sub hl [3, 4, 5, 6, 1, 7, 8, 9, 0] rfl)
            · have hw := hw.2 c20
              exact hk129 r18 y8 σ19 _ _ _ hw hP hS (lv_sub hl [2, 3, 4, 5, 0, 6, 7, 8, 9] rfl)
          · have hw := hw.1 c15
            refine lv_iload hx hb dX4_strikerOf_111 (lv_at hl 0 rfl) ?_
            refine lv_goto (tgt := 123) hx hb dX4_strikerOf_113 (by decide) ?_
            refine lv_istore (lv' := [(4, .int v9), (9, .int v9), (0, .ref (q 18)), (1, .ref (q 6)), (2, .int z2), (3, .int z3), (5, .int z5), (6, .int z6), (7, .int z7), (8, .int y8)]) hx hb dX4_strikerOf_123 hl (by decide) rfl (fun ls hl => ?_)
            refine lv_iload_n hx hb dX4_strikerOf_125 rfl (lv_at hl 5 rfl) ?_
            refine lv_if_eq (tgt := 132) hx hb dX4_strikerOf_126 (by decide) (fun c16 => ?_) (fun c16 => ?_)
            · have hw := hw.1 c16
              obtain ⟨v17, ev17⟩ : ∃ z : Int32, z = y8 + (1 : Int32) := ⟨_, rfl⟩
              have hw := hw v17 ev17
              refine lv_iinc (v := v17) (lv' := [(8, .int v17), (4, .int v9), (9, .int v9), (0, .ref (q 18)), (1, .ref (q 6)), (2, .int z2), (3, .int z3), (5, .int z5), (6, .int z6), (7, .int z7)]) hx hb dX4_strikerOf_132 hl (k := 9) rfl (by rw [ev17]; rfl) (by decide) rfl (fun ls hl => ?_)
              refine lv_goto (tgt := 50) hx hb dX4_strikerOf_135 (by decide) ?_
              exact ih v9 v17 σ12 _ _ _ hw hk129 hk138 hP hS (lv_sub hl [3, 4, 5, 6, 1, 7, 8, 9, 0] rfl)
            · have hw := hw.2 c16
              exact hk129 v9 y8 σ12 _ _ _ hw hP hS (lv_sub hl [2, 3, 4, 5, 0, 6, 7, 8, 9] rfl)
  have L19 : ∀ (K129 : Int32 → Int32 → Int32 → hsS → Prop) (K151 : Int32 → Int32 → Int32 → hsS → Prop) (z2 : Int32) (z3 : Int32) (n : Nat) (y4 : Int32) (y5 : Int32) (y6 : Int32) (σ : hsS) (H : Heap) (locs : List Loc) (ls : Array Slot), wX4_strikerOf_L19 18 6 z2 z3 K129 K151 post n y4 y5 y6 σ → (∀ (y4 : Int32) (y5 : Int32) (y6 : Int32) (σ : hsS) (H : Heap) (locs : List Loc) (ls : Array Slot), K129 y4 y5 y6 σ → va_P D vwCl (xw c q σ) H → va_S (wdA 36 q) s.heap H locs → lv_has ls 10 [(0, .ref (q 18)), (1, .ref (q 6)), (2, .int z2), (3, .int z3), (4, .int y4), (5, .int y5), (6, .int y6)] → W p l e (headSpec (Cond.code yX4_strikerOf cX4_strikerOf 10 (some .int) :: tb_L) { frames := 2, cells := 0, slots := 0, locals := 47 }).room s m [.ref (q 18), .ref (q 6), .int x2, .int x3].toArray below meth c₀ H locs 0 0 (MQ below (va_Qi post (wdB D (xw c q)) (wdA 36 q)) [.ref (q 18), .ref (q 6), .int x2, .int x3].toArray s 0 0 (wdA 36 q)) (F0 m 129 ls [])) → (∀ (y4 : Int32) (y5 : Int32) (y6 : Int32) (σ : hsS) (H : Heap) (locs : List Loc) (ls : Array Slot), K151 y4 y5 y6 σ → va_P D vwCl (xw c q σ) H → va_S (wdA 36 q) s.heap H locs → lv_has ls 10 [(0, .ref (q 18)), (1, .ref (q 6)), (2, .int z2), (3, .int z3), (4, .int y4), (5, .int y5), (6, .int y6)] → W p l e (headSpec (Cond.code yX4_strikerOf cX4_strikerOf 10 (some .int) :: tb_L) { frames := 2, cells := 0, slots := 0, locals := 47 }).room s m [.ref (q 18), .ref (q 6), .int x2, .int x3].toArray below meth c₀ H locs 0 0 (MQ below (va_Qi post (wdB D (xw c q)) (wdA 36 q)) [.ref (q 18), .ref (q 6), .int x2, .int x3].toArray s 0 0 (wdA 36 q)) (F0 m 151 ls [])) → va_P D vwCl (xw c q σ) H → va_S (wdA 36 q) s.heap H locs → lv_has ls 10 [(0, .ref (q 18)), (1, .ref (q 6)), (2, .int z2), (3, .int z3), (4, .int y4), (5, .int y5), (6, .int y6)] → W p l e (headSpec (Cond.code yX4_strikerOf cX4_strikerOf 10 (some .int) :: tb_L) { frames := 2, cells := 0, slots := 0, locals := 47 }).room s m [.ref (q 18), .ref (q 6), .int x2, .int x3].toArray below meth c₀ H locs 0 0 (MQ below (va_Qi post (wdB D (xw c q)) (wdA 36 q)) [.ref (q 18), .ref (q 6), .int x2, .int x3].toArray s 0 0 (wdA 36 q)) (F0 m 19 ls []) := by
    intro K129 K151 z2 z3 n
    induction n with
    | zero =>
      intro y4 y5 y6 σ H locs ls hw hk129 hk151 hP hS hl
      exact (show False from hw).elim
    | succ n ih =>
      intro y4 y5 y6 σ H locs ls hw hk129 hk151 hP hS hl
      rw [wX4_strikerOf_L19] at hw
      have hD : va_D (wdA 36 q) (xw c q σ) := xw_D hD0
      refine lv_iload hx hb dX4_strikerOf_19 (lv_at hl 6 rfl) ?_
      refine lv_aload_n hx hb dX4_strikerOf_21 rfl (lv_at hl 1 rfl) ?_
      refine va_getN (D := D) (ci := 1) (C := RX1) (T := TX1) (N := 12) hx hb htb inX1 hown hK hP 6 (xw_6 c q σ) rfl 1 (by decide) (htb _ tb_133) (fun _ h9 => h9) rfl dX4_strikerOf_22 ?_
      refine lv_icmp_ge (tgt := 151) hx hb dX4_strikerOf_25 (by decide) (fun c4 => ?_) (fun c4 => ?_)
      · have hw := hw.1 c4
        exact hk151 y4 y5 y6 σ _ _ _ hw hP hS (lv_sub hl [0, 1, 2, 3, 4, 5, 6] rfl)
      · have hw := hw.2 c4
        refine lv_iload hx hb dX4_strikerOf_28 (lv_at hl 5 rfl) ?_
        refine lv_aload_n hx hb dX4_strikerOf_30 rfl (lv_at hl 0 rfl) ?_
        refine va_get (D := D) (ci := 4) (C := RX4) (T := TX4) (N := 2) hx hb htb inX4 hown hK hP 18 (xw_18 c q σ) rfl 1 (by decide) (htb _ tb_243) (fun _ h9 => h9) rfl dX4_strikerOf_31 ?_
        refine va_alen (v := 256) (ty := .int) hx hb hK hP 20 14 (xw_20 c q σ) rfl rfl dX4_strikerOf_34 ?_
        refine lv_icmp_ge (tgt := 151) hx hb dX4_strikerOf_35 (by decide) (fun c5 => ?_) (fun c5 => ?_)
        · have hw := hw.1 c5
          exact hk151 y4 y5 y6 σ _ _ _ hw hP hS (lv_sub hl [0, 1, 2, 3, 4, 5, 6] rfl)
        · have hw := hw.2 c5
          refine lv_aload_n hx hb dX4_strikerOf_38 rfl (lv_at hl 1 rfl) ?_
          refine lv_iload hx hb dX4_strikerOf_39 (lv_at hl 6 rfl) ?_
          refine lv_iload_n hx hb dX4_strikerOf_41 rfl (lv_at hl 2 rfl) ?_
          refine va_calli (va_runV (As := [.int y6, .int z2]) (rest := []) ⟨hx, hb, hml, hown, htb⟩ (kcX1_dearerThan_6 l D c q ev hev σ y6 z2 _ hw) (tb_CW htb kX1_dearerThan tb_441 tb_442 tb_443 ⟨Nat.le_of_ble_eq_true rfl, Nat.le_of_ble_eq_true rfl⟩) (wd_preV (wd := xw c q) (k := 6) hev hK hP hD hE hS (xw_6 c q σ) rfl) rfl rfl hl.1 rfl (lv_room (Nat.le_of_ble_eq_true rfl)) dX4_strikerOf_42 ⟨Nat.zero_le _, Nat.zero_le _⟩) hS (fun q _ h => h) (fun q h => h) (fun r6 σ7 t H1 locs1 ht hvm hw hB hz1 hk1 hS => ?_)
          have hP : va_P D vwCl (xw c q σ7) H1 := ht ▸ hB
          have hD : va_D (wdA 36 q) (xw c q σ7) := xw_D hD0
          refine lv_istore (lv' := [(7, .int r6), (0, .ref (q 18)), (1, .ref (q 6)), (2, .int z2), (3, .int z3), (4, .int y4), (5, .int y5), (6, .int y6)]) hx hb dX4_strikerOf_45 hl (by decide) rfl (fun ls hl => ?_)
          refine lv_iconst (v := (0 : Int32)) hx hb dX4_strikerOf_47 (by decide) ?_
          refine lv_istore (lv' := [(8, .int (0 : Int32)), (7, .int r6), (0, .ref (q 18)), (1, .ref (q 6)), (2, .int z2), (3, .int z3), (4, .int y4), (5, .int y5), (6, .int y6)]) hx hb dX4_strikerOf_48 hl (by decide) rfl (fun ls hl => ?_)
          obtain ⟨n22, hw⟩ := hw
          refine L50 _ _ z2 z3 y5 y6 r6 n22 y4 (0 : Int32) σ7 _ _ _ hw ?_ ?_ hP hS (lv_sub hl [2, 3, 4, 5, 6, 7, 8, 1, 0] rfl)
          · intro v23 v24 σ25 H locs ls hw hP hS hl
            have hD : va_D (wdA 36 q) (xw c q σ25) := xw_D hD0
            exact hk129 v23 y5 y6 σ25 _ _ _ hw hP hS (lv_sub hl [0, 1, 2, 3, 4, 5, 6] rfl)
          · intro v26 v27 σ28 H locs ls hw hP hS hl
            have hD : va_D (wdA 36 q) (xw c q σ28) := xw_D hD0
            refine lv_iload hx hb dX4_strikerOf_138 (lv_at hl 5 rfl) ?_
            refine lv_iload hx hb dX4_strikerOf_140 (lv_at hl 5 rfl) ?_
            refine lv_iadd hx hb dX4_strikerOf_142 ?_
            refine lv_topi (fun v29 ev29 => ?_)
            have hw := hw v29 ev29
            refine lv_istore (lv' := [(5, .int v29), (0, .ref (q 18)), (1, .ref (q 6)), (2, .int z2), (3, .int z3), (4, .int v26), (6, .int y6), (7, .int r6), (8, .int v27)]) hx hb dX4_strikerOf_143 hl (by decide) rfl (fun ls hl => ?_)
            obtain ⟨v30, ev30⟩ : ∃ z : Int32, z = y6 + (1 : Int32) := ⟨_, rfl⟩
            have hw := hw v30 ev30
            refine lv_iinc (v := v30) (lv' := [(6, .int v30), (5, .int v29), (0, .ref (q 18)), (1, .ref (q 6)), (2, .int z2), (3, .int z3), (4, .int v26), (7, .int r6), (8, .int v27)]) hx hb dX4_strikerOf_145 hl (k := 6) rfl (by rw [ev30]; rfl) (by decide) rfl (fun ls hl => ?_)
            refine lv_goto (tgt := 19) hx hb dX4_strikerOf_148 (by decide) ?_
            exact ih v26 v29 v30 σ28 _ _ _ hw hk129 hk151 hP hS (lv_sub hl [2, 3, 4, 5, 6, 1, 0] rfl)
  have hl := lv_entry ([.ref (q 18), .ref (q 6), .int x2, .int x3]) (n := 10) (Nat.le_of_ble_eq_true rfl)
  rw [lg_entry_eq]
  generalize (lg_sl ([.ref (q 18), .ref (q 6), .int x2, .int x3]) ++ List.replicate (10 - (lg_sl ([.ref (q 18), .ref (q 6), .int x2, .int x3])).length) Slot.unset).toArray = ls at hl ⊢
  have hl : lv_has ls 10 [(0, .ref (q 18)), (1, .ref (q 6)), (2, .int x2), (3, .int x3)] := hl
  unfold wX4_strikerOf at hw
  refine lv_iconst (v := (0 : Int32)) hx hb dX4_strikerOf_0 (by decide) ?_
  refine lv_istore (lv' := [(4, .int (0 : Int32)), (0, .ref (q 18)), (1, .ref (q 6)), (2, .int x2), (3, .int x3)]) hx hb dX4_strikerOf_1 hl (by decide) rfl (fun ls hl => ?_)
  refine lv_aload_n hx hb dX4_strikerOf_3 rfl (lv_at hl 1 rfl) ?_
  refine va_get (D := D) (ci := 4) (C := RX4) (T := TX4) (N := 2) hx hb htb inX4 hown hK hP 18 (xw_18 c q σ) rfl 1 (by decide) (htb _ tb_243) (fun _ h9 => h9) rfl dX4_strikerOf_4 ?_
  refine lv_iconst (v := (0 : Int32)) hx hb dX4_strikerOf_7 (by decide) ?_
  refine lv_aload_n hx hb dX4_strikerOf_8 rfl (lv_at hl 2 rfl) ?_
  refine va_calli (va_runV (As := []) (rest := [.int (0 : Int32), .ref (q 20)]) ⟨hx, hb, hml, hown, htb⟩ (kcX1_allThings_6 l D c q ev hev σ  _ hw) (tb_CW htb kX1_allThings tb_437 tb_438 tb_439 ⟨Nat.le_of_ble_eq_true rfl, Nat.le_of_ble_eq_true rfl⟩) (wd_preV (wd := xw c q) (k := 6) hev hK hP hD hE hS (xw_6 c q σ) rfl) rfl rfl hl.1 rfl (lv_room (Nat.le_of_ble_eq_true rfl)) dX4_strikerOf_9 ⟨Nat.zero_le _, Nat.zero_le _⟩) hS (fun q _ h => h) (fun q h => h) (fun r1 σ2 t H1 locs1 ht hvm hw hB hz1 hk1 hS => ?_)
  have hP : va_P D vwCl (xw c q σ2) H1 := ht ▸ hB
  have hD : va_D (wdA 36 q) (xw c q σ2) := xw_D hD0
  refine va_iast hx hb hK hP hD hS 20 14 (xw_20 c q σ2) rfl (by unfold vp_in; decide) dX4_strikerOf_12 (fun H locs hP hD hS => ?_)
  have hP : va_P D vwCl (xw c q (hsA σ2 20 (upd (σ2.2.1 20) (0 : Int32).toNatClampNeg r1))) H := hP
  obtain ⟨σ3, eσ3⟩ : ∃ z : hsS, z = hsA σ2 20 (upd (σ2.2.1 20) (0 : Int32).toNatClampNeg r1) := ⟨_, rfl⟩
  rw [← eσ3] at hP
  have hD : va_D (wdA 36 q) (xw c q σ3) := xw_D hD0
  have hw := hw σ3 eσ3
  refine lv_iconst (v := (1 : Int32)) hx hb dX4_strikerOf_13 (by decide) ?_
  refine lv_istore (lv' := [(5, .int (1 : Int32)), (4, .int (0 : Int32)), (0, .ref (q 18)), (1, .ref (q 6)), (2, .int x2), (3, .int x3)]) hx hb dX4_strikerOf_14 hl (by decide) rfl (fun ls hl => ?_)
  refine lv_iconst (v := (0 : Int32)) hx hb dX4_strikerOf_16 (by decide) ?_
  refine lv_istore (lv' := [(6, .int (0 : Int32)), (5, .int (1 : Int32)), (4, .int (0 : Int32)), (0, .ref (q 18)), (1, .ref (q 6)), (2, .int x2), (3, .int x3)]) hx hb dX4_strikerOf_17 hl (by decide) rfl (fun ls hl => ?_)
  obtain ⟨n31, hw⟩ := hw
  refine L19 _ _ x2 x3 n31 (0 : Int32) (1 : Int32) (0 : Int32) σ3 _ _ _ hw ?_ ?_ hP hS (lv_sub hl [3, 4, 5, 6, 2, 1, 0] rfl)
  · intro v32 v33 v34 σ35 H locs ls hw hP hS hl
    have hD : va_D (wdA 36 q) (xw c q σ35) := xw_D hD0
    refine lv_iload hx hb dX4_strikerOf_129 (lv_at hl 4 rfl) ?_
    exact W.iret hx hb hr (fun t ht hW => ⟨⟨_, σ35, rfl, hw, by unfold wdB; rw [ht]; exact hP⟩, hS.F ht⟩) hS.2.2 dX4_strikerOf_131
  · intro v36 v37 v38 σ39 H locs ls hw hP hS hl
    have hD : va_D (wdA 36 q) (xw c q σ39) := xw_D hD0
    refine lv_iload hx hb dX4_strikerOf_151 (lv_at hl 4 rfl) ?_
    exact W.iret hx hb hr (fun t ht hW => ⟨⟨_, σ39, rfl, hw, by unfold wdB; rw [ht]; exact hP⟩, hS.F ht⟩) hS.2.2 dX4_strikerOf_153
set_option maxHeartbeats 4000000 in
set_option maxRecDepth 100000 in
theorem kcX4_coreAsWeighed_18_6 (l : Launch) (D : va_G) (c : Nat → ClassId) (q : Nat → Nat) (ev : State → Heap → Prop) (hev : evOK (wdA 36 q) ev) (σ : hsS)  (post : Int32 → hsS → Prop) (hw : wX4_coreAsWeighed 18 6 post σ) : Met l yX4_coreAsWeighed (Cond.code yX4_coreAsWeighed cX4_coreAsWeighed 4 (some .int) :: tb_L) { frames := 3, cells := 0, slots := 0, locals := 76 } (wdPc D (xw c q) (xwT c) (wdA 36 q) ev σ [.ref (q 18), .ref (q 6)]) (va_Qi post (wdB D (xw c q)) (wdA 36 q)) 0 0 (wdA 36 q) := by
  refine Met.ofW (cc := cX4_coreAsWeighed) (maxL := 4) (ret := (some .int)) (by decide) rfl ?_
  intro p e s m args below meth c₀ s₁ Bd hml hv
  obtain ⟨rfl, hP, hK, hD0, hE⟩ := hv
  have hx := Bd.exec
  have hb := Bd.bytes
  have hr := Bd.returns
  have hts := atoms_spec (ws := Cond.code yX4_coreAsWeighed cX4_coreAsWeighed 4 (some .int) :: tb_L) Bd.pre
  have htb : ∀ w ∈ tb_L, w.before [.ref (q 18), .ref (q 6)].toArray s = true := fun w h => hts w (List.mem_cons_of_mem _ h)
  have hown : s.vm.findClass RX4 = some m.cls := findClass_of_methodNamed Bd.named
  have hlocks := Bd.notSynchronized
  have hS : va_S (wdA 36 q) s.heap s.heap [] := va_S.rf
  have hD := hD0
  have L4 : ∀ (K34 : Int32 → Int32 → hsS → Prop) (n : Nat) (y2 : Int32) (y3 : Int32) (σ : hsS) (H : Heap) (locs : List Loc) (ls : Array Slot), wX4_coreAsWeighed_L4 18 6 K34 post n y2 y3 σ → (∀ (y2 : Int32) (y3 : Int32) (σ : hsS) (H : Heap) (locs : List Loc) (ls : Array Slot), K34 y2 y3 σ → va_P D vwCl (xw c q σ) H → va_S (wdA 36 q) s.heap H locs → lv_has ls 4 [(0, .ref (q 18)), (1, .ref (q 6)), (2, .int y2), (3, .int y3)] → W p l e (headSpec (Cond.code yX4_coreAsWeighed cX4_coreAsWeighed 4 (some .int) :: tb_L) { frames := 3, cells := 0, slots := 0, locals := 76 }).room s m [.ref (q 18), .ref (q 6)].toArray below meth c₀ H locs 0 0 (MQ below (va_Qi post (wdB D (xw c q)) (wdA 36 q)) [.ref (q 18), .ref (q 6)].toArray s 0 0 (wdA 36 q)) (F0 m 34 ls [])) → va_P D vwCl (xw c q σ) H → va_S (wdA 36 q) s.heap H locs → lv_has ls 4 [(0, .ref (q 18)), (1, .ref (q 6)), (2, .int y2), (3, .int y3)] → W p l e (headSpec (Cond.code yX4_coreAsWeighed cX4_coreAsWeighed 4 (some .int) :: tb_L) { frames := 3, cells := 0, slots := 0, locals := 76 }).room s m [.ref (q 18), .ref (q 6)].toArray below meth c₀ H locs 0 0 (MQ below (va_Qi post (wdB D (xw c q)) (wdA 36 q)) [.ref (q 18), .ref (q 6)].toArray s 0 0 (wdA 36 q)) (F0 m 4 ls []) := by
    intro K34 n
    induction n with
    | zero =>
      intro y2 y3 σ H locs ls hw hk34 hP hS hl
      exact (show False from hw).elim
    | succ n ih =>
      intro y2 y3 σ H locs ls hw hk34 hP hS hl
      rw [wX4_coreAsWeighed_L4] at hw
      have hD : va_D (wdA 36 q) (xw c q σ) := xw_D hD0
      refine lv_iload_n hx hb dX4_coreAsWeighed_4 rfl (lv_at hl 3 rfl) ?_
      refine lv_aload_n hx hb dX4_coreAsWeighed_5 rfl (lv_at hl 1 rfl) ?_
      refine va_getN (D := D) (ci := 1) (C := RX1) (T := TX1) (N := 12) hx hb htb inX1 hown hK hP 6 (xw_6 c q σ) rfl 0 (by decide) (htb _ tb_127) (fun _ h9 => h9) rfl dX4_coreAsWeighed_6 ?_
      refine lv_icmp_ge (tgt := 34) hx hb dX4_coreAsWeighed_9 (by decide) (fun c1 => ?_) (fun c1 => ?_)
      · have hw := hw.1 c1
        exact hk34 y2 y3 σ _ _ _ hw hP hS (lv_sub hl [0, 1, 2, 3] rfl)
      · have hw := hw.2 c1
        refine lv_aload_n hx hb dX4_coreAsWeighed_12 rfl (lv_at hl 0 rfl) ?_
        refine lv_aload_n hx hb dX4_coreAsWeighed_13 rfl (lv_at hl 1 rfl) ?_
        refine lv_iload_n hx hb dX4_coreAsWeighed_14 rfl (lv_at hl 3 rfl) ?_
        refine lv_iconst (v := (1 : Int32)) hx hb dX4_coreAsWeighed_15 (by decide) ?_
        refine va_calli (va_runV (As := [.ref (q 6), .int y3, .int (1 : Int32)]) (rest := []) ⟨hx, hb, hml, hown, htb⟩ (kcX4_strikerOf_18_6 l D c q ev hev σ y3 (1 : Int32) _ hw) (tb_CW htb kX4_strikerOf tb_433 tb_434 tb_435 ⟨Nat.le_of_ble_eq_true rfl, Nat.le_of_ble_eq_true rfl⟩) (wd_preV (wd := xw c q) (k := 18) hev hK hP hD hE hS (xw_18 c q σ) rfl) rfl rfl hl.1 rfl (lv_room (Nat.le_of_ble_eq_true rfl)) dX4_coreAsWeighed_16 ⟨Nat.zero_le _, Nat.zero_le _⟩) hS (fun q _ h => h) (fun q h => h) (fun r2 σ3 t H1 locs1 ht hvm hw hB hz1 hk1 hS => ?_)
        have hP : va_P D vwCl (xw c q σ3) H1 := ht ▸ hB
        have hD : va_D (wdA 36 q) (xw c q σ3) := xw_D hD0
        refine lv_if_ne (tgt := 28) hx hb dX4_coreAsWeighed_19 (by decide) (fun c4 => ?_) (fun c4 => ?_)
        · have hw := hw.2 c4
          obtain ⟨v7, ev7⟩ : ∃ z : Int32, z = y3 + (1 : Int32) := ⟨_, rfl⟩
          have hw := hw v7 ev7
          refine lv_iinc (v := v7) (lv' := [(3, .int v7), (0, .ref (q 18)), (1, .ref (q 6)), (2, .int y2)]) hx hb dX4_coreAsWeighed_28 hl (k := 3) rfl (by rw [ev7]; rfl) (by decide) rfl (fun ls hl => ?_)
          refine lv_goto (tgt := 4) hx hb dX4_coreAsWeighed_31 (by decide) ?_
          exact ih y2 v7 σ3 _ _ _ hw hk34 hP hS (lv_sub hl [1, 2, 3, 0] rfl)
        · have hw := hw.1 c4
          refine lv_iload_n hx hb dX4_coreAsWeighed_22 rfl (lv_at hl 2 rfl) ?_
          refine lv_iconst (v := (1 : Int32)) hx hb dX4_coreAsWeighed_23 (by decide) ?_
          refine lv_iload_n hx hb dX4_coreAsWeighed_24 rfl (lv_at hl 3 rfl) ?_
          refine lv_ishl hx hb dX4_coreAsWeighed_25 ?_
          refine lv_ior hx hb dX4_coreAsWeighed_26 ?_
          refine lv_topi (fun v5 ev5 => ?_)
          have hw := hw v5 ev5
          refine lv_istore_n (lv' := [(2, .int v5), (0, .ref (q 18)), (1, .ref (q 6)), (3, .int y3)]) hx hb dX4_coreAsWeighed_27 rfl hl (by decide) rfl (fun ls hl => ?_)
          obtain ⟨v6, ev6⟩ : ∃ z : Int32, z = y3 + (1 : Int32) := ⟨_, rfl⟩
          have hw := hw v6 ev6
          refine lv_iinc (v := v6) (lv' := [(3, .int v6), (2, .int v5), (0, .ref (q 18)), (1, .ref (q 6))]) hx hb dX4_coreAsWeighed_28 hl (k := 3) rfl (by rw [ev6]; rfl) (by decide) rfl (fun ls hl => ?_)
          refine lv_goto (tgt := 4) hx hb dX4_coreAsWeighed_31 (by decide) ?_
          exact ih v5 v6 σ3 _ _ _ hw hk34 hP hS (lv_sub hl [2, 3, 1, 0] rfl)
  have hl := lv_entry ([.ref (q 18), .ref (q 6)]) (n := 4) (Nat.le_of_ble_eq_true rfl)
  rw [lg_entry_eq]
  generalize (lg_sl ([.ref (q 18), .ref (q 6)]) ++ List.replicate (4 - (lg_sl ([.ref (q 18), .ref (q 6)])).length) Slot.unset).toArray = ls at hl ⊢
  have hl : lv_has ls 4 [(0, .ref (q 18)), (1, .ref (q 6))] := hl
  unfold wX4_coreAsWeighed at hw
  refine lv_iconst (v := (0 : Int32)) hx hb dX4_coreAsWeighed_0 (by decide) ?_
  refine lv_istore_n (lv' := [(2, .int (0 : Int32)), (0, .ref (q 18)), (1, .ref (q 6))]) hx hb dX4_coreAsWeighed_1 rfl hl (by decide) rfl (fun ls hl => ?_)
  refine lv_iconst (v := (0 : Int32)) hx hb dX4_coreAsWeighed_2 (by decide) ?_
  refine lv_istore_n (lv' := [(3, .int (0 : Int32)), (2, .int (0 : Int32)), (0, .ref (q 18)), (1, .ref (q 6))]) hx hb dX4_coreAsWeighed_3 rfl hl (by decide) rfl (fun ls hl => ?_)
  obtain ⟨n8, hw⟩ := hw
  refine L4 _ n8 (0 : Int32) (0 : Int32) σ _ _ _ hw ?_ hP hS (lv_sub hl [2, 3, 1, 0] rfl)
  intro v9 v10 σ11 H locs ls hw hP hS hl
  have hD : va_D (wdA 36 q) (xw c q σ11) := xw_D hD0
  refine lv_iload_n hx hb dX4_coreAsWeighed_34 rfl (lv_at hl 2 rfl) ?_
  exact W.iret hx hb hr (fun t ht hW => ⟨⟨_, σ11, rfl, hw, by unfold wdB; rw [ht]; exact hP⟩, hS.F ht⟩) hS.2.2 dX4_coreAsWeighed_35
set_option maxHeartbeats 4000000 in
set_option maxRecDepth 100000 in
theorem kcX4_coreOf_18_6 (l : Launch) (D : va_G) (c : Nat → ClassId) (q : Nat → Nat) (ev : State → Heap → Prop) (hev : evOK (wdA 36 q) ev) (σ : hsS)  (post : Int32 → hsS → Prop) (hw : wX4_coreOf 18 6 post σ) : Met l yX4_coreOf (Cond.code yX4_coreOf cX4_coreOf 2 (some .int) :: tb_L) { frames := 4, cells := 0, slots := 0, locals := 106 } (wdPc D (xw c q) (xwT c) (wdA 36 q) ev σ [.ref (q 18), .ref (q 6)]) (va_Qi post (wdB D (xw c q)) (wdA 36 q)) 0 0 (wdA 36 q) := by
  refine Met.ofW (cc := cX4_coreOf) (maxL := 2) (ret := (some .int)) (by decide) rfl ?_
  intro p e s m args below meth c₀ s₁ Bd hml hv
  obtain ⟨rfl, hP, hK, hD0, hE⟩ := hv
  have hx := Bd.exec
  have hb := Bd.bytes
  have hr := Bd.returns
  have hts := atoms_spec (ws := Cond.code yX4_coreOf cX4_coreOf 2 (some .int) :: tb_L) Bd.pre
  have htb : ∀ w ∈ tb_L, w.before [.ref (q 18), .ref (q 6)].toArray s = true := fun w h => hts w (List.mem_cons_of_mem _ h)
  have hown : s.vm.findClass RX4 = some m.cls := findClass_of_methodNamed Bd.named
  have hlocks := Bd.notSynchronized
  have hS : va_S (wdA 36 q) s.heap s.heap [] := va_S.rf
  have hD := hD0
  have hl := lv_entry ([.ref (q 18), .ref (q 6)]) (n := 2) (Nat.le_of_ble_eq_true rfl)
  rw [lg_entry_eq]
  generalize (lg_sl ([.ref (q 18), .ref (q 6)]) ++ List.replicate (2 - (lg_sl ([.ref (q 18), .ref (q 6)])).length) Slot.unset).toArray = ls at hl ⊢
  have hl : lv_has ls 2 [(0, .ref (q 18)), (1, .ref (q 6))] := hl
  unfold wX4_coreOf at hw
  refine lv_aload_n hx hb dX4_coreOf_0 rfl (lv_at hl 0 rfl) ?_
  refine lv_aload_n hx hb dX4_coreOf_1 rfl (lv_at hl 1 rfl) ?_
  refine va_callv (va_runV (As := [.ref (q 6)]) (rest := []) ⟨hx, hb, hml, hown, htb⟩ (kcX4_weigh_18_6 l D c q ev hev σ  _ hw) (tb_CW htb kX4_weigh tb_423 tb_424 tb_425 ⟨Nat.le_of_ble_eq_true rfl, Nat.le_of_ble_eq_true rfl⟩) (wd_preV (wd := xw c q) (k := 18) hev hK hP hD hE hS (xw_18 c q σ) rfl) rfl rfl hl.1 rfl (lv_room (Nat.le_of_ble_eq_true rfl)) dX4_coreOf_2 ⟨Nat.zero_le _, Nat.zero_le _⟩) hS (fun q _ h => h) (fun q h => h) (fun σ2 t H1 locs1 ht hvm hw hB hz1 hk1 hS => ?_)
  have hP : va_P D vwCl (xw c q σ2) H1 := ht ▸ hB
  have hD : va_D (wdA 36 q) (xw c q σ2) := xw_D hD0
  refine lv_aload_n hx hb dX4_coreOf_5 rfl (lv_at hl 0 rfl) ?_
  refine lv_aload_n hx hb dX4_coreOf_6 rfl (lv_at hl 1 rfl) ?_
  refine va_calli (va_runV (As := [.ref (q 6)]) (rest := []) ⟨hx, hb, hml, hown, htb⟩ (kcX4_coreAsWeighed_18_6 l D c q ev hev σ2  _ hw) (tb_CW htb kX4_coreAsWeighed tb_429 tb_430 tb_431 ⟨Nat.le_of_ble_eq_true rfl, Nat.le_of_ble_eq_true rfl⟩) (wd_preV (wd := xw c q) (k := 18) hev hK hP hD hE hS (xw_18 c q σ2) rfl) rfl rfl hl.1 rfl (lv_room (Nat.le_of_ble_eq_true rfl)) dX4_coreOf_7 ⟨Nat.zero_le _, Nat.zero_le _⟩) hS (fun q _ h => h) (fun q h => h) (fun r3 σ4 t H1 locs1 ht hvm hw hB hz1 hk1 hS => ?_)
  have hP : va_P D vwCl (xw c q σ4) H1 := ht ▸ hB
  have hD : va_D (wdA 36 q) (xw c q σ4) := xw_D hD0
  exact W.iret hx hb hr (fun t ht hW => ⟨⟨_, σ4, rfl, hw, by unfold wdB; rw [ht]; exact hP⟩, hS.F ht⟩) hS.2.2 dX4_coreOf_10
def wX7_copy (x1 : Int32) (post : Int32 → hsS → Prop) (px : hsS → Prop) (σ : hsS) : Prop := wX7_needThing x1 (fun σ2 => (((σ2.1 64) < (9 : Int32) → wX1_takeFrom 6 1 (fun σ5 => wX1_putCopy 6 x1 (fun σ7 => wX4_coreOf 18 6 (fun r8 σ9 => post r8 σ9) σ7) σ5) σ2) ∧ (¬ (σ2.1 64) < (9 : Int32) → post (-1 : Int32) σ2))) px σ
set_option maxHeartbeats 4000000 in
set_option maxRecDepth 100000 in
theorem kcX7_copy (l : Launch) (D : va_G) (c : Nat → ClassId) (q : Nat → Nat) (ev : State → Heap → Prop) (hev : evOK (wdA 36 q) ev) (hst : l.stackTraces = false) (hX : ∀ (U : State) (H : Heap), ev U H → evT (wdA 36 q) U H) (σ : hsS) (x1 : Int32) (post : Int32 → hsS → Prop) (px : hsS → Prop) (hw : wX7_copy x1 post px σ) : vx_Met l yX7_copy (Cond.code yX7_copy cX7_copy 2 (some .int) :: tb_L) { frames := 9, cells := 1, slots := 6, locals := 149 } (wdPc D (xw c q) (xwT c) (wdA 36 q) ev σ [.ref (q 0), .int x1]) (va_Qi post (wdB D (xw c q)) (wdA 36 q)) (vx_X px (xpB D (xw c q) "java/util/NoSuchElementException") (wdA 36 q)) 1 6 (wdA 36 q) := by
  refine vx_ofW (cc := cX7_copy) (maxL := 2) (ret := (some .int)) (by decide) rfl ?_
  intro p e s m args below meth c₀ s₁ Bd hml htab hv
  obtain ⟨rfl, hP, hK, hD0, hE⟩ := hv
  have hx := Bd.exec
  have hb := Bd.bytes
  have hr := Bd.returns
  have hts := atoms_spec (ws := Cond.code yX7_copy cX7_copy 2 (some .int) :: tb_L) Bd.pre
  have htb : ∀ w ∈ tb_L, w.before [.ref (q 0), .int x1].toArray s = true := fun w h => hts w (List.mem_cons_of_mem _ h)
  have hown : s.vm.findClass RX7 = some m.cls := findClass_of_methodNamed Bd.named
  have hlocks := Bd.notSynchronized
  have hS : va_S (wdA 36 q) s.heap s.heap [] := va_S.rf
  have hD := hD0
  have hl := lv_entry ([.ref (q 0), .int x1]) (n := 2) (Nat.le_of_ble_eq_true rfl)
  rw [lg_entry_eq]
  generalize (lg_sl ([.ref (q 0), .int x1]) ++ List.replicate (2 - (lg_sl ([.ref (q 0), .int x1])).length) Slot.unset).toArray = ls at hl ⊢
  have hl : lv_has ls 2 [(0, .ref (q 0)), (1, .int x1)] := hl
  unfold wX7_copy at hw
  refine lv_aload_n hx hb dX7_copy_0 rfl (lv_at hl 0 rfl) ?_
  refine lv_iload_n hx hb dX7_copy_1 rfl (lv_at hl 1 rfl) ?_
  refine vx_callv (vx_runV (As := [.int x1]) (rest := []) ⟨hx, hb, hml, hown, htb⟩ (kcX7_needThing l D c q ev hev hst hX σ x1 _ px hw) (tb_CW htb kX7_needThing tb_911 tb_913 tb_33 ⟨Nat.le_of_ble_eq_true rfl, Nat.le_of_ble_eq_true rfl⟩) (wd_preV (wd := xw c q) (k := 0) hev hK hP hD hE hS (xw_0 c q σ) rfl) rfl rfl hl.1 rfl (lv_room (Nat.le_of_ble_eq_true rfl)) dX7_copy_2 ⟨Nat.le_of_ble_eq_true rfl, Nat.le_of_ble_eq_true rfl⟩) hS (fun q _ h => h) (fun q h => h) (fun q _ h => h) (fun E9 ce9 q9 σx t H1 locs1 ht hvm hpx hBX hz1 hk1 hS hce hcv hcl => vx_out (fun x h => (htab x h).elim) hlocks hce hcv hcl (fun t2 ht2 _ => ⟨σx, hpx, ⟨hBX.1, by rw [ht2, ← ht]; exact hBX.2⟩, hS.F ht2⟩) hS.2.2 (Nat.le_of_ble_eq_true rfl) (Nat.le_of_ble_eq_true rfl)) (fun σ2 t H1 locs1 ht hvm hw hB hz1 hk1 hS => ?_)
  have hP : va_P D vwCl (xw c q σ2) H1 := ht ▸ hB
  have hD : va_D (wdA 36 q) (xw c q σ2) := xw_D hD0
  refine lv_aload_n hx hb dX7_copy_5 rfl (lv_at hl 0 rfl) ?_
  refine va_get (D := D) (ci := 7) (C := RX7) (T := TX7) (N := 9) hx hb htb inX7 hown hK hP 0 (xw_0 c q σ2) rfl 0 (by decide) (htb _ tb_342) (fun _ h9 => h9) rfl dX7_copy_6 ?_
  refine va_getN (D := D) (ci := 1) (C := RX1) (T := TX1) (N := 12) hx hb htb inX1 hown hK hP 1 (xw_1 c q σ2) rfl 0 (by decide) (htb _ tb_130) (fun _ h9 => h9) rfl dX7_copy_9 ?_
  refine lv_bipush (v := (9 : Int32)) hx hb dX7_copy_12 (by decide) ?_
  refine lv_icmp_lt (tgt := 19) hx hb dX7_copy_14 (by decide) (fun c3 => ?_) (fun c3 => ?_)
  · have hw := hw.1 c3
    refine lv_aload_n hx hb dX7_copy_19 rfl (lv_at hl 0 rfl) ?_
    refine va_get (D := D) (ci := 7) (C := RX7) (T := TX7) (N := 9) hx hb htb inX7 hown hK hP 0 (xw_0 c q σ2) rfl 1 (by decide) (htb _ tb_343) (fun _ h9 => h9) rfl dX7_copy_20 ?_
    refine lv_aload_n hx hb dX7_copy_23 rfl (lv_at hl 0 rfl) ?_
    refine va_get (D := D) (ci := 7) (C := RX7) (T := TX7) (N := 9) hx hb htb inX7 hown hK hP 0 (xw_0 c q σ2) rfl 0 (by decide) (htb _ tb_342) (fun _ h9 => h9) rfl dX7_copy_24 ?_
    refine va_callv (va_runV (As := [.ref (q 1)]) (rest := []) ⟨hx, hb, hml, hown, htb⟩ (kcX1_takeFrom_6_1 l D c q ev hev σ2  _ hw) (tb_CW htb kX1_takeFrom tb_858 tb_569 tb_570 ⟨Nat.le_of_ble_eq_true rfl, Nat.le_of_ble_eq_true rfl⟩) (wd_preV (wd := xw c q) (k := 6) hev hK hP hD hE hS (xw_6 c q σ2) rfl) rfl rfl hl.1 rfl (lv_room (Nat.le_of_ble_eq_true rfl)) dX7_copy_27 ⟨Nat.le_of_ble_eq_true rfl, Nat.le_of_ble_eq_true rfl⟩) hS (fun q _ h => h) (fun q h => h) (fun σ5 t H1 locs1 ht hvm hw hB hz1 hk1 hS => ?_)
    have hP : va_P D vwCl (xw c q σ5) H1 := ht ▸ hB
    have hD : va_D (wdA 36 q) (xw c q σ5) := xw_D hD0
    refine lv_aload_n hx hb dX7_copy_30 rfl (lv_at hl 0 rfl) ?_
    refine va_get (D := D) (ci := 7) (C := RX7) (T := TX7) (N := 9) hx hb htb inX7 hown hK hP 0 (xw_0 c q σ5) rfl 1 (by decide) (htb _ tb_343) (fun _ h9 => h9) rfl dX7_copy_31 ?_
    refine lv_iload_n hx hb dX7_copy_34 rfl (lv_at hl 1 rfl) ?_
    refine va_callv (va_runV (As := [.int x1]) (rest := []) ⟨hx, hb, hml, hown, htb⟩ (kcX1_putCopy_6 l D c q ev hev σ5 x1 _ hw) (tb_CW htb kX1_putCopy tb_1084 tb_1085 tb_1086 ⟨Nat.le_of_ble_eq_true rfl, Nat.le_of_ble_eq_true rfl⟩) (wd_preV (wd := xw c q) (k := 6) hev hK hP hD hE hS (xw_6 c q σ5) rfl) rfl rfl hl.1 rfl (lv_room (Nat.le_of_ble_eq_true rfl)) dX7_copy_35 ⟨Nat.le_of_ble_eq_true rfl, Nat.le_of_ble_eq_true rfl⟩) hS (fun q _ h => h) (fun q h => h) (fun σ7 t H1 locs1 ht hvm hw hB hz1 hk1 hS => ?_)
    have hP : va_P D vwCl (xw c q σ7) H1 := ht ▸ hB
    have hD : va_D (wdA 36 q) (xw c q σ7) := xw_D hD0
    refine lv_aload_n hx hb dX7_copy_38 rfl (lv_at hl 0 rfl) ?_
    refine va_get (D := D) (ci := 7) (C := RX7) (T := TX7) (N := 9) hx hb htb inX7 hown hK hP 0 (xw_0 c q σ7) rfl 3 (by decide) (htb _ tb_345) (fun _ h9 => h9) rfl dX7_copy_39 ?_
    refine lv_aload_n hx hb dX7_copy_42 rfl (lv_at hl 0 rfl) ?_
    refine va_get (D := D) (ci := 7) (C := RX7) (T := TX7) (N := 9) hx hb htb inX7 hown hK hP 0 (xw_0 c q σ7) rfl 1 (by decide) (htb _ tb_343) (fun _ h9 => h9) rfl dX7_copy_43 ?_
    refine va_calli (va_runV (As := [.ref (q 6)]) (rest := []) ⟨hx, hb, hml, hown, htb⟩ (kcX4_coreOf_18_6 l D c q ev hev σ7  _ hw) (tb_CW htb kX4_coreOf tb_419 tb_420 tb_421 ⟨Nat.le_of_ble_eq_true rfl, Nat.le_of_ble_eq_true rfl⟩) (wd_preV (wd := xw c q) (k := 18) hev hK hP hD hE hS (xw_18 c q σ7) rfl) rfl rfl hl.1 rfl (lv_room (Nat.le_of_ble_eq_true rfl)) dX7_copy_46 ⟨Nat.le_of_ble_eq_true rfl, Nat.le_of_ble_eq_true rfl⟩) hS (fun q _ h => h) (fun q h => h) (fun r8 σ9 t H1 locs1 ht hvm hw hB hz1 hk1 hS => ?_)
    have hP : va_P D vwCl (xw c q σ9) H1 := ht ▸ hB
    have hD : va_D (wdA 36 q) (xw c q σ9) := xw_D hD0
    exact vx_ret (W.widen (k := 1) (n := 6) (Nat.le_of_ble_eq_true rfl) (Nat.le_of_ble_eq_true rfl) (W.iret hx hb hr (fun t ht hW => ⟨⟨_, σ9, rfl, hw, by unfold wdB; rw [ht]; exact hP⟩, hS.F ht⟩) hS.2.2 dX7_copy_49))
  · have hw := hw.2 c3
    refine lv_iconst (v := (-1 : Int32)) hx hb dX7_copy_17 (by decide) ?_
    exact vx_ret (W.widen (k := 1) (n := 6) (Nat.le_of_ble_eq_true rfl) (Nat.le_of_ble_eq_true rfl) (W.iret hx hb hr (fun t ht hW => ⟨⟨_, σ2, rfl, hw, by unfold wdB; rw [ht]; exact hP⟩, hS.F ht⟩) hS.2.2 dX7_copy_18))
