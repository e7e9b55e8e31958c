theorem kX5_openingStrike : tbM yX5_openingStrike cX5_openingStrike 2 (some .int) 1 := ⟨tb_508, tb_94, by decide +kernel, by decide +kernel⟩
theorem kX7_first : tbM yX7_first cX7_first 1 (some .int) 0 := ⟨tb_504, tb_90, by decide +kernel, by decide +kernel⟩
theorem kX1_backEnd : tbM yX1_backEnd cX1_backEnd 3 (some .int) 0 := ⟨tb_516, tb_91, by decide +kernel, by decide +kernel⟩
theorem kX7_back : tbM yX7_back cX7_back 1 (some .int) 0 := ⟨tb_512, tb_90, by decide +kernel, by decide +kernel⟩
theorem kX1_takeFrom : tbM yX1_takeFrom cX1_takeFrom 2 none 1 := ⟨tb_571, tb_91, by decide +kernel, by decide +kernel⟩
theorem kX7_tradePays : tbM yX7_tradePays cX7_tradePays 7 (some .boolean) 3 := ⟨tb_1044, tb_90, by decide +kernel, by decide +kernel⟩
theorem kX1_greatestGrumble : tbM yX1_greatestGrumble cX1_greatestGrumble 4 (some .int) 1 := ⟨tb_533, tb_91, by decide +kernel, by decide +kernel⟩
theorem kX1_wholeGrumble : tbM yX1_wholeGrumble cX1_wholeGrumble 4 (some .int) 1 := ⟨tb_537, tb_91, by decide +kernel, by decide +kernel⟩
theorem kX7_grumblesLess : tbM yX7_grumblesLess cX7_grumblesLess 5 (some .boolean) 2 := ⟨tb_529, tb_90, by decide +kernel, by decide +kernel⟩
theorem kX7_leastGrumbled : tbM yX7_leastGrumbled cX7_leastGrumbled 5 (some .int) 0 := ⟨tb_524, tb_90, by decide +kernel, by decide +kernel⟩
theorem kX7_least : tbM yX7_least cX7_least 1 (some .int) 0 := ⟨tb_520, tb_90, by decide +kernel, by decide +kernel⟩
theorem kX1_headWeight : tbM yX1_headWeight cX1_headWeight 4 (some .int) 1 := ⟨tb_1063, tb_91, by decide +kernel, by decide +kernel⟩
theorem kX1_thingOfMostHeads : tbM yX1_thingOfMostHeads cX1_thingOfMostHeads 3 (some .int) 0 := ⟨tb_1074, tb_91, by decide +kernel, by decide +kernel⟩
theorem kX1_groupSize : tbM yX1_groupSize cX1_groupSize 5 (some .int) 2 := ⟨tb_556, tb_91, by decide +kernel, by decide +kernel⟩
theorem kX2_ordersOf : tbM yX2_ordersOf cX2_ordersOf 4 (some .int) 2 := ⟨tb_552, tb_96, by decide +kernel, by decide +kernel⟩
theorem kX2_countWays : tbM yX2_countWays cX2_countWays 3 none 1 := ⟨tb_549, tb_96, by decide +kernel, by decide +kernel⟩
theorem kX2_spent : tbM yX2_spent cX2_spent 1 (some .boolean) 0 := ⟨tb_567, tb_96, by decide +kernel, by decide +kernel⟩
def wX5_openingStrike (b0 : Nat) (b1 : Nat) (post : Int32 → hsS → Prop) (σ : hsS) : Prop := (((σ.1 (64 * b1 + 6)) = (0 : Int32) → post (-1 : Int32) σ) ∧ (¬ (σ.1 (64 * b1 + 6)) = (0 : Int32) → wX5_lookBack b0 b1 (fun σ3 => wX1_allThings b1 (fun r4 σ5 => wX5_bestStrike b0 b1 (σ3.2.1 (b1 + 4) (0 : Int32).toNatClampNeg) r4 (fun r6 σ7 => post r6 σ7) σ5) σ3) σ))
set_option maxHeartbeats 4000000 in
set_option maxRecDepth 100000 in
theorem kcX5_openingStrike_21_1 (l : Launch) (D : va_G) (c : Nat → ClassId) (q : Nat → Nat) (ev : State → Heap → Prop) (hev : evOK (wdA 36 q) ev) (σ : hsS)  (post : Int32 → hsS → Prop) (hw : wX5_openingStrike 21 1 post σ) : Met l yX5_openingStrike (Cond.code yX5_openingStrike cX5_openingStrike 2 (some .int) :: tb_L) { frames := 4, cells := 0, slots := 0, locals := 117 } (wdPc D (xw c q) (xwT c) (wdA 36 q) ev σ [.ref (q 21), .ref (q 1)]) (va_Qi post (wdB D (xw c q)) (wdA 36 q)) 0 0 (wdA 36 q) := by
  refine Met.ofW (cc := cX5_openingStrike) (maxL := 2) (ret := (some .int)) (by decide) rfl ?_
  intro p e s m args below meth c₀ s₁ Bd hml hv
  obtain ⟨rfl, hP, hK, hD0, hE⟩ := hv
  have hx := Bd.exec
  have hb := Bd.bytes
  have hr := Bd.returns
  have hts := atoms_spec (ws := Cond.code yX5_openingStrike cX5_openingStrike 2 (some .int) :: tb_L) Bd.pre
  have htb : ∀ w ∈ tb_L, w.before [.ref (q 21), .ref (q 1)].toArray s = true := fun w h => hts w (List.mem_cons_of_mem _ h)
  have hown : s.vm.findClass RX5 = some m.cls := findClass_of_methodNamed Bd.named
  have hlocks := Bd.notSynchronized
  have hS : va_S (wdA 36 q) s.heap s.heap [] := va_S.rf
  have hD := hD0
  have hl := lv_entry ([.ref (q 21), .ref (q 1)]) (n := 2) (Nat.le_of_ble_eq_true rfl)
  rw [lg_entry_eq]
  generalize (lg_sl ([.ref (q 21), .ref (q 1)]) ++ List.replicate (2 - (lg_sl ([.ref (q 21), .ref (q 1)])).length) Slot.unset).toArray = ls at hl ⊢
  have hl : lv_has ls 2 [(0, .ref (q 21)), (1, .ref (q 1))] := hl
  unfold wX5_openingStrike at hw
  refine lv_aload_n hx hb dX5_openingStrike_0 rfl (lv_at hl 1 rfl) ?_
  refine va_getN (D := D) (ci := 1) (C := RX1) (T := TX1) (N := 12) hx hb htb inX1 hown hK hP 1 (xw_1 c q σ) rfl 6 (by decide) (htb _ tb_149) (fun _ h9 => h9) rfl dX5_openingStrike_1 ?_
  refine lv_if_ne (tgt := 9) hx hb dX5_openingStrike_4 (by decide) (fun c1 => ?_) (fun c1 => ?_)
  · have hw := hw.2 c1
    refine lv_aload_n hx hb dX5_openingStrike_9 rfl (lv_at hl 0 rfl) ?_
    refine lv_aload_n hx hb dX5_openingStrike_10 rfl (lv_at hl 1 rfl) ?_
    refine va_callv (va_runV (As := [.ref (q 1)]) (rest := []) ⟨hx, hb, hml, hown, htb⟩ (kcX5_lookBack_21_1 l D c q ev hev σ  _ hw) (tb_CW htb kX5_lookBack tb_478 tb_480 tb_1 ⟨Nat.le_of_ble_eq_true rfl, Nat.le_of_ble_eq_true rfl⟩) (wd_preV (wd := xw c q) (k := 21) hev hK hP hD hE hS (xw_21 c q σ) rfl) rfl rfl hl.1 rfl (lv_room (Nat.le_of_ble_eq_true rfl)) dX5_openingStrike_11 ⟨Nat.zero_le _, Nat.zero_le _⟩) hS (fun q _ h => h) (fun q h => h) (fun σ3 t H1 locs1 ht hvm hw hB hz1 hk1 hS => ?_)
    have hP : va_P D vwCl (xw c q σ3) H1 := ht ▸ hB
    have hD : va_D (wdA 36 q) (xw c q σ3) := xw_D hD0
    refine lv_aload_n hx hb dX5_openingStrike_14 rfl (lv_at hl 0 rfl) ?_
    refine lv_aload_n hx hb dX5_openingStrike_15 rfl (lv_at hl 1 rfl) ?_
    refine lv_aload_n hx hb dX5_openingStrike_16 rfl (lv_at hl 1 rfl) ?_
    refine va_getN (D := D) (ci := 1) (C := RX1) (T := TX1) (N := 12) hx hb htb inX1 hown hK hP 1 (xw_1 c q σ3) rfl 11 (by decide) (htb _ tb_162) (fun _ h9 => h9) rfl dX5_openingStrike_17 ?_
    refine lv_iconst (v := (0 : Int32)) hx hb dX5_openingStrike_20 (by decide) ?_
    refine va_iald hx hb hK hP 5 3 (xw_5 c q σ3) rfl (by unfold vp_in; decide) dX5_openingStrike_21 ?_
    refine lv_aload_n hx hb dX5_openingStrike_22 rfl (lv_at hl 1 rfl) ?_
    refine va_calli (va_runV (As := []) (rest := [.int (σ3.2.1 5 (0 : Int32).toNatClampNeg), .ref (q 1), .ref (q 21)]) ⟨hx, hb, hml, hown, htb⟩ (kcX1_allThings_1 l D c q ev hev σ3  _ hw) (tb_CW htb kX1_allThings tb_482 tb_438 tb_439 ⟨Nat.le_of_ble_eq_true rfl, Nat.le_of_ble_eq_true rfl⟩) (wd_preV (wd := xw c q) (k := 1) hev hK hP hD hE hS (xw_1 c q σ3) rfl) rfl rfl hl.1 rfl (lv_room (Nat.le_of_ble_eq_true rfl)) dX5_openingStrike_23 ⟨Nat.zero_le _, Nat.zero_le _⟩) hS (fun q _ h => h) (fun q h => h) (fun r4 σ5 t H1 locs1 ht hvm hw hB hz1 hk1 hS => ?_)
    have hP : va_P D vwCl (xw c q σ5) H1 := ht ▸ hB
    have hD : va_D (wdA 36 q) (xw c q σ5) := xw_D hD0
    refine va_calli (va_runV (As := [.ref (q 1), .int (σ3.2.1 5 (0 : Int32).toNatClampNeg), .int r4]) (rest := []) ⟨hx, hb, hml, hown, htb⟩ (kcX5_bestStrike_21_1 l D c q ev hev σ5 (σ3.2.1 5 (0 : Int32).toNatClampNeg) r4 _ hw) (tb_CW htb kX5_bestStrike tb_485 tb_487 tb_2 ⟨Nat.le_of_ble_eq_true rfl, Nat.le_of_ble_eq_true rfl⟩) (wd_preV (wd := xw c q) (k := 21) hev hK hP hD hE hS (xw_21 c q σ5) rfl) rfl rfl hl.1 rfl (lv_room (Nat.le_of_ble_eq_true rfl)) dX5_openingStrike_26 ⟨Nat.zero_le _, Nat.zero_le _⟩) hS (fun q _ h => h) (fun q h => h) (fun r6 σ7 t H1 locs1 ht hvm hw hB hz1 hk1 hS => ?_)
    have hP : va_P D vwCl (xw c q σ7) H1 := ht ▸ hB
    have hD : va_D (wdA 36 q) (xw c q σ7) := xw_D hD0
    exact W.iret hx hb hr (fun t ht hW => ⟨⟨_, σ7, rfl, hw, by unfold wdB; rw [ht]; exact hP⟩, hS.F ht⟩) hS.2.2 dX5_openingStrike_29
  · have hw := hw.1 c1
    refine lv_iconst (v := (-1 : Int32)) hx hb dX5_openingStrike_7 (by decide) ?_
    exact W.iret hx hb hr (fun t ht hW => ⟨⟨_, σ, rfl, hw, by unfold wdB; rw [ht]; exact hP⟩, hS.F ht⟩) hS.2.2 dX5_openingStrike_8
def wX7_first  (post : Int32 → hsS → Prop) (σ : hsS) : Prop := wX5_openingStrike 21 1 (fun r1 σ2 => post r1 σ2) σ
set_option maxHeartbeats 4000000 in
set_option maxRecDepth 100000 in
theorem kcX7_first (l : Launch) (D : va_G) (c : Nat → ClassId) (q : Nat → Nat) (ev : State → Heap → Prop) (hev : evOK (wdA 36 q) ev) (σ : hsS)  (post : Int32 → hsS → Prop) (hw : wX7_first  post σ) : Met l yX7_first (Cond.code yX7_first cX7_first 1 (some .int) :: tb_L) { frames := 5, cells := 0, slots := 0, locals := 138 } (wdPc D (xw c q) (xwT c) (wdA 36 q) ev σ [.ref (q 0)]) (va_Qi post (wdB D (xw c q)) (wdA 36 q)) 0 0 (wdA 36 q) := by
  refine Met.ofW (cc := cX7_first) (maxL := 1) (ret := (some .int)) (by decide) rfl ?_
  intro p e s m args below meth c₀ s₁ Bd hml hv
  obtain ⟨rfl, hP, hK, hD0, hE⟩ := hv
  have hx := Bd.exec
  have hb := Bd.bytes
  have hr := Bd.returns
  have hts := atoms_spec (ws := Cond.code yX7_first cX7_first 1 (some .int) :: tb_L) Bd.pre
  have htb : ∀ w ∈ tb_L, w.before [.ref (q 0)].toArray s = true := fun w h => hts w (List.mem_cons_of_mem _ h)
  have hown : s.vm.findClass RX7 = some m.cls := findClass_of_methodNamed Bd.named
  have hlocks := Bd.notSynchronized
  have hS : va_S (wdA 36 q) s.heap s.heap [] := va_S.rf
  have hD := hD0
  have hl := lv_entry ([.ref (q 0)]) (n := 1) (Nat.le_of_ble_eq_true rfl)
  rw [lg_entry_eq]
  generalize (lg_sl ([.ref (q 0)]) ++ List.replicate (1 - (lg_sl ([.ref (q 0)])).length) Slot.unset).toArray = ls at hl ⊢
  have hl : lv_has ls 1 [(0, .ref (q 0))] := hl
  unfold wX7_first at hw
  refine lv_aload_n hx hb dX7_first_0 rfl (lv_at hl 0 rfl) ?_
  refine va_get (D := D) (ci := 7) (C := RX7) (T := TX7) (N := 9) hx hb htb inX7 hown hK hP 0 (xw_0 c q σ) rfl 4 (by decide) (htb _ tb_346) (fun _ h9 => h9) rfl dX7_first_1 ?_
  refine lv_aload_n hx hb dX7_first_4 rfl (lv_at hl 0 rfl) ?_
  refine va_get (D := D) (ci := 7) (C := RX7) (T := TX7) (N := 9) hx hb htb inX7 hown hK hP 0 (xw_0 c q σ) rfl 0 (by decide) (htb _ tb_342) (fun _ h9 => h9) rfl dX7_first_5 ?_
  refine va_calli (va_runV (As := [.ref (q 1)]) (rest := []) ⟨hx, hb, hml, hown, htb⟩ (kcX5_openingStrike_21_1 l D c q ev hev σ  _ hw) (tb_CW htb kX5_openingStrike tb_505 tb_506 tb_507 ⟨Nat.le_of_ble_eq_true rfl, Nat.le_of_ble_eq_true rfl⟩) (wd_preV (wd := xw c q) (k := 21) hev hK hP hD hE hS (xw_21 c q σ) rfl) rfl rfl hl.1 rfl (lv_room (Nat.le_of_ble_eq_true rfl)) dX7_first_8 ⟨Nat.zero_le _, Nat.zero_le _⟩) hS (fun q _ h => h) (fun q h => h) (fun r1 σ2 t H1 locs1 ht hvm hw hB hz1 hk1 hS => ?_)
  have hP : va_P D vwCl (xw c q σ2) H1 := ht ▸ hB
  have hD : va_D (wdA 36 q) (xw c q σ2) := xw_D hD0
  exact W.iret hx hb hr (fun t ht hW => ⟨⟨_, σ2, rfl, hw, by unfold wdB; rw [ht]; exact hP⟩, hS.F ht⟩) hS.2.2 dX7_first_11
def wX1_backEnd_L12 (b0 : Nat) (K34 : Int32 → Int32 → hsS → Prop) (post : Int32 → hsS → Prop) : Nat → Int32 → Int32 → hsS → Prop
  | 0, _, _, _ => False
  | n + 1, y1, y2, σ => ((y2 < (0 : Int32) → K34 y1 y2 σ) ∧ (¬ y2 < (0 : Int32) → vp_in y2 8 ∧ wX1_strikePlainly b0 (σ.2.1 (b0 + 4) y2.toNatClampNeg) y1 (fun r5 σ6 => ∀ v7 : Int32, v7 = y2 + (-1 : Int32) → wX1_backEnd_L12 b0 K34 post n r5 v7 σ6) σ))
def wX1_backEnd (b0 : Nat) (post : Int32 → hsS → Prop) (σ : hsS) : Prop := wX1_allThings b0 (fun r1 σ2 => ∀ v3 : Int32, v3 = (σ2.1 (64 * b0 + 6)) - (1 : Int32) → ∃ n8, wX1_backEnd_L12 b0 (fun v9 v10 σ11 => post v9 σ11) post n8 r1 v3 σ2) σ
set_option maxHeartbeats 4000000 in
set_option maxRecDepth 100000 in
theorem kcX1_backEnd_1 (l : Launch) (D : va_G) (c : Nat → ClassId) (q : Nat → Nat) (ev : State → Heap → Prop) (hev : evOK (wdA 36 q) ev) (σ : hsS)  (post : Int32 → hsS → Prop) (hw : wX1_backEnd 1 post σ) : Met l yX1_backEnd (Cond.code yX1_backEnd cX1_backEnd 3 (some .int) :: tb_L) { frames := 3, cells := 0, slots := 0, locals := 68 } (wdPc D (xw c q) (xwT c) (wdA 36 q) ev σ [.ref (q 1)]) (va_Qi post (wdB D (xw c q)) (wdA 36 q)) 0 0 (wdA 36 q) := by
  refine Met.ofW (cc := cX1_backEnd) (maxL := 3) (ret := (some .int)) (by decide) rfl ?_
  intro p e s m args below meth c₀ s₁ Bd hml hv
  obtain ⟨rfl, hP, hK, hD0, hE⟩ := hv
  have hx := Bd.exec
  have hb := Bd.bytes
  have hr := Bd.returns
  have hts := atoms_spec (ws := Cond.code yX1_backEnd cX1_backEnd 3 (some .int) :: tb_L) Bd.pre
  have htb : ∀ w ∈ tb_L, w.before [.ref (q 1)].toArray s = true := fun w h => hts w (List.mem_cons_of_mem _ h)
  have hown : s.vm.findClass RX1 = some m.cls := findClass_of_methodNamed Bd.named
  have hlocks := Bd.notSynchronized
  have hS : va_S (wdA 36 q) s.heap s.heap [] := va_S.rf
  have hD := hD0
  have L12 : ∀ (K34 : Int32 → Int32 → hsS → Prop) (n : Nat) (y1 : Int32) (y2 : Int32) (σ : hsS) (H : Heap) (locs : List Loc) (ls : Array Slot), wX1_backEnd_L12 1 K34 post n y1 y2 σ → (∀ (y1 : Int32) (y2 : Int32) (σ : hsS) (H : Heap) (locs : List Loc) (ls : Array Slot), K34 y1 y2 σ → va_P D vwCl (xw c q σ) H → va_S (wdA 36 q) s.heap H locs → lv_has ls 3 [(0, .ref (q 1)), (1, .int y1), (2, .int y2)] → W p l e (headSpec (Cond.code yX1_backEnd cX1_backEnd 3 (some .int) :: tb_L) { frames := 3, cells := 0, slots := 0, locals := 68 }).room s m [.ref (q 1)].toArray below meth c₀ H locs 0 0 (MQ below (va_Qi post (wdB D (xw c q)) (wdA 36 q)) [.ref (q 1)].toArray s 0 0 (wdA 36 q)) (F0 m 34 ls [])) → va_P D vwCl (xw c q σ) H → va_S (wdA 36 q) s.heap H locs → lv_has ls 3 [(0, .ref (q 1)), (1, .int y1), (2, .int y2)] → W p l e (headSpec (Cond.code yX1_backEnd cX1_backEnd 3 (some .int) :: tb_L) { frames := 3, cells := 0, slots := 0, locals := 68 }).room s m [.ref (q 1)].toArray below meth c₀ H locs 0 0 (MQ below (va_Qi post (wdB D (xw c q)) (wdA 36 q)) [.ref (q 1)].toArray s 0 0 (wdA 36 q)) (F0 m 12 ls []) := by
    intro K34 n
    induction n with
    | zero =>
      intro y1 y2 σ H locs ls hw hk34 hP hS hl
      exact (show False from hw).elim
    | succ n ih =>
      intro y1 y2 σ H locs ls hw hk34 hP hS hl
      rw [wX1_backEnd_L12] at hw
      have hD : va_D (wdA 36 q) (xw c q σ) := xw_D hD0
      refine lv_iload_n hx hb dX1_backEnd_12 rfl (lv_at hl 2 rfl) ?_
      refine lv_if_lt (tgt := 34) hx hb dX1_backEnd_13 (by decide) (fun c4 => ?_) (fun c4 => ?_)
      · have hw := hw.1 c4
        exact hk34 y1 y2 σ _ _ _ hw hP hS (lv_sub hl [0, 1, 2] rfl)
      · have hw := hw.2 c4
        refine lv_aload_n hx hb dX1_backEnd_16 rfl (lv_at hl 0 rfl) ?_
        refine lv_aload_n hx hb dX1_backEnd_17 rfl (lv_at hl 0 rfl) ?_
        refine va_get (D := D) (ci := 1) (C := RX1) (T := TX1) (N := 12) hx hb htb inX1 hown hK hP 1 (xw_1 c q σ) rfl 11 (by decide) (htb _ tb_161) (fun _ h9 => h9) rfl dX1_backEnd_18 ?_
        refine lv_iload_n hx hb dX1_backEnd_21 rfl (lv_at hl 2 rfl) ?_
        refine va_iald hx hb hK hP 5 3 (xw_5 c q σ) rfl hw.1 dX1_backEnd_22 ?_
        have hw := hw.2
        refine lv_iload_n hx hb dX1_backEnd_23 rfl (lv_at hl 1 rfl) ?_
        refine va_calli (va_runV (As := [.int (σ.2.1 5 y2.toNatClampNeg), .int y1]) (rest := []) ⟨hx, hb, hml, hown, htb⟩ (kcX1_strikePlainly_1 l D c q ev hev σ (σ.2.1 5 y2.toNatClampNeg) y1 _ hw) (tb_CW htb kX1_strikePlainly tb_462 tb_463 tb_464 ⟨Nat.le_of_ble_eq_true rfl, Nat.le_of_ble_eq_true rfl⟩) (wd_preV (wd := xw c q) (k := 1) hev hK hP hD hE hS (xw_1 c q σ) rfl) rfl rfl hl.1 rfl (lv_room (Nat.le_of_ble_eq_true rfl)) dX1_backEnd_24 ⟨Nat.zero_le _, Nat.zero_le _⟩) hS (fun q _ h => h) (fun q h => h) (fun r5 σ6 t H1 locs1 ht hvm hw hB hz1 hk1 hS => ?_)
        have hP : va_P D vwCl (xw c q σ6) H1 := ht ▸ hB
        have hD : va_D (wdA 36 q) (xw c q σ6) := xw_D hD0
        refine lv_istore_n (lv' := [(1, .int r5), (0, .ref (q 1)), (2, .int y2)]) hx hb dX1_backEnd_27 rfl hl (by decide) rfl (fun ls hl => ?_)
        obtain ⟨v7, ev7⟩ : ∃ z : Int32, z = y2 + (-1 : Int32) := ⟨_, rfl⟩
        have hw := hw v7 ev7
        refine lv_iinc (v := v7) (lv' := [(2, .int v7), (1, .int r5), (0, .ref (q 1))]) hx hb dX1_backEnd_28 hl (k := 2) rfl (by rw [ev7]; rfl) (by decide) rfl (fun ls hl => ?_)
        refine lv_goto (tgt := 12) hx hb dX1_backEnd_31 (by decide) ?_
        exact ih r5 v7 σ6 _ _ _ hw hk34 hP hS (lv_sub hl [2, 1, 0] rfl)
  have hl := lv_entry ([.ref (q 1)]) (n := 3) (Nat.le_of_ble_eq_true rfl)
  rw [lg_entry_eq]
  generalize (lg_sl ([.ref (q 1)]) ++ List.replicate (3 - (lg_sl ([.ref (q 1)])).length) Slot.unset).toArray = ls at hl ⊢
  have hl : lv_has ls 3 [(0, .ref (q 1))] := hl
  unfold wX1_backEnd at hw
  refine lv_aload_n hx hb dX1_backEnd_0 rfl (lv_at hl 0 rfl) ?_
  refine va_calli (va_runV (As := []) (rest := []) ⟨hx, hb, hml, hown, htb⟩ (kcX1_allThings_1 l D c q ev hev σ  _ hw) (tb_CW htb kX1_allThings tb_461 tb_438 tb_439 ⟨Nat.le_of_ble_eq_true rfl, Nat.le_of_ble_eq_true rfl⟩) (wd_preV (wd := xw c q) (k := 1) hev hK hP hD hE hS (xw_1 c q σ) rfl) rfl rfl hl.1 rfl (lv_room (Nat.le_of_ble_eq_true rfl)) dX1_backEnd_1 ⟨Nat.zero_le _, Nat.zero_le _⟩) hS (fun q _ h => h) (fun q h => h) (fun r1 σ2 t H1 locs1 ht hvm hw hB hz1 hk1 hS => ?_)
  have hP : va_P D vwCl (xw c q σ2) H1 := ht ▸ hB
  have hD : va_D (wdA 36 q) (xw c q σ2) := xw_D hD0
  refine lv_istore_n (lv' := [(1, .int r1), (0, .ref (q 1))]) hx hb dX1_backEnd_4 rfl hl (by decide) rfl (fun ls hl => ?_)
  refine lv_aload_n hx hb dX1_backEnd_5 rfl (lv_at hl 1 rfl) ?_
  refine va_get (D := D) (ci := 1) (C := RX1) (T := TX1) (N := 12) hx hb htb inX1 hown hK hP 1 (xw_1 c q σ2) rfl 6 (by decide) (htb _ tb_148) (fun _ h9 => h9) rfl dX1_backEnd_6 ?_
  refine lv_iconst (v := (1 : Int32)) hx hb dX1_backEnd_9 (by decide) ?_
  refine lv_isub hx hb dX1_backEnd_10 ?_
  refine lv_topi (fun v3 ev3 => ?_)
  have hw := hw v3 ev3
  refine lv_istore_n (lv' := [(2, .int v3), (1, .int r1), (0, .ref (q 1))]) hx hb dX1_backEnd_11 rfl hl (by decide) rfl (fun ls hl => ?_)
  obtain ⟨n8, hw⟩ := hw
  refine L12 _ n8 r1 v3 σ2 _ _ _ hw ?_ hP hS (lv_sub hl [2, 1, 0] rfl)
  intro v9 v10 σ11 H locs ls hw hP hS hl
  have hD : va_D (wdA 36 q) (xw c q σ11) := xw_D hD0
  refine lv_iload_n hx hb dX1_backEnd_34 rfl (lv_at hl 1 rfl) ?_
  exact W.iret hx hb hr (fun t ht hW => ⟨⟨_, σ11, rfl, hw, by unfold wdB; rw [ht]; exact hP⟩, hS.F ht⟩) hS.2.2 dX1_backEnd_35
def wX7_back  (post : Int32 → hsS → Prop) (σ : hsS) : Prop := wX1_backEnd 1 (fun r1 σ2 => post r1 σ2) σ
set_option maxHeartbeats 4000000 in
set_option maxRecDepth 100000 in
theorem kcX7_back (l : Launch) (D : va_G) (c : Nat → ClassId) (q : Nat → Nat) (ev : State → Heap → Prop) (hev : evOK (wdA 36 q) ev) (σ : hsS)  (post : Int32 → hsS → Prop) (hw : wX7_back  post σ) : Met l yX7_back (Cond.code yX7_back cX7_back 1 (some .int) :: tb_L) { frames := 4, cells := 0, slots := 0, locals := 90 } (wdPc D (xw c q) (xwT c) (wdA 36 q) ev σ [.ref (q 0)]) (va_Qi post (wdB D (xw c q)) (wdA 36 q)) 0 0 (wdA 36 q) := by
  refine Met.ofW (cc := cX7_back) (maxL := 1) (ret := (some .int)) (by decide) rfl ?_
  intro p e s m args below meth c₀ s₁ Bd hml hv
  obtain ⟨rfl, hP, hK, hD0, hE⟩ := hv
  have hx := Bd.exec
  have hb := Bd.bytes
  have hr := Bd.returns
  have hts := atoms_spec (ws := Cond.code yX7_back cX7_back 1 (some .int) :: tb_L) Bd.pre
  have htb : ∀ w ∈ tb_L, w.before [.ref (q 0)].toArray s = true := fun w h => hts w (List.mem_cons_of_mem _ h)
  have hown : s.vm.findClass RX7 = some m.cls := findClass_of_methodNamed Bd.named
  have hlocks := Bd.notSynchronized
  have hS : va_S (wdA 36 q) s.heap s.heap [] := va_S.rf
  have hD := hD0
  have hl := lv_entry ([.ref (q 0)]) (n := 1) (Nat.le_of_ble_eq_true rfl)
  rw [lg_entry_eq]
  generalize (lg_sl ([.ref (q 0)]) ++ List.replicate (1 - (lg_sl ([.ref (q 0)])).length) Slot.unset).toArray = ls at hl ⊢
  have hl : lv_has ls 1 [(0, .ref (q 0))] := hl
  unfold wX7_back at hw
  refine lv_aload_n hx hb dX7_back_0 rfl (lv_at hl 0 rfl) ?_
  refine va_get (D := D) (ci := 7) (C := RX7) (T := TX7) (N := 9) hx hb htb inX7 hown hK hP 0 (xw_0 c q σ) rfl 0 (by decide) (htb _ tb_342) (fun _ h9 => h9) rfl dX7_back_1 ?_
  refine va_calli (va_runV (As := []) (rest := []) ⟨hx, hb, hml, hown, htb⟩ (kcX1_backEnd_1 l D c q ev hev σ  _ hw) (tb_CW htb kX1_backEnd tb_513 tb_514 tb_515 ⟨Nat.le_of_ble_eq_true rfl, Nat.le_of_ble_eq_true rfl⟩) (wd_preV (wd := xw c q) (k := 1) hev hK hP hD hE hS (xw_1 c q σ) rfl) rfl rfl hl.1 rfl (lv_room (Nat.le_of_ble_eq_true rfl)) dX7_back_4 ⟨Nat.zero_le _, Nat.zero_le _⟩) hS (fun q _ h => h) (fun q h => h) (fun r1 σ2 t H1 locs1 ht hvm hw hB hz1 hk1 hS => ?_)
  have hP : va_P D vwCl (xw c q σ2) H1 := ht ▸ hB
  have hD : va_D (wdA 36 q) (xw c q σ2) := xw_D hD0
  exact W.iret hx hb hr (fun t ht hW => ⟨⟨_, σ2, rfl, hw, by unfold wdB; rw [ht]; exact hP⟩, hS.F ht⟩) hS.2.2 dX7_back_7
def wX1_takeFrom (b0 : Nat) (b1 : Nat) (post : hsS → Prop) (σ : hsS) : Prop := ∀ σ1 : hsS, σ1 = hsI σ (64 * b0 + 0) (σ.1 (64 * b1 + 0)) → ∀ σ2 : hsS, σ2 = hsI σ1 (64 * b0 + 1) (σ1.1 (64 * b1 + 1)) → ∀ σ3 : hsS, σ3 = hsI σ2 (64 * b0 + 2) (σ2.1 (64 * b1 + 2)) → ∀ σ4 : hsS, σ4 = hsI σ3 (64 * b0 + 3) (σ3.1 (64 * b1 + 3)) → ∀ σ5 : hsS, σ5 = hsI σ4 (64 * b0 + 4) (σ4.1 (64 * b1 + 4)) → ∀ σ6 : hsS, σ6 = hsI σ5 (64 * b0 + 5) (σ5.1 (64 * b1 + 5)) → ∀ σ7 : hsS, σ7 = hsI σ6 (64 * b0 + 6) (σ6.1 (64 * b1 + 6)) → ∀ σ8 : hsS, σ8 = hsI σ7 (64 * b0 + 7) (σ7.1 (64 * b1 + 7)) → ∀ σ9 : hsS, σ9 = hsA σ8 (b0 + 1) (va_cpy (σ8.2.1 (b1 + 1)) (σ8.2.1 (b0 + 1)) (0 : Int32).toNatClampNeg (0 : Int32).toNatClampNeg (8 : Int32).toNatClampNeg) → ∀ σ10 : hsS, σ10 = hsA σ9 (b0 + 2) (va_cpy (σ9.2.1 (b1 + 2)) (σ9.2.1 (b0 + 2)) (0 : Int32).toNatClampNeg (0 : Int32).toNatClampNeg (72 : Int32).toNatClampNeg) → ∀ σ11 : hsS, σ11 = hsA σ10 (b0 + 3) (va_cpy (σ10.2.1 (b1 + 3)) (σ10.2.1 (b0 + 3)) (0 : Int32).toNatClampNeg (0 : Int32).toNatClampNeg (8 : Int32).toNatClampNeg) → ∀ σ12 : hsS, σ12 = hsA σ11 (b0 + 4) (va_cpy (σ11.2.1 (b1 + 4)) (σ11.2.1 (b0 + 4)) (0 : Int32).toNatClampNeg (0 : Int32).toNatClampNeg (8 : Int32).toNatClampNeg) → post σ12
set_option maxHeartbeats 4000000 in
set_option maxRecDepth 100000 in
theorem kcX1_takeFrom_6_1 (l : Launch) (D : va_G) (c : Nat → ClassId) (q : Nat → Nat) (ev : State → Heap → Prop) (hev : evOK (wdA 36 q) ev) (σ : hsS)  (post : hsS → Prop) (hw : wX1_takeFrom 6 1 post σ) : Met l yX1_takeFrom (Cond.code yX1_takeFrom cX1_takeFrom 2 none :: tb_L) { frames := 1, cells := 0, slots := 0, locals := 64 } (wdPc D (xw c q) (xwT c) (wdA 36 q) ev σ [.ref (q 6), .ref (q 1)]) (va_Qv post (wdB D (xw c q)) (wdA 36 q)) 0 0 (wdA 36 q) := by
  refine Met.ofW (cc := cX1_takeFrom) (maxL := 2) (ret := none) (by decide) rfl ?_
  intro p e s m args below meth c₀ s₁ Bd hml hv
  obtain ⟨rfl, hP, hK, hD0, hE⟩ := hv
  have hx := Bd.exec
  have hb := Bd.bytes
  have hr := Bd.returns
  have hts := atoms_spec (ws := Cond.code yX1_takeFrom cX1_takeFrom 2 none :: tb_L) Bd.pre
  have htb : ∀ w ∈ tb_L, w.before [.ref (q 6), .ref (q 1)].toArray s = true := fun w h => hts w (List.mem_cons_of_mem _ h)
  have hown : s.vm.findClass RX1 = some m.cls := findClass_of_methodNamed Bd.named
  have hlocks := Bd.notSynchronized
  have hS : va_S (wdA 36 q) s.heap s.heap [] := va_S.rf
  have hD := hD0
  have hl := lv_entry ([.ref (q 6), .ref (q 1)]) (n := 2) (Nat.le_of_ble_eq_true rfl)
  rw [lg_entry_eq]
  generalize (lg_sl ([.ref (q 6), .ref (q 1)]) ++ List.replicate (2 - (lg_sl ([.ref (q 6), .ref (q 1)])).length) Slot.unset).toArray = ls at hl ⊢
  have hl : lv_has ls 2 [(0, .ref (q 6)), (1, .ref (q 1))] := hl
  unfold wX1_takeFrom at hw
  refine lv_aload_n hx hb dX1_takeFrom_0 rfl (lv_at hl 0 rfl) ?_
  refine lv_aload_n hx hb dX1_takeFrom_1 rfl (lv_at hl 1 rfl) ?_
  refine va_get (D := D) (ci := 1) (C := RX1) (T := TX1) (N := 12) hx hb htb inX1 hown hK hP 1 (xw_1 c q σ) rfl 0 (by decide) (htb _ tb_126) (fun _ h9 => h9) rfl dX1_takeFrom_2 ?_
  refine va_put (D := D) (ci := 1) (ty := .int) (C := RX1) (T := TX1) (N := 12) hx hb htb inX1 tyX1 tyX1_ok nmX1 hown hK hP hD hS 6 (xw_6 c q σ) rfl 0 (by decide) (htb _ tb_126) (fun _ h9 => h9) rfl (by decide +kernel) rfl rfl (Nat.le_of_ble_eq_true rfl) dX1_takeFrom_5 (fun H locs hP hD hS => ?_)
  have hP : va_P D vwCl (xw c q (hsI σ 384 (σ.1 64))) H := hP
  obtain ⟨σ1, eσ1⟩ : ∃ z : hsS, z = hsI σ 384 (σ.1 64) := ⟨_, rfl⟩
  rw [← eσ1] at hP
  have hD : va_D (wdA 36 q) (xw c q σ1) := xw_D hD0
  have hw := hw σ1 eσ1
  refine lv_aload_n hx hb dX1_takeFrom_8 rfl (lv_at hl 0 rfl) ?_
  refine lv_aload_n hx hb dX1_takeFrom_9 rfl (lv_at hl 1 rfl) ?_
  refine va_get (D := D) (ci := 1) (C := RX1) (T := TX1) (N := 12) hx hb htb inX1 hown hK hP 1 (xw_1 c q σ1) rfl 1 (by decide) (htb _ tb_132) (fun _ h9 => h9) rfl dX1_takeFrom_10 ?_
  refine va_put (D := D) (ci := 1) (ty := .int) (C := RX1) (T := TX1) (N := 12) hx hb htb inX1 tyX1 tyX1_ok nmX1 hown hK hP hD hS 6 (xw_6 c q σ1) rfl 1 (by decide) (htb _ tb_132) (fun _ h9 => h9) rfl (by decide +kernel) rfl rfl (Nat.le_of_ble_eq_true rfl) dX1_takeFrom_13 (fun H locs hP hD hS => ?_)
  have hP : va_P D vwCl (xw c q (hsI σ1 385 (σ1.1 65))) H := hP
  obtain ⟨σ2, eσ2⟩ : ∃ z : hsS, z = hsI σ1 385 (σ1.1 65) := ⟨_, rfl⟩
  rw [← eσ2] at hP
  have hD : va_D (wdA 36 q) (xw c q σ2) := xw_D hD0
  have hw := hw σ2 eσ2
  refine lv_aload_n hx hb dX1_takeFrom_16 rfl (lv_at hl 0 rfl) ?_
  refine lv_aload_n hx hb dX1_takeFrom_17 rfl (lv_at hl 1 rfl) ?_
  refine va_get (D := D) (ci := 1) (C := RX1) (T := TX1) (N := 12) hx hb htb inX1 hown hK hP 1 (xw_1 c q σ2) rfl 2 (by decide) (htb _ tb_138) (fun _ h9 => h9) rfl dX1_takeFrom_18 ?_
  refine va_put (D := D) (ci := 1) (ty := .int) (C := RX1) (T := TX1) (N := 12) hx hb htb inX1 tyX1 tyX1_ok nmX1 hown hK hP hD hS 6 (xw_6 c q σ2) rfl 2 (by decide) (htb _ tb_138) (fun _ h9 => h9) rfl (by decide +kernel) rfl rfl (Nat.le_of_ble_eq_true rfl) dX1_takeFrom_21 (fun H locs hP hD hS => ?_)
  have hP : va_P D vwCl (xw c q (hsI σ2 386 (σ2.1 66))) H := hP
  obtain ⟨σ3, eσ3⟩ : ∃ z : hsS, z = hsI σ2 386 (σ2.1 66) := ⟨_, rfl⟩
  rw [← eσ3] at hP
  have hD : va_D (wdA 36 q) (xw c q σ3) := xw_D hD0
  have hw := hw σ3 eσ3
  refine lv_aload_n hx hb dX1_takeFrom_24 rfl (lv_at hl 0 rfl) ?_
  refine lv_aload_n hx hb dX1_takeFrom_25 rfl (lv_at hl 1 rfl) ?_
  refine va_get (D := D) (ci := 1) (C := RX1) (T := TX1) (N := 12) hx hb htb inX1 hown hK hP 1 (xw_1 c q σ3) rfl 3 (by decide) (htb _ tb_141) (fun _ h9 => h9) rfl dX1_takeFrom_26 ?_
  refine va_put (D := D) (ci := 1) (ty := .int) (C := RX1) (T := TX1) (N := 12) hx hb htb inX1 tyX1 tyX1_ok nmX1 hown hK hP hD hS 6 (xw_6 c q σ3) rfl 3 (by decide) (htb _ tb_141) (fun _ h9 => h9) rfl (by decide +kernel) rfl rfl (Nat.le_of_ble_eq_true rfl) dX1_takeFrom_29 (fun H locs hP hD hS => ?_)
  have hP : va_P D vwCl (xw c q (hsI σ3 387 (σ3.1 67))) H := hP
  obtain ⟨σ4, eσ4⟩ : ∃ z : hsS, z = hsI σ3 387 (σ3.1 67) := ⟨_, rfl⟩
  rw [← eσ4] at hP
  have hD : va_D (wdA 36 q) (xw c q σ4) := xw_D hD0
  have hw := hw σ4 eσ4
  refine lv_aload_n hx hb dX1_takeFrom_32 rfl (lv_at hl 0 rfl) ?_
  refine lv_aload_n hx hb dX1_takeFrom_33 rfl (lv_at hl 1 rfl) ?_
  refine va_get (D := D) (ci := 1) (C := RX1) (T := TX1) (N := 12) hx hb htb inX1 hown hK hP 1 (xw_1 c q σ4) rfl 4 (by decide) (htb _ tb_144) (fun _ h9 => h9) rfl dX1_takeFrom_34 ?_
  refine va_put (D := D) (ci := 1) (ty := .int) (C := RX1) (T := TX1) (N := 12) hx hb htb inX1 tyX1 tyX1_ok nmX1 hown hK hP hD hS 6 (xw_6 c q σ4) rfl 4 (by decide) (htb _ tb_144) (fun _ h9 => h9) rfl (by decide +kernel) rfl rfl (Nat.le_of_ble_eq_true rfl) dX1_takeFrom_37 (fun H locs hP hD hS => ?_)
  have hP : va_P D vwCl (xw c q (hsI σ4 388 (σ4.1 68))) H := hP
  obtain ⟨σ5, eσ5⟩ : ∃ z : hsS, z = hsI σ4 388 (σ4.1 68) := ⟨_, rfl⟩
  rw [← eσ5] at hP
  have hD : va_D (wdA 36 q) (xw c q σ5) := xw_D hD0
  have hw := hw σ5 eσ5
  refine lv_aload_n hx hb dX1_takeFrom_40 rfl (lv_at hl 0 rfl) ?_
  refine lv_aload_n hx hb dX1_takeFrom_41 rfl (lv_at hl 1 rfl) ?_
  refine va_get (D := D) (ci := 1) (C := RX1) (T := TX1) (N := 12) hx hb htb inX1 hown hK hP 1 (xw_1 c q σ5) rfl 5 (by decide) (htb _ tb_146) (fun _ h9 => h9) rfl dX1_takeFrom_42 ?_
  refine va_put (D := D) (ci := 1) (ty := .int) (C := RX1) (T := TX1) (N := 12) hx hb htb inX1 tyX1 tyX1_ok nmX1 hown hK hP hD hS 6 (xw_6 c q σ5) rfl 5 (by decide) (htb _ tb_146) (fun _ h9 => h9) rfl (by decide +kernel) rfl rfl (Nat.le_of_ble_eq_true rfl) dX1_takeFrom_45 (fun H locs hP hD hS => ?_)
  have hP : va_P D vwCl (xw c q (hsI σ5 389 (σ5.1 69))) H := hP
  obtain ⟨σ6, eσ6⟩ : ∃ z : hsS, z = hsI σ5 389 (σ5.1 69) := ⟨_, rfl⟩
  rw [← eσ6] at hP
  have hD : va_D (wdA 36 q) (xw c q σ6) := xw_D hD0
  have hw := hw σ6 eσ6
  refine lv_aload_n hx hb dX1_takeFrom_48 rfl (lv_at hl 0 rfl) ?_
  refine lv_aload_n hx hb dX1_takeFrom_49 rfl (lv_at hl 1 rfl) ?_
  refine va_get (D := D) (ci := 1) (C := RX1) (T := TX1) (N := 12) hx hb htb inX1 hown hK hP 1 (xw_1 c q σ6) rfl 6 (by decide) (htb _ tb_148) (fun _ h9 => h9) rfl dX1_takeFrom_50 ?_
  refine va_put (D := D) (ci := 1) (ty := .int) (C := RX1) (T := TX1) (N := 12) hx hb htb inX1 tyX1 tyX1_ok nmX1 hown hK hP hD hS 6 (xw_6 c q σ6) rfl 6 (by decide) (htb _ tb_148) (fun _ h9 => h9) rfl (by decide +kernel) rfl rfl (Nat.le_of_ble_eq_true rfl) dX1_takeFrom_53 (fun H locs hP hD hS => ?_)
  have hP : va_P D vwCl (xw c q (hsI σ6 390 (σ6.1 70))) H := hP
  obtain ⟨σ7, eσ7⟩ : ∃ z : hsS, z = hsI σ6 390 (σ6.1 70) := ⟨_, rfl⟩
  rw [← eσ7] at hP
  have hD : va_D (wdA 36 q) (xw c q σ7) := xw_D hD0
  have hw := hw σ7 eσ7
  refine lv_aload_n hx hb dX1_takeFrom_56 rfl (lv_at hl 0 rfl) ?_
  refine lv_aload_n hx hb dX1_takeFrom_57 rfl (lv_at hl 1 rfl) ?_
  refine va_get (D := D) (ci := 1) (C := RX1) (T := TX1) (N := 12) hx hb htb inX1 hown hK hP 1 (xw_1 c q σ7) rfl 7 (by decide) (htb _ tb_154) (fun _ h9 => h9) rfl dX1_takeFrom_58 ?_
  refine va_put (D := D) (ci := 1) (ty := .int) (C := RX1) (T := TX1) (N := 12) hx hb htb inX1 tyX1 tyX1_ok nmX1 hown hK hP hD hS 6 (xw_6 c q σ7) rfl 7 (by decide) (htb _ tb_154) (fun _ h9 => h9) rfl (by decide +kernel) rfl rfl (Nat.le_of_ble_eq_true rfl) dX1_takeFrom_61 (fun H locs hP hD hS => ?_)
  have hP : va_P D vwCl (xw c q (hsI σ7 391 (σ7.1 71))) H := hP
  obtain ⟨σ8, eσ8⟩ : ∃ z : hsS, z = hsI σ7 391 (σ7.1 71) := ⟨_, rfl⟩
  rw [← eσ8] at hP
  have hD : va_D (wdA 36 q) (xw c q σ8) := xw_D hD0
  have hw := hw σ8 eσ8
  refine lv_aload_n hx hb dX1_takeFrom_64 rfl (lv_at hl 1 rfl) ?_
  refine va_get (D := D) (ci := 1) (C := RX1) (T := TX1) (N := 12) hx hb htb inX1 hown hK hP 1 (xw_1 c q σ8) rfl 8 (by decide) (htb _ tb_156) (fun _ h9 => h9) rfl dX1_takeFrom_65 ?_
  refine lv_iconst (v := (0 : Int32)) hx hb dX1_takeFrom_68 (by decide) ?_
  refine lv_aload_n hx hb dX1_takeFrom_69 rfl (lv_at hl 0 rfl) ?_
  refine va_get (D := D) (ci := 1) (C := RX1) (T := TX1) (N := 12) hx hb htb inX1 hown hK hP 6 (xw_6 c q σ8) rfl 8 (by decide) (htb _ tb_156) (fun _ h9 => h9) rfl dX1_takeFrom_70 ?_
  refine lv_iconst (v := (0 : Int32)) hx hb dX1_takeFrom_73 (by decide) ?_
  refine lv_bipush (v := (8 : Int32)) hx hb dX1_takeFrom_74 (by decide) ?_
  refine va_copyi (ty := .int) hx hb (hml.trans hl.1.symm) hown (htb _ tb_572) (htb _ tb_574) (htb _ tb_573) (htb _ tb_110) hK hP hD hS 2 7 0 4 (xw_2 c q σ8) (xw_7 c q σ8) rfl rfl rfl (by decide) (by decide) (by decide) (by decide) (by decide) (fun _ _ => rfl) (Nat.le_of_ble_eq_true rfl) (Nat.le_of_ble_eq_true rfl) dX1_takeFrom_76 (fun H locs hP hD hS => ?_)
  have hP : va_P D vwCl (xw c q (hsA σ8 7 (va_cpy (σ8.2.1 2) (σ8.2.1 7) (0 : Int32).toNatClampNeg (0 : Int32).toNatClampNeg (8 : Int32).toNatClampNeg))) H := hP
  obtain ⟨σ9, eσ9⟩ : ∃ z : hsS, z = hsA σ8 7 (va_cpy (σ8.2.1 2) (σ8.2.1 7) (0 : Int32).toNatClampNeg (0 : Int32).toNatClampNeg (8 : Int32).toNatClampNeg) := ⟨_, rfl⟩
  rw [← eσ9] at hP
  have hD : va_D (wdA 36 q) (xw c q σ9) := xw_D hD0
  have hw := hw σ9 eσ9
  refine lv_aload_n hx hb dX1_takeFrom_79 rfl (lv_at hl 1 rfl) ?_
  refine va_get (D := D) (ci := 1) (C := RX1) (T := TX1) (N := 12) hx hb htb inX1 hown hK hP 1 (xw_1 c q σ9) rfl 9 (by decide) (htb _ tb_158) (fun _ h9 => h9) rfl dX1_takeFrom_80 ?_
  refine lv_iconst (v := (0 : Int32)) hx hb dX1_takeFrom_83 (by decide) ?_
  refine lv_aload_n hx hb dX1_takeFrom_84 rfl (lv_at hl 0 rfl) ?_
  refine va_get (D := D) (ci := 1) (C := RX1) (T := TX1) (N := 12) hx hb htb inX1 hown hK hP 6 (xw_6 c q σ9) rfl 9 (by decide) (htb _ tb_158) (fun _ h9 => h9) rfl dX1_takeFrom_85 ?_
  refine lv_iconst (v := (0 : Int32)) hx hb dX1_takeFrom_88 (by decide) ?_
  refine lv_bipush (v := (72 : Int32)) hx hb dX1_takeFrom_89 (by decide) ?_
  refine va_copyi (ty := .int) hx hb (hml.trans hl.1.symm) hown (htb _ tb_572) (htb _ tb_574) (htb _ tb_573) (htb _ tb_110) hK hP hD hS 3 8 1 5 (xw_3 c q σ9) (xw_8 c q σ9) rfl rfl rfl (by decide) (by decide) (by decide) (by decide) (by decide) (fun _ _ => rfl) (Nat.le_of_ble_eq_true rfl) (Nat.le_of_ble_eq_true rfl) dX1_takeFrom_91 (fun H locs hP hD hS => ?_)
  have hP : va_P D vwCl (xw c q (hsA σ9 8 (va_cpy (σ9.2.1 3) (σ9.2.1 8) (0 : Int32).toNatClampNeg (0 : Int32).toNatClampNeg (72 : Int32).toNatClampNeg))) H := hP
  obtain ⟨σ10, eσ10⟩ : ∃ z : hsS, z = hsA σ9 8 (va_cpy (σ9.2.1 3) (σ9.2.1 8) (0 : Int32).toNatClampNeg (0 : Int32).toNatClampNeg (72 : Int32).toNatClampNeg) := ⟨_, rfl⟩
  rw [← eσ10] at hP
  have hD : va_D (wdA 36 q) (xw c q σ10) := xw_D hD0
  have hw := hw σ10 eσ10
  refine lv_aload_n hx hb dX1_takeFrom_94 rfl (lv_at hl 1 rfl) ?_
  refine va_get (D := D) (ci := 1) (C := RX1) (T := TX1) (N := 12) hx hb htb inX1 hown hK hP 1 (xw_1 c q σ10) rfl 10 (by decide) (htb _ tb_159) (fun _ h9 => h9) rfl dX1_takeFrom_95 ?_
  refine lv_iconst (v := (0 : Int32)) hx hb dX1_takeFrom_98 (by decide) ?_
  refine lv_aload_n hx hb dX1_takeFrom_99 rfl (lv_at hl 0 rfl) ?_
  refine va_get (D := D) (ci := 1) (C := RX1) (T := TX1) (N := 12) hx hb htb inX1 hown hK hP 6 (xw_6 c q σ10) rfl 10 (by decide) (htb _ tb_159) (fun _ h9 => h9) rfl dX1_takeFrom_100 ?_
  refine lv_iconst (v := (0 : Int32)) hx hb dX1_takeFrom_103 (by decide) ?_
  refine lv_bipush (v := (8 : Int32)) hx hb dX1_takeFrom_104 (by decide) ?_
  refine va_copyi (ty := .int) hx hb (hml.trans hl.1.symm) hown (htb _ tb_572) (htb _ tb_574) (htb _ tb_573) (htb _ tb_110) hK hP hD hS 4 9 2 6 (xw_4 c q σ10) (xw_9 c q σ10) rfl rfl rfl (by decide) (by decide) (by decide) (by decide) (by decide) (fun _ _ => rfl) (Nat.le_of_ble_eq_true rfl) (Nat.le_of_ble_eq_true rfl) dX1_takeFrom_106 (fun H locs hP hD hS => ?_)
  have hP : va_P D vwCl (xw c q (hsA σ10 9 (va_cpy (σ10.2.1 4) (σ10.2.1 9) (0 : Int32).toNatClampNeg (0 : Int32).toNatClampNeg (8 : Int32).toNatClampNeg))) H := hP
  obtain ⟨σ11, eσ11⟩ : ∃ z : hsS, z = hsA σ10 9 (va_cpy (σ10.2.1 4) (σ10.2.1 9) (0 : Int32).toNatClampNeg (0 : Int32).toNatClampNeg (8 : Int32).toNatClampNeg) := ⟨_, rfl⟩
  rw [← eσ11] at hP
  have hD : va_D (wdA 36 q) (xw c q σ11) := xw_D hD0
  have hw := hw σ11 eσ11
  refine lv_aload_n hx hb dX1_takeFrom_109 rfl (lv_at hl 1 rfl) ?_
  refine va_get (D := D) (ci := 1) (C := RX1) (T := TX1) (N := 12) hx hb htb inX1 hown hK hP 1 (xw_1 c q σ11) rfl 11 (by decide) (htb _ tb_161) (fun _ h9 => h9) rfl dX1_takeFrom_110 ?_
  refine lv_iconst (v := (0 : Int32)) hx hb dX1_takeFrom_113 (by decide) ?_
  refine lv_aload_n hx hb dX1_takeFrom_114 rfl (lv_at hl 0 rfl) ?_
  refine va_get (D := D) (ci := 1) (C := RX1) (T := TX1) (N := 12) hx hb htb inX1 hown hK hP 6 (xw_6 c q σ11) rfl 11 (by decide) (htb _ tb_161) (fun _ h9 => h9) rfl dX1_takeFrom_115 ?_
  refine lv_iconst (v := (0 : Int32)) hx hb dX1_takeFrom_118 (by decide) ?_
  refine lv_bipush (v := (8 : Int32)) hx hb dX1_takeFrom_119 (by decide) ?_
  refine va_copyi (ty := .int) hx hb (hml.trans hl.1.symm) hown (htb _ tb_572) (htb _ tb_574) (htb _ tb_573) (htb _ tb_110) hK hP hD hS 5 10 3 7 (xw_5 c q σ11) (xw_10 c q σ11) rfl rfl rfl (by decide) (by decide) (by decide) (by decide) (by decide) (fun _ _ => rfl) (Nat.le_of_ble_eq_true rfl) (Nat.le_of_ble_eq_true rfl) dX1_takeFrom_121 (fun H locs hP hD hS => ?_)
  have hP : va_P D vwCl (xw c q (hsA σ11 10 (va_cpy (σ11.2.1 5) (σ11.2.1 10) (0 : Int32).toNatClampNeg (0 : Int32).toNatClampNeg (8 : Int32).toNatClampNeg))) H := hP
  obtain ⟨σ12, eσ12⟩ : ∃ z : hsS, z = hsA σ11 10 (va_cpy (σ11.2.1 5) (σ11.2.1 10) (0 : Int32).toNatClampNeg (0 : Int32).toNatClampNeg (8 : Int32).toNatClampNeg) := ⟨_, rfl⟩
  rw [← eσ12] at hP
  have hD : va_D (wdA 36 q) (xw c q σ12) := xw_D hD0
  have hw := hw σ12 eσ12
  exact W.vret hx hb hr (fun t ht hW => ⟨⟨σ12, rfl, hw, by unfold wdB; rw [ht]; exact hP⟩, hS.F ht⟩) hS.2.2 dX1_takeFrom_124
set_option maxHeartbeats 4000000 in
set_option maxRecDepth 100000 in
theorem kcX1_allThings_6 (l : Launch) (D : va_G) (c : Nat → ClassId) (q : Nat → Nat) (ev : State → Heap → Prop) (hev : evOK (wdA 36 q) ev) (σ : hsS)  (post : Int32 → hsS → Prop) (hw : wX1_allThings 6 post σ) : Met l yX1_allThings (Cond.code yX1_allThings cX1_allThings 1 (some .int) :: tb_L) { frames := 0, cells := 0, slots := 0, locals := 0 } (wdPc D (xw c q) (xwT c) (wdA 36 q) ev σ [.ref (q 6)]) (va_Qi post (wdB D (xw c q)) (wdA 36 q)) 0 0 (wdA 36 q) := by
  refine Met.ofW (cc := cX1_allThings) (maxL := 1) (ret := (some .int)) (by decide) rfl ?_
  intro p e s m args below meth c₀ s₁ Bd hml hv
  obtain ⟨rfl, hP, hK, hD0, hE⟩ := hv
  have hx := Bd.exec
  have hb := Bd.bytes
  have hr := Bd.returns
  have hts := atoms_spec (ws := Cond.code yX1_allThings cX1_allThings 1 (some .int) :: tb_L) Bd.pre
  have htb : ∀ w ∈ tb_L, w.before [.ref (q 6)].toArray s = true := fun w h => hts w (List.mem_cons_of_mem _ h)
  have hown : s.vm.findClass RX1 = some m.cls := findClass_of_methodNamed Bd.named
  have hlocks := Bd.notSynchronized
  have hS : va_S (wdA 36 q) s.heap s.heap [] := va_S.rf
  have hD := hD0
  have hl := lv_entry ([.ref (q 6)]) (n := 1) (Nat.le_of_ble_eq_true rfl)
  rw [lg_entry_eq]
  generalize (lg_sl ([.ref (q 6)]) ++ List.replicate (1 - (lg_sl ([.ref (q 6)])).length) Slot.unset).toArray = ls at hl ⊢
  have hl : lv_has ls 1 [(0, .ref (q 6))] := hl
  unfold wX1_allThings at hw
  refine lv_iconst (v := (1 : Int32)) hx hb dX1_allThings_0 (by decide) ?_
  refine lv_aload_n hx hb dX1_allThings_1 rfl (lv_at hl 0 rfl) ?_
  refine va_get (D := D) (ci := 1) (C := RX1) (T := TX1) (N := 12) hx hb htb inX1 hown hK hP 6 (xw_6 c q σ) rfl 0 (by decide) (htb _ tb_126) (fun _ h9 => h9) rfl dX1_allThings_2 ?_
  refine lv_ishl hx hb dX1_allThings_5 ?_
  refine lv_iconst (v := (1 : Int32)) hx hb dX1_allThings_6 (by decide) ?_
  refine lv_isub hx hb dX1_allThings_7 ?_
  exact W.iret hx hb hr (fun t ht hW => ⟨⟨_, σ, rfl, hw, by unfold wdB; rw [ht]; exact hP⟩, hS.F ht⟩) hS.2.2 dX1_allThings_8
set_option maxHeartbeats 4000000 in
set_option maxRecDepth 100000 in
theorem kcX1_placeOf_6 (l : Launch) (D : va_G) (c : Nat → ClassId) (q : Nat → Nat) (ev : State → Heap → Prop) (hev : evOK (wdA 36 q) ev) (σ : hsS) (x1 : Int32) (x2 : Int32) (post : Int32 → hsS → Prop) (hw : wX1_placeOf 6 x1 x2 post σ) : Met l yX1_placeOf (Cond.code yX1_placeOf cX1_placeOf 3 (some .int) :: tb_L) { frames := 0, cells := 0, slots := 0, locals := 0 } (wdPc D (xw c q) (xwT c) (wdA 36 q) ev σ [.ref (q 6), .int x1, .int x2]) (va_Qi post (wdB D (xw c q)) (wdA 36 q)) 0 0 (wdA 36 q) := by
  refine Met.ofW (cc := cX1_placeOf) (maxL := 3) (ret := (some .int)) (by decide) rfl ?_
  intro p e s m args below meth c₀ s₁ Bd hml hv
  obtain ⟨rfl, hP, hK, hD0, hE⟩ := hv
  have hx := Bd.exec
  have hb := Bd.bytes
  have hr := Bd.returns
  have hts := atoms_spec (ws := Cond.code yX1_placeOf cX1_placeOf 3 (some .int) :: tb_L) Bd.pre
  have htb : ∀ w ∈ tb_L, w.before [.ref (q 6), .int x1, .int x2].toArray s = true := fun w h => hts w (List.mem_cons_of_mem _ h)
  have hown : s.vm.findClass RX1 = some m.cls := findClass_of_methodNamed Bd.named
  have hlocks := Bd.notSynchronized
  have hS : va_S (wdA 36 q) s.heap s.heap [] := va_S.rf
  have hD := hD0
  have hl := lv_entry ([.ref (q 6), .int x1, .int x2]) (n := 3) (Nat.le_of_ble_eq_true rfl)
  rw [lg_entry_eq]
  generalize (lg_sl ([.ref (q 6), .int x1, .int x2]) ++ List.replicate (3 - (lg_sl ([.ref (q 6), .int x1, .int x2])).length) Slot.unset).toArray = ls at hl ⊢
  have hl : lv_has ls 3 [(0, .ref (q 6)), (1, .int x1), (2, .int x2)] := hl
  unfold wX1_placeOf at hw
  refine lv_aload_n hx hb dX1_placeOf_0 rfl (lv_at hl 0 rfl) ?_
  refine va_get (D := D) (ci := 1) (C := RX1) (T := TX1) (N := 12) hx hb htb inX1 hown hK hP 6 (xw_6 c q σ) rfl 9 (by decide) (htb _ tb_158) (fun _ h9 => h9) rfl dX1_placeOf_1 ?_
  refine lv_iload_n hx hb dX1_placeOf_4 rfl (lv_at hl 1 rfl) ?_
  refine lv_bipush (v := (9 : Int32)) hx hb dX1_placeOf_5 (by decide) ?_
  refine lv_imul hx hb dX1_placeOf_7 ?_
  refine lv_iload_n hx hb dX1_placeOf_8 rfl (lv_at hl 2 rfl) ?_
  refine lv_iadd hx hb dX1_placeOf_9 ?_
  refine va_iald hx hb hK hP 8 5 (xw_8 c q σ) rfl hw.1 dX1_placeOf_10 ?_
  have hw := hw.2
  exact W.iret hx hb hr (fun t ht hW => ⟨⟨_, σ, rfl, hw, by unfold wdB; rw [ht]; exact hP⟩, hS.F ht⟩) hS.2.2 dX1_placeOf_11
set_option maxHeartbeats 4000000 in
set_option maxRecDepth 100000 in
theorem kcX1_plainStrike_6 (l : Launch) (D : va_G) (c : Nat → ClassId) (q : Nat → Nat) (ev : State → Heap → Prop) (hev : evOK (wdA 36 q) ev) (σ : hsS) (x1 : Int32) (x2 : Int32) (post : Int32 → hsS → Prop) (hw : wX1_plainStrike 6 x1 x2 post σ) : Met l yX1_plainStrike (Cond.code yX1_plainStrike cX1_plainStrike 5 (some .int) :: tb_L) { frames := 1, cells := 0, slots := 0, locals := 22 } (wdPc D (xw c q) (xwT c) (wdA 36 q) ev σ [.ref (q 6), .int x1, .int x2]) (va_Qi post (wdB D (xw c q)) (wdA 36 q)) 0 0 (wdA 36 q) := by
  refine Met.ofW (cc := cX1_plainStrike) (maxL := 5) (ret := (some .int)) (by decide) rfl ?_
  intro p e s m args below meth c₀ s₁ Bd hml hv
  obtain ⟨rfl, hP, hK, hD0, hE⟩ := hv
  have hx := Bd.exec
  have hb := Bd.bytes
  have hr := Bd.returns
  have hts := atoms_spec (ws := Cond.code yX1_plainStrike cX1_plainStrike 5 (some .int) :: tb_L) Bd.pre
  have htb : ∀ w ∈ tb_L, w.before [.ref (q 6), .int x1, .int x2].toArray s = true := fun w h => hts w (List.mem_cons_of_mem _ h)
  have hown : s.vm.findClass RX1 = some m.cls := findClass_of_methodNamed Bd.named
  have hlocks := Bd.notSynchronized
  have hS : va_S (wdA 36 q) s.heap s.heap [] := va_S.rf
  have hD := hD0
  have L5 : ∀ (K54 : Int32 → Int32 → hsS → Prop) (z1 : Int32) (z2 : Int32) (n : Nat) (y3 : Int32) (y4 : Int32) (σ : hsS) (H : Heap) (locs : List Loc) (ls : Array Slot), wX1_plainStrike_L5 6 z1 z2 K54 post n y3 y4 σ → (∀ (y3 : Int32) (y4 : Int32) (σ : hsS) (H : Heap) (locs : List Loc) (ls : Array Slot), K54 y3 y4 σ → va_P D vwCl (xw c q σ) H → va_S (wdA 36 q) s.heap H locs → lv_has ls 5 [(0, .ref (q 6)), (1, .int z1), (2, .int z2), (3, .int y3), (4, .int y4)] → W p l e (headSpec (Cond.code yX1_plainStrike cX1_plainStrike 5 (some .int) :: tb_L) { frames := 1, cells := 0, slots := 0, locals := 22 }).room s m [.ref (q 6), .int x1, .int x2].toArray below meth c₀ H locs 0 0 (MQ below (va_Qi post (wdB D (xw c q)) (wdA 36 q)) [.ref (q 6), .int x1, .int x2].toArray s 0 0 (wdA 36 q)) (F0 m 54 ls [])) → va_P D vwCl (xw c q σ) H → va_S (wdA 36 q) s.heap H locs → lv_has ls 5 [(0, .ref (q 6)), (1, .int z1), (2, .int z2), (3, .int y3), (4, .int y4)] → W p l e (headSpec (Cond.code yX1_plainStrike cX1_plainStrike 5 (some .int) :: tb_L) { frames := 1, cells := 0, slots := 0, locals := 22 }).room s m [.ref (q 6), .int x1, .int x2].toArray below meth c₀ H locs 0 0 (MQ below (va_Qi post (wdB D (xw c q)) (wdA 36 q)) [.ref (q 6), .int x1, .int x2].toArray s 0 0 (wdA 36 q)) (F0 m 5 ls []) := by
    intro K54 z1 z2 n
    induction n with
    | zero =>
      intro y3 y4 σ H locs ls hw hk54 hP hS hl
      exact (show False from hw).elim
    | succ n ih =>
      intro y3 y4 σ H locs ls hw hk54 hP hS hl
      rw [wX1_plainStrike_L5] at hw
      have hD : va_D (wdA 36 q) (xw c q σ) := xw_D hD0
      refine lv_iload hx hb dX1_plainStrike_5 (lv_at hl 4 rfl) ?_
      refine lv_aload_n hx hb dX1_plainStrike_7 rfl (lv_at hl 0 rfl) ?_
      refine va_get (D := D) (ci := 1) (C := RX1) (T := TX1) (N := 12) hx hb htb inX1 hown hK hP 6 (xw_6 c q σ) rfl 0 (by decide) (htb _ tb_126) (fun _ h9 => h9) rfl dX1_plainStrike_8 ?_
      refine lv_icmp_ge (tgt := 54) hx hb dX1_plainStrike_11 (by decide) (fun c1 => ?_) (fun c1 => ?_)
      · have hw := hw.1 c1
        exact hk54 y3 y4 σ _ _ _ hw hP hS (lv_sub hl [0, 1, 2, 3, 4] rfl)
      · have hw := hw.2 c1
        refine lv_iload_n hx hb dX1_plainStrike_14 rfl (lv_at hl 2 rfl) ?_
        refine lv_iload hx hb dX1_plainStrike_15 (lv_at hl 4 rfl) ?_
        refine lv_ishr hx hb dX1_plainStrike_17 ?_
        refine lv_iconst (v := (1 : Int32)) hx hb dX1_plainStrike_18 (by decide) ?_
        refine lv_iand hx hb dX1_plainStrike_19 ?_
        refine lv_iconst (v := (1 : Int32)) hx hb dX1_plainStrike_20 (by decide) ?_
        refine lv_icmp_ne (tgt := 48) hx hb dX1_plainStrike_21 (by decide) (fun c2 => ?_) (fun c2 => ?_)
        · have hw := hw.2 c2
          obtain ⟨v12, ev12⟩ : ∃ z : Int32, z = y4 + (1 : Int32) := ⟨_, rfl⟩
          have hw := hw v12 ev12
          refine lv_iinc (v := v12) (lv' := [(4, .int v12), (0, .ref (q 6)), (1, .int z1), (2, .int z2), (3, .int y3)]) hx hb dX1_plainStrike_48 hl (k := 4) rfl (by rw [ev12]; rfl) (by decide) rfl (fun ls hl => ?_)
          refine lv_goto (tgt := 5) hx hb dX1_plainStrike_51 (by decide) ?_
          exact ih y3 v12 σ _ _ _ hw hk54 hP hS (lv_sub hl [1, 2, 3, 4, 0] rfl)
        · have hw := hw.1 c2
          refine lv_iload_n hx hb dX1_plainStrike_24 rfl (lv_at hl 3 rfl) ?_
          refine lv_iconst (v := (-1 : Int32)) hx hb dX1_plainStrike_25 (by decide) ?_
          refine lv_icmp_eq (tgt := 45) hx hb dX1_plainStrike_26 (by decide) (fun c3 => ?_) (fun c3 => ?_)
          · have hw := hw.1 c3
            refine lv_iload hx hb dX1_plainStrike_45 (lv_at hl 4 rfl) ?_
            refine lv_istore_n (lv' := [(3, .int y4), (0, .ref (q 6)), (1, .int z1), (2, .int z2), (4, .int y4)]) hx hb dX1_plainStrike_47 rfl hl (by decide) rfl (fun ls hl => ?_)
            obtain ⟨v4, ev4⟩ : ∃ z : Int32, z = y4 + (1 : Int32) := ⟨_, rfl⟩
            have hw := hw v4 ev4
            refine lv_iinc (v := v4) (lv' := [(4, .int v4), (3, .int y4), (0, .ref (q 6)), (1, .int z1), (2, .int z2)]) hx hb dX1_plainStrike_48 hl (k := 4) rfl (by rw [ev4]; rfl) (by decide) rfl (fun ls hl => ?_)
            refine lv_goto (tgt := 5) hx hb dX1_plainStrike_51 (by decide) ?_
            exact ih y4 v4 σ _ _ _ hw hk54 hP hS (lv_sub hl [2, 3, 4, 1, 0] rfl)
          · have hw := hw.2 c3
            refine lv_aload_n hx hb dX1_plainStrike_29 rfl (lv_at hl 0 rfl) ?_
            refine lv_iload_n hx hb dX1_plainStrike_30 rfl (lv_at hl 1 rfl) ?_
            refine lv_iload hx hb dX1_plainStrike_31 (lv_at hl 4 rfl) ?_
            refine va_calli (va_runV (As := [.int z1, .int y4]) (rest := []) ⟨hx, hb, hml, hown, htb⟩ (kcX1_placeOf_6 l D c q ev hev σ z1 y4 _ hw) (tb_CW htb kX1_placeOf tb_445 tb_446 tb_447 ⟨Nat.le_of_ble_eq_true rfl, Nat.le_of_ble_eq_true rfl⟩) (wd_preV (wd := xw c q) (k := 6) hev hK hP hD hE hS (xw_6 c q σ) rfl) rfl rfl hl.1 rfl (lv_room (Nat.le_of_ble_eq_true rfl)) dX1_plainStrike_33 ⟨Nat.zero_le _, Nat.zero_le _⟩) hS (fun q _ h => h) (fun q h => h) (fun r5 σ6 t H1 locs1 ht hvm hw hB hz1 hk1 hS => ?_)
            have hP : va_P D vwCl (xw c q σ6) H1 := ht ▸ hB
            have hD : va_D (wdA 36 q) (xw c q σ6) := xw_D hD0
            refine lv_aload_n hx hb dX1_plainStrike_36 rfl (lv_at hl 0 rfl) ?_
            refine lv_iload_n hx hb dX1_plainStrike_37 rfl (lv_at hl 1 rfl) ?_
            refine lv_iload_n hx hb dX1_plainStrike_38 rfl (lv_at hl 3 rfl) ?_
            refine va_calli (va_runV (As := [.int z1, .int y3]) (rest := [.int r5]) ⟨hx, hb, hml, hown, htb⟩ (kcX1_placeOf_6 l D c q ev hev σ6 z1 y3 _ hw) (tb_CW htb kX1_placeOf tb_445 tb_446 tb_447 ⟨Nat.le_of_ble_eq_true rfl, Nat.le_of_ble_eq_true rfl⟩) (wd_preV (wd := xw c q) (k := 6) hev hK hP hD hE hS (xw_6 c q σ6) rfl) rfl rfl hl.1 rfl (lv_room (Nat.le_of_ble_eq_true rfl)) dX1_plainStrike_39 ⟨Nat.zero_le _, Nat.zero_le _⟩) hS (fun q _ h => h) (fun q h => h) (fun r7 σ8 t H1 locs1 ht hvm hw hB hz1 hk1 hS => ?_)
            have hP : va_P D vwCl (xw c q σ8) H1 := ht ▸ hB
            have hD : va_D (wdA 36 q) (xw c q σ8) := xw_D hD0
            refine lv_icmp_lt (tgt := 48) hx hb dX1_plainStrike_42 (by decide) (fun c9 => ?_) (fun c9 => ?_)
            · have hw := hw.1 c9
              obtain ⟨v10, ev10⟩ : ∃ z : Int32, z = y4 + (1 : Int32) := ⟨_, rfl⟩
              have hw := hw v10 ev10
              refine lv_iinc (v := v10) (lv' := [(4, .int v10), (0, .ref (q 6)), (1, .int z1), (2, .int z2), (3, .int y3)]) hx hb dX1_plainStrike_48 hl (k := 4) rfl (by rw [ev10]; rfl) (by decide) rfl (fun ls hl => ?_)
              refine lv_goto (tgt := 5) hx hb dX1_plainStrike_51 (by decide) ?_
              exact ih y3 v10 σ8 _ _ _ hw hk54 hP hS (lv_sub hl [1, 2, 3, 4, 0] rfl)
            · have hw := hw.2 c9
              refine lv_iload hx hb dX1_plainStrike_45 (lv_at hl 4 rfl) ?_
              refine lv_istore_n (lv' := [(3, .int y4), (0, .ref (q 6)), (1, .int z1), (2, .int z2), (4, .int y4)]) hx hb dX1_plainStrike_47 rfl hl (by decide) rfl (fun ls hl => ?_)
              obtain ⟨v11, ev11⟩ : ∃ z : Int32, z = y4 + (1 : Int32) := ⟨_, rfl⟩
              have hw := hw v11 ev11
              refine lv_iinc (v := v11) (lv' := [(4, .int v11), (3, .int y4), (0, .ref (q 6)), (1, .int z1), (2, .int z2)]) hx hb dX1_plainStrike_48 hl (k := 4) rfl (by rw [ev11]; rfl) (by decide) rfl (fun ls hl => ?_)
              refine lv_goto (tgt := 5) hx hb dX1_plainStrike_51 (by decide) ?_
              exact ih y4 v11 σ8 _ _ _ hw hk54 hP hS (lv_sub hl [2, 3, 4, 1, 0] rfl)
  have hl := lv_entry ([.ref (q 6), .int x1, .int x2]) (n := 5) (Nat.le_of_ble_eq_true rfl)
  rw [lg_entry_eq]
  generalize (lg_sl ([.ref (q 6), .int x1, .int x2]) ++ List.replicate (5 - (lg_sl ([.ref (q 6), .int x1, .int x2])).length) Slot.unset).toArray = ls at hl ⊢
  have hl : lv_has ls 5 [(0, .ref (q 6)), (1, .int x1), (2, .int x2)] := hl
  unfold wX1_plainStrike at hw
  refine lv_iconst (v := (-1 : Int32)) hx hb dX1_plainStrike_0 (by decide) ?_
  refine lv_istore_n (lv' := [(3, .int (-1 : Int32)), (0, .ref (q 6)), (1, .int x1), (2, .int x2)]) hx hb dX1_plainStrike_1 rfl hl (by decide) rfl (fun ls hl => ?_)
  refine lv_iconst (v := (0 : Int32)) hx hb dX1_plainStrike_2 (by decide) ?_
  refine lv_istore (lv' := [(4, .int (0 : Int32)), (3, .int (-1 : Int32)), (0, .ref (q 6)), (1, .int x1), (2, .int x2)]) hx hb dX1_plainStrike_3 hl (by decide) rfl (fun ls hl => ?_)
  obtain ⟨n13, hw⟩ := hw
  refine L5 _ x1 x2 n13 (-1 : Int32) (0 : Int32) σ _ _ _ hw ?_ hP hS (lv_sub hl [2, 3, 4, 1, 0] rfl)
  intro v14 v15 σ16 H locs ls hw hP hS hl
  have hD : va_D (wdA 36 q) (xw c q σ16) := xw_D hD0
  refine lv_iload_n hx hb dX1_plainStrike_54 rfl (lv_at hl 3 rfl) ?_
  exact W.iret hx hb hr (fun t ht hW => ⟨⟨_, σ16, rfl, hw, by unfold wdB; rw [ht]; exact hP⟩, hS.F ht⟩) hS.2.2 dX1_plainStrike_55
set_option maxHeartbeats 4000000 in
set_option maxRecDepth 100000 in
theorem kcX1_strikePlainly_6 (l : Launch) (D : va_G) (c : Nat → ClassId) (q : Nat → Nat) (ev : State → Heap → Prop) (hev : evOK (wdA 36 q) ev) (σ : hsS) (x1 : Int32) (x2 : Int32) (post : Int32 → hsS → Prop) (hw : wX1_strikePlainly 6 x1 x2 post σ) : Met l yX1_strikePlainly (Cond.code yX1_strikePlainly cX1_strikePlainly 3 (some .int) :: tb_L) { frames := 2, cells := 0, slots := 0, locals := 46 } (wdPc D (xw c q) (xwT c) (wdA 36 q) ev σ [.ref (q 6), .int x1, .int x2]) (va_Qi post (wdB D (xw c q)) (wdA 36 q)) 0 0 (wdA 36 q) := by
  refine Met.ofW (cc := cX1_strikePlainly) (maxL := 3) (ret := (some .int)) (by decide) rfl ?_
  intro p e s m args below meth c₀ s₁ Bd hml hv
  obtain ⟨rfl, hP, hK, hD0, hE⟩ := hv
  have hx := Bd.exec
  have hb := Bd.bytes
  have hr := Bd.returns
  have hts := atoms_spec (ws := Cond.code yX1_strikePlainly cX1_strikePlainly 3 (some .int) :: tb_L) Bd.pre
  have htb : ∀ w ∈ tb_L, w.before [.ref (q 6), .int x1, .int x2].toArray s = true := fun w h => hts w (List.mem_cons_of_mem _ h)
  have hown : s.vm.findClass RX1 = some m.cls := findClass_of_methodNamed Bd.named
  have hlocks := Bd.notSynchronized
  have hS : va_S (wdA 36 q) s.heap s.heap [] := va_S.rf
  have hD := hD0
  have hl := lv_entry ([.ref (q 6), .int x1, .int x2]) (n := 3) (Nat.le_of_ble_eq_true rfl)
  rw [lg_entry_eq]
  generalize (lg_sl ([.ref (q 6), .int x1, .int x2]) ++ List.replicate (3 - (lg_sl ([.ref (q 6), .int x1, .int x2])).length) Slot.unset).toArray = ls at hl ⊢
  have hl : lv_has ls 3 [(0, .ref (q 6)), (1, .int x1), (2, .int x2)] := hl
  unfold wX1_strikePlainly at hw
  refine lv_iload_n hx hb dX1_strikePlainly_0 rfl (lv_at hl 2 rfl) ?_
  refine va_calli (va_runS (As := [.int x2]) (rest := []) ⟨hx, hb, hml, hown, htb⟩ (kcJ6_bitCount_0f7a4_x l D c q ev hev σ x2 _ hw) (tb_CS htb kJ6_bitCount_0f7a4 tb_406 tb_407 ⟨Nat.le_of_ble_eq_true rfl, Nat.le_of_ble_eq_true rfl⟩) (wd_preS (wd := xw c q) hev hK hP hD hE hS) rfl rfl hl.1 rfl (lv_room (Nat.le_of_ble_eq_true rfl)) dX1_strikePlainly_1 ⟨Nat.zero_le _, Nat.zero_le _⟩) hS (fun q _ h => h) (fun q h => h) (fun r1 σ2 t H1 locs1 ht hvm hw hB hz1 hk1 hS => ?_)
  have hP : va_P D vwCl (xw c q σ2) H1 := ht ▸ hB
  have hD : va_D (wdA 36 q) (xw c q σ2) := xw_D hD0
  refine lv_iconst (v := (2 : Int32)) hx hb dX1_strikePlainly_4 (by decide) ?_
  refine lv_icmp_ge (tgt := 10) hx hb dX1_strikePlainly_5 (by decide) (fun c3 => ?_) (fun c3 => ?_)
  · have hw := hw.1 c3
    refine lv_iload_n hx hb dX1_strikePlainly_10 rfl (lv_at hl 2 rfl) ?_
    refine lv_iconst (v := (1 : Int32)) hx hb dX1_strikePlainly_11 (by decide) ?_
    refine lv_aload_n hx hb dX1_strikePlainly_12 rfl (lv_at hl 0 rfl) ?_
    refine lv_iload_n hx hb dX1_strikePlainly_13 rfl (lv_at hl 1 rfl) ?_
    refine lv_iload_n hx hb dX1_strikePlainly_14 rfl (lv_at hl 2 rfl) ?_
    refine va_calli (va_runV (As := [.int x1, .int x2]) (rest := [.int (1 : Int32), .int x2]) ⟨hx, hb, hml, hown, htb⟩ (kcX1_plainStrike_6 l D c q ev hev σ2 x1 x2 _ hw) (tb_CW htb kX1_plainStrike tb_466 tb_467 tb_468 ⟨Nat.le_of_ble_eq_true rfl, Nat.le_of_ble_eq_true rfl⟩) (wd_preV (wd := xw c q) (k := 6) hev hK hP hD hE hS (xw_6 c q σ2) rfl) rfl rfl hl.1 rfl (lv_room (Nat.le_of_ble_eq_true rfl)) dX1_strikePlainly_15 ⟨Nat.zero_le _, Nat.zero_le _⟩) hS (fun q _ h => h) (fun q h => h) (fun r4 σ5 t H1 locs1 ht hvm hw hB hz1 hk1 hS => ?_)
    have hP : va_P D vwCl (xw c q σ5) H1 := ht ▸ hB
    have hD : va_D (wdA 36 q) (xw c q σ5) := xw_D hD0
    refine lv_ishl hx hb dX1_strikePlainly_18 ?_
    refine lv_iconst (v := (-1 : Int32)) hx hb dX1_strikePlainly_19 (by decide) ?_
    refine lv_ixor hx hb dX1_strikePlainly_20 ?_
    refine lv_iand hx hb dX1_strikePlainly_21 ?_
    exact W.iret hx hb hr (fun t ht hW => ⟨⟨_, σ5, rfl, hw, by unfold wdB; rw [ht]; exact hP⟩, hS.F ht⟩) hS.2.2 dX1_strikePlainly_22
  · have hw := hw.2 c3
    refine lv_iload_n hx hb dX1_strikePlainly_8 rfl (lv_at hl 2 rfl) ?_
    exact W.iret hx hb hr (fun t ht hW => ⟨⟨_, σ2, rfl, hw, by unfold wdB; rw [ht]; exact hP⟩, hS.F ht⟩) hS.2.2 dX1_strikePlainly_9
set_option maxHeartbeats 4000000 in
set_option maxRecDepth 100000 in
theorem kcX1_plainEnd_6 (l : Launch) (D : va_G) (c : Nat → ClassId) (q : Nat → Nat) (ev : State → Heap → Prop) (hev : evOK (wdA 36 q) ev) (σ : hsS)  (post : Int32 → hsS → Prop) (hw : wX1_plainEnd 6 post σ) : Met l yX1_plainEnd (Cond.code yX1_plainEnd cX1_plainEnd 3 (some .int) :: tb_L) { frames := 3, cells := 0, slots := 0, locals := 68 } (wdPc D (xw c q) (xwT c) (wdA 36 q) ev σ [.ref (q 6)]) (va_Qi post (wdB D (xw c q)) (wdA 36 q)) 0 0 (wdA 36 q) := by
  refine Met.ofW (cc := cX1_plainEnd) (maxL := 3) (ret := (some .int)) (by decide) rfl ?_
  intro p e s m args below meth c₀ s₁ Bd hml hv
  obtain ⟨rfl, hP, hK, hD0, hE⟩ := hv
  have hx := Bd.exec
  have hb := Bd.bytes
  have hr := Bd.returns
  have hts := atoms_spec (ws := Cond.code yX1_plainEnd cX1_plainEnd 3 (some .int) :: tb_L) Bd.pre
  have htb : ∀ w ∈ tb_L, w.before [.ref (q 6)].toArray s = true := fun w h => hts w (List.mem_cons_of_mem _ h)
  have hown : s.vm.findClass RX1 = some m.cls := findClass_of_methodNamed Bd.named
  have hlocks := Bd.notSynchronized
  have hS : va_S (wdA 36 q) s.heap s.heap [] := va_S.rf
  have hD := hD0
  have L7 : ∀ (K33 : Int32 → Int32 → hsS → Prop) (n : Nat) (y1 : Int32) (y2 : Int32) (σ : hsS) (H : Heap) (locs : List Loc) (ls : Array Slot), wX1_plainEnd_L7 6 K33 post n y1 y2 σ → (∀ (y1 : Int32) (y2 : Int32) (σ : hsS) (H : Heap) (locs : List Loc) (ls : Array Slot), K33 y1 y2 σ → va_P D vwCl (xw c q σ) H → va_S (wdA 36 q) s.heap H locs → lv_has ls 3 [(0, .ref (q 6)), (1, .int y1), (2, .int y2)] → W p l e (headSpec (Cond.code yX1_plainEnd cX1_plainEnd 3 (some .int) :: tb_L) { frames := 3, cells := 0, slots := 0, locals := 68 }).room s m [.ref (q 6)].toArray below meth c₀ H locs 0 0 (MQ below (va_Qi post (wdB D (xw c q)) (wdA 36 q)) [.ref (q 6)].toArray s 0 0 (wdA 36 q)) (F0 m 33 ls [])) → va_P D vwCl (xw c q σ) H → va_S (wdA 36 q) s.heap H locs → lv_has ls 3 [(0, .ref (q 6)), (1, .int y1), (2, .int y2)] → W p l e (headSpec (Cond.code yX1_plainEnd cX1_plainEnd 3 (some .int) :: tb_L) { frames := 3, cells := 0, slots := 0, locals := 68 }).room s m [.ref (q 6)].toArray below meth c₀ H locs 0 0 (MQ below (va_Qi post (wdB D (xw c q)) (wdA 36 q)) [.ref (q 6)].toArray s 0 0 (wdA 36 q)) (F0 m 7 ls []) := by
    intro K33 n
    induction n with
    | zero =>
      intro y1 y2 σ H locs ls hw hk33 hP hS hl
      exact (show False from hw).elim
    | succ n ih =>
      intro y1 y2 σ H locs ls hw hk33 hP hS hl
      rw [wX1_plainEnd_L7] at hw
      have hD : va_D (wdA 36 q) (xw c q σ) := xw_D hD0
      refine lv_iload_n hx hb dX1_plainEnd_7 rfl (lv_at hl 2 rfl) ?_
      refine lv_aload_n hx hb dX1_plainEnd_8 rfl (lv_at hl 0 rfl) ?_
      refine va_get (D := D) (ci := 1) (C := RX1) (T := TX1) (N := 12) hx hb htb inX1 hown hK hP 6 (xw_6 c q σ) rfl 6 (by decide) (htb _ tb_148) (fun _ h9 => h9) rfl dX1_plainEnd_9 ?_
      refine lv_icmp_ge (tgt := 33) hx hb dX1_plainEnd_12 (by decide) (fun c3 => ?_) (fun c3 => ?_)
      · have hw := hw.1 c3
        exact hk33 y1 y2 σ _ _ _ hw hP hS (lv_sub hl [0, 1, 2] rfl)
      · have hw := hw.2 c3
        refine lv_aload_n hx hb dX1_plainEnd_15 rfl (lv_at hl 0 rfl) ?_
        refine lv_aload_n hx hb dX1_plainEnd_16 rfl (lv_at hl 0 rfl) ?_
        refine va_get (D := D) (ci := 1) (C := RX1) (T := TX1) (N := 12) hx hb htb inX1 hown hK hP 6 (xw_6 c q σ) rfl 11 (by decide) (htb _ tb_161) (fun _ h9 => h9) rfl dX1_plainEnd_17 ?_
        refine lv_iload_n hx hb dX1_plainEnd_20 rfl (lv_at hl 2 rfl) ?_
        refine va_iald hx hb hK hP 10 7 (xw_10 c q σ) rfl hw.1 dX1_plainEnd_21 ?_
        have hw := hw.2
        refine lv_iload_n hx hb dX1_plainEnd_22 rfl (lv_at hl 1 rfl) ?_
        refine va_calli (va_runV (As := [.int (σ.2.1 10 y2.toNatClampNeg), .int y1]) (rest := []) ⟨hx, hb, hml, hown, htb⟩ (kcX1_strikePlainly_6 l D c q ev hev σ (σ.2.1 10 y2.toNatClampNeg) y1 _ hw) (tb_CW htb kX1_strikePlainly tb_462 tb_463 tb_464 ⟨Nat.le_of_ble_eq_true rfl, Nat.le_of_ble_eq_true rfl⟩) (wd_preV (wd := xw c q) (k := 6) hev hK hP hD hE hS (xw_6 c q σ) rfl) rfl rfl hl.1 rfl (lv_room (Nat.le_of_ble_eq_true rfl)) dX1_plainEnd_23 ⟨Nat.zero_le _, Nat.zero_le _⟩) hS (fun q _ h => h) (fun q h => h) (fun r4 σ5 t H1 locs1 ht hvm hw hB hz1 hk1 hS => ?_)
        have hP : va_P D vwCl (xw c q σ5) H1 := ht ▸ hB
        have hD : va_D (wdA 36 q) (xw c q σ5) := xw_D hD0
        refine lv_istore_n (lv' := [(1, .int r4), (0, .ref (q 6)), (2, .int y2)]) hx hb dX1_plainEnd_26 rfl hl (by decide) rfl (fun ls hl => ?_)
        obtain ⟨v6, ev6⟩ : ∃ z : Int32, z = y2 + (1 : Int32) := ⟨_, rfl⟩
        have hw := hw v6 ev6
        refine lv_iinc (v := v6) (lv' := [(2, .int v6), (1, .int r4), (0, .ref (q 6))]) hx hb dX1_plainEnd_27 hl (k := 2) rfl (by rw [ev6]; rfl) (by decide) rfl (fun ls hl => ?_)
        refine lv_goto (tgt := 7) hx hb dX1_plainEnd_30 (by decide) ?_
        exact ih r4 v6 σ5 _ _ _ hw hk33 hP hS (lv_sub hl [2, 1, 0] rfl)
  have hl := lv_entry ([.ref (q 6)]) (n := 3) (Nat.le_of_ble_eq_true rfl)
  rw [lg_entry_eq]
  generalize (lg_sl ([.ref (q 6)]) ++ List.replicate (3 - (lg_sl ([.ref (q 6)])).length) Slot.unset).toArray = ls at hl ⊢
  have hl : lv_has ls 3 [(0, .ref (q 6))] := hl
  unfold wX1_plainEnd at hw
  refine lv_aload_n hx hb dX1_plainEnd_0 rfl (lv_at hl 0 rfl) ?_
  refine va_calli (va_runV (As := []) (rest := []) ⟨hx, hb, hml, hown, htb⟩ (kcX1_allThings_6 l D c q ev hev σ  _ hw) (tb_CW htb kX1_allThings tb_461 tb_438 tb_439 ⟨Nat.le_of_ble_eq_true rfl, Nat.le_of_ble_eq_true rfl⟩) (wd_preV (wd := xw c q) (k := 6) hev hK hP hD hE hS (xw_6 c q σ) rfl) rfl rfl hl.1 rfl (lv_room (Nat.le_of_ble_eq_true rfl)) dX1_plainEnd_1 ⟨Nat.zero_le _, Nat.zero_le _⟩) hS (fun q _ h => h) (fun q h => h) (fun r1 σ2 t H1 locs1 ht hvm hw hB hz1 hk1 hS => ?_)
  have hP : va_P D vwCl (xw c q σ2) H1 := ht ▸ hB
  have hD : va_D (wdA 36 q) (xw c q σ2) := xw_D hD0
  refine lv_istore_n (lv' := [(1, .int r1), (0, .ref (q 6))]) hx hb dX1_plainEnd_4 rfl hl (by decide) rfl (fun ls hl => ?_)
  refine lv_iconst (v := (0 : Int32)) hx hb dX1_plainEnd_5 (by decide) ?_
  refine lv_istore_n (lv' := [(2, .int (0 : Int32)), (1, .int r1), (0, .ref (q 6))]) hx hb dX1_plainEnd_6 rfl hl (by decide) rfl (fun ls hl => ?_)
  obtain ⟨n7, hw⟩ := hw
  refine L7 _ n7 r1 (0 : Int32) σ2 _ _ _ hw ?_ hP hS (lv_sub hl [2, 1, 0] rfl)
  intro v8 v9 σ10 H locs ls hw hP hS hl
  have hD : va_D (wdA 36 q) (xw c q σ10) := xw_D hD0
  refine lv_iload_n hx hb dX1_plainEnd_33 rfl (lv_at hl 1 rfl) ?_
  exact W.iret hx hb hr (fun t ht hW => ⟨⟨_, σ10, rfl, hw, by unfold wdB; rw [ht]; exact hP⟩, hS.F ht⟩) hS.2.2 dX1_plainEnd_34
def wX7_tradePays (x1 : Int32) (x2 : Int32) (x3 : Int32) (post : Int32 → hsS → Prop) (σ : hsS) : Prop := vp_in x1 8 ∧ ∀ v1 : Int32, v1 = σ.2.1 5 x1.toNatClampNeg → vp_in x2 8 ∧ ∀ v2 : Int32, v2 = σ.2.1 5 x2.toNatClampNeg → ((v1 = v2 → post (0 : Int32) σ) ∧ (¬ v1 = v2 → vp_in x1 8 ∧ ∀ σ4 : hsS, σ4 = hsA σ 10 (upd (σ.2.1 10) x1.toNatClampNeg v2) → vp_in x2 8 ∧ ∀ σ5 : hsS, σ5 = hsA σ4 10 (upd (σ4.2.1 10) x2.toNatClampNeg v1) → wX1_plainEnd 6 (fun r6 σ7 => vp_in x1 8 ∧ ∀ σ8 : hsS, σ8 = hsA σ7 10 (upd (σ7.2.1 10) x1.toNatClampNeg v1) → vp_in x2 8 ∧ ∀ σ9 : hsS, σ9 = hsA σ8 10 (upd (σ8.2.1 10) x2.toNatClampNeg v2) → wX1_greatestPlace 1 v1 r6 (fun r10 σ11 => wX1_greatestPlace 1 v1 x3 (fun r12 σ13 => ((r12 ≤ r10 → post (0 : Int32) σ13) ∧ (¬ r12 ≤ r10 → wX1_greatestPlace 1 v2 r6 (fun r15 σ16 => wX1_greatestPlace 1 v2 x3 (fun r17 σ18 => ((r17 ≤ r15 → post (0 : Int32) σ18) ∧ (¬ r17 ≤ r15 → post (1 : Int32) σ18))) σ16) σ13))) σ11) σ9) σ5))
set_option maxHeartbeats 4000000 in
set_option maxRecDepth 100000 in
theorem kcX7_tradePays (l : Launch) (D : va_G) (c : Nat → ClassId) (q : Nat → Nat) (ev : State → Heap → Prop) (hev : evOK (wdA 36 q) ev) (σ : hsS) (x1 : Int32) (x2 : Int32) (x3 : Int32) (post : Int32 → hsS → Prop) (hw : wX7_tradePays x1 x2 x3 post σ) : Met l yX7_tradePays (Cond.code yX7_tradePays cX7_tradePays 7 (some .boolean) :: tb_L) { frames := 4, cells := 0, slots := 0, locals := 90 } (wdPc D (xw c q) (xwT c) (wdA 36 q) ev σ [.ref (q 0), .int x1, .int x2, .int x3]) (va_Qi post (wdB D (xw c q)) (wdA 36 q)) 0 0 (wdA 36 q) := by
  refine Met.ofW (cc := cX7_tradePays) (maxL := 7) (ret := (some .boolean)) (by decide) rfl ?_
  intro p e s m args below meth c₀ s₁ Bd hml hv
  obtain ⟨rfl, hP, hK, hD0, hE⟩ := hv
  have hx := Bd.exec
  have hb := Bd.bytes
  have hr := Bd.returns
  have hts := atoms_spec (ws := Cond.code yX7_tradePays cX7_tradePays 7 (some .boolean) :: tb_L) Bd.pre
  have htb : ∀ w ∈ tb_L, w.before [.ref (q 0), .int x1, .int x2, .int x3].toArray s = true := fun w h => hts w (List.mem_cons_of_mem _ h)
  have hown : s.vm.findClass RX7 = some m.cls := findClass_of_methodNamed Bd.named
  have hlocks := Bd.notSynchronized
  have hS : va_S (wdA 36 q) s.heap s.heap [] := va_S.rf
  have hD := hD0
  have hl := lv_entry ([.ref (q 0), .int x1, .int x2, .int x3]) (n := 7) (Nat.le_of_ble_eq_true rfl)
  rw [lg_entry_eq]
  generalize (lg_sl ([.ref (q 0), .int x1, .int x2, .int x3]) ++ List.replicate (7 - (lg_sl ([.ref (q 0), .int x1, .int x2, .int x3])).length) Slot.unset).toArray = ls at hl ⊢
  have hl : lv_has ls 7 [(0, .ref (q 0)), (1, .int x1), (2, .int x2), (3, .int x3)] := hl
  unfold wX7_tradePays at hw
  refine lv_aload_n hx hb dX7_tradePays_0 rfl (lv_at hl 0 rfl) ?_
  refine va_get (D := D) (ci := 7) (C := RX7) (T := TX7) (N := 9) hx hb htb inX7 hown hK hP 0 (xw_0 c q σ) rfl 0 (by decide) (htb _ tb_342) (fun _ h9 => h9) rfl dX7_tradePays_1 ?_
  refine va_getN (D := D) (ci := 1) (C := RX1) (T := TX1) (N := 12) hx hb htb inX1 hown hK hP 1 (xw_1 c q σ) rfl 11 (by decide) (htb _ tb_165) (fun _ h9 => h9) rfl dX7_tradePays_4 ?_
  refine lv_iload_n hx hb dX7_tradePays_7 rfl (lv_at hl 1 rfl) ?_
  refine va_iald hx hb hK hP 5 3 (xw_5 c q σ) rfl hw.1 dX7_tradePays_8 ?_
  have hw := hw.2
  refine lv_topi (fun v1 ev1 => ?_)
  have hw := hw v1 ev1
  refine lv_istore (lv' := [(4, .int v1), (0, .ref (q 0)), (1, .int x1), (2, .int x2), (3, .int x3)]) hx hb dX7_tradePays_9 hl (by decide) rfl (fun ls hl => ?_)
  refine lv_aload_n hx hb dX7_tradePays_11 rfl (lv_at hl 1 rfl) ?_
  refine va_get (D := D) (ci := 7) (C := RX7) (T := TX7) (N := 9) hx hb htb inX7 hown hK hP 0 (xw_0 c q σ) rfl 0 (by decide) (htb _ tb_342) (fun _ h9 => h9) rfl dX7_tradePays_12 ?_
  refine va_getN (D := D) (ci := 1) (C := RX1) (T := TX1) (N := 12) hx hb htb inX1 hown hK hP 1 (xw_1 c q σ) rfl 11 (by decide) (htb _ tb_165) (fun _ h9 => h9) rfl dX7_tradePays_15 ?_
  refine lv_iload_n hx hb dX7_tradePays_18 rfl (lv_at hl 3 rfl) ?_
  refine va_iald hx hb hK hP 5 3 (xw_5 c q σ) rfl hw.1 dX7_tradePays_19 ?_
  have hw := hw.2
  refine lv_topi (fun v2 ev2 => ?_)
  have hw := hw v2 ev2
  refine lv_istore (lv' := [(5, .int v2), (4, .int v1), (0, .ref (q 0)), (1, .int x1), (2, .int x2), (3, .int x3)]) hx hb dX7_tradePays_20 hl (by decide) rfl (fun ls hl => ?_)
  refine lv_iload hx hb dX7_tradePays_22 (lv_at hl 1 rfl) ?_
  refine lv_iload hx hb dX7_tradePays_24 (lv_at hl 0 rfl) ?_
  refine lv_icmp_ne (tgt := 31) hx hb dX7_tradePays_26 (by decide) (fun c3 => ?_) (fun c3 => ?_)
  · have hw := hw.2 c3
    refine lv_aload_n hx hb dX7_tradePays_31 rfl (lv_at hl 2 rfl) ?_
    refine va_get (D := D) (ci := 7) (C := RX7) (T := TX7) (N := 9) hx hb htb inX7 hown hK hP 0 (xw_0 c q σ) rfl 1 (by decide) (htb _ tb_343) (fun _ h9 => h9) rfl dX7_tradePays_32 ?_
    refine va_getN (D := D) (ci := 1) (C := RX1) (T := TX1) (N := 12) hx hb htb inX1 hown hK hP 6 (xw_6 c q σ) rfl 11 (by decide) (htb _ tb_165) (fun _ h9 => h9) rfl dX7_tradePays_35 ?_
    refine lv_iload_n hx hb dX7_tradePays_38 rfl (lv_at hl 3 rfl) ?_
    refine lv_iload hx hb dX7_tradePays_39 (lv_at hl 0 rfl) ?_
    refine va_iast hx hb hK hP hD hS 10 7 (xw_10 c q σ) rfl hw.1 dX7_tradePays_41 (fun H locs hP hD hS => ?_)
    have hw := hw.2
    have hP : va_P D vwCl (xw c q (hsA σ 10 (upd (σ.2.1 10) x1.toNatClampNeg v2))) H := hP
    obtain ⟨σ4, eσ4⟩ : ∃ z : hsS, z = hsA σ 10 (upd (σ.2.1 10) x1.toNatClampNeg v2) := ⟨_, rfl⟩
    rw [← eσ4] at hP
    have hD : va_D (wdA 36 q) (xw c q σ4) := xw_D hD0
    have hw := hw σ4 eσ4
    refine lv_aload_n hx hb dX7_tradePays_42 rfl (lv_at hl 2 rfl) ?_
    refine va_get (D := D) (ci := 7) (C := RX7) (T := TX7) (N := 9) hx hb htb inX7 hown hK hP 0 (xw_0 c q σ4) rfl 1 (by decide) (htb _ tb_343) (fun _ h9 => h9) rfl dX7_tradePays_43 ?_
    refine va_getN (D := D) (ci := 1) (C := RX1) (T := TX1) (N := 12) hx hb htb inX1 hown hK hP 6 (xw_6 c q σ4) rfl 11 (by decide) (htb _ tb_165) (fun _ h9 => h9) rfl dX7_tradePays_46 ?_
    refine lv_iload_n hx hb dX7_tradePays_49 rfl (lv_at hl 4 rfl) ?_
    refine lv_iload hx hb dX7_tradePays_50 (lv_at hl 1 rfl) ?_
    refine va_iast hx hb hK hP hD hS 10 7 (xw_10 c q σ4) rfl hw.1 dX7_tradePays_52 (fun H locs hP hD hS => ?_)
    have hw := hw.2
    have hP : va_P D vwCl (xw c q (hsA σ4 10 (upd (σ4.2.1 10) x2.toNatClampNeg v1))) H := hP
    obtain ⟨σ5, eσ5⟩ : ∃ z : hsS, z = hsA σ4 10 (upd (σ4.2.1 10) x2.toNatClampNeg v1) := ⟨_, rfl⟩
    rw [← eσ5] at hP
    have hD : va_D (wdA 36 q) (xw c q σ5) := xw_D hD0
    have hw := hw σ5 eσ5
    refine lv_aload_n hx hb dX7_tradePays_53 rfl (lv_at hl 2 rfl) ?_
    refine va_get (D := D) (ci := 7) (C := RX7) (T := TX7) (N := 9) hx hb htb inX7 hown hK hP 0 (xw_0 c q σ5) rfl 1 (by decide) (htb _ tb_343) (fun _ h9 => h9) rfl dX7_tradePays_54 ?_
    refine va_calli (va_runV (As := []) (rest := []) ⟨hx, hb, hml, hown, htb⟩ (kcX1_plainEnd_6 l D c q ev hev σ5  _ hw) (tb_CW htb kX1_plainEnd tb_457 tb_458 tb_459 ⟨Nat.le_of_ble_eq_true rfl, Nat.le_of_ble_eq_true rfl⟩) (wd_preV (wd := xw c q) (k := 6) hev hK hP hD hE hS (xw_6 c q σ5) rfl) rfl rfl hl.1 rfl (lv_room (Nat.le_of_ble_eq_true rfl)) dX7_tradePays_57 ⟨Nat.zero_le _, Nat.zero_le _⟩) hS (fun q _ h => h) (fun q h => h) (fun r6 σ7 t H1 locs1 ht hvm hw hB hz1 hk1 hS => ?_)
    have hP : va_P D vwCl (xw c q σ7) H1 := ht ▸ hB
    have hD : va_D (wdA 36 q) (xw c q σ7) := xw_D hD0
    refine lv_istore (lv' := [(6, .int r6), (5, .int v2), (4, .int v1), (0, .ref (q 0)), (1, .int x1), (2, .int x2), (3, .int x3)]) hx hb dX7_tradePays_60 hl (by decide) rfl (fun ls hl => ?_)
    refine lv_aload_n hx hb dX7_tradePays_62 rfl (lv_at hl 3 rfl) ?_
    refine va_get (D := D) (ci := 7) (C := RX7) (T := TX7) (N := 9) hx hb htb inX7 hown hK hP 0 (xw_0 c q σ7) rfl 1 (by decide) (htb _ tb_343) (fun _ h9 => h9) rfl dX7_tradePays_63 ?_
    refine va_getN (D := D) (ci := 1) (C := RX1) (T := TX1) (N := 12) hx hb htb inX1 hown hK hP 6 (xw_6 c q σ7) rfl 11 (by decide) (htb _ tb_165) (fun _ h9 => h9) rfl dX7_tradePays_66 ?_
    refine lv_iload_n hx hb dX7_tradePays_69 rfl (lv_at hl 4 rfl) ?_
    refine lv_iload hx hb dX7_tradePays_70 (lv_at hl 2 rfl) ?_
    refine va_iast hx hb hK hP hD hS 10 7 (xw_10 c q σ7) rfl hw.1 dX7_tradePays_72 (fun H locs hP hD hS => ?_)
    have hw := hw.2
    have hP : va_P D vwCl (xw c q (hsA σ7 10 (upd (σ7.2.1 10) x1.toNatClampNeg v1))) H := hP
    obtain ⟨σ8, eσ8⟩ : ∃ z : hsS, z = hsA σ7 10 (upd (σ7.2.1 10) x1.toNatClampNeg v1) := ⟨_, rfl⟩
    rw [← eσ8] at hP
    have hD : va_D (wdA 36 q) (xw c q σ8) := xw_D hD0
    have hw := hw σ8 eσ8
    refine lv_aload_n hx hb dX7_tradePays_73 rfl (lv_at hl 3 rfl) ?_
    refine va_get (D := D) (ci := 7) (C := RX7) (T := TX7) (N := 9) hx hb htb inX7 hown hK hP 0 (xw_0 c q σ8) rfl 1 (by decide) (htb _ tb_343) (fun _ h9 => h9) rfl dX7_tradePays_74 ?_
    refine va_getN (D := D) (ci := 1) (C := RX1) (T := TX1) (N := 12) hx hb htb inX1 hown hK hP 6 (xw_6 c q σ8) rfl 11 (by decide) (htb _ tb_165) (fun _ h9 => h9) rfl dX7_tradePays_77 ?_
    refine lv_iload_n hx hb dX7_tradePays_80 rfl (lv_at hl 5 rfl) ?_
    refine lv_iload hx hb dX7_tradePays_81 (lv_at hl 1 rfl) ?_
    refine va_iast hx hb hK hP hD hS 10 7 (xw_10 c q σ8) rfl hw.1 dX7_tradePays_83 (fun H locs hP hD hS => ?_)
    have hw := hw.2
    have hP : va_P D vwCl (xw c q (hsA σ8 10 (upd (σ8.2.1 10) x2.toNatClampNeg v2))) H := hP
    obtain ⟨σ9, eσ9⟩ : ∃ z : hsS, z = hsA σ8 10 (upd (σ8.2.1 10) x2.toNatClampNeg v2) := ⟨_, rfl⟩
    rw [← eσ9] at hP
    have hD : va_D (wdA 36 q) (xw c q σ9) := xw_D hD0
    have hw := hw σ9 eσ9
    refine lv_aload_n hx hb dX7_tradePays_84 rfl (lv_at hl 3 rfl) ?_
    refine va_get (D := D) (ci := 7) (C := RX7) (T := TX7) (N := 9) hx hb htb inX7 hown hK hP 0 (xw_0 c q σ9) rfl 0 (by decide) (htb _ tb_342) (fun _ h9 => h9) rfl dX7_tradePays_85 ?_
    refine lv_iload hx hb dX7_tradePays_88 (lv_at hl 2 rfl) ?_
    refine lv_iload hx hb dX7_tradePays_90 (lv_at hl 0 rfl) ?_
    refine va_calli (va_runV (As := [.int v1, .int r6]) (rest := []) ⟨hx, hb, hml, hown, htb⟩ (kcX1_greatestPlace_1 l D c q ev hev σ9 v1 r6 _ hw) (tb_CW htb kX1_greatestPlace tb_1023 tb_491 tb_492 ⟨Nat.le_of_ble_eq_true rfl, Nat.le_of_ble_eq_true rfl⟩) (wd_preV (wd := xw c q) (k := 1) hev hK hP hD hE hS (xw_1 c q σ9) rfl) rfl rfl hl.1 rfl (lv_room (Nat.le_of_ble_eq_true rfl)) dX7_tradePays_92 ⟨Nat.zero_le _, Nat.zero_le _⟩) hS (fun q _ h => h) (fun q h => h) (fun r10 σ11 t H1 locs1 ht hvm hw hB hz1 hk1 hS => ?_)
    have hP : va_P D vwCl (xw c q σ11) H1 := ht ▸ hB
    have hD : va_D (wdA 36 q) (xw c q σ11) := xw_D hD0
    refine lv_aload_n hx hb dX7_tradePays_95 rfl (lv_at hl 3 rfl) ?_
    refine va_get (D := D) (ci := 7) (C := RX7) (T := TX7) (N := 9) hx hb htb inX7 hown hK hP 0 (xw_0 c q σ11) rfl 0 (by decide) (htb _ tb_342) (fun _ h9 => h9) rfl dX7_tradePays_96 ?_
    refine lv_iload hx hb dX7_tradePays_99 (lv_at hl 2 rfl) ?_
    refine lv_iload_n hx hb dX7_tradePays_101 rfl (lv_at hl 6 rfl) ?_
    refine va_calli (va_runV (As := [.int v1, .int x3]) (rest := [.int r10]) ⟨hx, hb, hml, hown, htb⟩ (kcX1_greatestPlace_1 l D c q ev hev σ11 v1 x3 _ hw) (tb_CW htb kX1_greatestPlace tb_1023 tb_491 tb_492 ⟨Nat.le_of_ble_eq_true rfl, Nat.le_of_ble_eq_true rfl⟩) (wd_preV (wd := xw c q) (k := 1) hev hK hP hD hE hS (xw_1 c q σ11) rfl) rfl rfl hl.1 rfl (lv_room (Nat.le_of_ble_eq_true rfl)) dX7_tradePays_102 ⟨Nat.zero_le _, Nat.zero_le _⟩) hS (fun q _ h => h) (fun q h => h) (fun r12 σ13 t H1 locs1 ht hvm hw hB hz1 hk1 hS => ?_)
    have hP : va_P D vwCl (xw c q σ13) H1 := ht ▸ hB
    have hD : va_D (wdA 36 q) (xw c q σ13) := xw_D hD0
    refine lv_icmp_ge (tgt := 136) hx hb dX7_tradePays_105 (by decide) (fun c14 => ?_) (fun c14 => ?_)
    · have hw := hw.1 c14
      refine lv_iconst (v := (0 : Int32)) hx hb dX7_tradePays_136 (by decide) ?_
      exact W.zret hx hb hr rfl (fun t ht hW => ⟨⟨_, σ13, rfl, hw, by unfold wdB; rw [ht]; exact hP⟩, hS.F ht⟩) hS.2.2 dX7_tradePays_137
    · have hw := hw.2 c14
      refine lv_aload_n hx hb dX7_tradePays_108 rfl (lv_at hl 3 rfl) ?_
      refine va_get (D := D) (ci := 7) (C := RX7) (T := TX7) (N := 9) hx hb htb inX7 hown hK hP 0 (xw_0 c q σ13) rfl 0 (by decide) (htb _ tb_342) (fun _ h9 => h9) rfl dX7_tradePays_109 ?_
      refine lv_iload hx hb dX7_tradePays_112 (lv_at hl 1 rfl) ?_
      refine lv_iload hx hb dX7_tradePays_114 (lv_at hl 0 rfl) ?_
      refine va_calli (va_runV (As := [.int v2, .int r6]) (rest := []) ⟨hx, hb, hml, hown, htb⟩ (kcX1_greatestPlace_1 l D c q ev hev σ13 v2 r6 _ hw) (tb_CW htb kX1_greatestPlace tb_1023 tb_491 tb_492 ⟨Nat.le_of_ble_eq_true rfl, Nat.le_of_ble_eq_true rfl⟩) (wd_preV (wd := xw c q) (k := 1) hev hK hP hD hE hS (xw_1 c q σ13) rfl) rfl rfl hl.1 rfl (lv_room (Nat.le_of_ble_eq_true rfl)) dX7_tradePays_116 ⟨Nat.zero_le _, Nat.zero_le _⟩) hS (fun q _ h => h) (fun q h => h) (fun r15 σ16 t H1 locs1 ht hvm hw hB hz1 hk1 hS => ?_)
      have hP : va_P D vwCl (xw c q σ16) H1 := ht ▸ hB
      have hD : va_D (wdA 36 q) (xw c q σ16) := xw_D hD0
      refine lv_aload_n hx hb dX7_tradePays_119 rfl (lv_at hl 3 rfl) ?_
      refine va_get (D := D) (ci := 7) (C := RX7) (T := TX7) (N := 9) hx hb htb inX7 hown hK hP 0 (xw_0 c q σ16) rfl 0 (by decide) (htb _ tb_342) (fun _ h9 => h9) rfl dX7_tradePays_120 ?_
      refine lv_iload hx hb dX7_tradePays_123 (lv_at hl 1 rfl) ?_
      refine lv_iload_n hx hb dX7_tradePays_125 rfl (lv_at hl 6 rfl) ?_
      refine va_calli (va_runV (As := [.int v2, .int x3]) (rest := [.int r15]) ⟨hx, hb, hml, hown, htb⟩ (kcX1_greatestPlace_1 l D c q ev hev σ16 v2 x3 _ hw) (tb_CW htb kX1_greatestPlace tb_1023 tb_491 tb_492 ⟨Nat.le_of_ble_eq_true rfl, Nat.le_of_ble_eq_true rfl⟩) (wd_preV (wd := xw c q) (k := 1) hev hK hP hD hE hS (xw_1 c q σ16) rfl) rfl rfl hl.1 rfl (lv_room (Nat.le_of_ble_eq_true rfl)) dX7_tradePays_126 ⟨Nat.zero_le _, Nat.zero_le _⟩) hS (fun q _ h => h) (fun q h => h) (fun r17 σ18 t H1 locs1 ht hvm hw hB hz1 hk1 hS => ?_)
      have hP : va_P D vwCl (xw c q σ18) H1 := ht ▸ hB
      have hD : va_D (wdA 36 q) (xw c q σ18) := xw_D hD0
      refine lv_icmp_ge (tgt := 136) hx hb dX7_tradePays_129 (by decide) (fun c19 => ?_) (fun c19 => ?_)
      · have hw := hw.1 c19
        refine lv_iconst (v := (0 : Int32)) hx hb dX7_tradePays_136 (by decide) ?_
        exact W.zret hx hb hr rfl (fun t ht hW => ⟨⟨_, σ18, rfl, hw, by unfold wdB; rw [ht]; exact hP⟩, hS.F ht⟩) hS.2.2 dX7_tradePays_137
      · have hw := hw.2 c19
        refine lv_iconst (v := (1 : Int32)) hx hb dX7_tradePays_132 (by decide) ?_
        refine lv_goto (tgt := 137) hx hb dX7_tradePays_133 (by decide) ?_
        exact W.zret hx hb hr rfl (fun t ht hW => ⟨⟨_, σ18, rfl, hw, by unfold wdB; rw [ht]; exact hP⟩, hS.F ht⟩) hS.2.2 dX7_tradePays_137
  · have hw := hw.1 c3
    refine lv_iconst (v := (0 : Int32)) hx hb dX7_tradePays_29 (by decide) ?_
    exact W.zret hx hb hr rfl (fun t ht hW => ⟨⟨_, σ, rfl, hw, by unfold wdB; rw [ht]; exact hP⟩, hS.F ht⟩) hS.2.2 dX7_tradePays_30
def wX1_greatestGrumble_L4 (b0 : Nat) (z1 : Int32) (K29 : Int32 → Int32 → hsS → Prop) (post : Int32 → hsS → Prop) : Nat → Int32 → Int32 → hsS → Prop
  | 0, _, _, _ => False
  | n + 1, y2, y3, σ => (((σ.1 (64 * b0 + 1)) ≤ y3 → K29 y2 y3 σ) ∧ (¬ (σ.1 (64 * b0 + 1)) ≤ y3 → wX1_placeOf b0 y3 z1 (fun r2 σ3 => ∀ v4 : Int32, v4 = (if y2 < r2 then r2 else y2) → ∀ v5 : Int32, v5 = y3 + (1 : Int32) → wX1_greatestGrumble_L4 b0 z1 K29 post n v4 v5 σ3) σ))
def wX1_greatestGrumble (b0 : Nat) (x1 : Int32) (post : Int32 → hsS → Prop) (σ : hsS) : Prop := ∃ n6, wX1_greatestGrumble_L4 b0 x1 (fun v7 v8 σ9 => post v7 σ9) post n6 (0 : Int32) (0 : Int32) σ
set_option maxHeartbeats 4000000 in
set_option maxRecDepth 100000 in
theorem kcX1_greatestGrumble_1 (l : Launch) (D : va_G) (c : Nat → ClassId) (q : Nat → Nat) (ev : State → Heap → Prop) (hev : evOK (wdA 36 q) ev) (σ : hsS) (x1 : Int32) (post : Int32 → hsS → Prop) (hw : wX1_greatestGrumble 1 x1 post σ) : Met l yX1_greatestGrumble (Cond.code yX1_greatestGrumble cX1_greatestGrumble 4 (some .int) :: tb_L) { frames := 1, cells := 0, slots := 0, locals := 40 } (wdPc D (xw c q) (xwT c) (wdA 36 q) ev σ [.ref (q 1), .int x1]) (va_Qi post (wdB D (xw c q)) (wdA 36 q)) 0 0 (wdA 36 q) := by
  refine Met.ofW (cc := cX1_greatestGrumble) (maxL := 4) (ret := (some .int)) (by decide) rfl ?_
  intro p e s m args below meth c₀ s₁ Bd hml hv
  obtain ⟨rfl, hP, hK, hD0, hE⟩ := hv
  have hx := Bd.exec
  have hb := Bd.bytes
  have hr := Bd.returns
  have hts := atoms_spec (ws := Cond.code yX1_greatestGrumble cX1_greatestGrumble 4 (some .int) :: tb_L) Bd.pre
  have htb : ∀ w ∈ tb_L, w.before [.ref (q 1), .int x1].toArray s = true := fun w h => hts w (List.mem_cons_of_mem _ h)
  have hown : s.vm.findClass RX1 = some m.cls := findClass_of_methodNamed Bd.named
  have hlocks := Bd.notSynchronized
  have hS : va_S (wdA 36 q) s.heap s.heap [] := va_S.rf
  have hD := hD0
  have L4 : ∀ (K29 : Int32 → Int32 → hsS → Prop) (z1 : Int32) (n : Nat) (y2 : Int32) (y3 : Int32) (σ : hsS) (H : Heap) (locs : List Loc) (ls : Array Slot), wX1_greatestGrumble_L4 1 z1 K29 post n y2 y3 σ → (∀ (y2 : Int32) (y3 : Int32) (σ : hsS) (H : Heap) (locs : List Loc) (ls : Array Slot), K29 y2 y3 σ → va_P D vwCl (xw c q σ) H → va_S (wdA 36 q) s.heap H locs → lv_has ls 4 [(0, .ref (q 1)), (1, .int z1), (2, .int y2), (3, .int y3)] → W p l e (headSpec (Cond.code yX1_greatestGrumble cX1_greatestGrumble 4 (some .int) :: tb_L) { frames := 1, cells := 0, slots := 0, locals := 40 }).room s m [.ref (q 1), .int x1].toArray below meth c₀ H locs 0 0 (MQ below (va_Qi post (wdB D (xw c q)) (wdA 36 q)) [.ref (q 1), .int x1].toArray s 0 0 (wdA 36 q)) (F0 m 29 ls [])) → va_P D vwCl (xw c q σ) H → va_S (wdA 36 q) s.heap H locs → lv_has ls 4 [(0, .ref (q 1)), (1, .int z1), (2, .int y2), (3, .int y3)] → W p l e (headSpec (Cond.code yX1_greatestGrumble cX1_greatestGrumble 4 (some .int) :: tb_L) { frames := 1, cells := 0, slots := 0, locals := 40 }).room s m [.ref (q 1), .int x1].toArray below meth c₀ H locs 0 0 (MQ below (va_Qi post (wdB D (xw c q)) (wdA 36 q)) [.ref (q 1), .int x1].toArray s 0 0 (wdA 36 q)) (F0 m 4 ls []) := by
    intro K29 z1 n
    induction n with
    | zero =>
      intro y2 y3 σ H locs ls hw hk29 hP hS hl
      exact (show False from hw).elim
    | succ n ih =>
      intro y2 y3 σ H locs ls hw hk29 hP hS hl
      rw [wX1_greatestGrumble_L4] at hw
      have hD : va_D (wdA 36 q) (xw c q σ) := xw_D hD0
      refine lv_iload_n hx hb dX1_greatestGrumble_4 rfl (lv_at hl 3 rfl) ?_
      refine lv_aload_n hx hb dX1_greatestGrumble_5 rfl (lv_at hl 0 rfl) ?_
      refine va_get (D := D) (ci := 1) (C := RX1) (T := TX1) (N := 12) hx hb htb inX1 hown hK hP 1 (xw_1 c q σ) rfl 1 (by decide) (htb _ tb_132) (fun _ h9 => h9) rfl dX1_greatestGrumble_6 ?_
      refine lv_icmp_ge (tgt := 29) hx hb dX1_greatestGrumble_9 (by decide) (fun c1 => ?_) (fun c1 => ?_)
      · have hw := hw.1 c1
        exact hk29 y2 y3 σ _ _ _ hw hP hS (lv_sub hl [0, 1, 2, 3] rfl)
      · have hw := hw.2 c1
        refine lv_iload_n hx hb dX1_greatestGrumble_12 rfl (lv_at hl 2 rfl) ?_
        refine lv_aload_n hx hb dX1_greatestGrumble_13 rfl (lv_at hl 0 rfl) ?_
        refine lv_iload_n hx hb dX1_greatestGrumble_14 rfl (lv_at hl 3 rfl) ?_
        refine lv_iload_n hx hb dX1_greatestGrumble_15 rfl (lv_at hl 1 rfl) ?_
        refine va_calli (va_runV (As := [.int y3, .int z1]) (rest := [.int y2]) ⟨hx, hb, hml, hown, htb⟩ (kcX1_placeOf_1 l D c q ev hev σ y3 z1 _ hw) (tb_CW htb kX1_placeOf tb_445 tb_446 tb_447 ⟨Nat.le_of_ble_eq_true rfl, Nat.le_of_ble_eq_true rfl⟩) (wd_preV (wd := xw c q) (k := 1) hev hK hP hD hE hS (xw_1 c q σ) rfl) rfl rfl hl.1 rfl (lv_room (Nat.le_of_ble_eq_true rfl)) dX1_greatestGrumble_16 ⟨Nat.zero_le _, Nat.zero_le _⟩) hS (fun q _ h => h) (fun q h => h) (fun r2 σ3 t H1 locs1 ht hvm hw hB hz1 hk1 hS => ?_)
        have hP : va_P D vwCl (xw c q σ3) H1 := ht ▸ hB
        have hD : va_D (wdA 36 q) (xw c q σ3) := xw_D hD0
        refine va_mmax hx hb (hml.trans hl.1.symm) hown (htb _ tb_494) (htb _ tb_495) (htb _ tb_104) (htb _ tb_496) (Nat.le_of_ble_eq_true rfl) (Nat.le_of_ble_eq_true rfl) (Nat.zero_le _) (Nat.zero_le _) dX1_greatestGrumble_19 ?_
        refine lv_topi (fun v4 ev4 => ?_)
        have hw := hw v4 ev4
        refine lv_istore_n (lv' := [(2, .int v4), (0, .ref (q 1)), (1, .int z1), (3, .int y3)]) hx hb dX1_greatestGrumble_22 rfl hl (by decide) rfl (fun ls hl => ?_)
        obtain ⟨v5, ev5⟩ : ∃ z : Int32, z = y3 + (1 : Int32) := ⟨_, rfl⟩
        have hw := hw v5 ev5
        refine lv_iinc (v := v5) (lv' := [(3, .int v5), (2, .int v4), (0, .ref (q 1)), (1, .int z1)]) hx hb dX1_greatestGrumble_23 hl (k := 3) rfl (by rw [ev5]; rfl) (by decide) rfl (fun ls hl => ?_)
        refine lv_goto (tgt := 4) hx hb dX1_greatestGrumble_26 (by decide) ?_
        exact ih v4 v5 σ3 _ _ _ hw hk29 hP hS (lv_sub hl [2, 3, 1, 0] rfl)
  have hl := lv_entry ([.ref (q 1), .int x1]) (n := 4) (Nat.le_of_ble_eq_true rfl)
  rw [lg_entry_eq]
  generalize (lg_sl ([.ref (q 1), .int x1]) ++ List.replicate (4 - (lg_sl ([.ref (q 1), .int x1])).length) Slot.unset).toArray = ls at hl ⊢
  have hl : lv_has ls 4 [(0, .ref (q 1)), (1, .int x1)] := hl
  unfold wX1_greatestGrumble at hw
  refine lv_iconst (v := (0 : Int32)) hx hb dX1_greatestGrumble_0 (by decide) ?_
  refine lv_istore_n (lv' := [(2, .int (0 : Int32)), (0, .ref (q 1)), (1, .int x1)]) hx hb dX1_greatestGrumble_1 rfl hl (by decide) rfl (fun ls hl => ?_)
  refine lv_iconst (v := (0 : Int32)) hx hb dX1_greatestGrumble_2 (by decide) ?_
  refine lv_istore_n (lv' := [(3, .int (0 : Int32)), (2, .int (0 : Int32)), (0, .ref (q 1)), (1, .int x1)]) hx hb dX1_greatestGrumble_3 rfl hl (by decide) rfl (fun ls hl => ?_)
  obtain ⟨n6, hw⟩ := hw
  refine L4 _ x1 n6 (0 : Int32) (0 : Int32) σ _ _ _ hw ?_ hP hS (lv_sub hl [2, 3, 1, 0] rfl)
  intro v7 v8 σ9 H locs ls hw hP hS hl
  have hD : va_D (wdA 36 q) (xw c q σ9) := xw_D hD0
  refine lv_iload_n hx hb dX1_greatestGrumble_29 rfl (lv_at hl 2 rfl) ?_
  exact W.iret hx hb hr (fun t ht hW => ⟨⟨_, σ9, rfl, hw, by unfold wdB; rw [ht]; exact hP⟩, hS.F ht⟩) hS.2.2 dX1_greatestGrumble_30
def wX1_wholeGrumble_L4 (b0 : Nat) (z1 : Int32) (K34 : Int32 → Int32 → hsS → Prop) (post : Int32 → hsS → Prop) : Nat → Int32 → Int32 → hsS → Prop
  | 0, _, _, _ => False
  | n + 1, y2, y3, σ => (((σ.1 (64 * b0 + 1)) ≤ y3 → K34 y2 y3 σ) ∧ (¬ (σ.1 (64 * b0 + 1)) ≤ y3 → wX1_placeOf b0 y3 z1 (fun r2 σ3 => vp_in y3 8 ∧ ∀ v4 : Int32, v4 = y2 + (r2 * (σ3.2.1 (b0 + 1) y3.toNatClampNeg)) → ∀ v5 : Int32, v5 = y3 + (1 : Int32) → wX1_wholeGrumble_L4 b0 z1 K34 post n v4 v5 σ3) σ))
def wX1_wholeGrumble (b0 : Nat) (x1 : Int32) (post : Int32 → hsS → Prop) (σ : hsS) : Prop := ∃ n6, wX1_wholeGrumble_L4 b0 x1 (fun v7 v8 σ9 => post v7 σ9) post n6 (0 : Int32) (0 : Int32) σ
set_option maxHeartbeats 4000000 in
set_option maxRecDepth 100000 in
theorem kcX1_wholeGrumble_1 (l : Launch) (D : va_G) (c : Nat → ClassId) (q : Nat → Nat) (ev : State → Heap → Prop) (hev : evOK (wdA 36 q) ev) (σ : hsS) (x1 : Int32) (post : Int32 → hsS → Prop) (hw : wX1_wholeGrumble 1 x1 post σ) : Met l yX1_wholeGrumble (Cond.code yX1_wholeGrumble cX1_wholeGrumble 4 (some .int) :: tb_L) { frames := 1, cells := 0, slots := 0, locals := 22 } (wdPc D (xw c q) (xwT c) (wdA 36 q) ev σ [.ref (q 1), .int x1]) (va_Qi post (wdB D (xw c q)) (wdA 36 q)) 0 0 (wdA 36 q) := by
  refine Met.ofW (cc := cX1_wholeGrumble) (maxL := 4) (ret := (some .int)) (by decide) rfl ?_
  intro p e s m args below meth c₀ s₁ Bd hml hv
  obtain ⟨rfl, hP, hK, hD0, hE⟩ := hv
  have hx := Bd.exec
  have hb := Bd.bytes
  have hr := Bd.returns
  have hts := atoms_spec (ws := Cond.code yX1_wholeGrumble cX1_wholeGrumble 4 (some .int) :: tb_L) Bd.pre
  have htb : ∀ w ∈ tb_L, w.before [.ref (q 1), .int x1].toArray s = true := fun w h => hts w (List.mem_cons_of_mem _ h)
  have hown : s.vm.findClass RX1 = some m.cls := findClass_of_methodNamed Bd.named
  have hlocks := Bd.notSynchronized
  have hS : va_S (wdA 36 q) s.heap s.heap [] := va_S.rf
  have hD := hD0
  have L4 : ∀ (K34 : Int32 → Int32 → hsS → Prop) (z1 : Int32) (n : Nat) (y2 : Int32) (y3 : Int32) (σ : hsS) (H : Heap) (locs : List Loc) (ls : Array Slot), wX1_wholeGrumble_L4 1 z1 K34 post n y2 y3 σ → (∀ (y2 : Int32) (y3 : Int32) (σ : hsS) (H : Heap) (locs : List Loc) (ls : Array Slot), K34 y2 y3 σ → va_P D vwCl (xw c q σ) H → va_S (wdA 36 q) s.heap H locs → lv_has ls 4 [(0, .ref (q 1)), (1, .int z1), (2, .int y2), (3, .int y3)] → W p l e (headSpec (Cond.code yX1_wholeGrumble cX1_wholeGrumble 4 (some .int) :: tb_L) { frames := 1, cells := 0, slots := 0, locals := 22 }).room s m [.ref (q 1), .int x1].toArray below meth c₀ H locs 0 0 (MQ below (va_Qi post (wdB D (xw c q)) (wdA 36 q)) [.ref (q 1), .int x1].toArray s 0 0 (wdA 36 q)) (F0 m 34 ls [])) → va_P D vwCl (xw c q σ) H → va_S (wdA 36 q) s.heap H locs → lv_has ls 4 [(0, .ref (q 1)), (1, .int z1), (2, .int y2), (3, .int y3)] → W p l e (headSpec (Cond.code yX1_wholeGrumble cX1_wholeGrumble 4 (some .int) :: tb_L) { frames := 1, cells := 0, slots := 0, locals := 22 }).room s m [.ref (q 1), .int x1].toArray below meth c₀ H locs 0 0 (MQ below (va_Qi post (wdB D (xw c q)) (wdA 36 q)) [.ref (q 1), .int x1].toArray s 0 0 (wdA 36 q)) (F0 m 4 ls []) := by
    intro K34 z1 n
    induction n with
    | zero =>
      intro y2 y3 σ H locs ls hw hk34 hP hS hl
      exact (show False from hw).elim
    | succ n ih =>
      intro y2 y3 σ H locs ls hw hk34 hP hS hl
      rw [wX1_wholeGrumble_L4] at hw
      have hD : va_D (wdA 36 q) (xw c q σ) := xw_D hD0
      refine lv_iload_n hx hb dX1_wholeGrumble_4 rfl (lv_at hl 3 rfl) ?_
      refine lv_aload_n hx hb dX1_wholeGrumble_5 rfl (lv_at hl 0 rfl) ?_
      refine va_get (D := D) (ci := 1) (C := RX1) (T := TX1) (N := 12) hx hb htb inX1 hown hK hP 1 (xw_1 c q σ) rfl 1 (by decide) (htb _ tb_132) (fun _ h9 => h9) rfl dX1_wholeGrumble_6 ?_
      refine lv_icmp_ge (tgt := 34) hx hb dX1_wholeGrumble_9 (by decide) (fun c1 => ?_) (fun c1 => ?_)
      · have hw := hw.1 c1
        exact hk34 y2 y3 σ _ _ _ hw hP hS (lv_sub hl [0, 1, 2, 3] rfl)
      · have hw := hw.2 c1
        refine lv_iload_n hx hb dX1_wholeGrumble_12 rfl (lv_at hl 2 rfl) ?_
        refine lv_aload_n hx hb dX1_wholeGrumble_13 rfl (lv_at hl 0 rfl) ?_
        refine lv_iload_n hx hb dX1_wholeGrumble_14 rfl (lv_at hl 3 rfl) ?_
        refine lv_iload_n hx hb dX1_wholeGrumble_15 rfl (lv_at hl 1 rfl) ?_
        refine va_calli (va_runV (As := [.int y3, .int z1]) (rest := [.int y2]) ⟨hx, hb, hml, hown, htb⟩ (kcX1_placeOf_1 l D c q ev hev σ y3 z1 _ hw) (tb_CW htb kX1_placeOf tb_445 tb_446 tb_447 ⟨Nat.le_of_ble_eq_true rfl, Nat.le_of_ble_eq_true rfl⟩) (wd_preV (wd := xw c q) (k := 1) hev hK hP hD hE hS (xw_1 c q σ) rfl) rfl rfl hl.1 rfl (lv_room (Nat.le_of_ble_eq_true rfl)) dX1_wholeGrumble_16 ⟨Nat.zero_le _, Nat.zero_le _⟩) hS (fun q _ h => h) (fun q h => h) (fun r2 σ3 t H1 locs1 ht hvm hw hB hz1 hk1 hS => ?_)
        have hP : va_P D vwCl (xw c q σ3) H1 := ht ▸ hB
        have hD : va_D (wdA 36 q) (xw c q σ3) := xw_D hD0
        refine lv_aload_n hx hb dX1_wholeGrumble_19 rfl (lv_at hl 0 rfl) ?_
        refine va_get (D := D) (ci := 1) (C := RX1) (T := TX1) (N := 12) hx hb htb inX1 hown hK hP 1 (xw_1 c q σ3) rfl 8 (by decide) (htb _ tb_156) (fun _ h9 => h9) rfl dX1_wholeGrumble_20 ?_
        refine lv_iload_n hx hb dX1_wholeGrumble_23 rfl (lv_at hl 3 rfl) ?_
        refine va_iald hx hb hK hP 2 0 (xw_2 c q σ3) rfl hw.1 dX1_wholeGrumble_24 ?_
        have hw := hw.2
        refine lv_imul hx hb dX1_wholeGrumble_25 ?_
        refine lv_iadd hx hb dX1_wholeGrumble_26 ?_
        refine lv_topi (fun v4 ev4 => ?_)
        have hw := hw v4 ev4
        refine lv_istore_n (lv' := [(2, .int v4), (0, .ref (q 1)), (1, .int z1), (3, .int y3)]) hx hb dX1_wholeGrumble_27 rfl hl (by decide) rfl (fun ls hl => ?_)
        obtain ⟨v5, ev5⟩ : ∃ z : Int32, z = y3 + (1 : Int32) := ⟨_, rfl⟩
        have hw := hw v5 ev5
        refine lv_iinc (v := v5) (lv' := [(3, .int v5), (2, .int v4), (0, .ref (q 1)), (1, .int z1)]) hx hb dX1_wholeGrumble_28 hl (k := 3) rfl (by rw [ev5]; rfl) (by decide) rfl (fun ls hl => ?_)
        refine lv_goto (tgt := 4) hx hb dX1_wholeGrumble_31 (by decide) ?_
        exact ih v4 v5 σ3 _ _ _ hw hk34 hP hS (lv_sub hl [2, 3, 1, 0] rfl)
  have hl := lv_entry ([.ref (q 1), .int x1]) (n := 4) (Nat.le_of_ble_eq_true rfl)
  rw [lg_entry_eq]
  generalize (lg_sl ([.ref (q 1), .int x1]) ++ List.replicate (4 - (lg_sl ([.ref (q 1), .int x1])).length) Slot.unset).toArray = ls at hl ⊢
  have hl : lv_has ls 4 [(0, .ref (q 1)), (1, .int x1)] := hl
  unfold wX1_wholeGrumble at hw
  refine lv_iconst (v := (0 : Int32)) hx hb dX1_wholeGrumble_0 (by decide) ?_
  refine lv_istore_n (lv' := [(2, .int (0 : Int32)), (0, .ref (q 1)), (1, .int x1)]) hx hb dX1_wholeGrumble_1 rfl hl (by decide) rfl (fun ls hl => ?_)
  refine lv_iconst (v := (0 : Int32)) hx hb dX1_wholeGrumble_2 (by decide) ?_
  refine lv_istore_n (lv' := [(3, .int (0 : Int32)), (2, .int (0 : Int32)), (0, .ref (q 1)), (1, .int x1)]) hx hb dX1_wholeGrumble_3 rfl hl (by decide) rfl (fun ls hl => ?_)
  obtain ⟨n6, hw⟩ := hw
  refine L4 _ x1 n6 (0 : Int32) (0 : Int32) σ _ _ _ hw ?_ hP hS (lv_sub hl [2, 3, 1, 0] rfl)
  intro v7 v8 σ9 H locs ls hw hP hS hl
  have hD : va_D (wdA 36 q) (xw c q σ9) := xw_D hD0
  refine lv_iload_n hx hb dX1_wholeGrumble_34 rfl (lv_at hl 2 rfl) ?_
  exact W.iret hx hb hr (fun t ht hW => ⟨⟨_, σ9, rfl, hw, by unfold wdB; rw [ht]; exact hP⟩, hS.F ht⟩) hS.2.2 dX1_wholeGrumble_35
def wX7_grumblesLess (x1 : Int32) (x2 : Int32) (post : Int32 → hsS → Prop) (σ : hsS) : Prop := wX1_greatestGrumble 1 x1 (fun r1 σ2 => wX1_greatestGrumble 1 x2 (fun r3 σ4 => ((r1 < r3 → post (1 : Int32) σ4) ∧ (¬ r1 < r3 → ((r1 = r3 → wX1_wholeGrumble 1 x1 (fun r7 σ8 => wX1_wholeGrumble 1 x2 (fun r9 σ10 => ((r9 ≤ r7 → post (0 : Int32) σ10) ∧ (¬ r9 ≤ r7 → post (1 : Int32) σ10))) σ8) σ4) ∧ (¬ r1 = r3 → post (0 : Int32) σ4))))) σ2) σ
set_option maxHeartbeats 4000000 in
set_option maxRecDepth 100000 in
theorem kcX7_grumblesLess (l : Launch) (D : va_G) (c : Nat → ClassId) (q : Nat → Nat) (ev : State → Heap → Prop) (hev : evOK (wdA 36 q) ev) (σ : hsS) (x1 : Int32) (x2 : Int32) (post : Int32 → hsS → Prop) (hw : wX7_grumblesLess x1 x2 post σ) : Met l yX7_grumblesLess (Cond.code yX7_grumblesLess cX7_grumblesLess 5 (some .boolean) :: tb_L) { frames := 2, cells := 0, slots := 0, locals := 63 } (wdPc D (xw c q) (xwT c) (wdA 36 q) ev σ [.ref (q 0), .int x1, .int x2]) (va_Qi post (wdB D (xw c q)) (wdA 36 q)) 0 0 (wdA 36 q) := by
  refine Met.ofW (cc := cX7_grumblesLess) (maxL := 5) (ret := (some .boolean)) (by decide) rfl ?_
  intro p e s m args below meth c₀ s₁ Bd hml hv
  obtain ⟨rfl, hP, hK, hD0, hE⟩ := hv
  have hx := Bd.exec
  have hb := Bd.bytes
  have hr := Bd.returns
  have hts := atoms_spec (ws := Cond.code yX7_grumblesLess cX7_grumblesLess 5 (some .boolean) :: tb_L) Bd.pre
  have htb : ∀ w ∈ tb_L, w.before [.ref (q 0), .int x1, .int x2].toArray s = true := fun w h => hts w (List.mem_cons_of_mem _ h)
  have hown : s.vm.findClass RX7 = some m.cls := findClass_of_methodNamed Bd.named
  have hlocks := Bd.notSynchronized
  have hS : va_S (wdA 36 q) s.heap s.heap [] := va_S.rf
  have hD := hD0
  have hl := lv_entry ([.ref (q 0), .int x1, .int x2]) (n := 5) (Nat.le_of_ble_eq_true rfl)
  rw [lg_entry_eq]
  generalize (lg_sl ([.ref (q 0), .int x1, .int x2]) ++ List.replicate (5 - (lg_sl ([.ref (q 0), .int x1, .int x2])).length) Slot.unset).toArray = ls at hl ⊢
  have hl : lv_has ls 5 [(0, .ref (q 0)), (1, .int x1), (2, .int x2)] := hl
  unfold wX7_grumblesLess at hw
  refine lv_aload_n hx hb dX7_grumblesLess_0 rfl (lv_at hl 0 rfl) ?_
  refine va_get (D := D) (ci := 7) (C := RX7) (T := TX7) (N := 9) hx hb htb inX7 hown hK hP 0 (xw_0 c q σ) rfl 0 (by decide) (htb _ tb_342) (fun _ h9 => h9) rfl dX7_grumblesLess_1 ?_
  refine lv_iload_n hx hb dX7_grumblesLess_4 rfl (lv_at hl 1 rfl) ?_
  refine va_calli (va_runV (As := [.int x1]) (rest := []) ⟨hx, hb, hml, hown, htb⟩ (kcX1_greatestGrumble_1 l D c q ev hev σ x1 _ hw) (tb_CW htb kX1_greatestGrumble tb_530 tb_531 tb_532 ⟨Nat.le_of_ble_eq_true rfl, Nat.le_of_ble_eq_true rfl⟩) (wd_preV (wd := xw c q) (k := 1) hev hK hP hD hE hS (xw_1 c q σ) rfl) rfl rfl hl.1 rfl (lv_room (Nat.le_of_ble_eq_true rfl)) dX7_grumblesLess_5 ⟨Nat.zero_le _, Nat.zero_le _⟩) hS (fun q _ h => h) (fun q h => h) (fun r1 σ2 t H1 locs1 ht hvm hw hB hz1 hk1 hS => ?_)
  have hP : va_P D vwCl (xw c q σ2) H1 := ht ▸ hB
  have hD : va_D (wdA 36 q) (xw c q σ2) := xw_D hD0
  refine lv_istore_n (lv' := [(3, .int r1), (0, .ref (q 0)), (1, .int x1), (2, .int x2)]) hx hb dX7_grumblesLess_8 rfl hl (by decide) rfl (fun ls hl => ?_)
  refine lv_aload_n hx hb dX7_grumblesLess_9 rfl (lv_at hl 1 rfl) ?_
  refine va_get (D := D) (ci := 7) (C := RX7) (T := TX7) (N := 9) hx hb htb inX7 hown hK hP 0 (xw_0 c q σ2) rfl 0 (by decide) (htb _ tb_342) (fun _ h9 => h9) rfl dX7_grumblesLess_10 ?_
  refine lv_iload_n hx hb dX7_grumblesLess_13 rfl (lv_at hl 3 rfl) ?_
  refine va_calli (va_runV (As := [.int x2]) (rest := []) ⟨hx, hb, hml, hown, htb⟩ (kcX1_greatestGrumble_1 l D c q ev hev σ2 x2 _ hw) (tb_CW htb kX1_greatestGrumble tb_530 tb_531 tb_532 ⟨Nat.le_of_ble_eq_true rfl, Nat.le_of_ble_eq_true rfl⟩) (wd_preV (wd := xw c q) (k := 1) hev hK hP hD hE hS (xw_1 c q σ2) rfl) rfl rfl hl.1 rfl (lv_room (Nat.le_of_ble_eq_true rfl)) dX7_grumblesLess_14 ⟨Nat.zero_le _, Nat.zero_le _⟩) hS (fun q _ h => h) (fun q h => h) (fun r3 σ4 t H1 locs1 ht hvm hw hB hz1 hk1 hS => ?_)
  have hP : va_P D vwCl (xw c q σ4) H1 := ht ▸ hB
  have hD : va_D (wdA 36 q) (xw c q σ4) := xw_D hD0
  refine lv_istore (lv' := [(4, .int r3), (3, .int r1), (0, .ref (q 0)), (1, .int x1), (2, .int x2)]) hx hb dX7_grumblesLess_17 hl (by decide) rfl (fun ls hl => ?_)
  refine lv_iload_n hx hb dX7_grumblesLess_19 rfl (lv_at hl 1 rfl) ?_
  refine lv_iload hx hb dX7_grumblesLess_20 (lv_at hl 0 rfl) ?_
  refine lv_icmp_lt (tgt := 50) hx hb dX7_grumblesLess_22 (by decide) (fun c5 => ?_) (fun c5 => ?_)
  · have hw := hw.1 c5
    refine lv_iconst (v := (1 : Int32)) hx hb dX7_grumblesLess_50 (by decide) ?_
    refine lv_goto (tgt := 55) hx hb dX7_grumblesLess_51 (by decide) ?_
    exact W.zret hx hb hr rfl (fun t ht hW => ⟨⟨_, σ4, rfl, hw, by unfold wdB; rw [ht]; exact hP⟩, hS.F ht⟩) hS.2.2 dX7_grumblesLess_55
  · have hw := hw.2 c5
    refine lv_iload_n hx hb dX7_grumblesLess_25 rfl (lv_at hl 1 rfl) ?_
    refine lv_iload hx hb dX7_grumblesLess_26 (lv_at hl 0 rfl) ?_
    refine lv_icmp_ne (tgt := 54) hx hb dX7_grumblesLess_28 (by decide) (fun c6 => ?_) (fun c6 => ?_)
    · have hw := hw.2 c6
      refine lv_iconst (v := (0 : Int32)) hx hb dX7_grumblesLess_54 (by decide) ?_
      exact W.zret hx hb hr rfl (fun t ht hW => ⟨⟨_, σ4, rfl, hw, by unfold wdB; rw [ht]; exact hP⟩, hS.F ht⟩) hS.2.2 dX7_grumblesLess_55
    · have hw := hw.1 c6
      refine lv_aload_n hx hb dX7_grumblesLess_31 rfl (lv_at hl 2 rfl) ?_
      refine va_get (D := D) (ci := 7) (C := RX7) (T := TX7) (N := 9) hx hb htb inX7 hown hK hP 0 (xw_0 c q σ4) rfl 0 (by decide) (htb _ tb_342) (fun _ h9 => h9) rfl dX7_grumblesLess_32 ?_
      refine lv_iload_n hx hb dX7_grumblesLess_35 rfl (lv_at hl 3 rfl) ?_
      refine va_calli (va_runV (As := [.int x1]) (rest := []) ⟨hx, hb, hml, hown, htb⟩ (kcX1_wholeGrumble_1 l D c q ev hev σ4 x1 _ hw) (tb_CW htb kX1_wholeGrumble tb_534 tb_535 tb_536 ⟨Nat.le_of_ble_eq_true rfl, Nat.le_of_ble_eq_true rfl⟩) (wd_preV (wd := xw c q) (k := 1) hev hK hP hD hE hS (xw_1 c q σ4) rfl) rfl rfl hl.1 rfl (lv_room (Nat.le_of_ble_eq_true rfl)) dX7_grumblesLess_36 ⟨Nat.zero_le _, Nat.zero_le _⟩) hS (fun q _ h => h) (fun q h => h) (fun r7 σ8 t H1 locs1 ht hvm hw hB hz1 hk1 hS => ?_)
      have hP : va_P D vwCl (xw c q σ8) H1 := ht ▸ hB
      have hD : va_D (wdA 36 q) (xw c q σ8) := xw_D hD0
      refine lv_aload_n hx hb dX7_grumblesLess_39 rfl (lv_at hl 2 rfl) ?_
      refine va_get (D := D) (ci := 7) (C := RX7) (T := TX7) (N := 9) hx hb htb inX7 hown hK hP 0 (xw_0 c q σ8) rfl 0 (by decide) (htb _ tb_342) (fun _ h9 => h9) rfl dX7_grumblesLess_40 ?_
      refine lv_iload_n hx hb dX7_grumblesLess_43 rfl (lv_at hl 4 rfl) ?_
      refine va_calli (va_runV (As := [.int x2]) (rest := [.int r7]) ⟨hx, hb, hml, hown, htb⟩ (kcX1_wholeGrumble_1 l D c q ev hev σ8 x2 _ hw) (tb_CW htb kX1_wholeGrumble tb_534 tb_535 tb_536 ⟨Nat.le_of_ble_eq_true rfl, Nat.le_of_ble_eq_true rfl⟩) (wd_preV (wd := xw c q) (k := 1) hev hK hP hD hE hS (xw_1 c q σ8) rfl) rfl rfl hl.1 rfl (lv_room (Nat.le_of_ble_eq_true rfl)) dX7_grumblesLess_44 ⟨Nat.zero_le _, Nat.zero_le _⟩) hS (fun q _ h => h) (fun q h => h) (fun r9 σ10 t H1 locs1 ht hvm hw hB hz1 hk1 hS => ?_)
      have hP : va_P D vwCl (xw c q σ10) H1 := ht ▸ hB
      have hD : va_D (wdA 36 q) (xw c q σ10) := xw_D hD0
      refine lv_icmp_ge (tgt := 54) hx hb dX7_grumblesLess_47 (by decide) (fun c11 => ?_) (fun c11 => ?_)
      · have hw := hw.1 c11
        refine lv_iconst (v := (0 : Int32)) hx hb dX7_grumblesLess_54 (by decide) ?_
        exact W.zret hx hb hr rfl (fun t ht hW => ⟨⟨_, σ10, rfl, hw, by unfold wdB; rw [ht]; exact hP⟩, hS.F ht⟩) hS.2.2 dX7_grumblesLess_55
      · have hw := hw.2 c11
        refine lv_iconst (v := (1 : Int32)) hx hb dX7_grumblesLess_50 (by decide) ?_
        refine lv_goto (tgt := 55) hx hb dX7_grumblesLess_51 (by decide) ?_
        exact W.zret hx hb hr rfl (fun t ht hW => ⟨⟨_, σ10, rfl, hw, by unfold wdB; rw [ht]; exact hP⟩, hS.F ht⟩) hS.2.2 dX7_grumblesLess_55
def wX7_leastGrumbled_L33 (z1 : Int32) (z2 : Int32) (K79 : Int32 → Int32 → hsS → Prop) (post : Int32 → hsS → Prop) : Nat → Int32 → Int32 → hsS → Prop
  | 0, _, _, _ => False
  | n + 1, y3, y4, σ => (((σ.1 64) ≤ y4 → K79 y3 y4 σ) ∧ (¬ (σ.1 64) ≤ y4 → ((((z2 >>> (y4 &&& 31)) &&& (1 : Int32)) = (1 : Int32) → ((y3 = (-1 : Int32) → ∀ v9 : Int32, v9 = y4 + (1 : Int32) → wX7_leastGrumbled_L33 z1 z2 K79 post n y4 v9 σ) ∧ (¬ y3 = (-1 : Int32) → wX7_grumblesLess y4 y3 (fun r10 σ11 => ((r10 = (0 : Int32) → ∀ v13 : Int32, v13 = y4 + (1 : Int32) → wX7_leastGrumbled_L33 z1 z2 K79 post n y3 v13 σ11) ∧ (¬ r10 = (0 : Int32) → ∀ v14 : Int32, v14 = y4 + (1 : Int32) → wX7_leastGrumbled_L33 z1 z2 K79 post n y4 v14 σ11))) σ))) ∧ (¬ ((z2 >>> (y4 &&& 31)) &&& (1 : Int32)) = (1 : Int32) → ∀ v15 : Int32, v15 = y4 + (1 : Int32) → wX7_leastGrumbled_L33 z1 z2 K79 post n y3 v15 σ))))
def wX7_leastGrumbled  (post : Int32 → hsS → Prop) (σ : hsS) : Prop := wX4_coreOf 18 1 (fun r1 σ2 => ((r1 = (0 : Int32) → wX1_allThings 1 (fun r4 σ5 => ∃ n16, wX7_leastGrumbled_L33 r1 r4 (fun v17 v18 σ19 => post v17 σ19) post n16 (-1 : Int32) (0 : Int32) σ5) σ2) ∧ (¬ r1 = (0 : Int32) → ∃ n20, wX7_leastGrumbled_L33 r1 r1 (fun v21 v22 σ23 => post v21 σ23) post n20 (-1 : Int32) (0 : Int32) σ2))) σ
set_option maxHeartbeats 4000000 in
set_option maxRecDepth 100000 in
theorem kcX7_leastGrumbled (l : Launch) (D : va_G) (c : Nat → ClassId) (q : Nat → Nat) (ev : State → Heap → Prop) (hev : evOK (wdA 36 q) ev) (σ : hsS)  (post : Int32 → hsS → Prop) (hw : wX7_leastGrumbled  post σ) : Met l yX7_leastGrumbled (Cond.code yX7_leastGrumbled cX7_leastGrumbled 5 (some .int) :: tb_L) { frames := 5, cells := 0, slots := 0, locals := 127 } (wdPc D (xw c q) (xwT c) (wdA 36 q) ev σ [.ref (q 0)]) (va_Qi post (wdB D (xw c q)) (wdA 36 q)) 0 0 (wdA 36 q) := by
  refine Met.ofW (cc := cX7_leastGrumbled) (maxL := 5) (ret := (some .int)) (by decide) rfl ?_
  intro p e s m args below meth c₀ s₁ Bd hml hv
  obtain ⟨rfl, hP, hK, hD0, hE⟩ := hv
  have hx := Bd.exec
  have hb := Bd.bytes
  have hr := Bd.returns
  have hts := atoms_spec (ws := Cond.code yX7_leastGrumbled cX7_leastGrumbled 5 (some .int) :: tb_L) Bd.pre
  have htb : ∀ w ∈ tb_L, w.before [.ref (q 0)].toArray s = true := fun w h => hts w (List.mem_cons_of_mem _ h)
  have hown : s.vm.findClass RX7 = some m.cls := findClass_of_methodNamed Bd.named
  have hlocks := Bd.notSynchronized
  have hS : va_S (wdA 36 q) s.heap s.heap [] := va_S.rf
  have hD := hD0
  have L33 : ∀ (K79 : Int32 → Int32 → hsS → Prop) (z1 : Int32) (z2 : Int32) (n : Nat) (y3 : Int32) (y4 : Int32) (σ : hsS) (H : Heap) (locs : List Loc) (ls : Array Slot), wX7_leastGrumbled_L33 z1 z2 K79 post n y3 y4 σ → (∀ (y3 : Int32) (y4 : Int32) (σ : hsS) (H : Heap) (locs : List Loc) (ls : Array Slot), K79 y3 y4 σ → va_P D vwCl (xw c q σ) H → va_S (wdA 36 q) s.heap H locs → lv_has ls 5 [(0, .ref (q 0)), (1, .int z1), (2, .int z2), (3, .int y3), (4, .int y4)] → W p l e (headSpec (Cond.code yX7_leastGrumbled cX7_leastGrumbled 5 (some .int) :: tb_L) { frames := 5, cells := 0, slots := 0, locals := 127 }).room s m [.ref (q 0)].toArray below meth c₀ H locs 0 0 (MQ below (va_Qi post (wdB D (xw c q)) (wdA 36 q)) [.ref (q 0)].toArray s 0 0 (wdA 36 q)) (F0 m 79 ls [])) → va_P D vwCl (xw c q σ) H → va_S (wdA 36 q) s.heap H locs → lv_has ls 5 [(0, .ref (q 0)), (1, .int z1), (2, .int z2), (3, .int y3), (4, .int y4)] → W p l e (headSpec (Cond.code yX7_leastGrumbled cX7_leastGrumbled 5 (some .int) :: tb_L) { frames := 5, cells := 0, slots := 0, locals := 127 }).room s m [.ref (q 0)].toArray below meth c₀ H locs 0 0 (MQ below (va_Qi post (wdB D (xw c q)) (wdA 36 q)) [.ref (q 0)].toArray s 0 0 (wdA 36 q)) (F0 m 33 ls []) := by
    intro K79 z1 z2 n
    induction n with
    | zero =>
      intro y3 y4 σ H locs ls hw hk79 hP hS hl
      exact (show False from hw).elim
    | succ n ih =>
      intro y3 y4 σ H locs ls hw hk79 hP hS hl
      rw [wX7_leastGrumbled_L33] at hw
      have hD : va_D (wdA 36 q) (xw c q σ) := xw_D hD0
      refine lv_iload hx hb dX7_leastGrumbled_33 (lv_at hl 4 rfl) ?_
      refine lv_aload_n hx hb dX7_leastGrumbled_35 rfl (lv_at hl 0 rfl) ?_
      refine va_get (D := D) (ci := 7) (C := RX7) (T := TX7) (N := 9) hx hb htb inX7 hown hK hP 0 (xw_0 c q σ) rfl 0 (by decide) (htb _ tb_342) (fun _ h9 => h9) rfl dX7_leastGrumbled_36 ?_
      refine va_getN (D := D) (ci := 1) (C := RX1) (T := TX1) (N := 12) hx hb htb inX1 hown hK hP 1 (xw_1 c q σ) rfl 0 (by decide) (htb _ tb_130) (fun _ h9 => h9) rfl dX7_leastGrumbled_39 ?_
      refine lv_icmp_ge (tgt := 79) hx hb dX7_leastGrumbled_42 (by decide) (fun c6 => ?_) (fun c6 => ?_)
      · have hw := hw.1 c6
        exact hk79 y3 y4 σ _ _ _ hw hP hS (lv_sub hl [0, 1, 2, 3, 4] rfl)
      · have hw := hw.2 c6
        refine lv_iload_n hx hb dX7_leastGrumbled_45 rfl (lv_at hl 2 rfl) ?_
        refine lv_iload hx hb dX7_leastGrumbled_46 (lv_at hl 4 rfl) ?_
        refine lv_ishr hx hb dX7_leastGrumbled_48 ?_
        refine lv_iconst (v := (1 : Int32)) hx hb dX7_leastGrumbled_49 (by decide) ?_
        refine lv_iand hx hb dX7_leastGrumbled_50 ?_
        refine lv_iconst (v := (1 : Int32)) hx hb dX7_leastGrumbled_51 (by decide) ?_
        refine lv_icmp_ne (tgt := 73) hx hb dX7_leastGrumbled_52 (by decide) (fun c7 => ?_) (fun c7 => ?_)
        · have hw := hw.2 c7
          obtain ⟨v15, ev15⟩ : ∃ z : Int32, z = y4 + (1 : Int32) := ⟨_, rfl⟩
          have hw := hw v15 ev15
          refine lv_iinc (v := v15) (lv' := [(4, .int v15), (0, .ref (q 0)), (1, .int z1), (2, .int z2), (3, .int y3)]) hx hb dX7_leastGrumbled_73 hl (k := 4) rfl (by rw [ev15]; rfl) (by decide) rfl (fun ls hl => ?_)
          refine lv_goto (tgt := 33) hx hb dX7_leastGrumbled_76 (by decide) ?_
          exact ih y3 v15 σ _ _ _ hw hk79 hP hS (lv_sub hl [1, 2, 3, 4, 0] rfl)
        · have hw := hw.1 c7
          refine lv_iload_n hx hb dX7_leastGrumbled_55 rfl (lv_at hl 3 rfl) ?_
          refine lv_iconst (v := (-1 : Int32)) hx hb dX7_leastGrumbled_56 (by decide) ?_
          refine lv_icmp_eq (tgt := 70) hx hb dX7_leastGrumbled_57 (by decide) (fun c8 => ?_) (fun c8 => ?_)
          · have hw := hw.1 c8
            refine lv_iload hx hb dX7_leastGrumbled_70 (lv_at hl 4 rfl) ?_
            refine lv_istore_n (lv' := [(3, .int y4), (0, .ref (q 0)), (1, .int z1), (2, .int z2), (4, .int y4)]) hx hb dX7_leastGrumbled_72 rfl hl (by decide) rfl (fun ls hl => ?_)
            obtain ⟨v9, ev9⟩ : ∃ z : Int32, z = y4 + (1 : Int32) := ⟨_, rfl⟩
            have hw := hw v9 ev9
            refine lv_iinc (v := v9) (lv' := [(4, .int v9), (3, .int y4), (0, .ref (q 0)), (1, .int z1), (2, .int z2)]) hx hb dX7_leastGrumbled_73 hl (k := 4) rfl (by rw [ev9]; rfl) (by decide) rfl (fun ls hl => ?_)
            refine lv_goto (tgt := 33) hx hb dX7_leastGrumbled_76 (by decide) ?_
            exact ih y4 v9 σ _ _ _ hw hk79 hP hS (lv_sub hl [2, 3, 4, 1, 0] rfl)
          · have hw := hw.2 c8
            refine lv_aload_n hx hb dX7_leastGrumbled_60 rfl (lv_at hl 0 rfl) ?_
            refine lv_iload hx hb dX7_leastGrumbled_61 (lv_at hl 4 rfl) ?_
            refine lv_iload_n hx hb dX7_leastGrumbled_63 rfl (lv_at hl 3 rfl) ?_
            refine va_calli (va_runV (As := [.int y4, .int y3]) (rest := []) ⟨hx, hb, hml, hown, htb⟩ (kcX7_grumblesLess l D c q ev hev σ y4 y3 _ hw) (tb_CW htb kX7_grumblesLess tb_526 tb_528 tb_4 ⟨Nat.le_of_ble_eq_true rfl, Nat.le_of_ble_eq_true rfl⟩) (wd_preV (wd := xw c q) (k := 0) hev hK hP hD hE hS (xw_0 c q σ) rfl) rfl rfl hl.1 rfl (lv_room (Nat.le_of_ble_eq_true rfl)) dX7_leastGrumbled_64 ⟨Nat.zero_le _, Nat.zero_le _⟩) hS (fun q _ h => h) (fun q h => h) (fun r10 σ11 t H1 locs1 ht hvm hw hB hz1 hk1 hS => ?_)
            have hP : va_P D vwCl (xw c q σ11) H1 := ht ▸ hB
            have hD : va_D (wdA 36 q) (xw c q σ11) := xw_D hD0
            refine lv_if_eq (tgt := 73) hx hb dX7_leastGrumbled_67 (by decide) (fun c12 => ?_) (fun c12 => ?_)
            · have hw := hw.1 c12
              obtain ⟨v13, ev13⟩ : ∃ z : Int32, z = y4 + (1 : Int32) := ⟨_, rfl⟩
              have hw := hw v13 ev13
              refine lv_iinc (v := v13) (lv' := [(4, .int v13), (0, .ref (q 0)), (1, .int z1), (2, .int z2), (3, .int y3)]) hx hb dX7_leastGrumbled_73 hl (k := 4) rfl (by rw [ev13]; rfl) (by decide) rfl (fun ls hl => ?_)
              refine lv_goto (tgt := 33) hx hb dX7_leastGrumbled_76 (by decide) ?_
              exact ih y3 v13 σ11 _ _ _ hw hk79 hP hS (lv_sub hl [1, 2, 3, 4, 0] rfl)
            · have hw := hw.2 c12
              refine lv_iload hx hb dX7_leastGrumbled_70 (lv_at hl 4 rfl) ?_
              refine lv_istore_n (lv' := [(3, .int y4), (0, .ref (q 0)), (1, .int z1), (2, .int z2), (4, .int y4)]) hx hb dX7_leastGrumbled_72 rfl hl (by decide) rfl (fun ls hl => ?_)
              obtain ⟨v14, ev14⟩ : ∃ z : Int32, z = y4 + (1 : Int32) := ⟨_, rfl⟩
              have hw := hw v14 ev14
              refine lv_iinc (v := v14) (lv' := [(4, .int v14), (3, .int y4), (0, .ref (q 0)), (1, .int z1), (2, .int z2)]) hx hb dX7_leastGrumbled_73 hl (k := 4) rfl (by rw [ev14]; rfl) (by decide) rfl (fun ls hl => ?_)
              refine lv_goto (tgt := 33) hx hb dX7_leastGrumbled_76 (by decide) ?_
              exact ih y4 v14 σ11 _ _ _ hw hk79 hP hS (lv_sub hl [2, 3, 4, 1, 0] rfl)
  have hl := lv_entry ([.ref (q 0)]) (n := 5) (Nat.le_of_ble_eq_true rfl)
  rw [lg_entry_eq]
  generalize (lg_sl ([.ref (q 0)]) ++ List.replicate (5 - (lg_sl ([.ref (q 0)])).length) Slot.unset).toArray = ls at hl ⊢
  have hl : lv_has ls 5 [(0, .ref (q 0))] := hl
  unfold wX7_leastGrumbled at hw
  refine lv_aload_n hx hb dX7_leastGrumbled_0 rfl (lv_at hl 0 rfl) ?_
  refine va_get (D := D) (ci := 7) (C := RX7) (T := TX7) (N := 9) hx hb htb inX7 hown hK hP 0 (xw_0 c q σ) rfl 3 (by decide) (htb _ tb_345) (fun _ h9 => h9) rfl dX7_leastGrumbled_1 ?_
  refine lv_aload_n hx hb dX7_leastGrumbled_4 rfl (lv_at hl 0 rfl) ?_
  refine va_get (D := D) (ci := 7) (C := RX7) (T := TX7) (N := 9) hx hb htb inX7 hown hK hP 0 (xw_0 c q σ) rfl 0 (by decide) (htb _ tb_342) (fun _ h9 => h9) rfl dX7_leastGrumbled_5 ?_
  refine va_calli (va_runV (As := [.ref (q 1)]) (rest := []) ⟨hx, hb, hml, hown, htb⟩ (kcX4_coreOf_18_1 l D c q ev hev σ  _ hw) (tb_CW htb kX4_coreOf tb_419 tb_420 tb_421 ⟨Nat.le_of_ble_eq_true rfl, Nat.le_of_ble_eq_true rfl⟩) (wd_preV (wd := xw c q) (k := 18) hev hK hP hD hE hS (xw_18 c q σ) rfl) rfl rfl hl.1 rfl (lv_room (Nat.le_of_ble_eq_true rfl)) dX7_leastGrumbled_8 ⟨Nat.zero_le _, Nat.zero_le _⟩) hS (fun q _ h => h) (fun q h => h) (fun r1 σ2 t H1 locs1 ht hvm hw hB hz1 hk1 hS => ?_)
  have hP : va_P D vwCl (xw c q σ2) H1 := ht ▸ hB
  have hD : va_D (wdA 36 q) (xw c q σ2) := xw_D hD0
  refine lv_istore_n (lv' := [(1, .int r1), (0, .ref (q 0))]) hx hb dX7_leastGrumbled_11 rfl hl (by decide) rfl (fun ls hl => ?_)
  refine lv_iload_n hx hb dX7_leastGrumbled_12 rfl (lv_at hl 0 rfl) ?_
  refine lv_if_ne (tgt := 26) hx hb dX7_leastGrumbled_13 (by decide) (fun c3 => ?_) (fun c3 => ?_)
  · have hw := hw.2 c3
    refine lv_iload_n hx hb dX7_leastGrumbled_26 rfl (lv_at hl 0 rfl) ?_
    refine lv_istore_n (lv' := [(2, .int r1), (1, .int r1), (0, .ref (q 0))]) hx hb dX7_leastGrumbled_27 rfl hl (by decide) rfl (fun ls hl => ?_)
    refine lv_iconst (v := (-1 : Int32)) hx hb dX7_leastGrumbled_28 (by decide) ?_
    refine lv_istore_n (lv' := [(3, .int (-1 : Int32)), (2, .int r1), (1, .int r1), (0, .ref (q 0))]) hx hb dX7_leastGrumbled_29 rfl hl (by decide) rfl (fun ls hl => ?_)
    refine lv_iconst (v := (0 : Int32)) hx hb dX7_leastGrumbled_30 (by decide) ?_
    refine lv_istore (lv' := [(4, .int (0 : Int32)), (3, .int (-1 : Int32)), (2, .int r1), (1, .int r1), (0, .ref (q 0))]) hx hb dX7_leastGrumbled_31 hl (by decide) rfl (fun ls hl => ?_)
    obtain ⟨n20, hw⟩ := hw
    refine L33 _ r1 r1 n20 (-1 : Int32) (0 : Int32) σ2 _ _ _ hw ?_ hP hS (lv_sub hl [4, 3, 2, 1, 0] rfl)
    intro v21 v22 σ23 H locs ls hw hP hS hl
    have hD : va_D (wdA 36 q) (xw c q σ23) := xw_D hD0
    refine lv_iload_n hx hb dX7_leastGrumbled_79 rfl (lv_at hl 3 rfl) ?_
    exact W.iret hx hb hr (fun t ht hW => ⟨⟨_, σ23, rfl, hw, by unfold wdB; rw [ht]; exact hP⟩, hS.F ht⟩) hS.2.2 dX7_leastGrumbled_80
  · have hw := hw.1 c3
    refine lv_aload_n hx hb dX7_leastGrumbled_16 rfl (lv_at hl 1 rfl) ?_
    refine va_get (D := D) (ci := 7) (C := RX7) (T := TX7) (N := 9) hx hb htb inX7 hown hK hP 0 (xw_0 c q σ2) rfl 0 (by decide) (htb _ tb_342) (fun _ h9 => h9) rfl dX7_leastGrumbled_17 ?_
    refine va_calli (va_runV (As := []) (rest := []) ⟨hx, hb, hml, hown, htb⟩ (kcX1_allThings_1 l D c q ev hev σ2  _ hw) (tb_CW htb kX1_allThings tb_525 tb_438 tb_439 ⟨Nat.le_of_ble_eq_true rfl, Nat.le_of_ble_eq_true rfl⟩) (wd_preV (wd := xw c q) (k := 1) hev hK hP hD hE hS (xw_1 c q σ2) rfl) rfl rfl hl.1 rfl (lv_room (Nat.le_of_ble_eq_true rfl)) dX7_leastGrumbled_20 ⟨Nat.zero_le _, Nat.zero_le _⟩) hS (fun q _ h => h) (fun q h => h) (fun r4 σ5 t H1 locs1 ht hvm hw hB hz1 hk1 hS => ?_)
    have hP : va_P D vwCl (xw c q σ5) H1 := ht ▸ hB
    have hD : va_D (wdA 36 q) (xw c q σ5) := xw_D hD0
    refine lv_goto (tgt := 27) hx hb dX7_leastGrumbled_23 (by decide) ?_
    refine lv_istore_n (lv' := [(2, .int r4), (1, .int r1), (0, .ref (q 0))]) hx hb dX7_leastGrumbled_27 rfl hl (by decide) rfl (fun ls hl => ?_)
    refine lv_iconst (v := (-1 : Int32)) hx hb dX7_leastGrumbled_28 (by decide) ?_
    refine lv_istore_n (lv' := [(3, .int (-1 : Int32)), (2, .int r4), (1, .int r1), (0, .ref (q 0))]) hx hb dX7_leastGrumbled_29 rfl hl (by decide) rfl (fun ls hl => ?_)
    refine lv_iconst (v := (0 : Int32)) hx hb dX7_leastGrumbled_30 (by decide) ?_
    refine lv_istore (lv' := [(4, .int (0 : Int32)), (3, .int (-1 : Int32)), (2, .int r4), (1, .int r1), (0, .ref (q 0))]) hx hb dX7_leastGrumbled_31 hl (by decide) rfl (fun ls hl => ?_)
    obtain ⟨n16, hw⟩ := hw
    refine L33 _ r1 r4 n16 (-1 : Int32) (0 : Int32) σ5 _ _ _ hw ?_ hP hS (lv_sub hl [4, 3, 2, 1, 0] rfl)
    intro v17 v18 σ19 H locs ls hw hP hS hl
    have hD : va_D (wdA 36 q) (xw c q σ19) := xw_D hD0
    refine lv_iload_n hx hb dX7_leastGrumbled_79 rfl (lv_at hl 3 rfl) ?_
    exact W.iret hx hb hr (fun t ht hW => ⟨⟨_, σ19, rfl, hw, by unfold wdB; rw [ht]; exact hP⟩, hS.F ht⟩) hS.2.2 dX7_leastGrumbled_80
def wX7_least  (post : Int32 → hsS → Prop) (σ : hsS) : Prop := wX7_leastGrumbled  (fun r1 σ2 => post r1 σ2) σ
set_option maxHeartbeats 4000000 in
set_option maxRecDepth 100000 in
theorem kcX7_least (l : Launch) (D : va_G) (c : Nat → ClassId) (q : Nat → Nat) (ev : State → Heap → Prop) (hev : evOK (wdA 36 q) ev) (σ : hsS)  (post : Int32 → hsS → Prop) (hw : wX7_least  post σ) : Met l yX7_least (Cond.code yX7_least cX7_least 1 (some .int) :: tb_L) { frames := 6, cells := 0, slots := 0, locals := 151 } (wdPc D (xw c q) (xwT c) (wdA 36 q) ev σ [.ref (q 0)]) (va_Qi post (wdB D (xw c q)) (wdA 36 q)) 0 0 (wdA 36 q) := by
  refine Met.ofW (cc := cX7_least) (maxL := 1) (ret := (some .int)) (by decide) rfl ?_
  intro p e s m args below meth c₀ s₁ Bd hml hv
  obtain ⟨rfl, hP, hK, hD0, hE⟩ := hv
  have hx := Bd.exec
  have hb := Bd.bytes
  have hr := Bd.returns
  have hts := atoms_spec (ws := Cond.code yX7_least cX7_least 1 (some .int) :: tb_L) Bd.pre
  have htb : ∀ w ∈ tb_L, w.before [.ref (q 0)].toArray s = true := fun w h => hts w (List.mem_cons_of_mem _ h)
  have hown : s.vm.findClass RX7 = some m.cls := findClass_of_methodNamed Bd.named
  have hlocks := Bd.notSynchronized
  have hS : va_S (wdA 36 q) s.heap s.heap [] := va_S.rf
  have hD := hD0
  have hl := lv_entry ([.ref (q 0)]) (n := 1) (Nat.le_of_ble_eq_true rfl)
  rw [lg_entry_eq]
  generalize (lg_sl ([.ref (q 0)]) ++ List.replicate (1 - (lg_sl ([.ref (q 0)])).length) Slot.unset).toArray = ls at hl ⊢
  have hl : lv_has ls 1 [(0, .ref (q 0))] := hl
  unfold wX7_least at hw
  refine lv_aload_n hx hb dX7_least_0 rfl (lv_at hl 0 rfl) ?_
  refine va_calli (va_runV (As := []) (rest := []) ⟨hx, hb, hml, hown, htb⟩ (kcX7_leastGrumbled l D c q ev hev σ  _ hw) (tb_CW htb kX7_leastGrumbled tb_521 tb_523 tb_3 ⟨Nat.le_of_ble_eq_true rfl, Nat.le_of_ble_eq_true rfl⟩) (wd_preV (wd := xw c q) (k := 0) hev hK hP hD hE hS (xw_0 c q σ) rfl) rfl rfl hl.1 rfl (lv_room (Nat.le_of_ble_eq_true rfl)) dX7_least_1 ⟨Nat.zero_le _, Nat.zero_le _⟩) hS (fun q _ h => h) (fun q h => h) (fun r1 σ2 t H1 locs1 ht hvm hw hB hz1 hk1 hS => ?_)
  have hP : va_P D vwCl (xw c q σ2) H1 := ht ▸ hB
  have hD : va_D (wdA 36 q) (xw c q σ2) := xw_D hD0
  exact W.iret hx hb hr (fun t ht hW => ⟨⟨_, σ2, rfl, hw, by unfold wdB; rw [ht]; exact hP⟩, hS.F ht⟩) hS.2.2 dX7_least_4
def wX1_headWeight_L4 (b0 : Nat) (z1 : Int32) (K48 : Int32 → Int32 → hsS → Prop) (post : Int32 → hsS → Prop) : Nat → Int32 → Int32 → hsS → Prop
  | 0, _, _, _ => False
  | n + 1, y2, y3, σ => (((σ.1 (64 * b0 + 1)) ≤ y3 → K48 y2 y3 σ) ∧ (¬ (σ.1 (64 * b0 + 1)) ≤ y3 → (((((σ.1 (64 * b0 + 7)) >>> (y3 &&& 31)) &&& (1 : Int32)) = (1 : Int32) → wX1_placeOf b0 y3 z1 (fun r3 σ4 => ((r3 = (0 : Int32) → vp_in y3 8 ∧ ∀ v6 : Int32, v6 = y2 + (σ4.2.1 (b0 + 1) y3.toNatClampNeg) → ∀ v7 : Int32, v7 = y3 + (1 : Int32) → wX1_headWeight_L4 b0 z1 K48 post n v6 v7 σ4) ∧ (¬ r3 = (0 : Int32) → ∀ v8 : Int32, v8 = y3 + (1 : Int32) → wX1_headWeight_L4 b0 z1 K48 post n y2 v8 σ4))) σ) ∧ (¬ (((σ.1 (64 * b0 + 7)) >>> (y3 &&& 31)) &&& (1 : Int32)) = (1 : Int32) → ∀ v9 : Int32, v9 = y3 + (1 : Int32) → wX1_headWeight_L4 b0 z1 K48 post n y2 v9 σ))))
def wX1_headWeight (b0 : Nat) (x1 : Int32) (post : Int32 → hsS → Prop) (σ : hsS) : Prop := ∃ n10, wX1_headWeight_L4 b0 x1 (fun v11 v12 σ13 => post v11 σ13) post n10 (0 : Int32) (0 : Int32) σ
set_option maxHeartbeats 4000000 in
set_option maxRecDepth 100000 in
theorem kcX1_headWeight_1 (l : Launch) (D : va_G) (c : Nat → ClassId) (q : Nat → Nat) (ev : State → Heap → Prop) (hev : evOK (wdA 36 q) ev) (σ : hsS) (x1 : Int32) (post : Int32 → hsS → Prop) (hw : wX1_headWeight 1 x1 post σ) : Met l yX1_headWeight (Cond.code yX1_headWeight cX1_headWeight 4 (some .int) :: tb_L) { frames := 1, cells := 0, slots := 0, locals := 22 } (wdPc D (xw c q) (xwT c) (wdA 36 q) ev σ [.ref (q 1), .int x1]) (va_Qi post (wdB D (xw c q)) (wdA 36 q)) 0 0 (wdA 36 q) := by
  refine Met.ofW (cc := cX1_headWeight) (maxL := 4) (ret := (some .int)) (by decide) rfl ?_
  intro p e s m args below meth c₀ s₁ Bd hml hv
  obtain ⟨rfl, hP, hK, hD0, hE⟩ := hv
  have hx := Bd.exec
  have hb := Bd.bytes
  have hr := Bd.returns
  have hts := atoms_spec (ws := Cond.code yX1_headWeight cX1_headWeight 4 (some .int) :: tb_L) Bd.pre
  have htb : ∀ w ∈ tb_L, w.before [.ref (q 1), .int x1].toArray s = true := fun w h => hts w (List.mem_cons_of_mem _ h)
  have hown : s.vm.findClass RX1 = some m.cls := findClass_of_methodNamed Bd.named
  have hlocks := Bd.notSynchronized
  have hS : va_S (wdA 36 q) s.heap s.heap [] := va_S.rf
  have hD := hD0
  have L4 : ∀ (K48 : Int32 → Int32 → hsS → Prop) (z1 : Int32) (n : Nat) (y2 : Int32) (y3 : Int32) (σ : hsS) (H : Heap) (locs : List Loc) (ls : Array Slot), wX1_headWeight_L4 1 z1 K48 post n y2 y3 σ → (∀ (y2 : Int32) (y3 : Int32) (σ : hsS) (H : Heap) (locs : List Loc) (ls : Array Slot), K48 y2 y3 σ → va_P D vwCl (xw c q σ) H → va_S (wdA 36 q) s.heap H locs → lv_has ls 4 [(0, .ref (q 1)), (1, .int z1), (2, .int y2), (3, .int y3)] → W p l e (headSpec (Cond.code yX1_headWeight cX1_headWeight 4 (some .int) :: tb_L) { frames := 1, cells := 0, slots := 0, locals := 22 }).room s m [.ref (q 1), .int x1].toArray below meth c₀ H locs 0 0 (MQ below (va_Qi post (wdB D (xw c q)) (wdA 36 q)) [.ref (q 1), .int x1].toArray s 0 0 (wdA 36 q)) (F0 m 48 ls [])) → va_P D vwCl (xw c q σ) H → va_S (wdA 36 q) s.heap H locs → lv_has ls 4 [(0, .ref (q 1)), (1, .int z1), (2, .int y2), (3, .int y3)] → W p l e (headSpec (Cond.code yX1_headWeight cX1_headWeight 4 (some .int) :: tb_L) { frames := 1, cells := 0, slots := 0, locals := 22 }).room s m [.ref (q 1), .int x1].toArray below meth c₀ H locs 0 0 (MQ below (va_Qi post (wdB D (xw c q)) (wdA 36 q)) [.ref (q 1), .int x1].toArray s 0 0 (wdA 36 q)) (F0 m 4 ls []) := by
    intro K48 z1 n
    induction n with
    | zero =>
      intro y2 y3 σ H locs ls hw hk48 hP hS hl
      exact (show False from hw).elim
    | succ n ih =>
      intro y2 y3 σ H locs ls hw hk48 hP hS hl
      rw [wX1_headWeight_L4] at hw
      have hD : va_D (wdA 36 q) (xw c q σ) := xw_D hD0
      refine lv_iload_n hx hb dX1_headWeight_4 rfl (lv_at hl 3 rfl) ?_
      refine lv_aload_n hx hb dX1_headWeight_5 rfl (lv_at hl 0 rfl) ?_
      refine va_get (D := D) (ci := 1) (C := RX1) (T := TX1) (N := 12) hx hb htb inX1 hown hK hP 1 (xw_1 c q σ) rfl 1 (by decide) (htb _ tb_132) (fun _ h9 => h9) rfl dX1_headWeight_6 ?_
      refine lv_icmp_ge (tgt := 48) hx hb dX1_headWeight_9 (by decide) (fun c1 => ?_) (fun c1 => ?_)
      · have hw := hw.1 c1
        exact hk48 y2 y3 σ _ _ _ hw hP hS (lv_sub hl [0, 1, 2, 3] rfl)
      · have hw := hw.2 c1
        refine lv_aload_n hx hb dX1_headWeight_12 rfl (lv_at hl 0 rfl) ?_
        refine va_get (D := D) (ci := 1) (C := RX1) (T := TX1) (N := 12) hx hb htb inX1 hown hK hP 1 (xw_1 c q σ) rfl 7 (by decide) (htb _ tb_154) (fun _ h9 => h9) rfl dX1_headWeight_13 ?_
        refine lv_iload_n hx hb dX1_headWeight_16 rfl (lv_at hl 3 rfl) ?_
        refine lv_ishr hx hb dX1_headWeight_17 ?_
        refine lv_iconst (v := (1 : Int32)) hx hb dX1_headWeight_18 (by decide) ?_
        refine lv_iand hx hb dX1_headWeight_19 ?_
        refine lv_iconst (v := (1 : Int32)) hx hb dX1_headWeight_20 (by decide) ?_
        refine lv_icmp_ne (tgt := 42) hx hb dX1_headWeight_21 (by decide) (fun c2 => ?_) (fun c2 => ?_)
        · have hw := hw.2 c2
          obtain ⟨v9, ev9⟩ : ∃ z : Int32, z = y3 + (1 : Int32) := ⟨_, rfl⟩
          have hw := hw v9 ev9
          refine lv_iinc (v := v9) (lv' := [(3, .int v9), (0, .ref (q 1)), (1, .int z1), (2, .int y2)]) hx hb dX1_headWeight_42 hl (k := 3) rfl (by rw [ev9]; rfl) (by decide) rfl (fun ls hl => ?_)
          refine lv_goto (tgt := 4) hx hb dX1_headWeight_45 (by decide) ?_
          exact ih y2 v9 σ _ _ _ hw hk48 hP hS (lv_sub hl [1, 2, 3, 0] rfl)
        · have hw := hw.1 c2
          refine lv_aload_n hx hb dX1_headWeight_24 rfl (lv_at hl 0 rfl) ?_
          refine lv_iload_n hx hb dX1_headWeight_25 rfl (lv_at hl 3 rfl) ?_
          refine lv_iload_n hx hb dX1_headWeight_26 rfl (lv_at hl 1 rfl) ?_
          refine va_calli (va_runV (As := [.int y3, .int z1]) (rest := []) ⟨hx, hb, hml, hown, htb⟩ (kcX1_placeOf_1 l D c q ev hev σ y3 z1 _ hw) (tb_CW htb kX1_placeOf tb_445 tb_446 tb_447 ⟨Nat.le_of_ble_eq_true rfl, Nat.le_of_ble_eq_true rfl⟩) (wd_preV (wd := xw c q) (k := 1) hev hK hP hD hE hS (xw_1 c q σ) rfl) rfl rfl hl.1 rfl (lv_room (Nat.le_of_ble_eq_true rfl)) dX1_headWeight_27 ⟨Nat.zero_le _, Nat.zero_le _⟩) hS (fun q _ h => h) (fun q h => h) (fun r3 σ4 t H1 locs1 ht hvm hw hB hz1 hk1 hS => ?_)
          have hP : va_P D vwCl (xw c q σ4) H1 := ht ▸ hB
          have hD : va_D (wdA 36 q) (xw c q σ4) := xw_D hD0
          refine lv_if_ne (tgt := 42) hx hb dX1_headWeight_30 (by decide) (fun c5 => ?_) (fun c5 => ?_)
          · have hw := hw.2 c5
            obtain ⟨v8, ev8⟩ : ∃ z : Int32, z = y3 + (1 : Int32) := ⟨_, rfl⟩
            have hw := hw v8 ev8
            refine lv_iinc (v := v8) (lv' := [(3, .int v8), (0, .ref (q 1)), (1, .int z1), (2, .int y2)]) hx hb dX1_headWeight_42 hl (k := 3) rfl (by rw [ev8]; rfl) (by decide) rfl (fun ls hl => ?_)
            refine lv_goto (tgt := 4) hx hb dX1_headWeight_45 (by decide) ?_
            exact ih y2 v8 σ4 _ _ _ hw hk48 hP hS (lv_sub hl [1, 2, 3, 0] rfl)
          · have hw := hw.1 c5
            refine lv_iload_n hx hb dX1_headWeight_33 rfl (lv_at hl 2 rfl) ?_
            refine lv_aload_n hx hb dX1_headWeight_34 rfl (lv_at hl 0 rfl) ?_
            refine va_get (D := D) (ci := 1) (C := RX1) (T := TX1) (N := 12) hx hb htb inX1 hown hK hP 1 (xw_1 c q σ4) rfl 8 (by decide) (htb _ tb_156) (fun _ h9 => h9) rfl dX1_headWeight_35 ?_
            refine lv_iload_n hx hb dX1_headWeight_38 rfl (lv_at hl 3 rfl) ?_
            refine va_iald hx hb hK hP 2 0 (xw_2 c q σ4) rfl hw.1 dX1_headWeight_39 ?_
            have hw := hw.2
            refine lv_iadd hx hb dX1_headWeight_40 ?_
            refine lv_topi (fun v6 ev6 => ?_)
            have hw := hw v6 ev6
            refine lv_istore_n (lv' := [(2, .int v6), (0, .ref (q 1)), (1, .int z1), (3, .int y3)]) hx hb dX1_headWeight_41 rfl hl (by decide) rfl (fun ls hl => ?_)
            obtain ⟨v7, ev7⟩ : ∃ z : Int32, z = y3 + (1 : Int32) := ⟨_, rfl⟩
            have hw := hw v7 ev7
            refine lv_iinc (v := v7) (lv' := [(3, .int v7), (2, .int v6), (0, .ref (q 1)), (1, .int z1)]) hx hb dX1_headWeight_42 hl (k := 3) rfl (by rw [ev7]; rfl) (by decide) rfl (fun ls hl => ?_)
            refine lv_goto (tgt := 4) hx hb dX1_headWeight_45 (by decide) ?_
            exact ih v6 v7 σ4 _ _ _ hw hk48 hP hS (lv_sub hl [2, 3, 1, 0] rfl)
  have hl := lv_entry ([.ref (q 1), .int x1]) (n := 4) (Nat.le_of_ble_eq_true rfl)
  rw [lg_entry_eq]
  generalize (lg_sl ([.ref (q 1), .int x1]) ++ List.replicate (4 - (lg_sl ([.ref (q 1), .int x1])).length) Slot.unset).toArray = ls at hl ⊢
  have hl : lv_has ls 4 [(0, .ref (q 1)), (1, .int x1)] := hl
  unfold wX1_headWeight at hw
  refine lv_iconst (v := (0 : Int32)) hx hb dX1_headWeight_0 (by decide) ?_
  refine lv_istore_n (lv' := [(2, .int (0 : Int32)), (0, .ref (q 1)), (1, .int x1)]) hx hb dX1_headWeight_1 rfl hl (by decide) rfl (fun ls hl => ?_)
  refine lv_iconst (v := (0 : Int32)) hx hb dX1_headWeight_2 (by decide) ?_
  refine lv_istore_n (lv' := [(3, .int (0 : Int32)), (2, .int (0 : Int32)), (0, .ref (q 1)), (1, .int x1)]) hx hb dX1_headWeight_3 rfl hl (by decide) rfl (fun ls hl => ?_)
  obtain ⟨n10, hw⟩ := hw
  refine L4 _ x1 n10 (0 : Int32) (0 : Int32) σ _ _ _ hw ?_ hP hS (lv_sub hl [2, 3, 1, 0] rfl)
  intro v11 v12 σ13 H locs ls hw hP hS hl
  have hD : va_D (wdA 36 q) (xw c q σ13) := xw_D hD0
  refine lv_iload_n hx hb dX1_headWeight_48 rfl (lv_at hl 2 rfl) ?_
  exact W.iret hx hb hr (fun t ht hW => ⟨⟨_, σ13, rfl, hw, by unfold wdB; rw [ht]; exact hP⟩, hS.F ht⟩) hS.2.2 dX1_headWeight_49
def wX1_thingOfMostHeads_L4 (b0 : Nat) (K33 : Int32 → Int32 → hsS → Prop) (post : Int32 → hsS → Prop) : Nat → Int32 → Int32 → hsS → Prop
  | 0, _, _, _ => False
  | n + 1, y1, y2, σ => (((σ.1 (64 * b0 + 0)) ≤ y2 → K33 y1 y2 σ) ∧ (¬ (σ.1 (64 * b0 + 0)) ≤ y2 → wX1_headWeight b0 y2 (fun r2 σ3 => wX1_headWeight b0 y1 (fun r4 σ5 => ((r2 ≤ r4 → ∀ v7 : Int32, v7 = y2 + (1 : Int32) → wX1_thingOfMostHeads_L4 b0 K33 post n y1 v7 σ5) ∧ (¬ r2 ≤ r4 → ∀ v8 : Int32, v8 = y2 + (1 : Int32) → wX1_thingOfMostHeads_L4 b0 K33 post n y2 v8 σ5))) σ3) σ))
def wX1_thingOfMostHeads (b0 : Nat) (post : Int32 → hsS → Prop) (σ : hsS) : Prop := ∃ n9, wX1_thingOfMostHeads_L4 b0 (fun v10 v11 σ12 => post v10 σ12) post n9 (0 : Int32) (1 : Int32) σ
set_option maxHeartbeats 4000000 in
set_option maxRecDepth 100000 in
theorem kcX1_thingOfMostHeads_1 (l : Launch) (D : va_G) (c : Nat → ClassId) (q : Nat → Nat) (ev : State → Heap → Prop) (hev : evOK (wdA 36 q) ev) (σ : hsS)  (post : Int32 → hsS → Prop) (hw : wX1_thingOfMostHeads 1 post σ) : Met l yX1_thingOfMostHeads (Cond.code yX1_thingOfMostHeads cX1_thingOfMostHeads 3 (some .int) :: tb_L) { frames := 2, cells := 0, slots := 0, locals := 45 } (wdPc D (xw c q) (xwT c) (wdA 36 q) ev σ [.ref (q 1)]) (va_Qi post (wdB D (xw c q)) (wdA 36 q)) 0 0 (wdA 36 q) := by
  refine Met.ofW (cc := cX1_thingOfMostHeads) (maxL := 3) (ret := (some .int)) (by decide) rfl ?_
  intro p e s m args below meth c₀ s₁ Bd hml hv
  obtain ⟨rfl, hP, hK, hD0, hE⟩ := hv
  have hx := Bd.exec
  have hb := Bd.bytes
  have hr := Bd.returns
  have hts := atoms_spec (ws := Cond.code yX1_thingOfMostHeads cX1_thingOfMostHeads 3 (some .int) :: tb_L) Bd.pre
  have htb : ∀ w ∈ tb_L, w.before [.ref (q 1)].toArray s = true := fun w h => hts w (List.mem_cons_of_mem _ h)
  have hown : s.vm.findClass RX1 = some m.cls := findClass_of_methodNamed Bd.named
  have hlocks := Bd.notSynchronized
  have hS : va_S (wdA 36 q) s.heap s.heap [] := va_S.rf
  have hD := hD0
  have L4 : ∀ (K33 : Int32 → Int32 → hsS → Prop) (n : Nat) (y1 : Int32) (y2 : Int32) (σ : hsS) (H : Heap) (locs : List Loc) (ls : Array Slot), wX1_thingOfMostHeads_L4 1 K33 post n y1 y2 σ → (∀ (y1 : Int32) (y2 : Int32) (σ : hsS) (H : Heap) (locs : List Loc) (ls : Array Slot), K33 y1 y2 σ → va_P D vwCl (xw c q σ) H → va_S (wdA 36 q) s.heap H locs → lv_has ls 3 [(0, .ref (q 1)), (1, .int y1), (2, .int y2)] → W p l e (headSpec (Cond.code yX1_thingOfMostHeads cX1_thingOfMostHeads 3 (some .int) :: tb_L) { frames := 2, cells := 0, slots := 0, locals := 45 }).room s m [.ref (q 1)].toArray below meth c₀ H locs 0 0 (MQ below (va_Qi post (wdB D (xw c q)) (wdA 36 q)) [.ref (q 1)].toArray s 0 0 (wdA 36 q)) (F0 m 33 ls [])) → va_P D vwCl (xw c q σ) H → va_S (wdA 36 q) s.heap H locs → lv_has ls 3 [(0, .ref (q 1)), (1, .int y1), (2, .int y2)] → W p l e (headSpec (Cond.code yX1_thingOfMostHeads cX1_thingOfMostHeads 3 (some .int) :: tb_L) { frames := 2, cells := 0, slots := 0, locals := 45 }).room s m [.ref (q 1)].toArray below meth c₀ H locs 0 0 (MQ below (va_Qi post (wdB D (xw c q)) (wdA 36 q)) [.ref (q 1)].toArray s 0 0 (wdA 36 q)) (F0 m 4 ls []) := by
    intro K33 n
    induction n with
    | zero =>
      intro y1 y2 σ H locs ls hw hk33 hP hS hl
      exact (show False from hw).elim
    | succ n ih =>
      intro y1 y2 σ H locs ls hw hk33 hP hS hl
      rw [wX1_thingOfMostHeads_L4] at hw
      have hD : va_D (wdA 36 q) (xw c q σ) := xw_D hD0
      refine lv_iload_n hx hb dX1_thingOfMostHeads_4 rfl (lv_at hl 2 rfl) ?_
      refine lv_aload_n hx hb dX1_thingOfMostHeads_5 rfl (lv_at hl 0 rfl) ?_
      refine va_get (D := D) (ci := 1) (C := RX1) (T := TX1) (N := 12) hx hb htb inX1 hown hK hP 1 (xw_1 c q σ) rfl 0 (by decide) (htb _ tb_126) (fun _ h9 => h9) rfl dX1_thingOfMostHeads_6 ?_
      refine lv_icmp_ge (tgt := 33) hx hb dX1_thingOfMostHeads_9 (by decide) (fun c1 => ?_) (fun c1 => ?_)
      · have hw := hw.1 c1
        exact hk33 y1 y2 σ _ _ _ hw hP hS (lv_sub hl [0, 1, 2] rfl)
      · have hw := hw.2 c1
        refine lv_aload_n hx hb dX1_thingOfMostHeads_12 rfl (lv_at hl 0 rfl) ?_
        refine lv_iload_n hx hb dX1_thingOfMostHeads_13 rfl (lv_at hl 2 rfl) ?_
        refine va_calli (va_runV (As := [.int y2]) (rest := []) ⟨hx, hb, hml, hown, htb⟩ (kcX1_headWeight_1 l D c q ev hev σ y2 _ hw) (tb_CW htb kX1_headWeight tb_1075 tb_1061 tb_1062 ⟨Nat.le_of_ble_eq_true rfl, Nat.le_of_ble_eq_true rfl⟩) (wd_preV (wd := xw c q) (k := 1) hev hK hP hD hE hS (xw_1 c q σ) rfl) rfl rfl hl.1 rfl (lv_room (Nat.le_of_ble_eq_true rfl)) dX1_thingOfMostHeads_14 ⟨Nat.zero_le _, Nat.zero_le _⟩) hS (fun q _ h => h) (fun q h => h) (fun r2 σ3 t H1 locs1 ht hvm hw hB hz1 hk1 hS => ?_)
        have hP : va_P D vwCl (xw c q σ3) H1 := ht ▸ hB
        have hD : va_D (wdA 36 q) (xw c q σ3) := xw_D hD0
        refine lv_aload_n hx hb dX1_thingOfMostHeads_17 rfl (lv_at hl 0 rfl) ?_
        refine lv_iload_n hx hb dX1_thingOfMostHeads_18 rfl (lv_at hl 1 rfl) ?_
        refine va_calli (va_runV (As := [.int y1]) (rest := [.int r2]) ⟨hx, hb, hml, hown, htb⟩ (kcX1_headWeight_1 l D c q ev hev σ3 y1 _ hw) (tb_CW htb kX1_headWeight tb_1075 tb_1061 tb_1062 ⟨Nat.le_of_ble_eq_true rfl, Nat.le_of_ble_eq_true rfl⟩) (wd_preV (wd := xw c q) (k := 1) hev hK hP hD hE hS (xw_1 c q σ3) rfl) rfl rfl hl.1 rfl (lv_room (Nat.le_of_ble_eq_true rfl)) dX1_thingOfMostHeads_19 ⟨Nat.zero_le _, Nat.zero_le _⟩) hS (fun q _ h => h) (fun q h => h) (fun r4 σ5 t H1 locs1 ht hvm hw hB hz1 hk1 hS => ?_)
        have hP : va_P D vwCl (xw c q σ5) H1 := ht ▸ hB
        have hD : va_D (wdA 36 q) (xw c q σ5) := xw_D hD0
        refine lv_icmp_le (tgt := 27) hx hb dX1_thingOfMostHeads_22 (by decide) (fun c6 => ?_) (fun c6 => ?_)
        · have hw := hw.1 c6
          obtain ⟨v7, ev7⟩ : ∃ z : Int32, z = y2 + (1 : Int32) := ⟨_, rfl⟩
          have hw := hw v7 ev7
          refine lv_iinc (v := v7) (lv' := [(2, .int v7), (0, .ref (q 1)), (1, .int y1)]) hx hb dX1_thingOfMostHeads_27 hl (k := 2) rfl (by rw [ev7]; rfl) (by decide) rfl (fun ls hl => ?_)
          refine lv_goto (tgt := 4) hx hb dX1_thingOfMostHeads_30 (by decide) ?_
          exact ih y1 v7 σ5 _ _ _ hw hk33 hP hS (lv_sub hl [1, 2, 0] rfl)
        · have hw := hw.2 c6
          refine lv_iload_n hx hb dX1_thingOfMostHeads_25 rfl (lv_at hl 2 rfl) ?_
          refine lv_istore_n (lv' := [(1, .int y2), (0, .ref (q 1)), (2, .int y2)]) hx hb dX1_thingOfMostHeads_26 rfl hl (by decide) rfl (fun ls hl => ?_)
          obtain ⟨v8, ev8⟩ : ∃ z : Int32, z = y2 + (1 : Int32) := ⟨_, rfl⟩
          have hw := hw v8 ev8
          refine lv_iinc (v := v8) (lv' := [(2, .int v8), (1, .int y2), (0, .ref (q 1))]) hx hb dX1_thingOfMostHeads_27 hl (k := 2) rfl (by rw [ev8]; rfl) (by decide) rfl (fun ls hl => ?_)
          refine lv_goto (tgt := 4) hx hb dX1_thingOfMostHeads_30 (by decide) ?_
          exact ih y2 v8 σ5 _ _ _ hw hk33 hP hS (lv_sub hl [2, 1, 0] rfl)
  have hl := lv_entry ([.ref (q 1)]) (n := 3) (Nat.le_of_ble_eq_true rfl)
  rw [lg_entry_eq]
  generalize (lg_sl ([.ref (q 1)]) ++ List.replicate (3 - (lg_sl ([.ref (q 1)])).length) Slot.unset).toArray = ls at hl ⊢
  have hl : lv_has ls 3 [(0, .ref (q 1))] := hl
  unfold wX1_thingOfMostHeads at hw
  refine lv_iconst (v := (0 : Int32)) hx hb dX1_thingOfMostHeads_0 (by decide) ?_
  refine lv_istore_n (lv' := [(1, .int (0 : Int32)), (0, .ref (q 1))]) hx hb dX1_thingOfMostHeads_1 rfl hl (by decide) rfl (fun ls hl => ?_)
  refine lv_iconst (v := (1 : Int32)) hx hb dX1_thingOfMostHeads_2 (by decide) ?_
  refine lv_istore_n (lv' := [(2, .int (1 : Int32)), (1, .int (0 : Int32)), (0, .ref (q 1))]) hx hb dX1_thingOfMostHeads_3 rfl hl (by decide) rfl (fun ls hl => ?_)
  obtain ⟨n9, hw⟩ := hw
  refine L4 _ n9 (0 : Int32) (1 : Int32) σ _ _ _ hw ?_ hP hS (lv_sub hl [2, 1, 0] rfl)
  intro v10 v11 σ12 H locs ls hw hP hS hl
  have hD : va_D (wdA 36 q) (xw c q σ12) := xw_D hD0
  refine lv_iload_n hx hb dX1_thingOfMostHeads_33 rfl (lv_at hl 1 rfl) ?_
  exact W.iret hx hb hr (fun t ht hW => ⟨⟨_, σ12, rfl, hw, by unfold wdB; rw [ht]; exact hP⟩, hS.F ht⟩) hS.2.2 dX1_thingOfMostHeads_34
def wX1_groupSize_L5 (b0 : Nat) (z1 : Int32) (z2 : Int32) (K34 : Int32 → Int32 → hsS → Prop) (post : Int32 → hsS → Prop) : Nat → Int32 → Int32 → hsS → Prop
  | 0, _, _, _ => False
  | n + 1, y3, y4, σ => (((σ.1 (64 * b0 + 0)) ≤ y4 → K34 y3 y4 σ) ∧ (¬ (σ.1 (64 * b0 + 0)) ≤ y4 → wX1_placeOf b0 z1 y4 (fun r2 σ3 => ((r2 = z2 → ∀ v5 : Int32, v5 = y3 + (1 : Int32) → ∀ v6 : Int32, v6 = y4 + (1 : Int32) → wX1_groupSize_L5 b0 z1 z2 K34 post n v5 v6 σ3) ∧ (¬ r2 = z2 → ∀ v7 : Int32, v7 = y4 + (1 : Int32) → wX1_groupSize_L5 b0 z1 z2 K34 post n y3 v7 σ3))) σ))
def wX1_groupSize (b0 : Nat) (x1 : Int32) (x2 : Int32) (post : Int32 → hsS → Prop) (σ : hsS) : Prop := ∃ n8, wX1_groupSize_L5 b0 x1 x2 (fun v9 v10 σ11 => post v9 σ11) post n8 (0 : Int32) (0 : Int32) σ
set_option maxHeartbeats 4000000 in
set_option maxRecDepth 100000 in
theorem kcX1_groupSize_1 (l : Launch) (D : va_G) (c : Nat → ClassId) (q : Nat → Nat) (ev : State → Heap → Prop) (hev : evOK (wdA 36 q) ev) (σ : hsS) (x1 : Int32) (x2 : Int32) (post : Int32 → hsS → Prop) (hw : wX1_groupSize 1 x1 x2 post σ) : Met l yX1_groupSize (Cond.code yX1_groupSize cX1_groupSize 5 (some .int) :: tb_L) { frames := 1, cells := 0, slots := 0, locals := 22 } (wdPc D (xw c q) (xwT c) (wdA 36 q) ev σ [.ref (q 1), .int x1, .int x2]) (va_Qi post (wdB D (xw c q)) (wdA 36 q)) 0 0 (wdA 36 q) := by
  refine Met.ofW (cc := cX1_groupSize) (maxL := 5) (ret := (some .int)) (by decide) rfl ?_
  intro p e s m args below meth c₀ s₁ Bd hml hv
  obtain ⟨rfl, hP, hK, hD0, hE⟩ := hv
  have hx := Bd.exec
  have hb := Bd.bytes
  have hr := Bd.returns
  have hts := atoms_spec (ws := Cond.code yX1_groupSize cX1_groupSize 5 (some .int) :: tb_L) Bd.pre
  have htb : ∀ w ∈ tb_L, w.before [.ref (q 1), .int x1, .int x2].toArray s = true := fun w h => hts w (List.mem_cons_of_mem _ h)
  have hown : s.vm.findClass RX1 = some m.cls := findClass_of_methodNamed Bd.named
  have hlocks := Bd.notSynchronized
  have hS : va_S (wdA 36 q) s.heap s.heap [] := va_S.rf
  have hD := hD0
  have L5 : ∀ (K34 : Int32 → Int32 → hsS → Prop) (z1 : Int32) (z2 : Int32) (n : Nat) (y3 : Int32) (y4 : Int32) (σ : hsS) (H : Heap) (locs : List Loc) (ls : Array Slot), wX1_groupSize_L5 1 z1 z2 K34 post n y3 y4 σ → (∀ (y3 : Int32) (y4 : Int32) (σ : hsS) (H : Heap) (locs : List Loc) (ls : Array Slot), K34 y3 y4 σ → va_P D vwCl (xw c q σ) H → va_S (wdA 36 q) s.heap H locs → lv_has ls 5 [(0, .ref (q 1)), (1, .int z1), (2, .int z2), (3, .int y3), (4, .int y4)] → W p l e (headSpec (Cond.code yX1_groupSize cX1_groupSize 5 (some .int) :: tb_L) { frames := 1, cells := 0, slots := 0, locals := 22 }).room s m [.ref (q 1), .int x1, .int x2].toArray below meth c₀ H locs 0 0 (MQ below (va_Qi post (wdB D (xw c q)) (wdA 36 q)) [.ref (q 1), .int x1, .int x2].toArray s 0 0 (wdA 36 q)) (F0 m 34 ls [])) → va_P D vwCl (xw c q σ) H → va_S (wdA 36 q) s.heap H locs → lv_has ls 5 [(0, .ref (q 1)), (1, .int z1), (2, .int z2), (3, .int y3), (4, .int y4)] → W p l e (headSpec (Cond.code yX1_groupSize cX1_groupSize 5 (some .int) :: tb_L) { frames := 1, cells := 0, slots := 0, locals := 22 }).room s m [.ref (q 1), .int x1, .int x2].toArray below meth c₀ H locs 0 0 (MQ below (va_Qi post (wdB D (xw c q)) (wdA 36 q)) [.ref (q 1), .int x1, .int x2].toArray s 0 0 (wdA 36 q)) (F0 m 5 ls []) := by
    intro K34 z1 z2 n
    induction n with
    | zero =>
      intro y3 y4 σ H locs ls hw hk34 hP hS hl
      exact (show False from hw).elim
    | succ n ih =>
      intro y3 y4 σ H locs ls hw hk34 hP hS hl
      rw [wX1_groupSize_L5] at hw
      have hD : va_D (wdA 36 q) (xw c q σ) := xw_D hD0
      refine lv_iload hx hb dX1_groupSize_5 (lv_at hl 4 rfl) ?_
      refine lv_aload_n hx hb dX1_groupSize_7 rfl (lv_at hl 0 rfl) ?_
      refine va_get (D := D) (ci := 1) (C := RX1) (T := TX1) (N := 12) hx hb htb inX1 hown hK hP 1 (xw_1 c q σ) rfl 0 (by decide) (htb _ tb_126) (fun _ h9 => h9) rfl dX1_groupSize_8 ?_
      refine lv_icmp_ge (tgt := 34) hx hb dX1_groupSize_11 (by decide) (fun c1 => ?_) (fun c1 => ?_)
      · have hw := hw.1 c1
        exact hk34 y3 y4 σ _ _ _ hw hP hS (lv_sub hl [0, 1, 2, 3, 4] rfl)
      · have hw := hw.2 c1
        refine lv_aload_n hx hb dX1_groupSize_14 rfl (lv_at hl 0 rfl) ?_
        refine lv_iload_n hx hb dX1_groupSize_15 rfl (lv_at hl 1 rfl) ?_
        refine lv_iload hx hb dX1_groupSize_16 (lv_at hl 4 rfl) ?_
        refine va_calli (va_runV (As := [.int z1, .int y4]) (rest := []) ⟨hx, hb, hml, hown, htb⟩ (kcX1_placeOf_1 l D c q ev hev σ z1 y4 _ hw) (tb_CW htb kX1_placeOf tb_445 tb_446 tb_447 ⟨Nat.le_of_ble_eq_true rfl, Nat.le_of_ble_eq_true rfl⟩) (wd_preV (wd := xw c q) (k := 1) hev hK hP hD hE hS (xw_1 c q σ) rfl) rfl rfl hl.1 rfl (lv_room (Nat.le_of_ble_eq_true rfl)) dX1_groupSize_18 ⟨Nat.zero_le _, Nat.zero_le _⟩) hS (fun q _ h => h) (fun q h => h) (fun r2 σ3 t H1 locs1 ht hvm hw hB hz1 hk1 hS => ?_)
        have hP : va_P D vwCl (xw c q σ3) H1 := ht ▸ hB
        have hD : va_D (wdA 36 q) (xw c q σ3) := xw_D hD0
        refine lv_iload_n hx hb dX1_groupSize_21 rfl (lv_at hl 2 rfl) ?_
        refine lv_icmp_ne (tgt := 28) hx hb dX1_groupSize_22 (by decide) (fun c4 => ?_) (fun c4 => ?_)
        · have hw := hw.2 c4
          obtain ⟨v7, ev7⟩ : ∃ z : Int32, z = y4 + (1 : Int32) := ⟨_, rfl⟩
          have hw := hw v7 ev7
          refine lv_iinc (v := v7) (lv' := [(4, .int v7), (0, .ref (q 1)), (1, .int z1), (2, .int z2), (3, .int y3)]) hx hb dX1_groupSize_28 hl (k := 4) rfl (by rw [ev7]; rfl) (by decide) rfl (fun ls hl => ?_)
          refine lv_goto (tgt := 5) hx hb dX1_groupSize_31 (by decide) ?_
          exact ih y3 v7 σ3 _ _ _ hw hk34 hP hS (lv_sub hl [1, 2, 3, 4, 0] rfl)
        · have hw := hw.1 c4
          obtain ⟨v5, ev5⟩ : ∃ z : Int32, z = y3 + (1 : Int32) := ⟨_, rfl⟩
          have hw := hw v5 ev5
          refine lv_iinc (v := v5) (lv' := [(3, .int v5), (0, .ref (q 1)), (1, .int z1), (2, .int z2), (4, .int y4)]) hx hb dX1_groupSize_25 hl (k := 3) rfl (by rw [ev5]; rfl) (by decide) rfl (fun ls hl => ?_)
          obtain ⟨v6, ev6⟩ : ∃ z : Int32, z = y4 + (1 : Int32) := ⟨_, rfl⟩
          have hw := hw v6 ev6
          refine lv_iinc (v := v6) (lv' := [(4, .int v6), (3, .int v5), (0, .ref (q 1)), (1, .int z1), (2, .int z2)]) hx hb dX1_groupSize_28 hl (k := 4) rfl (by rw [ev6]; rfl) (by decide) rfl (fun ls hl => ?_)
          refine lv_goto (tgt := 5) hx hb dX1_groupSize_31 (by decide) ?_
          exact ih v5 v6 σ3 _ _ _ hw hk34 hP hS (lv_sub hl [2, 3, 4, 1, 0] rfl)
  have hl := lv_entry ([.ref (q 1), .int x1, .int x2]) (n := 5) (Nat.le_of_ble_eq_true rfl)
  rw [lg_entry_eq]
  generalize (lg_sl ([.ref (q 1), .int x1, .int x2]) ++ List.replicate (5 - (lg_sl ([.ref (q 1), .int x1, .int x2])).length) Slot.unset).toArray = ls at hl ⊢
  have hl : lv_has ls 5 [(0, .ref (q 1)), (1, .int x1), (2, .int x2)] := hl
  unfold wX1_groupSize at hw
  refine lv_iconst (v := (0 : Int32)) hx hb dX1_groupSize_0 (by decide) ?_
  refine lv_istore_n (lv' := [(3, .int (0 : Int32)), (0, .ref (q 1)), (1, .int x1), (2, .int x2)]) hx hb dX1_groupSize_1 rfl hl (by decide) rfl (fun ls hl => ?_)
  refine lv_iconst (v := (0 : Int32)) hx hb dX1_groupSize_2 (by decide) ?_
  refine lv_istore (lv' := [(4, .int (0 : Int32)), (3, .int (0 : Int32)), (0, .ref (q 1)), (1, .int x1), (2, .int x2)]) hx hb dX1_groupSize_3 hl (by decide) rfl (fun ls hl => ?_)
  obtain ⟨n8, hw⟩ := hw
  refine L5 _ x1 x2 n8 (0 : Int32) (0 : Int32) σ _ _ _ hw ?_ hP hS (lv_sub hl [2, 3, 4, 1, 0] rfl)
  intro v9 v10 σ11 H locs ls hw hP hS hl
  have hD : va_D (wdA 36 q) (xw c q σ11) := xw_D hD0
  refine lv_iload_n hx hb dX1_groupSize_34 rfl (lv_at hl 3 rfl) ?_
  exact W.iret hx hb hr (fun t ht hW => ⟨⟨_, σ11, rfl, hw, by unfold wdB; rw [ht]; exact hP⟩, hS.F ht⟩) hS.2.2 dX1_groupSize_35
def wX2_ordersOf_L4 (b0 : Nat) (z1 : Int32) (K36 : Int32 → Int32 → hsS → Prop) (post : Int32 → hsS → Prop) : Nat → Int32 → Int32 → hsS → Prop
  | 0, _, _, _ => False
  | n + 1, y2, y3, σ => (((σ.1 (64 * b0 + 0)) ≤ y3 → K36 y2 y3 σ) ∧ (¬ (σ.1 (64 * b0 + 0)) ≤ y3 → wX1_groupSize b0 z1 y3 (fun r2 σ3 => wX7_factorial r2 (fun r4 σ5 => ∀ v6 : Int32, v6 = (if (241 : Int32) < (y2 * r4) then (241 : Int32) else (y2 * r4)) → ∀ v7 : Int32, v7 = y3 + (1 : Int32) → wX2_ordersOf_L4 b0 z1 K36 post n v6 v7 σ5) σ3) σ))
def wX2_ordersOf (b0 : Nat) (x1 : Int32) (post : Int32 → hsS → Prop) (σ : hsS) : Prop := ∃ n8, wX2_ordersOf_L4 b0 x1 (fun v9 v10 σ11 => post v9 σ11) post n8 (1 : Int32) (0 : Int32) σ
set_option maxHeartbeats 4000000 in
set_option maxRecDepth 100000 in
theorem kcX2_ordersOf_1 (l : Launch) (D : va_G) (c : Nat → ClassId) (q : Nat → Nat) (ev : State → Heap → Prop) (hev : evOK (wdA 36 q) ev) (tF : Nat) (hF : ∀ (U : State) (H : Heap), ev U H → va_Z "StrikeHall" "FACTORIALS" "[I" (.ref tF) (wdA 36 q) U H ∧ va_T .int tF 10 (fun j => .int (xfact j)) (wdA 36 q) U H) (σ : hsS) (x1 : Int32) (post : Int32 → hsS → Prop) (hw : wX2_ordersOf 1 x1 post σ) : Met l yX2_ordersOf (Cond.code yX2_ordersOf cX2_ordersOf 4 (some .int) :: tb_L) { frames := 2, cells := 0, slots := 0, locals := 60 } (wdPc D (xw c q) (xwT c) (wdA 36 q) ev σ [.ref (q 1), .int x1]) (va_Qi post (wdB D (xw c q)) (wdA 36 q)) 0 0 (wdA 36 q) := by
  refine Met.ofW (cc := cX2_ordersOf) (maxL := 4) (ret := (some .int)) (by decide) rfl ?_
  intro p e s m args below meth c₀ s₁ Bd hml hv
  obtain ⟨rfl, hP, hK, hD0, hE⟩ := hv
  have hx := Bd.exec
  have hb := Bd.bytes
  have hr := Bd.returns
  have hts := atoms_spec (ws := Cond.code yX2_ordersOf cX2_ordersOf 4 (some .int) :: tb_L) Bd.pre
  have htb : ∀ w ∈ tb_L, w.before [.ref (q 1), .int x1].toArray s = true := fun w h => hts w (List.mem_cons_of_mem _ h)
  have hown : s.vm.findClass RX2 = some m.cls := findClass_of_methodNamed Bd.named
  have hlocks := Bd.notSynchronized
  have hS : va_S (wdA 36 q) s.heap s.heap [] := va_S.rf
  have hD := hD0
  have L4 : ∀ (K36 : Int32 → Int32 → hsS → Prop) (z1 : Int32) (n : Nat) (y2 : Int32) (y3 : Int32) (σ : hsS) (H : Heap) (locs : List Loc) (ls : Array Slot), wX2_ordersOf_L4 1 z1 K36 post n y2 y3 σ → (∀ (y2 : Int32) (y3 : Int32) (σ : hsS) (H : Heap) (locs : List Loc) (ls : Array Slot), K36 y2 y3 σ → va_P D vwCl (xw c q σ) H → va_S (wdA 36 q) s.heap H locs → lv_has ls 4 [(0, .ref (q 1)), (1, .int z1), (2, .int y2), (3, .int y3)] → W p l e (headSpec (Cond.code yX2_ordersOf cX2_ordersOf 4 (some .int) :: tb_L) { frames := 2, cells := 0, slots := 0, locals := 60 }).room s m [.ref (q 1), .int x1].toArray below meth c₀ H locs 0 0 (MQ below (va_Qi post (wdB D (xw c q)) (wdA 36 q)) [.ref (q 1), .int x1].toArray s 0 0 (wdA 36 q)) (F0 m 36 ls [])) → va_P D vwCl (xw c q σ) H → va_S (wdA 36 q) s.heap H locs → lv_has ls 4 [(0, .ref (q 1)), (1, .int z1), (2, .int y2), (3, .int y3)] → W p l e (headSpec (Cond.code yX2_ordersOf cX2_ordersOf 4 (some .int) :: tb_L) { frames := 2, cells := 0, slots := 0, locals := 60 }).room s m [.ref (q 1), .int x1].toArray below meth c₀ H locs 0 0 (MQ below (va_Qi post (wdB D (xw c q)) (wdA 36 q)) [.ref (q 1), .int x1].toArray s 0 0 (wdA 36 q)) (F0 m 4 ls []) := by
    intro K36 z1 n
    induction n with
    | zero =>
      intro y2 y3 σ H locs ls hw hk36 hP hS hl
      exact (show False from hw).elim
    | succ n ih =>
      intro y2 y3 σ H locs ls hw hk36 hP hS hl
      rw [wX2_ordersOf_L4] at hw
      have hD : va_D (wdA 36 q) (xw c q σ) := xw_D hD0
      refine lv_iload_n hx hb dX2_ordersOf_4 rfl (lv_at hl 3 rfl) ?_
      refine lv_aload_n hx hb dX2_ordersOf_5 rfl (lv_at hl 0 rfl) ?_
      refine va_getN (D := D) (ci := 1) (C := RX1) (T := TX1) (N := 12) hx hb htb inX1 hown hK hP 1 (xw_1 c q σ) rfl 0 (by decide) (htb _ tb_129) (fun _ h9 => h9) rfl dX2_ordersOf_6 ?_
      refine lv_icmp_ge (tgt := 36) hx hb dX2_ordersOf_9 (by decide) (fun c1 => ?_) (fun c1 => ?_)
      · have hw := hw.1 c1
        exact hk36 y2 y3 σ _ _ _ hw hP hS (lv_sub hl [0, 1, 2, 3] rfl)
      · have hw := hw.2 c1
        refine lv_iload_n hx hb dX2_ordersOf_12 rfl (lv_at hl 2 rfl) ?_
        refine lv_aload_n hx hb dX2_ordersOf_13 rfl (lv_at hl 0 rfl) ?_
        refine lv_iload_n hx hb dX2_ordersOf_14 rfl (lv_at hl 1 rfl) ?_
        refine lv_iload_n hx hb dX2_ordersOf_15 rfl (lv_at hl 3 rfl) ?_
        refine va_calli (va_runV (As := [.int z1, .int y3]) (rest := [.int y2]) ⟨hx, hb, hml, hown, htb⟩ (kcX1_groupSize_1 l D c q ev hev σ z1 y3 _ hw) (tb_CW htb kX1_groupSize tb_553 tb_554 tb_555 ⟨Nat.le_of_ble_eq_true rfl, Nat.le_of_ble_eq_true rfl⟩) (wd_preV (wd := xw c q) (k := 1) hev hK hP hD hE hS (xw_1 c q σ) rfl) rfl rfl hl.1 rfl (lv_room (Nat.le_of_ble_eq_true rfl)) dX2_ordersOf_16 ⟨Nat.zero_le _, Nat.zero_le _⟩) hS (fun q _ h => h) (fun q h => h) (fun r2 σ3 t H1 locs1 ht hvm hw hB hz1 hk1 hS => ?_)
        have hP : va_P D vwCl (xw c q σ3) H1 := ht ▸ hB
        have hD : va_D (wdA 36 q) (xw c q σ3) := xw_D hD0
        refine va_calli (va_runSN (As := [.int r2]) (rest := [.int y2]) ⟨hx, hb, hml, hown, htb⟩ (kcX7_factorial_x l D c q ev hev tF hF σ3 r2 _ hw) (⟨tb_CN htb kX7_factorial tb_557 ⟨Nat.le_of_ble_eq_true rfl, Nat.le_of_ble_eq_true rfl⟩, htb _ tb_558, trivial⟩) (wd_preS (wd := xw c q) hev hK hP hD hE hS) rfl rfl hl.1 rfl (lv_room (Nat.le_of_ble_eq_true rfl)) dX2_ordersOf_19 ⟨Nat.zero_le _, Nat.zero_le _⟩) hS (fun q _ h => h) (fun q h => h) (fun r4 σ5 t H1 locs1 ht hvm hw hB hz1 hk1 hS => ?_)
        have hP : va_P D vwCl (xw c q σ5) H1 := ht ▸ hB
        have hD : va_D (wdA 36 q) (xw c q σ5) := xw_D hD0
        refine lv_imul hx hb dX2_ordersOf_22 ?_
        refine lv_sipush (v := (241 : Int32)) hx hb dX2_ordersOf_23 (by decide) ?_
        refine va_mmin hx hb (hml.trans hl.1.symm) hown (htb _ tb_563) (htb _ tb_413) (htb _ tb_104) (htb _ tb_414) (Nat.le_of_ble_eq_true rfl) (Nat.le_of_ble_eq_true rfl) (Nat.zero_le _) (Nat.zero_le _) dX2_ordersOf_26 ?_
        refine lv_topi (fun v6 ev6 => ?_)
        have hw := hw v6 ev6
        refine lv_istore_n (lv' := [(2, .int v6), (0, .ref (q 1)), (1, .int z1), (3, .int y3)]) hx hb dX2_ordersOf_29 rfl hl (by decide) rfl (fun ls hl => ?_)
        obtain ⟨v7, ev7⟩ : ∃ z : Int32, z = y3 + (1 : Int32) := ⟨_, rfl⟩
        have hw := hw v7 ev7
        refine lv_iinc (v := v7) (lv' := [(3, .int v7), (2, .int v6), (0, .ref (q 1)), (1, .int z1)]) hx hb dX2_ordersOf_30 hl (k := 3) rfl (by rw [ev7]; rfl) (by decide) rfl (fun ls hl => ?_)
        refine lv_goto (tgt := 4) hx hb dX2_ordersOf_33 (by decide) ?_
        exact ih v6 v7 σ5 _ _ _ hw hk36 hP hS (lv_sub hl [2, 3, 1, 0] rfl)
  have hl := lv_entry ([.ref (q 1), .int x1]) (n := 4) (Nat.le_of_ble_eq_true rfl)
  rw [lg_entry_eq]
  generalize (lg_sl ([.ref (q 1), .int x1]) ++ List.replicate (4 - (lg_sl ([.ref (q 1), .int x1])).length) Slot.unset).toArray = ls at hl ⊢
  have hl : lv_has ls 4 [(0, .ref (q 1)), (1, .int x1)] := hl
  unfold wX2_ordersOf at hw
  refine lv_iconst (v := (1 : Int32)) hx hb dX2_ordersOf_0 (by decide) ?_
  refine lv_istore_n (lv' := [(2, .int (1 : Int32)), (0, .ref (q 1)), (1, .int x1)]) hx hb dX2_ordersOf_1 rfl hl (by decide) rfl (fun ls hl => ?_)
  refine lv_iconst (v := (0 : Int32)) hx hb dX2_ordersOf_2 (by decide) ?_
  refine lv_istore_n (lv' := [(3, .int (0 : Int32)), (2, .int (1 : Int32)), (0, .ref (q 1)), (1, .int x1)]) hx hb dX2_ordersOf_3 rfl hl (by decide) rfl (fun ls hl => ?_)
  obtain ⟨n8, hw⟩ := hw
  refine L4 _ x1 n8 (1 : Int32) (0 : Int32) σ _ _ _ hw ?_ hP hS (lv_sub hl [2, 3, 1, 0] rfl)
  intro v9 v10 σ11 H locs ls hw hP hS hl
  have hD : va_D (wdA 36 q) (xw c q σ11) := xw_D hD0
  refine lv_iload_n hx hb dX2_ordersOf_36 rfl (lv_at hl 2 rfl) ?_
  exact W.iret hx hb hr (fun t ht hW => ⟨⟨_, σ11, rfl, hw, by unfold wdB; rw [ht]; exact hP⟩, hS.F ht⟩) hS.2.2 dX2_ordersOf_37
def wX2_countWays_L7 (b0 : Nat) (b1 : Nat) (K63 : Int32 → hsS → Prop) (post : hsS → Prop) : Nat → Int32 → hsS → Prop
  | 0, _, _ => False
  | n + 1, y2, σ => (((σ.1 (64 * b1 + 1)) ≤ y2 → K63 y2 σ) ∧ (¬ (σ.1 (64 * b1 + 1)) ≤ y2 → vp_in y2 8 ∧ ∀ σ3 : hsS, σ3 = hsA σ (b0 + 3) (upd (σ.2.1 (b0 + 3)) y2.toNatClampNeg (σ.1 (64 * b0 + 5))) → wX2_ordersOf b1 y2 (fun r4 σ5 => vp_in y2 8 ∧ ∀ σ6 : hsS, σ6 = hsA σ5 (b0 + 2) (upd (σ5.2.1 (b0 + 2)) y2.toNatClampNeg r4) → vp_in y2 8 ∧ ∀ σ7 : hsS, σ7 = hsI σ6 (64 * b0 + 5) (if (241 : Int32) < ((σ6.1 (64 * b0 + 5)) * (σ6.2.1 (b0 + 2) y2.toNatClampNeg)) then (241 : Int32) else ((σ6.1 (64 * b0 + 5)) * (σ6.2.1 (b0 + 2) y2.toNatClampNeg))) → ∀ v8 : Int32, v8 = y2 + (1 : Int32) → wX2_countWays_L7 b0 b1 K63 post n v8 σ7) σ3))
def wX2_countWays (b0 : Nat) (b1 : Nat) (post : hsS → Prop) (σ : hsS) : Prop := ∀ σ1 : hsS, σ1 = hsI σ (64 * b0 + 5) (1 : Int32) → ∃ n9, wX2_countWays_L7 b0 b1 (fun v10 σ11 => post σ11) post n9 (0 : Int32) σ1
set_option maxHeartbeats 4000000 in
set_option maxRecDepth 100000 in
theorem kcX2_countWays_25_1 (l : Launch) (D : va_G) (c : Nat → ClassId) (q : Nat → Nat) (ev : State → Heap → Prop) (hev : evOK (wdA 36 q) ev) (tF : Nat) (hF : ∀ (U : State) (H : Heap), ev U H → va_Z "StrikeHall" "FACTORIALS" "[I" (.ref tF) (wdA 36 q) U H ∧ va_T .int tF 10 (fun j => .int (xfact j)) (wdA 36 q) U H) (σ : hsS)  (post : hsS → Prop) (hw : wX2_countWays 25 1 post σ) : Met l yX2_countWays (Cond.code yX2_countWays cX2_countWays 3 none :: tb_L) { frames := 3, cells := 0, slots := 0, locals := 83 } (wdPc D (xw c q) (xwT c) (wdA 36 q) ev σ [.ref (q 25), .ref (q 1)]) (va_Qv post (wdB D (xw c q)) (wdA 36 q)) 0 0 (wdA 36 q) := by
  refine Met.ofW (cc := cX2_countWays) (maxL := 3) (ret := none) (by decide) rfl ?_
  intro p e s m args below meth c₀ s₁ Bd hml hv
  obtain ⟨rfl, hP, hK, hD0, hE⟩ := hv
  have hx := Bd.exec
  have hb := Bd.bytes
  have hr := Bd.returns
  have hts := atoms_spec (ws := Cond.code yX2_countWays cX2_countWays 3 none :: tb_L) Bd.pre
  have htb : ∀ w ∈ tb_L, w.before [.ref (q 25), .ref (q 1)].toArray s = true := fun w h => hts w (List.mem_cons_of_mem _ h)
  have hown : s.vm.findClass RX2 = some m.cls := findClass_of_methodNamed Bd.named
  have hlocks := Bd.notSynchronized
  have hS : va_S (wdA 36 q) s.heap s.heap [] := va_S.rf
  have hD := hD0
  have L7 : ∀ (K63 : Int32 → hsS → Prop) (n : Nat) (y2 : Int32) (σ : hsS) (H : Heap) (locs : List Loc) (ls : Array Slot), wX2_countWays_L7 25 1 K63 post n y2 σ → (∀ (y2 : Int32) (σ : hsS) (H : Heap) (locs : List Loc) (ls : Array Slot), K63 y2 σ → va_P D vwCl (xw c q σ) H → va_S (wdA 36 q) s.heap H locs → lv_has ls 3 [(0, .ref (q 25)), (1, .ref (q 1)), (2, .int y2)] → W p l e (headSpec (Cond.code yX2_countWays cX2_countWays 3 none :: tb_L) { frames := 3, cells := 0, slots := 0, locals := 83 }).room s m [.ref (q 25), .ref (q 1)].toArray below meth c₀ H locs 0 0 (MQ below (va_Qv post (wdB D (xw c q)) (wdA 36 q)) [.ref (q 25), .ref (q 1)].toArray s 0 0 (wdA 36 q)) (F0 m 63 ls [])) → va_P D vwCl (xw c q σ) H → va_S (wdA 36 q) s.heap H locs → lv_has ls 3 [(0, .ref (q 25)), (1, .ref (q 1)), (2, .int y2)] → W p l e (headSpec (Cond.code yX2_countWays cX2_countWays 3 none :: tb_L) { frames := 3, cells := 0, slots := 0, locals := 83 }).room s m [.ref (q 25), .ref (q 1)].toArray below meth c₀ H locs 0 0 (MQ below (va_Qv post (wdB D (xw c q)) (wdA 36 q)) [.ref (q 25), .ref (q 1)].toArray s 0 0 (wdA 36 q)) (F0 m 7 ls []) := by
    intro K63 n
    induction n with
    | zero =>
      intro y2 σ H locs ls hw hk63 hP hS hl
      exact (show False from hw).elim
    | succ n ih =>
      intro y2 σ H locs ls hw hk63 hP hS hl
      rw [wX2_countWays_L7] at hw
      have hD : va_D (wdA 36 q) (xw c q σ) := xw_D hD0
      refine lv_iload_n hx hb dX2_countWays_7 rfl (lv_at hl 2 rfl) ?_
      refine lv_aload_n hx hb dX2_countWays_8 rfl (lv_at hl 1 rfl) ?_
      refine va_getN (D := D) (ci := 1) (C := RX1) (T := TX1) (N := 12) hx hb htb inX1 hown hK hP 1 (xw_1 c q σ) rfl 1 (by decide) (htb _ tb_134) (fun _ h9 => h9) rfl dX2_countWays_9 ?_
      refine lv_icmp_ge (tgt := 63) hx hb dX2_countWays_12 (by decide) (fun c2 => ?_) (fun c2 => ?_)
      · have hw := hw.1 c2
        exact hk63 y2 σ _ _ _ hw hP hS (lv_sub hl [0, 1, 2] rfl)
      · have hw := hw.2 c2
        refine lv_aload_n hx hb dX2_countWays_15 rfl (lv_at hl 0 rfl) ?_
        refine va_get (D := D) (ci := 2) (C := RX2) (T := TX2) (N := 8) hx hb htb inX2 hown hK hP 25 (xw_25 c q σ) rfl 2 (by decide) (htb _ tb_287) (fun _ h9 => h9) rfl dX2_countWays_16 ?_
        refine lv_iload_n hx hb dX2_countWays_19 rfl (lv_at hl 2 rfl) ?_
        refine lv_aload_n hx hb dX2_countWays_20 rfl (lv_at hl 0 rfl) ?_
        refine va_get (D := D) (ci := 2) (C := RX2) (T := TX2) (N := 8) hx hb htb inX2 hown hK hP 25 (xw_25 c q σ) rfl 5 (by decide) (htb _ tb_290) (fun _ h9 => h9) rfl dX2_countWays_21 ?_
        refine va_iast hx hb hK hP hD hS 28 19 (xw_28 c q σ) rfl hw.1 dX2_countWays_24 (fun H locs hP hD hS => ?_)
        have hw := hw.2
        have hP : va_P D vwCl (xw c q (hsA σ 28 (upd (σ.2.1 28) y2.toNatClampNeg (σ.1 1605)))) H := hP
        obtain ⟨σ3, eσ3⟩ : ∃ z : hsS, z = hsA σ 28 (upd (σ.2.1 28) y2.toNatClampNeg (σ.1 1605)) := ⟨_, rfl⟩
        rw [← eσ3] at hP
        have hD : va_D (wdA 36 q) (xw c q σ3) := xw_D hD0
        have hw := hw σ3 eσ3
        refine lv_aload_n hx hb dX2_countWays_25 rfl (lv_at hl 0 rfl) ?_
        refine va_get (D := D) (ci := 2) (C := RX2) (T := TX2) (N := 8) hx hb htb inX2 hown hK hP 25 (xw_25 c q σ3) rfl 1 (by decide) (htb _ tb_286) (fun _ h9 => h9) rfl dX2_countWays_26 ?_
        refine lv_iload_n hx hb dX2_countWays_29 rfl (lv_at hl 2 rfl) ?_
        refine lv_aload_n hx hb dX2_countWays_30 rfl (lv_at hl 1 rfl) ?_
        refine lv_iload_n hx hb dX2_countWays_31 rfl (lv_at hl 2 rfl) ?_
        refine va_calli (va_runS (As := [.ref (q 1), .int y2]) (rest := [.int y2, .ref (q 27)]) ⟨hx, hb, hml, hown, htb⟩ (kcX2_ordersOf_1 l D c q ev hev tF hF σ3 y2 _ hw) (tb_CS htb kX2_ordersOf tb_550 tb_551 ⟨Nat.le_of_ble_eq_true rfl, Nat.le_of_ble_eq_true rfl⟩) (wd_preS (wd := xw c q) hev hK hP hD hE hS) rfl rfl hl.1 rfl (lv_room (Nat.le_of_ble_eq_true rfl)) dX2_countWays_32 ⟨Nat.zero_le _, Nat.zero_le _⟩) hS (fun q _ h => h) (fun q h => h) (fun r4 σ5 t H1 locs1 ht hvm hw hB hz1 hk1 hS => ?_)
        have hP : va_P D vwCl (xw c q σ5) H1 := ht ▸ hB
        have hD : va_D (wdA 36 q) (xw c q σ5) := xw_D hD0
        refine va_iast hx hb hK hP hD hS 27 18 (xw_27 c q σ5) rfl hw.1 dX2_countWays_35 (fun H locs hP hD hS => ?_)
        have hw := hw.2
        have hP : va_P D vwCl (xw c q (hsA σ5 27 (upd (σ5.2.1 27) y2.toNatClampNeg r4))) H := hP
        obtain ⟨σ6, eσ6⟩ : ∃ z : hsS, z = hsA σ5 27 (upd (σ5.2.1 27) y2.toNatClampNeg r4) := ⟨_, rfl⟩
        rw [← eσ6] at hP
        have hD : va_D (wdA 36 q) (xw c q σ6) := xw_D hD0
        have hw := hw σ6 eσ6
        refine lv_aload_n hx hb dX2_countWays_36 rfl (lv_at hl 0 rfl) ?_
        refine lv_aload_n hx hb dX2_countWays_37 rfl (lv_at hl 0 rfl) ?_
        refine va_get (D := D) (ci := 2) (C := RX2) (T := TX2) (N := 8) hx hb htb inX2 hown hK hP 25 (xw_25 c q σ6) rfl 5 (by decide) (htb _ tb_290) (fun _ h9 => h9) rfl dX2_countWays_38 ?_
        refine lv_aload_n hx hb dX2_countWays_41 rfl (lv_at hl 0 rfl) ?_
        refine va_get (D := D) (ci := 2) (C := RX2) (T := TX2) (N := 8) hx hb htb inX2 hown hK hP 25 (xw_25 c q σ6) rfl 1 (by decide) (htb _ tb_286) (fun _ h9 => h9) rfl dX2_countWays_42 ?_
        refine lv_iload_n hx hb dX2_countWays_45 rfl (lv_at hl 2 rfl) ?_
        refine va_iald hx hb hK hP 27 18 (xw_27 c q σ6) rfl hw.1 dX2_countWays_46 ?_
        have hw := hw.2
        refine lv_imul hx hb dX2_countWays_47 ?_
        refine lv_sipush (v := (241 : Int32)) hx hb dX2_countWays_48 (by decide) ?_
        refine va_mmin hx hb (hml.trans hl.1.symm) hown (htb _ tb_563) (htb _ tb_413) (htb _ tb_104) (htb _ tb_414) (Nat.le_of_ble_eq_true rfl) (Nat.le_of_ble_eq_true rfl) (Nat.zero_le _) (Nat.zero_le _) dX2_countWays_51 ?_
        refine va_put (D := D) (ci := 2) (ty := .int) (C := RX2) (T := TX2) (N := 8) hx hb htb inX2 tyX2 tyX2_ok nmX2 hown hK hP hD hS 25 (xw_25 c q σ6) rfl 5 (by decide) (htb _ tb_290) (fun _ h9 => h9) rfl (by decide +kernel) rfl rfl (Nat.le_of_ble_eq_true rfl) dX2_countWays_54 (fun H locs hP hD hS => ?_)
        have hP : va_P D vwCl (xw c q (hsI σ6 1605 (if (241 : Int32) < ((σ6.1 1605) * (σ6.2.1 27 y2.toNatClampNeg)) then (241 : Int32) else ((σ6.1 1605) * (σ6.2.1 27 y2.toNatClampNeg))))) H := hP
        obtain ⟨σ7, eσ7⟩ : ∃ z : hsS, z = hsI σ6 1605 (if (241 : Int32) < ((σ6.1 1605) * (σ6.2.1 27 y2.toNatClampNeg)) then (241 : Int32) else ((σ6.1 1605) * (σ6.2.1 27 y2.toNatClampNeg))) := ⟨_, rfl⟩
        rw [← eσ7] at hP
        have hD : va_D (wdA 36 q) (xw c q σ7) := xw_D hD0
        have hw := hw σ7 eσ7
        obtain ⟨v8, ev8⟩ : ∃ z : Int32, z = y2 + (1 : Int32) := ⟨_, rfl⟩
        have hw := hw v8 ev8
        refine lv_iinc (v := v8) (lv' := [(2, .int v8), (0, .ref (q 25)), (1, .ref (q 1))]) hx hb dX2_countWays_57 hl (k := 2) rfl (by rw [ev8]; rfl) (by decide) rfl (fun ls hl => ?_)
        refine lv_goto (tgt := 7) hx hb dX2_countWays_60 (by decide) ?_
        exact ih v8 σ7 _ _ _ hw hk63 hP hS (lv_sub hl [1, 2, 0] rfl)
  have hl := lv_entry ([.ref (q 25), .ref (q 1)]) (n := 3) (Nat.le_of_ble_eq_true rfl)
  rw [lg_entry_eq]
  generalize (lg_sl ([.ref (q 25), .ref (q 1)]) ++ List.replicate (3 - (lg_sl ([.ref (q 25), .ref (q 1)])).length) Slot.unset).toArray = ls at hl ⊢
  have hl : lv_has ls 3 [(0, .ref (q 25)), (1, .ref (q 1))] := hl
  unfold wX2_countWays at hw
  refine lv_aload_n hx hb dX2_countWays_0 rfl (lv_at hl 0 rfl) ?_
  refine lv_iconst (v := (1 : Int32)) hx hb dX2_countWays_1 (by decide) ?_
  refine va_put (D := D) (ci := 2) (ty := .int) (C := RX2) (T := TX2) (N := 8) hx hb htb inX2 tyX2 tyX2_ok nmX2 hown hK hP hD hS 25 (xw_25 c q σ) rfl 5 (by decide) (htb _ tb_290) (fun _ h9 => h9) rfl (by decide +kernel) rfl rfl (Nat.le_of_ble_eq_true rfl) dX2_countWays_2 (fun H locs hP hD hS => ?_)
  have hP : va_P D vwCl (xw c q (hsI σ 1605 (1 : Int32))) H := hP
  obtain ⟨σ1, eσ1⟩ : ∃ z : hsS, z = hsI σ 1605 (1 : Int32) := ⟨_, rfl⟩
  rw [← eσ1] at hP
  have hD : va_D (wdA 36 q) (xw c q σ1) := xw_D hD0
  have hw := hw σ1 eσ1
  refine lv_iconst (v := (0 : Int32)) hx hb dX2_countWays_5 (by decide) ?_
  refine lv_istore_n (lv' := [(2, .int (0 : Int32)), (0, .ref (q 25)), (1, .ref (q 1))]) hx hb dX2_countWays_6 rfl hl (by decide) rfl (fun ls hl => ?_)
  obtain ⟨n9, hw⟩ := hw
  refine L7 _ n9 (0 : Int32) σ1 _ _ _ hw ?_ hP hS (lv_sub hl [1, 2, 0] rfl)
  intro v10 σ11 H locs ls hw hP hS hl
  have hD : va_D (wdA 36 q) (xw c q σ11) := xw_D hD0
  exact W.vret hx hb hr (fun t ht hW => ⟨⟨σ11, rfl, hw, by unfold wdB; rw [ht]; exact hP⟩, hS.F ht⟩) hS.2.2 dX2_countWays_63
def wX2_spent (b0 : Nat) (post : Int32 → hsS → Prop) (σ : hsS) : Prop := (((σ.1 (64 * b0 + 5)) ≤ (240 : Int32) → post (0 : Int32) σ) ∧ (¬ (σ.1 (64 * b0 + 5)) ≤ (240 : Int32) → post (1 : Int32) σ))
set_option maxHeartbeats 4000000 in
set_option maxRecDepth 100000 in
theorem kcX2_spent_25 (l : Launch) (D : va_G) (c : Nat → ClassId) (q : Nat → Nat) (ev : State → Heap → Prop) (hev : evOK (wdA 36 q) ev) (σ : hsS)  (post : Int32 → hsS → Prop) (hw : wX2_spent 25 post σ) : Met l yX2_spent (Cond.code yX2_spent cX2_spent 1 (some .boolean) :: tb_L) { frames := 0, cells := 0, slots := 0, locals := 0 } (wdPc D (xw c q) (xwT c) (wdA 36 q) ev σ [.ref (q 25)]) (va_Qi post (wdB D (xw c q)) (wdA 36 q)) 0 0 (wdA 36 q) := by
  refine Met.ofW (cc := cX2_spent) (maxL := 1) (ret := (some .boolean)) (by decide) rfl ?_
  intro p e s m args below meth c₀ s₁ Bd hml hv
  obtain ⟨rfl, hP, hK, hD0, hE⟩ := hv
  have hx := Bd.exec
  have hb := Bd.bytes
  have hr := Bd.returns
  have hts := atoms_spec (ws := Cond.code yX2_spent cX2_spent 1 (some .boolean) :: tb_L) Bd.pre
  have htb : ∀ w ∈ tb_L, w.before [.ref (q 25)].toArray s = true := fun w h => hts w (List.mem_cons_of_mem _ h)
  have hown : s.vm.findClass RX2 = some m.cls := findClass_of_methodNamed Bd.named
  have hlocks := Bd.notSynchronized
  have hS : va_S (wdA 36 q) s.heap s.heap [] := va_S.rf
  have hD := hD0
  have hl := lv_entry ([.ref (q 25)]) (n := 1) (Nat.le_of_ble_eq_true rfl)
  rw [lg_entry_eq]
  generalize (lg_sl ([.ref (q 25)]) ++ List.replicate (1 - (lg_sl ([.ref (q 25)])).length) Slot.unset).toArray = ls at hl ⊢
  have hl : lv_has ls 1 [(0, .ref (q 25))] := hl
  unfold wX2_spent at hw
  refine lv_aload_n hx hb dX2_spent_0 rfl (lv_at hl 0 rfl) ?_
  refine va_get (D := D) (ci := 2) (C := RX2) (T := TX2) (N := 8) hx hb htb inX2 hown hK hP 25 (xw_25 c q σ) rfl 5 (by decide) (htb _ tb_290) (fun _ h9 => h9) rfl dX2_spent_1 ?_
  refine lv_sipush (v := (240 : Int32)) hx hb dX2_spent_4 (by decide) ?_
  refine lv_icmp_le (tgt := 14) hx hb dX2_spent_7 (by decide) (fun c1 => ?_) (fun c1 => ?_)
  · have hw := hw.1 c1
    refine lv_iconst (v := (0 : Int32)) hx hb dX2_spent_14 (by decide) ?_
    exact W.zret hx hb hr rfl (fun t ht hW => ⟨⟨_, σ, rfl, hw, by unfold wdB; rw [ht]; exact hP⟩, hS.F ht⟩) hS.2.2 dX2_spent_15
  · have hw := hw.2 c1
    refine lv_iconst (v := (1 : Int32)) hx hb dX2_spent_10 (by decide) ?_
    refine lv_goto (tgt := 15) hx hb dX2_spent_11 (by decide) ?_
    exact W.zret hx hb hr rfl (fun t ht hW => ⟨⟨_, σ, rfl, hw, by unfold wdB; rw [ht]; exact hP⟩, hS.F ht⟩) hS.2.2 dX2_spent_15
