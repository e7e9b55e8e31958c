theorem kX5_bestStrike : tbM yX5_bestStrike cX5_bestStrike 9 (some .int) 3 := ⟨tb_488, tb_94, by decide +kernel, by decide +kernel⟩
theorem kX5_lookBack : tbM yX5_lookBack cX5_lookBack 6 none 1 := ⟨tb_481, tb_94, by decide +kernel, by decide +kernel⟩
theorem kX5_endOf : tbM yX5_endOf cX5_endOf 2 (some .int) 1 := ⟨tb_477, tb_94, by decide +kernel, by decide +kernel⟩
theorem kX7_deep : tbM yX7_deep cX7_deep 1 (some .int) 0 := ⟨tb_473, tb_90, by decide +kernel, by decide +kernel⟩
theorem kX5_openingStrike : tbM yX5_openingStrike cX5_openingStrike 2 (some .int) 1 := ⟨tb_508, tb_94, by decide +kernel, by decide +kernel⟩
theorem kX7_first : tbM yX7_first cX7_first 1 (some .int) 0 := ⟨tb_504, tb_90, by decide +kernel, by decide +kernel⟩
theorem kX1_backEnd : tbM yX1_backEnd cX1_backEnd 3 (some .int) 0 := ⟨tb_516, tb_91, by decide +kernel, by decide +kernel⟩
theorem kX7_back : tbM yX7_back cX7_back 1 (some .int) 0 := ⟨tb_512, tb_90, by decide +kernel, by decide +kernel⟩
theorem kX7_nthUnused : tbM yX7_nthUnused cX7_nthUnused 5 (some .int) 3 := ⟨tb_592, tb_90, by decide +kernel, by decide +kernel⟩
theorem kX7_nthOrder : tbM yX7_nthOrder cX7_nthOrder 8 none 3 := ⟨tb_588, tb_90, by decide +kernel, by decide +kernel⟩
theorem kX1_putStrictOrder : tbM yX1_putStrictOrder cX1_putStrictOrder 4 none 2 := ⟨tb_1028, tb_91, by decide +kernel, by decide +kernel⟩
theorem kX7_packed : tbM yX7_packed cX7_packed 4 (some .int) 2 := ⟨tb_1032, tb_90, by decide +kernel, by decide +kernel⟩
theorem kX7_lie : tbM yX7_lie cX7_lie 5 (some .int) 1 := ⟨tb_1022, tb_90, by decide +kernel, by decide +kernel⟩
theorem kX7_tradePays : tbM yX7_tradePays cX7_tradePays 7 (some .boolean) 3 := ⟨tb_1044, tb_90, by decide +kernel, by decide +kernel⟩
theorem kX7_trades : tbM yX7_trades cX7_trades 7 (some .int) 1 := ⟨tb_1039, tb_90, by decide +kernel, by decide +kernel⟩
def wX5_bestStrike_L10 (b0 : Nat) (b1 : Nat) (z2 : Int32) (z3 : Int32) (K86 : Int32 → Int32 → Int32 → hsS → Prop) (post : Int32 → hsS → Prop) : Nat → Int32 → Int32 → Int32 → hsS → Prop
  | 0, _, _, _, _ => False
  | n + 1, y4, y5, y6, σ => (((σ.1 (64 * b1 + 0)) ≤ y6 → K86 y4 y5 y6 σ) ∧ (¬ (σ.1 (64 * b1 + 0)) ≤ y6 → ((((z3 >>> (y6 &&& 31)) &&& (1 : Int32)) = (1 : Int32) → vp_in (z3 &&& (((1 : Int32) <<< (y6 &&& 31)) ^^^ (-1 : Int32))) 512 ∧ ∀ v3 : Int32, v3 = σ.2.1 (b0 + 1) (z3 &&& (((1 : Int32) <<< (y6 &&& 31)) ^^^ (-1 : Int32))).toNatClampNeg → wX1_greatestPlace b1 z2 v3 (fun r4 σ5 => wX1_sumOfPlaces b1 z2 v3 (fun r6 σ7 => ∀ v8 : Int32, v8 = (r4 * (1000 : Int32)) + r6 → ((y5 ≤ v8 → ∀ v10 : Int32, v10 = y6 + (1 : Int32) → wX5_bestStrike_L10 b0 b1 z2 z3 K86 post n y4 y5 v10 σ7) ∧ (¬ y5 ≤ v8 → ∀ v11 : Int32, v11 = y6 + (1 : Int32) → wX5_bestStrike_L10 b0 b1 z2 z3 K86 post n y6 v8 v11 σ7))) σ5) σ) ∧ (¬ ((z3 >>> (y6 &&& 31)) &&& (1 : Int32)) = (1 : Int32) → ∀ v12 : Int32, v12 = y6 + (1 : Int32) → wX5_bestStrike_L10 b0 b1 z2 z3 K86 post n y4 y5 v12 σ))))
def wX5_bestStrike (b0 : Nat) (b1 : Nat) (x2 : Int32) (x3 : Int32) (post : Int32 → hsS → Prop) (σ : hsS) : Prop := ∃ n13, wX5_bestStrike_L10 b0 b1 x2 x3 (fun v14 v15 v16 σ17 => post v14 σ17) post n13 (0 : Int32) (1000000 : Int32) (0 : Int32) σ
set_option maxHeartbeats 4000000 in
set_option maxRecDepth 100000 in
theorem kcX5_bestStrike_21_1 (l : Launch) (D : va_G) (c : Nat → ClassId) (q : Nat → Nat) (ev : State → Heap → Prop) (hev : evOK (wdA 36 q) ev) (σ : hsS) (x2 : Int32) (x3 : Int32) (post : Int32 → hsS → Prop) (hw : wX5_bestStrike 21 1 x2 x3 post σ) : Met l yX5_bestStrike (Cond.code yX5_bestStrike cX5_bestStrike 9 (some .int) :: tb_L) { frames := 2, cells := 0, slots := 0, locals := 64 } (wdPc D (xw c q) (xwT c) (wdA 36 q) ev σ [.ref (q 21), .ref (q 1), .int x2, .int x3]) (va_Qi post (wdB D (xw c q)) (wdA 36 q)) 0 0 (wdA 36 q) := by
  refine Met.ofW (cc := cX5_bestStrike) (maxL := 9) (ret := (some .int)) (by decide) rfl ?_
  intro p e s m args below meth c₀ s₁ Bd hml hv
  obtain ⟨rfl, hP, hK, hD0, hE⟩ := hv
  have hx := Bd.exec
  have hb := Bd.bytes
  have hr := Bd.returns
  have hts := atoms_spec (ws := Cond.code yX5_bestStrike cX5_bestStrike 9 (some .int) :: tb_L) Bd.pre
  have htb : ∀ w ∈ tb_L, w.before [.ref (q 21), .ref (q 1), .int x2, .int x3].toArray s = true := fun w h => hts w (List.mem_cons_of_mem _ h)
  have hown : s.vm.findClass RX5 = some m.cls := findClass_of_methodNamed Bd.named
  have hlocks := Bd.notSynchronized
  have hS : va_S (wdA 36 q) s.heap s.heap [] := va_S.rf
  have hD := hD0
  have L10 : ∀ (K86 : Int32 → Int32 → Int32 → hsS → Prop) (z2 : Int32) (z3 : Int32) (n : Nat) (y4 : Int32) (y5 : Int32) (y6 : Int32) (σ : hsS) (H : Heap) (locs : List Loc) (ls : Array Slot), wX5_bestStrike_L10 21 1 z2 z3 K86 post n y4 y5 y6 σ → (∀ (y4 : Int32) (y5 : Int32) (y6 : Int32) (σ : hsS) (H : Heap) (locs : List Loc) (ls : Array Slot), K86 y4 y5 y6 σ → va_P D vwCl (xw c q σ) H → va_S (wdA 36 q) s.heap H locs → lv_has ls 9 [(0, .ref (q 21)), (1, .ref (q 1)), (2, .int z2), (3, .int z3), (4, .int y4), (5, .int y5), (6, .int y6)] → W p l e (headSpec (Cond.code yX5_bestStrike cX5_bestStrike 9 (some .int) :: tb_L) { frames := 2, cells := 0, slots := 0, locals := 64 }).room s m [.ref (q 21), .ref (q 1), .int x2, .int x3].toArray below meth c₀ H locs 0 0 (MQ below (va_Qi post (wdB D (xw c q)) (wdA 36 q)) [.ref (q 21), .ref (q 1), .int x2, .int x3].toArray s 0 0 (wdA 36 q)) (F0 m 86 ls [])) → va_P D vwCl (xw c q σ) H → va_S (wdA 36 q) s.heap H locs → lv_has ls 9 [(0, .ref (q 21)), (1, .ref (q 1)), (2, .int z2), (3, .int z3), (4, .int y4), (5, .int y5), (6, .int y6)] → W p l e (headSpec (Cond.code yX5_bestStrike cX5_bestStrike 9 (some .int) :: tb_L) { frames := 2, cells := 0, slots := 0, locals := 64 }).room s m [.ref (q 21), .ref (q 1), .int x2, .int x3].toArray below meth c₀ H locs 0 0 (MQ below (va_Qi post (wdB D (xw c q)) (wdA 36 q)) [.ref (q 21), .ref (q 1), .int x2, .int x3].toArray s 0 0 (wdA 36 q)) (F0 m 10 ls []) := by
    intro K86 z2 z3 n
    induction n with
    | zero =>
      intro y4 y5 y6 σ H locs ls hw hk86 hP hS hl
      exact (show False from hw).elim
    | succ n ih =>
      intro y4 y5 y6 σ H locs ls hw hk86 hP hS hl
      rw [wX5_bestStrike_L10] at hw
      have hD : va_D (wdA 36 q) (xw c q σ) := xw_D hD0
      refine lv_iload hx hb dX5_bestStrike_10 (lv_at hl 6 rfl) ?_
      refine lv_aload_n hx hb dX5_bestStrike_12 rfl (lv_at hl 1 rfl) ?_
      refine va_getN (D := D) (ci := 1) (C := RX1) (T := TX1) (N := 12) hx hb htb inX1 hown hK hP 1 (xw_1 c q σ) rfl 0 (by decide) (htb _ tb_128) (fun _ h9 => h9) rfl dX5_bestStrike_13 ?_
      refine lv_icmp_ge (tgt := 86) hx hb dX5_bestStrike_16 (by decide) (fun c1 => ?_) (fun c1 => ?_)
      · have hw := hw.1 c1
        exact hk86 y4 y5 y6 σ _ _ _ hw hP hS (lv_sub hl [0, 1, 2, 3, 4, 5, 6] rfl)
      · have hw := hw.2 c1
        refine lv_iload_n hx hb dX5_bestStrike_19 rfl (lv_at hl 3 rfl) ?_
        refine lv_iload hx hb dX5_bestStrike_20 (lv_at hl 6 rfl) ?_
        refine lv_ishr hx hb dX5_bestStrike_22 ?_
        refine lv_iconst (v := (1 : Int32)) hx hb dX5_bestStrike_23 (by decide) ?_
        refine lv_iand hx hb dX5_bestStrike_24 ?_
        refine lv_iconst (v := (1 : Int32)) hx hb dX5_bestStrike_25 (by decide) ?_
        refine lv_icmp_ne (tgt := 80) hx hb dX5_bestStrike_26 (by decide) (fun c2 => ?_) (fun c2 => ?_)
        · have hw := hw.2 c2
          obtain ⟨v12, ev12⟩ : ∃ z : Int32, z = y6 + (1 : Int32) := ⟨_, rfl⟩
          have hw := hw v12 ev12
          refine lv_iinc (v := v12) (lv' := [(6, .int v12), (0, .ref (q 21)), (1, .ref (q 1)), (2, .int z2), (3, .int z3), (4, .int y4), (5, .int y5)]) hx hb dX5_bestStrike_80 hl (k := 6) rfl (by rw [ev12]; rfl) (by decide) rfl (fun ls hl => ?_)
          refine lv_goto (tgt := 10) hx hb dX5_bestStrike_83 (by decide) ?_
          exact ih y4 y5 v12 σ _ _ _ hw hk86 hP hS (lv_sub hl [1, 2, 3, 4, 5, 6, 0] rfl)
        · have hw := hw.1 c2
          refine lv_aload_n hx hb dX5_bestStrike_29 rfl (lv_at hl 0 rfl) ?_
          refine va_get (D := D) (ci := 5) (C := RX5) (T := TX5) (N := 1) hx hb htb inX5 hown hK hP 21 (xw_21 c q σ) rfl 0 (by decide) (htb _ tb_255) (fun _ h9 => h9) rfl dX5_bestStrike_30 ?_
          refine lv_iload_n hx hb dX5_bestStrike_33 rfl (lv_at hl 3 rfl) ?_
          refine lv_iconst (v := (1 : Int32)) hx hb dX5_bestStrike_34 (by decide) ?_
          refine lv_iload hx hb dX5_bestStrike_35 (lv_at hl 6 rfl) ?_
          refine lv_ishl hx hb dX5_bestStrike_37 ?_
          refine lv_iconst (v := (-1 : Int32)) hx hb dX5_bestStrike_38 (by decide) ?_
          refine lv_ixor hx hb dX5_bestStrike_39 ?_
          refine lv_iand hx hb dX5_bestStrike_40 ?_
          refine va_iald hx hb hK hP 22 15 (xw_22 c q σ) rfl hw.1 dX5_bestStrike_41 ?_
          have hw := hw.2
          refine lv_topi (fun v3 ev3 => ?_)
          have hw := hw v3 ev3
          refine lv_istore (lv' := [(7, .int v3), (0, .ref (q 21)), (1, .ref (q 1)), (2, .int z2), (3, .int z3), (4, .int y4), (5, .int y5), (6, .int y6)]) hx hb dX5_bestStrike_42 hl (by decide) rfl (fun ls hl => ?_)
          refine lv_aload_n hx hb dX5_bestStrike_44 rfl (lv_at hl 2 rfl) ?_
          refine lv_iload_n hx hb dX5_bestStrike_45 rfl (lv_at hl 3 rfl) ?_
          refine lv_iload hx hb dX5_bestStrike_46 (lv_at hl 0 rfl) ?_
          refine va_calli (va_runV (As := [.int z2, .int v3]) (rest := []) ⟨hx, hb, hml, hown, htb⟩ (kcX1_greatestPlace_1 l D c q ev hev σ z2 v3 _ hw) (tb_CW htb kX1_greatestPlace tb_490 tb_491 tb_492 ⟨Nat.le_of_ble_eq_true rfl, Nat.le_of_ble_eq_true rfl⟩) (wd_preV (wd := xw c q) (k := 1) hev hK hP hD hE hS (xw_1 c q σ) rfl) rfl rfl hl.1 rfl (lv_room (Nat.le_of_ble_eq_true rfl)) dX5_bestStrike_48 ⟨Nat.zero_le _, Nat.zero_le _⟩) hS (fun q _ h => h) (fun q h => h) (fun r4 σ5 t H1 locs1 ht hvm hw hB hz1 hk1 hS => ?_)
          have hP : va_P D vwCl (xw c q σ5) H1 := ht ▸ hB
          have hD : va_D (wdA 36 q) (xw c q σ5) := xw_D hD0
          refine lv_sipush (v := (1000 : Int32)) hx hb dX5_bestStrike_51 (by decide) ?_
          refine lv_imul hx hb dX5_bestStrike_54 ?_
          refine lv_aload_n hx hb dX5_bestStrike_55 rfl (lv_at hl 2 rfl) ?_
          refine lv_iload_n hx hb dX5_bestStrike_56 rfl (lv_at hl 3 rfl) ?_
          refine lv_iload hx hb dX5_bestStrike_57 (lv_at hl 0 rfl) ?_
          refine va_calli (va_runV (As := [.int z2, .int v3]) (rest := [.int (r4 * (1000 : Int32))]) ⟨hx, hb, hml, hown, htb⟩ (kcX1_sumOfPlaces_1 l D c q ev hev σ5 z2 v3 _ hw) (tb_CW htb kX1_sumOfPlaces tb_497 tb_498 tb_499 ⟨Nat.le_of_ble_eq_true rfl, Nat.le_of_ble_eq_true rfl⟩) (wd_preV (wd := xw c q) (k := 1) hev hK hP hD hE hS (xw_1 c q σ5) rfl) rfl rfl hl.1 rfl (lv_room (Nat.le_of_ble_eq_true rfl)) dX5_bestStrike_59 ⟨Nat.zero_le _, Nat.zero_le _⟩) hS (fun q _ h => h) (fun q h => h) (fun r6 σ7 t H1 locs1 ht hvm hw hB hz1 hk1 hS => ?_)
          have hP : va_P D vwCl (xw c q σ7) H1 := ht ▸ hB
          have hD : va_D (wdA 36 q) (xw c q σ7) := xw_D hD0
          refine lv_iadd hx hb dX5_bestStrike_62 ?_
          refine lv_topi (fun v8 ev8 => ?_)
          have hw := hw v8 ev8
          refine lv_istore (lv' := [(8, .int v8), (7, .int v3), (0, .ref (q 21)), (1, .ref (q 1)), (2, .int z2), (3, .int z3), (4, .int y4), (5, .int y5), (6, .int y6)]) hx hb dX5_bestStrike_63 hl (by decide) rfl (fun ls hl => ?_)
          refine lv_iload hx hb dX5_bestStrike_65 (lv_at hl 0 rfl) ?_
          refine lv_iload hx hb dX5_bestStrike_67 (lv_at hl 7 rfl) ?_
          refine lv_icmp_ge (tgt := 80) hx hb dX5_bestStrike_69 (by decide) (fun c9 => ?_) (fun c9 => ?_)
          · have hw := hw.1 c9
            obtain ⟨v10, ev10⟩ : ∃ z : Int32, z = y6 + (1 : Int32) := ⟨_, rfl⟩
            have hw := hw v10 ev10
            refine lv_iinc (v := v10) (lv' := [(6, .int v10), (8, .int v8), (7, .int v3), (0, .ref (q 21)), (1, .ref (q 1)), (2, .int z2), (3, .int z3), (4, .int y4), (5, .int y5)]) hx hb dX5_bestStrike_80 hl (k := 8) rfl (by rw [ev10]; rfl) (by decide) rfl (fun ls hl => ?_)
            refine lv_goto (tgt := 10) hx hb dX5_bestStrike_83 (by decide) ?_
            exact ih y4 y5 v10 σ7 _ _ _ hw hk86 hP hS (lv_sub hl [3, 4, 5, 6, 7, 8, 0] rfl)
          · have hw := hw.2 c9
            refine lv_iload hx hb dX5_bestStrike_72 (lv_at hl 0 rfl) ?_
            refine lv_istore (lv' := [(5, .int v8), (8, .int v8), (7, .int v3), (0, .ref (q 21)), (1, .ref (q 1)), (2, .int z2), (3, .int z3), (4, .int y4), (6, .int y6)]) hx hb dX5_bestStrike_74 hl (by decide) rfl (fun ls hl => ?_)
            refine lv_iload hx hb dX5_bestStrike_76 (lv_at hl 8 rfl) ?_
            refine lv_istore (lv' := [(4, .int y6), (5, .int v8), (8, .int v8), (7, .int v3), (0, .ref (q 21)), (1, .ref (q 1)), (2, .int z2), (3, .int z3), (6, .int y6)]) hx hb dX5_bestStrike_78 hl (by decide) rfl (fun ls hl => ?_)
            obtain ⟨v11, ev11⟩ : ∃ z : Int32, z = y6 + (1 : Int32) := ⟨_, rfl⟩
            have hw := hw v11 ev11
            refine lv_iinc (v := v11) (lv' := [(6, .int v11), (4, .int y6), (5, .int v8), (8, .int v8), (7, .int v3), (0, .ref (q 21)), (1, .ref (q 1)), (2, .int z2), (3, .int z3)]) hx hb dX5_bestStrike_80 hl (k := 8) rfl (by rw [ev11]; rfl) (by decide) rfl (fun ls hl => ?_)
            refine lv_goto (tgt := 10) hx hb dX5_bestStrike_83 (by decide) ?_
            exact ih y6 v8 v11 σ7 _ _ _ hw hk86 hP hS (lv_sub hl [5, 6, 7, 8, 1, 2, 0] rfl)
  have hl := lv_entry ([.ref (q 21), .ref (q 1), .int x2, .int x3]) (n := 9) (Nat.le_of_ble_eq_true rfl)
  rw [lg_entry_eq]
  generalize (lg_sl ([.ref (q 21), .ref (q 1), .int x2, .int x3]) ++ List.replicate (9 - (lg_sl ([.ref (q 21), .ref (q 1), .int x2, .int x3])).length) Slot.unset).toArray = ls at hl ⊢
  have hl : lv_has ls 9 [(0, .ref (q 21)), (1, .ref (q 1)), (2, .int x2), (3, .int x3)] := hl
  unfold wX5_bestStrike at hw
  refine lv_iconst (v := (0 : Int32)) hx hb dX5_bestStrike_0 (by decide) ?_
  refine lv_istore (lv' := [(4, .int (0 : Int32)), (0, .ref (q 21)), (1, .ref (q 1)), (2, .int x2), (3, .int x3)]) hx hb dX5_bestStrike_1 hl (by decide) rfl (fun ls hl => ?_)
  refine lv_ldc hx hb hown (htb _ tb_489) dX5_bestStrike_3 ?_
  refine lv_istore (lv' := [(5, .int (1000000 : Int32)), (4, .int (0 : Int32)), (0, .ref (q 21)), (1, .ref (q 1)), (2, .int x2), (3, .int x3)]) hx hb dX5_bestStrike_5 hl (by decide) rfl (fun ls hl => ?_)
  refine lv_iconst (v := (0 : Int32)) hx hb dX5_bestStrike_7 (by decide) ?_
  refine lv_istore (lv' := [(6, .int (0 : Int32)), (5, .int (1000000 : Int32)), (4, .int (0 : Int32)), (0, .ref (q 21)), (1, .ref (q 1)), (2, .int x2), (3, .int x3)]) hx hb dX5_bestStrike_8 hl (by decide) rfl (fun ls hl => ?_)
  obtain ⟨n13, hw⟩ := hw
  refine L10 _ x2 x3 n13 (0 : Int32) (1000000 : Int32) (0 : Int32) σ _ _ _ hw ?_ hP hS (lv_sub hl [3, 4, 5, 6, 2, 1, 0] rfl)
  intro v14 v15 v16 σ17 H locs ls hw hP hS hl
  have hD : va_D (wdA 36 q) (xw c q σ17) := xw_D hD0
  refine lv_iload hx hb dX5_bestStrike_86 (lv_at hl 4 rfl) ?_
  exact W.iret hx hb hr (fun t ht hW => ⟨⟨_, σ17, rfl, hw, by unfold wdB; rw [ht]; exact hP⟩, hS.F ht⟩) hS.2.2 dX5_bestStrike_88
def wX5_lookBack_L17 (b0 : Nat) (b1 : Nat) (z2 : Int32) (K92 : Int32 → hsS → Prop) (post : hsS → Prop) : Nat → Int32 → hsS → Prop
  | 0, _, _ => False
  | n + 1, y3, σ => ((z2 < y3 → K92 y3 σ) ∧ (¬ z2 < y3 → wJ6_bitCount_0f7a4 y3 (fun r5 σ6 => ∀ v7 : Int32, v7 = (σ.1 (64 * b1 + 0)) - r5 → ((v7 < (σ6.1 (64 * b1 + 6)) → vp_in v7 8 ∧ wX5_bestStrike b0 b1 (σ6.2.1 (b1 + 4) v7.toNatClampNeg) y3 (fun r9 σ10 => vp_in (y3 &&& (((1 : Int32) <<< (r9 &&& 31)) ^^^ (-1 : Int32))) 512 ∧ vp_in y3 512 ∧ ∀ σ11 : hsS, σ11 = hsA σ10 (b0 + 1) (upd (σ10.2.1 (b0 + 1)) y3.toNatClampNeg (σ10.2.1 (b0 + 1) (y3 &&& (((1 : Int32) <<< (r9 &&& 31)) ^^^ (-1 : Int32))).toNatClampNeg)) → ∀ v12 : Int32, v12 = y3 + (1 : Int32) → wX5_lookBack_L17 b0 b1 z2 K92 post n v12 σ11) σ6) ∧ (¬ v7 < (σ6.1 (64 * b1 + 6)) → vp_in y3 512 ∧ ∀ σ13 : hsS, σ13 = hsA σ6 (b0 + 1) (upd (σ6.2.1 (b0 + 1)) y3.toNatClampNeg y3) → ∀ v14 : Int32, v14 = y3 + (1 : Int32) → wX5_lookBack_L17 b0 b1 z2 K92 post n v14 σ13))) σ))
def wX5_lookBack (b0 : Nat) (b1 : Nat) (post : hsS → Prop) (σ : hsS) : Prop := wX1_allThings b1 (fun r1 σ2 => ∀ v3 : Int32, v3 = (if ((512 : Int32) - (1 : Int32)) < r1 then ((512 : Int32) - (1 : Int32)) else r1) → ∃ n15, wX5_lookBack_L17 b0 b1 v3 (fun v16 σ17 => post σ17) post n15 (1 : Int32) σ2) σ
set_option maxHeartbeats 4000000 in
set_option maxRecDepth 100000 in
theorem kcX5_lookBack_21_1 (l : Launch) (D : va_G) (c : Nat → ClassId) (q : Nat → Nat) (ev : State → Heap → Prop) (hev : evOK (wdA 36 q) ev) (σ : hsS)  (post : hsS → Prop) (hw : wX5_lookBack 21 1 post σ) : Met l yX5_lookBack (Cond.code yX5_lookBack cX5_lookBack 6 none :: tb_L) { frames := 3, cells := 0, slots := 0, locals := 92 } (wdPc D (xw c q) (xwT c) (wdA 36 q) ev σ [.ref (q 21), .ref (q 1)]) (va_Qv post (wdB D (xw c q)) (wdA 36 q)) 0 0 (wdA 36 q) := by
  refine Met.ofW (cc := cX5_lookBack) (maxL := 6) (ret := none) (by decide) rfl ?_
  intro p e s m args below meth c₀ s₁ Bd hml hv
  obtain ⟨rfl, hP, hK, hD0, hE⟩ := hv
  have hx := Bd.exec
  have hb := Bd.bytes
  have hr := Bd.returns
  have hts := atoms_spec (ws := Cond.code yX5_lookBack cX5_lookBack 6 none :: tb_L) Bd.pre
  have htb : ∀ w ∈ tb_L, w.before [.ref (q 21), .ref (q 1)].toArray s = true := fun w h => hts w (List.mem_cons_of_mem _ h)
  have hown : s.vm.findClass RX5 = some m.cls := findClass_of_methodNamed Bd.named
  have hlocks := Bd.notSynchronized
  have hS : va_S (wdA 36 q) s.heap s.heap [] := va_S.rf
  have hD := hD0
  have L17 : ∀ (K92 : Int32 → hsS → Prop) (z2 : Int32) (n : Nat) (y3 : Int32) (σ : hsS) (H : Heap) (locs : List Loc) (ls : Array Slot), wX5_lookBack_L17 21 1 z2 K92 post n y3 σ → (∀ (y3 : Int32) (σ : hsS) (H : Heap) (locs : List Loc) (ls : Array Slot), K92 y3 σ → va_P D vwCl (xw c q σ) H → va_S (wdA 36 q) s.heap H locs → lv_has ls 6 [(0, .ref (q 21)), (1, .ref (q 1)), (2, .int z2), (3, .int y3)] → W p l e (headSpec (Cond.code yX5_lookBack cX5_lookBack 6 none :: tb_L) { frames := 3, cells := 0, slots := 0, locals := 92 }).room s m [.ref (q 21), .ref (q 1)].toArray below meth c₀ H locs 0 0 (MQ below (va_Qv post (wdB D (xw c q)) (wdA 36 q)) [.ref (q 21), .ref (q 1)].toArray s 0 0 (wdA 36 q)) (F0 m 92 ls [])) → va_P D vwCl (xw c q σ) H → va_S (wdA 36 q) s.heap H locs → lv_has ls 6 [(0, .ref (q 21)), (1, .ref (q 1)), (2, .int z2), (3, .int y3)] → W p l e (headSpec (Cond.code yX5_lookBack cX5_lookBack 6 none :: tb_L) { frames := 3, cells := 0, slots := 0, locals := 92 }).room s m [.ref (q 21), .ref (q 1)].toArray below meth c₀ H locs 0 0 (MQ below (va_Qv post (wdB D (xw c q)) (wdA 36 q)) [.ref (q 21), .ref (q 1)].toArray s 0 0 (wdA 36 q)) (F0 m 17 ls []) := by
    intro K92 z2 n
    induction n with
    | zero =>
      intro y3 σ H locs ls hw hk92 hP hS hl
      exact (show False from hw).elim
    | succ n ih =>
      intro y3 σ H locs ls hw hk92 hP hS hl
      rw [wX5_lookBack_L17] at hw
      have hD : va_D (wdA 36 q) (xw c q σ) := xw_D hD0
      refine lv_iload_n hx hb dX5_lookBack_17 rfl (lv_at hl 3 rfl) ?_
      refine lv_iload_n hx hb dX5_lookBack_18 rfl (lv_at hl 2 rfl) ?_
      refine lv_icmp_gt (tgt := 92) hx hb dX5_lookBack_19 (by decide) (fun c4 => ?_) (fun c4 => ?_)
      · have hw := hw.1 c4
        exact hk92 y3 σ _ _ _ hw hP hS (lv_sub hl [0, 1, 2, 3] rfl)
      · have hw := hw.2 c4
        refine lv_aload_n hx hb dX5_lookBack_22 rfl (lv_at hl 1 rfl) ?_
        refine va_getN (D := D) (ci := 1) (C := RX1) (T := TX1) (N := 12) hx hb htb inX1 hown hK hP 1 (xw_1 c q σ) rfl 0 (by decide) (htb _ tb_128) (fun _ h9 => h9) rfl dX5_lookBack_23 ?_
        refine lv_iload_n hx hb dX5_lookBack_26 rfl (lv_at hl 3 rfl) ?_
        refine va_calli (va_runS (As := [.int y3]) (rest := [.int (σ.1 64)]) ⟨hx, hb, hml, hown, htb⟩ (kcJ6_bitCount_0f7a4_x l D c q ev hev σ y3 _ hw) (tb_CS htb kJ6_bitCount_0f7a4 tb_484 tb_407 ⟨Nat.le_of_ble_eq_true rfl, Nat.le_of_ble_eq_true rfl⟩) (wd_preS (wd := xw c q) hev hK hP hD hE hS) rfl rfl hl.1 rfl (lv_room (Nat.le_of_ble_eq_true rfl)) dX5_lookBack_27 ⟨Nat.zero_le _, Nat.zero_le _⟩) hS (fun q _ h => h) (fun q h => h) (fun r5 σ6 t H1 locs1 ht hvm hw hB hz1 hk1 hS => ?_)
        have hP : va_P D vwCl (xw c q σ6) H1 := ht ▸ hB
        have hD : va_D (wdA 36 q) (xw c q σ6) := xw_D hD0
        refine lv_isub hx hb dX5_lookBack_30 ?_
        refine lv_topi (fun v7 ev7 => ?_)
        have hw := hw v7 ev7
        refine lv_istore (lv' := [(4, .int v7), (0, .ref (q 21)), (1, .ref (q 1)), (2, .int z2), (3, .int y3)]) hx hb dX5_lookBack_31 hl (by decide) rfl (fun ls hl => ?_)
        refine lv_iload hx hb dX5_lookBack_33 (lv_at hl 0 rfl) ?_
        refine lv_aload_n hx hb dX5_lookBack_35 rfl (lv_at hl 2 rfl) ?_
        refine va_getN (D := D) (ci := 1) (C := RX1) (T := TX1) (N := 12) hx hb htb inX1 hown hK hP 1 (xw_1 c q σ6) rfl 6 (by decide) (htb _ tb_149) (fun _ h9 => h9) rfl dX5_lookBack_36 ?_
        refine lv_icmp_lt (tgt := 52) hx hb dX5_lookBack_39 (by decide) (fun c8 => ?_) (fun c8 => ?_)
        · have hw := hw.1 c8
          refine lv_aload_n hx hb dX5_lookBack_52 rfl (lv_at hl 1 rfl) ?_
          refine lv_aload_n hx hb dX5_lookBack_53 rfl (lv_at hl 2 rfl) ?_
          refine lv_aload_n hx hb dX5_lookBack_54 rfl (lv_at hl 2 rfl) ?_
          refine va_getN (D := D) (ci := 1) (C := RX1) (T := TX1) (N := 12) hx hb htb inX1 hown hK hP 1 (xw_1 c q σ6) rfl 11 (by decide) (htb _ tb_162) (fun _ h9 => h9) rfl dX5_lookBack_55 ?_
          refine lv_iload hx hb dX5_lookBack_58 (lv_at hl 0 rfl) ?_
          refine va_iald hx hb hK hP 5 3 (xw_5 c q σ6) rfl hw.1 dX5_lookBack_60 ?_
          have hw := hw.2
          refine lv_iload_n hx hb dX5_lookBack_61 rfl (lv_at hl 4 rfl) ?_
          refine va_calli (va_runV (As := [.ref (q 1), .int (σ6.2.1 5 v7.toNatClampNeg), .int y3]) (rest := []) ⟨hx, hb, hml, hown, htb⟩ (kcX5_bestStrike_21_1 l D c q ev hev σ6 (σ6.2.1 5 v7.toNatClampNeg) y3 _ hw) (tb_CW htb kX5_bestStrike tb_485 tb_487 tb_2 ⟨Nat.le_of_ble_eq_true rfl, Nat.le_of_ble_eq_true rfl⟩) (wd_preV (wd := xw c q) (k := 21) hev hK hP hD hE hS (xw_21 c q σ6) rfl) rfl rfl hl.1 rfl (lv_room (Nat.le_of_ble_eq_true rfl)) dX5_lookBack_62 ⟨Nat.zero_le _, Nat.zero_le _⟩) hS (fun q _ h => h) (fun q h => h) (fun r9 σ10 t H1 locs1 ht hvm hw hB hz1 hk1 hS => ?_)
          have hP : va_P D vwCl (xw c q σ10) H1 := ht ▸ hB
          have hD : va_D (wdA 36 q) (xw c q σ10) := xw_D hD0
          refine lv_istore (lv' := [(5, .int r9), (4, .int v7), (0, .ref (q 21)), (1, .ref (q 1)), (2, .int z2), (3, .int y3)]) hx hb dX5_lookBack_65 hl (by decide) rfl (fun ls hl => ?_)
          refine lv_aload_n hx hb dX5_lookBack_67 rfl (lv_at hl 2 rfl) ?_
          refine va_get (D := D) (ci := 5) (C := RX5) (T := TX5) (N := 1) hx hb htb inX5 hown hK hP 21 (xw_21 c q σ10) rfl 0 (by decide) (htb _ tb_255) (fun _ h9 => h9) rfl dX5_lookBack_68 ?_
          refine lv_iload_n hx hb dX5_lookBack_71 rfl (lv_at hl 5 rfl) ?_
          refine lv_aload_n hx hb dX5_lookBack_72 rfl (lv_at hl 2 rfl) ?_
          refine va_get (D := D) (ci := 5) (C := RX5) (T := TX5) (N := 1) hx hb htb inX5 hown hK hP 21 (xw_21 c q σ10) rfl 0 (by decide) (htb _ tb_255) (fun _ h9 => h9) rfl dX5_lookBack_73 ?_
          refine lv_iload_n hx hb dX5_lookBack_76 rfl (lv_at hl 5 rfl) ?_
          refine lv_iconst (v := (1 : Int32)) hx hb dX5_lookBack_77 (by decide) ?_
          refine lv_iload hx hb dX5_lookBack_78 (lv_at hl 0 rfl) ?_
          refine lv_ishl hx hb dX5_lookBack_80 ?_
          refine lv_iconst (v := (-1 : Int32)) hx hb dX5_lookBack_81 (by decide) ?_
          refine lv_ixor hx hb dX5_lookBack_82 ?_
          refine lv_iand hx hb dX5_lookBack_83 ?_
          refine va_iald hx hb hK hP 22 15 (xw_22 c q σ10) rfl hw.1 dX5_lookBack_84 ?_
          have hw := hw.2
          refine va_iast hx hb hK hP hD hS 22 15 (xw_22 c q σ10) rfl hw.1 dX5_lookBack_85 (fun H locs hP hD hS => ?_)
          have hw := hw.2
          have hP : va_P D vwCl (xw c q (hsA σ10 22 (upd (σ10.2.1 22) y3.toNatClampNeg (σ10.2.1 22 (y3 &&& (((1 : Int32) <<< (r9 &&& 31)) ^^^ (-1 : Int32))).toNatClampNeg)))) H := hP
          obtain ⟨σ11, eσ11⟩ : ∃ z : hsS, z = hsA σ10 22 (upd (σ10.2.1 22) y3.toNatClampNeg (σ10.2.1 22 (y3 &&& (((1 : Int32) <<< (r9 &&& 31)) ^^^ (-1 : Int32))).toNatClampNeg)) := ⟨_, rfl⟩
          rw [← eσ11] at hP
          have hD : va_D (wdA 36 q) (xw c q σ11) := xw_D hD0
          have hw := hw σ11 eσ11
          obtain ⟨v12, ev12⟩ : ∃ z : Int32, z = y3 + (1 : Int32) := ⟨_, rfl⟩
          have hw := hw v12 ev12
          refine lv_iinc (v := v12) (lv' := [(3, .int v12), (5, .int r9), (4, .int v7), (0, .ref (q 21)), (1, .ref (q 1)), (2, .int z2)]) hx hb dX5_lookBack_86 hl (k := 5) rfl (by rw [ev12]; rfl) (by decide) rfl (fun ls hl => ?_)
          refine lv_goto (tgt := 17) hx hb dX5_lookBack_89 (by decide) ?_
          exact ih v12 σ11 _ _ _ hw hk92 hP hS (lv_sub hl [3, 4, 5, 0] rfl)
        · have hw := hw.2 c8
          refine lv_aload_n hx hb dX5_lookBack_42 rfl (lv_at hl 1 rfl) ?_
          refine va_get (D := D) (ci := 5) (C := RX5) (T := TX5) (N := 1) hx hb htb inX5 hown hK hP 21 (xw_21 c q σ6) rfl 0 (by decide) (htb _ tb_255) (fun _ h9 => h9) rfl dX5_lookBack_43 ?_
          refine lv_iload_n hx hb dX5_lookBack_46 rfl (lv_at hl 4 rfl) ?_
          refine lv_iload_n hx hb dX5_lookBack_47 rfl (lv_at hl 4 rfl) ?_
          refine va_iast hx hb hK hP hD hS 22 15 (xw_22 c q σ6) rfl hw.1 dX5_lookBack_48 (fun H locs hP hD hS => ?_)
          have hw := hw.2
          have hP : va_P D vwCl (xw c q (hsA σ6 22 (upd (σ6.2.1 22) y3.toNatClampNeg y3))) H := hP
          obtain ⟨σ13, eσ13⟩ : ∃ z : hsS, z = hsA σ6 22 (upd (σ6.2.1 22) y3.toNatClampNeg y3) := ⟨_, rfl⟩
          rw [← eσ13] at hP
          have hD : va_D (wdA 36 q) (xw c q σ13) := xw_D hD0
          have hw := hw σ13 eσ13
          refine lv_goto (tgt := 86) hx hb dX5_lookBack_49 (by decide) ?_
          obtain ⟨v14, ev14⟩ : ∃ z : Int32, z = y3 + (1 : Int32) := ⟨_, rfl⟩
          have hw := hw v14 ev14
          refine lv_iinc (v := v14) (lv' := [(3, .int v14), (4, .int v7), (0, .ref (q 21)), (1, .ref (q 1)), (2, .int z2)]) hx hb dX5_lookBack_86 hl (k := 4) rfl (by rw [ev14]; rfl) (by decide) rfl (fun ls hl => ?_)
          refine lv_goto (tgt := 17) hx hb dX5_lookBack_89 (by decide) ?_
          exact ih v14 σ13 _ _ _ hw hk92 hP hS (lv_sub hl [2, 3, 4, 0] rfl)
  have hl := lv_entry ([.ref (q 21), .ref (q 1)]) (n := 6) (Nat.le_of_ble_eq_true rfl)
  rw [lg_entry_eq]
  generalize (lg_sl ([.ref (q 21), .ref (q 1)]) ++ List.replicate (6 - (lg_sl ([.ref (q 21), .ref (q 1)])).length) Slot.unset).toArray = ls at hl ⊢
  have hl : lv_has ls 6 [(0, .ref (q 21)), (1, .ref (q 1))] := hl
  unfold wX5_lookBack at hw
  refine lv_aload_n hx hb dX5_lookBack_0 rfl (lv_at hl 1 rfl) ?_
  refine va_calli (va_runV (As := []) (rest := []) ⟨hx, hb, hml, hown, htb⟩ (kcX1_allThings_1 l D c q ev hev σ  _ hw) (tb_CW htb kX1_allThings tb_482 tb_438 tb_439 ⟨Nat.le_of_ble_eq_true rfl, Nat.le_of_ble_eq_true rfl⟩) (wd_preV (wd := xw c q) (k := 1) hev hK hP hD hE hS (xw_1 c q σ) rfl) rfl rfl hl.1 rfl (lv_room (Nat.le_of_ble_eq_true rfl)) dX5_lookBack_1 ⟨Nat.zero_le _, Nat.zero_le _⟩) hS (fun q _ h => h) (fun q h => h) (fun r1 σ2 t H1 locs1 ht hvm hw hB hz1 hk1 hS => ?_)
  have hP : va_P D vwCl (xw c q σ2) H1 := ht ▸ hB
  have hD : va_D (wdA 36 q) (xw c q σ2) := xw_D hD0
  refine lv_aload_n hx hb dX5_lookBack_4 rfl (lv_at hl 0 rfl) ?_
  refine va_get (D := D) (ci := 5) (C := RX5) (T := TX5) (N := 1) hx hb htb inX5 hown hK hP 21 (xw_21 c q σ2) rfl 0 (by decide) (htb _ tb_255) (fun _ h9 => h9) rfl dX5_lookBack_5 ?_
  refine va_alen (v := 512) (ty := .int) hx hb hK hP 22 15 (xw_22 c q σ2) rfl rfl dX5_lookBack_8 ?_
  refine lv_iconst (v := (1 : Int32)) hx hb dX5_lookBack_9 (by decide) ?_
  refine lv_isub hx hb dX5_lookBack_10 ?_
  refine va_mmin hx hb (hml.trans hl.1.symm) hown (htb _ tb_483) (htb _ tb_413) (htb _ tb_104) (htb _ tb_414) (Nat.le_of_ble_eq_true rfl) (Nat.le_of_ble_eq_true rfl) (Nat.zero_le _) (Nat.zero_le _) dX5_lookBack_11 ?_
  refine lv_topi (fun v3 ev3 => ?_)
  have hw := hw v3 ev3
  refine lv_istore_n (lv' := [(2, .int v3), (0, .ref (q 21)), (1, .ref (q 1))]) hx hb dX5_lookBack_14 rfl hl (by decide) rfl (fun ls hl => ?_)
  refine lv_iconst (v := (1 : Int32)) hx hb dX5_lookBack_15 (by decide) ?_
  refine lv_istore_n (lv' := [(3, .int (1 : Int32)), (2, .int v3), (0, .ref (q 21)), (1, .ref (q 1))]) hx hb dX5_lookBack_16 rfl hl (by decide) rfl (fun ls hl => ?_)
  obtain ⟨n15, hw⟩ := hw
  refine L17 _ v3 n15 (1 : Int32) σ2 _ _ _ hw ?_ hP hS (lv_sub hl [2, 3, 1, 0] rfl)
  intro v16 σ17 H locs ls hw hP hS hl
  have hD : va_D (wdA 36 q) (xw c q σ17) := xw_D hD0
  exact W.vret hx hb hr (fun t ht hW => ⟨⟨σ17, rfl, hw, by unfold wdB; rw [ht]; exact hP⟩, hS.F ht⟩) hS.2.2 dX5_lookBack_92
def wX5_endOf (b0 : Nat) (b1 : Nat) (post : Int32 → hsS → Prop) (σ : hsS) : Prop := wX5_lookBack b0 b1 (fun σ2 => wX1_allThings b1 (fun r3 σ4 => vp_in r3 512 ∧ post (σ4.2.1 (b0 + 1) r3.toNatClampNeg) σ4) σ2) σ
set_option maxHeartbeats 4000000 in
set_option maxRecDepth 100000 in
theorem kcX5_endOf_21_1 (l : Launch) (D : va_G) (c : Nat → ClassId) (q : Nat → Nat) (ev : State → Heap → Prop) (hev : evOK (wdA 36 q) ev) (σ : hsS)  (post : Int32 → hsS → Prop) (hw : wX5_endOf 21 1 post σ) : Met l yX5_endOf (Cond.code yX5_endOf cX5_endOf 2 (some .int) :: tb_L) { frames := 4, cells := 0, slots := 0, locals := 117 } (wdPc D (xw c q) (xwT c) (wdA 36 q) ev σ [.ref (q 21), .ref (q 1)]) (va_Qi post (wdB D (xw c q)) (wdA 36 q)) 0 0 (wdA 36 q) := by
  refine Met.ofW (cc := cX5_endOf) (maxL := 2) (ret := (some .int)) (by decide) rfl ?_
  intro p e s m args below meth c₀ s₁ Bd hml hv
  obtain ⟨rfl, hP, hK, hD0, hE⟩ := hv
  have hx := Bd.exec
  have hb := Bd.bytes
  have hr := Bd.returns
  have hts := atoms_spec (ws := Cond.code yX5_endOf cX5_endOf 2 (some .int) :: tb_L) Bd.pre
  have htb : ∀ w ∈ tb_L, w.before [.ref (q 21), .ref (q 1)].toArray s = true := fun w h => hts w (List.mem_cons_of_mem _ h)
  have hown : s.vm.findClass RX5 = some m.cls := findClass_of_methodNamed Bd.named
  have hlocks := Bd.notSynchronized
  have hS : va_S (wdA 36 q) s.heap s.heap [] := va_S.rf
  have hD := hD0
  have hl := lv_entry ([.ref (q 21), .ref (q 1)]) (n := 2) (Nat.le_of_ble_eq_true rfl)
  rw [lg_entry_eq]
  generalize (lg_sl ([.ref (q 21), .ref (q 1)]) ++ List.replicate (2 - (lg_sl ([.ref (q 21), .ref (q 1)])).length) Slot.unset).toArray = ls at hl ⊢
  have hl : lv_has ls 2 [(0, .ref (q 21)), (1, .ref (q 1))] := hl
  unfold wX5_endOf at hw
  refine lv_aload_n hx hb dX5_endOf_0 rfl (lv_at hl 0 rfl) ?_
  refine lv_aload_n hx hb dX5_endOf_1 rfl (lv_at hl 1 rfl) ?_
  refine va_callv (va_runV (As := [.ref (q 1)]) (rest := []) ⟨hx, hb, hml, hown, htb⟩ (kcX5_lookBack_21_1 l D c q ev hev σ  _ hw) (tb_CW htb kX5_lookBack tb_478 tb_480 tb_1 ⟨Nat.le_of_ble_eq_true rfl, Nat.le_of_ble_eq_true rfl⟩) (wd_preV (wd := xw c q) (k := 21) hev hK hP hD hE hS (xw_21 c q σ) rfl) rfl rfl hl.1 rfl (lv_room (Nat.le_of_ble_eq_true rfl)) dX5_endOf_2 ⟨Nat.zero_le _, Nat.zero_le _⟩) hS (fun q _ h => h) (fun q h => h) (fun σ2 t H1 locs1 ht hvm hw hB hz1 hk1 hS => ?_)
  have hP : va_P D vwCl (xw c q σ2) H1 := ht ▸ hB
  have hD : va_D (wdA 36 q) (xw c q σ2) := xw_D hD0
  refine lv_aload_n hx hb dX5_endOf_5 rfl (lv_at hl 0 rfl) ?_
  refine va_get (D := D) (ci := 5) (C := RX5) (T := TX5) (N := 1) hx hb htb inX5 hown hK hP 21 (xw_21 c q σ2) rfl 0 (by decide) (htb _ tb_255) (fun _ h9 => h9) rfl dX5_endOf_6 ?_
  refine lv_aload_n hx hb dX5_endOf_9 rfl (lv_at hl 1 rfl) ?_
  refine va_calli (va_runV (As := []) (rest := [.ref (q 22)]) ⟨hx, hb, hml, hown, htb⟩ (kcX1_allThings_1 l D c q ev hev σ2  _ hw) (tb_CW htb kX1_allThings tb_482 tb_438 tb_439 ⟨Nat.le_of_ble_eq_true rfl, Nat.le_of_ble_eq_true rfl⟩) (wd_preV (wd := xw c q) (k := 1) hev hK hP hD hE hS (xw_1 c q σ2) rfl) rfl rfl hl.1 rfl (lv_room (Nat.le_of_ble_eq_true rfl)) dX5_endOf_10 ⟨Nat.zero_le _, Nat.zero_le _⟩) hS (fun q _ h => h) (fun q h => h) (fun r3 σ4 t H1 locs1 ht hvm hw hB hz1 hk1 hS => ?_)
  have hP : va_P D vwCl (xw c q σ4) H1 := ht ▸ hB
  have hD : va_D (wdA 36 q) (xw c q σ4) := xw_D hD0
  refine va_iald hx hb hK hP 22 15 (xw_22 c q σ4) rfl hw.1 dX5_endOf_13 ?_
  have hw := hw.2
  exact W.iret hx hb hr (fun t ht hW => ⟨⟨_, σ4, rfl, hw, by unfold wdB; rw [ht]; exact hP⟩, hS.F ht⟩) hS.2.2 dX5_endOf_14
def wX7_deep  (post : Int32 → hsS → Prop) (σ : hsS) : Prop := wX5_endOf 21 1 (fun r1 σ2 => post r1 σ2) σ
set_option maxHeartbeats 4000000 in
set_option maxRecDepth 100000 in
theorem kcX7_deep (l : Launch) (D : va_G) (c : Nat → ClassId) (q : Nat → Nat) (ev : State → Heap → Prop) (hev : evOK (wdA 36 q) ev) (σ : hsS)  (post : Int32 → hsS → Prop) (hw : wX7_deep  post σ) : Met l yX7_deep (Cond.code yX7_deep cX7_deep 1 (some .int) :: tb_L) { frames := 5, cells := 0, slots := 0, locals := 138 } (wdPc D (xw c q) (xwT c) (wdA 36 q) ev σ [.ref (q 0)]) (va_Qi post (wdB D (xw c q)) (wdA 36 q)) 0 0 (wdA 36 q) := by
  refine Met.ofW (cc := cX7_deep) (maxL := 1) (ret := (some .int)) (by decide) rfl ?_
  intro p e s m args below meth c₀ s₁ Bd hml hv
  obtain ⟨rfl, hP, hK, hD0, hE⟩ := hv
  have hx := Bd.exec
  have hb := Bd.bytes
  have hr := Bd.returns
  have hts := atoms_spec (ws := Cond.code yX7_deep cX7_deep 1 (some .int) :: tb_L) Bd.pre
  have htb : ∀ w ∈ tb_L, w.before [.ref (q 0)].toArray s = true := fun w h => hts w (List.mem_cons_of_mem _ h)
  have hown : s.vm.findClass RX7 = some m.cls := findClass_of_methodNamed Bd.named
  have hlocks := Bd.notSynchronized
  have hS : va_S (wdA 36 q) s.heap s.heap [] := va_S.rf
  have hD := hD0
  have hl := lv_entry ([.ref (q 0)]) (n := 1) (Nat.le_of_ble_eq_true rfl)
  rw [lg_entry_eq]
  generalize (lg_sl ([.ref (q 0)]) ++ List.replicate (1 - (lg_sl ([.ref (q 0)])).length) Slot.unset).toArray = ls at hl ⊢
  have hl : lv_has ls 1 [(0, .ref (q 0))] := hl
  unfold wX7_deep at hw
  refine lv_aload_n hx hb dX7_deep_0 rfl (lv_at hl 0 rfl) ?_
  refine va_get (D := D) (ci := 7) (C := RX7) (T := TX7) (N := 9) hx hb htb inX7 hown hK hP 0 (xw_0 c q σ) rfl 4 (by decide) (htb _ tb_346) (fun _ h9 => h9) rfl dX7_deep_1 ?_
  refine lv_aload_n hx hb dX7_deep_4 rfl (lv_at hl 0 rfl) ?_
  refine va_get (D := D) (ci := 7) (C := RX7) (T := TX7) (N := 9) hx hb htb inX7 hown hK hP 0 (xw_0 c q σ) rfl 0 (by decide) (htb _ tb_342) (fun _ h9 => h9) rfl dX7_deep_5 ?_
  refine va_calli (va_runV (As := [.ref (q 1)]) (rest := []) ⟨hx, hb, hml, hown, htb⟩ (kcX5_endOf_21_1 l D c q ev hev σ  _ hw) (tb_CW htb kX5_endOf tb_474 tb_475 tb_476 ⟨Nat.le_of_ble_eq_true rfl, Nat.le_of_ble_eq_true rfl⟩) (wd_preV (wd := xw c q) (k := 21) hev hK hP hD hE hS (xw_21 c q σ) rfl) rfl rfl hl.1 rfl (lv_room (Nat.le_of_ble_eq_true rfl)) dX7_deep_8 ⟨Nat.zero_le _, Nat.zero_le _⟩) hS (fun q _ h => h) (fun q h => h) (fun r1 σ2 t H1 locs1 ht hvm hw hB hz1 hk1 hS => ?_)
  have hP : va_P D vwCl (xw c q σ2) H1 := ht ▸ hB
  have hD : va_D (wdA 36 q) (xw c q σ2) := xw_D hD0
  exact W.iret hx hb hr (fun t ht hW => ⟨⟨_, σ2, rfl, hw, by unfold wdB; rw [ht]; exact hP⟩, hS.F ht⟩) hS.2.2 dX7_deep_11
def wX5_openingStrike (b0 : Nat) (b1 : Nat) (post : Int32 → hsS → Prop) (σ : hsS) : Prop := (((σ.1 (64 * b1 + 6)) = (0 : Int32) → post (-1 : Int32) σ) ∧ (¬ (σ.1 (64 * b1 + 6)) = (0 : Int32) → wX5_lookBack b0 b1 (fun σ3 => wX1_allThings b1 (fun r4 σ5 => wX5_bestStrike b0 b1 (σ3.2.1 (b1 + 4) (0 : Int32).toNatClampNeg) r4 (fun r6 σ7 => post r6 σ7) σ5) σ3) σ))
set_option maxHeartbeats 4000000 in
set_option maxRecDepth 100000 in
theorem kcX5_openingStrike_21_1 (l : Launch) (D : va_G) (c : Nat → ClassId) (q : Nat → Nat) (ev : State → Heap → Prop) (hev : evOK (wdA 36 q) ev) (σ : hsS)  (post : Int32 → hsS → Prop) (hw : wX5_openingStrike 21 1 post σ) : Met l yX5_openingStrike (Cond.code yX5_openingStrike cX5_openingStrike 2 (some .int) :: tb_L) { frames := 4, cells := 0, slots := 0, locals := 117 } (wdPc D (xw c q) (xwT c) (wdA 36 q) ev σ [.ref (q 21), .ref (q 1)]) (va_Qi post (wdB D (xw c q)) (wdA 36 q)) 0 0 (wdA 36 q) := by
  refine Met.ofW (cc := cX5_openingStrike) (maxL := 2) (ret := (some .int)) (by decide) rfl ?_
  intro p e s m args below meth c₀ s₁ Bd hml hv
  obtain ⟨rfl, hP, hK, hD0, hE⟩ := hv
  have hx := Bd.exec
  have hb := Bd.bytes
  have hr := Bd.returns
  have hts := atoms_spec (ws := Cond.code yX5_openingStrike cX5_openingStrike 2 (some .int) :: tb_L) Bd.pre
  have htb : ∀ w ∈ tb_L, w.before [.ref (q 21), .ref (q 1)].toArray s = true := fun w h => hts w (List.mem_cons_of_mem _ h)
  have hown : s.vm.findClass RX5 = some m.cls := findClass_of_methodNamed Bd.named
  have hlocks := Bd.notSynchronized
  have hS : va_S (wdA 36 q) s.heap s.heap [] := va_S.rf
  have hD := hD0
  have hl := lv_entry ([.ref (q 21), .ref (q 1)]) (n := 2) (Nat.le_of_ble_eq_true rfl)
  rw [lg_entry_eq]
  generalize (lg_sl ([.ref (q 21), .ref (q 1)]) ++ List.replicate (2 - (lg_sl ([.ref (q 21), .ref (q 1)])).length) Slot.unset).toArray = ls at hl ⊢
  have hl : lv_has ls 2 [(0, .ref (q 21)), (1, .ref (q 1))] := hl
  unfold wX5_openingStrike at hw
  refine lv_aload_n hx hb dX5_openingStrike_0 rfl (lv_at hl 1 rfl) ?_
  refine va_getN (D := D) (ci := 1) (C := RX1) (T := TX1) (N := 12) hx hb htb inX1 hown hK hP 1 (xw_1 c q σ) rfl 6 (by decide) (htb _ tb_149) (fun _ h9 => h9) rfl dX5_openingStrike_1 ?_
  refine lv_if_ne (tgt := 9) hx hb dX5_openingStrike_4 (by decide) (fun c1 => ?_) (fun c1 => ?_)
  · have hw := hw.2 c1
    refine lv_aload_n hx hb dX5_openingStrike_9 rfl (lv_at hl 0 rfl) ?_
    refine lv_aload_n hx hb dX5_openingStrike_10 rfl (lv_at hl 1 rfl) ?_
    refine va_callv (va_runV (As := [.ref (q 1)]) (rest := []) ⟨hx, hb, hml, hown, htb⟩ (kcX5_lookBack_21_1 l D c q ev hev σ  _ hw) (tb_CW htb kX5_lookBack tb_478 tb_480 tb_1 ⟨Nat.le_of_ble_eq_true rfl, Nat.le_of_ble_eq_true rfl⟩) (wd_preV (wd := xw c q) (k := 21) hev hK hP hD hE hS (xw_21 c q σ) rfl) rfl rfl hl.1 rfl (lv_room (Nat.le_of_ble_eq_true rfl)) dX5_openingStrike_11 ⟨Nat.zero_le _, Nat.zero_le _⟩) hS (fun q _ h => h) (fun q h => h) (fun σ3 t H1 locs1 ht hvm hw hB hz1 hk1 hS => ?_)
    have hP : va_P D vwCl (xw c q σ3) H1 := ht ▸ hB
    have hD : va_D (wdA 36 q) (xw c q σ3) := xw_D hD0
    refine lv_aload_n hx hb dX5_openingStrike_14 rfl (lv_at hl 0 rfl) ?_
    refine lv_aload_n hx hb dX5_openingStrike_15 rfl (lv_at hl 1 rfl) ?_
    refine lv_aload_n hx hb dX5_openingStrike_16 rfl (lv_at hl 1 rfl) ?_
    refine va_getN (D := D) (ci := 1) (C := RX1) (T := TX1) (N := 12) hx hb htb inX1 hown hK hP 1 (xw_1 c q σ3) rfl 11 (by decide) (htb _ tb_162) (fun _ h9 => h9) rfl dX5_openingStrike_17 ?_
    refine lv_iconst (v := (0 : Int32)) hx hb dX5_openingStrike_20 (by decide) ?_
    refine va_iald hx hb hK hP 5 3 (xw_5 c q σ3) rfl (by unfold vp_in; decide) dX5_openingStrike_21 ?_
    refine lv_aload_n hx hb dX5_openingStrike_22 rfl (lv_at hl 1 rfl) ?_
    refine va_calli (va_runV (As := []) (rest := [.int (σ3.2.1 5 (0 : Int32).toNatClampNeg), .ref (q 1), .ref (q 21)]) ⟨hx, hb, hml, hown, htb⟩ (kcX1_allThings_1 l D c q ev hev σ3  _ hw) (tb_CW htb kX1_allThings tb_482 tb_438 tb_439 ⟨Nat.le_of_ble_eq_true rfl, Nat.le_of_ble_eq_true rfl⟩) (wd_preV (wd := xw c q) (k := 1) hev hK hP hD hE hS (xw_1 c q σ3) rfl) rfl rfl hl.1 rfl (lv_room (Nat.le_of_ble_eq_true rfl)) dX5_openingStrike_23 ⟨Nat.zero_le _, Nat.zero_le _⟩) hS (fun q _ h => h) (fun q h => h) (fun r4 σ5 t H1 locs1 ht hvm hw hB hz1 hk1 hS => ?_)
    have hP : va_P D vwCl (xw c q σ5) H1 := ht ▸ hB
    have hD : va_D (wdA 36 q) (xw c q σ5) := xw_D hD0
    refine va_calli (va_runV (As := [.ref (q 1), .int (σ3.2.1 5 (0 : Int32).toNatClampNeg), .int r4]) (rest := []) ⟨hx, hb, hml, hown, htb⟩ (kcX5_bestStrike_21_1 l D c q ev hev σ5 (σ3.2.1 5 (0 : Int32).toNatClampNeg) r4 _ hw) (tb_CW htb kX5_bestStrike tb_485 tb_487 tb_2 ⟨Nat.le_of_ble_eq_true rfl, Nat.le_of_ble_eq_true rfl⟩) (wd_preV (wd := xw c q) (k := 21) hev hK hP hD hE hS (xw_21 c q σ5) rfl) rfl rfl hl.1 rfl (lv_room (Nat.le_of_ble_eq_true rfl)) dX5_openingStrike_26 ⟨Nat.zero_le _, Nat.zero_le _⟩) hS (fun q _ h => h) (fun q h => h) (fun r6 σ7 t H1 locs1 ht hvm hw hB hz1 hk1 hS => ?_)
    have hP : va_P D vwCl (xw c q σ7) H1 := ht ▸ hB
    have hD : va_D (wdA 36 q) (xw c q σ7) := xw_D hD0
    exact W.iret hx hb hr (fun t ht hW => ⟨⟨_, σ7, rfl, hw, by unfold wdB; rw [ht]; exact hP⟩, hS.F ht⟩) hS.2.2 dX5_openingStrike_29
  · have hw := hw.1 c1
    refine lv_iconst (v := (-1 : Int32)) hx hb dX5_openingStrike_7 (by decide) ?_
    exact W.iret hx hb hr (fun t ht hW => ⟨⟨_, σ, rfl, hw, by unfold wdB; rw [ht]; exact hP⟩, hS.F ht⟩) hS.2.2 dX5_openingStrike_8
def wX7_first  (post : Int32 → hsS → Prop) (σ : hsS) : Prop := wX5_openingStrike 21 1 (fun r1 σ2 => post r1 σ2) σ
set_option maxHeartbeats 4000000 in
set_option maxRecDepth 100000 in
theorem kcX7_first (l : Launch) (D : va_G) (c : Nat → ClassId) (q : Nat → Nat) (ev : State → Heap → Prop) (hev : evOK (wdA 36 q) ev) (σ : hsS)  (post : Int32 → hsS → Prop) (hw : wX7_first  post σ) : Met l yX7_first (Cond.code yX7_first cX7_first 1 (some .int) :: tb_L) { frames := 5, cells := 0, slots := 0, locals := 138 } (wdPc D (xw c q) (xwT c) (wdA 36 q) ev σ [.ref (q 0)]) (va_Qi post (wdB D (xw c q)) (wdA 36 q)) 0 0 (wdA 36 q) := by
  refine Met.ofW (cc := cX7_first) (maxL := 1) (ret := (some .int)) (by decide) rfl ?_
  intro p e s m args below meth c₀ s₁ Bd hml hv
  obtain ⟨rfl, hP, hK, hD0, hE⟩ := hv
  have hx := Bd.exec
  have hb := Bd.bytes
  have hr := Bd.returns
  have hts := atoms_spec (ws := Cond.code yX7_first cX7_first 1 (some .int) :: tb_L) Bd.pre
  have htb : ∀ w ∈ tb_L, w.before [.ref (q 0)].toArray s = true := fun w h => hts w (List.mem_cons_of_mem _ h)
  have hown : s.vm.findClass RX7 = some m.cls := findClass_of_methodNamed Bd.named
  have hlocks := Bd.notSynchronized
  have hS : va_S (wdA 36 q) s.heap s.heap [] := va_S.rf
  have hD := hD0
  have hl := lv_entry ([.ref (q 0)]) (n := 1) (Nat.le_of_ble_eq_true rfl)
  rw [lg_entry_eq]
  generalize (lg_sl ([.ref (q 0)]) ++ List.replicate (1 - (lg_sl ([.ref (q 0)])).length) Slot.unset).toArray = ls at hl ⊢
  have hl : lv_has ls 1 [(0, .ref (q 0))] := hl
  unfold wX7_first at hw
  refine lv_aload_n hx hb dX7_first_0 rfl (lv_at hl 0 rfl) ?_
  refine va_get (D := D) (ci := 7) (C := RX7) (T := TX7) (N := 9) hx hb htb inX7 hown hK hP 0 (xw_0 c q σ) rfl 4 (by decide) (htb _ tb_346) (fun _ h9 => h9) rfl dX7_first_1 ?_
  refine lv_aload_n hx hb dX7_first_4 rfl (lv_at hl 0 rfl) ?_
  refine va_get (D := D) (ci := 7) (C := RX7) (T := TX7) (N := 9) hx hb htb inX7 hown hK hP 0 (xw_0 c q σ) rfl 0 (by decide) (htb _ tb_342) (fun _ h9 => h9) rfl dX7_first_5 ?_
  refine va_calli (va_runV (As := [.ref (q 1)]) (rest := []) ⟨hx, hb, hml, hown, htb⟩ (kcX5_openingStrike_21_1 l D c q ev hev σ  _ hw) (tb_CW htb kX5_openingStrike tb_505 tb_506 tb_507 ⟨Nat.le_of_ble_eq_true rfl, Nat.le_of_ble_eq_true rfl⟩) (wd_preV (wd := xw c q) (k := 21) hev hK hP hD hE hS (xw_21 c q σ) rfl) rfl rfl hl.1 rfl (lv_room (Nat.le_of_ble_eq_true rfl)) dX7_first_8 ⟨Nat.zero_le _, Nat.zero_le _⟩) hS (fun q _ h => h) (fun q h => h) (fun r1 σ2 t H1 locs1 ht hvm hw hB hz1 hk1 hS => ?_)
  have hP : va_P D vwCl (xw c q σ2) H1 := ht ▸ hB
  have hD : va_D (wdA 36 q) (xw c q σ2) := xw_D hD0
  exact W.iret hx hb hr (fun t ht hW => ⟨⟨_, σ2, rfl, hw, by unfold wdB; rw [ht]; exact hP⟩, hS.F ht⟩) hS.2.2 dX7_first_11
def wX1_backEnd_L12 (b0 : Nat) (K34 : Int32 → Int32 → hsS → Prop) (post : Int32 → hsS → Prop) : Nat → Int32 → Int32 → hsS → Prop
  | 0, _, _, _ => False
  | n + 1, y1, y2, σ => ((y2 < (0 : Int32) → K34 y1 y2 σ) ∧ (¬ y2 < (0 : Int32) → vp_in y2 8 ∧ wX1_strikePlainly b0 (σ.2.1 (b0 + 4) y2.toNatClampNeg) y1 (fun r5 σ6 => ∀ v7 : Int32, v7 = y2 + (-1 : Int32) → wX1_backEnd_L12 b0 K34 post n r5 v7 σ6) σ))
def wX1_backEnd (b0 : Nat) (post : Int32 → hsS → Prop) (σ : hsS) : Prop := wX1_allThings b0 (fun r1 σ2 => ∀ v3 : Int32, v3 = (σ2.1 (64 * b0 + 6)) - (1 : Int32) → ∃ n8, wX1_backEnd_L12 b0 (fun v9 v10 σ11 => post v9 σ11) post n8 r1 v3 σ2) σ
set_option maxHeartbeats 4000000 in
set_option maxRecDepth 100000 in
theorem kcX1_backEnd_1 (l : Launch) (D : va_G) (c : Nat → ClassId) (q : Nat → Nat) (ev : State → Heap → Prop) (hev : evOK (wdA 36 q) ev) (σ : hsS)  (post : Int32 → hsS → Prop) (hw : wX1_backEnd 1 post σ) : Met l yX1_backEnd (Cond.code yX1_backEnd cX1_backEnd 3 (some .int) :: tb_L) { frames := 3, cells := 0, slots := 0, locals := 68 } (wdPc D (xw c q) (xwT c) (wdA 36 q) ev σ [.ref (q 1)]) (va_Qi post (wdB D (xw c q)) (wdA 36 q)) 0 0 (wdA 36 q) := by
  refine Met.ofW (cc := cX1_backEnd) (maxL := 3) (ret := (some .int)) (by decide) rfl ?_
  intro p e s m args below meth c₀ s₁ Bd hml hv
  obtain ⟨rfl, hP, hK, hD0, hE⟩ := hv
  have hx := Bd.exec
  have hb := Bd.bytes
  have hr := Bd.returns
  have hts := atoms_spec (ws := Cond.code yX1_backEnd cX1_backEnd 3 (some .int) :: tb_L) Bd.pre
  have htb : ∀ w ∈ tb_L, w.before [.ref (q 1)].toArray s = true := fun w h => hts w (List.mem_cons_of_mem _ h)
  have hown : s.vm.findClass RX1 = some m.cls := findClass_of_methodNamed Bd.named
  have hlocks := Bd.notSynchronized
  have hS : va_S (wdA 36 q) s.heap s.heap [] := va_S.rf
  have hD := hD0
  have L12 : ∀ (K34 : Int32 → Int32 → hsS → Prop) (n : Nat) (y1 : Int32) (y2 : Int32) (σ : hsS) (H : Heap) (locs : List Loc) (ls : Array Slot), wX1_backEnd_L12 1 K34 post n y1 y2 σ → (∀ (y1 : Int32) (y2 : Int32) (σ : hsS) (H : Heap) (locs : List Loc) (ls : Array Slot), K34 y1 y2 σ → va_P D vwCl (xw c q σ) H → va_S (wdA 36 q) s.heap H locs → lv_has ls 3 [(0, .ref (q 1)), (1, .int y1), (2, .int y2)] → W p l e (headSpec (Cond.code yX1_backEnd cX1_backEnd 3 (some .int) :: tb_L) { frames := 3, cells := 0, slots := 0, locals := 68 }).room s m [.ref (q 1)].toArray below meth c₀ H locs 0 0 (MQ below (va_Qi post (wdB D (xw c q)) (wdA 36 q)) [.ref (q 1)].toArray s 0 0 (wdA 36 q)) (F0 m 34 ls [])) → va_P D vwCl (xw c q σ) H → va_S (wdA 36 q) s.heap H locs → lv_has ls 3 [(0, .ref (q 1)), (1, .int y1), (2, .int y2)] → W p l e (headSpec (Cond.code yX1_backEnd cX1_backEnd 3 (some .int) :: tb_L) { frames := 3, cells := 0, slots := 0, locals := 68 }).room s m [.ref (q 1)].toArray below meth c₀ H locs 0 0 (MQ below (va_Qi post (wdB D (xw c q)) (wdA 36 q)) [.ref (q 1)].toArray s 0 0 (wdA 36 q)) (F0 m 12 ls []) := by
    intro K34 n
    induction n with
    | zero =>
      intro y1 y2 σ H locs ls hw hk34 hP hS hl
      exact (show False from hw).elim
    | succ n ih =>
      intro y1 y2 σ H locs ls hw hk34 hP hS hl
      rw [wX1_backEnd_L12] at hw
      have hD : va_D (wdA 36 q) (xw c q σ) := xw_D hD0
      refine lv_iload_n hx hb dX1_backEnd_12 rfl (lv_at hl 2 rfl) ?_
      refine lv_if_lt (tgt := 34) hx hb dX1_backEnd_13 (by decide) (fun c4 => ?_) (fun c4 => ?_)
      · have hw := hw.1 c4
        exact hk34 y1 y2 σ _ _ _ hw hP hS (lv_sub hl [0, 1, 2] rfl)
      · have hw := hw.2 c4
        refine lv_aload_n hx hb dX1_backEnd_16 rfl (lv_at hl 0 rfl) ?_
        refine lv_aload_n hx hb dX1_backEnd_17 rfl (lv_at hl 0 rfl) ?_
        refine va_get (D := D) (ci := 1) (C := RX1) (T := TX1) (N := 12) hx hb htb inX1 hown hK hP 1 (xw_1 c q σ) rfl 11 (by decide) (htb _ tb_161) (fun _ h9 => h9) rfl dX1_backEnd_18 ?_
        refine lv_iload_n hx hb dX1_backEnd_21 rfl (lv_at hl 2 rfl) ?_
        refine va_iald hx hb hK hP 5 3 (xw_5 c q σ) rfl hw.1 dX1_backEnd_22 ?_
        have hw := hw.2
        refine lv_iload_n hx hb dX1_backEnd_23 rfl (lv_at hl 1 rfl) ?_
        refine va_calli (va_runV (As := [.int (σ.2.1 5 y2.toNatClampNeg), .int y1]) (rest := []) ⟨hx, hb, hml, hown, htb⟩ (kcX1_strikePlainly_1 l D c q ev hev σ (σ.2.1 5 y2.toNatClampNeg) y1 _ hw) (tb_CW htb kX1_strikePlainly tb_462 tb_463 tb_464 ⟨Nat.le_of_ble_eq_true rfl, Nat.le_of_ble_eq_true rfl⟩) (wd_preV (wd := xw c q) (k := 1) hev hK hP hD hE hS (xw_1 c q σ) rfl) rfl rfl hl.1 rfl (lv_room (Nat.le_of_ble_eq_true rfl)) dX1_backEnd_24 ⟨Nat.zero_le _, Nat.zero_le _⟩) hS (fun q _ h => h) (fun q h => h) (fun r5 σ6 t H1 locs1 ht hvm hw hB hz1 hk1 hS => ?_)
        have hP : va_P D vwCl (xw c q σ6) H1 := ht ▸ hB
        have hD : va_D (wdA 36 q) (xw c q σ6) := xw_D hD0
        refine lv_istore_n (lv' := [(1, .int r5), (0, .ref (q 1)), (2, .int y2)]) hx hb dX1_backEnd_27 rfl hl (by decide) rfl (fun ls hl => ?_)
        obtain ⟨v7, ev7⟩ : ∃ z : Int32, z = y2 + (-1 : Int32) := ⟨_, rfl⟩
        have hw := hw v7 ev7
        refine lv_iinc (v := v7) (lv' := [(2, .int v7), (1, .int r5), (0, .ref (q 1))]) hx hb dX1_backEnd_28 hl (k := 2) rfl (by rw [ev7]; rfl) (by decide) rfl (fun ls hl => ?_)
        refine lv_goto (tgt := 12) hx hb dX1_backEnd_31 (by decide) ?_
        exact ih r5 v7 σ6 _ _ _ hw hk34 hP hS (lv_sub hl [2, 1, 0] rfl)
  have hl := lv_entry ([.ref (q 1)]) (n := 3) (Nat.le_of_ble_eq_true rfl)
  rw [lg_entry_eq]
  generalize (lg_sl ([.ref (q 1)]) ++ List.replicate (3 - (lg_sl ([.ref (q 1)])).length) Slot.unset).toArray = ls at hl ⊢
  have hl : lv_has ls 3 [(0, .ref (q 1))] := hl
  unfold wX1_backEnd at hw
  refine lv_aload_n hx hb dX1_backEnd_0 rfl (lv_at hl 0 rfl) ?_
  refine va_calli (va_runV (As := []) (rest := []) ⟨hx, hb, hml, hown, htb⟩ (kcX1_allThings_1 l D c q ev hev σ  _ hw) (tb_CW htb kX1_allThings tb_461 tb_438 tb_439 ⟨Nat.le_of_ble_eq_true rfl, Nat.le_of_ble_eq_true rfl⟩) (wd_preV (wd := xw c q) (k := 1) hev hK hP hD hE hS (xw_1 c q σ) rfl) rfl rfl hl.1 rfl (lv_room (Nat.le_of_ble_eq_true rfl)) dX1_backEnd_1 ⟨Nat.zero_le _, Nat.zero_le _⟩) hS (fun q _ h => h) (fun q h => h) (fun r1 σ2 t H1 locs1 ht hvm hw hB hz1 hk1 hS => ?_)
  have hP : va_P D vwCl (xw c q σ2) H1 := ht ▸ hB
  have hD : va_D (wdA 36 q) (xw c q σ2) := xw_D hD0
  refine lv_istore_n (lv' := [(1, .int r1), (0, .ref (q 1))]) hx hb dX1_backEnd_4 rfl hl (by decide) rfl (fun ls hl => ?_)
  refine lv_aload_n hx hb dX1_backEnd_5 rfl (lv_at hl 1 rfl) ?_
  refine va_get (D := D) (ci := 1) (C := RX1) (T := TX1) (N := 12) hx hb htb inX1 hown hK hP 1 (xw_1 c q σ2) rfl 6 (by decide) (htb _ tb_148) (fun _ h9 => h9) rfl dX1_backEnd_6 ?_
  refine lv_iconst (v := (1 : Int32)) hx hb dX1_backEnd_9 (by decide) ?_
  refine lv_isub hx hb dX1_backEnd_10 ?_
  refine lv_topi (fun v3 ev3 => ?_)
  have hw := hw v3 ev3
  refine lv_istore_n (lv' := [(2, .int v3), (1, .int r1), (0, .ref (q 1))]) hx hb dX1_backEnd_11 rfl hl (by decide) rfl (fun ls hl => ?_)
  obtain ⟨n8, hw⟩ := hw
  refine L12 _ n8 r1 v3 σ2 _ _ _ hw ?_ hP hS (lv_sub hl [2, 1, 0] rfl)
  intro v9 v10 σ11 H locs ls hw hP hS hl
  have hD : va_D (wdA 36 q) (xw c q σ11) := xw_D hD0
  refine lv_iload_n hx hb dX1_backEnd_34 rfl (lv_at hl 1 rfl) ?_
  exact W.iret hx hb hr (fun t ht hW => ⟨⟨_, σ11, rfl, hw, by unfold wdB; rw [ht]; exact hP⟩, hS.F ht⟩) hS.2.2 dX1_backEnd_35
def wX7_back  (post : Int32 → hsS → Prop) (σ : hsS) : Prop := wX1_backEnd 1 (fun r1 σ2 => post r1 σ2) σ
set_option maxHeartbeats 4000000 in
set_option maxRecDepth 100000 in
theorem kcX7_back (l : Launch) (D : va_G) (c : Nat → ClassId) (q : Nat → Nat) (ev : State → Heap → Prop) (hev : evOK (wdA 36 q) ev) (σ : hsS)  (post : Int32 → hsS → Prop) (hw : wX7_back  post σ) : Met l yX7_back (Cond.code yX7_back cX7_back 1 (some .int) :: tb_L) { frames := 4, cells := 0, slots := 0, locals := 90 } (wdPc D (xw c q) (xwT c) (wdA 36 q) ev σ [.ref (q 0)]) (va_Qi post (wdB D (xw c q)) (wdA 36 q)) 0 0 (wdA 36 q) := by
  refine Met.ofW (cc := cX7_back) (maxL := 1) (ret := (some .int)) (by decide) rfl ?_
  intro p e s m args below meth c₀ s₁ Bd hml hv
  obtain ⟨rfl, hP, hK, hD0, hE⟩ := hv
  have hx := Bd.exec
  have hb := Bd.bytes
  have hr := Bd.returns
  have hts := atoms_spec (ws := Cond.code yX7_back cX7_back 1 (some .int) :: tb_L) Bd.pre
  have htb : ∀ w ∈ tb_L, w.before [.ref (q 0)].toArray s = true := fun w h => hts w (List.mem_cons_of_mem _ h)
  have hown : s.vm.findClass RX7 = some m.cls := findClass_of_methodNamed Bd.named
  have hlocks := Bd.notSynchronized
  have hS : va_S (wdA 36 q) s.heap s.heap [] := va_S.rf
  have hD := hD0
  have hl := lv_entry ([.ref (q 0)]) (n := 1) (Nat.le_of_ble_eq_true rfl)
  rw [lg_entry_eq]
  generalize (lg_sl ([.ref (q 0)]) ++ List.replicate (1 - (lg_sl ([.ref (q 0)])).length) Slot.unset).toArray = ls at hl ⊢
  have hl : lv_has ls 1 [(0, .ref (q 0))] := hl
  unfold wX7_back at hw
  refine lv_aload_n hx hb dX7_back_0 rfl (lv_at hl 0 rfl) ?_
  refine va_get (D := D) (ci := 7) (C := RX7) (T := TX7) (N := 9) hx hb htb inX7 hown hK hP 0 (xw_0 c q σ) rfl 0 (by decide) (htb _ tb_342) (fun _ h9 => h9) rfl dX7_back_1 ?_
  refine va_calli (va_runV (As := []) (rest := []) ⟨hx, hb, hml, hown, htb⟩ (kcX1_backEnd_1 l D c q ev hev σ  _ hw) (tb_CW htb kX1_backEnd tb_513 tb_514 tb_515 ⟨Nat.le_of_ble_eq_true rfl, Nat.le_of_ble_eq_true rfl⟩) (wd_preV (wd := xw c q) (k := 1) hev hK hP hD hE hS (xw_1 c q σ) rfl) rfl rfl hl.1 rfl (lv_room (Nat.le_of_ble_eq_true rfl)) dX7_back_4 ⟨Nat.zero_le _, Nat.zero_le _⟩) hS (fun q _ h => h) (fun q h => h) (fun r1 σ2 t H1 locs1 ht hvm hw hB hz1 hk1 hS => ?_)
  have hP : va_P D vwCl (xw c q σ2) H1 := ht ▸ hB
  have hD : va_D (wdA 36 q) (xw c q σ2) := xw_D hD0
  exact W.iret hx hb hr (fun t ht hW => ⟨⟨_, σ2, rfl, hw, by unfold wdB; rw [ht]; exact hP⟩, hS.F ht⟩) hS.2.2 dX7_back_7
set_option maxHeartbeats 4000000 in
set_option maxRecDepth 100000 in
theorem kcX1_takeFrom_6_1 (l : Launch) (D : va_G) (c : Nat → ClassId) (q : Nat → Nat) (ev : State → Heap → Prop) (hev : evOK (wdA 36 q) ev) (σ : hsS)  (post : hsS → Prop) (hw : wX1_takeFrom 6 1 post σ) : Met l yX1_takeFrom (Cond.code yX1_takeFrom cX1_takeFrom 2 none :: tb_L) { frames := 1, cells := 0, slots := 0, locals := 64 } (wdPc D (xw c q) (xwT c) (wdA 36 q) ev σ [.ref (q 6), .ref (q 1)]) (va_Qv post (wdB D (xw c q)) (wdA 36 q)) 0 0 (wdA 36 q) := by
  refine Met.ofW (cc := cX1_takeFrom) (maxL := 2) (ret := none) (by decide) rfl ?_
  intro p e s m args below meth c₀ s₁ Bd hml hv
  obtain ⟨rfl, hP, hK, hD0, hE⟩ := hv
  have hx := Bd.exec
  have hb := Bd.bytes
  have hr := Bd.returns
  have hts := atoms_spec (ws := Cond.code yX1_takeFrom cX1_takeFrom 2 none :: tb_L) Bd.pre
  have htb : ∀ w ∈ tb_L, w.before [.ref (q 6), .ref (q 1)].toArray s = true := fun w h => hts w (List.mem_cons_of_mem _ h)
  have hown : s.vm.findClass RX1 = some m.cls := findClass_of_methodNamed Bd.named
  have hlocks := Bd.notSynchronized
  have hS : va_S (wdA 36 q) s.heap s.heap [] := va_S.rf
  have hD := hD0
  have hl := lv_entry ([.ref (q 6), .ref (q 1)]) (n := 2) (Nat.le_of_ble_eq_true rfl)
  rw [lg_entry_eq]
  generalize (lg_sl ([.ref (q 6), .ref (q 1)]) ++ List.replicate (2 - (lg_sl ([.ref (q 6), .ref (q 1)])).length) Slot.unset).toArray = ls at hl ⊢
  have hl : lv_has ls 2 [(0, .ref (q 6)), (1, .ref (q 1))] := hl
  unfold wX1_takeFrom at hw
  refine lv_aload_n hx hb dX1_takeFrom_0 rfl (lv_at hl 0 rfl) ?_
  refine lv_aload_n hx hb dX1_takeFrom_1 rfl (lv_at hl 1 rfl) ?_
  refine va_get (D := D) (ci := 1) (C := RX1) (T := TX1) (N := 12) hx hb htb inX1 hown hK hP 1 (xw_1 c q σ) rfl 0 (by decide) (htb _ tb_126) (fun _ h9 => h9) rfl dX1_takeFrom_2 ?_
  refine va_put (D := D) (ci := 1) (ty := .int) (C := RX1) (T := TX1) (N := 12) hx hb htb inX1 tyX1 tyX1_ok nmX1 hown hK hP hD hS 6 (xw_6 c q σ) rfl 0 (by decide) (htb _ tb_126) (fun _ h9 => h9) rfl (by decide +kernel) rfl rfl (Nat.le_of_ble_eq_true rfl) dX1_takeFrom_5 (fun H locs hP hD hS => ?_)
  have hP : va_P D vwCl (xw c q (hsI σ 384 (σ.1 64))) H := hP
  obtain ⟨σ1, eσ1⟩ : ∃ z : hsS, z = hsI σ 384 (σ.1 64) := ⟨_, rfl⟩
  rw [← eσ1] at hP
  have hD : va_D (wdA 36 q) (xw c q σ1) := xw_D hD0
  have hw := hw σ1 eσ1
  refine lv_aload_n hx hb dX1_takeFrom_8 rfl (lv_at hl 0 rfl) ?_
  refine lv_aload_n hx hb dX1_takeFrom_9 rfl (lv_at hl 1 rfl) ?_
  refine va_get (D := D) (ci := 1) (C := RX1) (T := TX1) (N := 12) hx hb htb inX1 hown hK hP 1 (xw_1 c q σ1) rfl 1 (by decide) (htb _ tb_132) (fun _ h9 => h9) rfl dX1_takeFrom_10 ?_
  refine va_put (D := D) (ci := 1) (ty := .int) (C := RX1) (T := TX1) (N := 12) hx hb htb inX1 tyX1 tyX1_ok nmX1 hown hK hP hD hS 6 (xw_6 c q σ1) rfl 1 (by decide) (htb _ tb_132) (fun _ h9 => h9) rfl (by decide +kernel) rfl rfl (Nat.le_of_ble_eq_true rfl) dX1_takeFrom_13 (fun H locs hP hD hS => ?_)
  have hP : va_P D vwCl (xw c q (hsI σ1 385 (σ1.1 65))) H := hP
  obtain ⟨σ2, eσ2⟩ : ∃ z : hsS, z = hsI σ1 385 (σ1.1 65) := ⟨_, rfl⟩
  rw [← eσ2] at hP
  have hD : va_D (wdA 36 q) (xw c q σ2) := xw_D hD0
  have hw := hw σ2 eσ2
  refine lv_aload_n hx hb dX1_takeFrom_16 rfl (lv_at hl 0 rfl) ?_
  refine lv_aload_n hx hb dX1_takeFrom_17 rfl (lv_at hl 1 rfl) ?_
  refine va_get (D := D) (ci := 1) (C := RX1) (T := TX1) (N := 12) hx hb htb inX1 hown hK hP 1 (xw_1 c q σ2) rfl 2 (by decide) (htb _ tb_138) (fun _ h9 => h9) rfl dX1_takeFrom_18 ?_
  refine va_put (D := D) (ci := 1) (ty := .int) (C := RX1) (T := TX1) (N := 12) hx hb htb inX1 tyX1 tyX1_ok nmX1 hown hK hP hD hS 6 (xw_6 c q σ2) rfl 2 (by decide) (htb _ tb_138) (fun _ h9 => h9) rfl (by decide +kernel) rfl rfl (Nat.le_of_ble_eq_true rfl) dX1_takeFrom_21 (fun H locs hP hD hS => ?_)
  have hP : va_P D vwCl (xw c q (hsI σ2 386 (σ2.1 66))) H := hP
  obtain ⟨σ3, eσ3⟩ : ∃ z : hsS, z = hsI σ2 386 (σ2.1 66) := ⟨_, rfl⟩
  rw [← eσ3] at hP
  have hD : va_D (wdA 36 q) (xw c q σ3) := xw_D hD0
  have hw := hw σ3 eσ3
  refine lv_aload_n hx hb dX1_takeFrom_24 rfl (lv_at hl 0 rfl) ?_
  refine lv_aload_n hx hb dX1_takeFrom_25 rfl (lv_at hl 1 rfl) ?_
  refine va_get (D := D) (ci := 1) (C := RX1) (T := TX1) (N := 12) hx hb htb inX1 hown hK hP 1 (xw_1 c q σ3) rfl 3 (by decide) (htb _ tb_141) (fun _ h9 => h9) rfl dX1_takeFrom_26 ?_
  refine va_put (D := D) (ci := 1) (ty := .int) (C := RX1) (T := TX1) (N := 12) hx hb htb inX1 tyX1 tyX1_ok nmX1 hown hK hP hD hS 6 (xw_6 c q σ3) rfl 3 (by decide) (htb _ tb_141) (fun _ h9 => h9) rfl (by decide +kernel) rfl rfl (Nat.le_of_ble_eq_true rfl) dX1_takeFrom_29 (fun H locs hP hD hS => ?_)
  have hP : va_P D vwCl (xw c q (hsI σ3 387 (σ3.1 67))) H := hP
  obtain ⟨σ4, eσ4⟩ : ∃ z : hsS, z = hsI σ3 387 (σ3.1 67) := ⟨_, rfl⟩
  rw [← eσ4] at hP
  have hD : va_D (wdA 36 q) (xw c q σ4) := xw_D hD0
  have hw := hw σ4 eσ4
  refine lv_aload_n hx hb dX1_takeFrom_32 rfl (lv_at hl 0 rfl) ?_
  refine lv_aload_n hx hb dX1_takeFrom_33 rfl (lv_at hl 1 rfl) ?_
  refine va_get (D := D) (ci := 1) (C := RX1) (T := TX1) (N := 12) hx hb htb inX1 hown hK hP 1 (xw_1 c q σ4) rfl 4 (by decide) (htb _ tb_144) (fun _ h9 => h9) rfl dX1_takeFrom_34 ?_
  refine va_put (D := D) (ci := 1) (ty := .int) (C := RX1) (T := TX1) (N := 12) hx hb htb inX1 tyX1 tyX1_ok nmX1 hown hK hP hD hS 6 (xw_6 c q σ4) rfl 4 (by decide) (htb _ tb_144) (fun _ h9 => h9) rfl (by decide +kernel) rfl rfl (Nat.le_of_ble_eq_true rfl) dX1_takeFrom_37 (fun H locs hP hD hS => ?_)
  have hP : va_P D vwCl (xw c q (hsI σ4 388 (σ4.1 68))) H := hP
  obtain ⟨σ5, eσ5⟩ : ∃ z : hsS, z = hsI σ4 388 (σ4.1 68) := ⟨_, rfl⟩
  rw [← eσ5] at hP
  have hD : va_D (wdA 36 q) (xw c q σ5) := xw_D hD0
  have hw := hw σ5 eσ5
  refine lv_aload_n hx hb dX1_takeFrom_40 rfl (lv_at hl 0 rfl) ?_
  refine lv_aload_n hx hb dX1_takeFrom_41 rfl (lv_at hl 1 rfl) ?_
  refine va_get (D := D) (ci := 1) (C := RX1) (T := TX1) (N := 12) hx hb htb inX1 hown hK hP 1 (xw_1 c q σ5) rfl 5 (by decide) (htb _ tb_146) (fun _ h9 => h9) rfl dX1_takeFrom_42 ?_
  refine va_put (D := D) (ci := 1) (ty := .int) (C := RX1) (T := TX1) (N := 12) hx hb htb inX1 tyX1 tyX1_ok nmX1 hown hK hP hD hS 6 (xw_6 c q σ5) rfl 5 (by decide) (htb _ tb_146) (fun _ h9 => h9) rfl (by decide +kernel) rfl rfl (Nat.le_of_ble_eq_true rfl) dX1_takeFrom_45 (fun H locs hP hD hS => ?_)
  have hP : va_P D vwCl (xw c q (hsI σ5 389 (σ5.1 69))) H := hP
  obtain ⟨σ6, eσ6⟩ : ∃ z : hsS, z = hsI σ5 389 (σ5.1 69) := ⟨_, rfl⟩
  rw [← eσ6] at hP
  have hD : va_D (wdA 36 q) (xw c q σ6) := xw_D hD0
  have hw := hw σ6 eσ6
  refine lv_aload_n hx hb dX1_takeFrom_48 rfl (lv_at hl 0 rfl) ?_
  refine lv_aload_n hx hb dX1_takeFrom_49 rfl (lv_at hl 1 rfl) ?_
  refine va_get (D := D) (ci := 1) (C := RX1) (T := TX1) (N := 12) hx hb htb inX1 hown hK hP 1 (xw_1 c q σ6) rfl 6 (by decide) (htb _ tb_148) (fun _ h9 => h9) rfl dX1_takeFrom_50 ?_
  refine va_put (D := D) (ci := 1) (ty := .int) (C := RX1) (T := TX1) (N := 12) hx hb htb inX1 tyX1 tyX1_ok nmX1 hown hK hP hD hS 6 (xw_6 c q σ6) rfl 6 (by decide) (htb _ tb_148) (fun _ h9 => h9) rfl (by decide +kernel) rfl rfl (Nat.le_of_ble_eq_true rfl) dX1_takeFrom_53 (fun H locs hP hD hS => ?_)
  have hP : va_P D vwCl (xw c q (hsI σ6 390 (σ6.1 70))) H := hP
  obtain ⟨σ7, eσ7⟩ : ∃ z : hsS, z = hsI σ6 390 (σ6.1 70) := ⟨_, rfl⟩
  rw [← eσ7] at hP
  have hD : va_D (wdA 36 q) (xw c q σ7) := xw_D hD0
  have hw := hw σ7 eσ7
  refine lv_aload_n hx hb dX1_takeFrom_56 rfl (lv_at hl 0 rfl) ?_
  refine lv_aload_n hx hb dX1_takeFrom_57 rfl (lv_at hl 1 rfl) ?_
  refine va_get (D := D) (ci := 1) (C := RX1) (T := TX1) (N := 12) hx hb htb inX1 hown hK hP 1 (xw_1 c q σ7) rfl 7 (by decide) (htb _ tb_154) (fun _ h9 => h9) rfl dX1_takeFrom_58 ?_
  refine va_put (D := D) (ci := 1) (ty := .int) (C := RX1) (T := TX1) (N := 12) hx hb htb inX1 tyX1 tyX1_ok nmX1 hown hK hP hD hS 6 (xw_6 c q σ7) rfl 7 (by decide) (htb _ tb_154) (fun _ h9 => h9) rfl (by decide +kernel) rfl rfl (Nat.le_of_ble_eq_true rfl) dX1_takeFrom_61 (fun H locs hP hD hS => ?_)
  have hP : va_P D vwCl (xw c q (hsI σ7 391 (σ7.1 71))) H := hP
  obtain ⟨σ8, eσ8⟩ : ∃ z : hsS, z = hsI σ7 391 (σ7.1 71) := ⟨_, rfl⟩
  rw [← eσ8] at hP
  have hD : va_D (wdA 36 q) (xw c q σ8) := xw_D hD0
  have hw := hw σ8 eσ8
  refine lv_aload_n hx hb dX1_takeFrom_64 rfl (lv_at hl 1 rfl) ?_
  refine va_get (D := D) (ci := 1) (C := RX1) (T := TX1) (N := 12) hx hb htb inX1 hown hK hP 1 (xw_1 c q σ8) rfl 8 (by decide) (htb _ tb_156) (fun _ h9 => h9) rfl dX1_takeFrom_65 ?_
  refine lv_iconst (v := (0 : Int32)) hx hb dX1_takeFrom_68 (by decide) ?_
  refine lv_aload_n hx hb dX1_takeFrom_69 rfl (lv_at hl 0 rfl) ?_
  refine va_get (D := D) (ci := 1) (C := RX1) (T := TX1) (N := 12) hx hb htb inX1 hown hK hP 6 (xw_6 c q σ8) rfl 8 (by decide) (htb _ tb_156) (fun _ h9 => h9) rfl dX1_takeFrom_70 ?_
  refine lv_iconst (v := (0 : Int32)) hx hb dX1_takeFrom_73 (by decide) ?_
  refine lv_bipush (v := (8 : Int32)) hx hb dX1_takeFrom_74 (by decide) ?_
  refine va_copyi (ty := .int) hx hb (hml.trans hl.1.symm) hown (htb _ tb_572) (htb _ tb_574) (htb _ tb_573) (htb _ tb_110) hK hP hD hS 2 7 0 4 (xw_2 c q σ8) (xw_7 c q σ8) rfl rfl rfl (by decide) (by decide) (by decide) (by decide) (by decide) (fun _ _ => rfl) (Nat.le_of_ble_eq_true rfl) (Nat.le_of_ble_eq_true rfl) dX1_takeFrom_76 (fun H locs hP hD hS => ?_)
  have hP : va_P D vwCl (xw c q (hsA σ8 7 (va_cpy (σ8.2.1 2) (σ8.2.1 7) (0 : Int32).toNatClampNeg (0 : Int32).toNatClampNeg (8 : Int32).toNatClampNeg))) H := hP
  obtain ⟨σ9, eσ9⟩ : ∃ z : hsS, z = hsA σ8 7 (va_cpy (σ8.2.1 2) (σ8.2.1 7) (0 : Int32).toNatClampNeg (0 : Int32).toNatClampNeg (8 : Int32).toNatClampNeg) := ⟨_, rfl⟩
  rw [← eσ9] at hP
  have hD : va_D (wdA 36 q) (xw c q σ9) := xw_D hD0
  have hw := hw σ9 eσ9
  refine lv_aload_n hx hb dX1_takeFrom_79 rfl (lv_at hl 1 rfl) ?_
  refine va_get (D := D) (ci := 1) (C := RX1) (T := TX1) (N := 12) hx hb htb inX1 hown hK hP 1 (xw_1 c q σ9) rfl 9 (by decide) (htb _ tb_158) (fun _ h9 => h9) rfl dX1_takeFrom_80 ?_
  refine lv_iconst (v := (0 : Int32)) hx hb dX1_takeFrom_83 (by decide) ?_
  refine lv_aload_n hx hb dX1_takeFrom_84 rfl (lv_at hl 0 rfl) ?_
  refine va_get (D := D) (ci := 1) (C := RX1) (T := TX1) (N := 12) hx hb htb inX1 hown hK hP 6 (xw_6 c q σ9) rfl 9 (by decide) (htb _ tb_158) (fun _ h9 => h9) rfl dX1_takeFrom_85 ?_
  refine lv_iconst (v := (0 : Int32)) hx hb dX1_takeFrom_88 (by decide) ?_
  refine lv_bipush (v := (72 : Int32)) hx hb dX1_takeFrom_89 (by decide) ?_
  refine va_copyi (ty := .int) hx hb (hml.trans hl.1.symm) hown (htb _ tb_572) (htb _ tb_574) (htb _ tb_573) (htb _ tb_110) hK hP hD hS 3 8 1 5 (xw_3 c q σ9) (xw_8 c q σ9) rfl rfl rfl (by decide) (by decide) (by decide) (by decide) (by decide) (fun _ _ => rfl) (Nat.le_of_ble_eq_true rfl) (Nat.le_of_ble_eq_true rfl) dX1_takeFrom_91 (fun H locs hP hD hS => ?_)
  have hP : va_P D vwCl (xw c q (hsA σ9 8 (va_cpy (σ9.2.1 3) (σ9.2.1 8) (0 : Int32).toNatClampNeg (0 : Int32).toNatClampNeg (72 : Int32).toNatClampNeg))) H := hP
  obtain ⟨σ10, eσ10⟩ : ∃ z : hsS, z = hsA σ9 8 (va_cpy (σ9.2.1 3) (σ9.2.1 8) (0 : Int32).toNatClampNeg (0 : Int32).toNatClampNeg (72 : Int32).toNatClampNeg) := ⟨_, rfl⟩
  rw [← eσ10] at hP
  have hD : va_D (wdA 36 q) (xw c q σ10) := xw_D hD0
  have hw := hw σ10 eσ10
  refine lv_aload_n hx hb dX1_takeFrom_94 rfl (lv_at hl 1 rfl) ?_
  refine va_get (D := D) (ci := 1) (C := RX1) (T := TX1) (N := 12) hx hb htb inX1 hown hK hP 1 (xw_1 c q σ10) rfl 10 (by decide) (htb _ tb_159) (fun _ h9 => h9) rfl dX1_takeFrom_95 ?_
  refine lv_iconst (v := (0 : Int32)) hx hb dX1_takeFrom_98 (by decide) ?_
  refine lv_aload_n hx hb dX1_takeFrom_99 rfl (lv_at hl 0 rfl) ?_
  refine va_get (D := D) (ci := 1) (C := RX1) (T := TX1) (N := 12) hx hb htb inX1 hown hK hP 6 (xw_6 c q σ10) rfl 10 (by decide) (htb _ tb_159) (fun _ h9 => h9) rfl dX1_takeFrom_100 ?_
  refine lv_iconst (v := (0 : Int32)) hx hb dX1_takeFrom_103 (by decide) ?_
  refine lv_bipush (v := (8 : Int32)) hx hb dX1_takeFrom_104 (by decide) ?_
  refine va_copyi (ty := .int) hx hb (hml.trans hl.1.symm) hown (htb _ tb_572) (htb _ tb_574) (htb _ tb_573) (htb _ tb_110) hK hP hD hS 4 9 2 6 (xw_4 c q σ10) (xw_9 c q σ10) rfl rfl rfl (by decide) (by decide) (by decide) (by decide) (by decide) (fun _ _ => rfl) (Nat.le_of_ble_eq_true rfl) (Nat.le_of_ble_eq_true rfl) dX1_takeFrom_106 (fun H locs hP hD hS => ?_)
  have hP : va_P D vwCl (xw c q (hsA σ10 9 (va_cpy (σ10.2.1 4) (σ10.2.1 9) (0 : Int32).toNatClampNeg (0 : Int32).toNatClampNeg (8 : Int32).toNatClampNeg))) H := hP
  obtain ⟨σ11, eσ11⟩ : ∃ z : hsS, z = hsA σ10 9 (va_cpy (σ10.2.1 4) (σ10.2.1 9) (0 : Int32).toNatClampNeg (0 : Int32).toNatClampNeg (8 : Int32).toNatClampNeg) := ⟨_, rfl⟩
  rw [← eσ11] at hP
  have hD : va_D (wdA 36 q) (xw c q σ11) := xw_D hD0
  have hw := hw σ11 eσ11
  refine lv_aload_n hx hb dX1_takeFrom_109 rfl (lv_at hl 1 rfl) ?_
  refine va_get (D := D) (ci := 1) (C := RX1) (T := TX1) (N := 12) hx hb htb inX1 hown hK hP 1 (xw_1 c q σ11) rfl 11 (by decide) (htb _ tb_161) (fun _ h9 => h9) rfl dX1_takeFrom_110 ?_
  refine lv_iconst (v := (0 : Int32)) hx hb dX1_takeFrom_113 (by decide) ?_
  refine lv_aload_n hx hb dX1_takeFrom_114 rfl (lv_at hl 0 rfl) ?_
  refine va_get (D := D) (ci := 1) (C := RX1) (T := TX1) (N := 12) hx hb htb inX1 hown hK hP 6 (xw_6 c q σ11) rfl 11 (by decide) (htb _ tb_161) (fun _ h9 => h9) rfl dX1_takeFrom_115 ?_
  refine lv_iconst (v := (0 : Int32)) hx hb dX1_takeFrom_118 (by decide) ?_
  refine lv_bipush (v := (8 : Int32)) hx hb dX1_takeFrom_119 (by decide) ?_
  refine va_copyi (ty := .int) hx hb (hml.trans hl.1.symm) hown (htb _ tb_572) (htb _ tb_574) (htb _ tb_573) (htb _ tb_110) hK hP hD hS 5 10 3 7 (xw_5 c q σ11) (xw_10 c q σ11) rfl rfl rfl (by decide) (by decide) (by decide) (by decide) (by decide) (fun _ _ => rfl) (Nat.le_of_ble_eq_true rfl) (Nat.le_of_ble_eq_true rfl) dX1_takeFrom_121 (fun H locs hP hD hS => ?_)
  have hP : va_P D vwCl (xw c q (hsA σ11 10 (va_cpy (σ11.2.1 5) (σ11.2.1 10) (0 : Int32).toNatClampNeg (0 : Int32).toNatClampNeg (8 : Int32).toNatClampNeg))) H := hP
  obtain ⟨σ12, eσ12⟩ : ∃ z : hsS, z = hsA σ11 10 (va_cpy (σ11.2.1 5) (σ11.2.1 10) (0 : Int32).toNatClampNeg (0 : Int32).toNatClampNeg (8 : Int32).toNatClampNeg) := ⟨_, rfl⟩
  rw [← eσ12] at hP
  have hD : va_D (wdA 36 q) (xw c q σ12) := xw_D hD0
  have hw := hw σ12 eσ12
  exact W.vret hx hb hr (fun t ht hW => ⟨⟨σ12, rfl, hw, by unfold wdB; rw [ht]; exact hP⟩, hS.F ht⟩) hS.2.2 dX1_takeFrom_124
def wX7_nthUnused_L5 (z0 : Int32) (z1 : Int32) (z2 : Int32) (K24 : Int32 → Int32 → hsS → Prop) (K36 : Int32 → Int32 → hsS → Prop) (post : Int32 → hsS → Prop) : Nat → Int32 → Int32 → hsS → Prop
  | 0, _, _, _ => False
  | n + 1, y3, y4, σ => ((z2 ≤ y4 → K36 y3 y4 σ) ∧ (¬ z2 ≤ y4 → ((((z0 >>> (y4 &&& 31)) &&& (1 : Int32)) = (0 : Int32) → ((y3 = (0 : Int32) → K24 y3 y4 σ) ∧ (¬ y3 = (0 : Int32) → ∀ v4 : Int32, v4 = y3 + (-1 : Int32) → ∀ v5 : Int32, v5 = y4 + (1 : Int32) → wX7_nthUnused_L5 z0 z1 z2 K24 K36 post n v4 v5 σ))) ∧ (¬ ((z0 >>> (y4 &&& 31)) &&& (1 : Int32)) = (0 : Int32) → ∀ v6 : Int32, v6 = y4 + (1 : Int32) → wX7_nthUnused_L5 z0 z1 z2 K24 K36 post n y3 v6 σ))))
def wX7_nthUnused (x0 : Int32) (x1 : Int32) (x2 : Int32) (post : Int32 → hsS → Prop) (σ : hsS) : Prop := ∃ n7, wX7_nthUnused_L5 x0 x1 x2 (fun v8 v9 σ10 => post v9 σ10) (fun v11 v12 σ13 => post (0 : Int32) σ13) post n7 x1 (0 : Int32) σ
set_option maxHeartbeats 4000000 in
set_option maxRecDepth 100000 in
theorem kcX7_nthUnused_x (l : Launch) (D : va_G) (c : Nat → ClassId) (q : Nat → Nat) (ev : State → Heap → Prop) (hev : evOK (wdA 36 q) ev) (σ : hsS) (x0 : Int32) (x1 : Int32) (x2 : Int32) (post : Int32 → hsS → Prop) (hw : wX7_nthUnused x0 x1 x2 post σ) : Met l yX7_nthUnused (Cond.code yX7_nthUnused cX7_nthUnused 5 (some .int) :: tb_L) { frames := 0, cells := 0, slots := 0, locals := 0 } (wdPc D (xw c q) (xwT c) (wdA 36 q) ev σ [.int x0, .int x1, .int x2]) (va_Qi post (wdB D (xw c q)) (wdA 36 q)) 0 0 (wdA 36 q) := by
  refine Met.ofW (cc := cX7_nthUnused) (maxL := 5) (ret := (some .int)) (by decide) rfl ?_
  intro p e s m args below meth c₀ s₁ Bd hml hv
  obtain ⟨rfl, hP, hK, hD0, hE⟩ := hv
  have hx := Bd.exec
  have hb := Bd.bytes
  have hr := Bd.returns
  have hts := atoms_spec (ws := Cond.code yX7_nthUnused cX7_nthUnused 5 (some .int) :: tb_L) Bd.pre
  have htb : ∀ w ∈ tb_L, w.before [.int x0, .int x1, .int x2].toArray s = true := fun w h => hts w (List.mem_cons_of_mem _ h)
  have hown : s.vm.findClass RX7 = some m.cls := findClass_of_methodNamed Bd.named
  have hlocks := Bd.notSynchronized
  have hS : va_S (wdA 36 q) s.heap s.heap [] := va_S.rf
  have hD := hD0
  have L5 : ∀ (K24 : Int32 → Int32 → hsS → Prop) (K36 : Int32 → Int32 → hsS → Prop) (z0 : Int32) (z1 : Int32) (z2 : Int32) (n : Nat) (y3 : Int32) (y4 : Int32) (σ : hsS) (H : Heap) (locs : List Loc) (ls : Array Slot), wX7_nthUnused_L5 z0 z1 z2 K24 K36 post n y3 y4 σ → (∀ (y3 : Int32) (y4 : Int32) (σ : hsS) (H : Heap) (locs : List Loc) (ls : Array Slot), K24 y3 y4 σ → va_P D vwCl (xw c q σ) H → va_S (wdA 36 q) s.heap H locs → lv_has ls 5 [(0, .int z0), (1, .int z1), (2, .int z2), (3, .int y3), (4, .int y4)] → W p l e (headSpec (Cond.code yX7_nthUnused cX7_nthUnused 5 (some .int) :: tb_L) { frames := 0, cells := 0, slots := 0, locals := 0 }).room s m [.int x0, .int x1, .int x2].toArray below meth c₀ H locs 0 0 (MQ below (va_Qi post (wdB D (xw c q)) (wdA 36 q)) [.int x0, .int x1, .int x2].toArray s 0 0 (wdA 36 q)) (F0 m 24 ls [])) → (∀ (y3 : Int32) (y4 : Int32) (σ : hsS) (H : Heap) (locs : List Loc) (ls : Array Slot), K36 y3 y4 σ → va_P D vwCl (xw c q σ) H → va_S (wdA 36 q) s.heap H locs → lv_has ls 5 [(0, .int z0), (1, .int z1), (2, .int z2), (3, .int y3), (4, .int y4)] → W p l e (headSpec (Cond.code yX7_nthUnused cX7_nthUnused 5 (some .int) :: tb_L) { frames := 0, cells := 0, slots := 0, locals := 0 }).room s m [.int x0, .int x1, .int x2].toArray below meth c₀ H locs 0 0 (MQ below (va_Qi post (wdB D (xw c q)) (wdA 36 q)) [.int x0, .int x1, .int x2].toArray s 0 0 (wdA 36 q)) (F0 m 36 ls [])) → va_P D vwCl (xw c q σ) H → va_S (wdA 36 q) s.heap H locs → lv_has ls 5 [(0, .int z0), (1, .int z1), (2, .int z2), (3, .int y3), (4, .int y4)] → W p l e (headSpec (Cond.code yX7_nthUnused cX7_nthUnused 5 (some .int) :: tb_L) { frames := 0, cells := 0, slots := 0, locals := 0 }).room s m [.int x0, .int x1, .int x2].toArray below meth c₀ H locs 0 0 (MQ below (va_Qi post (wdB D (xw c q)) (wdA 36 q)) [.int x0, .int x1, .int x2].toArray s 0 0 (wdA 36 q)) (F0 m 5 ls []) := by
    intro K24 K36 z0 z1 z2 n
    induction n with
    | zero =>
      intro y3 y4 σ H locs ls hw hk24 hk36 hP hS hl
      exact (show False from hw).elim
    | succ n ih =>
      intro y3 y4 σ H locs ls hw hk24 hk36 hP hS hl
      rw [wX7_nthUnused_L5] at hw
      have hD : va_D (wdA 36 q) (xw c q σ) := xw_D hD0
      refine lv_iload hx hb dX7_nthUnused_5 (lv_at hl 4 rfl) ?_
      refine lv_iload_n hx hb dX7_nthUnused_7 rfl (lv_at hl 2 rfl) ?_
      refine lv_icmp_ge (tgt := 36) hx hb dX7_nthUnused_8 (by decide) (fun c1 => ?_) (fun c1 => ?_)
      · have hw := hw.1 c1
        exact hk36 y3 y4 σ _ _ _ hw hP hS (lv_sub hl [0, 1, 2, 3, 4] rfl)
      · have hw := hw.2 c1
        refine lv_iload_n hx hb dX7_nthUnused_11 rfl (lv_at hl 0 rfl) ?_
        refine lv_iload hx hb dX7_nthUnused_12 (lv_at hl 4 rfl) ?_
        refine lv_ishr hx hb dX7_nthUnused_14 ?_
        refine lv_iconst (v := (1 : Int32)) hx hb dX7_nthUnused_15 (by decide) ?_
        refine lv_iand hx hb dX7_nthUnused_16 ?_
        refine lv_if_ne (tgt := 30) hx hb dX7_nthUnused_17 (by decide) (fun c2 => ?_) (fun c2 => ?_)
        · have hw := hw.2 c2
          obtain ⟨v6, ev6⟩ : ∃ z : Int32, z = y4 + (1 : Int32) := ⟨_, rfl⟩
          have hw := hw v6 ev6
          refine lv_iinc (v := v6) (lv' := [(4, .int v6), (0, .int z0), (1, .int z1), (2, .int z2), (3, .int y3)]) hx hb dX7_nthUnused_30 hl (k := 4) rfl (by rw [ev6]; rfl) (by decide) rfl (fun ls hl => ?_)
          refine lv_goto (tgt := 5) hx hb dX7_nthUnused_33 (by decide) ?_
          exact ih y3 v6 σ _ _ _ hw hk24 hk36 hP hS (lv_sub hl [1, 2, 3, 4, 0] rfl)
        · have hw := hw.1 c2
          refine lv_iload_n hx hb dX7_nthUnused_20 rfl (lv_at hl 3 rfl) ?_
          refine lv_if_ne (tgt := 27) hx hb dX7_nthUnused_21 (by decide) (fun c3 => ?_) (fun c3 => ?_)
          · have hw := hw.2 c3
            obtain ⟨v4, ev4⟩ : ∃ z : Int32, z = y3 + (-1 : Int32) := ⟨_, rfl⟩
            have hw := hw v4 ev4
            refine lv_iinc (v := v4) (lv' := [(3, .int v4), (0, .int z0), (1, .int z1), (2, .int z2), (4, .int y4)]) hx hb dX7_nthUnused_27 hl (k := 3) rfl (by rw [ev4]; rfl) (by decide) rfl (fun ls hl => ?_)
            obtain ⟨v5, ev5⟩ : ∃ z : Int32, z = y4 + (1 : Int32) := ⟨_, rfl⟩
            have hw := hw v5 ev5
            refine lv_iinc (v := v5) (lv' := [(4, .int v5), (3, .int v4), (0, .int z0), (1, .int z1), (2, .int z2)]) hx hb dX7_nthUnused_30 hl (k := 4) rfl (by rw [ev5]; rfl) (by decide) rfl (fun ls hl => ?_)
            refine lv_goto (tgt := 5) hx hb dX7_nthUnused_33 (by decide) ?_
            exact ih v4 v5 σ _ _ _ hw hk24 hk36 hP hS (lv_sub hl [2, 3, 4, 1, 0] rfl)
          · have hw := hw.1 c3
            exact hk24 y3 y4 σ _ _ _ hw hP hS (lv_sub hl [0, 1, 2, 3, 4] rfl)
  have hl := lv_entry ([.int x0, .int x1, .int x2]) (n := 5) (Nat.le_of_ble_eq_true rfl)
  rw [lg_entry_eq]
  generalize (lg_sl ([.int x0, .int x1, .int x2]) ++ List.replicate (5 - (lg_sl ([.int x0, .int x1, .int x2])).length) Slot.unset).toArray = ls at hl ⊢
  have hl : lv_has ls 5 [(0, .int x0), (1, .int x1), (2, .int x2)] := hl
  unfold wX7_nthUnused at hw
  refine lv_iload_n hx hb dX7_nthUnused_0 rfl (lv_at hl 1 rfl) ?_
  refine lv_istore_n (lv' := [(3, .int x1), (0, .int x0), (1, .int x1), (2, .int x2)]) hx hb dX7_nthUnused_1 rfl hl (by decide) rfl (fun ls hl => ?_)
  refine lv_iconst (v := (0 : Int32)) hx hb dX7_nthUnused_2 (by decide) ?_
  refine lv_istore (lv' := [(4, .int (0 : Int32)), (3, .int x1), (0, .int x0), (1, .int x1), (2, .int x2)]) hx hb dX7_nthUnused_3 hl (by decide) rfl (fun ls hl => ?_)
  obtain ⟨n7, hw⟩ := hw
  refine L5 _ _ x0 x1 x2 n7 x1 (0 : Int32) σ _ _ _ hw ?_ ?_ hP hS (lv_sub hl [2, 3, 4, 1, 0] rfl)
  · intro v8 v9 σ10 H locs ls hw hP hS hl
    have hD : va_D (wdA 36 q) (xw c q σ10) := xw_D hD0
    refine lv_iload hx hb dX7_nthUnused_24 (lv_at hl 4 rfl) ?_
    exact W.iret hx hb hr (fun t ht hW => ⟨⟨_, σ10, rfl, hw, by unfold wdB; rw [ht]; exact hP⟩, hS.F ht⟩) hS.2.2 dX7_nthUnused_26
  · intro v11 v12 σ13 H locs ls hw hP hS hl
    have hD : va_D (wdA 36 q) (xw c q σ13) := xw_D hD0
    refine lv_iconst (v := (0 : Int32)) hx hb dX7_nthUnused_36 (by decide) ?_
    exact W.iret hx hb hr (fun t ht hW => ⟨⟨_, σ13, rfl, hw, by unfold wdB; rw [ht]; exact hP⟩, hS.F ht⟩) hS.2.2 dX7_nthUnused_37
def wX7_nthOrder_L8 (b2 : Nat) (z0 : Int32) (z1 : Int32) (K70 : Int32 → Int32 → Int32 → hsS → Prop) (post : hsS → Prop) : Nat → Int32 → Int32 → Int32 → hsS → Prop
  | 0, _, _, _, _ => False
  | n + 1, y3, y4, y5, σ => ((z1 ≤ y5 → K70 y3 y4 y5 σ) ∧ (¬ z1 ≤ y5 → (((9 : Int32) ≤ y5 → K70 y3 y4 y5 σ) ∧ (¬ (9 : Int32) ≤ y5 → wX7_factorial ((z1 - (1 : Int32)) - y5) (fun r3 σ4 => ¬ r3 = 0 ∧ wX7_nthUnused y3 (y4 / r3) z1 (fun r5 σ6 => vp_in y5 9 ∧ ∀ σ7 : hsS, σ7 = hsA σ6 b2 (upd (σ6.2.1 b2) y5.toNatClampNeg r5) → ∀ v8 : Int32, v8 = y3 ||| ((1 : Int32) <<< (r5 &&& 31)) → ¬ r3 = 0 ∧ ∀ v9 : Int32, v9 = y4 - y4 / r3 * r3 → ∀ v10 : Int32, v10 = y5 + (1 : Int32) → wX7_nthOrder_L8 b2 z0 z1 K70 post n v8 v9 v10 σ7) σ4) σ))))
def wX7_nthOrder (x0 : Int32) (x1 : Int32) (b2 : Nat) (post : hsS → Prop) (σ : hsS) : Prop := ∃ n11, wX7_nthOrder_L8 b2 x0 x1 (fun v12 v13 v14 σ15 => post σ15) post n11 (0 : Int32) x0 (0 : Int32) σ
set_option maxHeartbeats 4000000 in
set_option maxRecDepth 100000 in
theorem kcX7_nthOrder_35 (l : Launch) (D : va_G) (c : Nat → ClassId) (q : Nat → Nat) (ev : State → Heap → Prop) (hev : evOK (wdA 36 q) ev) (tF : Nat) (hF : ∀ (U : State) (H : Heap), ev U H → va_Z "StrikeHall" "FACTORIALS" "[I" (.ref tF) (wdA 36 q) U H ∧ va_T .int tF 10 (fun j => .int (xfact j)) (wdA 36 q) U H) (σ : hsS) (x0 : Int32) (x1 : Int32) (post : hsS → Prop) (hw : wX7_nthOrder x0 x1 35 post σ) : Met l yX7_nthOrder (Cond.code yX7_nthOrder cX7_nthOrder 8 none :: tb_L) { frames := 2, cells := 0, slots := 0, locals := 60 } (wdPc D (xw c q) (xwT c) (wdA 36 q) ev σ [.int x0, .int x1, .ref (q 35)]) (va_Qv post (wdB D (xw c q)) (wdA 36 q)) 0 0 (wdA 36 q) := by
  refine Met.ofW (cc := cX7_nthOrder) (maxL := 8) (ret := none) (by decide) rfl ?_
  intro p e s m args below meth c₀ s₁ Bd hml hv
  obtain ⟨rfl, hP, hK, hD0, hE⟩ := hv
  have hx := Bd.exec
  have hb := Bd.bytes
  have hr := Bd.returns
  have hts := atoms_spec (ws := Cond.code yX7_nthOrder cX7_nthOrder 8 none :: tb_L) Bd.pre
  have htb : ∀ w ∈ tb_L, w.before [.int x0, .int x1, .ref (q 35)].toArray s = true := fun w h => hts w (List.mem_cons_of_mem _ h)
  have hown : s.vm.findClass RX7 = some m.cls := findClass_of_methodNamed Bd.named
  have hlocks := Bd.notSynchronized
  have hS : va_S (wdA 36 q) s.heap s.heap [] := va_S.rf
  have hD := hD0
  have L8 : ∀ (K70 : Int32 → Int32 → Int32 → hsS → Prop) (z0 : Int32) (z1 : Int32) (n : Nat) (y3 : Int32) (y4 : Int32) (y5 : Int32) (σ : hsS) (H : Heap) (locs : List Loc) (ls : Array Slot), wX7_nthOrder_L8 35 z0 z1 K70 post n y3 y4 y5 σ → (∀ (y3 : Int32) (y4 : Int32) (y5 : Int32) (σ : hsS) (H : Heap) (locs : List Loc) (ls : Array Slot), K70 y3 y4 y5 σ → va_P D vwCl (xw c q σ) H → va_S (wdA 36 q) s.heap H locs → lv_has ls 8 [(0, .int z0), (1, .int z1), (2, .ref (q 35)), (3, .int y3), (4, .int y4), (5, .int y5)] → W p l e (headSpec (Cond.code yX7_nthOrder cX7_nthOrder 8 none :: tb_L) { frames := 2, cells := 0, slots := 0, locals := 60 }).room s m [.int x0, .int x1, .ref (q 35)].toArray below meth c₀ H locs 0 0 (MQ below (va_Qv post (wdB D (xw c q)) (wdA 36 q)) [.int x0, .int x1, .ref (q 35)].toArray s 0 0 (wdA 36 q)) (F0 m 70 ls [])) → va_P D vwCl (xw c q σ) H → va_S (wdA 36 q) s.heap H locs → lv_has ls 8 [(0, .int z0), (1, .int z1), (2, .ref (q 35)), (3, .int y3), (4, .int y4), (5, .int y5)] → W p l e (headSpec (Cond.code yX7_nthOrder cX7_nthOrder 8 none :: tb_L) { frames := 2, cells := 0, slots := 0, locals := 60 }).room s m [.int x0, .int x1, .ref (q 35)].toArray below meth c₀ H locs 0 0 (MQ below (va_Qv post (wdB D (xw c q)) (wdA 36 q)) [.int x0, .int x1, .ref (q 35)].toArray s 0 0 (wdA 36 q)) (F0 m 8 ls []) := by
    intro K70 z0 z1 n
    induction n with
    | zero =>
      intro y3 y4 y5 σ H locs ls hw hk70 hP hS hl
      exact (show False from hw).elim
    | succ n ih =>
      intro y3 y4 y5 σ H locs ls hw hk70 hP hS hl
      rw [wX7_nthOrder_L8] at hw
      have hD : va_D (wdA 36 q) (xw c q σ) := xw_D hD0
      refine lv_iload hx hb dX7_nthOrder_8 (lv_at hl 5 rfl) ?_
      refine lv_iload_n hx hb dX7_nthOrder_10 rfl (lv_at hl 1 rfl) ?_
      refine lv_icmp_ge (tgt := 70) hx hb dX7_nthOrder_11 (by decide) (fun c1 => ?_) (fun c1 => ?_)
      · have hw := hw.1 c1
        exact hk70 y3 y4 y5 σ _ _ _ hw hP hS (lv_sub hl [0, 1, 2, 3, 4, 5] rfl)
      · have hw := hw.2 c1
        refine lv_iload hx hb dX7_nthOrder_14 (lv_at hl 5 rfl) ?_
        refine lv_aload_n hx hb dX7_nthOrder_16 rfl (lv_at hl 2 rfl) ?_
        refine va_alen (v := 9) (ty := .int) hx hb hK hP 35 25 (xw_35 c q σ) rfl rfl dX7_nthOrder_17 ?_
        refine lv_icmp_ge (tgt := 70) hx hb dX7_nthOrder_18 (by decide) (fun c2 => ?_) (fun c2 => ?_)
        · have hw := hw.1 c2
          exact hk70 y3 y4 y5 σ _ _ _ hw hP hS (lv_sub hl [0, 1, 2, 3, 4, 5] rfl)
        · have hw := hw.2 c2
          refine lv_iload_n hx hb dX7_nthOrder_21 rfl (lv_at hl 1 rfl) ?_
          refine lv_iconst (v := (1 : Int32)) hx hb dX7_nthOrder_22 (by decide) ?_
          refine lv_isub hx hb dX7_nthOrder_23 ?_
          refine lv_iload hx hb dX7_nthOrder_24 (lv_at hl 5 rfl) ?_
          refine lv_isub hx hb dX7_nthOrder_26 ?_
          refine va_calli (va_runS (As := [.int ((z1 - (1 : Int32)) - y5)]) (rest := []) ⟨hx, hb, hml, hown, htb⟩ (kcX7_factorial_x l D c q ev hev tF hF σ ((z1 - (1 : Int32)) - y5) _ hw) (tb_CS htb kX7_factorial tb_589 tb_558 ⟨Nat.le_of_ble_eq_true rfl, Nat.le_of_ble_eq_true rfl⟩) (wd_preS (wd := xw c q) hev hK hP hD hE hS) rfl rfl hl.1 rfl (lv_room (Nat.le_of_ble_eq_true rfl)) dX7_nthOrder_27 ⟨Nat.zero_le _, Nat.zero_le _⟩) hS (fun q _ h => h) (fun q h => h) (fun r3 σ4 t H1 locs1 ht hvm hw hB hz1 hk1 hS => ?_)
          have hP : va_P D vwCl (xw c q σ4) H1 := ht ▸ hB
          have hD : va_D (wdA 36 q) (xw c q σ4) := xw_D hD0
          refine lv_istore (lv' := [(6, .int r3), (0, .int z0), (1, .int z1), (2, .ref (q 35)), (3, .int y3), (4, .int y4), (5, .int y5)]) hx hb dX7_nthOrder_30 hl (by decide) rfl (fun ls hl => ?_)
          refine lv_iload_n hx hb dX7_nthOrder_32 rfl (lv_at hl 4 rfl) ?_
          refine lv_iload hx hb dX7_nthOrder_33 (lv_at hl 5 rfl) ?_
          refine lv_iload hx hb dX7_nthOrder_35 (lv_at hl 0 rfl) ?_
          refine lv_idiv hx hb dX7_nthOrder_37 hw.1 ?_
          have hw := hw.2
          refine lv_iload_n hx hb dX7_nthOrder_38 rfl (lv_at hl 2 rfl) ?_
          refine va_calli (va_runS (As := [.int y3, .int (y4 / r3), .int z1]) (rest := []) ⟨hx, hb, hml, hown, htb⟩ (kcX7_nthUnused_x l D c q ev hev σ4 y3 (y4 / r3) z1 _ hw) (tb_CS htb kX7_nthUnused tb_590 tb_591 ⟨Nat.le_of_ble_eq_true rfl, Nat.le_of_ble_eq_true rfl⟩) (wd_preS (wd := xw c q) hev hK hP hD hE hS) rfl rfl hl.1 rfl (lv_room (Nat.le_of_ble_eq_true rfl)) dX7_nthOrder_39 ⟨Nat.zero_le _, Nat.zero_le _⟩) hS (fun q _ h => h) (fun q h => h) (fun r5 σ6 t H1 locs1 ht hvm hw hB hz1 hk1 hS => ?_)
          have hP : va_P D vwCl (xw c q σ6) H1 := ht ▸ hB
          have hD : va_D (wdA 36 q) (xw c q σ6) := xw_D hD0
          refine lv_istore (lv' := [(7, .int r5), (6, .int r3), (0, .int z0), (1, .int z1), (2, .ref (q 35)), (3, .int y3), (4, .int y4), (5, .int y5)]) hx hb dX7_nthOrder_42 hl (by decide) rfl (fun ls hl => ?_)
          refine lv_aload_n hx hb dX7_nthOrder_44 rfl (lv_at hl 4 rfl) ?_
          refine lv_iload hx hb dX7_nthOrder_45 (lv_at hl 7 rfl) ?_
          refine lv_iload hx hb dX7_nthOrder_47 (lv_at hl 0 rfl) ?_
          refine va_iast hx hb hK hP hD hS 35 25 (xw_35 c q σ6) rfl hw.1 dX7_nthOrder_49 (fun H locs hP hD hS => ?_)
          have hw := hw.2
          have hP : va_P D vwCl (xw c q (hsA σ6 35 (upd (σ6.2.1 35) y5.toNatClampNeg r5))) H := hP
          obtain ⟨σ7, eσ7⟩ : ∃ z : hsS, z = hsA σ6 35 (upd (σ6.2.1 35) y5.toNatClampNeg r5) := ⟨_, rfl⟩
          rw [← eσ7] at hP
          have hD : va_D (wdA 36 q) (xw c q σ7) := xw_D hD0
          have hw := hw σ7 eσ7
          refine lv_iload_n hx hb dX7_nthOrder_50 rfl (lv_at hl 5 rfl) ?_
          refine lv_iconst (v := (1 : Int32)) hx hb dX7_nthOrder_51 (by decide) ?_
          refine lv_iload hx hb dX7_nthOrder_52 (lv_at hl 0 rfl) ?_
          refine lv_ishl hx hb dX7_nthOrder_54 ?_
          refine lv_ior hx hb dX7_nthOrder_55 ?_
          refine lv_topi (fun v8 ev8 => ?_)
          have hw := hw v8 ev8
          refine lv_istore_n (lv' := [(3, .int v8), (7, .int r5), (6, .int r3), (0, .int z0), (1, .int z1), (2, .ref (q 35)), (4, .int y4), (5, .int y5)]) hx hb dX7_nthOrder_56 rfl hl (by decide) rfl (fun ls hl => ?_)
          refine lv_iload hx hb dX7_nthOrder_57 (lv_at hl 6 rfl) ?_
          refine lv_iload hx hb dX7_nthOrder_59 (lv_at hl 2 rfl) ?_
          refine lv_irem hx hb dX7_nthOrder_61 hw.1 ?_
          have hw := hw.2
          refine lv_topi (fun v9 ev9 => ?_)
          have hw := hw v9 ev9
          refine lv_istore (lv' := [(4, .int v9), (3, .int v8), (7, .int r5), (6, .int r3), (0, .int z0), (1, .int z1), (2, .ref (q 35)), (5, .int y5)]) hx hb dX7_nthOrder_62 hl (by decide) rfl (fun ls hl => ?_)
          obtain ⟨v10, ev10⟩ : ∃ z : Int32, z = y5 + (1 : Int32) := ⟨_, rfl⟩
          have hw := hw v10 ev10
          refine lv_iinc (v := v10) (lv' := [(5, .int v10), (4, .int v9), (3, .int v8), (7, .int r5), (6, .int r3), (0, .int z0), (1, .int z1), (2, .ref (q 35))]) hx hb dX7_nthOrder_64 hl (k := 7) rfl (by rw [ev10]; rfl) (by decide) rfl (fun ls hl => ?_)
          refine lv_goto (tgt := 8) hx hb dX7_nthOrder_67 (by decide) ?_
          exact ih v8 v9 v10 σ7 _ _ _ hw hk70 hP hS (lv_sub hl [5, 6, 7, 2, 1, 0] rfl)
  have hl := lv_entry ([.int x0, .int x1, .ref (q 35)]) (n := 8) (Nat.le_of_ble_eq_true rfl)
  rw [lg_entry_eq]
  generalize (lg_sl ([.int x0, .int x1, .ref (q 35)]) ++ List.replicate (8 - (lg_sl ([.int x0, .int x1, .ref (q 35)])).length) Slot.unset).toArray = ls at hl ⊢
  have hl : lv_has ls 8 [(0, .int x0), (1, .int x1), (2, .ref (q 35))] := hl
  unfold wX7_nthOrder at hw
  refine lv_iconst (v := (0 : Int32)) hx hb dX7_nthOrder_0 (by decide) ?_
  refine lv_istore_n (lv' := [(3, .int (0 : Int32)), (0, .int x0), (1, .int x1), (2, .ref (q 35))]) hx hb dX7_nthOrder_1 rfl hl (by decide) rfl (fun ls hl => ?_)
  refine lv_iload_n hx hb dX7_nthOrder_2 rfl (lv_at hl 1 rfl) ?_
  refine lv_istore (lv' := [(4, .int x0), (3, .int (0 : Int32)), (0, .int x0), (1, .int x1), (2, .ref (q 35))]) hx hb dX7_nthOrder_3 hl (by decide) rfl (fun ls hl => ?_)
  refine lv_iconst (v := (0 : Int32)) hx hb dX7_nthOrder_5 (by decide) ?_
  refine lv_istore (lv' := [(5, .int (0 : Int32)), (4, .int x0), (3, .int (0 : Int32)), (0, .int x0), (1, .int x1), (2, .ref (q 35))]) hx hb dX7_nthOrder_6 hl (by decide) rfl (fun ls hl => ?_)
  obtain ⟨n11, hw⟩ := hw
  refine L8 _ x0 x1 n11 (0 : Int32) x0 (0 : Int32) σ _ _ _ hw ?_ hP hS (lv_sub hl [3, 4, 5, 2, 1, 0] rfl)
  intro v12 v13 v14 σ15 H locs ls hw hP hS hl
  have hD : va_D (wdA 36 q) (xw c q σ15) := xw_D hD0
  exact W.vret hx hb hr (fun t ht hW => ⟨⟨σ15, rfl, hw, by unfold wdB; rw [ht]; exact hP⟩, hS.F ht⟩) hS.2.2 dX7_nthOrder_70
set_option maxHeartbeats 4000000 in
set_option maxRecDepth 100000 in
theorem kcX1_putPlace_6 (l : Launch) (D : va_G) (c : Nat → ClassId) (q : Nat → Nat) (ev : State → Heap → Prop) (hev : evOK (wdA 36 q) ev) (σ : hsS) (x1 : Int32) (x2 : Int32) (x3 : Int32) (post : hsS → Prop) (hw : wX1_putPlace 6 x1 x2 x3 post σ) : Met l yX1_putPlace (Cond.code yX1_putPlace cX1_putPlace 4 none :: tb_L) { frames := 0, cells := 0, slots := 0, locals := 0 } (wdPc D (xw c q) (xwT c) (wdA 36 q) ev σ [.ref (q 6), .int x1, .int x2, .int x3]) (va_Qv post (wdB D (xw c q)) (wdA 36 q)) 0 0 (wdA 36 q) := by
  refine Met.ofW (cc := cX1_putPlace) (maxL := 4) (ret := none) (by decide) rfl ?_
  intro p e s m args below meth c₀ s₁ Bd hml hv
  obtain ⟨rfl, hP, hK, hD0, hE⟩ := hv
  have hx := Bd.exec
  have hb := Bd.bytes
  have hr := Bd.returns
  have hts := atoms_spec (ws := Cond.code yX1_putPlace cX1_putPlace 4 none :: tb_L) Bd.pre
  have htb : ∀ w ∈ tb_L, w.before [.ref (q 6), .int x1, .int x2, .int x3].toArray s = true := fun w h => hts w (List.mem_cons_of_mem _ h)
  have hown : s.vm.findClass RX1 = some m.cls := findClass_of_methodNamed Bd.named
  have hlocks := Bd.notSynchronized
  have hS : va_S (wdA 36 q) s.heap s.heap [] := va_S.rf
  have hD := hD0
  have hl := lv_entry ([.ref (q 6), .int x1, .int x2, .int x3]) (n := 4) (Nat.le_of_ble_eq_true rfl)
  rw [lg_entry_eq]
  generalize (lg_sl ([.ref (q 6), .int x1, .int x2, .int x3]) ++ List.replicate (4 - (lg_sl ([.ref (q 6), .int x1, .int x2, .int x3])).length) Slot.unset).toArray = ls at hl ⊢
  have hl : lv_has ls 4 [(0, .ref (q 6)), (1, .int x1), (2, .int x2), (3, .int x3)] := hl
  unfold wX1_putPlace at hw
  refine lv_aload_n hx hb dX1_putPlace_0 rfl (lv_at hl 0 rfl) ?_
  refine va_get (D := D) (ci := 1) (C := RX1) (T := TX1) (N := 12) hx hb htb inX1 hown hK hP 6 (xw_6 c q σ) rfl 9 (by decide) (htb _ tb_158) (fun _ h9 => h9) rfl dX1_putPlace_1 ?_
  refine lv_iload_n hx hb dX1_putPlace_4 rfl (lv_at hl 1 rfl) ?_
  refine lv_bipush (v := (9 : Int32)) hx hb dX1_putPlace_5 (by decide) ?_
  refine lv_imul hx hb dX1_putPlace_7 ?_
  refine lv_iload_n hx hb dX1_putPlace_8 rfl (lv_at hl 2 rfl) ?_
  refine lv_iadd hx hb dX1_putPlace_9 ?_
  refine lv_iload_n hx hb dX1_putPlace_10 rfl (lv_at hl 3 rfl) ?_
  refine va_iast hx hb hK hP hD hS 8 5 (xw_8 c q σ) rfl hw.1 dX1_putPlace_11 (fun H locs hP hD hS => ?_)
  have hw := hw.2
  have hP : va_P D vwCl (xw c q (hsA σ 8 (upd (σ.2.1 8) ((x1 * (9 : Int32)) + x2).toNatClampNeg x3))) H := hP
  obtain ⟨σ1, eσ1⟩ : ∃ z : hsS, z = hsA σ 8 (upd (σ.2.1 8) ((x1 * (9 : Int32)) + x2).toNatClampNeg x3) := ⟨_, rfl⟩
  rw [← eσ1] at hP
  have hD : va_D (wdA 36 q) (xw c q σ1) := xw_D hD0
  have hw := hw σ1 eσ1
  exact W.vret hx hb hr (fun t ht hW => ⟨⟨σ1, rfl, hw, by unfold wdB; rw [ht]; exact hP⟩, hS.F ht⟩) hS.2.2 dX1_putPlace_12
def wX1_putStrictOrder_L2 (b0 : Nat) (b2 : Nat) (z1 : Int32) (K31 : Int32 → hsS → Prop) (post : hsS → Prop) : Nat → Int32 → hsS → Prop
  | 0, _, _ => False
  | n + 1, y3, σ => (((σ.1 (64 * b0 + 0)) ≤ y3 → K31 y3 σ) ∧ (¬ (σ.1 (64 * b0 + 0)) ≤ y3 → (((9 : Int32) ≤ y3 → K31 y3 σ) ∧ (¬ (9 : Int32) ≤ y3 → vp_in y3 9 ∧ wX1_putPlace b0 z1 (σ.2.1 b2 y3.toNatClampNeg) y3 (fun σ4 => ∀ v5 : Int32, v5 = y3 + (1 : Int32) → wX1_putStrictOrder_L2 b0 b2 z1 K31 post n v5 σ4) σ))))
def wX1_putStrictOrder (b0 : Nat) (x1 : Int32) (b2 : Nat) (post : hsS → Prop) (σ : hsS) : Prop := ∃ n6, wX1_putStrictOrder_L2 b0 b2 x1 (fun v7 σ8 => post σ8) post n6 (0 : Int32) σ
set_option maxHeartbeats 4000000 in
set_option maxRecDepth 100000 in
theorem kcX1_putStrictOrder_6_35 (l : Launch) (D : va_G) (c : Nat → ClassId) (q : Nat → Nat) (ev : State → Heap → Prop) (hev : evOK (wdA 36 q) ev) (σ : hsS) (x1 : Int32) (post : hsS → Prop) (hw : wX1_putStrictOrder 6 x1 35 post σ) : Met l yX1_putStrictOrder (Cond.code yX1_putStrictOrder cX1_putStrictOrder 4 none :: tb_L) { frames := 1, cells := 0, slots := 0, locals := 23 } (wdPc D (xw c q) (xwT c) (wdA 36 q) ev σ [.ref (q 6), .int x1, .ref (q 35)]) (va_Qv post (wdB D (xw c q)) (wdA 36 q)) 0 0 (wdA 36 q) := by
  refine Met.ofW (cc := cX1_putStrictOrder) (maxL := 4) (ret := none) (by decide) rfl ?_
  intro p e s m args below meth c₀ s₁ Bd hml hv
  obtain ⟨rfl, hP, hK, hD0, hE⟩ := hv
  have hx := Bd.exec
  have hb := Bd.bytes
  have hr := Bd.returns
  have hts := atoms_spec (ws := Cond.code yX1_putStrictOrder cX1_putStrictOrder 4 none :: tb_L) Bd.pre
  have htb : ∀ w ∈ tb_L, w.before [.ref (q 6), .int x1, .ref (q 35)].toArray s = true := fun w h => hts w (List.mem_cons_of_mem _ h)
  have hown : s.vm.findClass RX1 = some m.cls := findClass_of_methodNamed Bd.named
  have hlocks := Bd.notSynchronized
  have hS : va_S (wdA 36 q) s.heap s.heap [] := va_S.rf
  have hD := hD0
  have L2 : ∀ (K31 : Int32 → hsS → Prop) (z1 : Int32) (n : Nat) (y3 : Int32) (σ : hsS) (H : Heap) (locs : List Loc) (ls : Array Slot), wX1_putStrictOrder_L2 6 35 z1 K31 post n y3 σ → (∀ (y3 : Int32) (σ : hsS) (H : Heap) (locs : List Loc) (ls : Array Slot), K31 y3 σ → va_P D vwCl (xw c q σ) H → va_S (wdA 36 q) s.heap H locs → lv_has ls 4 [(0, .ref (q 6)), (1, .int z1), (2, .ref (q 35)), (3, .int y3)] → W p l e (headSpec (Cond.code yX1_putStrictOrder cX1_putStrictOrder 4 none :: tb_L) { frames := 1, cells := 0, slots := 0, locals := 23 }).room s m [.ref (q 6), .int x1, .ref (q 35)].toArray below meth c₀ H locs 0 0 (MQ below (va_Qv post (wdB D (xw c q)) (wdA 36 q)) [.ref (q 6), .int x1, .ref (q 35)].toArray s 0 0 (wdA 36 q)) (F0 m 31 ls [])) → va_P D vwCl (xw c q σ) H → va_S (wdA 36 q) s.heap H locs → lv_has ls 4 [(0, .ref (q 6)), (1, .int z1), (2, .ref (q 35)), (3, .int y3)] → W p l e (headSpec (Cond.code yX1_putStrictOrder cX1_putStrictOrder 4 none :: tb_L) { frames := 1, cells := 0, slots := 0, locals := 23 }).room s m [.ref (q 6), .int x1, .ref (q 35)].toArray below meth c₀ H locs 0 0 (MQ below (va_Qv post (wdB D (xw c q)) (wdA 36 q)) [.ref (q 6), .int x1, .ref (q 35)].toArray s 0 0 (wdA 36 q)) (F0 m 2 ls []) := by
    intro K31 z1 n
    induction n with
    | zero =>
      intro y3 σ H locs ls hw hk31 hP hS hl
      exact (show False from hw).elim
    | succ n ih =>
      intro y3 σ H locs ls hw hk31 hP hS hl
      rw [wX1_putStrictOrder_L2] at hw
      have hD : va_D (wdA 36 q) (xw c q σ) := xw_D hD0
      refine lv_iload_n hx hb dX1_putStrictOrder_2 rfl (lv_at hl 3 rfl) ?_
      refine lv_aload_n hx hb dX1_putStrictOrder_3 rfl (lv_at hl 0 rfl) ?_
      refine va_get (D := D) (ci := 1) (C := RX1) (T := TX1) (N := 12) hx hb htb inX1 hown hK hP 6 (xw_6 c q σ) rfl 0 (by decide) (htb _ tb_126) (fun _ h9 => h9) rfl dX1_putStrictOrder_4 ?_
      refine lv_icmp_ge (tgt := 31) hx hb dX1_putStrictOrder_7 (by decide) (fun c1 => ?_) (fun c1 => ?_)
      · have hw := hw.1 c1
        exact hk31 y3 σ _ _ _ hw hP hS (lv_sub hl [0, 1, 2, 3] rfl)
      · have hw := hw.2 c1
        refine lv_iload_n hx hb dX1_putStrictOrder_10 rfl (lv_at hl 3 rfl) ?_
        refine lv_aload_n hx hb dX1_putStrictOrder_11 rfl (lv_at hl 2 rfl) ?_
        refine va_alen (v := 9) (ty := .int) hx hb hK hP 35 25 (xw_35 c q σ) rfl rfl dX1_putStrictOrder_12 ?_
        refine lv_icmp_ge (tgt := 31) hx hb dX1_putStrictOrder_13 (by decide) (fun c2 => ?_) (fun c2 => ?_)
        · have hw := hw.1 c2
          exact hk31 y3 σ _ _ _ hw hP hS (lv_sub hl [0, 1, 2, 3] rfl)
        · have hw := hw.2 c2
          refine lv_aload_n hx hb dX1_putStrictOrder_16 rfl (lv_at hl 0 rfl) ?_
          refine lv_iload_n hx hb dX1_putStrictOrder_17 rfl (lv_at hl 1 rfl) ?_
          refine lv_aload_n hx hb dX1_putStrictOrder_18 rfl (lv_at hl 2 rfl) ?_
          refine lv_iload_n hx hb dX1_putStrictOrder_19 rfl (lv_at hl 3 rfl) ?_
          refine va_iald hx hb hK hP 35 25 (xw_35 c q σ) rfl hw.1 dX1_putStrictOrder_20 ?_
          have hw := hw.2
          refine lv_iload_n hx hb dX1_putStrictOrder_21 rfl (lv_at hl 3 rfl) ?_
          refine va_callv (va_runV (As := [.int z1, .int (σ.2.1 35 y3.toNatClampNeg), .int y3]) (rest := []) ⟨hx, hb, hml, hown, htb⟩ (kcX1_putPlace_6 l D c q ev hev σ z1 (σ.2.1 35 y3.toNatClampNeg) y3 _ hw) (tb_CW htb kX1_putPlace tb_1029 tb_599 tb_600 ⟨Nat.le_of_ble_eq_true rfl, Nat.le_of_ble_eq_true rfl⟩) (wd_preV (wd := xw c q) (k := 6) hev hK hP hD hE hS (xw_6 c q σ) rfl) rfl rfl hl.1 rfl (lv_room (Nat.le_of_ble_eq_true rfl)) dX1_putStrictOrder_22 ⟨Nat.zero_le _, Nat.zero_le _⟩) hS (fun q _ h => h) (fun q h => h) (fun σ4 t H1 locs1 ht hvm hw hB hz1 hk1 hS => ?_)
          have hP : va_P D vwCl (xw c q σ4) H1 := ht ▸ hB
          have hD : va_D (wdA 36 q) (xw c q σ4) := xw_D hD0
          obtain ⟨v5, ev5⟩ : ∃ z : Int32, z = y3 + (1 : Int32) := ⟨_, rfl⟩
          have hw := hw v5 ev5
          refine lv_iinc (v := v5) (lv' := [(3, .int v5), (0, .ref (q 6)), (1, .int z1), (2, .ref (q 35))]) hx hb dX1_putStrictOrder_25 hl (k := 3) rfl (by rw [ev5]; rfl) (by decide) rfl (fun ls hl => ?_)
          refine lv_goto (tgt := 2) hx hb dX1_putStrictOrder_28 (by decide) ?_
          exact ih v5 σ4 _ _ _ hw hk31 hP hS (lv_sub hl [1, 2, 3, 0] rfl)
  have hl := lv_entry ([.ref (q 6), .int x1, .ref (q 35)]) (n := 4) (Nat.le_of_ble_eq_true rfl)
  rw [lg_entry_eq]
  generalize (lg_sl ([.ref (q 6), .int x1, .ref (q 35)]) ++ List.replicate (4 - (lg_sl ([.ref (q 6), .int x1, .ref (q 35)])).length) Slot.unset).toArray = ls at hl ⊢
  have hl : lv_has ls 4 [(0, .ref (q 6)), (1, .int x1), (2, .ref (q 35))] := hl
  unfold wX1_putStrictOrder at hw
  refine lv_iconst (v := (0 : Int32)) hx hb dX1_putStrictOrder_0 (by decide) ?_
  refine lv_istore_n (lv' := [(3, .int (0 : Int32)), (0, .ref (q 6)), (1, .int x1), (2, .ref (q 35))]) hx hb dX1_putStrictOrder_1 rfl hl (by decide) rfl (fun ls hl => ?_)
  obtain ⟨n6, hw⟩ := hw
  refine L2 _ x1 n6 (0 : Int32) σ _ _ _ hw ?_ hP hS (lv_sub hl [1, 2, 3, 0] rfl)
  intro v7 σ8 H locs ls hw hP hS hl
  have hD : va_D (wdA 36 q) (xw c q σ8) := xw_D hD0
  exact W.vret hx hb hr (fun t ht hW => ⟨⟨σ8, rfl, hw, by unfold wdB; rw [ht]; exact hP⟩, hS.F ht⟩) hS.2.2 dX1_putStrictOrder_31
set_option maxHeartbeats 4000000 in
set_option maxRecDepth 100000 in
theorem kcX1_allThings_6 (l : Launch) (D : va_G) (c : Nat → ClassId) (q : Nat → Nat) (ev : State → Heap → Prop) (hev : evOK (wdA 36 q) ev) (σ : hsS)  (post : Int32 → hsS → Prop) (hw : wX1_allThings 6 post σ) : Met l yX1_allThings (Cond.code yX1_allThings cX1_allThings 1 (some .int) :: tb_L) { frames := 0, cells := 0, slots := 0, locals := 0 } (wdPc D (xw c q) (xwT c) (wdA 36 q) ev σ [.ref (q 6)]) (va_Qi post (wdB D (xw c q)) (wdA 36 q)) 0 0 (wdA 36 q) := by
  refine Met.ofW (cc := cX1_allThings) (maxL := 1) (ret := (some .int)) (by decide) rfl ?_
  intro p e s m args below meth c₀ s₁ Bd hml hv
  obtain ⟨rfl, hP, hK, hD0, hE⟩ := hv
  have hx := Bd.exec
  have hb := Bd.bytes
  have hr := Bd.returns
  have hts := atoms_spec (ws := Cond.code yX1_allThings cX1_allThings 1 (some .int) :: tb_L) Bd.pre
  have htb : ∀ w ∈ tb_L, w.before [.ref (q 6)].toArray s = true := fun w h => hts w (List.mem_cons_of_mem _ h)
  have hown : s.vm.findClass RX1 = some m.cls := findClass_of_methodNamed Bd.named
  have hlocks := Bd.notSynchronized
  have hS : va_S (wdA 36 q) s.heap s.heap [] := va_S.rf
  have hD := hD0
  have hl := lv_entry ([.ref (q 6)]) (n := 1) (Nat.le_of_ble_eq_true rfl)
  rw [lg_entry_eq]
  generalize (lg_sl ([.ref (q 6)]) ++ List.replicate (1 - (lg_sl ([.ref (q 6)])).length) Slot.unset).toArray = ls at hl ⊢
  have hl : lv_has ls 1 [(0, .ref (q 6))] := hl
  unfold wX1_allThings at hw
  refine lv_iconst (v := (1 : Int32)) hx hb dX1_allThings_0 (by decide) ?_
  refine lv_aload_n hx hb dX1_allThings_1 rfl (lv_at hl 0 rfl) ?_
  refine va_get (D := D) (ci := 1) (C := RX1) (T := TX1) (N := 12) hx hb htb inX1 hown hK hP 6 (xw_6 c q σ) rfl 0 (by decide) (htb _ tb_126) (fun _ h9 => h9) rfl dX1_allThings_2 ?_
  refine lv_ishl hx hb dX1_allThings_5 ?_
  refine lv_iconst (v := (1 : Int32)) hx hb dX1_allThings_6 (by decide) ?_
  refine lv_isub hx hb dX1_allThings_7 ?_
  exact W.iret hx hb hr (fun t ht hW => ⟨⟨_, σ, rfl, hw, by unfold wdB; rw [ht]; exact hP⟩, hS.F ht⟩) hS.2.2 dX1_allThings_8
set_option maxHeartbeats 4000000 in
set_option maxRecDepth 100000 in
theorem kcX1_placeOf_6 (l : Launch) (D : va_G) (c : Nat → ClassId) (q : Nat → Nat) (ev : State → Heap → Prop) (hev : evOK (wdA 36 q) ev) (σ : hsS) (x1 : Int32) (x2 : Int32) (post : Int32 → hsS → Prop) (hw : wX1_placeOf 6 x1 x2 post σ) : Met l yX1_placeOf (Cond.code yX1_placeOf cX1_placeOf 3 (some .int) :: tb_L) { frames := 0, cells := 0, slots := 0, locals := 0 } (wdPc D (xw c q) (xwT c) (wdA 36 q) ev σ [.ref (q 6), .int x1, .int x2]) (va_Qi post (wdB D (xw c q)) (wdA 36 q)) 0 0 (wdA 36 q) := by
  refine Met.ofW (cc := cX1_placeOf) (maxL := 3) (ret := (some .int)) (by decide) rfl ?_
  intro p e s m args below meth c₀ s₁ Bd hml hv
  obtain ⟨rfl, hP, hK, hD0, hE⟩ := hv
  have hx := Bd.exec
  have hb := Bd.bytes
  have hr := Bd.returns
  have hts := atoms_spec (ws := Cond.code yX1_placeOf cX1_placeOf 3 (some .int) :: tb_L) Bd.pre
  have htb : ∀ w ∈ tb_L, w.before [.ref (q 6), .int x1, .int x2].toArray s = true := fun w h => hts w (List.mem_cons_of_mem _ h)
  have hown : s.vm.findClass RX1 = some m.cls := findClass_of_methodNamed Bd.named
  have hlocks := Bd.notSynchronized
  have hS : va_S (wdA 36 q) s.heap s.heap [] := va_S.rf
  have hD := hD0
  have hl := lv_entry ([.ref (q 6), .int x1, .int x2]) (n := 3) (Nat.le_of_ble_eq_true rfl)
  rw [lg_entry_eq]
  generalize (lg_sl ([.ref (q 6), .int x1, .int x2]) ++ List.replicate (3 - (lg_sl ([.ref (q 6), .int x1, .int x2])).length) Slot.unset).toArray = ls at hl ⊢
  have hl : lv_has ls 3 [(0, .ref (q 6)), (1, .int x1), (2, .int x2)] := hl
  unfold wX1_placeOf at hw
  refine lv_aload_n hx hb dX1_placeOf_0 rfl (lv_at hl 0 rfl) ?_
  refine va_get (D := D) (ci := 1) (C := RX1) (T := TX1) (N := 12) hx hb htb inX1 hown hK hP 6 (xw_6 c q σ) rfl 9 (by decide) (htb _ tb_158) (fun _ h9 => h9) rfl dX1_placeOf_1 ?_
  refine lv_iload_n hx hb dX1_placeOf_4 rfl (lv_at hl 1 rfl) ?_
  refine lv_bipush (v := (9 : Int32)) hx hb dX1_placeOf_5 (by decide) ?_
  refine lv_imul hx hb dX1_placeOf_7 ?_
  refine lv_iload_n hx hb dX1_placeOf_8 rfl (lv_at hl 2 rfl) ?_
  refine lv_iadd hx hb dX1_placeOf_9 ?_
  refine va_iald hx hb hK hP 8 5 (xw_8 c q σ) rfl hw.1 dX1_placeOf_10 ?_
  have hw := hw.2
  exact W.iret hx hb hr (fun t ht hW => ⟨⟨_, σ, rfl, hw, by unfold wdB; rw [ht]; exact hP⟩, hS.F ht⟩) hS.2.2 dX1_placeOf_11
set_option maxHeartbeats 4000000 in
set_option maxRecDepth 100000 in
theorem kcX1_plainStrike_6 (l : Launch) (D : va_G) (c : Nat → ClassId) (q : Nat → Nat) (ev : State → Heap → Prop) (hev : evOK (wdA 36 q) ev) (σ : hsS) (x1 : Int32) (x2 : Int32) (post : Int32 → hsS → Prop) (hw : wX1_plainStrike 6 x1 x2 post σ) : Met l yX1_plainStrike (Cond.code yX1_plainStrike cX1_plainStrike 5 (some .int) :: tb_L) { frames := 1, cells := 0, slots := 0, locals := 22 } (wdPc D (xw c q) (xwT c) (wdA 36 q) ev σ [.ref (q 6), .int x1, .int x2]) (va_Qi post (wdB D (xw c q)) (wdA 36 q)) 0 0 (wdA 36 q) := by
  refine Met.ofW (cc := cX1_plainStrike) (maxL := 5) (ret := (some .int)) (by decide) rfl ?_
  intro p e s m args below meth c₀ s₁ Bd hml hv
  obtain ⟨rfl, hP, hK, hD0, hE⟩ := hv
  have hx := Bd.exec
  have hb := Bd.bytes
  have hr := Bd.returns
  have hts := atoms_spec (ws := Cond.code yX1_plainStrike cX1_plainStrike 5 (some .int) :: tb_L) Bd.pre
  have htb : ∀ w ∈ tb_L, w.before [.ref (q 6), .int x1, .int x2].toArray s = true := fun w h => hts w (List.mem_cons_of_mem _ h)
  have hown : s.vm.findClass RX1 = some m.cls := findClass_of_methodNamed Bd.named
  have hlocks := Bd.notSynchronized
  have hS : va_S (wdA 36 q) s.heap s.heap [] := va_S.rf
  have hD := hD0
  have L5 : ∀ (K54 : Int32 → Int32 → hsS → Prop) (z1 : Int32) (z2 : Int32) (n : Nat) (y3 : Int32) (y4 : Int32) (σ : hsS) (H : Heap) (locs : List Loc) (ls : Array Slot), wX1_plainStrike_L5 6 z1 z2 K54 post n y3 y4 σ → (∀ (y3 : Int32) (y4 : Int32) (σ : hsS) (H : Heap) (locs : List Loc) (ls : Array Slot), K54 y3 y4 σ → va_P D vwCl (xw c q σ) H → va_S (wdA 36 q) s.heap H locs → lv_has ls 5 [(0, .ref (q 6)), (1, .int z1), (2, .int z2), (3, .int y3), (4, .int y4)] → W p l e (headSpec (Cond.code yX1_plainStrike cX1_plainStrike 5 (some .int) :: tb_L) { frames := 1, cells := 0, slots := 0, locals := 22 }).room s m [.ref (q 6), .int x1, .int x2].toArray below meth c₀ H locs 0 0 (MQ below (va_Qi post (wdB D (xw c q)) (wdA 36 q)) [.ref (q 6), .int x1, .int x2].toArray s 0 0 (wdA 36 q)) (F0 m 54 ls [])) → va_P D vwCl (xw c q σ) H → va_S (wdA 36 q) s.heap H locs → lv_has ls 5 [(0, .ref (q 6)), (1, .int z1), (2, .int z2), (3, .int y3), (4, .int y4)] → W p l e (headSpec (Cond.code yX1_plainStrike cX1_plainStrike 5 (some .int) :: tb_L) { frames := 1, cells := 0, slots := 0, locals := 22 }).room s m [.ref (q 6), .int x1, .int x2].toArray below meth c₀ H locs 0 0 (MQ below (va_Qi post (wdB D (xw c q)) (wdA 36 q)) [.ref (q 6), .int x1, .int x2].toArray s 0 0 (wdA 36 q)) (F0 m 5 ls []) := by
    intro K54 z1 z2 n
    induction n with
    | zero =>
      intro y3 y4 σ H locs ls hw hk54 hP hS hl
      exact (show False from hw).elim
    | succ n ih =>
      intro y3 y4 σ H locs ls hw hk54 hP hS hl
      rw [wX1_plainStrike_L5] at hw
      have hD : va_D (wdA 36 q) (xw c q σ) := xw_D hD0
      refine lv_iload hx hb dX1_plainStrike_5 (lv_at hl 4 rfl) ?_
      refine lv_aload_n hx hb dX1_plainStrike_7 rfl (lv_at hl 0 rfl) ?_
      refine va_get (D := D) (ci := 1) (C := RX1) (T := TX1) (N := 12) hx hb htb inX1 hown hK hP 6 (xw_6 c q σ) rfl 0 (by decide) (htb _ tb_126) (fun _ h9 => h9) rfl dX1_plainStrike_8 ?_
      refine lv_icmp_ge (tgt := 54) hx hb dX1_plainStrike_11 (by decide) (fun c1 => ?_) (fun c1 => ?_)
      · have hw := hw.1 c1
        exact hk54 y3 y4 σ _ _ _ hw hP hS (lv_sub hl [0, 1, 2, 3, 4] rfl)
      · have hw := hw.2 c1
        refine lv_iload_n hx hb dX1_plainStrike_14 rfl (lv_at hl 2 rfl) ?_
        refine lv_iload hx hb dX1_plainStrike_15 (lv_at hl 4 rfl) ?_
        refine lv_ishr hx hb dX1_plainStrike_17 ?_
        refine lv_iconst (v := (1 : Int32)) hx hb dX1_plainStrike_18 (by decide) ?_
        refine lv_iand hx hb dX1_plainStrike_19 ?_
        refine lv_iconst (v := (1 : Int32)) hx hb dX1_plainStrike_20 (by decide) ?_
        refine lv_icmp_ne (tgt := 48) hx hb dX1_plainStrike_21 (by decide) (fun c2 => ?_) (fun c2 => ?_)
        · have hw := hw.2 c2
          obtain ⟨v12, ev12⟩ : ∃ z : Int32, z = y4 + (1 : Int32) := ⟨_, rfl⟩
          have hw := hw v12 ev12
          refine lv_iinc (v := v12) (lv' := [(4, .int v12), (0, .ref (q 6)), (1, .int z1), (2, .int z2), (3, .int y3)]) hx hb dX1_plainStrike_48 hl (k := 4) rfl (by rw [ev12]; rfl) (by decide) rfl (fun ls hl => ?_)
          refine lv_goto (tgt := 5) hx hb dX1_plainStrike_51 (by decide) ?_
          exact ih y3 v12 σ _ _ _ hw hk54 hP hS (lv_sub hl [1, 2, 3, 4, 0] rfl)
        · have hw := hw.1 c2
          refine lv_iload_n hx hb dX1_plainStrike_24 rfl (lv_at hl 3 rfl) ?_
          refine lv_iconst (v := (-1 : Int32)) hx hb dX1_plainStrike_25 (by decide) ?_
          refine lv_icmp_eq (tgt := 45) hx hb dX1_plainStrike_26 (by decide) (fun c3 => ?_) (fun c3 => ?_)
          · have hw := hw.1 c3
            refine lv_iload hx hb dX1_plainStrike_45 (lv_at hl 4 rfl) ?_
            refine lv_istore_n (lv' := [(3, .int y4), (0, .ref (q 6)), (1, .int z1), (2, .int z2), (4, .int y4)]) hx hb dX1_plainStrike_47 rfl hl (by decide) rfl (fun ls hl => ?_)
            obtain ⟨v4, ev4⟩ : ∃ z : Int32, z = y4 + (1 : Int32) := ⟨_, rfl⟩
            have hw := hw v4 ev4
            refine lv_iinc (v := v4) (lv' := [(4, .int v4), (3, .int y4), (0, .ref (q 6)), (1, .int z1), (2, .int z2)]) hx hb dX1_plainStrike_48 hl (k := 4) rfl (by rw [ev4]; rfl) (by decide) rfl (fun ls hl => ?_)
            refine lv_goto (tgt := 5) hx hb dX1_plainStrike_51 (by decide) ?_
            exact ih y4 v4 σ _ _ _ hw hk54 hP hS (lv_sub hl [2, 3, 4, 1, 0] rfl)
          · have hw := hw.2 c3
            refine lv_aload_n hx hb dX1_plainStrike_29 rfl (lv_at hl 0 rfl) ?_
            refine lv_iload_n hx hb dX1_plainStrike_30 rfl (lv_at hl 1 rfl) ?_
            refine lv_iload hx hb dX1_plainStrike_31 (lv_at hl 4 rfl) ?_
            refine va_calli (va_runV (As := [.int z1, .int y4]) (rest := []) ⟨hx, hb, hml, hown, htb⟩ (kcX1_placeOf_6 l D c q ev hev σ z1 y4 _ hw) (tb_CW htb kX1_placeOf tb_445 tb_446 tb_447 ⟨Nat.le_of_ble_eq_true rfl, Nat.le_of_ble_eq_true rfl⟩) (wd_preV (wd := xw c q) (k := 6) hev hK hP hD hE hS (xw_6 c q σ) rfl) rfl rfl hl.1 rfl (lv_room (Nat.le_of_ble_eq_true rfl)) dX1_plainStrike_33 ⟨Nat.zero_le _, Nat.zero_le _⟩) hS (fun q _ h => h) (fun q h => h) (fun r5 σ6 t H1 locs1 ht hvm hw hB hz1 hk1 hS => ?_)
            have hP : va_P D vwCl (xw c q σ6) H1 := ht ▸ hB
            have hD : va_D (wdA 36 q) (xw c q σ6) := xw_D hD0
            refine lv_aload_n hx hb dX1_plainStrike_36 rfl (lv_at hl 0 rfl) ?_
            refine lv_iload_n hx hb dX1_plainStrike_37 rfl (lv_at hl 1 rfl) ?_
            refine lv_iload_n hx hb dX1_plainStrike_38 rfl (lv_at hl 3 rfl) ?_
            refine va_calli (va_runV (As := [.int z1, .int y3]) (rest := [.int r5]) ⟨hx, hb, hml, hown, htb⟩ (kcX1_placeOf_6 l D c q ev hev σ6 z1 y3 _ hw) (tb_CW htb kX1_placeOf tb_445 tb_446 tb_447 ⟨Nat.le_of_ble_eq_true rfl, Nat.le_of_ble_eq_true rfl⟩) (wd_preV (wd := xw c q) (k := 6) hev hK hP hD hE hS (xw_6 c q σ6) rfl) rfl rfl hl.1 rfl (lv_room (Nat.le_of_ble_eq_true rfl)) dX1_plainStrike_39 ⟨Nat.zero_le _, Nat.zero_le _⟩) hS (fun q _ h => h) (fun q h => h) (fun r7 σ8 t H1 locs1 ht hvm hw hB hz1 hk1 hS => ?_)
            have hP : va_P D vwCl (xw c q σ8) H1 := ht ▸ hB
            have hD : va_D (wdA 36 q) (xw c q σ8) := xw_D hD0
            refine lv_icmp_lt (tgt := 48) hx hb dX1_plainStrike_42 (by decide) (fun c9 => ?_) (fun c9 => ?_)
            · have hw := hw.1 c9
              obtain ⟨v10, ev10⟩ : ∃ z : Int32, z = y4 + (1 : Int32) := ⟨_, rfl⟩
              have hw := hw v10 ev10
              refine lv_iinc (v := v10) (lv' := [(4, .int v10), (0, .ref (q 6)), (1, .int z1), (2, .int z2), (3, .int y3)]) hx hb dX1_plainStrike_48 hl (k := 4) rfl (by rw [ev10]; rfl) (by decide) rfl (fun ls hl => ?_)
              refine lv_goto (tgt := 5) hx hb dX1_plainStrike_51 (by decide) ?_
              exact ih y3 v10 σ8 _ _ _ hw hk54 hP hS (lv_sub hl [1, 2, 3, 4, 0] rfl)
            · have hw := hw.2 c9
              refine lv_iload hx hb dX1_plainStrike_45 (lv_at hl 4 rfl) ?_
              refine lv_istore_n (lv' := [(3, .int y4), (0, .ref (q 6)), (1, .int z1), (2, .int z2), (4, .int y4)]) hx hb dX1_plainStrike_47 rfl hl (by decide) rfl (fun ls hl => ?_)
              obtain ⟨v11, ev11⟩ : ∃ z : Int32, z = y4 + (1 : Int32) := ⟨_, rfl⟩
              have hw := hw v11 ev11
              refine lv_iinc (v := v11) (lv' := [(4, .int v11), (3, .int y4), (0, .ref (q 6)), (1, .int z1), (2, .int z2)]) hx hb dX1_plainStrike_48 hl (k := 4) rfl (by rw [ev11]; rfl) (by decide) rfl (fun ls hl => ?_)
              refine lv_goto (tgt := 5) hx hb dX1_plainStrike_51 (by decide) ?_
              exact ih y4 v11 σ8 _ _ _ hw hk54 hP hS (lv_sub hl [2, 3, 4, 1, 0] rfl)
  have hl := lv_entry ([.ref (q 6), .int x1, .int x2]) (n := 5) (Nat.le_of_ble_eq_true rfl)
  rw [lg_entry_eq]
  generalize (lg_sl ([.ref (q 6), .int x1, .int x2]) ++ List.replicate (5 - (lg_sl ([.ref (q 6), .int x1, .int x2])).length) Slot.unset).toArray = ls at hl ⊢
  have hl : lv_has ls 5 [(0, .ref (q 6)), (1, .int x1), (2, .int x2)] := hl
  unfold wX1_plainStrike at hw
  refine lv_iconst (v := (-1 : Int32)) hx hb dX1_plainStrike_0 (by decide) ?_
  refine lv_istore_n (lv' := [(3, .int (-1 : Int32)), (0, .ref (q 6)), (1, .int x1), (2, .int x2)]) hx hb dX1_plainStrike_1 rfl hl (by decide) rfl (fun ls hl => ?_)
  refine lv_iconst (v := (0 : Int32)) hx hb dX1_plainStrike_2 (by decide) ?_
  refine lv_istore (lv' := [(4, .int (0 : Int32)), (3, .int (-1 : Int32)), (0, .ref (q 6)), (1, .int x1), (2, .int x2)]) hx hb dX1_plainStrike_3 hl (by decide) rfl (fun ls hl => ?_)
  obtain ⟨n13, hw⟩ := hw
  refine L5 _ x1 x2 n13 (-1 : Int32) (0 : Int32) σ _ _ _ hw ?_ hP hS (lv_sub hl [2, 3, 4, 1, 0] rfl)
  intro v14 v15 σ16 H locs ls hw hP hS hl
  have hD : va_D (wdA 36 q) (xw c q σ16) := xw_D hD0
  refine lv_iload_n hx hb dX1_plainStrike_54 rfl (lv_at hl 3 rfl) ?_
  exact W.iret hx hb hr (fun t ht hW => ⟨⟨_, σ16, rfl, hw, by unfold wdB; rw [ht]; exact hP⟩, hS.F ht⟩) hS.2.2 dX1_plainStrike_55
set_option maxHeartbeats 4000000 in
set_option maxRecDepth 100000 in
theorem kcX1_strikePlainly_6 (l : Launch) (D : va_G) (c : Nat → ClassId) (q : Nat → Nat) (ev : State → Heap → Prop) (hev : evOK (wdA 36 q) ev) (σ : hsS) (x1 : Int32) (x2 : Int32) (post : Int32 → hsS → Prop) (hw : wX1_strikePlainly 6 x1 x2 post σ) : Met l yX1_strikePlainly (Cond.code yX1_strikePlainly cX1_strikePlainly 3 (some .int) :: tb_L) { frames := 2, cells := 0, slots := 0, locals := 46 } (wdPc D (xw c q) (xwT c) (wdA 36 q) ev σ [.ref (q 6), .int x1, .int x2]) (va_Qi post (wdB D (xw c q)) (wdA 36 q)) 0 0 (wdA 36 q) := by
  refine Met.ofW (cc := cX1_strikePlainly) (maxL := 3) (ret := (some .int)) (by decide) rfl ?_
  intro p e s m args below meth c₀ s₁ Bd hml hv
  obtain ⟨rfl, hP, hK, hD0, hE⟩ := hv
  have hx := Bd.exec
  have hb := Bd.bytes
  have hr := Bd.returns
  have hts := atoms_spec (ws := Cond.code yX1_strikePlainly cX1_strikePlainly 3 (some .int) :: tb_L) Bd.pre
  have htb : ∀ w ∈ tb_L, w.before [.ref (q 6), .int x1, .int x2].toArray s = true := fun w h => hts w (List.mem_cons_of_mem _ h)
  have hown : s.vm.findClass RX1 = some m.cls := findClass_of_methodNamed Bd.named
  have hlocks := Bd.notSynchronized
  have hS : va_S (wdA 36 q) s.heap s.heap [] := va_S.rf
  have hD := hD0
  have hl := lv_entry ([.ref (q 6), .int x1, .int x2]) (n := 3) (Nat.le_of_ble_eq_true rfl)
  rw [lg_entry_eq]
  generalize (lg_sl ([.ref (q 6), .int x1, .int x2]) ++ List.replicate (3 - (lg_sl ([.ref (q 6), .int x1, .int x2])).length) Slot.unset).toArray = ls at hl ⊢
  have hl : lv_has ls 3 [(0, .ref (q 6)), (1, .int x1), (2, .int x2)] := hl
  unfold wX1_strikePlainly at hw
  refine lv_iload_n hx hb dX1_strikePlainly_0 rfl (lv_at hl 2 rfl) ?_
  refine va_calli (va_runS (As := [.int x2]) (rest := []) ⟨hx, hb, hml, hown, htb⟩ (kcJ6_bitCount_0f7a4_x l D c q ev hev σ x2 _ hw) (tb_CS htb kJ6_bitCount_0f7a4 tb_406 tb_407 ⟨Nat.le_of_ble_eq_true rfl, Nat.le_of_ble_eq_true rfl⟩) (wd_preS (wd := xw c q) hev hK hP hD hE hS) rfl rfl hl.1 rfl (lv_room (Nat.le_of_ble_eq_true rfl)) dX1_strikePlainly_1 ⟨Nat.zero_le _, Nat.zero_le _⟩) hS (fun q _ h => h) (fun q h => h) (fun r1 σ2 t H1 locs1 ht hvm hw hB hz1 hk1 hS => ?_)
  have hP : va_P D vwCl (xw c q σ2) H1 := ht ▸ hB
  have hD : va_D (wdA 36 q) (xw c q σ2) := xw_D hD0
  refine lv_iconst (v := (2 : Int32)) hx hb dX1_strikePlainly_4 (by decide) ?_
  refine lv_icmp_ge (tgt := 10) hx hb dX1_strikePlainly_5 (by decide) (fun c3 => ?_) (fun c3 => ?_)
  · have hw := hw.1 c3
    refine lv_iload_n hx hb dX1_strikePlainly_10 rfl (lv_at hl 2 rfl) ?_
    refine lv_iconst (v := (1 : Int32)) hx hb dX1_strikePlainly_11 (by decide) ?_
    refine lv_aload_n hx hb dX1_strikePlainly_12 rfl (lv_at hl 0 rfl) ?_
    refine lv_iload_n hx hb dX1_strikePlainly_13 rfl (lv_at hl 1 rfl) ?_
    refine lv_iload_n hx hb dX1_strikePlainly_14 rfl (lv_at hl 2 rfl) ?_
    refine va_calli (va_runV (As := [.int x1, .int x2]) (rest := [.int (1 : Int32), .int x2]) ⟨hx, hb, hml, hown, htb⟩ (kcX1_plainStrike_6 l D c q ev hev σ2 x1 x2 _ hw) (tb_CW htb kX1_plainStrike tb_466 tb_467 tb_468 ⟨Nat.le_of_ble_eq_true rfl, Nat.le_of_ble_eq_true rfl⟩) (wd_preV (wd := xw c q) (k := 6) hev hK hP hD hE hS (xw_6 c q σ2) rfl) rfl rfl hl.1 rfl (lv_room (Nat.le_of_ble_eq_true rfl)) dX1_strikePlainly_15 ⟨Nat.zero_le _, Nat.zero_le _⟩) hS (fun q _ h => h) (fun q h => h) (fun r4 σ5 t H1 locs1 ht hvm hw hB hz1 hk1 hS => ?_)
    have hP : va_P D vwCl (xw c q σ5) H1 := ht ▸ hB
    have hD : va_D (wdA 36 q) (xw c q σ5) := xw_D hD0
    refine lv_ishl hx hb dX1_strikePlainly_18 ?_
    refine lv_iconst (v := (-1 : Int32)) hx hb dX1_strikePlainly_19 (by decide) ?_
    refine lv_ixor hx hb dX1_strikePlainly_20 ?_
    refine lv_iand hx hb dX1_strikePlainly_21 ?_
    exact W.iret hx hb hr (fun t ht hW => ⟨⟨_, σ5, rfl, hw, by unfold wdB; rw [ht]; exact hP⟩, hS.F ht⟩) hS.2.2 dX1_strikePlainly_22
  · have hw := hw.2 c3
    refine lv_iload_n hx hb dX1_strikePlainly_8 rfl (lv_at hl 2 rfl) ?_
    exact W.iret hx hb hr (fun t ht hW => ⟨⟨_, σ2, rfl, hw, by unfold wdB; rw [ht]; exact hP⟩, hS.F ht⟩) hS.2.2 dX1_strikePlainly_9
set_option maxHeartbeats 4000000 in
set_option maxRecDepth 100000 in
theorem kcX1_plainEnd_6 (l : Launch) (D : va_G) (c : Nat → ClassId) (q : Nat → Nat) (ev : State → Heap → Prop) (hev : evOK (wdA 36 q) ev) (σ : hsS)  (post : Int32 → hsS → Prop) (hw : wX1_plainEnd 6 post σ) : Met l yX1_plainEnd (Cond.code yX1_plainEnd cX1_plainEnd 3 (some .int) :: tb_L) { frames := 3, cells := 0, slots := 0, locals := 68 } (wdPc D (xw c q) (xwT c) (wdA 36 q) ev σ [.ref (q 6)]) (va_Qi post (wdB D (xw c q)) (wdA 36 q)) 0 0 (wdA 36 q) := by
  refine Met.ofW (cc := cX1_plainEnd) (maxL := 3) (ret := (some .int)) (by decide) rfl ?_
  intro p e s m args below meth c₀ s₁ Bd hml hv
  obtain ⟨rfl, hP, hK, hD0, hE⟩ := hv
  have hx := Bd.exec
  have hb := Bd.bytes
  have hr := Bd.returns
  have hts := atoms_spec (ws := Cond.code yX1_plainEnd cX1_plainEnd 3 (some .int) :: tb_L) Bd.pre
  have htb : ∀ w ∈ tb_L, w.before [.ref (q 6)].toArray s = true := fun w h => hts w (List.mem_cons_of_mem _ h)
  have hown : s.vm.findClass RX1 = some m.cls := findClass_of_methodNamed Bd.named
  have hlocks := Bd.notSynchronized
  have hS : va_S (wdA 36 q) s.heap s.heap [] := va_S.rf
  have hD := hD0
  have L7 : ∀ (K33 : Int32 → Int32 → hsS → Prop) (n : Nat) (y1 : Int32) (y2 : Int32) (σ : hsS) (H : Heap) (locs : List Loc) (ls : Array Slot), wX1_plainEnd_L7 6 K33 post n y1 y2 σ → (∀ (y1 : Int32) (y2 : Int32) (σ : hsS) (H : Heap) (locs : List Loc) (ls : Array Slot), K33 y1 y2 σ → va_P D vwCl (xw c q σ) H → va_S (wdA 36 q) s.heap H locs → lv_has ls 3 [(0, .ref (q 6)), (1, .int y1), (2, .int y2)] → W p l e (headSpec (Cond.code yX1_plainEnd cX1_plainEnd 3 (some .int) :: tb_L) { frames := 3, cells := 0, slots := 0, locals := 68 }).room s m [.ref (q 6)].toArray below meth c₀ H locs 0 0 (MQ below (va_Qi post (wdB D (xw c q)) (wdA 36 q)) [.ref (q 6)].toArray s 0 0 (wdA 36 q)) (F0 m 33 ls [])) → va_P D vwCl (xw c q σ) H → va_S (wdA 36 q) s.heap H locs → lv_has ls 3 [(0, .ref (q 6)), (1, .int y1), (2, .int y2)] → W p l e (headSpec (Cond.code yX1_plainEnd cX1_plainEnd 3 (some .int) :: tb_L) { frames := 3, cells := 0, slots := 0, locals := 68 }).room s m [.ref (q 6)].toArray below meth c₀ H locs 0 0 (MQ below (va_Qi post (wdB D (xw c q)) (wdA 36 q)) [.ref (q 6)].toArray s 0 0 (wdA 36 q)) (F0 m 7 ls []) := by
    intro K33 n
    induction n with
    | zero =>
      intro y1 y2 σ H locs ls hw hk33 hP hS hl
      exact (show False from hw).elim
    | succ n ih =>
      intro y1 y2 σ H locs ls hw hk33 hP hS hl
      rw [wX1_plainEnd_L7] at hw
      have hD : va_D (wdA 36 q) (xw c q σ) := xw_D hD0
      refine lv_iload_n hx hb dX1_plainEnd_7 rfl (lv_at hl 2 rfl) ?_
      refine lv_aload_n hx hb dX1_plainEnd_8 rfl (lv_at hl 0 rfl) ?_
      refine va_get (D := D) (ci := 1) (C := RX1) (T := TX1) (N := 12) hx hb htb inX1 hown hK hP 6 (xw_6 c q σ) rfl 6 (by decide) (htb _ tb_148) (fun _ h9 => h9) rfl dX1_plainEnd_9 ?_
      refine lv_icmp_ge (tgt := 33) hx hb dX1_plainEnd_12 (by decide) (fun c3 => ?_) (fun c3 => ?_)
      · have hw := hw.1 c3
        exact hk33 y1 y2 σ _ _ _ hw hP hS (lv_sub hl [0, 1, 2] rfl)
      · have hw := hw.2 c3
        refine lv_aload_n hx hb dX1_plainEnd_15 rfl (lv_at hl 0 rfl) ?_
        refine lv_aload_n hx hb dX1_plainEnd_16 rfl (lv_at hl 0 rfl) ?_
        refine va_get (D := D) (ci := 1) (C := RX1) (T := TX1) (N := 12) hx hb htb inX1 hown hK hP 6 (xw_6 c q σ) rfl 11 (by decide) (htb _ tb_161) (fun _ h9 => h9) rfl dX1_plainEnd_17 ?_
        refine lv_iload_n hx hb dX1_plainEnd_20 rfl (lv_at hl 2 rfl) ?_
        refine va_iald hx hb hK hP 10 7 (xw_10 c q σ) rfl hw.1 dX1_plainEnd_21 ?_
        have hw := hw.2
        refine lv_iload_n hx hb dX1_plainEnd_22 rfl (lv_at hl 1 rfl) ?_
        refine va_calli (va_runV (As := [.int (σ.2.1 10 y2.toNatClampNeg), .int y1]) (rest := []) ⟨hx, hb, hml, hown, htb⟩ (kcX1_strikePlainly_6 l D c q ev hev σ (σ.2.1 10 y2.toNatClampNeg) y1 _ hw) (tb_CW htb kX1_strikePlainly tb_462 tb_463 tb_464 ⟨Nat.le_of_ble_eq_true rfl, Nat.le_of_ble_eq_true rfl⟩) (wd_preV (wd := xw c q) (k := 6) hev hK hP hD hE hS (xw_6 c q σ) rfl) rfl rfl hl.1 rfl (lv_room (Nat.le_of_ble_eq_true rfl)) dX1_plainEnd_23 ⟨Nat.zero_le _, Nat.zero_le _⟩) hS (fun q _ h => h) (fun q h => h) (fun r4 σ5 t H1 locs1 ht hvm hw hB hz1 hk1 hS => ?_)
        have hP : va_P D vwCl (xw c q σ5) H1 := ht ▸ hB
        have hD : va_D (wdA 36 q) (xw c q σ5) := xw_D hD0
        refine lv_istore_n (lv' := [(1, .int r4), (0, .ref (q 6)), (2, .int y2)]) hx hb dX1_plainEnd_26 rfl hl (by decide) rfl (fun ls hl => ?_)
        obtain ⟨v6, ev6⟩ : ∃ z : Int32, z = y2 + (1 : Int32) := ⟨_, rfl⟩
        have hw := hw v6 ev6
        refine lv_iinc (v := v6) (lv' := [(2, .int v6), (1, .int r4), (0, .ref (q 6))]) hx hb dX1_plainEnd_27 hl (k := 2) rfl (by rw [ev6]; rfl) (by decide) rfl (fun ls hl => ?_)
        refine lv_goto (tgt := 7) hx hb dX1_plainEnd_30 (by decide) ?_
        exact ih r4 v6 σ5 _ _ _ hw hk33 hP hS (lv_sub hl [2, 1, 0] rfl)
  have hl := lv_entry ([.ref (q 6)]) (n := 3) (Nat.le_of_ble_eq_true rfl)
  rw [lg_entry_eq]
  generalize (lg_sl ([.ref (q 6)]) ++ List.replicate (3 - (lg_sl ([.ref (q 6)])).length) Slot.unset).toArray = ls at hl ⊢
  have hl : lv_has ls 3 [(0, .ref (q 6))] := hl
  unfold wX1_plainEnd at hw
  refine lv_aload_n hx hb dX1_plainEnd_0 rfl (lv_at hl 0 rfl) ?_
  refine va_calli (va_runV (As := []) (rest := []) ⟨hx, hb, hml, hown, htb⟩ (kcX1_allThings_6 l D c q ev hev σ  _ hw) (tb_CW htb kX1_allThings tb_461 tb_438 tb_439 ⟨Nat.le_of_ble_eq_true rfl, Nat.le_of_ble_eq_true rfl⟩) (wd_preV (wd := xw c q) (k := 6) hev hK hP hD hE hS (xw_6 c q σ) rfl) rfl rfl hl.1 rfl (lv_room (Nat.le_of_ble_eq_true rfl)) dX1_plainEnd_1 ⟨Nat.zero_le _, Nat.zero_le _⟩) hS (fun q _ h => h) (fun q h => h) (fun r1 σ2 t H1 locs1 ht hvm hw hB hz1 hk1 hS => ?_)
  have hP : va_P D vwCl (xw c q σ2) H1 := ht ▸ hB
  have hD : va_D (wdA 36 q) (xw c q σ2) := xw_D hD0
  refine lv_istore_n (lv' := [(1, .int r1), (0, .ref (q 6))]) hx hb dX1_plainEnd_4 rfl hl (by decide) rfl (fun ls hl => ?_)
  refine lv_iconst (v := (0 : Int32)) hx hb dX1_plainEnd_5 (by decide) ?_
  refine lv_istore_n (lv' := [(2, .int (0 : Int32)), (1, .int r1), (0, .ref (q 6))]) hx hb dX1_plainEnd_6 rfl hl (by decide) rfl (fun ls hl => ?_)
  obtain ⟨n7, hw⟩ := hw
  refine L7 _ n7 r1 (0 : Int32) σ2 _ _ _ hw ?_ hP hS (lv_sub hl [2, 1, 0] rfl)
  intro v8 v9 σ10 H locs ls hw hP hS hl
  have hD : va_D (wdA 36 q) (xw c q σ10) := xw_D hD0
  refine lv_iload_n hx hb dX1_plainEnd_33 rfl (lv_at hl 1 rfl) ?_
  exact W.iret hx hb hr (fun t ht hW => ⟨⟨_, σ10, rfl, hw, by unfold wdB; rw [ht]; exact hP⟩, hS.F ht⟩) hS.2.2 dX1_plainEnd_34
def wX7_packed_L4 (b0 : Nat) (z1 : Int32) (K31 : Int32 → Int32 → hsS → Prop) (post : Int32 → hsS → Prop) : Nat → Int32 → Int32 → hsS → Prop
  | 0, _, _, _ => False
  | n + 1, y2, y3, σ => ((z1 ≤ y3 → K31 y2 y3 σ) ∧ (¬ z1 ≤ y3 → (((9 : Int32) ≤ y3 → K31 y2 y3 σ) ∧ (¬ (9 : Int32) ≤ y3 → vp_in y3 9 ∧ ∀ v3 : Int32, v3 = y2 ||| ((σ.2.1 b0 y3.toNatClampNeg) <<< (((4 : Int32) * y3) &&& 31)) → ∀ v4 : Int32, v4 = y3 + (1 : Int32) → wX7_packed_L4 b0 z1 K31 post n v3 v4 σ))))
def wX7_packed (b0 : Nat) (x1 : Int32) (post : Int32 → hsS → Prop) (σ : hsS) : Prop := ∃ n5, wX7_packed_L4 b0 x1 (fun v6 v7 σ8 => post v6 σ8) post n5 (0 : Int32) (0 : Int32) σ
set_option maxHeartbeats 4000000 in
set_option maxRecDepth 100000 in
theorem kcX7_packed_35 (l : Launch) (D : va_G) (c : Nat → ClassId) (q : Nat → Nat) (ev : State → Heap → Prop) (hev : evOK (wdA 36 q) ev) (σ : hsS) (x1 : Int32) (post : Int32 → hsS → Prop) (hw : wX7_packed 35 x1 post σ) : Met l yX7_packed (Cond.code yX7_packed cX7_packed 4 (some .int) :: tb_L) { frames := 0, cells := 0, slots := 0, locals := 0 } (wdPc D (xw c q) (xwT c) (wdA 36 q) ev σ [.ref (q 35), .int x1]) (va_Qi post (wdB D (xw c q)) (wdA 36 q)) 0 0 (wdA 36 q) := by
  refine Met.ofW (cc := cX7_packed) (maxL := 4) (ret := (some .int)) (by decide) rfl ?_
  intro p e s m args below meth c₀ s₁ Bd hml hv
  obtain ⟨rfl, hP, hK, hD0, hE⟩ := hv
  have hx := Bd.exec
  have hb := Bd.bytes
  have hr := Bd.returns
  have hts := atoms_spec (ws := Cond.code yX7_packed cX7_packed 4 (some .int) :: tb_L) Bd.pre
  have htb : ∀ w ∈ tb_L, w.before [.ref (q 35), .int x1].toArray s = true := fun w h => hts w (List.mem_cons_of_mem _ h)
  have hown : s.vm.findClass RX7 = some m.cls := findClass_of_methodNamed Bd.named
  have hlocks := Bd.notSynchronized
  have hS : va_S (wdA 36 q) s.heap s.heap [] := va_S.rf
  have hD := hD0
  have L4 : ∀ (K31 : Int32 → Int32 → hsS → Prop) (z1 : Int32) (n : Nat) (y2 : Int32) (y3 : Int32) (σ : hsS) (H : Heap) (locs : List Loc) (ls : Array Slot), wX7_packed_L4 35 z1 K31 post n y2 y3 σ → (∀ (y2 : Int32) (y3 : Int32) (σ : hsS) (H : Heap) (locs : List Loc) (ls : Array Slot), K31 y2 y3 σ → va_P D vwCl (xw c q σ) H → va_S (wdA 36 q) s.heap H locs → lv_has ls 4 [(0, .ref (q 35)), (1, .int z1), (2, .int y2), (3, .int y3)] → W p l e (headSpec (Cond.code yX7_packed cX7_packed 4 (some .int) :: tb_L) { frames := 0, cells := 0, slots := 0, locals := 0 }).room s m [.ref (q 35), .int x1].toArray below meth c₀ H locs 0 0 (MQ below (va_Qi post (wdB D (xw c q)) (wdA 36 q)) [.ref (q 35), .int x1].toArray s 0 0 (wdA 36 q)) (F0 m 31 ls [])) → va_P D vwCl (xw c q σ) H → va_S (wdA 36 q) s.heap H locs → lv_has ls 4 [(0, .ref (q 35)), (1, .int z1), (2, .int y2), (3, .int y3)] → W p l e (headSpec (Cond.code yX7_packed cX7_packed 4 (some .int) :: tb_L) { frames := 0, cells := 0, slots := 0, locals := 0 }).room s m [.ref (q 35), .int x1].toArray below meth c₀ H locs 0 0 (MQ below (va_Qi post (wdB D (xw c q)) (wdA 36 q)) [.ref (q 35), .int x1].toArray s 0 0 (wdA 36 q)) (F0 m 4 ls []) := by
    intro K31 z1 n
    induction n with
    | zero =>
      intro y2 y3 σ H locs ls hw hk31 hP hS hl
      exact (show False from hw).elim
    | succ n ih =>
      intro y2 y3 σ H locs ls hw hk31 hP hS hl
      rw [wX7_packed_L4] at hw
      have hD : va_D (wdA 36 q) (xw c q σ) := xw_D hD0
      refine lv_iload_n hx hb dX7_packed_4 rfl (lv_at hl 3 rfl) ?_
      refine lv_iload_n hx hb dX7_packed_5 rfl (lv_at hl 1 rfl) ?_
      refine lv_icmp_ge (tgt := 31) hx hb dX7_packed_6 (by decide) (fun c1 => ?_) (fun c1 => ?_)
      · have hw := hw.1 c1
        exact hk31 y2 y3 σ _ _ _ hw hP hS (lv_sub hl [0, 1, 2, 3] rfl)
      · have hw := hw.2 c1
        refine lv_iload_n hx hb dX7_packed_9 rfl (lv_at hl 3 rfl) ?_
        refine lv_aload_n hx hb dX7_packed_10 rfl (lv_at hl 0 rfl) ?_
        refine va_alen (v := 9) (ty := .int) hx hb hK hP 35 25 (xw_35 c q σ) rfl rfl dX7_packed_11 ?_
        refine lv_icmp_ge (tgt := 31) hx hb dX7_packed_12 (by decide) (fun c2 => ?_) (fun c2 => ?_)
        · have hw := hw.1 c2
          exact hk31 y2 y3 σ _ _ _ hw hP hS (lv_sub hl [0, 1, 2, 3] rfl)
        · have hw := hw.2 c2
          refine lv_iload_n hx hb dX7_packed_15 rfl (lv_at hl 2 rfl) ?_
          refine lv_aload_n hx hb dX7_packed_16 rfl (lv_at hl 0 rfl) ?_
          refine lv_iload_n hx hb dX7_packed_17 rfl (lv_at hl 3 rfl) ?_
          refine va_iald hx hb hK hP 35 25 (xw_35 c q σ) rfl hw.1 dX7_packed_18 ?_
          have hw := hw.2
          refine lv_iconst (v := (4 : Int32)) hx hb dX7_packed_19 (by decide) ?_
          refine lv_iload_n hx hb dX7_packed_20 rfl (lv_at hl 3 rfl) ?_
          refine lv_imul hx hb dX7_packed_21 ?_
          refine lv_ishl hx hb dX7_packed_22 ?_
          refine lv_ior hx hb dX7_packed_23 ?_
          refine lv_topi (fun v3 ev3 => ?_)
          have hw := hw v3 ev3
          refine lv_istore_n (lv' := [(2, .int v3), (0, .ref (q 35)), (1, .int z1), (3, .int y3)]) hx hb dX7_packed_24 rfl hl (by decide) rfl (fun ls hl => ?_)
          obtain ⟨v4, ev4⟩ : ∃ z : Int32, z = y3 + (1 : Int32) := ⟨_, rfl⟩
          have hw := hw v4 ev4
          refine lv_iinc (v := v4) (lv' := [(3, .int v4), (2, .int v3), (0, .ref (q 35)), (1, .int z1)]) hx hb dX7_packed_25 hl (k := 3) rfl (by rw [ev4]; rfl) (by decide) rfl (fun ls hl => ?_)
          refine lv_goto (tgt := 4) hx hb dX7_packed_28 (by decide) ?_
          exact ih v3 v4 σ _ _ _ hw hk31 hP hS (lv_sub hl [2, 3, 1, 0] rfl)
  have hl := lv_entry ([.ref (q 35), .int x1]) (n := 4) (Nat.le_of_ble_eq_true rfl)
  rw [lg_entry_eq]
  generalize (lg_sl ([.ref (q 35), .int x1]) ++ List.replicate (4 - (lg_sl ([.ref (q 35), .int x1])).length) Slot.unset).toArray = ls at hl ⊢
  have hl : lv_has ls 4 [(0, .ref (q 35)), (1, .int x1)] := hl
  unfold wX7_packed at hw
  refine lv_iconst (v := (0 : Int32)) hx hb dX7_packed_0 (by decide) ?_
  refine lv_istore_n (lv' := [(2, .int (0 : Int32)), (0, .ref (q 35)), (1, .int x1)]) hx hb dX7_packed_1 rfl hl (by decide) rfl (fun ls hl => ?_)
  refine lv_iconst (v := (0 : Int32)) hx hb dX7_packed_2 (by decide) ?_
  refine lv_istore_n (lv' := [(3, .int (0 : Int32)), (2, .int (0 : Int32)), (0, .ref (q 35)), (1, .int x1)]) hx hb dX7_packed_3 rfl hl (by decide) rfl (fun ls hl => ?_)
  obtain ⟨n5, hw⟩ := hw
  refine L4 _ x1 n5 (0 : Int32) (0 : Int32) σ _ _ _ hw ?_ hP hS (lv_sub hl [2, 3, 1, 0] rfl)
  intro v6 v7 σ8 H locs ls hw hP hS hl
  have hD : va_D (wdA 36 q) (xw c q σ8) := xw_D hD0
  refine lv_iload_n hx hb dX7_packed_31 rfl (lv_at hl 2 rfl) ?_
  exact W.iret hx hb hr (fun t ht hW => ⟨⟨_, σ8, rfl, hw, by unfold wdB; rw [ht]; exact hP⟩, hS.F ht⟩) hS.2.2 dX7_packed_32
def wX7_lie_L60 (z1 : Int32) (z2 : Int32) (z3 : Int32) (K113 : Int32 → hsS → Prop) (K134 : Int32 → hsS → Prop) (post : Int32 → hsS → Prop) (px : hsS → Prop) : Nat → Int32 → hsS → Prop
  | 0, _, _ => False
  | n + 1, y4, σ => ((z3 ≤ y4 → K134 y4 σ) ∧ (¬ z3 ≤ y4 → wX7_nthOrder y4 (σ.1 64) 35 (fun σ13 => wX1_putStrictOrder 6 z1 35 (fun σ15 => wX1_plainEnd 6 (fun r16 σ17 => wX1_greatestPlace 1 z1 r16 (fun r18 σ19 => ((z2 ≤ r18 → ∀ v21 : Int32, v21 = y4 + (1 : Int32) → wX7_lie_L60 z1 z2 z3 K113 K134 post px n v21 σ19) ∧ (¬ z2 ≤ r18 → K113 y4 σ19))) σ17) σ15) σ13) σ))
def wX7_lie (x1 : Int32) (post : Int32 → hsS → Prop) (px : hsS → Prop) (σ : hsS) : Prop := wX7_needPerson x1 (fun σ2 => (((σ2.1 64) ≤ (5 : Int32) → wX1_plainEnd 1 (fun r4 σ5 => wX1_greatestPlace 1 x1 r4 (fun r6 σ7 => wX1_takeFrom 6 1 (fun σ9 => vp_in (σ9.1 64) 10 ∧ ∀ v10 : Int32, v10 = xfact (σ9.1 64).toNatClampNeg → ∃ n22, wX7_lie_L60 x1 r6 v10 (fun v23 σ24 => wX7_packed 35 (σ24.1 64) (fun r25 σ26 => post r25 σ26) σ24) (fun v27 σ28 => post (-1 : Int32) σ28) post px n22 (0 : Int32) σ9) σ7) σ5) σ2) ∧ (¬ (σ2.1 64) ≤ (5 : Int32) → post (-1 : Int32) σ2))) px σ
set_option maxHeartbeats 4000000 in
set_option maxRecDepth 100000 in
theorem kcX7_lie (l : Launch) (D : va_G) (c : Nat → ClassId) (q : Nat → Nat) (ev : State → Heap → Prop) (hev : evOK (wdA 36 q) ev) (tF : Nat) (hF : ∀ (U : State) (H : Heap), ev U H → va_Z "StrikeHall" "FACTORIALS" "[I" (.ref tF) (wdA 36 q) U H ∧ va_T .int tF 10 (fun j => .int (xfact j)) (wdA 36 q) U H) (hst : l.stackTraces = false) (hX : ∀ (U : State) (H : Heap), ev U H → evT (wdA 36 q) U H) (σ : hsS) (x1 : Int32) (post : Int32 → hsS → Prop) (px : hsS → Prop) (hw : wX7_lie x1 post px σ) : vx_Met l yX7_lie (Cond.code yX7_lie cX7_lie 5 (some .int) :: tb_L) { frames := 9, cells := 1, slots := 6, locals := 149 } (wdPc D (xw c q) (xwT c) (wdA 36 q) ev σ [.ref (q 0), .int x1]) (va_Qi post (wdB D (xw c q)) (wdA 36 q)) (vx_X px (xpB D (xw c q) "java/util/NoSuchElementException") (wdA 36 q)) 1 6 (wdA 36 q) := by
  refine vx_ofW (cc := cX7_lie) (maxL := 5) (ret := (some .int)) (by decide) rfl ?_
  intro p e s m args below meth c₀ s₁ Bd hml htab hv
  obtain ⟨rfl, hP, hK, hD0, hE⟩ := hv
  have hx := Bd.exec
  have hb := Bd.bytes
  have hr := Bd.returns
  have hts := atoms_spec (ws := Cond.code yX7_lie cX7_lie 5 (some .int) :: tb_L) Bd.pre
  have htb : ∀ w ∈ tb_L, w.before [.ref (q 0), .int x1].toArray s = true := fun w h => hts w (List.mem_cons_of_mem _ h)
  have hown : s.vm.findClass RX7 = some m.cls := findClass_of_methodNamed Bd.named
  have hlocks := Bd.notSynchronized
  have hS : va_S (wdA 36 q) s.heap s.heap [] := va_S.rf
  have hD := hD0
  have L60 : ∀ (K113 : Int32 → hsS → Prop) (K134 : Int32 → hsS → Prop) (z1 : Int32) (z2 : Int32) (z3 : Int32) (n : Nat) (y4 : Int32) (σ : hsS) (H : Heap) (locs : List Loc) (ls : Array Slot), wX7_lie_L60 z1 z2 z3 K113 K134 post px n y4 σ → (∀ (y4 : Int32) (σ : hsS) (H : Heap) (locs : List Loc) (ls : Array Slot), K113 y4 σ → va_P D vwCl (xw c q σ) H → va_S (wdA 36 q) s.heap H locs → lv_has ls 5 [(0, .ref (q 0)), (1, .int z1), (2, .int z2), (3, .int z3), (4, .int y4)] → W p l e (headSpec (Cond.code yX7_lie cX7_lie 5 (some .int) :: tb_L) { frames := 9, cells := 1, slots := 6, locals := 149 }).room s m [.ref (q 0), .int x1].toArray below meth c₀ H locs 1 6 (vx_MQ below (va_Qi post (wdB D (xw c q)) (wdA 36 q)) (vx_X px (xpB D (xw c q) "java/util/NoSuchElementException") (wdA 36 q)) [.ref (q 0), .int x1].toArray s 1 6 (wdA 36 q)) (F0 m 113 ls [])) → (∀ (y4 : Int32) (σ : hsS) (H : Heap) (locs : List Loc) (ls : Array Slot), K134 y4 σ → va_P D vwCl (xw c q σ) H → va_S (wdA 36 q) s.heap H locs → lv_has ls 5 [(0, .ref (q 0)), (1, .int z1), (2, .int z2), (3, .int z3), (4, .int y4)] → W p l e (headSpec (Cond.code yX7_lie cX7_lie 5 (some .int) :: tb_L) { frames := 9, cells := 1, slots := 6, locals := 149 }).room s m [.ref (q 0), .int x1].toArray below meth c₀ H locs 1 6 (vx_MQ below (va_Qi post (wdB D (xw c q)) (wdA 36 q)) (vx_X px (xpB D (xw c q) "java/util/NoSuchElementException") (wdA 36 q)) [.ref (q 0), .int x1].toArray s 1 6 (wdA 36 q)) (F0 m 134 ls [])) → va_P D vwCl (xw c q σ) H → va_S (wdA 36 q) s.heap H locs → lv_has ls 5 [(0, .ref (q 0)), (1, .int z1), (2, .int z2), (3, .int z3), (4, .int y4)] → W p l e (headSpec (Cond.code yX7_lie cX7_lie 5 (some .int) :: tb_L) { frames := 9, cells := 1, slots := 6, locals := 149 }).room s m [.ref (q 0), .int x1].toArray below meth c₀ H locs 1 6 (vx_MQ below (va_Qi post (wdB D (xw c q)) (wdA 36 q)) (vx_X px (xpB D (xw c q) "java/util/NoSuchElementException") (wdA 36 q)) [.ref (q 0), .int x1].toArray s 1 6 (wdA 36 q)) (F0 m 60 ls []) := by
    intro K113 K134 z1 z2 z3 n
    induction n with
    | zero =>
      intro y4 σ H locs ls hw hk113 hk134 hP hS hl
      exact (show False from hw).elim
    | succ n ih =>
      intro y4 σ H locs ls hw hk113 hk134 hP hS hl
      rw [wX7_lie_L60] at hw
      have hD : va_D (wdA 36 q) (xw c q σ) := xw_D hD0
      refine lv_iload hx hb dX7_lie_60 (lv_at hl 4 rfl) ?_
      refine lv_iload_n hx hb dX7_lie_62 rfl (lv_at hl 3 rfl) ?_
      refine lv_icmp_ge (tgt := 134) hx hb dX7_lie_63 (by decide) (fun c11 => ?_) (fun c11 => ?_)
      · have hw := hw.1 c11
        exact hk134 y4 σ _ _ _ hw hP hS (lv_sub hl [0, 1, 2, 3, 4] rfl)
      · have hw := hw.2 c11
        refine lv_iload hx hb dX7_lie_66 (lv_at hl 4 rfl) ?_
        refine lv_aload_n hx hb dX7_lie_68 rfl (lv_at hl 0 rfl) ?_
        refine va_get (D := D) (ci := 7) (C := RX7) (T := TX7) (N := 9) hx hb htb inX7 hown hK hP 0 (xw_0 c q σ) rfl 0 (by decide) (htb _ tb_342) (fun _ h9 => h9) rfl dX7_lie_69 ?_
        refine va_getN (D := D) (ci := 1) (C := RX1) (T := TX1) (N := 12) hx hb htb inX1 hown hK hP 1 (xw_1 c q σ) rfl 0 (by decide) (htb _ tb_130) (fun _ h9 => h9) rfl dX7_lie_72 ?_
        refine lv_aload_n hx hb dX7_lie_75 rfl (lv_at hl 0 rfl) ?_
        refine va_get (D := D) (ci := 7) (C := RX7) (T := TX7) (N := 9) hx hb htb inX7 hown hK hP 0 (xw_0 c q σ) rfl 8 (by decide) (htb _ tb_350) (fun _ h9 => h9) rfl dX7_lie_76 ?_
        refine va_callv (va_runS (As := [.int y4, .int (σ.1 64), .ref (q 35)]) (rest := []) ⟨hx, hb, hml, hown, htb⟩ (kcX7_nthOrder_35 l D c q ev hev tF hF σ y4 (σ.1 64) _ hw) (tb_CS htb kX7_nthOrder tb_1024 tb_587 ⟨Nat.le_of_ble_eq_true rfl, Nat.le_of_ble_eq_true rfl⟩) (wd_preS (wd := xw c q) hev hK hP hD hE hS) rfl rfl hl.1 rfl (lv_room (Nat.le_of_ble_eq_true rfl)) dX7_lie_79 ⟨Nat.le_of_ble_eq_true rfl, Nat.le_of_ble_eq_true rfl⟩) hS (fun q _ h => h) (fun q h => h) (fun σ13 t H1 locs1 ht hvm hw hB hz1 hk1 hS => ?_)
        have hP : va_P D vwCl (xw c q σ13) H1 := ht ▸ hB
        have hD : va_D (wdA 36 q) (xw c q σ13) := xw_D hD0
        refine lv_aload_n hx hb dX7_lie_82 rfl (lv_at hl 0 rfl) ?_
        refine va_get (D := D) (ci := 7) (C := RX7) (T := TX7) (N := 9) hx hb htb inX7 hown hK hP 0 (xw_0 c q σ13) rfl 1 (by decide) (htb _ tb_343) (fun _ h9 => h9) rfl dX7_lie_83 ?_
        refine lv_iload_n hx hb dX7_lie_86 rfl (lv_at hl 1 rfl) ?_
        refine lv_aload_n hx hb dX7_lie_87 rfl (lv_at hl 0 rfl) ?_
        refine va_get (D := D) (ci := 7) (C := RX7) (T := TX7) (N := 9) hx hb htb inX7 hown hK hP 0 (xw_0 c q σ13) rfl 8 (by decide) (htb _ tb_350) (fun _ h9 => h9) rfl dX7_lie_88 ?_
        refine va_callv (va_runV (As := [.int z1, .ref (q 35)]) (rest := []) ⟨hx, hb, hml, hown, htb⟩ (kcX1_putStrictOrder_6_35 l D c q ev hev σ13 z1 _ hw) (tb_CW htb kX1_putStrictOrder tb_1025 tb_1026 tb_1027 ⟨Nat.le_of_ble_eq_true rfl, Nat.le_of_ble_eq_true rfl⟩) (wd_preV (wd := xw c q) (k := 6) hev hK hP hD hE hS (xw_6 c q σ13) rfl) rfl rfl hl.1 rfl (lv_room (Nat.le_of_ble_eq_true rfl)) dX7_lie_91 ⟨Nat.le_of_ble_eq_true rfl, Nat.le_of_ble_eq_true rfl⟩) hS (fun q _ h => h) (fun q h => h) (fun σ15 t H1 locs1 ht hvm hw hB hz1 hk1 hS => ?_)
        have hP : va_P D vwCl (xw c q σ15) H1 := ht ▸ hB
        have hD : va_D (wdA 36 q) (xw c q σ15) := xw_D hD0
        refine lv_aload_n hx hb dX7_lie_94 rfl (lv_at hl 0 rfl) ?_
        refine va_get (D := D) (ci := 7) (C := RX7) (T := TX7) (N := 9) hx hb htb inX7 hown hK hP 0 (xw_0 c q σ15) rfl 0 (by decide) (htb _ tb_342) (fun _ h9 => h9) rfl dX7_lie_95 ?_
        refine lv_iload_n hx hb dX7_lie_98 rfl (lv_at hl 1 rfl) ?_
        refine lv_aload_n hx hb dX7_lie_99 rfl (lv_at hl 0 rfl) ?_
        refine va_get (D := D) (ci := 7) (C := RX7) (T := TX7) (N := 9) hx hb htb inX7 hown hK hP 0 (xw_0 c q σ15) rfl 1 (by decide) (htb _ tb_343) (fun _ h9 => h9) rfl dX7_lie_100 ?_
        refine va_calli (va_runV (As := []) (rest := [.int z1, .ref (q 1)]) ⟨hx, hb, hml, hown, htb⟩ (kcX1_plainEnd_6 l D c q ev hev σ15  _ hw) (tb_CW htb kX1_plainEnd tb_457 tb_458 tb_459 ⟨Nat.le_of_ble_eq_true rfl, Nat.le_of_ble_eq_true rfl⟩) (wd_preV (wd := xw c q) (k := 6) hev hK hP hD hE hS (xw_6 c q σ15) rfl) rfl rfl hl.1 rfl (lv_room (Nat.le_of_ble_eq_true rfl)) dX7_lie_103 ⟨Nat.le_of_ble_eq_true rfl, Nat.le_of_ble_eq_true rfl⟩) hS (fun q _ h => h) (fun q h => h) (fun r16 σ17 t H1 locs1 ht hvm hw hB hz1 hk1 hS => ?_)
        have hP : va_P D vwCl (xw c q σ17) H1 := ht ▸ hB
        have hD : va_D (wdA 36 q) (xw c q σ17) := xw_D hD0
        refine va_calli (va_runV (As := [.int z1, .int r16]) (rest := []) ⟨hx, hb, hml, hown, htb⟩ (kcX1_greatestPlace_1 l D c q ev hev σ17 z1 r16 _ hw) (tb_CW htb kX1_greatestPlace tb_1023 tb_491 tb_492 ⟨Nat.le_of_ble_eq_true rfl, Nat.le_of_ble_eq_true rfl⟩) (wd_preV (wd := xw c q) (k := 1) hev hK hP hD hE hS (xw_1 c q σ17) rfl) rfl rfl hl.1 rfl (lv_room (Nat.le_of_ble_eq_true rfl)) dX7_lie_106 ⟨Nat.le_of_ble_eq_true rfl, Nat.le_of_ble_eq_true rfl⟩) hS (fun q _ h => h) (fun q h => h) (fun r18 σ19 t H1 locs1 ht hvm hw hB hz1 hk1 hS => ?_)
        have hP : va_P D vwCl (xw c q σ19) H1 := ht ▸ hB
        have hD : va_D (wdA 36 q) (xw c q σ19) := xw_D hD0
        refine lv_iload_n hx hb dX7_lie_109 rfl (lv_at hl 2 rfl) ?_
        refine lv_icmp_ge (tgt := 128) hx hb dX7_lie_110 (by decide) (fun c20 => ?_) (fun c20 => ?_)
        · have hw := hw.1 c20
          obtain ⟨v21, ev21⟩ : ∃ z : Int32, z = y4 + (1 : Int32) := ⟨_, rfl⟩
          have hw := hw v21 ev21
          refine lv_iinc (v := v21) (lv' := [(4, .int v21), (0, .ref (q 0)), (1, .int z1), (2, .int z2), (3, .int z3)]) hx hb dX7_lie_128 hl (k := 4) rfl (by rw [ev21]; rfl) (by decide) rfl (fun ls hl => ?_)
          refine lv_goto (tgt := 60) hx hb dX7_lie_131 (by decide) ?_
          exact ih v21 σ19 _ _ _ hw hk113 hk134 hP hS (lv_sub hl [1, 2, 3, 4, 0] rfl)
        · have hw := hw.2 c20
          exact hk113 y4 σ19 _ _ _ hw hP hS (lv_sub hl [0, 1, 2, 3, 4] rfl)
  have hl := lv_entry ([.ref (q 0), .int x1]) (n := 5) (Nat.le_of_ble_eq_true rfl)
  rw [lg_entry_eq]
  generalize (lg_sl ([.ref (q 0), .int x1]) ++ List.replicate (5 - (lg_sl ([.ref (q 0), .int x1])).length) Slot.unset).toArray = ls at hl ⊢
  have hl : lv_has ls 5 [(0, .ref (q 0)), (1, .int x1)] := hl
  unfold wX7_lie at hw
  refine lv_aload_n hx hb dX7_lie_0 rfl (lv_at hl 0 rfl) ?_
  refine lv_iload_n hx hb dX7_lie_1 rfl (lv_at hl 1 rfl) ?_
  refine vx_callv (vx_runV (As := [.int x1]) (rest := []) ⟨hx, hb, hml, hown, htb⟩ (kcX7_needPerson l D c q ev hev hst hX σ x1 _ px hw) (tb_CW htb kX7_needPerson tb_906 tb_908 tb_32 ⟨Nat.le_of_ble_eq_true rfl, Nat.le_of_ble_eq_true rfl⟩) (wd_preV (wd := xw c q) (k := 0) hev hK hP hD hE hS (xw_0 c q σ) rfl) rfl rfl hl.1 rfl (lv_room (Nat.le_of_ble_eq_true rfl)) dX7_lie_2 ⟨Nat.le_of_ble_eq_true rfl, Nat.le_of_ble_eq_true rfl⟩) hS (fun q _ h => h) (fun q h => h) (fun q _ h => h) (fun E9 ce9 q9 σx t H1 locs1 ht hvm hpx hBX hz1 hk1 hS hce hcv hcl => vx_out (fun x h => (htab x h).elim) hlocks hce hcv hcl (fun t2 ht2 _ => ⟨σx, hpx, ⟨hBX.1, by rw [ht2, ← ht]; exact hBX.2⟩, hS.F ht2⟩) hS.2.2 (Nat.le_of_ble_eq_true rfl) (Nat.le_of_ble_eq_true rfl)) (fun σ2 t H1 locs1 ht hvm hw hB hz1 hk1 hS => ?_)
  have hP : va_P D vwCl (xw c q σ2) H1 := ht ▸ hB
  have hD : va_D (wdA 36 q) (xw c q σ2) := xw_D hD0
  refine lv_aload_n hx hb dX7_lie_5 rfl (lv_at hl 0 rfl) ?_
  refine va_get (D := D) (ci := 7) (C := RX7) (T := TX7) (N := 9) hx hb htb inX7 hown hK hP 0 (xw_0 c q σ2) rfl 0 (by decide) (htb _ tb_342) (fun _ h9 => h9) rfl dX7_lie_6 ?_
  refine va_getN (D := D) (ci := 1) (C := RX1) (T := TX1) (N := 12) hx hb htb inX1 hown hK hP 1 (xw_1 c q σ2) rfl 0 (by decide) (htb _ tb_130) (fun _ h9 => h9) rfl dX7_lie_9 ?_
  refine lv_iconst (v := (5 : Int32)) hx hb dX7_lie_12 (by decide) ?_
  refine lv_icmp_le (tgt := 18) hx hb dX7_lie_13 (by decide) (fun c3 => ?_) (fun c3 => ?_)
  · have hw := hw.1 c3
    refine lv_aload_n hx hb dX7_lie_18 rfl (lv_at hl 0 rfl) ?_
    refine va_get (D := D) (ci := 7) (C := RX7) (T := TX7) (N := 9) hx hb htb inX7 hown hK hP 0 (xw_0 c q σ2) rfl 0 (by decide) (htb _ tb_342) (fun _ h9 => h9) rfl dX7_lie_19 ?_
    refine lv_iload_n hx hb dX7_lie_22 rfl (lv_at hl 1 rfl) ?_
    refine lv_aload_n hx hb dX7_lie_23 rfl (lv_at hl 0 rfl) ?_
    refine va_get (D := D) (ci := 7) (C := RX7) (T := TX7) (N := 9) hx hb htb inX7 hown hK hP 0 (xw_0 c q σ2) rfl 0 (by decide) (htb _ tb_342) (fun _ h9 => h9) rfl dX7_lie_24 ?_
    refine va_calli (va_runV (As := []) (rest := [.int x1, .ref (q 1)]) ⟨hx, hb, hml, hown, htb⟩ (kcX1_plainEnd_1 l D c q ev hev σ2  _ hw) (tb_CW htb kX1_plainEnd tb_457 tb_458 tb_459 ⟨Nat.le_of_ble_eq_true rfl, Nat.le_of_ble_eq_true rfl⟩) (wd_preV (wd := xw c q) (k := 1) hev hK hP hD hE hS (xw_1 c q σ2) rfl) rfl rfl hl.1 rfl (lv_room (Nat.le_of_ble_eq_true rfl)) dX7_lie_27 ⟨Nat.le_of_ble_eq_true rfl, Nat.le_of_ble_eq_true rfl⟩) hS (fun q _ h => h) (fun q h => h) (fun r4 σ5 t H1 locs1 ht hvm hw hB hz1 hk1 hS => ?_)
    have hP : va_P D vwCl (xw c q σ5) H1 := ht ▸ hB
    have hD : va_D (wdA 36 q) (xw c q σ5) := xw_D hD0
    refine va_calli (va_runV (As := [.int x1, .int r4]) (rest := []) ⟨hx, hb, hml, hown, htb⟩ (kcX1_greatestPlace_1 l D c q ev hev σ5 x1 r4 _ hw) (tb_CW htb kX1_greatestPlace tb_1023 tb_491 tb_492 ⟨Nat.le_of_ble_eq_true rfl, Nat.le_of_ble_eq_true rfl⟩) (wd_preV (wd := xw c q) (k := 1) hev hK hP hD hE hS (xw_1 c q σ5) rfl) rfl rfl hl.1 rfl (lv_room (Nat.le_of_ble_eq_true rfl)) dX7_lie_30 ⟨Nat.le_of_ble_eq_true rfl, Nat.le_of_ble_eq_true rfl⟩) hS (fun q _ h => h) (fun q h => h) (fun r6 σ7 t H1 locs1 ht hvm hw hB hz1 hk1 hS => ?_)
    have hP : va_P D vwCl (xw c q σ7) H1 := ht ▸ hB
    have hD : va_D (wdA 36 q) (xw c q σ7) := xw_D hD0
    refine lv_istore_n (lv' := [(2, .int r6), (0, .ref (q 0)), (1, .int x1)]) hx hb dX7_lie_33 rfl hl (by decide) rfl (fun ls hl => ?_)
    refine lv_aload_n hx hb dX7_lie_34 rfl (lv_at hl 1 rfl) ?_
    refine va_get (D := D) (ci := 7) (C := RX7) (T := TX7) (N := 9) hx hb htb inX7 hown hK hP 0 (xw_0 c q σ7) rfl 1 (by decide) (htb _ tb_343) (fun _ h9 => h9) rfl dX7_lie_35 ?_
    refine lv_aload_n hx hb dX7_lie_38 rfl (lv_at hl 1 rfl) ?_
    refine va_get (D := D) (ci := 7) (C := RX7) (T := TX7) (N := 9) hx hb htb inX7 hown hK hP 0 (xw_0 c q σ7) rfl 0 (by decide) (htb _ tb_342) (fun _ h9 => h9) rfl dX7_lie_39 ?_
    refine va_callv (va_runV (As := [.ref (q 1)]) (rest := []) ⟨hx, hb, hml, hown, htb⟩ (kcX1_takeFrom_6_1 l D c q ev hev σ7  _ hw) (tb_CW htb kX1_takeFrom tb_858 tb_569 tb_570 ⟨Nat.le_of_ble_eq_true rfl, Nat.le_of_ble_eq_true rfl⟩) (wd_preV (wd := xw c q) (k := 6) hev hK hP hD hE hS (xw_6 c q σ7) rfl) rfl rfl hl.1 rfl (lv_room (Nat.le_of_ble_eq_true rfl)) dX7_lie_42 ⟨Nat.le_of_ble_eq_true rfl, Nat.le_of_ble_eq_true rfl⟩) hS (fun q _ h => h) (fun q h => h) (fun σ9 t H1 locs1 ht hvm hw hB hz1 hk1 hS => ?_)
    have hP : va_P D vwCl (xw c q σ9) H1 := ht ▸ hB
    have hD : va_D (wdA 36 q) (xw c q σ9) := xw_D hD0
    refine va_gets hx hb (hF s s.heap hE).1 hS hown (htb _ tb_560) (fun _ h9 => h9) dX7_lie_45 ?_
    refine lv_aload_n hx hb dX7_lie_48 rfl (lv_at hl 1 rfl) ?_
    refine va_get (D := D) (ci := 7) (C := RX7) (T := TX7) (N := 9) hx hb htb inX7 hown hK hP 0 (xw_0 c q σ9) rfl 0 (by decide) (htb _ tb_342) (fun _ h9 => h9) rfl dX7_lie_49 ?_
    refine va_getN (D := D) (ci := 1) (C := RX1) (T := TX1) (N := 12) hx hb htb inX1 hown hK hP 1 (xw_1 c q σ9) rfl 0 (by decide) (htb _ tb_130) (fun _ h9 => h9) rfl dX7_lie_52 ?_
    refine va_ti hx hb (hF s s.heap hE).2 hS hw.1 rfl dX7_lie_55 ?_
    have hw := hw.2
    refine lv_topi (fun v10 ev10 => ?_)
    have hw := hw v10 ev10
    refine lv_istore_n (lv' := [(3, .int v10), (2, .int r6), (0, .ref (q 0)), (1, .int x1)]) hx hb dX7_lie_56 rfl hl (by decide) rfl (fun ls hl => ?_)
    refine lv_iconst (v := (0 : Int32)) hx hb dX7_lie_57 (by decide) ?_
    refine lv_istore (lv' := [(4, .int (0 : Int32)), (3, .int v10), (2, .int r6), (0, .ref (q 0)), (1, .int x1)]) hx hb dX7_lie_58 hl (by decide) rfl (fun ls hl => ?_)
    obtain ⟨n22, hw⟩ := hw
    refine L60 _ _ x1 r6 v10 n22 (0 : Int32) σ9 _ _ _ hw ?_ ?_ hP hS (lv_sub hl [3, 4, 2, 1, 0] rfl)
    · intro v23 σ24 H locs ls hw hP hS hl
      have hD : va_D (wdA 36 q) (xw c q σ24) := xw_D hD0
      refine lv_aload_n hx hb dX7_lie_113 rfl (lv_at hl 0 rfl) ?_
      refine va_get (D := D) (ci := 7) (C := RX7) (T := TX7) (N := 9) hx hb htb inX7 hown hK hP 0 (xw_0 c q σ24) rfl 8 (by decide) (htb _ tb_350) (fun _ h9 => h9) rfl dX7_lie_114 ?_
      refine lv_aload_n hx hb dX7_lie_117 rfl (lv_at hl 0 rfl) ?_
      refine va_get (D := D) (ci := 7) (C := RX7) (T := TX7) (N := 9) hx hb htb inX7 hown hK hP 0 (xw_0 c q σ24) rfl 0 (by decide) (htb _ tb_342) (fun _ h9 => h9) rfl dX7_lie_118 ?_
      refine va_getN (D := D) (ci := 1) (C := RX1) (T := TX1) (N := 12) hx hb htb inX1 hown hK hP 1 (xw_1 c q σ24) rfl 0 (by decide) (htb _ tb_130) (fun _ h9 => h9) rfl dX7_lie_121 ?_
      refine va_calli (va_runS (As := [.ref (q 35), .int (σ24.1 64)]) (rest := []) ⟨hx, hb, hml, hown, htb⟩ (kcX7_packed_35 l D c q ev hev σ24 (σ24.1 64) _ hw) (tb_CS htb kX7_packed tb_1030 tb_1031 ⟨Nat.le_of_ble_eq_true rfl, Nat.le_of_ble_eq_true rfl⟩) (wd_preS (wd := xw c q) hev hK hP hD hE hS) rfl rfl hl.1 rfl (lv_room (Nat.le_of_ble_eq_true rfl)) dX7_lie_124 ⟨Nat.le_of_ble_eq_true rfl, Nat.le_of_ble_eq_true rfl⟩) hS (fun q _ h => h) (fun q h => h) (fun r25 σ26 t H1 locs1 ht hvm hw hB hz1 hk1 hS => ?_)
      have hP : va_P D vwCl (xw c q σ26) H1 := ht ▸ hB
      have hD : va_D (wdA 36 q) (xw c q σ26) := xw_D hD0
      exact vx_ret (W.widen (k := 1) (n := 6) (Nat.le_of_ble_eq_true rfl) (Nat.le_of_ble_eq_true rfl) (W.iret hx hb hr (fun t ht hW => ⟨⟨_, σ26, rfl, hw, by unfold wdB; rw [ht]; exact hP⟩, hS.F ht⟩) hS.2.2 dX7_lie_127))
    · intro v27 σ28 H locs ls hw hP hS hl
      have hD : va_D (wdA 36 q) (xw c q σ28) := xw_D hD0
      refine lv_iconst (v := (-1 : Int32)) hx hb dX7_lie_134 (by decide) ?_
      exact vx_ret (W.widen (k := 1) (n := 6) (Nat.le_of_ble_eq_true rfl) (Nat.le_of_ble_eq_true rfl) (W.iret hx hb hr (fun t ht hW => ⟨⟨_, σ28, rfl, hw, by unfold wdB; rw [ht]; exact hP⟩, hS.F ht⟩) hS.2.2 dX7_lie_135))
  · have hw := hw.2 c3
    refine lv_iconst (v := (-1 : Int32)) hx hb dX7_lie_16 (by decide) ?_
    exact vx_ret (W.widen (k := 1) (n := 6) (Nat.le_of_ble_eq_true rfl) (Nat.le_of_ble_eq_true rfl) (W.iret hx hb hr (fun t ht hW => ⟨⟨_, σ2, rfl, hw, by unfold wdB; rw [ht]; exact hP⟩, hS.F ht⟩) hS.2.2 dX7_lie_17))
def wX7_tradePays (x1 : Int32) (x2 : Int32) (x3 : Int32) (post : Int32 → hsS → Prop) (σ : hsS) : Prop := vp_in x1 8 ∧ ∀ v1 : Int32, v1 = σ.2.1 5 x1.toNatClampNeg → vp_in x2 8 ∧ ∀ v2 : Int32, v2 = σ.2.1 5 x2.toNatClampNeg → ((v1 = v2 → post (0 : Int32) σ) ∧ (¬ v1 = v2 → vp_in x1 8 ∧ ∀ σ4 : hsS, σ4 = hsA σ 10 (upd (σ.2.1 10) x1.toNatClampNeg v2) → vp_in x2 8 ∧ ∀ σ5 : hsS, σ5 = hsA σ4 10 (upd (σ4.2.1 10) x2.toNatClampNeg v1) → wX1_plainEnd 6 (fun r6 σ7 => vp_in x1 8 ∧ ∀ σ8 : hsS, σ8 = hsA σ7 10 (upd (σ7.2.1 10) x1.toNatClampNeg v1) → vp_in x2 8 ∧ ∀ σ9 : hsS, σ9 = hsA σ8 10 (upd (σ8.2.1 10) x2.toNatClampNeg v2) → wX1_greatestPlace 1 v1 r6 (fun r10 σ11 => wX1_greatestPlace 1 v1 x3 (fun r12 σ13 => ((r12 ≤ r10 → post (0 : Int32) σ13) ∧ (¬ r12 ≤ r10 → wX1_greatestPlace 1 v2 r6 (fun r15 σ16 => wX1_greatestPlace 1 v2 x3 (fun r17 σ18 => ((r17 ≤ r15 → post (0 : Int32) σ18) ∧ (¬ r17 ≤ r15 → post (1 : Int32) σ18))) σ16) σ13))) σ11) σ9) σ5))
set_option maxHeartbeats 4000000 in
set_option maxRecDepth 100000 in
theorem kcX7_tradePays (l : Launch) (D : va_G) (c : Nat → ClassId) (q : Nat → Nat) (ev : State → Heap → Prop) (hev : evOK (wdA 36 q) ev) (σ : hsS) (x1 : Int32) (x2 : Int32) (x3 : Int32) (post : Int32 → hsS → Prop) (hw : wX7_tradePays x1 x2 x3 post σ) : Met l yX7_tradePays (Cond.code yX7_tradePays cX7_tradePays 7 (some .boolean) :: tb_L) { frames := 4, cells := 0, slots := 0, locals := 90 } (wdPc D (xw c q) (xwT c) (wdA 36 q) ev σ [.ref (q 0), .int x1, .int x2, .int x3]) (va_Qi post (wdB D (xw c q)) (wdA 36 q)) 0 0 (wdA 36 q) := by
  refine Met.ofW (cc := cX7_tradePays) (maxL := 7) (ret := (some .boolean)) (by decide) rfl ?_
  intro p e s m args below meth c₀ s₁ Bd hml hv
  obtain ⟨rfl, hP, hK, hD0, hE⟩ := hv
  have hx := Bd.exec
  have hb := Bd.bytes
  have hr := Bd.returns
  have hts := atoms_spec (ws := Cond.code yX7_tradePays cX7_tradePays 7 (some .boolean) :: tb_L) Bd.pre
  have htb : ∀ w ∈ tb_L, w.before [.ref (q 0), .int x1, .int x2, .int x3].toArray s = true := fun w h => hts w (List.mem_cons_of_mem _ h)
  have hown : s.vm.findClass RX7 = some m.cls := findClass_of_methodNamed Bd.named
  have hlocks := Bd.notSynchronized
  have hS : va_S (wdA 36 q) s.heap s.heap [] := va_S.rf
  have hD := hD0
  have hl := lv_entry ([.ref (q 0), .int x1, .int x2, .int x3]) (n := 7) (Nat.le_of_ble_eq_true rfl)
  rw [lg_entry_eq]
  generalize (lg_sl ([.ref (q 0), .int x1, .int x2, .int x3]) ++ List.replicate (7 - (lg_sl ([.ref (q 0), .int x1, .int x2, .int x3])).length) Slot.unset).toArray = ls at hl ⊢
  have hl : lv_has ls 7 [(0, .ref (q 0)), (1, .int x1), (2, .int x2), (3, .int x3)] := hl
  unfold wX7_tradePays at hw
  refine lv_aload_n hx hb dX7_tradePays_0 rfl (lv_at hl 0 rfl) ?_
  refine va_get (D := D) (ci := 7) (C := RX7) (T := TX7) (N := 9) hx hb htb inX7 hown hK hP 0 (xw_0 c q σ) rfl 0 (by decide) (htb _ tb_342) (fun _ h9 => h9) rfl dX7_tradePays_1 ?_
  refine va_getN (D := D) (ci := 1) (C := RX1) (T := TX1) (N := 12) hx hb htb inX1 hown hK hP 1 (xw_1 c q σ) rfl 11 (by decide) (htb _ tb_165) (fun _ h9 => h9) rfl dX7_tradePays_4 ?_
  refine lv_iload_n hx hb dX7_tradePays_7 rfl (lv_at hl 1 rfl) ?_
  refine va_iald hx hb hK hP 5 3 (xw_5 c q σ) rfl hw.1 dX7_tradePays_8 ?_
  have hw := hw.2
  refine lv_topi (fun v1 ev1 => ?_)
  have hw := hw v1 ev1
  refine lv_istore (lv' := [(4, .int v1), (0, .ref (q 0)), (1, .int x1), (2, .int x2), (3, .int x3)]) hx hb dX7_tradePays_9 hl (by decide) rfl (fun ls hl => ?_)
  refine lv_aload_n hx hb dX7_tradePays_11 rfl (lv_at hl 1 rfl) ?_
  refine va_get (D := D) (ci := 7) (C := RX7) (T := TX7) (N := 9) hx hb htb inX7 hown hK hP 0 (xw_0 c q σ) rfl 0 (by decide) (htb _ tb_342) (fun _ h9 => h9) rfl dX7_tradePays_12 ?_
  refine va_getN (D := D) (ci := 1) (C := RX1) (T := TX1) (N := 12) hx hb htb inX1 hown hK hP 1 (xw_1 c q σ) rfl 11 (by decide) (htb _ tb_165) (fun _ h9 => h9) rfl dX7_tradePays_15 ?_
  refine lv_iload_n hx hb dX7_tradePays_18 rfl (lv_at hl 3 rfl) ?_
  refine va_iald hx hb hK hP 5 3 (xw_5 c q σ) rfl hw.1 dX7_tradePays_19 ?_
  have hw := hw.2
  refine lv_topi (fun v2 ev2 => ?_)
  have hw := hw v2 ev2
  refine lv_istore (lv' := [(5, .int v2), (4, .int v1), (0, .ref (q 0)), (1, .int x1), (2, .int x2), (3, .int x3)]) hx hb dX7_tradePays_20 hl (by decide) rfl (fun ls hl => ?_)
  refine lv_iload hx hb dX7_tradePays_22 (lv_at hl 1 rfl) ?_
  refine lv_iload hx hb dX7_tradePays_24 (lv_at hl 0 rfl) ?_
  refine lv_icmp_ne (tgt := 31) hx hb dX7_tradePays_26 (by decide) (fun c3 => ?_) (fun c3 => ?_)
  · have hw := hw.2 c3
    refine lv_aload_n hx hb dX7_tradePays_31 rfl (lv_at hl 2 rfl) ?_
    refine va_get (D := D) (ci := 7) (C := RX7) (T := TX7) (N := 9) hx hb htb inX7 hown hK hP 0 (xw_0 c q σ) rfl 1 (by decide) (htb _ tb_343) (fun _ h9 => h9) rfl dX7_tradePays_32 ?_
    refine va_getN (D := D) (ci := 1) (C := RX1) (T := TX1) (N := 12) hx hb htb inX1 hown hK hP 6 (xw_6 c q σ) rfl 11 (by decide) (htb _ tb_165) (fun _ h9 => h9) rfl dX7_tradePays_35 ?_
    refine lv_iload_n hx hb dX7_tradePays_38 rfl (lv_at hl 3 rfl) ?_
    refine lv_iload hx hb dX7_tradePays_39 (lv_at hl 0 rfl) ?_
    refine va_iast hx hb hK hP hD hS 10 7 (xw_10 c q σ) rfl hw.1 dX7_tradePays_41 (fun H locs hP hD hS => ?_)
    have hw := hw.2
    have hP : va_P D vwCl (xw c q (hsA σ 10 (upd (σ.2.1 10) x1.toNatClampNeg v2))) H := hP
    obtain ⟨σ4, eσ4⟩ : ∃ z : hsS, z = hsA σ 10 (upd (σ.2.1 10) x1.toNatClampNeg v2) := ⟨_, rfl⟩
    rw [← eσ4] at hP
    have hD : va_D (wdA 36 q) (xw c q σ4) := xw_D hD0
    have hw := hw σ4 eσ4
    refine lv_aload_n hx hb dX7_tradePays_42 rfl (lv_at hl 2 rfl) ?_
    refine va_get (D := D) (ci := 7) (C := RX7) (T := TX7) (N := 9) hx hb htb inX7 hown hK hP 0 (xw_0 c q σ4) rfl 1 (by decide) (htb _ tb_343) (fun _ h9 => h9) rfl dX7_tradePays_43 ?_
    refine va_getN (D := D) (ci := 1) (C := RX1) (T := TX1) (N := 12) hx hb htb inX1 hown hK hP 6 (xw_6 c q σ4) rfl 11 (by decide) (htb _ tb_165) (fun _ h9 => h9) rfl dX7_tradePays_46 ?_
    refine lv_iload_n hx hb dX7_tradePays_49 rfl (lv_at hl 4 rfl) ?_
    refine lv_iload hx hb dX7_tradePays_50 (lv_at hl 1 rfl) ?_
    refine va_iast hx hb hK hP hD hS 10 7 (xw_10 c q σ4) rfl hw.1 dX7_tradePays_52 (fun H locs hP hD hS => ?_)
    have hw := hw.2
    have hP : va_P D vwCl (xw c q (hsA σ4 10 (upd (σ4.2.1 10) x2.toNatClampNeg v1))) H := hP
    obtain ⟨σ5, eσ5⟩ : ∃ z : hsS, z = hsA σ4 10 (upd (σ4.2.1 10) x2.toNatClampNeg v1) := ⟨_, rfl⟩
    rw [← eσ5] at hP
    have hD : va_D (wdA 36 q) (xw c q σ5) := xw_D hD0
    have hw := hw σ5 eσ5
    refine lv_aload_n hx hb dX7_tradePays_53 rfl (lv_at hl 2 rfl) ?_
    refine va_get (D := D) (ci := 7) (C := RX7) (T := TX7) (N := 9) hx hb htb inX7 hown hK hP 0 (xw_0 c q σ5) rfl 1 (by decide) (htb _ tb_343) (fun _ h9 => h9) rfl dX7_tradePays_54 ?_
    refine va_calli (va_runV (As := []) (rest := []) ⟨hx, hb, hml, hown, htb⟩ (kcX1_plainEnd_6 l D c q ev hev σ5  _ hw) (tb_CW htb kX1_plainEnd tb_457 tb_458 tb_459 ⟨Nat.le_of_ble_eq_true rfl, Nat.le_of_ble_eq_true rfl⟩) (wd_preV (wd := xw c q) (k := 6) hev hK hP hD hE hS (xw_6 c q σ5) rfl) rfl rfl hl.1 rfl (lv_room (Nat.le_of_ble_eq_true rfl)) dX7_tradePays_57 ⟨Nat.zero_le _, Nat.zero_le _⟩) hS (fun q _ h => h) (fun q h => h) (fun r6 σ7 t H1 locs1 ht hvm hw hB hz1 hk1 hS => ?_)
    have hP : va_P D vwCl (xw c q σ7) H1 := ht ▸ hB
    have hD : va_D (wdA 36 q) (xw c q σ7) := xw_D hD0
    refine lv_istore (lv' := [(6, .int r6), (5, .int v2), (4, .int v1), (0, .ref (q 0)), (1, .int x1), (2, .int x2), (3, .int x3)]) hx hb dX7_tradePays_60 hl (by decide) rfl (fun ls hl => ?_)
    refine lv_aload_n hx hb dX7_tradePays_62 rfl (lv_at hl 3 rfl) ?_
    refine va_get (D := D) (ci := 7) (C := RX7) (T := TX7) (N := 9) hx hb htb inX7 hown hK hP 0 (xw_0 c q σ7) rfl 1 (by decide) (htb _ tb_343) (fun _ h9 => h9) rfl dX7_tradePays_63 ?_
    refine va_getN (D := D) (ci := 1) (C := RX1) (T := TX1) (N := 12) hx hb htb inX1 hown hK hP 6 (xw_6 c q σ7) rfl 11 (by decide) (htb _ tb_165) (fun _ h9 => h9) rfl dX7_tradePays_66 ?_
    refine lv_iload_n hx hb dX7_tradePays_69 rfl (lv_at hl 4 rfl) ?_
    refine lv_iload hx hb dX7_tradePays_70 (lv_at hl 2 rfl) ?_
    refine va_iast hx hb hK hP hD hS 10 7 (xw_10 c q σ7) rfl hw.1 dX7_tradePays_72 (fun H locs hP hD hS => ?_)
    have hw := hw.2
    have hP : va_P D vwCl (xw c q (hsA σ7 10 (upd (σ7.2.1 10) x1.toNatClampNeg v1))) H := hP
    obtain ⟨σ8, eσ8⟩ : ∃ z : hsS, z = hsA σ7 10 (upd (σ7.2.1 10) x1.toNatClampNeg v1) := ⟨_, rfl⟩
    rw [← eσ8] at hP
    have hD : va_D (wdA 36 q) (xw c q σ8) := xw_D hD0
    have hw := hw σ8 eσ8
    refine lv_aload_n hx hb dX7_tradePays_73 rfl (lv_at hl 3 rfl) ?_
    refine va_get (D := D) (ci := 7) (C := RX7) (T := TX7) (N := 9) hx hb htb inX7 hown hK hP 0 (xw_0 c q σ8) rfl 1 (by decide) (htb _ tb_343) (fun _ h9 => h9) rfl dX7_tradePays_74 ?_
    refine va_getN (D := D) (ci := 1) (C := RX1) (T := TX1) (N := 12) hx hb htb inX1 hown hK hP 6 (xw_6 c q σ8) rfl 11 (by decide) (htb _ tb_165) (fun _ h9 => h9) rfl dX7_tradePays_77 ?_
    refine lv_iload_n hx hb dX7_tradePays_80 rfl (lv_at hl 5 rfl) ?_
    refine lv_iload hx hb dX7_tradePays_81 (lv_at hl 1 rfl) ?_
    refine va_iast hx hb hK hP hD hS 10 7 (xw_10 c q σ8) rfl hw.1 dX7_tradePays_83 (fun H locs hP hD hS => ?_)
    have hw := hw.2
    have hP : va_P D vwCl (xw c q (hsA σ8 10 (upd (σ8.2.1 10) x2.toNatClampNeg v2))) H := hP
    obtain ⟨σ9, eσ9⟩ : ∃ z : hsS, z = hsA σ8 10 (upd (σ8.2.1 10) x2.toNatClampNeg v2) := ⟨_, rfl⟩
    rw [← eσ9] at hP
    have hD : va_D (wdA 36 q) (xw c q σ9) := xw_D hD0
    have hw := hw σ9 eσ9
    refine lv_aload_n hx hb dX7_tradePays_84 rfl (lv_at hl 3 rfl) ?_
    refine va_get (D := D) (ci := 7) (C := RX7) (T := TX7) (N := 9) hx hb htb inX7 hown hK hP 0 (xw_0 c q σ9) rfl 0 (by decide) (htb _ tb_342) (fun _ h9 => h9) rfl dX7_tradePays_85 ?_
    refine lv_iload hx hb dX7_tradePays_88 (lv_at hl 2 rfl) ?_
    refine lv_iload hx hb dX7_tradePays_90 (lv_at hl 0 rfl) ?_
    refine va_calli (va_runV (As := [.int v1, .int r6]) (rest := []) ⟨hx, hb, hml, hown, htb⟩ (kcX1_greatestPlace_1 l D c q ev hev σ9 v1 r6 _ hw) (tb_CW htb kX1_greatestPlace tb_1023 tb_491 tb_492 ⟨Nat.le_of_ble_eq_true rfl, Nat.le_of_ble_eq_true rfl⟩) (wd_preV (wd := xw c q) (k := 1) hev hK hP hD hE hS (xw_1 c q σ9) rfl) rfl rfl hl.1 rfl (lv_room (Nat.le_of_ble_eq_true rfl)) dX7_tradePays_92 ⟨Nat.zero_le _, Nat.zero_le _⟩) hS (fun q _ h => h) (fun q h => h) (fun r10 σ11 t H1 locs1 ht hvm hw hB hz1 hk1 hS => ?_)
    have hP : va_P D vwCl (xw c q σ11) H1 := ht ▸ hB
    have hD : va_D (wdA 36 q) (xw c q σ11) := xw_D hD0
    refine lv_aload_n hx hb dX7_tradePays_95 rfl (lv_at hl 3 rfl) ?_
    refine va_get (D := D) (ci := 7) (C := RX7) (T := TX7) (N := 9) hx hb htb inX7 hown hK hP 0 (xw_0 c q σ11) rfl 0 (by decide) (htb _ tb_342) (fun _ h9 => h9) rfl dX7_tradePays_96 ?_
    refine lv_iload hx hb dX7_tradePays_99 (lv_at hl 2 rfl) ?_
    refine lv_iload_n hx hb dX7_tradePays_101 rfl (lv_at hl 6 rfl) ?_
    refine va_calli (va_runV (As := [.int v1, .int x3]) (rest := [.int r10]) ⟨hx, hb, hml, hown, htb⟩ (kcX1_greatestPlace_1 l D c q ev hev σ11 v1 x3 _ hw) (tb_CW htb kX1_greatestPlace tb_1023 tb_491 tb_492 ⟨Nat.le_of_ble_eq_true rfl, Nat.le_of_ble_eq_true rfl⟩) (wd_preV (wd := xw c q) (k := 1) hev hK hP hD hE hS (xw_1 c q σ11) rfl) rfl rfl hl.1 rfl (lv_room (Nat.le_of_ble_eq_true rfl)) dX7_tradePays_102 ⟨Nat.zero_le _, Nat.zero_le _⟩) hS (fun q _ h => h) (fun q h => h) (fun r12 σ13 t H1 locs1 ht hvm hw hB hz1 hk1 hS => ?_)
    have hP : va_P D vwCl (xw c q σ13) H1 := ht ▸ hB
    have hD : va_D (wdA 36 q) (xw c q σ13) := xw_D hD0
    refine lv_icmp_ge (tgt := 136) hx hb dX7_tradePays_105 (by decide) (fun c14 => ?_) (fun c14 => ?_)
    · have hw := hw.1 c14
      refine lv_iconst (v := (0 : Int32)) hx hb dX7_tradePays_136 (by decide) ?_
      exact W.zret hx hb hr rfl (fun t ht hW => ⟨⟨_, σ13, rfl, hw, by unfold wdB; rw [ht]; exact hP⟩, hS.F ht⟩) hS.2.2 dX7_tradePays_137
    · have hw := hw.2 c14
      refine lv_aload_n hx hb dX7_tradePays_108 rfl (lv_at hl 3 rfl) ?_
      refine va_get (D := D) (ci := 7) (C := RX7) (T := TX7) (N := 9) hx hb htb inX7 hown hK hP 0 (xw_0 c q σ13) rfl 0 (by decide) (htb _ tb_342) (fun _ h9 => h9) rfl dX7_tradePays_109 ?_
      refine lv_iload hx hb dX7_tradePays_112 (lv_at hl 1 rfl) ?_
      refine lv_iload hx hb dX7_tradePays_114 (lv_at hl 0 rfl) ?_
      refine va_calli (va_runV (As := [.int v2, .int r6]) (rest := []) ⟨hx, hb, hml, hown, htb⟩ (kcX1_greatestPlace_1 l D c q ev hev σ13 v2 r6 _ hw) (tb_CW htb kX1_greatestPlace tb_1023 tb_491 tb_492 ⟨Nat.le_of_ble_eq_true rfl, Nat.le_of_ble_eq_true rfl⟩) (wd_preV (wd := xw c q) (k := 1) hev hK hP hD hE hS (xw_1 c q σ13) rfl) rfl rfl hl.1 rfl (lv_room (Nat.le_of_ble_eq_true rfl)) dX7_tradePays_116 ⟨Nat.zero_le _, Nat.zero_le _⟩) hS (fun q _ h => h) (fun q h => h) (fun r15 σ16 t H1 locs1 ht hvm hw hB hz1 hk1 hS => ?_)
      have hP : va_P D vwCl (xw c q σ16) H1 := ht ▸ hB
      have hD : va_D (wdA 36 q) (xw c q σ16) := xw_D hD0
      refine lv_aload_n hx hb dX7_tradePays_119 rfl (lv_at hl 3 rfl) ?_
      refine va_get (D := D) (ci := 7) (C := RX7) (T := TX7) (N := 9) hx hb htb inX7 hown hK hP 0 (xw_0 c q σ16) rfl 0 (by decide) (htb _ tb_342) (fun _ h9 => h9) rfl dX7_tradePays_120 ?_
      refine lv_iload hx hb dX7_tradePays_123 (lv_at hl 1 rfl) ?_
      refine lv_iload_n hx hb dX7_tradePays_125 rfl (lv_at hl 6 rfl) ?_
      refine va_calli (va_runV (As := [.int v2, .int x3]) (rest := [.int r15]) ⟨hx, hb, hml, hown, htb⟩ (kcX1_greatestPlace_1 l D c q ev hev σ16 v2 x3 _ hw) (tb_CW htb kX1_greatestPlace tb_1023 tb_491 tb_492 ⟨Nat.le_of_ble_eq_true rfl, Nat.le_of_ble_eq_true rfl⟩) (wd_preV (wd := xw c q) (k := 1) hev hK hP hD hE hS (xw_1 c q σ16) rfl) rfl rfl hl.1 rfl (lv_room (Nat.le_of_ble_eq_true rfl)) dX7_tradePays_126 ⟨Nat.zero_le _, Nat.zero_le _⟩) hS (fun q _ h => h) (fun q h => h) (fun r17 σ18 t H1 locs1 ht hvm hw hB hz1 hk1 hS => ?_)
      have hP : va_P D vwCl (xw c q σ18) H1 := ht ▸ hB
      have hD : va_D (wdA 36 q) (xw c q σ18) := xw_D hD0
      refine lv_icmp_ge (tgt := 136) hx hb dX7_tradePays_129 (by decide) (fun c19 => ?_) (fun c19 => ?_)
      · have hw := hw.1 c19
        refine lv_iconst (v := (0 : Int32)) hx hb dX7_tradePays_136 (by decide) ?_
        exact W.zret hx hb hr rfl (fun t ht hW => ⟨⟨_, σ18, rfl, hw, by unfold wdB; rw [ht]; exact hP⟩, hS.F ht⟩) hS.2.2 dX7_tradePays_137
      · have hw := hw.2 c19
        refine lv_iconst (v := (1 : Int32)) hx hb dX7_tradePays_132 (by decide) ?_
        refine lv_goto (tgt := 137) hx hb dX7_tradePays_133 (by decide) ?_
        exact W.zret hx hb hr rfl (fun t ht hW => ⟨⟨_, σ18, rfl, hw, by unfold wdB; rw [ht]; exact hP⟩, hS.F ht⟩) hS.2.2 dX7_tradePays_137
  · have hw := hw.1 c3
    refine lv_iconst (v := (0 : Int32)) hx hb dX7_tradePays_29 (by decide) ?_
    exact W.zret hx hb hr rfl (fun t ht hW => ⟨⟨_, σ, rfl, hw, by unfold wdB; rw [ht]; exact hP⟩, hS.F ht⟩) hS.2.2 dX7_tradePays_30
def wX7_trades_L64 (z1 : Int32) (z4 : Int32) (z5 : Int32) (K115 : Int32 → Int32 → Int32 → hsS → Prop) (post : Int32 → hsS → Prop) (px : hsS → Prop) : Nat → Int32 → Int32 → Int32 → hsS → Prop
  | 0, _, _, _, _ => False
  | n + 1, y2, y3, y6, σ => (((σ.1 70) ≤ y6 → K115 y2 y3 y6 σ) ∧ (¬ (σ.1 70) ≤ y6 → wX7_tradePays z5 y6 z4 (fun r9 σ10 => ((r9 = (0 : Int32) → ∀ v12 : Int32, v12 = y6 + (1 : Int32) → wX7_trades_L64 z1 z4 z5 K115 post px n y2 y3 v12 σ10) ∧ (¬ r9 = (0 : Int32) → ((y3 = (0 : Int32) → ∀ v14 : Int32, v14 = ((8 : Int32) * z5) + y6 → ∀ v15 : Int32, v15 = y3 + (1 : Int32) → ∀ v16 : Int32, v16 = y6 + (1 : Int32) → wX7_trades_L64 z1 z4 z5 K115 post px n v14 v15 v16 σ10) ∧ (¬ y3 = (0 : Int32) → ∀ v17 : Int32, v17 = y3 + (1 : Int32) → ∀ v18 : Int32, v18 = y6 + (1 : Int32) → wX7_trades_L64 z1 z4 z5 K115 post px n y2 v17 v18 σ10))))) σ))
def wX7_trades_L46 (z1 : Int32) (z4 : Int32) (K121 : Int32 → Int32 → Int32 → hsS → Prop) (post : Int32 → hsS → Prop) (px : hsS → Prop) : Nat → Int32 → Int32 → Int32 → hsS → Prop
  | 0, _, _, _, _ => False
  | n + 1, y2, y3, y5, σ => (((σ.1 70) ≤ y5 → K121 y2 y3 y5 σ) ∧ (¬ (σ.1 70) ≤ y5 → ∀ v7 : Int32, v7 = y5 + (1 : Int32) → ∃ n19, wX7_trades_L64 z1 z4 y5 (fun v20 v21 v22 σ23 => ∀ v24 : Int32, v24 = y5 + (1 : Int32) → wX7_trades_L46 z1 z4 K121 post px n v20 v21 v24 σ23) post px n19 y2 y3 v7 σ))
def wX7_trades (x1 : Int32) (post : Int32 → hsS → Prop) (px : hsS → Prop) (σ : hsS) : Prop := ((x1 = (0 : Int32) → wX1_plainEnd 1 (fun r2 σ3 => wX1_takeFrom 6 1 (fun σ5 => ∃ n25, wX7_trades_L46 x1 r2 (fun v26 v27 v28 σ29 => ((x1 = (0 : Int32) → post v27 σ29) ∧ (¬ x1 = (0 : Int32) → post v26 σ29))) post px n25 (-1 : Int32) (0 : Int32) (0 : Int32) σ5) σ3) σ) ∧ (¬ x1 = (0 : Int32) → ((x1 = (1 : Int32) → wX1_plainEnd 1 (fun r32 σ33 => wX1_takeFrom 6 1 (fun σ35 => ∃ n36, wX7_trades_L46 x1 r32 (fun v37 v38 v39 σ40 => ((x1 = (0 : Int32) → post v38 σ40) ∧ (¬ x1 = (0 : Int32) → post v37 σ40))) post px n36 (-1 : Int32) (0 : Int32) (0 : Int32) σ35) σ33) σ) ∧ (¬ x1 = (1 : Int32) → px σ))))
set_option maxHeartbeats 4000000 in
set_option maxRecDepth 100000 in
theorem kcX7_trades (l : Launch) (D : va_G) (c : Nat → ClassId) (q : Nat → Nat) (ev : State → Heap → Prop) (hev : evOK (wdA 36 q) ev) (hst : l.stackTraces = false) (hX : ∀ (U : State) (H : Heap), ev U H → evT (wdA 36 q) U H) (σ : hsS) (x1 : Int32) (post : Int32 → hsS → Prop) (px : hsS → Prop) (hw : wX7_trades x1 post px σ) : vx_Met l yX7_trades (Cond.code yX7_trades cX7_trades 7 (some .int) :: tb_L) { frames := 8, cells := 1, slots := 6, locals := 128 } (wdPc D (xw c q) (xwT c) (wdA 36 q) ev σ [.ref (q 0), .int x1]) (va_Qi post (wdB D (xw c q)) (wdA 36 q)) (vx_X px (xpB D (xw c q) "java/util/NoSuchElementException") (wdA 36 q)) 1 6 (wdA 36 q) := by
  refine vx_ofW (cc := cX7_trades) (maxL := 7) (ret := (some .int)) (by decide) rfl ?_
  intro p e s m args below meth c₀ s₁ Bd hml htab hv
  obtain ⟨rfl, hP, hK, hD0, hE⟩ := hv
  have hx := Bd.exec
  have hb := Bd.bytes
  have hr := Bd.returns
  have hts := atoms_spec (ws := Cond.code yX7_trades cX7_trades 7 (some .int) :: tb_L) Bd.pre
  have htb : ∀ w ∈ tb_L, w.before [.ref (q 0), .int x1].toArray s = true := fun w h => hts w (List.mem_cons_of_mem _ h)
  have hown : s.vm.findClass RX7 = some m.cls := findClass_of_methodNamed Bd.named
  have hlocks := Bd.notSynchronized
  have hS : va_S (wdA 36 q) s.heap s.heap [] := va_S.rf
  have hD := hD0
  have L64 : ∀ (K115 : Int32 → Int32 → Int32 → hsS → Prop) (z1 : Int32) (z4 : Int32) (z5 : Int32) (n : Nat) (y2 : Int32) (y3 : Int32) (y6 : Int32) (σ : hsS) (H : Heap) (locs : List Loc) (ls : Array Slot), wX7_trades_L64 z1 z4 z5 K115 post px n y2 y3 y6 σ → (∀ (y2 : Int32) (y3 : Int32) (y6 : Int32) (σ : hsS) (H : Heap) (locs : List Loc) (ls : Array Slot), K115 y2 y3 y6 σ → va_P D vwCl (xw c q σ) H → va_S (wdA 36 q) s.heap H locs → lv_has ls 7 [(0, .ref (q 0)), (1, .int z1), (2, .int y2), (3, .int y3), (4, .int z4), (5, .int z5), (6, .int y6)] → W p l e (headSpec (Cond.code yX7_trades cX7_trades 7 (some .int) :: tb_L) { frames := 8, cells := 1, slots := 6, locals := 128 }).room s m [.ref (q 0), .int x1].toArray below meth c₀ H locs 0 0 (vx_MQ below (va_Qi post (wdB D (xw c q)) (wdA 36 q)) (vx_X px (xpB D (xw c q) "java/util/NoSuchElementException") (wdA 36 q)) [.ref (q 0), .int x1].toArray s 1 6 (wdA 36 q)) (F0 m 115 ls [])) → va_P D vwCl (xw c q σ) H → va_S (wdA 36 q) s.heap H locs → lv_has ls 7 [(0, .ref (q 0)), (1, .int z1), (2, .int y2), (3, .int y3), (4, .int z4), (5, .int z5), (6, .int y6)] → W p l e (headSpec (Cond.code yX7_trades cX7_trades 7 (some .int) :: tb_L) { frames := 8, cells := 1, slots := 6, locals := 128 }).room s m [.ref (q 0), .int x1].toArray below meth c₀ H locs 0 0 (vx_MQ below (va_Qi post (wdB D (xw c q)) (wdA 36 q)) (vx_X px (xpB D (xw c q) "java/util/NoSuchElementException") (wdA 36 q)) [.ref (q 0), .int x1].toArray s 1 6 (wdA 36 q)) (F0 m 64 ls []) := by
    intro K115 z1 z4 z5 n
    induction n with
    | zero =>
      intro y2 y3 y6 σ H locs ls hw hk115 hP hS hl
      exact (show False from hw).elim
    | succ n ih =>
      intro y2 y3 y6 σ H locs ls hw hk115 hP hS hl
      rw [wX7_trades_L64] at hw
      have hD : va_D (wdA 36 q) (xw c q σ) := xw_D hD0
      refine lv_iload hx hb dX7_trades_64 (lv_at hl 6 rfl) ?_
      refine lv_aload_n hx hb dX7_trades_66 rfl (lv_at hl 0 rfl) ?_
      refine va_get (D := D) (ci := 7) (C := RX7) (T := TX7) (N := 9) hx hb htb inX7 hown hK hP 0 (xw_0 c q σ) rfl 0 (by decide) (htb _ tb_342) (fun _ h9 => h9) rfl dX7_trades_67 ?_
      refine va_getN (D := D) (ci := 1) (C := RX1) (T := TX1) (N := 12) hx hb htb inX1 hown hK hP 1 (xw_1 c q σ) rfl 6 (by decide) (htb _ tb_151) (fun _ h9 => h9) rfl dX7_trades_70 ?_
      refine lv_icmp_ge (tgt := 115) hx hb dX7_trades_73 (by decide) (fun c8 => ?_) (fun c8 => ?_)
      · have hw := hw.1 c8
        exact hk115 y2 y3 y6 σ _ _ _ hw hP hS (lv_sub hl [0, 1, 2, 3, 4, 5, 6] rfl)
      · have hw := hw.2 c8
        refine lv_aload_n hx hb dX7_trades_76 rfl (lv_at hl 0 rfl) ?_
        refine lv_iload hx hb dX7_trades_77 (lv_at hl 5 rfl) ?_
        refine lv_iload hx hb dX7_trades_79 (lv_at hl 6 rfl) ?_
        refine lv_iload hx hb dX7_trades_81 (lv_at hl 4 rfl) ?_
        refine va_calli (va_runV (As := [.int z5, .int y6, .int z4]) (rest := []) ⟨hx, hb, hml, hown, htb⟩ (kcX7_tradePays l D c q ev hev σ z5 y6 z4 _ hw) (tb_CW htb kX7_tradePays tb_1041 tb_1043 tb_39 ⟨Nat.le_of_ble_eq_true rfl, Nat.le_of_ble_eq_true rfl⟩) (wd_preV (wd := xw c q) (k := 0) hev hK hP hD hE hS (xw_0 c q σ) rfl) rfl rfl hl.1 rfl (lv_room (Nat.le_of_ble_eq_true rfl)) dX7_trades_83 ⟨Nat.le_of_ble_eq_true rfl, Nat.le_of_ble_eq_true rfl⟩) hS (fun q _ h => h) (fun q h => h) (fun r9 σ10 t H1 locs1 ht hvm hw hB hz1 hk1 hS => ?_)
        have hP : va_P D vwCl (xw c q σ10) H1 := ht ▸ hB
        have hD : va_D (wdA 36 q) (xw c q σ10) := xw_D hD0
        refine lv_if_eq (tgt := 109) hx hb dX7_trades_86 (by decide) (fun c11 => ?_) (fun c11 => ?_)
        · have hw := hw.1 c11
          obtain ⟨v12, ev12⟩ : ∃ z : Int32, z = y6 + (1 : Int32) := ⟨_, rfl⟩
          have hw := hw v12 ev12
          refine lv_iinc (v := v12) (lv' := [(6, .int v12), (0, .ref (q 0)), (1, .int z1), (2, .int y2), (3, .int y3), (4, .int z4), (5, .int z5)]) hx hb dX7_trades_109 hl (k := 6) rfl (by rw [ev12]; rfl) (by decide) rfl (fun ls hl => ?_)
          refine lv_goto (tgt := 64) hx hb dX7_trades_112 (by decide) ?_
          exact ih y2 y3 v12 σ10 _ _ _ hw hk115 hP hS (lv_sub hl [1, 2, 3, 4, 5, 6, 0] rfl)
        · have hw := hw.2 c11
          refine lv_iload_n hx hb dX7_trades_89 rfl (lv_at hl 3 rfl) ?_
          refine lv_if_ne (tgt := 104) hx hb dX7_trades_90 (by decide) (fun c13 => ?_) (fun c13 => ?_)
          · have hw := hw.2 c13
            refine lv_iload_n hx hb dX7_trades_104 rfl (lv_at hl 2 rfl) ?_
            refine lv_istore_n (lv' := [(2, .int y2), (0, .ref (q 0)), (1, .int z1), (3, .int y3), (4, .int z4), (5, .int z5), (6, .int y6)]) hx hb dX7_trades_105 rfl hl (by decide) rfl (fun ls hl => ?_)
            obtain ⟨v17, ev17⟩ : ∃ z : Int32, z = y3 + (1 : Int32) := ⟨_, rfl⟩
            have hw := hw v17 ev17
            refine lv_iinc (v := v17) (lv' := [(3, .int v17), (2, .int y2), (0, .ref (q 0)), (1, .int z1), (4, .int z4), (5, .int z5), (6, .int y6)]) hx hb dX7_trades_106 hl (k := 3) rfl (by rw [ev17]; rfl) (by decide) rfl (fun ls hl => ?_)
            obtain ⟨v18, ev18⟩ : ∃ z : Int32, z = y6 + (1 : Int32) := ⟨_, rfl⟩
            have hw := hw v18 ev18
            refine lv_iinc (v := v18) (lv' := [(6, .int v18), (3, .int v17), (2, .int y2), (0, .ref (q 0)), (1, .int z1), (4, .int z4), (5, .int z5)]) hx hb dX7_trades_109 hl (k := 6) rfl (by rw [ev18]; rfl) (by decide) rfl (fun ls hl => ?_)
            refine lv_goto (tgt := 64) hx hb dX7_trades_112 (by decide) ?_
            exact ih y2 v17 v18 σ10 _ _ _ hw hk115 hP hS (lv_sub hl [3, 4, 2, 1, 5, 6, 0] rfl)
          · have hw := hw.1 c13
            refine lv_bipush (v := (8 : Int32)) hx hb dX7_trades_93 (by decide) ?_
            refine lv_iload hx hb dX7_trades_95 (lv_at hl 5 rfl) ?_
            refine lv_imul hx hb dX7_trades_97 ?_
            refine lv_iload hx hb dX7_trades_98 (lv_at hl 6 rfl) ?_
            refine lv_iadd hx hb dX7_trades_100 ?_
            refine lv_goto (tgt := 105) hx hb dX7_trades_101 (by decide) ?_
            refine lv_topi (fun v14 ev14 => ?_)
            have hw := hw v14 ev14
            refine lv_istore_n (lv' := [(2, .int v14), (0, .ref (q 0)), (1, .int z1), (3, .int y3), (4, .int z4), (5, .int z5), (6, .int y6)]) hx hb dX7_trades_105 rfl hl (by decide) rfl (fun ls hl => ?_)
            obtain ⟨v15, ev15⟩ : ∃ z : Int32, z = y3 + (1 : Int32) := ⟨_, rfl⟩
            have hw := hw v15 ev15
            refine lv_iinc (v := v15) (lv' := [(3, .int v15), (2, .int v14), (0, .ref (q 0)), (1, .int z1), (4, .int z4), (5, .int z5), (6, .int y6)]) hx hb dX7_trades_106 hl (k := 3) rfl (by rw [ev15]; rfl) (by decide) rfl (fun ls hl => ?_)
            obtain ⟨v16, ev16⟩ : ∃ z : Int32, z = y6 + (1 : Int32) := ⟨_, rfl⟩
            have hw := hw v16 ev16
            refine lv_iinc (v := v16) (lv' := [(6, .int v16), (3, .int v15), (2, .int v14), (0, .ref (q 0)), (1, .int z1), (4, .int z4), (5, .int z5)]) hx hb dX7_trades_109 hl (k := 6) rfl (by rw [ev16]; rfl) (by decide) rfl (fun ls hl => ?_)
            refine lv_goto (tgt := 64) hx hb dX7_trades_112 (by decide) ?_
            exact ih v14 v15 v16 σ10 _ _ _ hw hk115 hP hS (lv_sub hl [3, 4, 2, 1, 5, 6, 0] rfl)
  have L46 : ∀ (K121 : Int32 → Int32 → Int32 → hsS → Prop) (z1 : Int32) (z4 : Int32) (n : Nat) (y2 : Int32) (y3 : Int32) (y5 : Int32) (σ : hsS) (H : Heap) (locs : List Loc) (ls : Array Slot), wX7_trades_L46 z1 z4 K121 post px n y2 y3 y5 σ → (∀ (y2 : Int32) (y3 : Int32) (y5 : Int32) (σ : hsS) (H : Heap) (locs : List Loc) (ls : Array Slot), K121 y2 y3 y5 σ → va_P D vwCl (xw c q σ) H → va_S (wdA 36 q) s.heap H locs → lv_has ls 7 [(0, .ref (q 0)), (1, .int z1), (2, .int y2), (3, .int y3), (4, .int z4), (5, .int y5)] → W p l e (headSpec (Cond.code yX7_trades cX7_trades 7 (some .int) :: tb_L) { frames := 8, cells := 1, slots := 6, locals := 128 }).room s m [.ref (q 0), .int x1].toArray below meth c₀ H locs 0 0 (vx_MQ below (va_Qi post (wdB D (xw c q)) (wdA 36 q)) (vx_X px (xpB D (xw c q) "java/util/NoSuchElementException") (wdA 36 q)) [.ref (q 0), .int x1].toArray s 1 6 (wdA 36 q)) (F0 m 121 ls [])) → va_P D vwCl (xw c q σ) H → va_S (wdA 36 q) s.heap H locs → lv_has ls 7 [(0, .ref (q 0)), (1, .int z1), (2, .int y2), (3, .int y3), (4, .int z4), (5, .int y5)] → W p l e (headSpec (Cond.code yX7_trades cX7_trades 7 (some .int) :: tb_L) { frames := 8, cells := 1, slots := 6, locals := 128 }).room s m [.ref (q 0), .int x1].toArray below meth c₀ H locs 0 0 (vx_MQ below (va_Qi post (wdB D (xw c q)) (wdA 36 q)) (vx_X px (xpB D (xw c q) "java/util/NoSuchElementException") (wdA 36 q)) [.ref (q 0), .int x1].toArray s 1 6 (wdA 36 q)) (F0 m 46 ls []) := by
    intro K121 z1 z4 n
    induction n with
    | zero =>
      intro y2 y3 y5 σ H locs ls hw hk121 hP hS hl
      exact (show False from hw).elim
    | succ n ih =>
      intro y2 y3 y5 σ H locs ls hw hk121 hP hS hl
      rw [wX7_trades_L46] at hw
      have hD : va_D (wdA 36 q) (xw c q σ) := xw_D hD0
      refine lv_iload hx hb dX7_trades_46 (lv_at hl 5 rfl) ?_
      refine lv_aload_n hx hb dX7_trades_48 rfl (lv_at hl 0 rfl) ?_
      refine va_get (D := D) (ci := 7) (C := RX7) (T := TX7) (N := 9) hx hb htb inX7 hown hK hP 0 (xw_0 c q σ) rfl 0 (by decide) (htb _ tb_342) (fun _ h9 => h9) rfl dX7_trades_49 ?_
      refine va_getN (D := D) (ci := 1) (C := RX1) (T := TX1) (N := 12) hx hb htb inX1 hown hK hP 1 (xw_1 c q σ) rfl 6 (by decide) (htb _ tb_151) (fun _ h9 => h9) rfl dX7_trades_52 ?_
      refine lv_icmp_ge (tgt := 121) hx hb dX7_trades_55 (by decide) (fun c6 => ?_) (fun c6 => ?_)
      · have hw := hw.1 c6
        exact hk121 y2 y3 y5 σ _ _ _ hw hP hS (lv_sub hl [0, 1, 2, 3, 4, 5] rfl)
      · have hw := hw.2 c6
        refine lv_iload hx hb dX7_trades_58 (lv_at hl 5 rfl) ?_
        refine lv_iconst (v := (1 : Int32)) hx hb dX7_trades_60 (by decide) ?_
        refine lv_iadd hx hb dX7_trades_61 ?_
        refine lv_topi (fun v7 ev7 => ?_)
        have hw := hw v7 ev7
        refine lv_istore (lv' := [(6, .int v7), (0, .ref (q 0)), (1, .int z1), (2, .int y2), (3, .int y3), (4, .int z4), (5, .int y5)]) hx hb dX7_trades_62 hl (by decide) rfl (fun ls hl => ?_)
        obtain ⟨n19, hw⟩ := hw
        refine L64 _ z1 z4 y5 n19 y2 y3 v7 σ _ _ _ hw ?_ hP hS (lv_sub hl [1, 2, 3, 4, 5, 6, 0] rfl)
        intro v20 v21 v22 σ23 H locs ls hw hP hS hl
        have hD : va_D (wdA 36 q) (xw c q σ23) := xw_D hD0
        obtain ⟨v24, ev24⟩ : ∃ z : Int32, z = y5 + (1 : Int32) := ⟨_, rfl⟩
        have hw := hw v24 ev24
        refine lv_iinc (v := v24) (lv' := [(5, .int v24), (0, .ref (q 0)), (1, .int z1), (2, .int v20), (3, .int v21), (4, .int z4), (6, .int v22)]) hx hb dX7_trades_115 hl (k := 5) rfl (by rw [ev24]; rfl) (by decide) rfl (fun ls hl => ?_)
        refine lv_goto (tgt := 46) hx hb dX7_trades_118 (by decide) ?_
        exact ih v20 v21 v24 σ23 _ _ _ hw hk121 hP hS (lv_sub hl [1, 2, 3, 4, 5, 0] rfl)
  have hl := lv_entry ([.ref (q 0), .int x1]) (n := 7) (Nat.le_of_ble_eq_true rfl)
  rw [lg_entry_eq]
  generalize (lg_sl ([.ref (q 0), .int x1]) ++ List.replicate (7 - (lg_sl ([.ref (q 0), .int x1])).length) Slot.unset).toArray = ls at hl ⊢
  have hl : lv_has ls 7 [(0, .ref (q 0)), (1, .int x1)] := hl
  unfold wX7_trades at hw
  refine lv_iload_n hx hb dX7_trades_0 rfl (lv_at hl 1 rfl) ?_
  refine lv_if_eq (tgt := 19) hx hb dX7_trades_1 (by decide) (fun c1 => ?_) (fun c1 => ?_)
  · have hw := hw.1 c1
    refine lv_iconst (v := (-1 : Int32)) hx hb dX7_trades_19 (by decide) ?_
    refine lv_istore_n (lv' := [(2, .int (-1 : Int32)), (0, .ref (q 0)), (1, .int x1)]) hx hb dX7_trades_20 rfl hl (by decide) rfl (fun ls hl => ?_)
    refine lv_iconst (v := (0 : Int32)) hx hb dX7_trades_21 (by decide) ?_
    refine lv_istore_n (lv' := [(3, .int (0 : Int32)), (2, .int (-1 : Int32)), (0, .ref (q 0)), (1, .int x1)]) hx hb dX7_trades_22 rfl hl (by decide) rfl (fun ls hl => ?_)
    refine lv_aload_n hx hb dX7_trades_23 rfl (lv_at hl 2 rfl) ?_
    refine va_get (D := D) (ci := 7) (C := RX7) (T := TX7) (N := 9) hx hb htb inX7 hown hK hP 0 (xw_0 c q σ) rfl 0 (by decide) (htb _ tb_342) (fun _ h9 => h9) rfl dX7_trades_24 ?_
    refine va_calli (va_runV (As := []) (rest := []) ⟨hx, hb, hml, hown, htb⟩ (kcX1_plainEnd_1 l D c q ev hev σ  _ hw) (tb_CW htb kX1_plainEnd tb_457 tb_458 tb_459 ⟨Nat.le_of_ble_eq_true rfl, Nat.le_of_ble_eq_true rfl⟩) (wd_preV (wd := xw c q) (k := 1) hev hK hP hD hE hS (xw_1 c q σ) rfl) rfl rfl hl.1 rfl (lv_room (Nat.le_of_ble_eq_true rfl)) dX7_trades_27 ⟨Nat.le_of_ble_eq_true rfl, Nat.le_of_ble_eq_true rfl⟩) hS (fun q _ h => h) (fun q h => h) (fun r2 σ3 t H1 locs1 ht hvm hw hB hz1 hk1 hS => ?_)
    have hP : va_P D vwCl (xw c q σ3) H1 := ht ▸ hB
    have hD : va_D (wdA 36 q) (xw c q σ3) := xw_D hD0
    refine lv_istore (lv' := [(4, .int r2), (3, .int (0 : Int32)), (2, .int (-1 : Int32)), (0, .ref (q 0)), (1, .int x1)]) hx hb dX7_trades_30 hl (by decide) rfl (fun ls hl => ?_)
    refine lv_aload_n hx hb dX7_trades_32 rfl (lv_at hl 3 rfl) ?_
    refine va_get (D := D) (ci := 7) (C := RX7) (T := TX7) (N := 9) hx hb htb inX7 hown hK hP 0 (xw_0 c q σ3) rfl 1 (by decide) (htb _ tb_343) (fun _ h9 => h9) rfl dX7_trades_33 ?_
    refine lv_aload_n hx hb dX7_trades_36 rfl (lv_at hl 3 rfl) ?_
    refine va_get (D := D) (ci := 7) (C := RX7) (T := TX7) (N := 9) hx hb htb inX7 hown hK hP 0 (xw_0 c q σ3) rfl 0 (by decide) (htb _ tb_342) (fun _ h9 => h9) rfl dX7_trades_37 ?_
    refine va_callv (va_runV (As := [.ref (q 1)]) (rest := []) ⟨hx, hb, hml, hown, htb⟩ (kcX1_takeFrom_6_1 l D c q ev hev σ3  _ hw) (tb_CW htb kX1_takeFrom tb_858 tb_569 tb_570 ⟨Nat.le_of_ble_eq_true rfl, Nat.le_of_ble_eq_true rfl⟩) (wd_preV (wd := xw c q) (k := 6) hev hK hP hD hE hS (xw_6 c q σ3) rfl) rfl rfl hl.1 rfl (lv_room (Nat.le_of_ble_eq_true rfl)) dX7_trades_40 ⟨Nat.le_of_ble_eq_true rfl, Nat.le_of_ble_eq_true rfl⟩) hS (fun q _ h => h) (fun q h => h) (fun σ5 t H1 locs1 ht hvm hw hB hz1 hk1 hS => ?_)
    have hP : va_P D vwCl (xw c q σ5) H1 := ht ▸ hB
    have hD : va_D (wdA 36 q) (xw c q σ5) := xw_D hD0
    refine lv_iconst (v := (0 : Int32)) hx hb dX7_trades_43 (by decide) ?_
    refine lv_istore (lv' := [(5, .int (0 : Int32)), (4, .int r2), (3, .int (0 : Int32)), (2, .int (-1 : Int32)), (0, .ref (q 0)), (1, .int x1)]) hx hb dX7_trades_44 hl (by decide) rfl (fun ls hl => ?_)
    obtain ⟨n25, hw⟩ := hw
    refine L46 _ x1 r2 n25 (-1 : Int32) (0 : Int32) (0 : Int32) σ5 _ _ _ hw ?_ hP hS (lv_sub hl [4, 5, 3, 2, 1, 0] rfl)
    intro v26 v27 v28 σ29 H locs ls hw hP hS hl
    have hD : va_D (wdA 36 q) (xw c q σ29) := xw_D hD0
    refine lv_iload_n hx hb dX7_trades_121 rfl (lv_at hl 1 rfl) ?_
    refine lv_if_ne (tgt := 129) hx hb dX7_trades_122 (by decide) (fun c30 => ?_) (fun c30 => ?_)
    · have hw := hw.2 c30
      refine lv_iload_n hx hb dX7_trades_129 rfl (lv_at hl 2 rfl) ?_
      exact vx_ret (W.widen (k := 1) (n := 6) (Nat.le_of_ble_eq_true rfl) (Nat.le_of_ble_eq_true rfl) (W.iret hx hb hr (fun t ht hW => ⟨⟨_, σ29, rfl, hw, by unfold wdB; rw [ht]; exact hP⟩, hS.F ht⟩) hS.2.2 dX7_trades_130))
    · have hw := hw.1 c30
      refine lv_iload_n hx hb dX7_trades_125 rfl (lv_at hl 3 rfl) ?_
      refine lv_goto (tgt := 130) hx hb dX7_trades_126 (by decide) ?_
      exact vx_ret (W.widen (k := 1) (n := 6) (Nat.le_of_ble_eq_true rfl) (Nat.le_of_ble_eq_true rfl) (W.iret hx hb hr (fun t ht hW => ⟨⟨_, σ29, rfl, hw, by unfold wdB; rw [ht]; exact hP⟩, hS.F ht⟩) hS.2.2 dX7_trades_130))
  · have hw := hw.2 c1
    refine lv_iload_n hx hb dX7_trades_4 rfl (lv_at hl 1 rfl) ?_
    refine lv_iconst (v := (1 : Int32)) hx hb dX7_trades_5 (by decide) ?_
    refine lv_icmp_eq (tgt := 19) hx hb dX7_trades_6 (by decide) (fun c31 => ?_) (fun c31 => ?_)
    · have hw := hw.1 c31
      refine lv_iconst (v := (-1 : Int32)) hx hb dX7_trades_19 (by decide) ?_
      refine lv_istore_n (lv' := [(2, .int (-1 : Int32)), (0, .ref (q 0)), (1, .int x1)]) hx hb dX7_trades_20 rfl hl (by decide) rfl (fun ls hl => ?_)
      refine lv_iconst (v := (0 : Int32)) hx hb dX7_trades_21 (by decide) ?_
      refine lv_istore_n (lv' := [(3, .int (0 : Int32)), (2, .int (-1 : Int32)), (0, .ref (q 0)), (1, .int x1)]) hx hb dX7_trades_22 rfl hl (by decide) rfl (fun ls hl => ?_)
      refine lv_aload_n hx hb dX7_trades_23 rfl (lv_at hl 2 rfl) ?_
      refine va_get (D := D) (ci := 7) (C := RX7) (T := TX7) (N := 9) hx hb htb inX7 hown hK hP 0 (xw_0 c q σ) rfl 0 (by decide) (htb _ tb_342) (fun _ h9 => h9) rfl dX7_trades_24 ?_
      refine va_calli (va_runV (As := []) (rest := []) ⟨hx, hb, hml, hown, htb⟩ (kcX1_plainEnd_1 l D c q ev hev σ  _ hw) (tb_CW htb kX1_plainEnd tb_457 tb_458 tb_459 ⟨Nat.le_of_ble_eq_true rfl, Nat.le_of_ble_eq_true rfl⟩) (wd_preV (wd := xw c q) (k := 1) hev hK hP hD hE hS (xw_1 c q σ) rfl) rfl rfl hl.1 rfl (lv_room (Nat.le_of_ble_eq_true rfl)) dX7_trades_27 ⟨Nat.le_of_ble_eq_true rfl, Nat.le_of_ble_eq_true rfl⟩) hS (fun q _ h => h) (fun q h => h) (fun r32 σ33 t H1 locs1 ht hvm hw hB hz1 hk1 hS => ?_)
      have hP : va_P D vwCl (xw c q σ33) H1 := ht ▸ hB
      have hD : va_D (wdA 36 q) (xw c q σ33) := xw_D hD0
      refine lv_istore (lv' := [(4, .int r32), (3, .int (0 : Int32)), (2, .int (-1 : Int32)), (0, .ref (q 0)), (1, .int x1)]) hx hb dX7_trades_30 hl (by decide) rfl (fun ls hl => ?_)
      refine lv_aload_n hx hb dX7_trades_32 rfl (lv_at hl 3 rfl) ?_
      refine va_get (D := D) (ci := 7) (C := RX7) (T := TX7) (N := 9) hx hb htb inX7 hown hK hP 0 (xw_0 c q σ33) rfl 1 (by decide) (htb _ tb_343) (fun _ h9 => h9) rfl dX7_trades_33 ?_
      refine lv_aload_n hx hb dX7_trades_36 rfl (lv_at hl 3 rfl) ?_
      refine va_get (D := D) (ci := 7) (C := RX7) (T := TX7) (N := 9) hx hb htb inX7 hown hK hP 0 (xw_0 c q σ33) rfl 0 (by decide) (htb _ tb_342) (fun _ h9 => h9) rfl dX7_trades_37 ?_
      refine va_callv (va_runV (As := [.ref (q 1)]) (rest := []) ⟨hx, hb, hml, hown, htb⟩ (kcX1_takeFrom_6_1 l D c q ev hev σ33  _ hw) (tb_CW htb kX1_takeFrom tb_858 tb_569 tb_570 ⟨Nat.le_of_ble_eq_true rfl, Nat.le_of_ble_eq_true rfl⟩) (wd_preV (wd := xw c q) (k := 6) hev hK hP hD hE hS (xw_6 c q σ33) rfl) rfl rfl hl.1 rfl (lv_room (Nat.le_of_ble_eq_true rfl)) dX7_trades_40 ⟨Nat.le_of_ble_eq_true rfl, Nat.le_of_ble_eq_true rfl⟩) hS (fun q _ h => h) (fun q h => h) (fun σ35 t H1 locs1 ht hvm hw hB hz1 hk1 hS => ?_)
      have hP : va_P D vwCl (xw c q σ35) H1 := ht ▸ hB
      have hD : va_D (wdA 36 q) (xw c q σ35) := xw_D hD0
      refine lv_iconst (v := (0 : Int32)) hx hb dX7_trades_43 (by decide) ?_
      refine lv_istore (lv' := [(5, .int (0 : Int32)), (4, .int r32), (3, .int (0 : Int32)), (2, .int (-1 : Int32)), (0, .ref (q 0)), (1, .int x1)]) hx hb dX7_trades_44 hl (by decide) rfl (fun ls hl => ?_)
      obtain ⟨n36, hw⟩ := hw
      refine L46 _ x1 r32 n36 (-1 : Int32) (0 : Int32) (0 : Int32) σ35 _ _ _ hw ?_ hP hS (lv_sub hl [4, 5, 3, 2, 1, 0] rfl)
      intro v37 v38 v39 σ40 H locs ls hw hP hS hl
      have hD : va_D (wdA 36 q) (xw c q σ40) := xw_D hD0
      refine lv_iload_n hx hb dX7_trades_121 rfl (lv_at hl 1 rfl) ?_
      refine lv_if_ne (tgt := 129) hx hb dX7_trades_122 (by decide) (fun c41 => ?_) (fun c41 => ?_)
      · have hw := hw.2 c41
        refine lv_iload_n hx hb dX7_trades_129 rfl (lv_at hl 2 rfl) ?_
        exact vx_ret (W.widen (k := 1) (n := 6) (Nat.le_of_ble_eq_true rfl) (Nat.le_of_ble_eq_true rfl) (W.iret hx hb hr (fun t ht hW => ⟨⟨_, σ40, rfl, hw, by unfold wdB; rw [ht]; exact hP⟩, hS.F ht⟩) hS.2.2 dX7_trades_130))
      · have hw := hw.1 c41
        refine lv_iload_n hx hb dX7_trades_125 rfl (lv_at hl 3 rfl) ?_
        refine lv_goto (tgt := 130) hx hb dX7_trades_126 (by decide) ?_
        exact vx_ret (W.widen (k := 1) (n := 6) (Nat.le_of_ble_eq_true rfl) (Nat.le_of_ble_eq_true rfl) (W.iret hx hb hr (fun t ht hW => ⟨⟨_, σ40, rfl, hw, by unfold wdB; rw [ht]; exact hP⟩, hS.F ht⟩) hS.2.2 dX7_trades_130))
    · have hw := hw.2 c31
      obtain ⟨hU9, hN9, hF9, hR9⟩ := hX s s.heap hE
      obtain ⟨sa9, hsa9⟩ := hR9 (239, "no such answer about trades") (by decide)
      exact xt_throwS hx hb hst (own := "StrikeHall") (cls := "java/util/NoSuchElementException") (text := "no such answer about trades") (names := ["java/lang/Exception"]) (ix := 13) (rx := xt_rx) (Yc := "java/lang/RuntimeException") hown (by decide) (by decide) (by decide +kernel) (by decide +kernel) (by decide +kernel) (by decide +kernel) (by decide) (htb _ tb_883) (htb _ tb_111) hsa9 (hat_NSE htb hF9) hot_NSE hU9 hN9 hS (hl.1.trans hml.symm) dX7_trades_9 dX7_trades_12 dX7_trades_13 dX7_trades_15 dX7_trades_18 (fun x h => (htab x h).elim) (Nat.le_of_ble_eq_true rfl) (Nat.le_of_ble_eq_true rfl) (Nat.le_of_ble_eq_true rfl) (Nat.le_of_ble_eq_true rfl) hlocks (fun t hvm hsz hk => ⟨σ, hw, ⟨rfl, wd_grow hP hk⟩, wd_F hS hsz hk⟩) hS.2.2 (Nat.le_of_ble_eq_true rfl) (Nat.le_of_ble_eq_true rfl)
