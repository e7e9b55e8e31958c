theorem kX1_dropPerson : tbM yX1_dropPerson cX1_dropPerson 4 none 1 := ⟨tb_1099, tb_91, by decide +kernel, by decide +kernel⟩
theorem kX7_without : tbM yX7_without cX7_without 2 (some .int) 1 := ⟨tb_1095, tb_90, by decide +kernel, by decide +kernel⟩
theorem kX7_add : tbM yX7_add cX7_add 2 (some .int) 1 := ⟨tb_1106, tb_90, by decide +kernel, by decide +kernel⟩
theorem kX2_ordersOf : tbM yX2_ordersOf cX2_ordersOf 4 (some .int) 2 := ⟨tb_552, tb_96, by decide +kernel, by decide +kernel⟩
theorem kX2_countWays : tbM yX2_countWays cX2_countWays 3 none 1 := ⟨tb_549, tb_96, by decide +kernel, by decide +kernel⟩
theorem kX2_spent : tbM yX2_spent cX2_spent 1 (some .boolean) 0 := ⟨tb_567, tb_96, by decide +kernel, by decide +kernel⟩
theorem kX2_orderIn : tbM yX2_orderIn cX2_orderIn 3 (some .int) 2 := ⟨tb_580, tb_96, by decide +kernel, by decide +kernel⟩
theorem kX2_putRanks : tbM yX2_putRanks cX2_putRanks 7 none 4 := ⟨tb_596, tb_96, by decide +kernel, by decide +kernel⟩
theorem kX2_putOrder : tbM yX2_putOrder cX2_putOrder 9 none 4 := ⟨tb_585, tb_96, by decide +kernel, by decide +kernel⟩
theorem kX2_learn : tbM yX2_learn cX2_learn 6 none 3 := ⟨tb_545, tb_96, by decide +kernel, by decide +kernel⟩
theorem kX7_ties : tbM yX7_ties cX7_ties 2 (some .int) 1 := ⟨tb_1113, tb_90, by decide +kernel, by decide +kernel⟩
theorem kX2_openOnceTold : tbM yX2_openOnceTold cX2_openOnceTold 6 (some .int) 2 := ⟨tb_616, tb_96, by decide +kernel, by decide +kernel⟩
theorem kX2_mostOpenOnceTold : tbM yX2_mostOpenOnceTold cX2_mostOpenOnceTold 4 (some .int) 1 := ⟨tb_612, tb_96, by decide +kernel, by decide +kernel⟩
theorem kX2_bestToAsk : tbM yX2_bestToAsk cX2_bestToAsk 6 (some .int) 1 := ⟨tb_607, tb_96, by decide +kernel, by decide +kernel⟩
theorem kX7_ask : tbM yX7_ask cX7_ask 1 (some .int) 0 := ⟨tb_541, tb_90, by decide +kernel, by decide +kernel⟩
theorem kX0_strikeIn : tbM yX0_strikeIn cX0_strikeIn 3 (some .int) 2 := ⟨tb_624, tb_97, by decide +kernel, by decide +kernel⟩
theorem kX0_addRow : tbM yX0_addRow cX0_addRow 4 (some .int) 2 := ⟨tb_628, tb_97, by decide +kernel, by decide +kernel⟩
theorem kX7_row : tbM yX7_row cX7_row 5 (some .int) 2 := ⟨tb_621, tb_90, by decide +kernel, by decide +kernel⟩
def wX1_dropPerson_L51 (b0 : Nat) (z1 : Int32) (z2 : Int32) (K79 : Int32 → hsS → Prop) (post : hsS → Prop) : Nat → Int32 → hsS → Prop
  | 0, _, _ => False
  | n + 1, y3, σ => (((σ.1 (64 * b0 + 0)) ≤ y3 → K79 y3 σ) ∧ (¬ (σ.1 (64 * b0 + 0)) ≤ y3 → wX1_placeOf b0 (z2 + (1 : Int32)) y3 (fun r6 σ7 => wX1_putPlace b0 z2 y3 r6 (fun σ9 => ∀ v10 : Int32, v10 = y3 + (1 : Int32) → wX1_dropPerson_L51 b0 z1 z2 K79 post n v10 σ9) σ7) σ))
def wX1_dropPerson_L27 (b0 : Nat) (z1 : Int32) (K85 : Int32 → hsS → Prop) (post : hsS → Prop) : Nat → Int32 → hsS → Prop
  | 0, _, _ => False
  | n + 1, y2, σ => (((σ.1 (64 * b0 + 1)) ≤ y2 → K85 y2 σ) ∧ (¬ (σ.1 (64 * b0 + 1)) ≤ y2 → vp_in (y2 + (1 : Int32)) 8 ∧ vp_in y2 8 ∧ ∀ σ4 : hsS, σ4 = hsA σ (b0 + 1) (upd (σ.2.1 (b0 + 1)) y2.toNatClampNeg (σ.2.1 (b0 + 1) (y2 + (1 : Int32)).toNatClampNeg)) → ∃ n11, wX1_dropPerson_L51 b0 z1 y2 (fun v12 σ13 => ∀ v14 : Int32, v14 = y2 + (1 : Int32) → wX1_dropPerson_L27 b0 z1 K85 post n v14 σ13) post n11 (0 : Int32) σ4))
def wX1_dropPerson (b0 : Nat) (x1 : Int32) (post : hsS → Prop) (σ : hsS) : Prop := vp_in x1 8 ∧ ∀ σ1 : hsS, σ1 = hsI σ (64 * b0 + 2) ((σ.1 (64 * b0 + 2)) - (σ.2.1 (b0 + 1) x1.toNatClampNeg)) → ∀ σ2 : hsS, σ2 = hsI σ1 (64 * b0 + 1) ((σ1.1 (64 * b0 + 1)) - (1 : Int32)) → ∃ n15, wX1_dropPerson_L27 b0 x1 (fun v16 σ17 => post σ17) post n15 x1 σ2
set_option maxHeartbeats 4000000 in
set_option maxRecDepth 100000 in
theorem kcX1_dropPerson_6 (l : Launch) (D : va_G) (c : Nat → ClassId) (q : Nat → Nat) (ev : State → Heap → Prop) (hev : evOK (wdA 36 q) ev) (σ : hsS) (x1 : Int32) (post : hsS → Prop) (hw : wX1_dropPerson 6 x1 post σ) : Met l yX1_dropPerson (Cond.code yX1_dropPerson cX1_dropPerson 4 none :: tb_L) { frames := 1, cells := 0, slots := 0, locals := 23 } (wdPc D (xw c q) (xwT c) (wdA 36 q) ev σ [.ref (q 6), .int x1]) (va_Qv post (wdB D (xw c q)) (wdA 36 q)) 0 0 (wdA 36 q) := by
  refine Met.ofW (cc := cX1_dropPerson) (maxL := 4) (ret := none) (by decide) rfl ?_
  intro p e s m args below meth c₀ s₁ Bd hml hv
  obtain ⟨rfl, hP, hK, hD0, hE⟩ := hv
  have hx := Bd.exec
  have hb := Bd.bytes
  have hr := Bd.returns
  have hts := atoms_spec (ws := Cond.code yX1_dropPerson cX1_dropPerson 4 none :: tb_L) Bd.pre
  have htb : ∀ w ∈ tb_L, w.before [.ref (q 6), .int x1].toArray s = true := fun w h => hts w (List.mem_cons_of_mem _ h)
  have hown : s.vm.findClass RX1 = some m.cls := findClass_of_methodNamed Bd.named
  have hlocks := Bd.notSynchronized
  have hS : va_S (wdA 36 q) s.heap s.heap [] := va_S.rf
  have hD := hD0
  have L51 : ∀ (K79 : Int32 → hsS → Prop) (z1 : Int32) (z2 : Int32) (n : Nat) (y3 : Int32) (σ : hsS) (H : Heap) (locs : List Loc) (ls : Array Slot), wX1_dropPerson_L51 6 z1 z2 K79 post n y3 σ → (∀ (y3 : Int32) (σ : hsS) (H : Heap) (locs : List Loc) (ls : Array Slot), K79 y3 σ → va_P D vwCl (xw c q σ) H → va_S (wdA 36 q) s.heap H locs → lv_has ls 4 [(0, .ref (q 6)), (1, .int z1), (2, .int z2), (3, .int y3)] → W p l e (headSpec (Cond.code yX1_dropPerson cX1_dropPerson 4 none :: tb_L) { frames := 1, cells := 0, slots := 0, locals := 23 }).room s m [.ref (q 6), .int x1].toArray below meth c₀ H locs 0 0 (MQ below (va_Qv post (wdB D (xw c q)) (wdA 36 q)) [.ref (q 6), .int x1].toArray s 0 0 (wdA 36 q)) (F0 m 79 ls [])) → va_P D vwCl (xw c q σ) H → va_S (wdA 36 q) s.heap H locs → lv_has ls 4 [(0, .ref (q 6)), (1, .int z1), (2, .int z2), (3, .int y3)] → W p l e (headSpec (Cond.code yX1_dropPerson cX1_dropPerson 4 none :: tb_L) { frames := 1, cells := 0, slots := 0, locals := 23 }).room s m [.ref (q 6), .int x1].toArray below meth c₀ H locs 0 0 (MQ below (va_Qv post (wdB D (xw c q)) (wdA 36 q)) [.ref (q 6), .int x1].toArray s 0 0 (wdA 36 q)) (F0 m 51 ls []) := by
    intro K79 z1 z2 n
    induction n with
    | zero =>
      intro y3 σ H locs ls hw hk79 hP hS hl
      exact (show False from hw).elim
    | succ n ih =>
      intro y3 σ H locs ls hw hk79 hP hS hl
      rw [wX1_dropPerson_L51] at hw
      have hD : va_D (wdA 36 q) (xw c q σ) := xw_D hD0
      refine lv_iload_n hx hb dX1_dropPerson_51 rfl (lv_at hl 3 rfl) ?_
      refine lv_aload_n hx hb dX1_dropPerson_52 rfl (lv_at hl 0 rfl) ?_
      refine va_get (D := D) (ci := 1) (C := RX1) (T := TX1) (N := 12) hx hb htb inX1 hown hK hP 6 (xw_6 c q σ) rfl 0 (by decide) (htb _ tb_126) (fun _ h9 => h9) rfl dX1_dropPerson_53 ?_
      refine lv_icmp_ge (tgt := 79) hx hb dX1_dropPerson_56 (by decide) (fun c5 => ?_) (fun c5 => ?_)
      · have hw := hw.1 c5
        exact hk79 y3 σ _ _ _ hw hP hS (lv_sub hl [0, 1, 2, 3] rfl)
      · have hw := hw.2 c5
        refine lv_aload_n hx hb dX1_dropPerson_59 rfl (lv_at hl 0 rfl) ?_
        refine lv_iload_n hx hb dX1_dropPerson_60 rfl (lv_at hl 2 rfl) ?_
        refine lv_iload_n hx hb dX1_dropPerson_61 rfl (lv_at hl 3 rfl) ?_
        refine lv_aload_n hx hb dX1_dropPerson_62 rfl (lv_at hl 0 rfl) ?_
        refine lv_iload_n hx hb dX1_dropPerson_63 rfl (lv_at hl 2 rfl) ?_
        refine lv_iconst (v := (1 : Int32)) hx hb dX1_dropPerson_64 (by decide) ?_
        refine lv_iadd hx hb dX1_dropPerson_65 ?_
        refine lv_iload_n hx hb dX1_dropPerson_66 rfl (lv_at hl 3 rfl) ?_
        refine va_calli (va_runV (As := [.int (z2 + (1 : Int32)), .int y3]) (rest := [.int y3, .int z2, .ref (q 6)]) ⟨hx, hb, hml, hown, htb⟩ (kcX1_placeOf_6 l D c q ev hev σ (z2 + (1 : Int32)) y3 _ hw) (tb_CW htb kX1_placeOf tb_445 tb_446 tb_447 ⟨Nat.le_of_ble_eq_true rfl, Nat.le_of_ble_eq_true rfl⟩) (wd_preV (wd := xw c q) (k := 6) hev hK hP hD hE hS (xw_6 c q σ) rfl) rfl rfl hl.1 rfl (lv_room (Nat.le_of_ble_eq_true rfl)) dX1_dropPerson_67 ⟨Nat.zero_le _, Nat.zero_le _⟩) hS (fun q _ h => h) (fun q h => h) (fun r6 σ7 t H1 locs1 ht hvm hw hB hz1 hk1 hS => ?_)
        have hP : va_P D vwCl (xw c q σ7) H1 := ht ▸ hB
        have hD : va_D (wdA 36 q) (xw c q σ7) := xw_D hD0
        refine va_callv (va_runV (As := [.int z2, .int y3, .int r6]) (rest := []) ⟨hx, hb, hml, hown, htb⟩ (kcX1_putPlace_6 l D c q ev hev σ7 z2 y3 r6 _ hw) (tb_CW htb kX1_putPlace tb_1029 tb_599 tb_600 ⟨Nat.le_of_ble_eq_true rfl, Nat.le_of_ble_eq_true rfl⟩) (wd_preV (wd := xw c q) (k := 6) hev hK hP hD hE hS (xw_6 c q σ7) rfl) rfl rfl hl.1 rfl (lv_room (Nat.le_of_ble_eq_true rfl)) dX1_dropPerson_70 ⟨Nat.zero_le _, Nat.zero_le _⟩) hS (fun q _ h => h) (fun q h => h) (fun σ9 t H1 locs1 ht hvm hw hB hz1 hk1 hS => ?_)
        have hP : va_P D vwCl (xw c q σ9) H1 := ht ▸ hB
        have hD : va_D (wdA 36 q) (xw c q σ9) := xw_D hD0
        obtain ⟨v10, ev10⟩ : ∃ z : Int32, z = y3 + (1 : Int32) := ⟨_, rfl⟩
        have hw := hw v10 ev10
        refine lv_iinc (v := v10) (lv' := [(3, .int v10), (0, .ref (q 6)), (1, .int z1), (2, .int z2)]) hx hb dX1_dropPerson_73 hl (k := 3) rfl (by rw [ev10]; rfl) (by decide) rfl (fun ls hl => ?_)
        refine lv_goto (tgt := 51) hx hb dX1_dropPerson_76 (by decide) ?_
        exact ih v10 σ9 _ _ _ hw hk79 hP hS (lv_sub hl [1, 2, 3, 0] rfl)
  have L27 : ∀ (K85 : Int32 → hsS → Prop) (z1 : Int32) (n : Nat) (y2 : Int32) (σ : hsS) (H : Heap) (locs : List Loc) (ls : Array Slot), wX1_dropPerson_L27 6 z1 K85 post n y2 σ → (∀ (y2 : Int32) (σ : hsS) (H : Heap) (locs : List Loc) (ls : Array Slot), K85 y2 σ → va_P D vwCl (xw c q σ) H → va_S (wdA 36 q) s.heap H locs → lv_has ls 4 [(0, .ref (q 6)), (1, .int z1), (2, .int y2)] → W p l e (headSpec (Cond.code yX1_dropPerson cX1_dropPerson 4 none :: tb_L) { frames := 1, cells := 0, slots := 0, locals := 23 }).room s m [.ref (q 6), .int x1].toArray below meth c₀ H locs 0 0 (MQ below (va_Qv post (wdB D (xw c q)) (wdA 36 q)) [.ref (q 6), .int x1].toArray s 0 0 (wdA 36 q)) (F0 m 85 ls [])) → va_P D vwCl (xw c q σ) H → va_S (wdA 36 q) s.heap H locs → lv_has ls 4 [(0, .ref (q 6)), (1, .int z1), (2, .int y2)] → W p l e (headSpec (Cond.code yX1_dropPerson cX1_dropPerson 4 none :: tb_L) { frames := 1, cells := 0, slots := 0, locals := 23 }).room s m [.ref (q 6), .int x1].toArray below meth c₀ H locs 0 0 (MQ below (va_Qv post (wdB D (xw c q)) (wdA 36 q)) [.ref (q 6), .int x1].toArray s 0 0 (wdA 36 q)) (F0 m 27 ls []) := by
    intro K85 z1 n
    induction n with
    | zero =>
      intro y2 σ H locs ls hw hk85 hP hS hl
      exact (show False from hw).elim
    | succ n ih =>
      intro y2 σ H locs ls hw hk85 hP hS hl
      rw [wX1_dropPerson_L27] at hw
      have hD : va_D (wdA 36 q) (xw c q σ) := xw_D hD0
      refine lv_iload_n hx hb dX1_dropPerson_27 rfl (lv_at hl 2 rfl) ?_
      refine lv_aload_n hx hb dX1_dropPerson_28 rfl (lv_at hl 0 rfl) ?_
      refine va_get (D := D) (ci := 1) (C := RX1) (T := TX1) (N := 12) hx hb htb inX1 hown hK hP 6 (xw_6 c q σ) rfl 1 (by decide) (htb _ tb_132) (fun _ h9 => h9) rfl dX1_dropPerson_29 ?_
      refine lv_icmp_ge (tgt := 85) hx hb dX1_dropPerson_32 (by decide) (fun c3 => ?_) (fun c3 => ?_)
      · have hw := hw.1 c3
        exact hk85 y2 σ _ _ _ hw hP hS (lv_sub hl [0, 1, 2] rfl)
      · have hw := hw.2 c3
        refine lv_aload_n hx hb dX1_dropPerson_35 rfl (lv_at hl 0 rfl) ?_
        refine va_get (D := D) (ci := 1) (C := RX1) (T := TX1) (N := 12) hx hb htb inX1 hown hK hP 6 (xw_6 c q σ) rfl 8 (by decide) (htb _ tb_156) (fun _ h9 => h9) rfl dX1_dropPerson_36 ?_
        refine lv_iload_n hx hb dX1_dropPerson_39 rfl (lv_at hl 2 rfl) ?_
        refine lv_aload_n hx hb dX1_dropPerson_40 rfl (lv_at hl 0 rfl) ?_
        refine va_get (D := D) (ci := 1) (C := RX1) (T := TX1) (N := 12) hx hb htb inX1 hown hK hP 6 (xw_6 c q σ) rfl 8 (by decide) (htb _ tb_156) (fun _ h9 => h9) rfl dX1_dropPerson_41 ?_
        refine lv_iload_n hx hb dX1_dropPerson_44 rfl (lv_at hl 2 rfl) ?_
        refine lv_iconst (v := (1 : Int32)) hx hb dX1_dropPerson_45 (by decide) ?_
        refine lv_iadd hx hb dX1_dropPerson_46 ?_
        refine va_iald hx hb hK hP 7 4 (xw_7 c q σ) rfl hw.1 dX1_dropPerson_47 ?_
        have hw := hw.2
        refine va_iast hx hb hK hP hD hS 7 4 (xw_7 c q σ) rfl hw.1 dX1_dropPerson_48 (fun H locs hP hD hS => ?_)
        have hw := hw.2
        have hP : va_P D vwCl (xw c q (hsA σ 7 (upd (σ.2.1 7) y2.toNatClampNeg (σ.2.1 7 (y2 + (1 : Int32)).toNatClampNeg)))) H := hP
        obtain ⟨σ4, eσ4⟩ : ∃ z : hsS, z = hsA σ 7 (upd (σ.2.1 7) y2.toNatClampNeg (σ.2.1 7 (y2 + (1 : Int32)).toNatClampNeg)) := ⟨_, rfl⟩
        rw [← eσ4] at hP
        have hD : va_D (wdA 36 q) (xw c q σ4) := xw_D hD0
        have hw := hw σ4 eσ4
        refine lv_iconst (v := (0 : Int32)) hx hb dX1_dropPerson_49 (by decide) ?_
        refine lv_istore_n (lv' := [(3, .int (0 : Int32)), (0, .ref (q 6)), (1, .int z1), (2, .int y2)]) hx hb dX1_dropPerson_50 rfl hl (by decide) rfl (fun ls hl => ?_)
        obtain ⟨n11, hw⟩ := hw
        refine L51 _ z1 y2 n11 (0 : Int32) σ4 _ _ _ hw ?_ hP hS (lv_sub hl [1, 2, 3, 0] rfl)
        intro v12 σ13 H locs ls hw hP hS hl
        have hD : va_D (wdA 36 q) (xw c q σ13) := xw_D hD0
        obtain ⟨v14, ev14⟩ : ∃ z : Int32, z = y2 + (1 : Int32) := ⟨_, rfl⟩
        have hw := hw v14 ev14
        refine lv_iinc (v := v14) (lv' := [(2, .int v14), (0, .ref (q 6)), (1, .int z1), (3, .int v12)]) hx hb dX1_dropPerson_79 hl (k := 2) rfl (by rw [ev14]; rfl) (by decide) rfl (fun ls hl => ?_)
        refine lv_goto (tgt := 27) hx hb dX1_dropPerson_82 (by decide) ?_
        exact ih v14 σ13 _ _ _ hw hk85 hP hS (lv_sub hl [1, 2, 0] rfl)
  have hl := lv_entry ([.ref (q 6), .int x1]) (n := 4) (Nat.le_of_ble_eq_true rfl)
  rw [lg_entry_eq]
  generalize (lg_sl ([.ref (q 6), .int x1]) ++ List.replicate (4 - (lg_sl ([.ref (q 6), .int x1])).length) Slot.unset).toArray = ls at hl ⊢
  have hl : lv_has ls 4 [(0, .ref (q 6)), (1, .int x1)] := hl
  unfold wX1_dropPerson at hw
  refine lv_aload_n hx hb dX1_dropPerson_0 rfl (lv_at hl 0 rfl) ?_
  refine lv_dup hx hb dX1_dropPerson_1 rfl ?_
  refine va_get (D := D) (ci := 1) (C := RX1) (T := TX1) (N := 12) hx hb htb inX1 hown hK hP 6 (xw_6 c q σ) rfl 2 (by decide) (htb _ tb_138) (fun _ h9 => h9) rfl dX1_dropPerson_2 ?_
  refine lv_aload_n hx hb dX1_dropPerson_5 rfl (lv_at hl 0 rfl) ?_
  refine va_get (D := D) (ci := 1) (C := RX1) (T := TX1) (N := 12) hx hb htb inX1 hown hK hP 6 (xw_6 c q σ) rfl 8 (by decide) (htb _ tb_156) (fun _ h9 => h9) rfl dX1_dropPerson_6 ?_
  refine lv_iload_n hx hb dX1_dropPerson_9 rfl (lv_at hl 1 rfl) ?_
  refine va_iald hx hb hK hP 7 4 (xw_7 c q σ) rfl hw.1 dX1_dropPerson_10 ?_
  have hw := hw.2
  refine lv_isub hx hb dX1_dropPerson_11 ?_
  refine va_put (D := D) (ci := 1) (ty := .int) (C := RX1) (T := TX1) (N := 12) hx hb htb inX1 tyX1 tyX1_ok nmX1 hown hK hP hD hS 6 (xw_6 c q σ) rfl 2 (by decide) (htb _ tb_138) (fun _ h9 => h9) rfl (by decide +kernel) rfl rfl (Nat.le_of_ble_eq_true rfl) dX1_dropPerson_12 (fun H locs hP hD hS => ?_)
  have hP : va_P D vwCl (xw c q (hsI σ 386 ((σ.1 386) - (σ.2.1 7 x1.toNatClampNeg)))) H := hP
  obtain ⟨σ1, eσ1⟩ : ∃ z : hsS, z = hsI σ 386 ((σ.1 386) - (σ.2.1 7 x1.toNatClampNeg)) := ⟨_, rfl⟩
  rw [← eσ1] at hP
  have hD : va_D (wdA 36 q) (xw c q σ1) := xw_D hD0
  have hw := hw σ1 eσ1
  refine lv_aload_n hx hb dX1_dropPerson_15 rfl (lv_at hl 0 rfl) ?_
  refine lv_dup hx hb dX1_dropPerson_16 rfl ?_
  refine va_get (D := D) (ci := 1) (C := RX1) (T := TX1) (N := 12) hx hb htb inX1 hown hK hP 6 (xw_6 c q σ1) rfl 1 (by decide) (htb _ tb_132) (fun _ h9 => h9) rfl dX1_dropPerson_17 ?_
  refine lv_iconst (v := (1 : Int32)) hx hb dX1_dropPerson_20 (by decide) ?_
  refine lv_isub hx hb dX1_dropPerson_21 ?_
  refine va_put (D := D) (ci := 1) (ty := .int) (C := RX1) (T := TX1) (N := 12) hx hb htb inX1 tyX1 tyX1_ok nmX1 hown hK hP hD hS 6 (xw_6 c q σ1) rfl 1 (by decide) (htb _ tb_132) (fun _ h9 => h9) rfl (by decide +kernel) rfl rfl (Nat.le_of_ble_eq_true rfl) dX1_dropPerson_22 (fun H locs hP hD hS => ?_)
  have hP : va_P D vwCl (xw c q (hsI σ1 385 ((σ1.1 385) - (1 : Int32)))) H := hP
  obtain ⟨σ2, eσ2⟩ : ∃ z : hsS, z = hsI σ1 385 ((σ1.1 385) - (1 : Int32)) := ⟨_, rfl⟩
  rw [← eσ2] at hP
  have hD : va_D (wdA 36 q) (xw c q σ2) := xw_D hD0
  have hw := hw σ2 eσ2
  refine lv_iload_n hx hb dX1_dropPerson_25 rfl (lv_at hl 1 rfl) ?_
  refine lv_istore_n (lv' := [(2, .int x1), (0, .ref (q 6)), (1, .int x1)]) hx hb dX1_dropPerson_26 rfl hl (by decide) rfl (fun ls hl => ?_)
  obtain ⟨n15, hw⟩ := hw
  refine L27 _ x1 n15 x1 σ2 _ _ _ hw ?_ hP hS (lv_sub hl [1, 2, 0] rfl)
  intro v16 σ17 H locs ls hw hP hS hl
  have hD : va_D (wdA 36 q) (xw c q σ17) := xw_D hD0
  exact W.vret hx hb hr (fun t ht hW => ⟨⟨σ17, rfl, hw, by unfold wdB; rw [ht]; exact hP⟩, hS.F ht⟩) hS.2.2 dX1_dropPerson_85
def wX7_without (x1 : Int32) (post : Int32 → hsS → Prop) (px : hsS → Prop) (σ : hsS) : Prop := wX7_needPerson x1 (fun σ2 => wX1_takeFrom 6 1 (fun σ4 => wX1_dropPerson 6 x1 (fun σ6 => wX4_coreOf 18 6 (fun r7 σ8 => post r7 σ8) σ6) σ4) σ2) px σ
set_option maxHeartbeats 4000000 in
set_option maxRecDepth 100000 in
theorem kcX7_without (l : Launch) (D : va_G) (c : Nat → ClassId) (q : Nat → Nat) (ev : State → Heap → Prop) (hev : evOK (wdA 36 q) ev) (hst : l.stackTraces = false) (hX : ∀ (U : State) (H : Heap), ev U H → evT (wdA 36 q) U H) (σ : hsS) (x1 : Int32) (post : Int32 → hsS → Prop) (px : hsS → Prop) (hw : wX7_without x1 post px σ) : vx_Met l yX7_without (Cond.code yX7_without cX7_without 2 (some .int) :: tb_L) { frames := 9, cells := 1, slots := 6, locals := 149 } (wdPc D (xw c q) (xwT c) (wdA 36 q) ev σ [.ref (q 0), .int x1]) (va_Qi post (wdB D (xw c q)) (wdA 36 q)) (vx_X px (xpB D (xw c q) "java/util/NoSuchElementException") (wdA 36 q)) 1 6 (wdA 36 q) := by
  refine vx_ofW (cc := cX7_without) (maxL := 2) (ret := (some .int)) (by decide) rfl ?_
  intro p e s m args below meth c₀ s₁ Bd hml htab hv
  obtain ⟨rfl, hP, hK, hD0, hE⟩ := hv
  have hx := Bd.exec
  have hb := Bd.bytes
  have hr := Bd.returns
  have hts := atoms_spec (ws := Cond.code yX7_without cX7_without 2 (some .int) :: tb_L) Bd.pre
  have htb : ∀ w ∈ tb_L, w.before [.ref (q 0), .int x1].toArray s = true := fun w h => hts w (List.mem_cons_of_mem _ h)
  have hown : s.vm.findClass RX7 = some m.cls := findClass_of_methodNamed Bd.named
  have hlocks := Bd.notSynchronized
  have hS : va_S (wdA 36 q) s.heap s.heap [] := va_S.rf
  have hD := hD0
  have hl := lv_entry ([.ref (q 0), .int x1]) (n := 2) (Nat.le_of_ble_eq_true rfl)
  rw [lg_entry_eq]
  generalize (lg_sl ([.ref (q 0), .int x1]) ++ List.replicate (2 - (lg_sl ([.ref (q 0), .int x1])).length) Slot.unset).toArray = ls at hl ⊢
  have hl : lv_has ls 2 [(0, .ref (q 0)), (1, .int x1)] := hl
  unfold wX7_without at hw
  refine lv_aload_n hx hb dX7_without_0 rfl (lv_at hl 0 rfl) ?_
  refine lv_iload_n hx hb dX7_without_1 rfl (lv_at hl 1 rfl) ?_
  refine vx_callv (vx_runV (As := [.int x1]) (rest := []) ⟨hx, hb, hml, hown, htb⟩ (kcX7_needPerson l D c q ev hev hst hX σ x1 _ px hw) (tb_CW htb kX7_needPerson tb_906 tb_908 tb_32 ⟨Nat.le_of_ble_eq_true rfl, Nat.le_of_ble_eq_true rfl⟩) (wd_preV (wd := xw c q) (k := 0) hev hK hP hD hE hS (xw_0 c q σ) rfl) rfl rfl hl.1 rfl (lv_room (Nat.le_of_ble_eq_true rfl)) dX7_without_2 ⟨Nat.le_of_ble_eq_true rfl, Nat.le_of_ble_eq_true rfl⟩) hS (fun q _ h => h) (fun q h => h) (fun q _ h => h) (fun E9 ce9 q9 σx t H1 locs1 ht hvm hpx hBX hz1 hk1 hS hce hcv hcl => vx_out (fun x h => (htab x h).elim) hlocks hce hcv hcl (fun t2 ht2 _ => ⟨σx, hpx, ⟨hBX.1, by rw [ht2, ← ht]; exact hBX.2⟩, hS.F ht2⟩) hS.2.2 (Nat.le_of_ble_eq_true rfl) (Nat.le_of_ble_eq_true rfl)) (fun σ2 t H1 locs1 ht hvm hw hB hz1 hk1 hS => ?_)
  have hP : va_P D vwCl (xw c q σ2) H1 := ht ▸ hB
  have hD : va_D (wdA 36 q) (xw c q σ2) := xw_D hD0
  refine lv_aload_n hx hb dX7_without_5 rfl (lv_at hl 0 rfl) ?_
  refine va_get (D := D) (ci := 7) (C := RX7) (T := TX7) (N := 9) hx hb htb inX7 hown hK hP 0 (xw_0 c q σ2) rfl 1 (by decide) (htb _ tb_343) (fun _ h9 => h9) rfl dX7_without_6 ?_
  refine lv_aload_n hx hb dX7_without_9 rfl (lv_at hl 0 rfl) ?_
  refine va_get (D := D) (ci := 7) (C := RX7) (T := TX7) (N := 9) hx hb htb inX7 hown hK hP 0 (xw_0 c q σ2) rfl 0 (by decide) (htb _ tb_342) (fun _ h9 => h9) rfl dX7_without_10 ?_
  refine va_callv (va_runV (As := [.ref (q 1)]) (rest := []) ⟨hx, hb, hml, hown, htb⟩ (kcX1_takeFrom_6_1 l D c q ev hev σ2  _ hw) (tb_CW htb kX1_takeFrom tb_858 tb_569 tb_570 ⟨Nat.le_of_ble_eq_true rfl, Nat.le_of_ble_eq_true rfl⟩) (wd_preV (wd := xw c q) (k := 6) hev hK hP hD hE hS (xw_6 c q σ2) rfl) rfl rfl hl.1 rfl (lv_room (Nat.le_of_ble_eq_true rfl)) dX7_without_13 ⟨Nat.le_of_ble_eq_true rfl, Nat.le_of_ble_eq_true rfl⟩) hS (fun q _ h => h) (fun q h => h) (fun σ4 t H1 locs1 ht hvm hw hB hz1 hk1 hS => ?_)
  have hP : va_P D vwCl (xw c q σ4) H1 := ht ▸ hB
  have hD : va_D (wdA 36 q) (xw c q σ4) := xw_D hD0
  refine lv_aload_n hx hb dX7_without_16 rfl (lv_at hl 0 rfl) ?_
  refine va_get (D := D) (ci := 7) (C := RX7) (T := TX7) (N := 9) hx hb htb inX7 hown hK hP 0 (xw_0 c q σ4) rfl 1 (by decide) (htb _ tb_343) (fun _ h9 => h9) rfl dX7_without_17 ?_
  refine lv_iload_n hx hb dX7_without_20 rfl (lv_at hl 1 rfl) ?_
  refine va_callv (va_runV (As := [.int x1]) (rest := []) ⟨hx, hb, hml, hown, htb⟩ (kcX1_dropPerson_6 l D c q ev hev σ4 x1 _ hw) (tb_CW htb kX1_dropPerson tb_1096 tb_1097 tb_1098 ⟨Nat.le_of_ble_eq_true rfl, Nat.le_of_ble_eq_true rfl⟩) (wd_preV (wd := xw c q) (k := 6) hev hK hP hD hE hS (xw_6 c q σ4) rfl) rfl rfl hl.1 rfl (lv_room (Nat.le_of_ble_eq_true rfl)) dX7_without_21 ⟨Nat.le_of_ble_eq_true rfl, Nat.le_of_ble_eq_true rfl⟩) hS (fun q _ h => h) (fun q h => h) (fun σ6 t H1 locs1 ht hvm hw hB hz1 hk1 hS => ?_)
  have hP : va_P D vwCl (xw c q σ6) H1 := ht ▸ hB
  have hD : va_D (wdA 36 q) (xw c q σ6) := xw_D hD0
  refine lv_aload_n hx hb dX7_without_24 rfl (lv_at hl 0 rfl) ?_
  refine va_get (D := D) (ci := 7) (C := RX7) (T := TX7) (N := 9) hx hb htb inX7 hown hK hP 0 (xw_0 c q σ6) rfl 3 (by decide) (htb _ tb_345) (fun _ h9 => h9) rfl dX7_without_25 ?_
  refine lv_aload_n hx hb dX7_without_28 rfl (lv_at hl 0 rfl) ?_
  refine va_get (D := D) (ci := 7) (C := RX7) (T := TX7) (N := 9) hx hb htb inX7 hown hK hP 0 (xw_0 c q σ6) rfl 1 (by decide) (htb _ tb_343) (fun _ h9 => h9) rfl dX7_without_29 ?_
  refine va_calli (va_runV (As := [.ref (q 6)]) (rest := []) ⟨hx, hb, hml, hown, htb⟩ (kcX4_coreOf_18_6 l D c q ev hev σ6  _ hw) (tb_CW htb kX4_coreOf tb_419 tb_420 tb_421 ⟨Nat.le_of_ble_eq_true rfl, Nat.le_of_ble_eq_true rfl⟩) (wd_preV (wd := xw c q) (k := 18) hev hK hP hD hE hS (xw_18 c q σ6) rfl) rfl rfl hl.1 rfl (lv_room (Nat.le_of_ble_eq_true rfl)) dX7_without_32 ⟨Nat.le_of_ble_eq_true rfl, Nat.le_of_ble_eq_true rfl⟩) hS (fun q _ h => h) (fun q h => h) (fun r7 σ8 t H1 locs1 ht hvm hw hB hz1 hk1 hS => ?_)
  have hP : va_P D vwCl (xw c q σ8) H1 := ht ▸ hB
  have hD : va_D (wdA 36 q) (xw c q σ8) := xw_D hD0
  exact vx_ret (W.widen (k := 1) (n := 6) (Nat.le_of_ble_eq_true rfl) (Nat.le_of_ble_eq_true rfl) (W.iret hx hb hr (fun t ht hW => ⟨⟨_, σ8, rfl, hw, by unfold wdB; rw [ht]; exact hP⟩, hS.F ht⟩) hS.2.2 dX7_without_35))
set_option maxHeartbeats 4000000 in
set_option maxRecDepth 100000 in
theorem kcX1_groupSize_1 (l : Launch) (D : va_G) (c : Nat → ClassId) (q : Nat → Nat) (ev : State → Heap → Prop) (hev : evOK (wdA 36 q) ev) (σ : hsS) (x1 : Int32) (x2 : Int32) (post : Int32 → hsS → Prop) (hw : wX1_groupSize 1 x1 x2 post σ) : Met l yX1_groupSize (Cond.code yX1_groupSize cX1_groupSize 5 (some .int) :: tb_L) { frames := 1, cells := 0, slots := 0, locals := 22 } (wdPc D (xw c q) (xwT c) (wdA 36 q) ev σ [.ref (q 1), .int x1, .int x2]) (va_Qi post (wdB D (xw c q)) (wdA 36 q)) 0 0 (wdA 36 q) := by
  refine Met.ofW (cc := cX1_groupSize) (maxL := 5) (ret := (some .int)) (by decide) rfl ?_
  intro p e s m args below meth c₀ s₁ Bd hml hv
  obtain ⟨rfl, hP, hK, hD0, hE⟩ := hv
  have hx := Bd.exec
  have hb := Bd.bytes
  have hr := Bd.returns
  have hts := atoms_spec (ws := Cond.code yX1_groupSize cX1_groupSize 5 (some .int) :: tb_L) Bd.pre
  have htb : ∀ w ∈ tb_L, w.before [.ref (q 1), .int x1, .int x2].toArray s = true := fun w h => hts w (List.mem_cons_of_mem _ h)
  have hown : s.vm.findClass RX1 = some m.cls := findClass_of_methodNamed Bd.named
  have hlocks := Bd.notSynchronized
  have hS : va_S (wdA 36 q) s.heap s.heap [] := va_S.rf
  have hD := hD0
  have L5 : ∀ (K34 : Int32 → Int32 → hsS → Prop) (z1 : Int32) (z2 : Int32) (n : Nat) (y3 : Int32) (y4 : Int32) (σ : hsS) (H : Heap) (locs : List Loc) (ls : Array Slot), wX1_groupSize_L5 1 z1 z2 K34 post n y3 y4 σ → (∀ (y3 : Int32) (y4 : Int32) (σ : hsS) (H : Heap) (locs : List Loc) (ls : Array Slot), K34 y3 y4 σ → va_P D vwCl (xw c q σ) H → va_S (wdA 36 q) s.heap H locs → lv_has ls 5 [(0, .ref (q 1)), (1, .int z1), (2, .int z2), (3, .int y3), (4, .int y4)] → W p l e (headSpec (Cond.code yX1_groupSize cX1_groupSize 5 (some .int) :: tb_L) { frames := 1, cells := 0, slots := 0, locals := 22 }).room s m [.ref (q 1), .int x1, .int x2].toArray below meth c₀ H locs 0 0 (MQ below (va_Qi post (wdB D (xw c q)) (wdA 36 q)) [.ref (q 1), .int x1, .int x2].toArray s 0 0 (wdA 36 q)) (F0 m 34 ls [])) → va_P D vwCl (xw c q σ) H → va_S (wdA 36 q) s.heap H locs → lv_has ls 5 [(0, .ref (q 1)), (1, .int z1), (2, .int z2), (3, .int y3), (4, .int y4)] → W p l e (headSpec (Cond.code yX1_groupSize cX1_groupSize 5 (some .int) :: tb_L) { frames := 1, cells := 0, slots := 0, locals := 22 }).room s m [.ref (q 1), .int x1, .int x2].toArray below meth c₀ H locs 0 0 (MQ below (va_Qi post (wdB D (xw c q)) (wdA 36 q)) [.ref (q 1), .int x1, .int x2].toArray s 0 0 (wdA 36 q)) (F0 m 5 ls []) := by
    intro K34 z1 z2 n
    induction n with
    | zero =>
      intro y3 y4 σ H locs ls hw hk34 hP hS hl
      exact (show False from hw).elim
    | succ n ih =>
      intro y3 y4 σ H locs ls hw hk34 hP hS hl
      rw [wX1_groupSize_L5] at hw
      have hD : va_D (wdA 36 q) (xw c q σ) := xw_D hD0
      refine lv_iload hx hb dX1_groupSize_5 (lv_at hl 4 rfl) ?_
      refine lv_aload_n hx hb dX1_groupSize_7 rfl (lv_at hl 0 rfl) ?_
      refine va_get (D := D) (ci := 1) (C := RX1) (T := TX1) (N := 12) hx hb htb inX1 hown hK hP 1 (xw_1 c q σ) rfl 0 (by decide) (htb _ tb_126) (fun _ h9 => h9) rfl dX1_groupSize_8 ?_
      refine lv_icmp_ge (tgt := 34) hx hb dX1_groupSize_11 (by decide) (fun c1 => ?_) (fun c1 => ?_)
      · have hw := hw.1 c1
        exact hk34 y3 y4 σ _ _ _ hw hP hS (lv_sub hl [0, 1, 2, 3, 4] rfl)
      · have hw := hw.2 c1
        refine lv_aload_n hx hb dX1_groupSize_14 rfl (lv_at hl 0 rfl) ?_
        refine lv_iload_n hx hb dX1_groupSize_15 rfl (lv_at hl 1 rfl) ?_
        refine lv_iload hx hb dX1_groupSize_16 (lv_at hl 4 rfl) ?_
        refine va_calli (va_runV (As := [.int z1, .int y4]) (rest := []) ⟨hx, hb, hml, hown, htb⟩ (kcX1_placeOf_1 l D c q ev hev σ z1 y4 _ hw) (tb_CW htb kX1_placeOf tb_445 tb_446 tb_447 ⟨Nat.le_of_ble_eq_true rfl, Nat.le_of_ble_eq_true rfl⟩) (wd_preV (wd := xw c q) (k := 1) hev hK hP hD hE hS (xw_1 c q σ) rfl) rfl rfl hl.1 rfl (lv_room (Nat.le_of_ble_eq_true rfl)) dX1_groupSize_18 ⟨Nat.zero_le _, Nat.zero_le _⟩) hS (fun q _ h => h) (fun q h => h) (fun r2 σ3 t H1 locs1 ht hvm hw hB hz1 hk1 hS => ?_)
        have hP : va_P D vwCl (xw c q σ3) H1 := ht ▸ hB
        have hD : va_D (wdA 36 q) (xw c q σ3) := xw_D hD0
        refine lv_iload_n hx hb dX1_groupSize_21 rfl (lv_at hl 2 rfl) ?_
        refine lv_icmp_ne (tgt := 28) hx hb dX1_groupSize_22 (by decide) (fun c4 => ?_) (fun c4 => ?_)
        · have hw := hw.2 c4
          obtain ⟨v7, ev7⟩ : ∃ z : Int32, z = y4 + (1 : Int32) := ⟨_, rfl⟩
          have hw := hw v7 ev7
          refine lv_iinc (v := v7) (lv' := [(4, .int v7), (0, .ref (q 1)), (1, .int z1), (2, .int z2), (3, .int y3)]) hx hb dX1_groupSize_28 hl (k := 4) rfl (by rw [ev7]; rfl) (by decide) rfl (fun ls hl => ?_)
          refine lv_goto (tgt := 5) hx hb dX1_groupSize_31 (by decide) ?_
          exact ih y3 v7 σ3 _ _ _ hw hk34 hP hS (lv_sub hl [1, 2, 3, 4, 0] rfl)
        · have hw := hw.1 c4
          obtain ⟨v5, ev5⟩ : ∃ z : Int32, z = y3 + (1 : Int32) := ⟨_, rfl⟩
          have hw := hw v5 ev5
          refine lv_iinc (v := v5) (lv' := [(3, .int v5), (0, .ref (q 1)), (1, .int z1), (2, .int z2), (4, .int y4)]) hx hb dX1_groupSize_25 hl (k := 3) rfl (by rw [ev5]; rfl) (by decide) rfl (fun ls hl => ?_)
          obtain ⟨v6, ev6⟩ : ∃ z : Int32, z = y4 + (1 : Int32) := ⟨_, rfl⟩
          have hw := hw v6 ev6
          refine lv_iinc (v := v6) (lv' := [(4, .int v6), (3, .int v5), (0, .ref (q 1)), (1, .int z1), (2, .int z2)]) hx hb dX1_groupSize_28 hl (k := 4) rfl (by rw [ev6]; rfl) (by decide) rfl (fun ls hl => ?_)
          refine lv_goto (tgt := 5) hx hb dX1_groupSize_31 (by decide) ?_
          exact ih v5 v6 σ3 _ _ _ hw hk34 hP hS (lv_sub hl [2, 3, 4, 1, 0] rfl)
  have hl := lv_entry ([.ref (q 1), .int x1, .int x2]) (n := 5) (Nat.le_of_ble_eq_true rfl)
  rw [lg_entry_eq]
  generalize (lg_sl ([.ref (q 1), .int x1, .int x2]) ++ List.replicate (5 - (lg_sl ([.ref (q 1), .int x1, .int x2])).length) Slot.unset).toArray = ls at hl ⊢
  have hl : lv_has ls 5 [(0, .ref (q 1)), (1, .int x1), (2, .int x2)] := hl
  unfold wX1_groupSize at hw
  refine lv_iconst (v := (0 : Int32)) hx hb dX1_groupSize_0 (by decide) ?_
  refine lv_istore_n (lv' := [(3, .int (0 : Int32)), (0, .ref (q 1)), (1, .int x1), (2, .int x2)]) hx hb dX1_groupSize_1 rfl hl (by decide) rfl (fun ls hl => ?_)
  refine lv_iconst (v := (0 : Int32)) hx hb dX1_groupSize_2 (by decide) ?_
  refine lv_istore (lv' := [(4, .int (0 : Int32)), (3, .int (0 : Int32)), (0, .ref (q 1)), (1, .int x1), (2, .int x2)]) hx hb dX1_groupSize_3 hl (by decide) rfl (fun ls hl => ?_)
  obtain ⟨n8, hw⟩ := hw
  refine L5 _ x1 x2 n8 (0 : Int32) (0 : Int32) σ _ _ _ hw ?_ hP hS (lv_sub hl [2, 3, 4, 1, 0] rfl)
  intro v9 v10 σ11 H locs ls hw hP hS hl
  have hD : va_D (wdA 36 q) (xw c q σ11) := xw_D hD0
  refine lv_iload_n hx hb dX1_groupSize_34 rfl (lv_at hl 3 rfl) ?_
  exact W.iret hx hb hr (fun t ht hW => ⟨⟨_, σ11, rfl, hw, by unfold wdB; rw [ht]; exact hP⟩, hS.F ht⟩) hS.2.2 dX1_groupSize_35
set_option maxHeartbeats 4000000 in
set_option maxRecDepth 100000 in
theorem kcX1_putPlace_1 (l : Launch) (D : va_G) (c : Nat → ClassId) (q : Nat → Nat) (ev : State → Heap → Prop) (hev : evOK (wdA 36 q) ev) (σ : hsS) (x1 : Int32) (x2 : Int32) (x3 : Int32) (post : hsS → Prop) (hw : wX1_putPlace 1 x1 x2 x3 post σ) : Met l yX1_putPlace (Cond.code yX1_putPlace cX1_putPlace 4 none :: tb_L) { frames := 0, cells := 0, slots := 0, locals := 0 } (wdPc D (xw c q) (xwT c) (wdA 36 q) ev σ [.ref (q 1), .int x1, .int x2, .int x3]) (va_Qv post (wdB D (xw c q)) (wdA 36 q)) 0 0 (wdA 36 q) := by
  refine Met.ofW (cc := cX1_putPlace) (maxL := 4) (ret := none) (by decide) rfl ?_
  intro p e s m args below meth c₀ s₁ Bd hml hv
  obtain ⟨rfl, hP, hK, hD0, hE⟩ := hv
  have hx := Bd.exec
  have hb := Bd.bytes
  have hr := Bd.returns
  have hts := atoms_spec (ws := Cond.code yX1_putPlace cX1_putPlace 4 none :: tb_L) Bd.pre
  have htb : ∀ w ∈ tb_L, w.before [.ref (q 1), .int x1, .int x2, .int x3].toArray s = true := fun w h => hts w (List.mem_cons_of_mem _ h)
  have hown : s.vm.findClass RX1 = some m.cls := findClass_of_methodNamed Bd.named
  have hlocks := Bd.notSynchronized
  have hS : va_S (wdA 36 q) s.heap s.heap [] := va_S.rf
  have hD := hD0
  have hl := lv_entry ([.ref (q 1), .int x1, .int x2, .int x3]) (n := 4) (Nat.le_of_ble_eq_true rfl)
  rw [lg_entry_eq]
  generalize (lg_sl ([.ref (q 1), .int x1, .int x2, .int x3]) ++ List.replicate (4 - (lg_sl ([.ref (q 1), .int x1, .int x2, .int x3])).length) Slot.unset).toArray = ls at hl ⊢
  have hl : lv_has ls 4 [(0, .ref (q 1)), (1, .int x1), (2, .int x2), (3, .int x3)] := hl
  unfold wX1_putPlace at hw
  refine lv_aload_n hx hb dX1_putPlace_0 rfl (lv_at hl 0 rfl) ?_
  refine va_get (D := D) (ci := 1) (C := RX1) (T := TX1) (N := 12) hx hb htb inX1 hown hK hP 1 (xw_1 c q σ) rfl 9 (by decide) (htb _ tb_158) (fun _ h9 => h9) rfl dX1_putPlace_1 ?_
  refine lv_iload_n hx hb dX1_putPlace_4 rfl (lv_at hl 1 rfl) ?_
  refine lv_bipush (v := (9 : Int32)) hx hb dX1_putPlace_5 (by decide) ?_
  refine lv_imul hx hb dX1_putPlace_7 ?_
  refine lv_iload_n hx hb dX1_putPlace_8 rfl (lv_at hl 2 rfl) ?_
  refine lv_iadd hx hb dX1_putPlace_9 ?_
  refine lv_iload_n hx hb dX1_putPlace_10 rfl (lv_at hl 3 rfl) ?_
  refine va_iast hx hb hK hP hD hS 3 1 (xw_3 c q σ) rfl hw.1 dX1_putPlace_11 (fun H locs hP hD hS => ?_)
  have hw := hw.2
  have hP : va_P D vwCl (xw c q (hsA σ 3 (upd (σ.2.1 3) ((x1 * (9 : Int32)) + x2).toNatClampNeg x3))) H := hP
  obtain ⟨σ1, eσ1⟩ : ∃ z : hsS, z = hsA σ 3 (upd (σ.2.1 3) ((x1 * (9 : Int32)) + x2).toNatClampNeg x3) := ⟨_, rfl⟩
  rw [← eσ1] at hP
  have hD : va_D (wdA 36 q) (xw c q σ1) := xw_D hD0
  have hw := hw σ1 eσ1
  exact W.vret hx hb hr (fun t ht hW => ⟨⟨σ1, rfl, hw, by unfold wdB; rw [ht]; exact hP⟩, hS.F ht⟩) hS.2.2 dX1_putPlace_12
set_option maxHeartbeats 4000000 in
set_option maxRecDepth 100000 in
theorem kcX1_putCopy_1 (l : Launch) (D : va_G) (c : Nat → ClassId) (q : Nat → Nat) (ev : State → Heap → Prop) (hev : evOK (wdA 36 q) ev) (σ : hsS) (x1 : Int32) (post : hsS → Prop) (hw : wX1_putCopy 1 x1 post σ) : Met l yX1_putCopy (Cond.code yX1_putCopy cX1_putCopy 6 none :: tb_L) { frames := 2, cells := 0, slots := 0, locals := 46 } (wdPc D (xw c q) (xwT c) (wdA 36 q) ev σ [.ref (q 1), .int x1]) (va_Qv post (wdB D (xw c q)) (wdA 36 q)) 0 0 (wdA 36 q) := by
  refine Met.ofW (cc := cX1_putCopy) (maxL := 6) (ret := none) (by decide) rfl ?_
  intro p e s m args below meth c₀ s₁ Bd hml hv
  obtain ⟨rfl, hP, hK, hD0, hE⟩ := hv
  have hx := Bd.exec
  have hb := Bd.bytes
  have hr := Bd.returns
  have hts := atoms_spec (ws := Cond.code yX1_putCopy cX1_putCopy 6 none :: tb_L) Bd.pre
  have htb : ∀ w ∈ tb_L, w.before [.ref (q 1), .int x1].toArray s = true := fun w h => hts w (List.mem_cons_of_mem _ h)
  have hown : s.vm.findClass RX1 = some m.cls := findClass_of_methodNamed Bd.named
  have hlocks := Bd.notSynchronized
  have hS : va_S (wdA 36 q) s.heap s.heap [] := va_S.rf
  have hD := hD0
  have L30 : ∀ (K72 : Int32 → hsS → Prop) (z1 : Int32) (z2 : Int32) (z3 : Int32) (z4 : Int32) (n : Nat) (y5 : Int32) (σ : hsS) (H : Heap) (locs : List Loc) (ls : Array Slot), wX1_putCopy_L30 1 z1 z2 z3 z4 K72 post n y5 σ → (∀ (y5 : Int32) (σ : hsS) (H : Heap) (locs : List Loc) (ls : Array Slot), K72 y5 σ → va_P D vwCl (xw c q σ) H → va_S (wdA 36 q) s.heap H locs → lv_has ls 6 [(0, .ref (q 1)), (1, .int z1), (2, .int z2), (3, .int z3), (4, .int z4), (5, .int y5)] → W p l e (headSpec (Cond.code yX1_putCopy cX1_putCopy 6 none :: tb_L) { frames := 2, cells := 0, slots := 0, locals := 46 }).room s m [.ref (q 1), .int x1].toArray below meth c₀ H locs 0 0 (MQ below (va_Qv post (wdB D (xw c q)) (wdA 36 q)) [.ref (q 1), .int x1].toArray s 0 0 (wdA 36 q)) (F0 m 72 ls [])) → va_P D vwCl (xw c q σ) H → va_S (wdA 36 q) s.heap H locs → lv_has ls 6 [(0, .ref (q 1)), (1, .int z1), (2, .int z2), (3, .int z3), (4, .int z4), (5, .int y5)] → W p l e (headSpec (Cond.code yX1_putCopy cX1_putCopy 6 none :: tb_L) { frames := 2, cells := 0, slots := 0, locals := 46 }).room s m [.ref (q 1), .int x1].toArray below meth c₀ H locs 0 0 (MQ below (va_Qv post (wdB D (xw c q)) (wdA 36 q)) [.ref (q 1), .int x1].toArray s 0 0 (wdA 36 q)) (F0 m 30 ls []) := by
    intro K72 z1 z2 z3 z4 n
    induction n with
    | zero =>
      intro y5 σ H locs ls hw hk72 hP hS hl
      exact (show False from hw).elim
    | succ n ih =>
      intro y5 σ H locs ls hw hk72 hP hS hl
      rw [wX1_putCopy_L30] at hw
      have hD : va_D (wdA 36 q) (xw c q σ) := xw_D hD0
      refine lv_iload hx hb dX1_putCopy_30 (lv_at hl 5 rfl) ?_
      refine lv_aload_n hx hb dX1_putCopy_32 rfl (lv_at hl 0 rfl) ?_
      refine va_get (D := D) (ci := 1) (C := RX1) (T := TX1) (N := 12) hx hb htb inX1 hown hK hP 1 (xw_1 c q σ) rfl 0 (by decide) (htb _ tb_126) (fun _ h9 => h9) rfl dX1_putCopy_33 ?_
      refine lv_icmp_ge (tgt := 72) hx hb dX1_putCopy_36 (by decide) (fun c7 => ?_) (fun c7 => ?_)
      · have hw := hw.1 c7
        exact hk72 y5 σ _ _ _ hw hP hS (lv_sub hl [0, 1, 2, 3, 4, 5] rfl)
      · have hw := hw.2 c7
        refine lv_aload_n hx hb dX1_putCopy_39 rfl (lv_at hl 0 rfl) ?_
        refine lv_iload_n hx hb dX1_putCopy_40 rfl (lv_at hl 2 rfl) ?_
        refine lv_iload hx hb dX1_putCopy_41 (lv_at hl 5 rfl) ?_
        refine va_calli (va_runV (As := [.int z2, .int y5]) (rest := []) ⟨hx, hb, hml, hown, htb⟩ (kcX1_placeOf_1 l D c q ev hev σ z2 y5 _ hw) (tb_CW htb kX1_placeOf tb_445 tb_446 tb_447 ⟨Nat.le_of_ble_eq_true rfl, Nat.le_of_ble_eq_true rfl⟩) (wd_preV (wd := xw c q) (k := 1) hev hK hP hD hE hS (xw_1 c q σ) rfl) rfl rfl hl.1 rfl (lv_room (Nat.le_of_ble_eq_true rfl)) dX1_putCopy_43 ⟨Nat.zero_le _, Nat.zero_le _⟩) hS (fun q _ h => h) (fun q h => h) (fun r8 σ9 t H1 locs1 ht hvm hw hB hz1 hk1 hS => ?_)
        have hP : va_P D vwCl (xw c q σ9) H1 := ht ▸ hB
        have hD : va_D (wdA 36 q) (xw c q σ9) := xw_D hD0
        refine lv_iload_n hx hb dX1_putCopy_46 rfl (lv_at hl 3 rfl) ?_
        refine lv_icmp_le (tgt := 66) hx hb dX1_putCopy_47 (by decide) (fun c10 => ?_) (fun c10 => ?_)
        · have hw := hw.1 c10
          obtain ⟨v11, ev11⟩ : ∃ z : Int32, z = y5 + (1 : Int32) := ⟨_, rfl⟩
          have hw := hw v11 ev11
          refine lv_iinc (v := v11) (lv' := [(5, .int v11), (0, .ref (q 1)), (1, .int z1), (2, .int z2), (3, .int z3), (4, .int z4)]) hx hb dX1_putCopy_66 hl (k := 5) rfl (by rw [ev11]; rfl) (by decide) rfl (fun ls hl => ?_)
          refine lv_goto (tgt := 30) hx hb dX1_putCopy_69 (by decide) ?_
          exact ih v11 σ9 _ _ _ hw hk72 hP hS (lv_sub hl [1, 2, 3, 4, 5, 0] rfl)
        · have hw := hw.2 c10
          refine lv_aload_n hx hb dX1_putCopy_50 rfl (lv_at hl 0 rfl) ?_
          refine lv_iload_n hx hb dX1_putCopy_51 rfl (lv_at hl 2 rfl) ?_
          refine lv_iload hx hb dX1_putCopy_52 (lv_at hl 5 rfl) ?_
          refine lv_aload_n hx hb dX1_putCopy_54 rfl (lv_at hl 0 rfl) ?_
          refine lv_iload_n hx hb dX1_putCopy_55 rfl (lv_at hl 2 rfl) ?_
          refine lv_iload hx hb dX1_putCopy_56 (lv_at hl 5 rfl) ?_
          refine va_calli (va_runV (As := [.int z2, .int y5]) (rest := [.int y5, .int z2, .ref (q 1)]) ⟨hx, hb, hml, hown, htb⟩ (kcX1_placeOf_1 l D c q ev hev σ9 z2 y5 _ hw) (tb_CW htb kX1_placeOf tb_445 tb_446 tb_447 ⟨Nat.le_of_ble_eq_true rfl, Nat.le_of_ble_eq_true rfl⟩) (wd_preV (wd := xw c q) (k := 1) hev hK hP hD hE hS (xw_1 c q σ9) rfl) rfl rfl hl.1 rfl (lv_room (Nat.le_of_ble_eq_true rfl)) dX1_putCopy_58 ⟨Nat.zero_le _, Nat.zero_le _⟩) hS (fun q _ h => h) (fun q h => h) (fun r12 σ13 t H1 locs1 ht hvm hw hB hz1 hk1 hS => ?_)
          have hP : va_P D vwCl (xw c q σ13) H1 := ht ▸ hB
          have hD : va_D (wdA 36 q) (xw c q σ13) := xw_D hD0
          refine lv_iconst (v := (1 : Int32)) hx hb dX1_putCopy_61 (by decide) ?_
          refine lv_iadd hx hb dX1_putCopy_62 ?_
          refine va_callv (va_runV (As := [.int z2, .int y5, .int (r12 + (1 : Int32))]) (rest := []) ⟨hx, hb, hml, hown, htb⟩ (kcX1_putPlace_1 l D c q ev hev σ13 z2 y5 (r12 + (1 : Int32)) _ hw) (tb_CW htb kX1_putPlace tb_1029 tb_599 tb_600 ⟨Nat.le_of_ble_eq_true rfl, Nat.le_of_ble_eq_true rfl⟩) (wd_preV (wd := xw c q) (k := 1) hev hK hP hD hE hS (xw_1 c q σ13) rfl) rfl rfl hl.1 rfl (lv_room (Nat.le_of_ble_eq_true rfl)) dX1_putCopy_63 ⟨Nat.zero_le _, Nat.zero_le _⟩) hS (fun q _ h => h) (fun q h => h) (fun σ15 t H1 locs1 ht hvm hw hB hz1 hk1 hS => ?_)
          have hP : va_P D vwCl (xw c q σ15) H1 := ht ▸ hB
          have hD : va_D (wdA 36 q) (xw c q σ15) := xw_D hD0
          obtain ⟨v16, ev16⟩ : ∃ z : Int32, z = y5 + (1 : Int32) := ⟨_, rfl⟩
          have hw := hw v16 ev16
          refine lv_iinc (v := v16) (lv' := [(5, .int v16), (0, .ref (q 1)), (1, .int z1), (2, .int z2), (3, .int z3), (4, .int z4)]) hx hb dX1_putCopy_66 hl (k := 5) rfl (by rw [ev16]; rfl) (by decide) rfl (fun ls hl => ?_)
          refine lv_goto (tgt := 30) hx hb dX1_putCopy_69 (by decide) ?_
          exact ih v16 σ15 _ _ _ hw hk72 hP hS (lv_sub hl [1, 2, 3, 4, 5, 0] rfl)
  have L2 : ∀ (K89 : Int32 → hsS → Prop) (z1 : Int32) (n : Nat) (y2 : Int32) (σ : hsS) (H : Heap) (locs : List Loc) (ls : Array Slot), wX1_putCopy_L2 1 z1 K89 post n y2 σ → (∀ (y2 : Int32) (σ : hsS) (H : Heap) (locs : List Loc) (ls : Array Slot), K89 y2 σ → va_P D vwCl (xw c q σ) H → va_S (wdA 36 q) s.heap H locs → lv_has ls 6 [(0, .ref (q 1)), (1, .int z1), (2, .int y2)] → W p l e (headSpec (Cond.code yX1_putCopy cX1_putCopy 6 none :: tb_L) { frames := 2, cells := 0, slots := 0, locals := 46 }).room s m [.ref (q 1), .int x1].toArray below meth c₀ H locs 0 0 (MQ below (va_Qv post (wdB D (xw c q)) (wdA 36 q)) [.ref (q 1), .int x1].toArray s 0 0 (wdA 36 q)) (F0 m 89 ls [])) → va_P D vwCl (xw c q σ) H → va_S (wdA 36 q) s.heap H locs → lv_has ls 6 [(0, .ref (q 1)), (1, .int z1), (2, .int y2)] → W p l e (headSpec (Cond.code yX1_putCopy cX1_putCopy 6 none :: tb_L) { frames := 2, cells := 0, slots := 0, locals := 46 }).room s m [.ref (q 1), .int x1].toArray below meth c₀ H locs 0 0 (MQ below (va_Qv post (wdB D (xw c q)) (wdA 36 q)) [.ref (q 1), .int x1].toArray s 0 0 (wdA 36 q)) (F0 m 2 ls []) := by
    intro K89 z1 n
    induction n with
    | zero =>
      intro y2 σ H locs ls hw hk89 hP hS hl
      exact (show False from hw).elim
    | succ n ih =>
      intro y2 σ H locs ls hw hk89 hP hS hl
      rw [wX1_putCopy_L2] at hw
      have hD : va_D (wdA 36 q) (xw c q σ) := xw_D hD0
      refine lv_iload_n hx hb dX1_putCopy_2 rfl (lv_at hl 2 rfl) ?_
      refine lv_aload_n hx hb dX1_putCopy_3 rfl (lv_at hl 0 rfl) ?_
      refine va_get (D := D) (ci := 1) (C := RX1) (T := TX1) (N := 12) hx hb htb inX1 hown hK hP 1 (xw_1 c q σ) rfl 1 (by decide) (htb _ tb_132) (fun _ h9 => h9) rfl dX1_putCopy_4 ?_
      refine lv_icmp_ge (tgt := 89) hx hb dX1_putCopy_7 (by decide) (fun c1 => ?_) (fun c1 => ?_)
      · have hw := hw.1 c1
        exact hk89 y2 σ _ _ _ hw hP hS (lv_sub hl [0, 1, 2] rfl)
      · have hw := hw.2 c1
        refine lv_aload_n hx hb dX1_putCopy_10 rfl (lv_at hl 0 rfl) ?_
        refine lv_iload_n hx hb dX1_putCopy_11 rfl (lv_at hl 2 rfl) ?_
        refine lv_iload_n hx hb dX1_putCopy_12 rfl (lv_at hl 1 rfl) ?_
        refine va_calli (va_runV (As := [.int y2, .int z1]) (rest := []) ⟨hx, hb, hml, hown, htb⟩ (kcX1_placeOf_1 l D c q ev hev σ y2 z1 _ hw) (tb_CW htb kX1_placeOf tb_445 tb_446 tb_447 ⟨Nat.le_of_ble_eq_true rfl, Nat.le_of_ble_eq_true rfl⟩) (wd_preV (wd := xw c q) (k := 1) hev hK hP hD hE hS (xw_1 c q σ) rfl) rfl rfl hl.1 rfl (lv_room (Nat.le_of_ble_eq_true rfl)) dX1_putCopy_13 ⟨Nat.zero_le _, Nat.zero_le _⟩) hS (fun q _ h => h) (fun q h => h) (fun r2 σ3 t H1 locs1 ht hvm hw hB hz1 hk1 hS => ?_)
        have hP : va_P D vwCl (xw c q σ3) H1 := ht ▸ hB
        have hD : va_D (wdA 36 q) (xw c q σ3) := xw_D hD0
        refine lv_istore_n (lv' := [(3, .int r2), (0, .ref (q 1)), (1, .int z1), (2, .int y2)]) hx hb dX1_putCopy_16 rfl hl (by decide) rfl (fun ls hl => ?_)
        refine lv_iload_n hx hb dX1_putCopy_17 rfl (lv_at hl 0 rfl) ?_
        refine lv_aload_n hx hb dX1_putCopy_18 rfl (lv_at hl 1 rfl) ?_
        refine lv_iload_n hx hb dX1_putCopy_19 rfl (lv_at hl 3 rfl) ?_
        refine lv_iload_n hx hb dX1_putCopy_20 rfl (lv_at hl 0 rfl) ?_
        refine va_calli (va_runV (As := [.int y2, .int r2]) (rest := [.int r2]) ⟨hx, hb, hml, hown, htb⟩ (kcX1_groupSize_1 l D c q ev hev σ3 y2 r2 _ hw) (tb_CW htb kX1_groupSize tb_1088 tb_554 tb_555 ⟨Nat.le_of_ble_eq_true rfl, Nat.le_of_ble_eq_true rfl⟩) (wd_preV (wd := xw c q) (k := 1) hev hK hP hD hE hS (xw_1 c q σ3) rfl) rfl rfl hl.1 rfl (lv_room (Nat.le_of_ble_eq_true rfl)) dX1_putCopy_21 ⟨Nat.zero_le _, Nat.zero_le _⟩) hS (fun q _ h => h) (fun q h => h) (fun r4 σ5 t H1 locs1 ht hvm hw hB hz1 hk1 hS => ?_)
        have hP : va_P D vwCl (xw c q σ5) H1 := ht ▸ hB
        have hD : va_D (wdA 36 q) (xw c q σ5) := xw_D hD0
        refine lv_iadd hx hb dX1_putCopy_24 ?_
        refine lv_topi (fun v6 ev6 => ?_)
        have hw := hw v6 ev6
        refine lv_istore (lv' := [(4, .int v6), (3, .int r2), (0, .ref (q 1)), (1, .int z1), (2, .int y2)]) hx hb dX1_putCopy_25 hl (by decide) rfl (fun ls hl => ?_)
        refine lv_iconst (v := (0 : Int32)) hx hb dX1_putCopy_27 (by decide) ?_
        refine lv_istore (lv' := [(5, .int (0 : Int32)), (4, .int v6), (3, .int r2), (0, .ref (q 1)), (1, .int z1), (2, .int y2)]) hx hb dX1_putCopy_28 hl (by decide) rfl (fun ls hl => ?_)
        obtain ⟨n17, hw⟩ := hw
        refine L30 _ z1 y2 r2 v6 n17 (0 : Int32) σ5 _ _ _ hw ?_ hP hS (lv_sub hl [3, 4, 5, 2, 1, 0] rfl)
        intro v18 σ19 H locs ls hw hP hS hl
        have hD : va_D (wdA 36 q) (xw c q σ19) := xw_D hD0
        refine lv_aload_n hx hb dX1_putCopy_72 rfl (lv_at hl 0 rfl) ?_
        refine lv_iload_n hx hb dX1_putCopy_73 rfl (lv_at hl 2 rfl) ?_
        refine lv_aload_n hx hb dX1_putCopy_74 rfl (lv_at hl 0 rfl) ?_
        refine va_get (D := D) (ci := 1) (C := RX1) (T := TX1) (N := 12) hx hb htb inX1 hown hK hP 1 (xw_1 c q σ19) rfl 0 (by decide) (htb _ tb_126) (fun _ h9 => h9) rfl dX1_putCopy_75 ?_
        refine lv_iload hx hb dX1_putCopy_78 (lv_at hl 4 rfl) ?_
        refine va_callv (va_runV (As := [.int y2, .int (σ19.1 64), .int v6]) (rest := []) ⟨hx, hb, hml, hown, htb⟩ (kcX1_putPlace_1 l D c q ev hev σ19 y2 (σ19.1 64) v6 _ hw) (tb_CW htb kX1_putPlace tb_1029 tb_599 tb_600 ⟨Nat.le_of_ble_eq_true rfl, Nat.le_of_ble_eq_true rfl⟩) (wd_preV (wd := xw c q) (k := 1) hev hK hP hD hE hS (xw_1 c q σ19) rfl) rfl rfl hl.1 rfl (lv_room (Nat.le_of_ble_eq_true rfl)) dX1_putCopy_80 ⟨Nat.zero_le _, Nat.zero_le _⟩) hS (fun q _ h => h) (fun q h => h) (fun σ21 t H1 locs1 ht hvm hw hB hz1 hk1 hS => ?_)
        have hP : va_P D vwCl (xw c q σ21) H1 := ht ▸ hB
        have hD : va_D (wdA 36 q) (xw c q σ21) := xw_D hD0
        obtain ⟨v22, ev22⟩ : ∃ z : Int32, z = y2 + (1 : Int32) := ⟨_, rfl⟩
        have hw := hw v22 ev22
        refine lv_iinc (v := v22) (lv' := [(2, .int v22), (0, .ref (q 1)), (1, .int z1), (3, .int r2), (4, .int v6), (5, .int v18)]) hx hb dX1_putCopy_83 hl (k := 2) rfl (by rw [ev22]; rfl) (by decide) rfl (fun ls hl => ?_)
        refine lv_goto (tgt := 2) hx hb dX1_putCopy_86 (by decide) ?_
        exact ih v22 σ21 _ _ _ hw hk89 hP hS (lv_sub hl [1, 2, 0] rfl)
  have hl := lv_entry ([.ref (q 1), .int x1]) (n := 6) (Nat.le_of_ble_eq_true rfl)
  rw [lg_entry_eq]
  generalize (lg_sl ([.ref (q 1), .int x1]) ++ List.replicate (6 - (lg_sl ([.ref (q 1), .int x1])).length) Slot.unset).toArray = ls at hl ⊢
  have hl : lv_has ls 6 [(0, .ref (q 1)), (1, .int x1)] := hl
  unfold wX1_putCopy at hw
  refine lv_iconst (v := (0 : Int32)) hx hb dX1_putCopy_0 (by decide) ?_
  refine lv_istore_n (lv' := [(2, .int (0 : Int32)), (0, .ref (q 1)), (1, .int x1)]) hx hb dX1_putCopy_1 rfl hl (by decide) rfl (fun ls hl => ?_)
  obtain ⟨n23, hw⟩ := hw
  refine L2 _ x1 n23 (0 : Int32) σ _ _ _ hw ?_ hP hS (lv_sub hl [1, 2, 0] rfl)
  intro v24 σ25 H locs ls hw hP hS hl
  have hD : va_D (wdA 36 q) (xw c q σ25) := xw_D hD0
  refine lv_aload_n hx hb dX1_putCopy_89 rfl (lv_at hl 0 rfl) ?_
  refine lv_dup hx hb dX1_putCopy_90 rfl ?_
  refine va_get (D := D) (ci := 1) (C := RX1) (T := TX1) (N := 12) hx hb htb inX1 hown hK hP 1 (xw_1 c q σ25) rfl 0 (by decide) (htb _ tb_126) (fun _ h9 => h9) rfl dX1_putCopy_91 ?_
  refine lv_iconst (v := (1 : Int32)) hx hb dX1_putCopy_94 (by decide) ?_
  refine lv_iadd hx hb dX1_putCopy_95 ?_
  refine va_put (D := D) (ci := 1) (ty := .int) (C := RX1) (T := TX1) (N := 12) hx hb htb inX1 tyX1 tyX1_ok nmX1 hown hK hP hD hS 1 (xw_1 c q σ25) rfl 0 (by decide) (htb _ tb_126) (fun _ h9 => h9) rfl (by decide +kernel) rfl rfl (Nat.le_of_ble_eq_true rfl) dX1_putCopy_96 (fun H locs hP hD hS => ?_)
  have hP : va_P D vwCl (xw c q (hsI σ25 64 ((σ25.1 64) + (1 : Int32)))) H := hP
  obtain ⟨σ26, eσ26⟩ : ∃ z : hsS, z = hsI σ25 64 ((σ25.1 64) + (1 : Int32)) := ⟨_, rfl⟩
  rw [← eσ26] at hP
  have hD : va_D (wdA 36 q) (xw c q σ26) := xw_D hD0
  have hw := hw σ26 eσ26
  exact W.vret hx hb hr (fun t ht hW => ⟨⟨σ26, rfl, hw, by unfold wdB; rw [ht]; exact hP⟩, hS.F ht⟩) hS.2.2 dX1_putCopy_99
def wX7_add (x1 : Int32) (post : Int32 → hsS → Prop) (px : hsS → Prop) (σ : hsS) : Prop := wX7_needThing x1 (fun σ2 => (((σ2.1 64) < (9 : Int32) → wX1_putCopy 1 x1 (fun σ5 => wX7_forgetOldHall  (fun σ7 => post ((σ7.1 64) - (1 : Int32)) σ7) σ5) σ2) ∧ (¬ (σ2.1 64) < (9 : Int32) → post (-1 : Int32) σ2))) px σ
set_option maxHeartbeats 4000000 in
set_option maxRecDepth 100000 in
theorem kcX7_add (l : Launch) (D : va_G) (c : Nat → ClassId) (q : Nat → Nat) (ev : State → Heap → Prop) (hev : evOK (wdA 36 q) ev) (hst : l.stackTraces = false) (hX : ∀ (U : State) (H : Heap), ev U H → evT (wdA 36 q) U H) (σ : hsS) (x1 : Int32) (post : Int32 → hsS → Prop) (px : hsS → Prop) (hw : wX7_add x1 post px σ) : vx_Met l yX7_add (Cond.code yX7_add cX7_add 2 (some .int) :: tb_L) { frames := 9, cells := 1, slots := 6, locals := 149 } (wdPc D (xw c q) (xwT c) (wdA 36 q) ev σ [.ref (q 0), .int x1]) (va_Qi post (wdB D (xw c q)) (wdA 36 q)) (vx_X px (xpB D (xw c q) "java/util/NoSuchElementException") (wdA 36 q)) 1 6 (wdA 36 q) := by
  refine vx_ofW (cc := cX7_add) (maxL := 2) (ret := (some .int)) (by decide) rfl ?_
  intro p e s m args below meth c₀ s₁ Bd hml htab hv
  obtain ⟨rfl, hP, hK, hD0, hE⟩ := hv
  have hx := Bd.exec
  have hb := Bd.bytes
  have hr := Bd.returns
  have hts := atoms_spec (ws := Cond.code yX7_add cX7_add 2 (some .int) :: tb_L) Bd.pre
  have htb : ∀ w ∈ tb_L, w.before [.ref (q 0), .int x1].toArray s = true := fun w h => hts w (List.mem_cons_of_mem _ h)
  have hown : s.vm.findClass RX7 = some m.cls := findClass_of_methodNamed Bd.named
  have hlocks := Bd.notSynchronized
  have hS : va_S (wdA 36 q) s.heap s.heap [] := va_S.rf
  have hD := hD0
  have hl := lv_entry ([.ref (q 0), .int x1]) (n := 2) (Nat.le_of_ble_eq_true rfl)
  rw [lg_entry_eq]
  generalize (lg_sl ([.ref (q 0), .int x1]) ++ List.replicate (2 - (lg_sl ([.ref (q 0), .int x1])).length) Slot.unset).toArray = ls at hl ⊢
  have hl : lv_has ls 2 [(0, .ref (q 0)), (1, .int x1)] := hl
  unfold wX7_add at hw
  refine lv_aload_n hx hb dX7_add_0 rfl (lv_at hl 0 rfl) ?_
  refine lv_iload_n hx hb dX7_add_1 rfl (lv_at hl 1 rfl) ?_
  refine vx_callv (vx_runV (As := [.int x1]) (rest := []) ⟨hx, hb, hml, hown, htb⟩ (kcX7_needThing l D c q ev hev hst hX σ x1 _ px hw) (tb_CW htb kX7_needThing tb_911 tb_913 tb_33 ⟨Nat.le_of_ble_eq_true rfl, Nat.le_of_ble_eq_true rfl⟩) (wd_preV (wd := xw c q) (k := 0) hev hK hP hD hE hS (xw_0 c q σ) rfl) rfl rfl hl.1 rfl (lv_room (Nat.le_of_ble_eq_true rfl)) dX7_add_2 ⟨Nat.le_of_ble_eq_true rfl, Nat.le_of_ble_eq_true rfl⟩) hS (fun q _ h => h) (fun q h => h) (fun q _ h => h) (fun E9 ce9 q9 σx t H1 locs1 ht hvm hpx hBX hz1 hk1 hS hce hcv hcl => vx_out (fun x h => (htab x h).elim) hlocks hce hcv hcl (fun t2 ht2 _ => ⟨σx, hpx, ⟨hBX.1, by rw [ht2, ← ht]; exact hBX.2⟩, hS.F ht2⟩) hS.2.2 (Nat.le_of_ble_eq_true rfl) (Nat.le_of_ble_eq_true rfl)) (fun σ2 t H1 locs1 ht hvm hw hB hz1 hk1 hS => ?_)
  have hP : va_P D vwCl (xw c q σ2) H1 := ht ▸ hB
  have hD : va_D (wdA 36 q) (xw c q σ2) := xw_D hD0
  refine lv_aload_n hx hb dX7_add_5 rfl (lv_at hl 0 rfl) ?_
  refine va_get (D := D) (ci := 7) (C := RX7) (T := TX7) (N := 9) hx hb htb inX7 hown hK hP 0 (xw_0 c q σ2) rfl 0 (by decide) (htb _ tb_342) (fun _ h9 => h9) rfl dX7_add_6 ?_
  refine va_getN (D := D) (ci := 1) (C := RX1) (T := TX1) (N := 12) hx hb htb inX1 hown hK hP 1 (xw_1 c q σ2) rfl 0 (by decide) (htb _ tb_130) (fun _ h9 => h9) rfl dX7_add_9 ?_
  refine lv_bipush (v := (9 : Int32)) hx hb dX7_add_12 (by decide) ?_
  refine lv_icmp_lt (tgt := 19) hx hb dX7_add_14 (by decide) (fun c3 => ?_) (fun c3 => ?_)
  · have hw := hw.1 c3
    refine lv_aload_n hx hb dX7_add_19 rfl (lv_at hl 0 rfl) ?_
    refine va_get (D := D) (ci := 7) (C := RX7) (T := TX7) (N := 9) hx hb htb inX7 hown hK hP 0 (xw_0 c q σ2) rfl 0 (by decide) (htb _ tb_342) (fun _ h9 => h9) rfl dX7_add_20 ?_
    refine lv_iload_n hx hb dX7_add_23 rfl (lv_at hl 1 rfl) ?_
    refine va_callv (va_runV (As := [.int x1]) (rest := []) ⟨hx, hb, hml, hown, htb⟩ (kcX1_putCopy_1 l D c q ev hev σ2 x1 _ hw) (tb_CW htb kX1_putCopy tb_1084 tb_1085 tb_1086 ⟨Nat.le_of_ble_eq_true rfl, Nat.le_of_ble_eq_true rfl⟩) (wd_preV (wd := xw c q) (k := 1) hev hK hP hD hE hS (xw_1 c q σ2) rfl) rfl rfl hl.1 rfl (lv_room (Nat.le_of_ble_eq_true rfl)) dX7_add_24 ⟨Nat.le_of_ble_eq_true rfl, Nat.le_of_ble_eq_true rfl⟩) hS (fun q _ h => h) (fun q h => h) (fun σ5 t H1 locs1 ht hvm hw hB hz1 hk1 hS => ?_)
    have hP : va_P D vwCl (xw c q σ5) H1 := ht ▸ hB
    have hD : va_D (wdA 36 q) (xw c q σ5) := xw_D hD0
    refine lv_aload_n hx hb dX7_add_27 rfl (lv_at hl 0 rfl) ?_
    refine va_callv (va_runV (As := []) (rest := []) ⟨hx, hb, hml, hown, htb⟩ (kcX7_forgetOldHall l D c q ev hev σ5  _ hw) (tb_CW htb kX7_forgetOldHall tb_859 tb_861 tb_31 ⟨Nat.le_of_ble_eq_true rfl, Nat.le_of_ble_eq_true rfl⟩) (wd_preV (wd := xw c q) (k := 0) hev hK hP hD hE hS (xw_0 c q σ5) rfl) rfl rfl hl.1 rfl (lv_room (Nat.le_of_ble_eq_true rfl)) dX7_add_28 ⟨Nat.le_of_ble_eq_true rfl, Nat.le_of_ble_eq_true rfl⟩) hS (fun q _ h => h) (fun q h => h) (fun σ7 t H1 locs1 ht hvm hw hB hz1 hk1 hS => ?_)
    have hP : va_P D vwCl (xw c q σ7) H1 := ht ▸ hB
    have hD : va_D (wdA 36 q) (xw c q σ7) := xw_D hD0
    refine lv_aload_n hx hb dX7_add_31 rfl (lv_at hl 0 rfl) ?_
    refine va_get (D := D) (ci := 7) (C := RX7) (T := TX7) (N := 9) hx hb htb inX7 hown hK hP 0 (xw_0 c q σ7) rfl 0 (by decide) (htb _ tb_342) (fun _ h9 => h9) rfl dX7_add_32 ?_
    refine va_getN (D := D) (ci := 1) (C := RX1) (T := TX1) (N := 12) hx hb htb inX1 hown hK hP 1 (xw_1 c q σ7) rfl 0 (by decide) (htb _ tb_130) (fun _ h9 => h9) rfl dX7_add_35 ?_
    refine lv_iconst (v := (1 : Int32)) hx hb dX7_add_38 (by decide) ?_
    refine lv_isub hx hb dX7_add_39 ?_
    exact vx_ret (W.widen (k := 1) (n := 6) (Nat.le_of_ble_eq_true rfl) (Nat.le_of_ble_eq_true rfl) (W.iret hx hb hr (fun t ht hW => ⟨⟨_, σ7, rfl, hw, by unfold wdB; rw [ht]; exact hP⟩, hS.F ht⟩) hS.2.2 dX7_add_40))
  · have hw := hw.2 c3
    refine lv_iconst (v := (-1 : Int32)) hx hb dX7_add_17 (by decide) ?_
    exact vx_ret (W.widen (k := 1) (n := 6) (Nat.le_of_ble_eq_true rfl) (Nat.le_of_ble_eq_true rfl) (W.iret hx hb hr (fun t ht hW => ⟨⟨_, σ2, rfl, hw, by unfold wdB; rw [ht]; exact hP⟩, hS.F ht⟩) hS.2.2 dX7_add_18))
def wX2_ordersOf_L4 (b0 : Nat) (z1 : Int32) (K36 : Int32 → Int32 → hsS → Prop) (post : Int32 → hsS → Prop) : Nat → Int32 → Int32 → hsS → Prop
  | 0, _, _, _ => False
  | n + 1, y2, y3, σ => (((σ.1 (64 * b0 + 0)) ≤ y3 → K36 y2 y3 σ) ∧ (¬ (σ.1 (64 * b0 + 0)) ≤ y3 → wX1_groupSize b0 z1 y3 (fun r2 σ3 => wX7_factorial r2 (fun r4 σ5 => ∀ v6 : Int32, v6 = (if (241 : Int32) < (y2 * r4) then (241 : Int32) else (y2 * r4)) → ∀ v7 : Int32, v7 = y3 + (1 : Int32) → wX2_ordersOf_L4 b0 z1 K36 post n v6 v7 σ5) σ3) σ))
def wX2_ordersOf (b0 : Nat) (x1 : Int32) (post : Int32 → hsS → Prop) (σ : hsS) : Prop := ∃ n8, wX2_ordersOf_L4 b0 x1 (fun v9 v10 σ11 => post v9 σ11) post n8 (1 : Int32) (0 : Int32) σ
set_option maxHeartbeats 4000000 in
set_option maxRecDepth 100000 in
theorem kcX2_ordersOf_1 (l : Launch) (D : va_G) (c : Nat → ClassId) (q : Nat → Nat) (ev : State → Heap → Prop) (hev : evOK (wdA 36 q) ev) (tF : Nat) (hF : ∀ (U : State) (H : Heap), ev U H → va_Z "StrikeHall" "FACTORIALS" "[I" (.ref tF) (wdA 36 q) U H ∧ va_T .int tF 10 (fun j => .int (xfact j)) (wdA 36 q) U H) (σ : hsS) (x1 : Int32) (post : Int32 → hsS → Prop) (hw : wX2_ordersOf 1 x1 post σ) : Met l yX2_ordersOf (Cond.code yX2_ordersOf cX2_ordersOf 4 (some .int) :: tb_L) { frames := 2, cells := 0, slots := 0, locals := 60 } (wdPc D (xw c q) (xwT c) (wdA 36 q) ev σ [.ref (q 1), .int x1]) (va_Qi post (wdB D (xw c q)) (wdA 36 q)) 0 0 (wdA 36 q) := by
  refine Met.ofW (cc := cX2_ordersOf) (maxL := 4) (ret := (some .int)) (by decide) rfl ?_
  intro p e s m args below meth c₀ s₁ Bd hml hv
  obtain ⟨rfl, hP, hK, hD0, hE⟩ := hv
  have hx := Bd.exec
  have hb := Bd.bytes
  have hr := Bd.returns
  have hts := atoms_spec (ws := Cond.code yX2_ordersOf cX2_ordersOf 4 (some .int) :: tb_L) Bd.pre
  have htb : ∀ w ∈ tb_L, w.before [.ref (q 1), .int x1].toArray s = true := fun w h => hts w (List.mem_cons_of_mem _ h)
  have hown : s.vm.findClass RX2 = some m.cls := findClass_of_methodNamed Bd.named
  have hlocks := Bd.notSynchronized
  have hS : va_S (wdA 36 q) s.heap s.heap [] := va_S.rf
  have hD := hD0
  have L4 : ∀ (K36 : Int32 → Int32 → hsS → Prop) (z1 : Int32) (n : Nat) (y2 : Int32) (y3 : Int32) (σ : hsS) (H : Heap) (locs : List Loc) (ls : Array Slot), wX2_ordersOf_L4 1 z1 K36 post n y2 y3 σ → (∀ (y2 : Int32) (y3 : Int32) (σ : hsS) (H : Heap) (locs : List Loc) (ls : Array Slot), K36 y2 y3 σ → va_P D vwCl (xw c q σ) H → va_S (wdA 36 q) s.heap H locs → lv_has ls 4 [(0, .ref (q 1)), (1, .int z1), (2, .int y2), (3, .int y3)] → W p l e (headSpec (Cond.code yX2_ordersOf cX2_ordersOf 4 (some .int) :: tb_L) { frames := 2, cells := 0, slots := 0, locals := 60 }).room s m [.ref (q 1), .int x1].toArray below meth c₀ H locs 0 0 (MQ below (va_Qi post (wdB D (xw c q)) (wdA 36 q)) [.ref (q 1), .int x1].toArray s 0 0 (wdA 36 q)) (F0 m 36 ls [])) → va_P D vwCl (xw c q σ) H → va_S (wdA 36 q) s.heap H locs → lv_has ls 4 [(0, .ref (q 1)), (1, .int z1), (2, .int y2), (3, .int y3)] → W p l e (headSpec (Cond.code yX2_ordersOf cX2_ordersOf 4 (some .int) :: tb_L) { frames := 2, cells := 0, slots := 0, locals := 60 }).room s m [.ref (q 1), .int x1].toArray below meth c₀ H locs 0 0 (MQ below (va_Qi post (wdB D (xw c q)) (wdA 36 q)) [.ref (q 1), .int x1].toArray s 0 0 (wdA 36 q)) (F0 m 4 ls []) := by
    intro K36 z1 n
    induction n with
    | zero =>
      intro y2 y3 σ H locs ls hw hk36 hP hS hl
      exact (show False from hw).elim
    | succ n ih =>
      intro y2 y3 σ H locs ls hw hk36 hP hS hl
      rw [wX2_ordersOf_L4] at hw
      have hD : va_D (wdA 36 q) (xw c q σ) := xw_D hD0
      refine lv_iload_n hx hb dX2_ordersOf_4 rfl (lv_at hl 3 rfl) ?_
      refine lv_aload_n hx hb dX2_ordersOf_5 rfl (lv_at hl 0 rfl) ?_
      refine va_getN (D := D) (ci := 1) (C := RX1) (T := TX1) (N := 12) hx hb htb inX1 hown hK hP 1 (xw_1 c q σ) rfl 0 (by decide) (htb _ tb_129) (fun _ h9 => h9) rfl dX2_ordersOf_6 ?_
      refine lv_icmp_ge (tgt := 36) hx hb dX2_ordersOf_9 (by decide) (fun c1 => ?_) (fun c1 => ?_)
      · have hw := hw.1 c1
        exact hk36 y2 y3 σ _ _ _ hw hP hS (lv_sub hl [0, 1, 2, 3] rfl)
      · have hw := hw.2 c1
        refine lv_iload_n hx hb dX2_ordersOf_12 rfl (lv_at hl 2 rfl) ?_
        refine lv_aload_n hx hb dX2_ordersOf_13 rfl (lv_at hl 0 rfl) ?_
        refine lv_iload_n hx hb dX2_ordersOf_14 rfl (lv_at hl 1 rfl) ?_
        refine lv_iload_n hx hb dX2_ordersOf_15 rfl (lv_at hl 3 rfl) ?_
        refine va_calli (va_runV (As := [.int z1, .int y3]) (rest := [.int y2]) ⟨hx, hb, hml, hown, htb⟩ (kcX1_groupSize_1 l D c q ev hev σ z1 y3 _ hw) (tb_CW htb kX1_groupSize tb_553 tb_554 tb_555 ⟨Nat.le_of_ble_eq_true rfl, Nat.le_of_ble_eq_true rfl⟩) (wd_preV (wd := xw c q) (k := 1) hev hK hP hD hE hS (xw_1 c q σ) rfl) rfl rfl hl.1 rfl (lv_room (Nat.le_of_ble_eq_true rfl)) dX2_ordersOf_16 ⟨Nat.zero_le _, Nat.zero_le _⟩) hS (fun q _ h => h) (fun q h => h) (fun r2 σ3 t H1 locs1 ht hvm hw hB hz1 hk1 hS => ?_)
        have hP : va_P D vwCl (xw c q σ3) H1 := ht ▸ hB
        have hD : va_D (wdA 36 q) (xw c q σ3) := xw_D hD0
        refine va_calli (va_runSN (As := [.int r2]) (rest := [.int y2]) ⟨hx, hb, hml, hown, htb⟩ (kcX7_factorial_x l D c q ev hev tF hF σ3 r2 _ hw) (⟨tb_CN htb kX7_factorial tb_557 ⟨Nat.le_of_ble_eq_true rfl, Nat.le_of_ble_eq_true rfl⟩, htb _ tb_558, trivial⟩) (wd_preS (wd := xw c q) hev hK hP hD hE hS) rfl rfl hl.1 rfl (lv_room (Nat.le_of_ble_eq_true rfl)) dX2_ordersOf_19 ⟨Nat.zero_le _, Nat.zero_le _⟩) hS (fun q _ h => h) (fun q h => h) (fun r4 σ5 t H1 locs1 ht hvm hw hB hz1 hk1 hS => ?_)
        have hP : va_P D vwCl (xw c q σ5) H1 := ht ▸ hB
        have hD : va_D (wdA 36 q) (xw c q σ5) := xw_D hD0
        refine lv_imul hx hb dX2_ordersOf_22 ?_
        refine lv_sipush (v := (241 : Int32)) hx hb dX2_ordersOf_23 (by decide) ?_
        refine va_mmin hx hb (hml.trans hl.1.symm) hown (htb _ tb_563) (htb _ tb_413) (htb _ tb_104) (htb _ tb_414) (Nat.le_of_ble_eq_true rfl) (Nat.le_of_ble_eq_true rfl) (Nat.zero_le _) (Nat.zero_le _) dX2_ordersOf_26 ?_
        refine lv_topi (fun v6 ev6 => ?_)
        have hw := hw v6 ev6
        refine lv_istore_n (lv' := [(2, .int v6), (0, .ref (q 1)), (1, .int z1), (3, .int y3)]) hx hb dX2_ordersOf_29 rfl hl (by decide) rfl (fun ls hl => ?_)
        obtain ⟨v7, ev7⟩ : ∃ z : Int32, z = y3 + (1 : Int32) := ⟨_, rfl⟩
        have hw := hw v7 ev7
        refine lv_iinc (v := v7) (lv' := [(3, .int v7), (2, .int v6), (0, .ref (q 1)), (1, .int z1)]) hx hb dX2_ordersOf_30 hl (k := 3) rfl (by rw [ev7]; rfl) (by decide) rfl (fun ls hl => ?_)
        refine lv_goto (tgt := 4) hx hb dX2_ordersOf_33 (by decide) ?_
        exact ih v6 v7 σ5 _ _ _ hw hk36 hP hS (lv_sub hl [2, 3, 1, 0] rfl)
  have hl := lv_entry ([.ref (q 1), .int x1]) (n := 4) (Nat.le_of_ble_eq_true rfl)
  rw [lg_entry_eq]
  generalize (lg_sl ([.ref (q 1), .int x1]) ++ List.replicate (4 - (lg_sl ([.ref (q 1), .int x1])).length) Slot.unset).toArray = ls at hl ⊢
  have hl : lv_has ls 4 [(0, .ref (q 1)), (1, .int x1)] := hl
  unfold wX2_ordersOf at hw
  refine lv_iconst (v := (1 : Int32)) hx hb dX2_ordersOf_0 (by decide) ?_
  refine lv_istore_n (lv' := [(2, .int (1 : Int32)), (0, .ref (q 1)), (1, .int x1)]) hx hb dX2_ordersOf_1 rfl hl (by decide) rfl (fun ls hl => ?_)
  refine lv_iconst (v := (0 : Int32)) hx hb dX2_ordersOf_2 (by decide) ?_
  refine lv_istore_n (lv' := [(3, .int (0 : Int32)), (2, .int (1 : Int32)), (0, .ref (q 1)), (1, .int x1)]) hx hb dX2_ordersOf_3 rfl hl (by decide) rfl (fun ls hl => ?_)
  obtain ⟨n8, hw⟩ := hw
  refine L4 _ x1 n8 (1 : Int32) (0 : Int32) σ _ _ _ hw ?_ hP hS (lv_sub hl [2, 3, 1, 0] rfl)
  intro v9 v10 σ11 H locs ls hw hP hS hl
  have hD : va_D (wdA 36 q) (xw c q σ11) := xw_D hD0
  refine lv_iload_n hx hb dX2_ordersOf_36 rfl (lv_at hl 2 rfl) ?_
  exact W.iret hx hb hr (fun t ht hW => ⟨⟨_, σ11, rfl, hw, by unfold wdB; rw [ht]; exact hP⟩, hS.F ht⟩) hS.2.2 dX2_ordersOf_37
def wX2_countWays_L7 (b0 : Nat) (b1 : Nat) (K63 : Int32 → hsS → Prop) (post : hsS → Prop) : Nat → Int32 → hsS → Prop
  | 0, _, _ => False
  | n + 1, y2, σ => (((σ.1 (64 * b1 + 1)) ≤ y2 → K63 y2 σ) ∧ (¬ (σ.1 (64 * b1 + 1)) ≤ y2 → vp_in y2 8 ∧ ∀ σ3 : hsS, σ3 = hsA σ (b0 + 3) (upd (σ.2.1 (b0 + 3)) y2.toNatClampNeg (σ.1 (64 * b0 + 5))) → wX2_ordersOf b1 y2 (fun r4 σ5 => vp_in y2 8 ∧ ∀ σ6 : hsS, σ6 = hsA σ5 (b0 + 2) (upd (σ5.2.1 (b0 + 2)) y2.toNatClampNeg r4) → vp_in y2 8 ∧ ∀ σ7 : hsS, σ7 = hsI σ6 (64 * b0 + 5) (if (241 : Int32) < ((σ6.1 (64 * b0 + 5)) * (σ6.2.1 (b0 + 2) y2.toNatClampNeg)) then (241 : Int32) else ((σ6.1 (64 * b0 + 5)) * (σ6.2.1 (b0 + 2) y2.toNatClampNeg))) → ∀ v8 : Int32, v8 = y2 + (1 : Int32) → wX2_countWays_L7 b0 b1 K63 post n v8 σ7) σ3))
def wX2_countWays (b0 : Nat) (b1 : Nat) (post : hsS → Prop) (σ : hsS) : Prop := ∀ σ1 : hsS, σ1 = hsI σ (64 * b0 + 5) (1 : Int32) → ∃ n9, wX2_countWays_L7 b0 b1 (fun v10 σ11 => post σ11) post n9 (0 : Int32) σ1
set_option maxHeartbeats 4000000 in
set_option maxRecDepth 100000 in
theorem kcX2_countWays_25_1 (l : Launch) (D : va_G) (c : Nat → ClassId) (q : Nat → Nat) (ev : State → Heap → Prop) (hev : evOK (wdA 36 q) ev) (tF : Nat) (hF : ∀ (U : State) (H : Heap), ev U H → va_Z "StrikeHall" "FACTORIALS" "[I" (.ref tF) (wdA 36 q) U H ∧ va_T .int tF 10 (fun j => .int (xfact j)) (wdA 36 q) U H) (σ : hsS)  (post : hsS → Prop) (hw : wX2_countWays 25 1 post σ) : Met l yX2_countWays (Cond.code yX2_countWays cX2_countWays 3 none :: tb_L) { frames := 3, cells := 0, slots := 0, locals := 83 } (wdPc D (xw c q) (xwT c) (wdA 36 q) ev σ [.ref (q 25), .ref (q 1)]) (va_Qv post (wdB D (xw c q)) (wdA 36 q)) 0 0 (wdA 36 q) := by
  refine Met.ofW (cc := cX2_countWays) (maxL := 3) (ret := none) (by decide) rfl ?_
  intro p e s m args below meth c₀ s₁ Bd hml hv
  obtain ⟨rfl, hP, hK, hD0, hE⟩ := hv
  have hx := Bd.exec
  have hb := Bd.bytes
  have hr := Bd.returns
  have hts := atoms_spec (ws := Cond.code yX2_countWays cX2_countWays 3 none :: tb_L) Bd.pre
  have htb : ∀ w ∈ tb_L, w.before [.ref (q 25), .ref (q 1)].toArray s = true := fun w h => hts w (List.mem_cons_of_mem _ h)
  have hown : s.vm.findClass RX2 = some m.cls := findClass_of_methodNamed Bd.named
  have hlocks := Bd.notSynchronized
  have hS : va_S (wdA 36 q) s.heap s.heap [] := va_S.rf
  have hD := hD0
  have L7 : ∀ (K63 : Int32 → hsS → Prop) (n : Nat) (y2 : Int32) (σ : hsS) (H : Heap) (locs : List Loc) (ls : Array Slot), wX2_countWays_L7 25 1 K63 post n y2 σ → (∀ (y2 : Int32) (σ : hsS) (H : Heap) (locs : List Loc) (ls : Array Slot), K63 y2 σ → va_P D vwCl (xw c q σ) H → va_S (wdA 36 q) s.heap H locs → lv_has ls 3 [(0, .ref (q 25)), (1, .ref (q 1)), (2, .int y2)] → W p l e (headSpec (Cond.code yX2_countWays cX2_countWays 3 none :: tb_L) { frames := 3, cells := 0, slots := 0, locals := 83 }).room s m [.ref (q 25), .ref (q 1)].toArray below meth c₀ H locs 0 0 (MQ below (va_Qv post (wdB D (xw c q)) (wdA 36 q)) [.ref (q 25), .ref (q 1)].toArray s 0 0 (wdA 36 q)) (F0 m 63 ls [])) → va_P D vwCl (xw c q σ) H → va_S (wdA 36 q) s.heap H locs → lv_has ls 3 [(0, .ref (q 25)), (1, .ref (q 1)), (2, .int y2)] → W p l e (headSpec (Cond.code yX2_countWays cX2_countWays 3 none :: tb_L) { frames := 3, cells := 0, slots := 0, locals := 83 }).room s m [.ref (q 25), .ref (q 1)].toArray below meth c₀ H locs 0 0 (MQ below (va_Qv post (wdB D (xw c q)) (wdA 36 q)) [.ref (q 25), .ref (q 1)].toArray s 0 0 (wdA 36 q)) (F0 m 7 ls []) := by
    intro K63 n
    induction n with
    | zero =>
      intro y2 σ H locs ls hw hk63 hP hS hl
      exact (show False from hw).elim
    | succ n ih =>
      intro y2 σ H locs ls hw hk63 hP hS hl
      rw [wX2_countWays_L7] at hw
      have hD : va_D (wdA 36 q) (xw c q σ) := xw_D hD0
      refine lv_iload_n hx hb dX2_countWays_7 rfl (lv_at hl 2 rfl) ?_
      refine lv_aload_n hx hb dX2_countWays_8 rfl (lv_at hl 1 rfl) ?_
      refine va_getN (D := D) (ci := 1) (C := RX1) (T := TX1) (N := 12) hx hb htb inX1 hown hK hP 1 (xw_1 c q σ) rfl 1 (by decide) (htb _ tb_134) (fun _ h9 => h9) rfl dX2_countWays_9 ?_
      refine lv_icmp_ge (tgt := 63) hx hb dX2_countWays_12 (by decide) (fun c2 => ?_) (fun c2 => ?_)
      · have hw := hw.1 c2
        exact hk63 y2 σ _ _ _ hw hP hS (lv_sub hl [0, 1, 2] rfl)
      · have hw := hw.2 c2
        refine lv_aload_n hx hb dX2_countWays_15 rfl (lv_at hl 0 rfl) ?_
        refine va_get (D := D) (ci := 2) (C := RX2) (T := TX2) (N := 8) hx hb htb inX2 hown hK hP 25 (xw_25 c q σ) rfl 2 (by decide) (htb _ tb_287) (fun _ h9 => h9) rfl dX2_countWays_16 ?_
        refine lv_iload_n hx hb dX2_countWays_19 rfl (lv_at hl 2 rfl) ?_
        refine lv_aload_n hx hb dX2_countWays_20 rfl (lv_at hl 0 rfl) ?_
        refine va_get (D := D) (ci := 2) (C := RX2) (T := TX2) (N := 8) hx hb htb inX2 hown hK hP 25 (xw_25 c q σ) rfl 5 (by decide) (htb _ tb_290) (fun _ h9 => h9) rfl dX2_countWays_21 ?_
        refine va_iast hx hb hK hP hD hS 28 19 (xw_28 c q σ) rfl hw.1 dX2_countWays_24 (fun H locs hP hD hS => ?_)
        have hw := hw.2
        have hP : va_P D vwCl (xw c q (hsA σ 28 (upd (σ.2.1 28) y2.toNatClampNeg (σ.1 1605)))) H := hP
        obtain ⟨σ3, eσ3⟩ : ∃ z : hsS, z = hsA σ 28 (upd (σ.2.1 28) y2.toNatClampNeg (σ.1 1605)) := ⟨_, rfl⟩
        rw [← eσ3] at hP
        have hD : va_D (wdA 36 q) (xw c q σ3) := xw_D hD0
        have hw := hw σ3 eσ3
        refine lv_aload_n hx hb dX2_countWays_25 rfl (lv_at hl 0 rfl) ?_
        refine va_get (D := D) (ci := 2) (C := RX2) (T := TX2) (N := 8) hx hb htb inX2 hown hK hP 25 (xw_25 c q σ3) rfl 1 (by decide) (htb _ tb_286) (fun _ h9 => h9) rfl dX2_countWays_26 ?_
        refine lv_iload_n hx hb dX2_countWays_29 rfl (lv_at hl 2 rfl) ?_
        refine lv_aload_n hx hb dX2_countWays_30 rfl (lv_at hl 1 rfl) ?_
        refine lv_iload_n hx hb dX2_countWays_31 rfl (lv_at hl 2 rfl) ?_
        refine va_calli (va_runS (As := [.ref (q 1), .int y2]) (rest := [.int y2, .ref (q 27)]) ⟨hx, hb, hml, hown, htb⟩ (kcX2_ordersOf_1 l D c q ev hev tF hF σ3 y2 _ hw) (tb_CS htb kX2_ordersOf tb_550 tb_551 ⟨Nat.le_of_ble_eq_true rfl, Nat.le_of_ble_eq_true rfl⟩) (wd_preS (wd := xw c q) hev hK hP hD hE hS) rfl rfl hl.1 rfl (lv_room (Nat.le_of_ble_eq_true rfl)) dX2_countWays_32 ⟨Nat.zero_le _, Nat.zero_le _⟩) hS (fun q _ h => h) (fun q h => h) (fun r4 σ5 t H1 locs1 ht hvm hw hB hz1 hk1 hS => ?_)
        have hP : va_P D vwCl (xw c q σ5) H1 := ht ▸ hB
        have hD : va_D (wdA 36 q) (xw c q σ5) := xw_D hD0
        refine va_iast hx hb hK hP hD hS 27 18 (xw_27 c q σ5) rfl hw.1 dX2_countWays_35 (fun H locs hP hD hS => ?_)
        have hw := hw.2
        have hP : va_P D vwCl (xw c q (hsA σ5 27 (upd (σ5.2.1 27) y2.toNatClampNeg r4))) H := hP
        obtain ⟨σ6, eσ6⟩ : ∃ z : hsS, z = hsA σ5 27 (upd (σ5.2.1 27) y2.toNatClampNeg r4) := ⟨_, rfl⟩
        rw [← eσ6] at hP
        have hD : va_D (wdA 36 q) (xw c q σ6) := xw_D hD0
        have hw := hw σ6 eσ6
        refine lv_aload_n hx hb dX2_countWays_36 rfl (lv_at hl 0 rfl) ?_
        refine lv_aload_n hx hb dX2_countWays_37 rfl (lv_at hl 0 rfl) ?_
        refine va_get (D := D) (ci := 2) (C := RX2) (T := TX2) (N := 8) hx hb htb inX2 hown hK hP 25 (xw_25 c q σ6) rfl 5 (by decide) (htb _ tb_290) (fun _ h9 => h9) rfl dX2_countWays_38 ?_
        refine lv_aload_n hx hb dX2_countWays_41 rfl (lv_at hl 0 rfl) ?_
        refine va_get (D := D) (ci := 2) (C := RX2) (T := TX2) (N := 8) hx hb htb inX2 hown hK hP 25 (xw_25 c q σ6) rfl 1 (by decide) (htb _ tb_286) (fun _ h9 => h9) rfl dX2_countWays_42 ?_
        refine lv_iload_n hx hb dX2_countWays_45 rfl (lv_at hl 2 rfl) ?_
        refine va_iald hx hb hK hP 27 18 (xw_27 c q σ6) rfl hw.1 dX2_countWays_46 ?_
        have hw := hw.2
        refine lv_imul hx hb dX2_countWays_47 ?_
        refine lv_sipush (v := (241 : Int32)) hx hb dX2_countWays_48 (by decide) ?_
        refine va_mmin hx hb (hml.trans hl.1.symm) hown (htb _ tb_563) (htb _ tb_413) (htb _ tb_104) (htb _ tb_414) (Nat.le_of_ble_eq_true rfl) (Nat.le_of_ble_eq_true rfl) (Nat.zero_le _) (Nat.zero_le _) dX2_countWays_51 ?_
        refine va_put (D := D) (ci := 2) (ty := .int) (C := RX2) (T := TX2) (N := 8) hx hb htb inX2 tyX2 tyX2_ok nmX2 hown hK hP hD hS 25 (xw_25 c q σ6) rfl 5 (by decide) (htb _ tb_290) (fun _ h9 => h9) rfl (by decide +kernel) rfl rfl (Nat.le_of_ble_eq_true rfl) dX2_countWays_54 (fun H locs hP hD hS => ?_)
        have hP : va_P D vwCl (xw c q (hsI σ6 1605 (if (241 : Int32) < ((σ6.1 1605) * (σ6.2.1 27 y2.toNatClampNeg)) then (241 : Int32) else ((σ6.1 1605) * (σ6.2.1 27 y2.toNatClampNeg))))) H := hP
        obtain ⟨σ7, eσ7⟩ : ∃ z : hsS, z = hsI σ6 1605 (if (241 : Int32) < ((σ6.1 1605) * (σ6.2.1 27 y2.toNatClampNeg)) then (241 : Int32) else ((σ6.1 1605) * (σ6.2.1 27 y2.toNatClampNeg))) := ⟨_, rfl⟩
        rw [← eσ7] at hP
        have hD : va_D (wdA 36 q) (xw c q σ7) := xw_D hD0
        have hw := hw σ7 eσ7
        obtain ⟨v8, ev8⟩ : ∃ z : Int32, z = y2 + (1 : Int32) := ⟨_, rfl⟩
        have hw := hw v8 ev8
        refine lv_iinc (v := v8) (lv' := [(2, .int v8), (0, .ref (q 25)), (1, .ref (q 1))]) hx hb dX2_countWays_57 hl (k := 2) rfl (by rw [ev8]; rfl) (by decide) rfl (fun ls hl => ?_)
        refine lv_goto (tgt := 7) hx hb dX2_countWays_60 (by decide) ?_
        exact ih v8 σ7 _ _ _ hw hk63 hP hS (lv_sub hl [1, 2, 0] rfl)
  have hl := lv_entry ([.ref (q 25), .ref (q 1)]) (n := 3) (Nat.le_of_ble_eq_true rfl)
  rw [lg_entry_eq]
  generalize (lg_sl ([.ref (q 25), .ref (q 1)]) ++ List.replicate (3 - (lg_sl ([.ref (q 25), .ref (q 1)])).length) Slot.unset).toArray = ls at hl ⊢
  have hl : lv_has ls 3 [(0, .ref (q 25)), (1, .ref (q 1))] := hl
  unfold wX2_countWays at hw
  refine lv_aload_n hx hb dX2_countWays_0 rfl (lv_at hl 0 rfl) ?_
  refine lv_iconst (v := (1 : Int32)) hx hb dX2_countWays_1 (by decide) ?_
  refine va_put (D := D) (ci := 2) (ty := .int) (C := RX2) (T := TX2) (N := 8) hx hb htb inX2 tyX2 tyX2_ok nmX2 hown hK hP hD hS 25 (xw_25 c q σ) rfl 5 (by decide) (htb _ tb_290) (fun _ h9 => h9) rfl (by decide +kernel) rfl rfl (Nat.le_of_ble_eq_true rfl) dX2_countWays_2 (fun H locs hP hD hS => ?_)
  have hP : va_P D vwCl (xw c q (hsI σ 1605 (1 : Int32))) H := hP
  obtain ⟨σ1, eσ1⟩ : ∃ z : hsS, z = hsI σ 1605 (1 : Int32) := ⟨_, rfl⟩
  rw [← eσ1] at hP
  have hD : va_D (wdA 36 q) (xw c q σ1) := xw_D hD0
  have hw := hw σ1 eσ1
  refine lv_iconst (v := (0 : Int32)) hx hb dX2_countWays_5 (by decide) ?_
  refine lv_istore_n (lv' := [(2, .int (0 : Int32)), (0, .ref (q 25)), (1, .ref (q 1))]) hx hb dX2_countWays_6 rfl hl (by decide) rfl (fun ls hl => ?_)
  obtain ⟨n9, hw⟩ := hw
  refine L7 _ n9 (0 : Int32) σ1 _ _ _ hw ?_ hP hS (lv_sub hl [1, 2, 0] rfl)
  intro v10 σ11 H locs ls hw hP hS hl
  have hD : va_D (wdA 36 q) (xw c q σ11) := xw_D hD0
  exact W.vret hx hb hr (fun t ht hW => ⟨⟨σ11, rfl, hw, by unfold wdB; rw [ht]; exact hP⟩, hS.F ht⟩) hS.2.2 dX2_countWays_63
def wX2_spent (b0 : Nat) (post : Int32 → hsS → Prop) (σ : hsS) : Prop := (((σ.1 (64 * b0 + 5)) ≤ (240 : Int32) → post (0 : Int32) σ) ∧ (¬ (σ.1 (64 * b0 + 5)) ≤ (240 : Int32) → post (1 : Int32) σ))
set_option maxHeartbeats 4000000 in
set_option maxRecDepth 100000 in
theorem kcX2_spent_25 (l : Launch) (D : va_G) (c : Nat → ClassId) (q : Nat → Nat) (ev : State → Heap → Prop) (hev : evOK (wdA 36 q) ev) (σ : hsS)  (post : Int32 → hsS → Prop) (hw : wX2_spent 25 post σ) : Met l yX2_spent (Cond.code yX2_spent cX2_spent 1 (some .boolean) :: tb_L) { frames := 0, cells := 0, slots := 0, locals := 0 } (wdPc D (xw c q) (xwT c) (wdA 36 q) ev σ [.ref (q 25)]) (va_Qi post (wdB D (xw c q)) (wdA 36 q)) 0 0 (wdA 36 q) := by
  refine Met.ofW (cc := cX2_spent) (maxL := 1) (ret := (some .boolean)) (by decide) rfl ?_
  intro p e s m args below meth c₀ s₁ Bd hml hv
  obtain ⟨rfl, hP, hK, hD0, hE⟩ := hv
  have hx := Bd.exec
  have hb := Bd.bytes
  have hr := Bd.returns
  have hts := atoms_spec (ws := Cond.code yX2_spent cX2_spent 1 (some .boolean) :: tb_L) Bd.pre
  have htb : ∀ w ∈ tb_L, w.before [.ref (q 25)].toArray s = true := fun w h => hts w (List.mem_cons_of_mem _ h)
  have hown : s.vm.findClass RX2 = some m.cls := findClass_of_methodNamed Bd.named
  have hlocks := Bd.notSynchronized
  have hS : va_S (wdA 36 q) s.heap s.heap [] := va_S.rf
  have hD := hD0
  have hl := lv_entry ([.ref (q 25)]) (n := 1) (Nat.le_of_ble_eq_true rfl)
  rw [lg_entry_eq]
  generalize (lg_sl ([.ref (q 25)]) ++ List.replicate (1 - (lg_sl ([.ref (q 25)])).length) Slot.unset).toArray = ls at hl ⊢
  have hl : lv_has ls 1 [(0, .ref (q 25))] := hl
  unfold wX2_spent at hw
  refine lv_aload_n hx hb dX2_spent_0 rfl (lv_at hl 0 rfl) ?_
  refine va_get (D := D) (ci := 2) (C := RX2) (T := TX2) (N := 8) hx hb htb inX2 hown hK hP 25 (xw_25 c q σ) rfl 5 (by decide) (htb _ tb_290) (fun _ h9 => h9) rfl dX2_spent_1 ?_
  refine lv_sipush (v := (240 : Int32)) hx hb dX2_spent_4 (by decide) ?_
  refine lv_icmp_le (tgt := 14) hx hb dX2_spent_7 (by decide) (fun c1 => ?_) (fun c1 => ?_)
  · have hw := hw.1 c1
    refine lv_iconst (v := (0 : Int32)) hx hb dX2_spent_14 (by decide) ?_
    exact W.zret hx hb hr rfl (fun t ht hW => ⟨⟨_, σ, rfl, hw, by unfold wdB; rw [ht]; exact hP⟩, hS.F ht⟩) hS.2.2 dX2_spent_15
  · have hw := hw.2 c1
    refine lv_iconst (v := (1 : Int32)) hx hb dX2_spent_10 (by decide) ?_
    refine lv_goto (tgt := 15) hx hb dX2_spent_11 (by decide) ?_
    exact W.zret hx hb hr rfl (fun t ht hW => ⟨⟨_, σ, rfl, hw, by unfold wdB; rw [ht]; exact hP⟩, hS.F ht⟩) hS.2.2 dX2_spent_15
def wX2_orderIn (b0 : Nat) (x1 : Int32) (x2 : Int32) (post : Int32 → hsS → Prop) (σ : hsS) : Prop := vp_in x2 8 ∧ ¬ (if (1 : Int32) < (σ.2.1 (b0 + 3) x2.toNatClampNeg) then (σ.2.1 (b0 + 3) x2.toNatClampNeg) else (1 : Int32)) = 0 ∧ vp_in x2 8 ∧ ¬ (if (1 : Int32) < (σ.2.1 (b0 + 2) x2.toNatClampNeg) then (σ.2.1 (b0 + 2) x2.toNatClampNeg) else (1 : Int32)) = 0 ∧ post ((x1 / (if (1 : Int32) < (σ.2.1 (b0 + 3) x2.toNatClampNeg) then (σ.2.1 (b0 + 3) x2.toNatClampNeg) else (1 : Int32))) - (x1 / (if (1 : Int32) < (σ.2.1 (b0 + 3) x2.toNatClampNeg) then (σ.2.1 (b0 + 3) x2.toNatClampNeg) else (1 : Int32))) / (if (1 : Int32) < (σ.2.1 (b0 + 2) x2.toNatClampNeg) then (σ.2.1 (b0 + 2) x2.toNatClampNeg) else (1 : Int32)) * (if (1 : Int32) < (σ.2.1 (b0 + 2) x2.toNatClampNeg) then (σ.2.1 (b0 + 2) x2.toNatClampNeg) else (1 : Int32))) σ
set_option maxHeartbeats 4000000 in
set_option maxRecDepth 100000 in
theorem kcX2_orderIn_25 (l : Launch) (D : va_G) (c : Nat → ClassId) (q : Nat → Nat) (ev : State → Heap → Prop) (hev : evOK (wdA 36 q) ev) (σ : hsS) (x1 : Int32) (x2 : Int32) (post : Int32 → hsS → Prop) (hw : wX2_orderIn 25 x1 x2 post σ) : Met l yX2_orderIn (Cond.code yX2_orderIn cX2_orderIn 3 (some .int) :: tb_L) { frames := 1, cells := 0, slots := 0, locals := 40 } (wdPc D (xw c q) (xwT c) (wdA 36 q) ev σ [.ref (q 25), .int x1, .int x2]) (va_Qi post (wdB D (xw c q)) (wdA 36 q)) 0 0 (wdA 36 q) := by
  refine Met.ofW (cc := cX2_orderIn) (maxL := 3) (ret := (some .int)) (by decide) rfl ?_
  intro p e s m args below meth c₀ s₁ Bd hml hv
  obtain ⟨rfl, hP, hK, hD0, hE⟩ := hv
  have hx := Bd.exec
  have hb := Bd.bytes
  have hr := Bd.returns
  have hts := atoms_spec (ws := Cond.code yX2_orderIn cX2_orderIn 3 (some .int) :: tb_L) Bd.pre
  have htb : ∀ w ∈ tb_L, w.before [.ref (q 25), .int x1, .int x2].toArray s = true := fun w h => hts w (List.mem_cons_of_mem _ h)
  have hown : s.vm.findClass RX2 = some m.cls := findClass_of_methodNamed Bd.named
  have hlocks := Bd.notSynchronized
  have hS : va_S (wdA 36 q) s.heap s.heap [] := va_S.rf
  have hD := hD0
  have hl := lv_entry ([.ref (q 25), .int x1, .int x2]) (n := 3) (Nat.le_of_ble_eq_true rfl)
  rw [lg_entry_eq]
  generalize (lg_sl ([.ref (q 25), .int x1, .int x2]) ++ List.replicate (3 - (lg_sl ([.ref (q 25), .int x1, .int x2])).length) Slot.unset).toArray = ls at hl ⊢
  have hl : lv_has ls 3 [(0, .ref (q 25)), (1, .int x1), (2, .int x2)] := hl
  unfold wX2_orderIn at hw
  refine lv_iload_n hx hb dX2_orderIn_0 rfl (lv_at hl 1 rfl) ?_
  refine lv_iconst (v := (1 : Int32)) hx hb dX2_orderIn_1 (by decide) ?_
  refine lv_aload_n hx hb dX2_orderIn_2 rfl (lv_at hl 0 rfl) ?_
  refine va_get (D := D) (ci := 2) (C := RX2) (T := TX2) (N := 8) hx hb htb inX2 hown hK hP 25 (xw_25 c q σ) rfl 2 (by decide) (htb _ tb_287) (fun _ h9 => h9) rfl dX2_orderIn_3 ?_
  refine lv_iload_n hx hb dX2_orderIn_6 rfl (lv_at hl 2 rfl) ?_
  refine va_iald hx hb hK hP 28 19 (xw_28 c q σ) rfl hw.1 dX2_orderIn_7 ?_
  have hw := hw.2
  refine va_mmax hx hb (hml.trans hl.1.symm) hown (htb _ tb_581) (htb _ tb_495) (htb _ tb_104) (htb _ tb_496) (Nat.le_of_ble_eq_true rfl) (Nat.le_of_ble_eq_true rfl) (Nat.zero_le _) (Nat.zero_le _) dX2_orderIn_8 ?_
  refine lv_idiv hx hb dX2_orderIn_11 hw.1 ?_
  have hw := hw.2
  refine lv_iconst (v := (1 : Int32)) hx hb dX2_orderIn_12 (by decide) ?_
  refine lv_aload_n hx hb dX2_orderIn_13 rfl (lv_at hl 0 rfl) ?_
  refine va_get (D := D) (ci := 2) (C := RX2) (T := TX2) (N := 8) hx hb htb inX2 hown hK hP 25 (xw_25 c q σ) rfl 1 (by decide) (htb _ tb_286) (fun _ h9 => h9) rfl dX2_orderIn_14 ?_
  refine lv_iload_n hx hb dX2_orderIn_17 rfl (lv_at hl 2 rfl) ?_
  refine va_iald hx hb hK hP 27 18 (xw_27 c q σ) rfl hw.1 dX2_orderIn_18 ?_
  have hw := hw.2
  refine va_mmax hx hb (hml.trans hl.1.symm) hown (htb _ tb_581) (htb _ tb_495) (htb _ tb_104) (htb _ tb_496) (Nat.le_of_ble_eq_true rfl) (Nat.le_of_ble_eq_true rfl) (Nat.zero_le _) (Nat.zero_le _) dX2_orderIn_19 ?_
  refine lv_irem hx hb dX2_orderIn_22 hw.1 ?_
  have hw := hw.2
  exact W.iret hx hb hr (fun t ht hW => ⟨⟨_, σ, rfl, hw, by unfold wdB; rw [ht]; exact hP⟩, hS.F ht⟩) hS.2.2 dX2_orderIn_23
set_option maxHeartbeats 4000000 in
set_option maxRecDepth 100000 in
theorem kcX7_nthOrder_29 (l : Launch) (D : va_G) (c : Nat → ClassId) (q : Nat → Nat) (ev : State → Heap → Prop) (hev : evOK (wdA 36 q) ev) (tF : Nat) (hF : ∀ (U : State) (H : Heap), ev U H → va_Z "StrikeHall" "FACTORIALS" "[I" (.ref tF) (wdA 36 q) U H ∧ va_T .int tF 10 (fun j => .int (xfact j)) (wdA 36 q) U H) (σ : hsS) (x0 : Int32) (x1 : Int32) (post : hsS → Prop) (hw : wX7_nthOrder x0 x1 29 post σ) : Met l yX7_nthOrder (Cond.code yX7_nthOrder cX7_nthOrder 8 none :: tb_L) { frames := 2, cells := 0, slots := 0, locals := 60 } (wdPc D (xw c q) (xwT c) (wdA 36 q) ev σ [.int x0, .int x1, .ref (q 29)]) (va_Qv post (wdB D (xw c q)) (wdA 36 q)) 0 0 (wdA 36 q) := by
  refine Met.ofW (cc := cX7_nthOrder) (maxL := 8) (ret := none) (by decide) rfl ?_
  intro p e s m args below meth c₀ s₁ Bd hml hv
  obtain ⟨rfl, hP, hK, hD0, hE⟩ := hv
  have hx := Bd.exec
  have hb := Bd.bytes
  have hr := Bd.returns
  have hts := atoms_spec (ws := Cond.code yX7_nthOrder cX7_nthOrder 8 none :: tb_L) Bd.pre
  have htb : ∀ w ∈ tb_L, w.before [.int x0, .int x1, .ref (q 29)].toArray s = true := fun w h => hts w (List.mem_cons_of_mem _ h)
  have hown : s.vm.findClass RX7 = some m.cls := findClass_of_methodNamed Bd.named
  have hlocks := Bd.notSynchronized
  have hS : va_S (wdA 36 q) s.heap s.heap [] := va_S.rf
  have hD := hD0
  have L8 : ∀ (K70 : Int32 → Int32 → Int32 → hsS → Prop) (z0 : Int32) (z1 : Int32) (n : Nat) (y3 : Int32) (y4 : Int32) (y5 : Int32) (σ : hsS) (H : Heap) (locs : List Loc) (ls : Array Slot), wX7_nthOrder_L8 29 z0 z1 K70 post n y3 y4 y5 σ → (∀ (y3 : Int32) (y4 : Int32) (y5 : Int32) (σ : hsS) (H : Heap) (locs : List Loc) (ls : Array Slot), K70 y3 y4 y5 σ → va_P D vwCl (xw c q σ) H → va_S (wdA 36 q) s.heap H locs → lv_has ls 8 [(0, .int z0), (1, .int z1), (2, .ref (q 29)), (3, .int y3), (4, .int y4), (5, .int y5)] → W p l e (headSpec (Cond.code yX7_nthOrder cX7_nthOrder 8 none :: tb_L) { frames := 2, cells := 0, slots := 0, locals := 60 }).room s m [.int x0, .int x1, .ref (q 29)].toArray below meth c₀ H locs 0 0 (MQ below (va_Qv post (wdB D (xw c q)) (wdA 36 q)) [.int x0, .int x1, .ref (q 29)].toArray s 0 0 (wdA 36 q)) (F0 m 70 ls [])) → va_P D vwCl (xw c q σ) H → va_S (wdA 36 q) s.heap H locs → lv_has ls 8 [(0, .int z0), (1, .int z1), (2, .ref (q 29)), (3, .int y3), (4, .int y4), (5, .int y5)] → W p l e (headSpec (Cond.code yX7_nthOrder cX7_nthOrder 8 none :: tb_L) { frames := 2, cells := 0, slots := 0, locals := 60 }).room s m [.int x0, .int x1, .ref (q 29)].toArray below meth c₀ H locs 0 0 (MQ below (va_Qv post (wdB D (xw c q)) (wdA 36 q)) [.int x0, .int x1, .ref (q 29)].toArray s 0 0 (wdA 36 q)) (F0 m 8 ls []) := by
    intro K70 z0 z1 n
    induction n with
    | zero =>
      intro y3 y4 y5 σ H locs ls hw hk70 hP hS hl
      exact (show False from hw).elim
    | succ n ih =>
      intro y3 y4 y5 σ H locs ls hw hk70 hP hS hl
      rw [wX7_nthOrder_L8] at hw
      have hD : va_D (wdA 36 q) (xw c q σ) := xw_D hD0
      refine lv_iload hx hb dX7_nthOrder_8 (lv_at hl 5 rfl) ?_
      refine lv_iload_n hx hb dX7_nthOrder_10 rfl (lv_at hl 1 rfl) ?_
      refine lv_icmp_ge (tgt := 70) hx hb dX7_nthOrder_11 (by decide) (fun c1 => ?_) (fun c1 => ?_)
      · have hw := hw.1 c1
        exact hk70 y3 y4 y5 σ _ _ _ hw hP hS (lv_sub hl [0, 1, 2, 3, 4, 5] rfl)
      · have hw := hw.2 c1
        refine lv_iload hx hb dX7_nthOrder_14 (lv_at hl 5 rfl) ?_
        refine lv_aload_n hx hb dX7_nthOrder_16 rfl (lv_at hl 2 rfl) ?_
        refine va_alen (v := 9) (ty := .int) hx hb hK hP 29 20 (xw_29 c q σ) rfl rfl dX7_nthOrder_17 ?_
        refine lv_icmp_ge (tgt := 70) hx hb dX7_nthOrder_18 (by decide) (fun c2 => ?_) (fun c2 => ?_)
        · have hw := hw.1 c2
          exact hk70 y3 y4 y5 σ _ _ _ hw hP hS (lv_sub hl [0, 1, 2, 3, 4, 5] rfl)
        · have hw := hw.2 c2
          refine lv_iload_n hx hb dX7_nthOrder_21 rfl (lv_at hl 1 rfl) ?_
          refine lv_iconst (v := (1 : Int32)) hx hb dX7_nthOrder_22 (by decide) ?_
          refine lv_isub hx hb dX7_nthOrder_23 ?_
          refine lv_iload hx hb dX7_nthOrder_24 (lv_at hl 5 rfl) ?_
          refine lv_isub hx hb dX7_nthOrder_26 ?_
          refine va_calli (va_runS (As := [.int ((z1 - (1 : Int32)) - y5)]) (rest := []) ⟨hx, hb, hml, hown, htb⟩ (kcX7_factorial_x l D c q ev hev tF hF σ ((z1 - (1 : Int32)) - y5) _ hw) (tb_CS htb kX7_factorial tb_589 tb_558 ⟨Nat.le_of_ble_eq_true rfl, Nat.le_of_ble_eq_true rfl⟩) (wd_preS (wd := xw c q) hev hK hP hD hE hS) rfl rfl hl.1 rfl (lv_room (Nat.le_of_ble_eq_true rfl)) dX7_nthOrder_27 ⟨Nat.zero_le _, Nat.zero_le _⟩) hS (fun q _ h => h) (fun q h => h) (fun r3 σ4 t H1 locs1 ht hvm hw hB hz1 hk1 hS => ?_)
          have hP : va_P D vwCl (xw c q σ4) H1 := ht ▸ hB
          have hD : va_D (wdA 36 q) (xw c q σ4) := xw_D hD0
          refine lv_istore (lv' := [(6, .int r3), (0, .int z0), (1, .int z1), (2, .ref (q 29)), (3, .int y3), (4, .int y4), (5, .int y5)]) hx hb dX7_nthOrder_30 hl (by decide) rfl (fun ls hl => ?_)
          refine lv_iload_n hx hb dX7_nthOrder_32 rfl (lv_at hl 4 rfl) ?_
          refine lv_iload hx hb dX7_nthOrder_33 (lv_at hl 5 rfl) ?_
          refine lv_iload hx hb dX7_nthOrder_35 (lv_at hl 0 rfl) ?_
          refine lv_idiv hx hb dX7_nthOrder_37 hw.1 ?_
          have hw := hw.2
          refine lv_iload_n hx hb dX7_nthOrder_38 rfl (lv_at hl 2 rfl) ?_
          refine va_calli (va_runS (As := [.int y3, .int (y4 / r3), .int z1]) (rest := []) ⟨hx, hb, hml, hown, htb⟩ (kcX7_nthUnused_x l D c q ev hev σ4 y3 (y4 / r3) z1 _ hw) (tb_CS htb kX7_nthUnused tb_590 tb_591 ⟨Nat.le_of_ble_eq_true rfl, Nat.le_of_ble_eq_true rfl⟩) (wd_preS (wd := xw c q) hev hK hP hD hE hS) rfl rfl hl.1 rfl (lv_room (Nat.le_of_ble_eq_true rfl)) dX7_nthOrder_39 ⟨Nat.zero_le _, Nat.zero_le _⟩) hS (fun q _ h => h) (fun q h => h) (fun r5 σ6 t H1 locs1 ht hvm hw hB hz1 hk1 hS => ?_)
          have hP : va_P D vwCl (xw c q σ6) H1 := ht ▸ hB
          have hD : va_D (wdA 36 q) (xw c q σ6) := xw_D hD0
          refine lv_istore (lv' := [(7, .int r5), (6, .int r3), (0, .int z0), (1, .int z1), (2, .ref (q 29)), (3, .int y3), (4, .int y4), (5, .int y5)]) hx hb dX7_nthOrder_42 hl (by decide) rfl (fun ls hl => ?_)
          refine lv_aload_n hx hb dX7_nthOrder_44 rfl (lv_at hl 4 rfl) ?_
          refine lv_iload hx hb dX7_nthOrder_45 (lv_at hl 7 rfl) ?_
          refine lv_iload hx hb dX7_nthOrder_47 (lv_at hl 0 rfl) ?_
          refine va_iast hx hb hK hP hD hS 29 20 (xw_29 c q σ6) rfl hw.1 dX7_nthOrder_49 (fun H locs hP hD hS => ?_)
          have hw := hw.2
          have hP : va_P D vwCl (xw c q (hsA σ6 29 (upd (σ6.2.1 29) y5.toNatClampNeg r5))) H := hP
          obtain ⟨σ7, eσ7⟩ : ∃ z : hsS, z = hsA σ6 29 (upd (σ6.2.1 29) y5.toNatClampNeg r5) := ⟨_, rfl⟩
          rw [← eσ7] at hP
          have hD : va_D (wdA 36 q) (xw c q σ7) := xw_D hD0
          have hw := hw σ7 eσ7
          refine lv_iload_n hx hb dX7_nthOrder_50 rfl (lv_at hl 5 rfl) ?_
          refine lv_iconst (v := (1 : Int32)) hx hb dX7_nthOrder_51 (by decide) ?_
          refine lv_iload hx hb dX7_nthOrder_52 (lv_at hl 0 rfl) ?_
          refine lv_ishl hx hb dX7_nthOrder_54 ?_
          refine lv_ior hx hb dX7_nthOrder_55 ?_
          refine lv_topi (fun v8 ev8 => ?_)
          have hw := hw v8 ev8
          refine lv_istore_n (lv' := [(3, .int v8), (7, .int r5), (6, .int r3), (0, .int z0), (1, .int z1), (2, .ref (q 29)), (4, .int y4), (5, .int y5)]) hx hb dX7_nthOrder_56 rfl hl (by decide) rfl (fun ls hl => ?_)
          refine lv_iload hx hb dX7_nthOrder_57 (lv_at hl 6 rfl) ?_
          refine lv_iload hx hb dX7_nthOrder_59 (lv_at hl 2 rfl) ?_
          refine lv_irem hx hb dX7_nthOrder_61 hw.1 ?_
          have hw := hw.2
          refine lv_topi (fun v9 ev9 => ?_)
          have hw := hw v9 ev9
          refine lv_istore (lv' := [(4, .int v9), (3, .int v8), (7, .int r5), (6, .int r3), (0, .int z0), (1, .int z1), (2, .ref (q 29)), (5, .int y5)]) hx hb dX7_nthOrder_62 hl (by decide) rfl (fun ls hl => ?_)
          obtain ⟨v10, ev10⟩ : ∃ z : Int32, z = y5 + (1 : Int32) := ⟨_, rfl⟩
          have hw := hw v10 ev10
          refine lv_iinc (v := v10) (lv' := [(5, .int v10), (4, .int v9), (3, .int v8), (7, .int r5), (6, .int r3), (0, .int z0), (1, .int z1), (2, .ref (q 29))]) hx hb dX7_nthOrder_64 hl (k := 7) rfl (by rw [ev10]; rfl) (by decide) rfl (fun ls hl => ?_)
          refine lv_goto (tgt := 8) hx hb dX7_nthOrder_67 (by decide) ?_
          exact ih v8 v9 v10 σ7 _ _ _ hw hk70 hP hS (lv_sub hl [5, 6, 7, 2, 1, 0] rfl)
  have hl := lv_entry ([.int x0, .int x1, .ref (q 29)]) (n := 8) (Nat.le_of_ble_eq_true rfl)
  rw [lg_entry_eq]
  generalize (lg_sl ([.int x0, .int x1, .ref (q 29)]) ++ List.replicate (8 - (lg_sl ([.int x0, .int x1, .ref (q 29)])).length) Slot.unset).toArray = ls at hl ⊢
  have hl : lv_has ls 8 [(0, .int x0), (1, .int x1), (2, .ref (q 29))] := hl
  unfold wX7_nthOrder at hw
  refine lv_iconst (v := (0 : Int32)) hx hb dX7_nthOrder_0 (by decide) ?_
  refine lv_istore_n (lv' := [(3, .int (0 : Int32)), (0, .int x0), (1, .int x1), (2, .ref (q 29))]) hx hb dX7_nthOrder_1 rfl hl (by decide) rfl (fun ls hl => ?_)
  refine lv_iload_n hx hb dX7_nthOrder_2 rfl (lv_at hl 1 rfl) ?_
  refine lv_istore (lv' := [(4, .int x0), (3, .int (0 : Int32)), (0, .int x0), (1, .int x1), (2, .ref (q 29))]) hx hb dX7_nthOrder_3 hl (by decide) rfl (fun ls hl => ?_)
  refine lv_iconst (v := (0 : Int32)) hx hb dX7_nthOrder_5 (by decide) ?_
  refine lv_istore (lv' := [(5, .int (0 : Int32)), (4, .int x0), (3, .int (0 : Int32)), (0, .int x0), (1, .int x1), (2, .ref (q 29))]) hx hb dX7_nthOrder_6 hl (by decide) rfl (fun ls hl => ?_)
  obtain ⟨n11, hw⟩ := hw
  refine L8 _ x0 x1 n11 (0 : Int32) x0 (0 : Int32) σ _ _ _ hw ?_ hP hS (lv_sub hl [3, 4, 5, 2, 1, 0] rfl)
  intro v12 v13 v14 σ15 H locs ls hw hP hS hl
  have hD : va_D (wdA 36 q) (xw c q σ15) := xw_D hD0
  exact W.vret hx hb hr (fun t ht hW => ⟨⟨σ15, rfl, hw, by unfold wdB; rw [ht]; exact hP⟩, hS.F ht⟩) hS.2.2 dX7_nthOrder_70
def wX2_putRanks_L6 (b0 : Nat) (b1 : Nat) (b2 : Nat) (z3 : Int32) (z4 : Int32) (K63 : Int32 → Int32 → hsS → Prop) (post : hsS → Prop) : Nat → Int32 → Int32 → hsS → Prop
  | 0, _, _, _ => False
  | n + 1, y5, y6, σ => (((σ.1 (64 * b1 + 0)) ≤ y6 → K63 y5 y6 σ) ∧ (¬ (σ.1 (64 * b1 + 0)) ≤ y6 → (((9 : Int32) ≤ y5 → K63 y5 y6 σ) ∧ (¬ (9 : Int32) ≤ y5 → wX1_placeOf b1 z3 y6 (fun r3 σ4 => ((r3 = z4 → vp_in y5 9 ∧ wX1_putPlace b2 z3 y6 (z4 + (σ4.2.1 (b0 + 4) y5.toNatClampNeg)) (fun σ7 => ∀ v8 : Int32, v8 = y5 + (1 : Int32) → ∀ v9 : Int32, v9 = y6 + (1 : Int32) → wX2_putRanks_L6 b0 b1 b2 z3 z4 K63 post n v8 v9 σ7) σ4) ∧ (¬ r3 = z4 → ∀ v10 : Int32, v10 = y6 + (1 : Int32) → wX2_putRanks_L6 b0 b1 b2 z3 z4 K63 post n y5 v10 σ4))) σ))))
def wX2_putRanks (b0 : Nat) (b1 : Nat) (b2 : Nat) (x3 : Int32) (x4 : Int32) (post : hsS → Prop) (σ : hsS) : Prop := ∃ n11, wX2_putRanks_L6 b0 b1 b2 x3 x4 (fun v12 v13 σ14 => post σ14) post n11 (0 : Int32) (0 : Int32) σ
set_option maxHeartbeats 4000000 in
set_option maxRecDepth 100000 in
theorem kcX2_putRanks_25_1_6 (l : Launch) (D : va_G) (c : Nat → ClassId) (q : Nat → Nat) (ev : State → Heap → Prop) (hev : evOK (wdA 36 q) ev) (σ : hsS) (x3 : Int32) (x4 : Int32) (post : hsS → Prop) (hw : wX2_putRanks 25 1 6 x3 x4 post σ) : Met l yX2_putRanks (Cond.code yX2_putRanks cX2_putRanks 7 none :: tb_L) { frames := 1, cells := 0, slots := 0, locals := 23 } (wdPc D (xw c q) (xwT c) (wdA 36 q) ev σ [.ref (q 25), .ref (q 1), .ref (q 6), .int x3, .int x4]) (va_Qv post (wdB D (xw c q)) (wdA 36 q)) 0 0 (wdA 36 q) := by
  refine Met.ofW (cc := cX2_putRanks) (maxL := 7) (ret := none) (by decide) rfl ?_
  intro p e s m args below meth c₀ s₁ Bd hml hv
  obtain ⟨rfl, hP, hK, hD0, hE⟩ := hv
  have hx := Bd.exec
  have hb := Bd.bytes
  have hr := Bd.returns
  have hts := atoms_spec (ws := Cond.code yX2_putRanks cX2_putRanks 7 none :: tb_L) Bd.pre
  have htb : ∀ w ∈ tb_L, w.before [.ref (q 25), .ref (q 1), .ref (q 6), .int x3, .int x4].toArray s = true := fun w h => hts w (List.mem_cons_of_mem _ h)
  have hown : s.vm.findClass RX2 = some m.cls := findClass_of_methodNamed Bd.named
  have hlocks := Bd.notSynchronized
  have hS : va_S (wdA 36 q) s.heap s.heap [] := va_S.rf
  have hD := hD0
  have L6 : ∀ (K63 : Int32 → Int32 → hsS → Prop) (z3 : Int32) (z4 : Int32) (n : Nat) (y5 : Int32) (y6 : Int32) (σ : hsS) (H : Heap) (locs : List Loc) (ls : Array Slot), wX2_putRanks_L6 25 1 6 z3 z4 K63 post n y5 y6 σ → (∀ (y5 : Int32) (y6 : Int32) (σ : hsS) (H : Heap) (locs : List Loc) (ls : Array Slot), K63 y5 y6 σ → va_P D vwCl (xw c q σ) H → va_S (wdA 36 q) s.heap H locs → lv_has ls 7 [(0, .ref (q 25)), (1, .ref (q 1)), (2, .ref (q 6)), (3, .int z3), (4, .int z4), (5, .int y5), (6, .int y6)] → W p l e (headSpec (Cond.code yX2_putRanks cX2_putRanks 7 none :: tb_L) { frames := 1, cells := 0, slots := 0, locals := 23 }).room s m [.ref (q 25), .ref (q 1), .ref (q 6), .int x3, .int x4].toArray below meth c₀ H locs 0 0 (MQ below (va_Qv post (wdB D (xw c q)) (wdA 36 q)) [.ref (q 25), .ref (q 1), .ref (q 6), .int x3, .int x4].toArray s 0 0 (wdA 36 q)) (F0 m 63 ls [])) → va_P D vwCl (xw c q σ) H → va_S (wdA 36 q) s.heap H locs → lv_has ls 7 [(0, .ref (q 25)), (1, .ref (q 1)), (2, .ref (q 6)), (3, .int z3), (4, .int z4), (5, .int y5), (6, .int y6)] → W p l e (headSpec (Cond.code yX2_putRanks cX2_putRanks 7 none :: tb_L) { frames := 1, cells := 0, slots := 0, locals := 23 }).room s m [.ref (q 25), .ref (q 1), .ref (q 6), .int x3, .int x4].toArray below meth c₀ H locs 0 0 (MQ below (va_Qv post (wdB D (xw c q)) (wdA 36 q)) [.ref (q 25), .ref (q 1), .ref (q 6), .int x3, .int x4].toArray s 0 0 (wdA 36 q)) (F0 m 6 ls []) := by
    intro K63 z3 z4 n
    induction n with
    | zero =>
      intro y5 y6 σ H locs ls hw hk63 hP hS hl
      exact (show False from hw).elim
    | succ n ih =>
      intro y5 y6 σ H locs ls hw hk63 hP hS hl
      rw [wX2_putRanks_L6] at hw
      have hD : va_D (wdA 36 q) (xw c q σ) := xw_D hD0
      refine lv_iload hx hb dX2_putRanks_6 (lv_at hl 6 rfl) ?_
      refine lv_aload_n hx hb dX2_putRanks_8 rfl (lv_at hl 1 rfl) ?_
      refine va_getN (D := D) (ci := 1) (C := RX1) (T := TX1) (N := 12) hx hb htb inX1 hown hK hP 1 (xw_1 c q σ) rfl 0 (by decide) (htb _ tb_129) (fun _ h9 => h9) rfl dX2_putRanks_9 ?_
      refine lv_icmp_ge (tgt := 63) hx hb dX2_putRanks_12 (by decide) (fun c1 => ?_) (fun c1 => ?_)
      · have hw := hw.1 c1
        exact hk63 y5 y6 σ _ _ _ hw hP hS (lv_sub hl [0, 1, 2, 3, 4, 5, 6] rfl)
      · have hw := hw.2 c1
        refine lv_iload hx hb dX2_putRanks_15 (lv_at hl 5 rfl) ?_
        refine lv_aload_n hx hb dX2_putRanks_17 rfl (lv_at hl 0 rfl) ?_
        refine va_get (D := D) (ci := 2) (C := RX2) (T := TX2) (N := 8) hx hb htb inX2 hown hK hP 25 (xw_25 c q σ) rfl 3 (by decide) (htb _ tb_288) (fun _ h9 => h9) rfl dX2_putRanks_18 ?_
        refine va_alen (v := 9) (ty := .int) hx hb hK hP 29 20 (xw_29 c q σ) rfl rfl dX2_putRanks_21 ?_
        refine lv_icmp_ge (tgt := 63) hx hb dX2_putRanks_22 (by decide) (fun c2 => ?_) (fun c2 => ?_)
        · have hw := hw.1 c2
          exact hk63 y5 y6 σ _ _ _ hw hP hS (lv_sub hl [0, 1, 2, 3, 4, 5, 6] rfl)
        · have hw := hw.2 c2
          refine lv_aload_n hx hb dX2_putRanks_25 rfl (lv_at hl 1 rfl) ?_
          refine lv_iload_n hx hb dX2_putRanks_26 rfl (lv_at hl 3 rfl) ?_
          refine lv_iload hx hb dX2_putRanks_27 (lv_at hl 6 rfl) ?_
          refine va_calli (va_runV (As := [.int z3, .int y6]) (rest := []) ⟨hx, hb, hml, hown, htb⟩ (kcX1_placeOf_1 l D c q ev hev σ z3 y6 _ hw) (tb_CW htb kX1_placeOf tb_597 tb_446 tb_447 ⟨Nat.le_of_ble_eq_true rfl, Nat.le_of_ble_eq_true rfl⟩) (wd_preV (wd := xw c q) (k := 1) hev hK hP hD hE hS (xw_1 c q σ) rfl) rfl rfl hl.1 rfl (lv_room (Nat.le_of_ble_eq_true rfl)) dX2_putRanks_29 ⟨Nat.zero_le _, Nat.zero_le _⟩) hS (fun q _ h => h) (fun q h => h) (fun r3 σ4 t H1 locs1 ht hvm hw hB hz1 hk1 hS => ?_)
          have hP : va_P D vwCl (xw c q σ4) H1 := ht ▸ hB
          have hD : va_D (wdA 36 q) (xw c q σ4) := xw_D hD0
          refine lv_iload hx hb dX2_putRanks_32 (lv_at hl 4 rfl) ?_
          refine lv_icmp_ne (tgt := 57) hx hb dX2_putRanks_34 (by decide) (fun c5 => ?_) (fun c5 => ?_)
          · have hw := hw.2 c5
            obtain ⟨v10, ev10⟩ : ∃ z : Int32, z = y6 + (1 : Int32) := ⟨_, rfl⟩
            have hw := hw v10 ev10
            refine lv_iinc (v := v10) (lv' := [(6, .int v10), (0, .ref (q 25)), (1, .ref (q 1)), (2, .ref (q 6)), (3, .int z3), (4, .int z4), (5, .int y5)]) hx hb dX2_putRanks_57 hl (k := 6) rfl (by rw [ev10]; rfl) (by decide) rfl (fun ls hl => ?_)
            refine lv_goto (tgt := 6) hx hb dX2_putRanks_60 (by decide) ?_
            exact ih y5 v10 σ4 _ _ _ hw hk63 hP hS (lv_sub hl [1, 2, 3, 4, 5, 6, 0] rfl)
          · have hw := hw.1 c5
            refine lv_aload_n hx hb dX2_putRanks_37 rfl (lv_at hl 2 rfl) ?_
            refine lv_iload_n hx hb dX2_putRanks_38 rfl (lv_at hl 3 rfl) ?_
            refine lv_iload hx hb dX2_putRanks_39 (lv_at hl 6 rfl) ?_
            refine lv_iload hx hb dX2_putRanks_41 (lv_at hl 4 rfl) ?_
            refine lv_aload_n hx hb dX2_putRanks_43 rfl (lv_at hl 0 rfl) ?_
            refine va_get (D := D) (ci := 2) (C := RX2) (T := TX2) (N := 8) hx hb htb inX2 hown hK hP 25 (xw_25 c q σ4) rfl 3 (by decide) (htb _ tb_288) (fun _ h9 => h9) rfl dX2_putRanks_44 ?_
            refine lv_iload hx hb dX2_putRanks_47 (lv_at hl 5 rfl) ?_
            refine va_iald hx hb hK hP 29 20 (xw_29 c q σ4) rfl hw.1 dX2_putRanks_49 ?_
            have hw := hw.2
            refine lv_iadd hx hb dX2_putRanks_50 ?_
            refine va_callv (va_runV (As := [.int z3, .int y6, .int (z4 + (σ4.2.1 29 y5.toNatClampNeg))]) (rest := []) ⟨hx, hb, hml, hown, htb⟩ (kcX1_putPlace_6 l D c q ev hev σ4 z3 y6 (z4 + (σ4.2.1 29 y5.toNatClampNeg)) _ hw) (tb_CW htb kX1_putPlace tb_598 tb_599 tb_600 ⟨Nat.le_of_ble_eq_true rfl, Nat.le_of_ble_eq_true rfl⟩) (wd_preV (wd := xw c q) (k := 6) hev hK hP hD hE hS (xw_6 c q σ4) rfl) rfl rfl hl.1 rfl (lv_room (Nat.le_of_ble_eq_true rfl)) dX2_putRanks_51 ⟨Nat.zero_le _, Nat.zero_le _⟩) hS (fun q _ h => h) (fun q h => h) (fun σ7 t H1 locs1 ht hvm hw hB hz1 hk1 hS => ?_)
            have hP : va_P D vwCl (xw c q σ7) H1 := ht ▸ hB
            have hD : va_D (wdA 36 q) (xw c q σ7) := xw_D hD0
            obtain ⟨v8, ev8⟩ : ∃ z : Int32, z = y5 + (1 : Int32) := ⟨_, rfl⟩
            have hw := hw v8 ev8
            refine lv_iinc (v := v8) (lv' := [(5, .int v8), (0, .ref (q 25)), (1, .ref (q 1)), (2, .ref (q 6)), (3, .int z3), (4, .int z4), (6, .int y6)]) hx hb dX2_putRanks_54 hl (k := 5) rfl (by rw [ev8]; rfl) (by decide) rfl (fun ls hl => ?_)
            obtain ⟨v9, ev9⟩ : ∃ z : Int32, z = y6 + (1 : Int32) := ⟨_, rfl⟩
            have hw := hw v9 ev9
            refine lv_iinc (v := v9) (lv' := [(6, .int v9), (5, .int v8), (0, .ref (q 25)), (1, .ref (q 1)), (2, .ref (q 6)), (3, .int z3), (4, .int z4)]) hx hb dX2_putRanks_57 hl (k := 6) rfl (by rw [ev9]; rfl) (by decide) rfl (fun ls hl => ?_)
            refine lv_goto (tgt := 6) hx hb dX2_putRanks_60 (by decide) ?_
            exact ih v8 v9 σ7 _ _ _ hw hk63 hP hS (lv_sub hl [2, 3, 4, 5, 6, 1, 0] rfl)
  have hl := lv_entry ([.ref (q 25), .ref (q 1), .ref (q 6), .int x3, .int x4]) (n := 7) (Nat.le_of_ble_eq_true rfl)
  rw [lg_entry_eq]
  generalize (lg_sl ([.ref (q 25), .ref (q 1), .ref (q 6), .int x3, .int x4]) ++ List.replicate (7 - (lg_sl ([.ref (q 25), .ref (q 1), .ref (q 6), .int x3, .int x4])).length) Slot.unset).toArray = ls at hl ⊢
  have hl : lv_has ls 7 [(0, .ref (q 25)), (1, .ref (q 1)), (2, .ref (q 6)), (3, .int x3), (4, .int x4)] := hl
  unfold wX2_putRanks at hw
  refine lv_iconst (v := (0 : Int32)) hx hb dX2_putRanks_0 (by decide) ?_
  refine lv_istore (lv' := [(5, .int (0 : Int32)), (0, .ref (q 25)), (1, .ref (q 1)), (2, .ref (q 6)), (3, .int x3), (4, .int x4)]) hx hb dX2_putRanks_1 hl (by decide) rfl (fun ls hl => ?_)
  refine lv_iconst (v := (0 : Int32)) hx hb dX2_putRanks_3 (by decide) ?_
  refine lv_istore (lv' := [(6, .int (0 : Int32)), (5, .int (0 : Int32)), (0, .ref (q 25)), (1, .ref (q 1)), (2, .ref (q 6)), (3, .int x3), (4, .int x4)]) hx hb dX2_putRanks_4 hl (by decide) rfl (fun ls hl => ?_)
  obtain ⟨n11, hw⟩ := hw
  refine L6 _ x3 x4 n11 (0 : Int32) (0 : Int32) σ _ _ _ hw ?_ hP hS (lv_sub hl [2, 3, 4, 5, 6, 1, 0] rfl)
  intro v12 v13 σ14 H locs ls hw hP hS hl
  have hD : va_D (wdA 36 q) (xw c q σ14) := xw_D hD0
  exact W.vret hx hb hr (fun t ht hW => ⟨⟨σ14, rfl, hw, by unfold wdB; rw [ht]; exact hP⟩, hS.F ht⟩) hS.2.2 dX2_putRanks_63
def wX2_putOrder_L7 (b0 : Nat) (b1 : Nat) (b2 : Nat) (z3 : Int32) (z4 : Int32) (K74 : Int32 → Int32 → hsS → Prop) (post : hsS → Prop) : Nat → Int32 → Int32 → hsS → Prop
  | 0, _, _, _ => False
  | n + 1, y5, y6, σ => (((σ.1 (64 * b1 + 0)) ≤ y6 → K74 y5 y6 σ) ∧ (¬ (σ.1 (64 * b1 + 0)) ≤ y6 → wX1_groupSize b1 z3 y6 (fun r2 σ3 => ((r2 ≤ (1 : Int32) → ∀ v5 : Int32, v5 = y6 + (1 : Int32) → wX2_putOrder_L7 b0 b1 b2 z3 z4 K74 post n y5 v5 σ3) ∧ (¬ r2 ≤ (1 : Int32) → wX7_factorial r2 (fun r6 σ7 => ¬ r6 = 0 ∧ wX7_nthOrder (y5 - y5 / r6 * r6) r2 (b0 + 4) (fun σ9 => ¬ r6 = 0 ∧ ∀ v10 : Int32, v10 = y5 / r6 → wX2_putRanks b0 b1 b2 z3 y6 (fun σ12 => ∀ v13 : Int32, v13 = y6 + (1 : Int32) → wX2_putOrder_L7 b0 b1 b2 z3 z4 K74 post n v10 v13 σ12) σ9) σ7) σ3))) σ))
def wX2_putOrder (b0 : Nat) (b1 : Nat) (b2 : Nat) (x3 : Int32) (x4 : Int32) (post : hsS → Prop) (σ : hsS) : Prop := ∃ n14, wX2_putOrder_L7 b0 b1 b2 x3 x4 (fun v15 v16 σ17 => post σ17) post n14 x4 (0 : Int32) σ
set_option maxHeartbeats 4000000 in
set_option maxRecDepth 100000 in
theorem kcX2_putOrder_25_1_6 (l : Launch) (D : va_G) (c : Nat → ClassId) (q : Nat → Nat) (ev : State → Heap → Prop) (hev : evOK (wdA 36 q) ev) (tF : Nat) (hF : ∀ (U : State) (H : Heap), ev U H → va_Z "StrikeHall" "FACTORIALS" "[I" (.ref tF) (wdA 36 q) U H ∧ va_T .int tF 10 (fun j => .int (xfact j)) (wdA 36 q) U H) (σ : hsS) (x3 : Int32) (x4 : Int32) (post : hsS → Prop) (hw : wX2_putOrder 25 1 6 x3 x4 post σ) : Met l yX2_putOrder (Cond.code yX2_putOrder cX2_putOrder 9 none :: tb_L) { frames := 3, cells := 0, slots := 0, locals := 87 } (wdPc D (xw c q) (xwT c) (wdA 36 q) ev σ [.ref (q 25), .ref (q 1), .ref (q 6), .int x3, .int x4]) (va_Qv post (wdB D (xw c q)) (wdA 36 q)) 0 0 (wdA 36 q) := by
  refine Met.ofW (cc := cX2_putOrder) (maxL := 9) (ret := none) (by decide) rfl ?_
  intro p e s m args below meth c₀ s₁ Bd hml hv
  obtain ⟨rfl, hP, hK, hD0, hE⟩ := hv
  have hx := Bd.exec
  have hb := Bd.bytes
  have hr := Bd.returns
  have hts := atoms_spec (ws := Cond.code yX2_putOrder cX2_putOrder 9 none :: tb_L) Bd.pre
  have htb : ∀ w ∈ tb_L, w.before [.ref (q 25), .ref (q 1), .ref (q 6), .int x3, .int x4].toArray s = true := fun w h => hts w (List.mem_cons_of_mem _ h)
  have hown : s.vm.findClass RX2 = some m.cls := findClass_of_methodNamed Bd.named
  have hlocks := Bd.notSynchronized
  have hS : va_S (wdA 36 q) s.heap s.heap [] := va_S.rf
  have hD := hD0
  have L7 : ∀ (K74 : Int32 → Int32 → hsS → Prop) (z3 : Int32) (z4 : Int32) (n : Nat) (y5 : Int32) (y6 : Int32) (σ : hsS) (H : Heap) (locs : List Loc) (ls : Array Slot), wX2_putOrder_L7 25 1 6 z3 z4 K74 post n y5 y6 σ → (∀ (y5 : Int32) (y6 : Int32) (σ : hsS) (H : Heap) (locs : List Loc) (ls : Array Slot), K74 y5 y6 σ → va_P D vwCl (xw c q σ) H → va_S (wdA 36 q) s.heap H locs → lv_has ls 9 [(0, .ref (q 25)), (1, .ref (q 1)), (2, .ref (q 6)), (3, .int z3), (4, .int z4), (5, .int y5), (6, .int y6)] → W p l e (headSpec (Cond.code yX2_putOrder cX2_putOrder 9 none :: tb_L) { frames := 3, cells := 0, slots := 0, locals := 87 }).room s m [.ref (q 25), .ref (q 1), .ref (q 6), .int x3, .int x4].toArray below meth c₀ H locs 0 0 (MQ below (va_Qv post (wdB D (xw c q)) (wdA 36 q)) [.ref (q 25), .ref (q 1), .ref (q 6), .int x3, .int x4].toArray s 0 0 (wdA 36 q)) (F0 m 74 ls [])) → va_P D vwCl (xw c q σ) H → va_S (wdA 36 q) s.heap H locs → lv_has ls 9 [(0, .ref (q 25)), (1, .ref (q 1)), (2, .ref (q 6)), (3, .int z3), (4, .int z4), (5, .int y5), (6, .int y6)] → W p l e (headSpec (Cond.code yX2_putOrder cX2_putOrder 9 none :: tb_L) { frames := 3, cells := 0, slots := 0, locals := 87 }).room s m [.ref (q 25), .ref (q 1), .ref (q 6), .int x3, .int x4].toArray below meth c₀ H locs 0 0 (MQ below (va_Qv post (wdB D (xw c q)) (wdA 36 q)) [.ref (q 25), .ref (q 1), .ref (q 6), .int x3, .int x4].toArray s 0 0 (wdA 36 q)) (F0 m 7 ls []) := by
    intro K74 z3 z4 n
    induction n with
    | zero =>
      intro y5 y6 σ H locs ls hw hk74 hP hS hl
      exact (show False from hw).elim
    | succ n ih =>
      intro y5 y6 σ H locs ls hw hk74 hP hS hl
      rw [wX2_putOrder_L7] at hw
      have hD : va_D (wdA 36 q) (xw c q σ) := xw_D hD0
      refine lv_iload hx hb dX2_putOrder_7 (lv_at hl 6 rfl) ?_
      refine lv_aload_n hx hb dX2_putOrder_9 rfl (lv_at hl 1 rfl) ?_
      refine va_getN (D := D) (ci := 1) (C := RX1) (T := TX1) (N := 12) hx hb htb inX1 hown hK hP 1 (xw_1 c q σ) rfl 0 (by decide) (htb _ tb_129) (fun _ h9 => h9) rfl dX2_putOrder_10 ?_
      refine lv_icmp_ge (tgt := 74) hx hb dX2_putOrder_13 (by decide) (fun c1 => ?_) (fun c1 => ?_)
      · have hw := hw.1 c1
        exact hk74 y5 y6 σ _ _ _ hw hP hS (lv_sub hl [0, 1, 2, 3, 4, 5, 6] rfl)
      · have hw := hw.2 c1
        refine lv_aload_n hx hb dX2_putOrder_16 rfl (lv_at hl 1 rfl) ?_
        refine lv_iload_n hx hb dX2_putOrder_17 rfl (lv_at hl 3 rfl) ?_
        refine lv_iload hx hb dX2_putOrder_18 (lv_at hl 6 rfl) ?_
        refine va_calli (va_runV (As := [.int z3, .int y6]) (rest := []) ⟨hx, hb, hml, hown, htb⟩ (kcX1_groupSize_1 l D c q ev hev σ z3 y6 _ hw) (tb_CW htb kX1_groupSize tb_553 tb_554 tb_555 ⟨Nat.le_of_ble_eq_true rfl, Nat.le_of_ble_eq_true rfl⟩) (wd_preV (wd := xw c q) (k := 1) hev hK hP hD hE hS (xw_1 c q σ) rfl) rfl rfl hl.1 rfl (lv_room (Nat.le_of_ble_eq_true rfl)) dX2_putOrder_20 ⟨Nat.zero_le _, Nat.zero_le _⟩) hS (fun q _ h => h) (fun q h => h) (fun r2 σ3 t H1 locs1 ht hvm hw hB hz1 hk1 hS => ?_)
        have hP : va_P D vwCl (xw c q σ3) H1 := ht ▸ hB
        have hD : va_D (wdA 36 q) (xw c q σ3) := xw_D hD0
        refine lv_istore (lv' := [(7, .int r2), (0, .ref (q 25)), (1, .ref (q 1)), (2, .ref (q 6)), (3, .int z3), (4, .int z4), (5, .int y5), (6, .int y6)]) hx hb dX2_putOrder_23 hl (by decide) rfl (fun ls hl => ?_)
        refine lv_iload hx hb dX2_putOrder_25 (lv_at hl 0 rfl) ?_
        refine lv_iconst (v := (1 : Int32)) hx hb dX2_putOrder_27 (by decide) ?_
        refine lv_icmp_le (tgt := 68) hx hb dX2_putOrder_28 (by decide) (fun c4 => ?_) (fun c4 => ?_)
        · have hw := hw.1 c4
          obtain ⟨v5, ev5⟩ : ∃ z : Int32, z = y6 + (1 : Int32) := ⟨_, rfl⟩
          have hw := hw v5 ev5
          refine lv_iinc (v := v5) (lv' := [(6, .int v5), (7, .int r2), (0, .ref (q 25)), (1, .ref (q 1)), (2, .ref (q 6)), (3, .int z3), (4, .int z4), (5, .int y5)]) hx hb dX2_putOrder_68 hl (k := 7) rfl (by rw [ev5]; rfl) (by decide) rfl (fun ls hl => ?_)
          refine lv_goto (tgt := 7) hx hb dX2_putOrder_71 (by decide) ?_
          exact ih y5 v5 σ3 _ _ _ hw hk74 hP hS (lv_sub hl [2, 3, 4, 5, 6, 7, 0] rfl)
        · have hw := hw.2 c4
          refine lv_iload hx hb dX2_putOrder_31 (lv_at hl 0 rfl) ?_
          refine va_calli (va_runSN (As := [.int r2]) (rest := []) ⟨hx, hb, hml, hown, htb⟩ (kcX7_factorial_x l D c q ev hev tF hF σ3 r2 _ hw) (⟨tb_CN htb kX7_factorial tb_557 ⟨Nat.le_of_ble_eq_true rfl, Nat.le_of_ble_eq_true rfl⟩, htb _ tb_558, trivial⟩) (wd_preS (wd := xw c q) hev hK hP hD hE hS) rfl rfl hl.1 rfl (lv_room (Nat.le_of_ble_eq_true rfl)) dX2_putOrder_33 ⟨Nat.zero_le _, Nat.zero_le _⟩) hS (fun q _ h => h) (fun q h => h) (fun r6 σ7 t H1 locs1 ht hvm hw hB hz1 hk1 hS => ?_)
          have hP : va_P D vwCl (xw c q σ7) H1 := ht ▸ hB
          have hD : va_D (wdA 36 q) (xw c q σ7) := xw_D hD0
          refine lv_istore (lv' := [(8, .int r6), (7, .int r2), (0, .ref (q 25)), (1, .ref (q 1)), (2, .ref (q 6)), (3, .int z3), (4, .int z4), (5, .int y5), (6, .int y6)]) hx hb dX2_putOrder_36 hl (by decide) rfl (fun ls hl => ?_)
          refine lv_iload hx hb dX2_putOrder_38 (lv_at hl 7 rfl) ?_
          refine lv_iload hx hb dX2_putOrder_40 (lv_at hl 0 rfl) ?_
          refine lv_irem hx hb dX2_putOrder_42 hw.1 ?_
          have hw := hw.2
          refine lv_iload hx hb dX2_putOrder_43 (lv_at hl 1 rfl) ?_
          refine lv_aload_n hx hb dX2_putOrder_45 rfl (lv_at hl 2 rfl) ?_
          refine va_get (D := D) (ci := 2) (C := RX2) (T := TX2) (N := 8) hx hb htb inX2 hown hK hP 25 (xw_25 c q σ7) rfl 3 (by decide) (htb _ tb_288) (fun _ h9 => h9) rfl dX2_putOrder_46 ?_
          refine va_callv (va_runSN (As := [.int (y5 - y5 / r6 * r6), .int r2, .ref (q 29)]) (rest := []) ⟨hx, hb, hml, hown, htb⟩ (kcX7_nthOrder_29 l D c q ev hev tF hF σ7 (y5 - y5 / r6 * r6) r2 _ hw) (⟨tb_CN htb kX7_nthOrder tb_586 ⟨Nat.le_of_ble_eq_true rfl, Nat.le_of_ble_eq_true rfl⟩, htb _ tb_587, trivial⟩) (wd_preS (wd := xw c q) hev hK hP hD hE hS) rfl rfl hl.1 rfl (lv_room (Nat.le_of_ble_eq_true rfl)) dX2_putOrder_49 ⟨Nat.zero_le _, Nat.zero_le _⟩) hS (fun q _ h => h) (fun q h => h) (fun σ9 t H1 locs1 ht hvm hw hB hz1 hk1 hS => ?_)
          have hP : va_P D vwCl (xw c q σ9) H1 := ht ▸ hB
          have hD : va_D (wdA 36 q) (xw c q σ9) := xw_D hD0
          refine lv_iload hx hb dX2_putOrder_52 (lv_at hl 7 rfl) ?_
          refine lv_iload hx hb dX2_putOrder_54 (lv_at hl 0 rfl) ?_
          refine lv_idiv hx hb dX2_putOrder_56 hw.1 ?_
          have hw := hw.2
          refine lv_topi (fun v10 ev10 => ?_)
          have hw := hw v10 ev10
          refine lv_istore (lv' := [(5, .int v10), (8, .int r6), (7, .int r2), (0, .ref (q 25)), (1, .ref (q 1)), (2, .ref (q 6)), (3, .int z3), (4, .int z4), (6, .int y6)]) hx hb dX2_putOrder_57 hl (by decide) rfl (fun ls hl => ?_)
          refine lv_aload_n hx hb dX2_putOrder_59 rfl (lv_at hl 3 rfl) ?_
          refine lv_aload_n hx hb dX2_putOrder_60 rfl (lv_at hl 4 rfl) ?_
          refine lv_aload_n hx hb dX2_putOrder_61 rfl (lv_at hl 5 rfl) ?_
          refine lv_iload_n hx hb dX2_putOrder_62 rfl (lv_at hl 6 rfl) ?_
          refine lv_iload hx hb dX2_putOrder_63 (lv_at hl 8 rfl) ?_
          refine va_callv (va_runV (As := [.ref (q 1), .ref (q 6), .int z3, .int y6]) (rest := []) ⟨hx, hb, hml, hown, htb⟩ (kcX2_putRanks_25_1_6 l D c q ev hev σ9 z3 y6 _ hw) (tb_CW htb kX2_putRanks tb_593 tb_595 tb_8 ⟨Nat.le_of_ble_eq_true rfl, Nat.le_of_ble_eq_true rfl⟩) (wd_preV (wd := xw c q) (k := 25) hev hK hP hD hE hS (xw_25 c q σ9) rfl) rfl rfl hl.1 rfl (lv_room (Nat.le_of_ble_eq_true rfl)) dX2_putOrder_65 ⟨Nat.zero_le _, Nat.zero_le _⟩) hS (fun q _ h => h) (fun q h => h) (fun σ12 t H1 locs1 ht hvm hw hB hz1 hk1 hS => ?_)
          have hP : va_P D vwCl (xw c q σ12) H1 := ht ▸ hB
          have hD : va_D (wdA 36 q) (xw c q σ12) := xw_D hD0
          obtain ⟨v13, ev13⟩ : ∃ z : Int32, z = y6 + (1 : Int32) := ⟨_, rfl⟩
          have hw := hw v13 ev13
          refine lv_iinc (v := v13) (lv' := [(6, .int v13), (5, .int v10), (8, .int r6), (7, .int r2), (0, .ref (q 25)), (1, .ref (q 1)), (2, .ref (q 6)), (3, .int z3), (4, .int z4)]) hx hb dX2_putOrder_68 hl (k := 8) rfl (by rw [ev13]; rfl) (by decide) rfl (fun ls hl => ?_)
          refine lv_goto (tgt := 7) hx hb dX2_putOrder_71 (by decide) ?_
          exact ih v10 v13 σ12 _ _ _ hw hk74 hP hS (lv_sub hl [4, 5, 6, 7, 8, 1, 0] rfl)
  have hl := lv_entry ([.ref (q 25), .ref (q 1), .ref (q 6), .int x3, .int x4]) (n := 9) (Nat.le_of_ble_eq_true rfl)
  rw [lg_entry_eq]
  generalize (lg_sl ([.ref (q 25), .ref (q 1), .ref (q 6), .int x3, .int x4]) ++ List.replicate (9 - (lg_sl ([.ref (q 25), .ref (q 1), .ref (q 6), .int x3, .int x4])).length) Slot.unset).toArray = ls at hl ⊢
  have hl : lv_has ls 9 [(0, .ref (q 25)), (1, .ref (q 1)), (2, .ref (q 6)), (3, .int x3), (4, .int x4)] := hl
  unfold wX2_putOrder at hw
  refine lv_iload hx hb dX2_putOrder_0 (lv_at hl 4 rfl) ?_
  refine lv_istore (lv' := [(5, .int x4), (0, .ref (q 25)), (1, .ref (q 1)), (2, .ref (q 6)), (3, .int x3), (4, .int x4)]) hx hb dX2_putOrder_2 hl (by decide) rfl (fun ls hl => ?_)
  refine lv_iconst (v := (0 : Int32)) hx hb dX2_putOrder_4 (by decide) ?_
  refine lv_istore (lv' := [(6, .int (0 : Int32)), (5, .int x4), (0, .ref (q 25)), (1, .ref (q 1)), (2, .ref (q 6)), (3, .int x3), (4, .int x4)]) hx hb dX2_putOrder_5 hl (by decide) rfl (fun ls hl => ?_)
  obtain ⟨n14, hw⟩ := hw
  refine L7 _ x3 x4 n14 x4 (0 : Int32) σ _ _ _ hw ?_ hP hS (lv_sub hl [2, 3, 4, 5, 6, 1, 0] rfl)
  intro v15 v16 σ17 H locs ls hw hP hS hl
  have hD : va_D (wdA 36 q) (xw c q σ17) := xw_D hD0
  exact W.vret hx hb hr (fun t ht hW => ⟨⟨σ17, rfl, hw, by unfold wdB; rw [ht]; exact hP⟩, hS.F ht⟩) hS.2.2 dX2_putOrder_74
def wX2_learn_L72 (b0 : Nat) (b1 : Nat) (b2 : Nat) (b3 : Nat) (z4 : Int32) (K103 : Int32 → hsS → Prop) (post : hsS → Prop) : Nat → Int32 → hsS → Prop
  | 0, _, _ => False
  | n + 1, y5, σ => (((σ.1 (64 * b1 + 1)) ≤ y5 → K103 y5 σ) ∧ (¬ (σ.1 (64 * b1 + 1)) ≤ y5 → wX2_orderIn b0 z4 y5 (fun r19 σ20 => wX2_putOrder b0 b1 b2 y5 r19 (fun σ22 => ∀ v23 : Int32, v23 = y5 + (1 : Int32) → wX2_learn_L72 b0 b1 b2 b3 z4 K103 post n v23 σ22) σ20) σ))
def wX2_learn_L52 (b0 : Nat) (b1 : Nat) (b2 : Nat) (b3 : Nat) (K153 : Int32 → hsS → Prop) (post : hsS → Prop) : Nat → Int32 → hsS → Prop
  | 0, _, _ => False
  | n + 1, y4, σ => (((σ.1 (64 * b0 + 5)) ≤ y4 → K153 y4 σ) ∧ (¬ (σ.1 (64 * b0 + 5)) ≤ y4 → (((240 : Int32) ≤ y4 → K153 y4 σ) ∧ (¬ (240 : Int32) ≤ y4 → ∃ n24, wX2_learn_L72 b0 b1 b2 b3 y4 (fun v25 σ26 => wX4_coreAsWeighed b3 b2 (fun r27 σ28 => vp_in y4 240 ∧ ∀ σ29 : hsS, σ29 = hsA σ28 (b0 + 1) (upd (σ28.2.1 (b0 + 1)) y4.toNatClampNeg r27) → vp_in y4 240 ∧ ∀ σ30 : hsS, σ30 = hsI σ29 (64 * b0 + 6) ((σ29.1 (64 * b0 + 6)) &&& (σ29.2.1 (b0 + 1) y4.toNatClampNeg)) → vp_in y4 240 ∧ ∀ σ31 : hsS, σ31 = hsI σ30 (64 * b0 + 7) ((σ30.1 (64 * b0 + 7)) ||| (σ30.2.1 (b0 + 1) y4.toNatClampNeg)) → ∀ v32 : Int32, v32 = y4 + (1 : Int32) → wX2_learn_L52 b0 b1 b2 b3 K153 post n v32 σ31) σ26) post n24 (0 : Int32) σ))))
def wX2_learn (b0 : Nat) (b1 : Nat) (b2 : Nat) (b3 : Nat) (post : hsS → Prop) (σ : hsS) : Prop := (((σ.1 (64 * b0 + 4)) = (0 : Int32) → ∀ σ2 : hsS, σ2 = hsI σ (64 * b0 + 4) (1 : Int32) → wX2_countWays b0 b1 (fun σ4 => wX2_spent b0 (fun r5 σ6 => ((r5 = (0 : Int32) → wX1_takeFrom b2 b1 (fun σ9 => wX4_weigh b3 b1 (fun σ11 => wX1_allThings b1 (fun r12 σ13 => ∀ σ14 : hsS, σ14 = hsI σ13 (64 * b0 + 6) r12 → ∀ σ15 : hsS, σ15 = hsI σ14 (64 * b0 + 7) (0 : Int32) → ∃ n33, wX2_learn_L52 b0 b1 b2 b3 (fun v34 σ35 => post σ35) post n33 (0 : Int32) σ15) σ11) σ9) σ6) ∧ (¬ r5 = (0 : Int32) → post σ6))) σ4) σ2) ∧ (¬ (σ.1 (64 * b0 + 4)) = (0 : Int32) → post σ))
set_option maxHeartbeats 4000000 in
set_option maxRecDepth 100000 in
theorem kcX2_learn_25_1_6_18 (l : Launch) (D : va_G) (c : Nat → ClassId) (q : Nat → Nat) (ev : State → Heap → Prop) (hev : evOK (wdA 36 q) ev) (tF : Nat) (hF : ∀ (U : State) (H : Heap), ev U H → va_Z "StrikeHall" "FACTORIALS" "[I" (.ref tF) (wdA 36 q) U H ∧ va_T .int tF 10 (fun j => .int (xfact j)) (wdA 36 q) U H) (σ : hsS)  (post : hsS → Prop) (hw : wX2_learn 25 1 6 18 post σ) : Met l yX2_learn (Cond.code yX2_learn cX2_learn 6 none :: tb_L) { frames := 4, cells := 0, slots := 0, locals := 115 } (wdPc D (xw c q) (xwT c) (wdA 36 q) ev σ [.ref (q 25), .ref (q 1), .ref (q 6), .ref (q 18)]) (va_Qv post (wdB D (xw c q)) (wdA 36 q)) 0 0 (wdA 36 q) := by
  refine Met.ofW (cc := cX2_learn) (maxL := 6) (ret := none) (by decide) rfl ?_
  intro p e s m args below meth c₀ s₁ Bd hml hv
  obtain ⟨rfl, hP, hK, hD0, hE⟩ := hv
  have hx := Bd.exec
  have hb := Bd.bytes
  have hr := Bd.returns
  have hts := atoms_spec (ws := Cond.code yX2_learn cX2_learn 6 none :: tb_L) Bd.pre
  have htb : ∀ w ∈ tb_L, w.before [.ref (q 25), .ref (q 1), .ref (q 6), .ref (q 18)].toArray s = true := fun w h => hts w (List.mem_cons_of_mem _ h)
  have hown : s.vm.findClass RX2 = some m.cls := findClass_of_methodNamed Bd.named
  have hlocks := Bd.notSynchronized
  have hS : va_S (wdA 36 q) s.heap s.heap [] := va_S.rf
  have hD := hD0
  have L72 : ∀ (K103 : Int32 → hsS → Prop) (z4 : Int32) (n : Nat) (y5 : Int32) (σ : hsS) (H : Heap) (locs : List Loc) (ls : Array Slot), wX2_learn_L72 25 1 6 18 z4 K103 post n y5 σ → (∀ (y5 : Int32) (σ : hsS) (H : Heap) (locs : List Loc) (ls : Array Slot), K103 y5 σ → va_P D vwCl (xw c q σ) H → va_S (wdA 36 q) s.heap H locs → lv_has ls 6 [(0, .ref (q 25)), (1, .ref (q 1)), (2, .ref (q 6)), (3, .ref (q 18)), (4, .int z4), (5, .int y5)] → W p l e (headSpec (Cond.code yX2_learn cX2_learn 6 none :: tb_L) { frames := 4, cells := 0, slots := 0, locals := 115 }).room s m [.ref (q 25), .ref (q 1), .ref (q 6), .ref (q 18)].toArray below meth c₀ H locs 0 0 (MQ below (va_Qv post (wdB D (xw c q)) (wdA 36 q)) [.ref (q 25), .ref (q 1), .ref (q 6), .ref (q 18)].toArray s 0 0 (wdA 36 q)) (F0 m 103 ls [])) → va_P D vwCl (xw c q σ) H → va_S (wdA 36 q) s.heap H locs → lv_has ls 6 [(0, .ref (q 25)), (1, .ref (q 1)), (2, .ref (q 6)), (3, .ref (q 18)), (4, .int z4), (5, .int y5)] → W p l e (headSpec (Cond.code yX2_learn cX2_learn 6 none :: tb_L) { frames := 4, cells := 0, slots := 0, locals := 115 }).room s m [.ref (q 25), .ref (q 1), .ref (q 6), .ref (q 18)].toArray below meth c₀ H locs 0 0 (MQ below (va_Qv post (wdB D (xw c q)) (wdA 36 q)) [.ref (q 25), .ref (q 1), .ref (q 6), .ref (q 18)].toArray s 0 0 (wdA 36 q)) (F0 m 72 ls []) := by
    intro K103 z4 n
    induction n with
    | zero =>
      intro y5 σ H locs ls hw hk103 hP hS hl
      exact (show False from hw).elim
    | succ n ih =>
      intro y5 σ H locs ls hw hk103 hP hS hl
      rw [wX2_learn_L72] at hw
      have hD : va_D (wdA 36 q) (xw c q σ) := xw_D hD0
      refine lv_iload hx hb dX2_learn_72 (lv_at hl 5 rfl) ?_
      refine lv_aload_n hx hb dX2_learn_74 rfl (lv_at hl 1 rfl) ?_
      refine va_getN (D := D) (ci := 1) (C := RX1) (T := TX1) (N := 12) hx hb htb inX1 hown hK hP 1 (xw_1 c q σ) rfl 1 (by decide) (htb _ tb_134) (fun _ h9 => h9) rfl dX2_learn_75 ?_
      refine lv_icmp_ge (tgt := 103) hx hb dX2_learn_78 (by decide) (fun c18 => ?_) (fun c18 => ?_)
      · have hw := hw.1 c18
        exact hk103 y5 σ _ _ _ hw hP hS (lv_sub hl [0, 1, 2, 3, 4, 5] rfl)
      · have hw := hw.2 c18
        refine lv_aload_n hx hb dX2_learn_81 rfl (lv_at hl 0 rfl) ?_
        refine lv_aload_n hx hb dX2_learn_82 rfl (lv_at hl 1 rfl) ?_
        refine lv_aload_n hx hb dX2_learn_83 rfl (lv_at hl 2 rfl) ?_
        refine lv_iload hx hb dX2_learn_84 (lv_at hl 5 rfl) ?_
        refine lv_aload_n hx hb dX2_learn_86 rfl (lv_at hl 0 rfl) ?_
        refine lv_iload hx hb dX2_learn_87 (lv_at hl 4 rfl) ?_
        refine lv_iload hx hb dX2_learn_89 (lv_at hl 5 rfl) ?_
        refine va_calli (va_runV (As := [.int z4, .int y5]) (rest := [.int y5, .ref (q 6), .ref (q 1), .ref (q 25)]) ⟨hx, hb, hml, hown, htb⟩ (kcX2_orderIn_25 l D c q ev hev σ z4 y5 _ hw) (tb_CW htb kX2_orderIn tb_577 tb_579 tb_6 ⟨Nat.le_of_ble_eq_true rfl, Nat.le_of_ble_eq_true rfl⟩) (wd_preV (wd := xw c q) (k := 25) hev hK hP hD hE hS (xw_25 c q σ) rfl) rfl rfl hl.1 rfl (lv_room (Nat.le_of_ble_eq_true rfl)) dX2_learn_91 ⟨Nat.zero_le _, Nat.zero_le _⟩) hS (fun q _ h => h) (fun q h => h) (fun r19 σ20 t H1 locs1 ht hvm hw hB hz1 hk1 hS => ?_)
        have hP : va_P D vwCl (xw c q σ20) H1 := ht ▸ hB
        have hD : va_D (wdA 36 q) (xw c q σ20) := xw_D hD0
        refine va_callv (va_runV (As := [.ref (q 1), .ref (q 6), .int y5, .int r19]) (rest := []) ⟨hx, hb, hml, hown, htb⟩ (kcX2_putOrder_25_1_6 l D c q ev hev tF hF σ20 y5 r19 _ hw) (tb_CW htb kX2_putOrder tb_582 tb_584 tb_7 ⟨Nat.le_of_ble_eq_true rfl, Nat.le_of_ble_eq_true rfl⟩) (wd_preV (wd := xw c q) (k := 25) hev hK hP hD hE hS (xw_25 c q σ20) rfl) rfl rfl hl.1 rfl (lv_room (Nat.le_of_ble_eq_true rfl)) dX2_learn_94 ⟨Nat.zero_le _, Nat.zero_le _⟩) hS (fun q _ h => h) (fun q h => h) (fun σ22 t H1 locs1 ht hvm hw hB hz1 hk1 hS => ?_)
        have hP : va_P D vwCl (xw c q σ22) H1 := ht ▸ hB
        have hD : va_D (wdA 36 q) (xw c q σ22) := xw_D hD0
        obtain ⟨v23, ev23⟩ : ∃ z : Int32, z = y5 + (1 : Int32) := ⟨_, rfl⟩
        have hw := hw v23 ev23
        refine lv_iinc (v := v23) (lv' := [(5, .int v23), (0, .ref (q 25)), (1, .ref (q 1)), (2, .ref (q 6)), (3, .ref (q 18)), (4, .int z4)]) hx hb dX2_learn_97 hl (k := 5) rfl (by rw [ev23]; rfl) (by decide) rfl (fun ls hl => ?_)
        refine lv_goto (tgt := 72) hx hb dX2_learn_100 (by decide) ?_
        exact ih v23 σ22 _ _ _ hw hk103 hP hS (lv_sub hl [1, 2, 3, 4, 5, 0] rfl)
  have L52 : ∀ (K153 : Int32 → hsS → Prop) (n : Nat) (y4 : Int32) (σ : hsS) (H : Heap) (locs : List Loc) (ls : Array Slot), wX2_learn_L52 25 1 6 18 K153 post n y4 σ → (∀ (y4 : Int32) (σ : hsS) (H : Heap) (locs : List Loc) (ls : Array Slot), K153 y4 σ → va_P D vwCl (xw c q σ) H → va_S (wdA 36 q) s.heap H locs → lv_has ls 6 [(0, .ref (q 25)), (1, .ref (q 1)), (2, .ref (q 6)), (3, .ref (q 18)), (4, .int y4)] → W p l e (headSpec (Cond.code yX2_learn cX2_learn 6 none :: tb_L) { frames := 4, cells := 0, slots := 0, locals := 115 }).room s m [.ref (q 25), .ref (q 1), .ref (q 6), .ref (q 18)].toArray below meth c₀ H locs 0 0 (MQ below (va_Qv post (wdB D (xw c q)) (wdA 36 q)) [.ref (q 25), .ref (q 1), .ref (q 6), .ref (q 18)].toArray s 0 0 (wdA 36 q)) (F0 m 153 ls [])) → va_P D vwCl (xw c q σ) H → va_S (wdA 36 q) s.heap H locs → lv_has ls 6 [(0, .ref (q 25)), (1, .ref (q 1)), (2, .ref (q 6)), (3, .ref (q 18)), (4, .int y4)] → W p l e (headSpec (Cond.code yX2_learn cX2_learn 6 none :: tb_L) { frames := 4, cells := 0, slots := 0, locals := 115 }).room s m [.ref (q 25), .ref (q 1), .ref (q 6), .ref (q 18)].toArray below meth c₀ H locs 0 0 (MQ below (va_Qv post (wdB D (xw c q)) (wdA 36 q)) [.ref (q 25), .ref (q 1), .ref (q 6), .ref (q 18)].toArray s 0 0 (wdA 36 q)) (F0 m 52 ls []) := by
    intro K153 n
    induction n with
    | zero =>
      intro y4 σ H locs ls hw hk153 hP hS hl
      exact (show False from hw).elim
    | succ n ih =>
      intro y4 σ H locs ls hw hk153 hP hS hl
      rw [wX2_learn_L52] at hw
      have hD : va_D (wdA 36 q) (xw c q σ) := xw_D hD0
      refine lv_iload hx hb dX2_learn_52 (lv_at hl 4 rfl) ?_
      refine lv_aload_n hx hb dX2_learn_54 rfl (lv_at hl 0 rfl) ?_
      refine va_get (D := D) (ci := 2) (C := RX2) (T := TX2) (N := 8) hx hb htb inX2 hown hK hP 25 (xw_25 c q σ) rfl 5 (by decide) (htb _ tb_290) (fun _ h9 => h9) rfl dX2_learn_55 ?_
      refine lv_icmp_ge (tgt := 153) hx hb dX2_learn_58 (by decide) (fun c16 => ?_) (fun c16 => ?_)
      · have hw := hw.1 c16
        exact hk153 y4 σ _ _ _ hw hP hS (lv_sub hl [0, 1, 2, 3, 4] rfl)
      · have hw := hw.2 c16
        refine lv_iload hx hb dX2_learn_61 (lv_at hl 4 rfl) ?_
        refine lv_sipush (v := (240 : Int32)) hx hb dX2_learn_63 (by decide) ?_
        refine lv_icmp_ge (tgt := 153) hx hb dX2_learn_66 (by decide) (fun c17 => ?_) (fun c17 => ?_)
        · have hw := hw.1 c17
          exact hk153 y4 σ _ _ _ hw hP hS (lv_sub hl [0, 1, 2, 3, 4] rfl)
        · have hw := hw.2 c17
          refine lv_iconst (v := (0 : Int32)) hx hb dX2_learn_69 (by decide) ?_
          refine lv_istore (lv' := [(5, .int (0 : Int32)), (0, .ref (q 25)), (1, .ref (q 1)), (2, .ref (q 6)), (3, .ref (q 18)), (4, .int y4)]) hx hb dX2_learn_70 hl (by decide) rfl (fun ls hl => ?_)
          obtain ⟨n24, hw⟩ := hw
          refine L72 _ y4 n24 (0 : Int32) σ _ _ _ hw ?_ hP hS (lv_sub hl [1, 2, 3, 4, 5, 0] rfl)
          intro v25 σ26 H locs ls hw hP hS hl
          have hD : va_D (wdA 36 q) (xw c q σ26) := xw_D hD0
          refine lv_aload_n hx hb dX2_learn_103 rfl (lv_at hl 0 rfl) ?_
          refine va_get (D := D) (ci := 2) (C := RX2) (T := TX2) (N := 8) hx hb htb inX2 hown hK hP 25 (xw_25 c q σ26) rfl 0 (by decide) (htb _ tb_285) (fun _ h9 => h9) rfl dX2_learn_104 ?_
          refine lv_iload hx hb dX2_learn_107 (lv_at hl 4 rfl) ?_
          refine lv_aload_n hx hb dX2_learn_109 rfl (lv_at hl 3 rfl) ?_
          refine lv_aload_n hx hb dX2_learn_110 rfl (lv_at hl 2 rfl) ?_
          refine va_calli (va_runV (As := [.ref (q 6)]) (rest := [.int y4, .ref (q 26)]) ⟨hx, hb, hml, hown, htb⟩ (kcX4_coreAsWeighed_18_6 l D c q ev hev σ26  _ hw) (tb_CW htb kX4_coreAsWeighed tb_602 tb_430 tb_431 ⟨Nat.le_of_ble_eq_true rfl, Nat.le_of_ble_eq_true rfl⟩) (wd_preV (wd := xw c q) (k := 18) hev hK hP hD hE hS (xw_18 c q σ26) rfl) rfl rfl hl.1 rfl (lv_room (Nat.le_of_ble_eq_true rfl)) dX2_learn_111 ⟨Nat.zero_le _, Nat.zero_le _⟩) hS (fun q _ h => h) (fun q h => h) (fun r27 σ28 t H1 locs1 ht hvm hw hB hz1 hk1 hS => ?_)
          have hP : va_P D vwCl (xw c q σ28) H1 := ht ▸ hB
          have hD : va_D (wdA 36 q) (xw c q σ28) := xw_D hD0
          refine va_iast hx hb hK hP hD hS 26 17 (xw_26 c q σ28) rfl hw.1 dX2_learn_114 (fun H locs hP hD hS => ?_)
          have hw := hw.2
          have hP : va_P D vwCl (xw c q (hsA σ28 26 (upd (σ28.2.1 26) y4.toNatClampNeg r27))) H := hP
          obtain ⟨σ29, eσ29⟩ : ∃ z : hsS, z = hsA σ28 26 (upd (σ28.2.1 26) y4.toNatClampNeg r27) := ⟨_, rfl⟩
          rw [← eσ29] at hP
          have hD : va_D (wdA 36 q) (xw c q σ29) := xw_D hD0
          have hw := hw σ29 eσ29
          refine lv_aload_n hx hb dX2_learn_115 rfl (lv_at hl 0 rfl) ?_
          refine lv_dup hx hb dX2_learn_116 rfl ?_
          refine va_get (D := D) (ci := 2) (C := RX2) (T := TX2) (N := 8) hx hb htb inX2 hown hK hP 25 (xw_25 c q σ29) rfl 6 (by decide) (htb _ tb_292) (fun _ h9 => h9) rfl dX2_learn_117 ?_
          refine lv_aload_n hx hb dX2_learn_120 rfl (lv_at hl 0 rfl) ?_
          refine va_get (D := D) (ci := 2) (C := RX2) (T := TX2) (N := 8) hx hb htb inX2 hown hK hP 25 (xw_25 c q σ29) rfl 0 (by decide) (htb _ tb_285) (fun _ h9 => h9) rfl dX2_learn_121 ?_
          refine lv_iload hx hb dX2_learn_124 (lv_at hl 4 rfl) ?_
          refine va_iald hx hb hK hP 26 17 (xw_26 c q σ29) rfl hw.1 dX2_learn_126 ?_
          have hw := hw.2
          refine lv_iand hx hb dX2_learn_127 ?_
          refine va_put (D := D) (ci := 2) (ty := .int) (C := RX2) (T := TX2) (N := 8) hx hb htb inX2 tyX2 tyX2_ok nmX2 hown hK hP hD hS 25 (xw_25 c q σ29) rfl 6 (by decide) (htb _ tb_292) (fun _ h9 => h9) rfl (by decide +kernel) rfl rfl (Nat.le_of_ble_eq_true rfl) dX2_learn_128 (fun H locs hP hD hS => ?_)
          have hP : va_P D vwCl (xw c q (hsI σ29 1606 ((σ29.1 1606) &&& (σ29.2.1 26 y4.toNatClampNeg)))) H := hP
          obtain ⟨σ30, eσ30⟩ : ∃ z : hsS, z = hsI σ29 1606 ((σ29.1 1606) &&& (σ29.2.1 26 y4.toNatClampNeg)) := ⟨_, rfl⟩
          rw [← eσ30] at hP
          have hD : va_D (wdA 36 q) (xw c q σ30) := xw_D hD0
          have hw := hw σ30 eσ30
          refine lv_aload_n hx hb dX2_learn_131 rfl (lv_at hl 0 rfl) ?_
          refine lv_dup hx hb dX2_learn_132 rfl ?_
          refine va_get (D := D) (ci := 2) (C := RX2) (T := TX2) (N := 8) hx hb htb inX2 hown hK hP 25 (xw_25 c q σ30) rfl 7 (by decide) (htb _ tb_294) (fun _ h9 => h9) rfl dX2_learn_133 ?_
          refine lv_aload_n hx hb dX2_learn_136 rfl (lv_at hl 0 rfl) ?_
          refine va_get (D := D) (ci := 2) (C := RX2) (T := TX2) (N := 8) hx hb htb inX2 hown hK hP 25 (xw_25 c q σ30) rfl 0 (by decide) (htb _ tb_285) (fun _ h9 => h9) rfl dX2_learn_137 ?_
          refine lv_iload hx hb dX2_learn_140 (lv_at hl 4 rfl) ?_
          refine va_iald hx hb hK hP 26 17 (xw_26 c q σ30) rfl hw.1 dX2_learn_142 ?_
          have hw := hw.2
          refine lv_ior hx hb dX2_learn_143 ?_
          refine va_put (D := D) (ci := 2) (ty := .int) (C := RX2) (T := TX2) (N := 8) hx hb htb inX2 tyX2 tyX2_ok nmX2 hown hK hP hD hS 25 (xw_25 c q σ30) rfl 7 (by decide) (htb _ tb_294) (fun _ h9 => h9) rfl (by decide +kernel) rfl rfl (Nat.le_of_ble_eq_true rfl) dX2_learn_144 (fun H locs hP hD hS => ?_)
          have hP : va_P D vwCl (xw c q (hsI σ30 1607 ((σ30.1 1607) ||| (σ30.2.1 26 y4.toNatClampNeg)))) H := hP
          obtain ⟨σ31, eσ31⟩ : ∃ z : hsS, z = hsI σ30 1607 ((σ30.1 1607) ||| (σ30.2.1 26 y4.toNatClampNeg)) := ⟨_, rfl⟩
          rw [← eσ31] at hP
          have hD : va_D (wdA 36 q) (xw c q σ31) := xw_D hD0
          have hw := hw σ31 eσ31
          obtain ⟨v32, ev32⟩ : ∃ z : Int32, z = y4 + (1 : Int32) := ⟨_, rfl⟩
          have hw := hw v32 ev32
          refine lv_iinc (v := v32) (lv' := [(4, .int v32), (0, .ref (q 25)), (1, .ref (q 1)), (2, .ref (q 6)), (3, .ref (q 18)), (5, .int v25)]) hx hb dX2_learn_147 hl (k := 4) rfl (by rw [ev32]; rfl) (by decide) rfl (fun ls hl => ?_)
          refine lv_goto (tgt := 52) hx hb dX2_learn_150 (by decide) ?_
          exact ih v32 σ31 _ _ _ hw hk153 hP hS (lv_sub hl [1, 2, 3, 4, 0] rfl)
  have hl := lv_entry ([.ref (q 25), .ref (q 1), .ref (q 6), .ref (q 18)]) (n := 6) (Nat.le_of_ble_eq_true rfl)
  rw [lg_entry_eq]
  generalize (lg_sl ([.ref (q 25), .ref (q 1), .ref (q 6), .ref (q 18)]) ++ List.replicate (6 - (lg_sl ([.ref (q 25), .ref (q 1), .ref (q 6), .ref (q 18)])).length) Slot.unset).toArray = ls at hl ⊢
  have hl : lv_has ls 6 [(0, .ref (q 25)), (1, .ref (q 1)), (2, .ref (q 6)), (3, .ref (q 18))] := hl
  unfold wX2_learn at hw
  refine lv_aload_n hx hb dX2_learn_0 rfl (lv_at hl 0 rfl) ?_
  refine va_get (D := D) (ci := 2) (C := RX2) (T := TX2) (N := 8) hx hb htb inX2 hown hK hP 25 (xw_25 c q σ) rfl 4 (by decide) (htb _ tb_289) (fun _ h9 => h9) rfl dX2_learn_1 ?_
  refine lv_if_eq (tgt := 8) hx hb dX2_learn_4 (by decide) (fun c1 => ?_) (fun c1 => ?_)
  · have hw := hw.1 c1
    refine lv_aload_n hx hb dX2_learn_8 rfl (lv_at hl 0 rfl) ?_
    refine lv_iconst (v := (1 : Int32)) hx hb dX2_learn_9 (by decide) ?_
    refine va_put (D := D) (ci := 2) (ty := .boolean) (C := RX2) (T := TX2) (N := 8) hx hb htb inX2 tyX2 tyX2_ok nmX2 hown hK hP hD hS 25 (xw_25 c q σ) rfl 4 (by decide) (htb _ tb_289) (fun _ h9 => h9) rfl (by decide +kernel) rfl rfl (Nat.le_of_ble_eq_true rfl) dX2_learn_10 (fun H locs hP hD hS => ?_)
    have hP : va_P D vwCl (xw c q (hsI σ 1604 (1 : Int32))) H := hP
    obtain ⟨σ2, eσ2⟩ : ∃ z : hsS, z = hsI σ 1604 (1 : Int32) := ⟨_, rfl⟩
    rw [← eσ2] at hP
    have hD : va_D (wdA 36 q) (xw c q σ2) := xw_D hD0
    have hw := hw σ2 eσ2
    refine lv_aload_n hx hb dX2_learn_13 rfl (lv_at hl 0 rfl) ?_
    refine lv_aload_n hx hb dX2_learn_14 rfl (lv_at hl 1 rfl) ?_
    refine va_callv (va_runV (As := [.ref (q 1)]) (rest := []) ⟨hx, hb, hml, hown, htb⟩ (kcX2_countWays_25_1 l D c q ev hev tF hF σ2  _ hw) (tb_CW htb kX2_countWays tb_546 tb_548 tb_5 ⟨Nat.le_of_ble_eq_true rfl, Nat.le_of_ble_eq_true rfl⟩) (wd_preV (wd := xw c q) (k := 25) hev hK hP hD hE hS (xw_25 c q σ2) rfl) rfl rfl hl.1 rfl (lv_room (Nat.le_of_ble_eq_true rfl)) dX2_learn_15 ⟨Nat.zero_le _, Nat.zero_le _⟩) hS (fun q _ h => h) (fun q h => h) (fun σ4 t H1 locs1 ht hvm hw hB hz1 hk1 hS => ?_)
    have hP : va_P D vwCl (xw c q σ4) H1 := ht ▸ hB
    have hD : va_D (wdA 36 q) (xw c q σ4) := xw_D hD0
    refine lv_aload_n hx hb dX2_learn_18 rfl (lv_at hl 0 rfl) ?_
    refine va_calli (va_runV (As := []) (rest := []) ⟨hx, hb, hml, hown, htb⟩ (kcX2_spent_25 l D c q ev hev σ4  _ hw) (tb_CW htb kX2_spent tb_564 tb_565 tb_566 ⟨Nat.le_of_ble_eq_true rfl, Nat.le_of_ble_eq_true rfl⟩) (wd_preV (wd := xw c q) (k := 25) hev hK hP hD hE hS (xw_25 c q σ4) rfl) rfl rfl hl.1 rfl (lv_room (Nat.le_of_ble_eq_true rfl)) dX2_learn_19 ⟨Nat.zero_le _, Nat.zero_le _⟩) hS (fun q _ h => h) (fun q h => h) (fun r5 σ6 t H1 locs1 ht hvm hw hB hz1 hk1 hS => ?_)
    have hP : va_P D vwCl (xw c q σ6) H1 := ht ▸ hB
    have hD : va_D (wdA 36 q) (xw c q σ6) := xw_D hD0
    refine lv_if_eq (tgt := 26) hx hb dX2_learn_22 (by decide) (fun c7 => ?_) (fun c7 => ?_)
    · have hw := hw.1 c7
      refine lv_aload_n hx hb dX2_learn_26 rfl (lv_at hl 2 rfl) ?_
      refine lv_aload_n hx hb dX2_learn_27 rfl (lv_at hl 1 rfl) ?_
      refine va_callv (va_runV (As := [.ref (q 1)]) (rest := []) ⟨hx, hb, hml, hown, htb⟩ (kcX1_takeFrom_6_1 l D c q ev hev σ6  _ hw) (tb_CW htb kX1_takeFrom tb_568 tb_569 tb_570 ⟨Nat.le_of_ble_eq_true rfl, Nat.le_of_ble_eq_true rfl⟩) (wd_preV (wd := xw c q) (k := 6) hev hK hP hD hE hS (xw_6 c q σ6) rfl) rfl rfl hl.1 rfl (lv_room (Nat.le_of_ble_eq_true rfl)) dX2_learn_28 ⟨Nat.zero_le _, Nat.zero_le _⟩) hS (fun q _ h => h) (fun q h => h) (fun σ9 t H1 locs1 ht hvm hw hB hz1 hk1 hS => ?_)
      have hP : va_P D vwCl (xw c q σ9) H1 := ht ▸ hB
      have hD : va_D (wdA 36 q) (xw c q σ9) := xw_D hD0
      refine lv_aload_n hx hb dX2_learn_31 rfl (lv_at hl 3 rfl) ?_
      refine lv_aload_n hx hb dX2_learn_32 rfl (lv_at hl 1 rfl) ?_
      refine va_callv (va_runV (As := [.ref (q 1)]) (rest := []) ⟨hx, hb, hml, hown, htb⟩ (kcX4_weigh_18_1 l D c q ev hev σ9  _ hw) (tb_CW htb kX4_weigh tb_575 tb_424 tb_425 ⟨Nat.le_of_ble_eq_true rfl, Nat.le_of_ble_eq_true rfl⟩) (wd_preV (wd := xw c q) (k := 18) hev hK hP hD hE hS (xw_18 c q σ9) rfl) rfl rfl hl.1 rfl (lv_room (Nat.le_of_ble_eq_true rfl)) dX2_learn_33 ⟨Nat.zero_le _, Nat.zero_le _⟩) hS (fun q _ h => h) (fun q h => h) (fun σ11 t H1 locs1 ht hvm hw hB hz1 hk1 hS => ?_)
      have hP : va_P D vwCl (xw c q σ11) H1 := ht ▸ hB
      have hD : va_D (wdA 36 q) (xw c q σ11) := xw_D hD0
      refine lv_aload_n hx hb dX2_learn_36 rfl (lv_at hl 0 rfl) ?_
      refine lv_aload_n hx hb dX2_learn_37 rfl (lv_at hl 1 rfl) ?_
      refine va_calli (va_runV (As := []) (rest := [.ref (q 25)]) ⟨hx, hb, hml, hown, htb⟩ (kcX1_allThings_1 l D c q ev hev σ11  _ hw) (tb_CW htb kX1_allThings tb_576 tb_438 tb_439 ⟨Nat.le_of_ble_eq_true rfl, Nat.le_of_ble_eq_true rfl⟩) (wd_preV (wd := xw c q) (k := 1) hev hK hP hD hE hS (xw_1 c q σ11) rfl) rfl rfl hl.1 rfl (lv_room (Nat.le_of_ble_eq_true rfl)) dX2_learn_38 ⟨Nat.zero_le _, Nat.zero_le _⟩) hS (fun q _ h => h) (fun q h => h) (fun r12 σ13 t H1 locs1 ht hvm hw hB hz1 hk1 hS => ?_)
      have hP : va_P D vwCl (xw c q σ13) H1 := ht ▸ hB
      have hD : va_D (wdA 36 q) (xw c q σ13) := xw_D hD0
      refine va_put (D := D) (ci := 2) (ty := .int) (C := RX2) (T := TX2) (N := 8) hx hb htb inX2 tyX2 tyX2_ok nmX2 hown hK hP hD hS 25 (xw_25 c q σ13) rfl 6 (by decide) (htb _ tb_292) (fun _ h9 => h9) rfl (by decide +kernel) rfl rfl (Nat.le_of_ble_eq_true rfl) dX2_learn_41 (fun H locs hP hD hS => ?_)
      have hP : va_P D vwCl (xw c q (hsI σ13 1606 r12)) H := hP
      obtain ⟨σ14, eσ14⟩ : ∃ z : hsS, z = hsI σ13 1606 r12 := ⟨_, rfl⟩
      rw [← eσ14] at hP
      have hD : va_D (wdA 36 q) (xw c q σ14) := xw_D hD0
      have hw := hw σ14 eσ14
      refine lv_aload_n hx hb dX2_learn_44 rfl (lv_at hl 0 rfl) ?_
      refine lv_iconst (v := (0 : Int32)) hx hb dX2_learn_45 (by decide) ?_
      refine va_put (D := D) (ci := 2) (ty := .int) (C := RX2) (T := TX2) (N := 8) hx hb htb inX2 tyX2 tyX2_ok nmX2 hown hK hP hD hS 25 (xw_25 c q σ14) rfl 7 (by decide) (htb _ tb_294) (fun _ h9 => h9) rfl (by decide +kernel) rfl rfl (Nat.le_of_ble_eq_true rfl) dX2_learn_46 (fun H locs hP hD hS => ?_)
      have hP : va_P D vwCl (xw c q (hsI σ14 1607 (0 : Int32))) H := hP
      obtain ⟨σ15, eσ15⟩ : ∃ z : hsS, z = hsI σ14 1607 (0 : Int32) := ⟨_, rfl⟩
      rw [← eσ15] at hP
      have hD : va_D (wdA 36 q) (xw c q σ15) := xw_D hD0
      have hw := hw σ15 eσ15
      refine lv_iconst (v := (0 : Int32)) hx hb dX2_learn_49 (by decide) ?_
      refine lv_istore (lv' := [(4, .int (0 : Int32)), (0, .ref (q 25)), (1, .ref (q 1)), (2, .ref (q 6)), (3, .ref (q 18))]) hx hb dX2_learn_50 hl (by decide) rfl (fun ls hl => ?_)
      obtain ⟨n33, hw⟩ := hw
      refine L52 _ n33 (0 : Int32) σ15 _ _ _ hw ?_ hP hS (lv_sub hl [1, 2, 3, 4, 0] rfl)
      intro v34 σ35 H locs ls hw hP hS hl
      have hD : va_D (wdA 36 q) (xw c q σ35) := xw_D hD0
      exact W.vret hx hb hr (fun t ht hW => ⟨⟨σ35, rfl, hw, by unfold wdB; rw [ht]; exact hP⟩, hS.F ht⟩) hS.2.2 dX2_learn_153
    · have hw := hw.2 c7
      exact W.vret hx hb hr (fun t ht hW => ⟨⟨σ6, rfl, hw, by unfold wdB; rw [ht]; exact hP⟩, hS.F ht⟩) hS.2.2 dX2_learn_25
  · have hw := hw.2 c1
    exact W.vret hx hb hr (fun t ht hW => ⟨⟨σ, rfl, hw, by unfold wdB; rw [ht]; exact hP⟩, hS.F ht⟩) hS.2.2 dX2_learn_7
def wX7_ties (x1 : Int32) (post : Int32 → hsS → Prop) (px : hsS → Prop) (σ : hsS) : Prop := ((x1 < (0 : Int32) → px σ) ∧ (¬ x1 < (0 : Int32) → ((x1 ≤ (3 : Int32) → wX2_learn 25 1 6 18 (fun σ4 => wX2_spent 25 (fun r5 σ6 => ((r5 = (0 : Int32) → ((x1 = (0 : Int32) → post (σ6.1 1605) σ6) ∧ (¬ x1 = (0 : Int32) → ((x1 = (1 : Int32) → post (σ6.1 1606) σ6) ∧ (¬ x1 = (1 : Int32) → ((x1 = (2 : Int32) → wX1_allThings 1 (fun r10 σ11 => post (r10 &&& ((σ11.1 1607) ^^^ (-1 : Int32))) σ11) σ6) ∧ (¬ x1 = (2 : Int32) → post ((σ6.1 1607) &&& ((σ6.1 1606) ^^^ (-1 : Int32))) σ6))))))) ∧ (¬ r5 = (0 : Int32) → post (-1 : Int32) σ6))) σ4) σ) ∧ (¬ x1 ≤ (3 : Int32) → px σ))))
set_option maxHeartbeats 4000000 in
set_option maxRecDepth 100000 in
theorem kcX7_ties (l : Launch) (D : va_G) (c : Nat → ClassId) (q : Nat → Nat) (ev : State → Heap → Prop) (hev : evOK (wdA 36 q) ev) (tF : Nat) (hF : ∀ (U : State) (H : Heap), ev U H → va_Z "StrikeHall" "FACTORIALS" "[I" (.ref tF) (wdA 36 q) U H ∧ va_T .int tF 10 (fun j => .int (xfact j)) (wdA 36 q) U H) (hst : l.stackTraces = false) (hX : ∀ (U : State) (H : Heap), ev U H → evT (wdA 36 q) U H) (σ : hsS) (x1 : Int32) (post : Int32 → hsS → Prop) (px : hsS → Prop) (hw : wX7_ties x1 post px σ) : vx_Met l yX7_ties (Cond.code yX7_ties cX7_ties 2 (some .int) :: tb_L) { frames := 8, cells := 1, slots := 6, locals := 140 } (wdPc D (xw c q) (xwT c) (wdA 36 q) ev σ [.ref (q 0), .int x1]) (va_Qi post (wdB D (xw c q)) (wdA 36 q)) (vx_X px (xpB D (xw c q) "java/util/NoSuchElementException") (wdA 36 q)) 1 6 (wdA 36 q) := by
  refine vx_ofW (cc := cX7_ties) (maxL := 2) (ret := (some .int)) (by decide) rfl ?_
  intro p e s m args below meth c₀ s₁ Bd hml htab hv
  obtain ⟨rfl, hP, hK, hD0, hE⟩ := hv
  have hx := Bd.exec
  have hb := Bd.bytes
  have hr := Bd.returns
  have hts := atoms_spec (ws := Cond.code yX7_ties cX7_ties 2 (some .int) :: tb_L) Bd.pre
  have htb : ∀ w ∈ tb_L, w.before [.ref (q 0), .int x1].toArray s = true := fun w h => hts w (List.mem_cons_of_mem _ h)
  have hown : s.vm.findClass RX7 = some m.cls := findClass_of_methodNamed Bd.named
  have hlocks := Bd.notSynchronized
  have hS : va_S (wdA 36 q) s.heap s.heap [] := va_S.rf
  have hD := hD0
  have hl := lv_entry ([.ref (q 0), .int x1]) (n := 2) (Nat.le_of_ble_eq_true rfl)
  rw [lg_entry_eq]
  generalize (lg_sl ([.ref (q 0), .int x1]) ++ List.replicate (2 - (lg_sl ([.ref (q 0), .int x1])).length) Slot.unset).toArray = ls at hl ⊢
  have hl : lv_has ls 2 [(0, .ref (q 0)), (1, .int x1)] := hl
  unfold wX7_ties at hw
  refine lv_iload_n hx hb dX7_ties_0 rfl (lv_at hl 1 rfl) ?_
  refine lv_if_lt (tgt := 9) hx hb dX7_ties_1 (by decide) (fun c1 => ?_) (fun c1 => ?_)
  · have hw := hw.1 c1
    obtain ⟨hU9, hN9, hF9, hR9⟩ := hX s s.heap hE
    obtain ⟨sa9, hsa9⟩ := hR9 (274, "no such answer about ties") (by decide)
    exact xt_throwSW hx hb hst (own := "StrikeHall") (cls := "java/util/NoSuchElementException") (text := "no such answer about ties") (names := ["java/lang/Exception"]) (ix := 13) (rx := xt_rx) (Yc := "java/lang/RuntimeException") hown (by decide) (by decide) (by decide +kernel) (by decide +kernel) (by decide +kernel) (by decide +kernel) (by decide) (htb _ tb_883) (htb _ tb_111) hsa9 (hat_NSE htb hF9) hot_NSE hU9 hN9 hS (hl.1.trans hml.symm) dX7_ties_9 dX7_ties_12 dX7_ties_13 dX7_ties_16 dX7_ties_19 (fun x h => (htab x h).elim) (Nat.le_of_ble_eq_true rfl) (Nat.le_of_ble_eq_true rfl) (Nat.le_of_ble_eq_true rfl) (Nat.le_of_ble_eq_true rfl) hlocks (fun t hvm hsz hk => ⟨σ, hw, ⟨rfl, wd_grow hP hk⟩, wd_F hS hsz hk⟩) hS.2.2 (Nat.le_of_ble_eq_true rfl) (Nat.le_of_ble_eq_true rfl)
  · have hw := hw.2 c1
    refine lv_iload_n hx hb dX7_ties_4 rfl (lv_at hl 1 rfl) ?_
    refine lv_iconst (v := (3 : Int32)) hx hb dX7_ties_5 (by decide) ?_
    refine lv_icmp_le (tgt := 20) hx hb dX7_ties_6 (by decide) (fun c2 => ?_) (fun c2 => ?_)
    · have hw := hw.1 c2
      refine lv_aload_n hx hb dX7_ties_20 rfl (lv_at hl 0 rfl) ?_
      refine va_get (D := D) (ci := 7) (C := RX7) (T := TX7) (N := 9) hx hb htb inX7 hown hK hP 0 (xw_0 c q σ) rfl 6 (by decide) (htb _ tb_348) (fun _ h9 => h9) rfl dX7_ties_21 ?_
      refine lv_aload_n hx hb dX7_ties_24 rfl (lv_at hl 0 rfl) ?_
      refine va_get (D := D) (ci := 7) (C := RX7) (T := TX7) (N := 9) hx hb htb inX7 hown hK hP 0 (xw_0 c q σ) rfl 0 (by decide) (htb _ tb_342) (fun _ h9 => h9) rfl dX7_ties_25 ?_
      refine lv_aload_n hx hb dX7_ties_28 rfl (lv_at hl 0 rfl) ?_
      refine va_get (D := D) (ci := 7) (C := RX7) (T := TX7) (N := 9) hx hb htb inX7 hown hK hP 0 (xw_0 c q σ) rfl 1 (by decide) (htb _ tb_343) (fun _ h9 => h9) rfl dX7_ties_29 ?_
      refine lv_aload_n hx hb dX7_ties_32 rfl (lv_at hl 0 rfl) ?_
      refine va_get (D := D) (ci := 7) (C := RX7) (T := TX7) (N := 9) hx hb htb inX7 hown hK hP 0 (xw_0 c q σ) rfl 3 (by decide) (htb _ tb_345) (fun _ h9 => h9) rfl dX7_ties_33 ?_
      refine va_callv (va_runV (As := [.ref (q 1), .ref (q 6), .ref (q 18)]) (rest := []) ⟨hx, hb, hml, hown, htb⟩ (kcX2_learn_25_1_6_18 l D c q ev hev tF hF σ  _ hw) (tb_CW htb kX2_learn tb_542 tb_543 tb_544 ⟨Nat.le_of_ble_eq_true rfl, Nat.le_of_ble_eq_true rfl⟩) (wd_preV (wd := xw c q) (k := 25) hev hK hP hD hE hS (xw_25 c q σ) rfl) rfl rfl hl.1 rfl (lv_room (Nat.le_of_ble_eq_true rfl)) dX7_ties_36 ⟨Nat.le_of_ble_eq_true rfl, Nat.le_of_ble_eq_true rfl⟩) hS (fun q _ h => h) (fun q h => h) (fun σ4 t H1 locs1 ht hvm hw hB hz1 hk1 hS => ?_)
      have hP : va_P D vwCl (xw c q σ4) H1 := ht ▸ hB
      have hD : va_D (wdA 36 q) (xw c q σ4) := xw_D hD0
      refine lv_aload_n hx hb dX7_ties_39 rfl (lv_at hl 0 rfl) ?_
      refine va_get (D := D) (ci := 7) (C := RX7) (T := TX7) (N := 9) hx hb htb inX7 hown hK hP 0 (xw_0 c q σ4) rfl 6 (by decide) (htb _ tb_348) (fun _ h9 => h9) rfl dX7_ties_40 ?_
      refine va_calli (va_runV (As := []) (rest := []) ⟨hx, hb, hml, hown, htb⟩ (kcX2_spent_25 l D c q ev hev σ4  _ hw) (tb_CW htb kX2_spent tb_603 tb_565 tb_566 ⟨Nat.le_of_ble_eq_true rfl, Nat.le_of_ble_eq_true rfl⟩) (wd_preV (wd := xw c q) (k := 25) hev hK hP hD hE hS (xw_25 c q σ4) rfl) rfl rfl hl.1 rfl (lv_room (Nat.le_of_ble_eq_true rfl)) dX7_ties_43 ⟨Nat.le_of_ble_eq_true rfl, Nat.le_of_ble_eq_true rfl⟩) hS (fun q _ h => h) (fun q h => h) (fun r5 σ6 t H1 locs1 ht hvm hw hB hz1 hk1 hS => ?_)
      have hP : va_P D vwCl (xw c q σ6) H1 := ht ▸ hB
      have hD : va_D (wdA 36 q) (xw c q σ6) := xw_D hD0
      refine lv_if_eq (tgt := 51) hx hb dX7_ties_46 (by decide) (fun c7 => ?_) (fun c7 => ?_)
      · have hw := hw.1 c7
        refine lv_iload_n hx hb dX7_ties_51 rfl (lv_at hl 1 rfl) ?_
        by_cases c8 : x1 = (0 : Int32)
        · have hw := hw.1 c8
          refine lv_tableIn (off := 28) (tgt := 80) hx hb dX7_ties_52 (by rw [c8]; decide) (by rw [c8]; decide) (by rw [c8]; rfl) (by decide) ?_
          refine lv_aload_n hx hb dX7_ties_80 rfl (lv_at hl 0 rfl) ?_
          refine va_get (D := D) (ci := 7) (C := RX7) (T := TX7) (N := 9) hx hb htb inX7 hown hK hP 0 (xw_0 c q σ6) rfl 6 (by decide) (htb _ tb_348) (fun _ h9 => h9) rfl dX7_ties_81 ?_
          refine va_getN (D := D) (ci := 2) (C := RX2) (T := TX2) (N := 8) hx hb htb inX2 hown hK hP 25 (xw_25 c q σ6) rfl 5 (by decide) (htb _ tb_291) (fun _ h9 => h9) rfl dX7_ties_84 ?_
          exact vx_ret (W.widen (k := 1) (n := 6) (Nat.le_of_ble_eq_true rfl) (Nat.le_of_ble_eq_true rfl) (W.iret hx hb hr (fun t ht hW => ⟨⟨_, σ6, rfl, hw, by unfold wdB; rw [ht]; exact hP⟩, hS.F ht⟩) hS.2.2 dX7_ties_87))
        · have hw := hw.2 c8
          by_cases c9 : x1 = (1 : Int32)
          · have hw := hw.1 c9
            refine lv_tableIn (off := 36) (tgt := 88) hx hb dX7_ties_52 (by rw [c9]; decide) (by rw [c9]; decide) (by rw [c9]; rfl) (by decide) ?_
            refine lv_aload_n hx hb dX7_ties_88 rfl (lv_at hl 0 rfl) ?_
            refine va_get (D := D) (ci := 7) (C := RX7) (T := TX7) (N := 9) hx hb htb inX7 hown hK hP 0 (xw_0 c q σ6) rfl 6 (by decide) (htb _ tb_348) (fun _ h9 => h9) rfl dX7_ties_89 ?_
            refine va_getN (D := D) (ci := 2) (C := RX2) (T := TX2) (N := 8) hx hb htb inX2 hown hK hP 25 (xw_25 c q σ6) rfl 6 (by decide) (htb _ tb_293) (fun _ h9 => h9) rfl dX7_ties_92 ?_
            exact vx_ret (W.widen (k := 1) (n := 6) (Nat.le_of_ble_eq_true rfl) (Nat.le_of_ble_eq_true rfl) (W.iret hx hb hr (fun t ht hW => ⟨⟨_, σ6, rfl, hw, by unfold wdB; rw [ht]; exact hP⟩, hS.F ht⟩) hS.2.2 dX7_ties_95))
          · have hw := hw.2 c9
            by_cases c12 : x1 = (2 : Int32)
            · have hw := hw.1 c12
              refine lv_tableIn (off := 44) (tgt := 96) hx hb dX7_ties_52 (by rw [c12]; decide) (by rw [c12]; decide) (by rw [c12]; rfl) (by decide) ?_
              refine lv_aload_n hx hb dX7_ties_96 rfl (lv_at hl 0 rfl) ?_
              refine va_get (D := D) (ci := 7) (C := RX7) (T := TX7) (N := 9) hx hb htb inX7 hown hK hP 0 (xw_0 c q σ6) rfl 0 (by decide) (htb _ tb_342) (fun _ h9 => h9) rfl dX7_ties_97 ?_
              refine va_calli (va_runV (As := []) (rest := []) ⟨hx, hb, hml, hown, htb⟩ (kcX1_allThings_1 l D c q ev hev σ6  _ hw) (tb_CW htb kX1_allThings tb_525 tb_438 tb_439 ⟨Nat.le_of_ble_eq_true rfl, Nat.le_of_ble_eq_true rfl⟩) (wd_preV (wd := xw c q) (k := 1) hev hK hP hD hE hS (xw_1 c q σ6) rfl) rfl rfl hl.1 rfl (lv_room (Nat.le_of_ble_eq_true rfl)) dX7_ties_100 ⟨Nat.le_of_ble_eq_true rfl, Nat.le_of_ble_eq_true rfl⟩) hS (fun q _ h => h) (fun q h => h) (fun r10 σ11 t H1 locs1 ht hvm hw hB hz1 hk1 hS => ?_)
              have hP : va_P D vwCl (xw c q σ11) H1 := ht ▸ hB
              have hD : va_D (wdA 36 q) (xw c q σ11) := xw_D hD0
              refine lv_aload_n hx hb dX7_ties_103 rfl (lv_at hl 0 rfl) ?_
              refine va_get (D := D) (ci := 7) (C := RX7) (T := TX7) (N := 9) hx hb htb inX7 hown hK hP 0 (xw_0 c q σ11) rfl 6 (by decide) (htb _ tb_348) (fun _ h9 => h9) rfl dX7_ties_104 ?_
              refine va_getN (D := D) (ci := 2) (C := RX2) (T := TX2) (N := 8) hx hb htb inX2 hown hK hP 25 (xw_25 c q σ11) rfl 7 (by decide) (htb _ tb_295) (fun _ h9 => h9) rfl dX7_ties_107 ?_
              refine lv_iconst (v := (-1 : Int32)) hx hb dX7_ties_110 (by decide) ?_
              refine lv_ixor hx hb dX7_ties_111 ?_
              refine lv_iand hx hb dX7_ties_112 ?_
              exact vx_ret (W.widen (k := 1) (n := 6) (Nat.le_of_ble_eq_true rfl) (Nat.le_of_ble_eq_true rfl) (W.iret hx hb hr (fun t ht hW => ⟨⟨_, σ11, rfl, hw, by unfold wdB; rw [ht]; exact hP⟩, hS.F ht⟩) hS.2.2 dX7_ties_113))
            · have hw := hw.2 c12
              have hz : ¬ (x1).toInt = 0 ∧ ¬ (x1).toInt = 1 ∧ ¬ (x1).toInt = 2 := by
                exact ⟨lv_neT (a := 0) c8 rfl, lv_neT (a := 1) c9 rfl, lv_neT (a := 2) c12 rfl⟩
              refine lv_tableOut (tgt := 114) hx hb dX7_ties_52 (by omega) (by decide) ?_
              refine lv_aload_n hx hb dX7_ties_114 rfl (lv_at hl 0 rfl) ?_
              refine va_get (D := D) (ci := 7) (C := RX7) (T := TX7) (N := 9) hx hb htb inX7 hown hK hP 0 (xw_0 c q σ6) rfl 6 (by decide) (htb _ tb_348) (fun _ h9 => h9) rfl dX7_ties_115 ?_
              refine va_getN (D := D) (ci := 2) (C := RX2) (T := TX2) (N := 8) hx hb htb inX2 hown hK hP 25 (xw_25 c q σ6) rfl 7 (by decide) (htb _ tb_295) (fun _ h9 => h9) rfl dX7_ties_118 ?_
              refine lv_aload_n hx hb dX7_ties_121 rfl (lv_at hl 0 rfl) ?_
              refine va_get (D := D) (ci := 7) (C := RX7) (T := TX7) (N := 9) hx hb htb inX7 hown hK hP 0 (xw_0 c q σ6) rfl 6 (by decide) (htb _ tb_348) (fun _ h9 => h9) rfl dX7_ties_122 ?_
              refine va_getN (D := D) (ci := 2) (C := RX2) (T := TX2) (N := 8) hx hb htb inX2 hown hK hP 25 (xw_25 c q σ6) rfl 6 (by decide) (htb _ tb_293) (fun _ h9 => h9) rfl dX7_ties_125 ?_
              refine lv_iconst (v := (-1 : Int32)) hx hb dX7_ties_128 (by decide) ?_
              refine lv_ixor hx hb dX7_ties_129 ?_
              refine lv_iand hx hb dX7_ties_130 ?_
              exact vx_ret (W.widen (k := 1) (n := 6) (Nat.le_of_ble_eq_true rfl) (Nat.le_of_ble_eq_true rfl) (W.iret hx hb hr (fun t ht hW => ⟨⟨_, σ6, rfl, hw, by unfold wdB; rw [ht]; exact hP⟩, hS.F ht⟩) hS.2.2 dX7_ties_131))
      · have hw := hw.2 c7
        refine lv_iconst (v := (-1 : Int32)) hx hb dX7_ties_49 (by decide) ?_
        exact vx_ret (W.widen (k := 1) (n := 6) (Nat.le_of_ble_eq_true rfl) (Nat.le_of_ble_eq_true rfl) (W.iret hx hb hr (fun t ht hW => ⟨⟨_, σ6, rfl, hw, by unfold wdB; rw [ht]; exact hP⟩, hS.F ht⟩) hS.2.2 dX7_ties_50))
    · have hw := hw.2 c2
      obtain ⟨hU9, hN9, hF9, hR9⟩ := hX s s.heap hE
      obtain ⟨sa9, hsa9⟩ := hR9 (274, "no such answer about ties") (by decide)
      exact xt_throwSW hx hb hst (own := "StrikeHall") (cls := "java/util/NoSuchElementException") (text := "no such answer about ties") (names := ["java/lang/Exception"]) (ix := 13) (rx := xt_rx) (Yc := "java/lang/RuntimeException") hown (by decide) (by decide) (by decide +kernel) (by decide +kernel) (by decide +kernel) (by decide +kernel) (by decide) (htb _ tb_883) (htb _ tb_111) hsa9 (hat_NSE htb hF9) hot_NSE hU9 hN9 hS (hl.1.trans hml.symm) dX7_ties_9 dX7_ties_12 dX7_ties_13 dX7_ties_16 dX7_ties_19 (fun x h => (htab x h).elim) (Nat.le_of_ble_eq_true rfl) (Nat.le_of_ble_eq_true rfl) (Nat.le_of_ble_eq_true rfl) (Nat.le_of_ble_eq_true rfl) hlocks (fun t hvm hsz hk => ⟨σ, hw, ⟨rfl, wd_grow hP hk⟩, wd_F hS hsz hk⟩) hS.2.2 (Nat.le_of_ble_eq_true rfl) (Nat.le_of_ble_eq_true rfl)
def wX2_openOnceTold_L8 (b0 : Nat) (z1 : Int32) (z2 : Int32) (K64 : Int32 → Int32 → Int32 → hsS → Prop) (post : Int32 → hsS → Prop) : Nat → Int32 → Int32 → Int32 → hsS → Prop
  | 0, _, _, _, _ => False
  | n + 1, y3, y4, y5, σ => (((σ.1 (64 * b0 + 5)) ≤ y5 → K64 y3 y4 y5 σ) ∧ (¬ (σ.1 (64 * b0 + 5)) ≤ y5 → (((240 : Int32) ≤ y5 → K64 y3 y4 y5 σ) ∧ (¬ (240 : Int32) ≤ y5 → wX2_orderIn b0 y5 z1 (fun r3 σ4 => ((r3 = z2 → vp_in y5 240 ∧ ∀ v6 : Int32, v6 = y3 &&& (σ4.2.1 (b0 + 1) y5.toNatClampNeg) → vp_in y5 240 ∧ ∀ v7 : Int32, v7 = y4 ||| (σ4.2.1 (b0 + 1) y5.toNatClampNeg) → ∀ v8 : Int32, v8 = y5 + (1 : Int32) → wX2_openOnceTold_L8 b0 z1 z2 K64 post n v6 v7 v8 σ4) ∧ (¬ r3 = z2 → ∀ v9 : Int32, v9 = y5 + (1 : Int32) → wX2_openOnceTold_L8 b0 z1 z2 K64 post n y3 y4 v9 σ4))) σ))))
def wX2_openOnceTold (b0 : Nat) (x1 : Int32) (x2 : Int32) (post : Int32 → hsS → Prop) (σ : hsS) : Prop := ∃ n10, wX2_openOnceTold_L8 b0 x1 x2 (fun v11 v12 v13 σ14 => wJ6_bitCount_0f7a4 (v12 &&& (v11 ^^^ (-1 : Int32))) (fun r15 σ16 => post r15 σ16) σ14) post n10 (-1 : Int32) (0 : Int32) (0 : Int32) σ
set_option maxHeartbeats 4000000 in
set_option maxRecDepth 100000 in
theorem kcX2_openOnceTold_25 (l : Launch) (D : va_G) (c : Nat → ClassId) (q : Nat → Nat) (ev : State → Heap → Prop) (hev : evOK (wdA 36 q) ev) (σ : hsS) (x1 : Int32) (x2 : Int32) (post : Int32 → hsS → Prop) (hw : wX2_openOnceTold 25 x1 x2 post σ) : Met l yX2_openOnceTold (Cond.code yX2_openOnceTold cX2_openOnceTold 6 (some .int) :: tb_L) { frames := 2, cells := 0, slots := 0, locals := 62 } (wdPc D (xw c q) (xwT c) (wdA 36 q) ev σ [.ref (q 25), .int x1, .int x2]) (va_Qi post (wdB D (xw c q)) (wdA 36 q)) 0 0 (wdA 36 q) := by
  refine Met.ofW (cc := cX2_openOnceTold) (maxL := 6) (ret := (some .int)) (by decide) rfl ?_
  intro p e s m args below meth c₀ s₁ Bd hml hv
  obtain ⟨rfl, hP, hK, hD0, hE⟩ := hv
  have hx := Bd.exec
  have hb := Bd.bytes
  have hr := Bd.returns
  have hts := atoms_spec (ws := Cond.code yX2_openOnceTold cX2_openOnceTold 6 (some .int) :: tb_L) Bd.pre
  have htb : ∀ w ∈ tb_L, w.before [.ref (q 25), .int x1, .int x2].toArray s = true := fun w h => hts w (List.mem_cons_of_mem _ h)
  have hown : s.vm.findClass RX2 = some m.cls := findClass_of_methodNamed Bd.named
  have hlocks := Bd.notSynchronized
  have hS : va_S (wdA 36 q) s.heap s.heap [] := va_S.rf
  have hD := hD0
  have L8 : ∀ (K64 : Int32 → Int32 → Int32 → hsS → Prop) (z1 : Int32) (z2 : Int32) (n : Nat) (y3 : Int32) (y4 : Int32) (y5 : Int32) (σ : hsS) (H : Heap) (locs : List Loc) (ls : Array Slot), wX2_openOnceTold_L8 25 z1 z2 K64 post n y3 y4 y5 σ → (∀ (y3 : Int32) (y4 : Int32) (y5 : Int32) (σ : hsS) (H : Heap) (locs : List Loc) (ls : Array Slot), K64 y3 y4 y5 σ → va_P D vwCl (xw c q σ) H → va_S (wdA 36 q) s.heap H locs → lv_has ls 6 [(0, .ref (q 25)), (1, .int z1), (2, .int z2), (3, .int y3), (4, .int y4), (5, .int y5)] → W p l e (headSpec (Cond.code yX2_openOnceTold cX2_openOnceTold 6 (some .int) :: tb_L) { frames := 2, cells := 0, slots := 0, locals := 62 }).room s m [.ref (q 25), .int x1, .int x2].toArray below meth c₀ H locs 0 0 (MQ below (va_Qi post (wdB D (xw c q)) (wdA 36 q)) [.ref (q 25), .int x1, .int x2].toArray s 0 0 (wdA 36 q)) (F0 m 64 ls [])) → va_P D vwCl (xw c q σ) H → va_S (wdA 36 q) s.heap H locs → lv_has ls 6 [(0, .ref (q 25)), (1, .int z1), (2, .int z2), (3, .int y3), (4, .int y4), (5, .int y5)] → W p l e (headSpec (Cond.code yX2_openOnceTold cX2_openOnceTold 6 (some .int) :: tb_L) { frames := 2, cells := 0, slots := 0, locals := 62 }).room s m [.ref (q 25), .int x1, .int x2].toArray below meth c₀ H locs 0 0 (MQ below (va_Qi post (wdB D (xw c q)) (wdA 36 q)) [.ref (q 25), .int x1, .int x2].toArray s 0 0 (wdA 36 q)) (F0 m 8 ls []) := by
    intro K64 z1 z2 n
    induction n with
    | zero =>
      intro y3 y4 y5 σ H locs ls hw hk64 hP hS hl
      exact (show False from hw).elim
    | succ n ih =>
      intro y3 y4 y5 σ H locs ls hw hk64 hP hS hl
      rw [wX2_openOnceTold_L8] at hw
      have hD : va_D (wdA 36 q) (xw c q σ) := xw_D hD0
      refine lv_iload hx hb dX2_openOnceTold_8 (lv_at hl 5 rfl) ?_
      refine lv_aload_n hx hb dX2_openOnceTold_10 rfl (lv_at hl 0 rfl) ?_
      refine va_get (D := D) (ci := 2) (C := RX2) (T := TX2) (N := 8) hx hb htb inX2 hown hK hP 25 (xw_25 c q σ) rfl 5 (by decide) (htb _ tb_290) (fun _ h9 => h9) rfl dX2_openOnceTold_11 ?_
      refine lv_icmp_ge (tgt := 64) hx hb dX2_openOnceTold_14 (by decide) (fun c1 => ?_) (fun c1 => ?_)
      · have hw := hw.1 c1
        exact hk64 y3 y4 y5 σ _ _ _ hw hP hS (lv_sub hl [0, 1, 2, 3, 4, 5] rfl)
      · have hw := hw.2 c1
        refine lv_iload hx hb dX2_openOnceTold_17 (lv_at hl 5 rfl) ?_
        refine lv_sipush (v := (240 : Int32)) hx hb dX2_openOnceTold_19 (by decide) ?_
        refine lv_icmp_ge (tgt := 64) hx hb dX2_openOnceTold_22 (by decide) (fun c2 => ?_) (fun c2 => ?_)
        · have hw := hw.1 c2
          exact hk64 y3 y4 y5 σ _ _ _ hw hP hS (lv_sub hl [0, 1, 2, 3, 4, 5] rfl)
        · have hw := hw.2 c2
          refine lv_aload_n hx hb dX2_openOnceTold_25 rfl (lv_at hl 0 rfl) ?_
          refine lv_iload hx hb dX2_openOnceTold_26 (lv_at hl 5 rfl) ?_
          refine lv_iload_n hx hb dX2_openOnceTold_28 rfl (lv_at hl 1 rfl) ?_
          refine va_calli (va_runV (As := [.int y5, .int z1]) (rest := []) ⟨hx, hb, hml, hown, htb⟩ (kcX2_orderIn_25 l D c q ev hev σ y5 z1 _ hw) (tb_CW htb kX2_orderIn tb_577 tb_579 tb_6 ⟨Nat.le_of_ble_eq_true rfl, Nat.le_of_ble_eq_true rfl⟩) (wd_preV (wd := xw c q) (k := 25) hev hK hP hD hE hS (xw_25 c q σ) rfl) rfl rfl hl.1 rfl (lv_room (Nat.le_of_ble_eq_true rfl)) dX2_openOnceTold_29 ⟨Nat.zero_le _, Nat.zero_le _⟩) hS (fun q _ h => h) (fun q h => h) (fun r3 σ4 t H1 locs1 ht hvm hw hB hz1 hk1 hS => ?_)
          have hP : va_P D vwCl (xw c q σ4) H1 := ht ▸ hB
          have hD : va_D (wdA 36 q) (xw c q σ4) := xw_D hD0
          refine lv_iload_n hx hb dX2_openOnceTold_32 rfl (lv_at hl 2 rfl) ?_
          refine lv_icmp_ne (tgt := 58) hx hb dX2_openOnceTold_33 (by decide) (fun c5 => ?_) (fun c5 => ?_)
          · have hw := hw.2 c5
            obtain ⟨v9, ev9⟩ : ∃ z : Int32, z = y5 + (1 : Int32) := ⟨_, rfl⟩
            have hw := hw v9 ev9
            refine lv_iinc (v := v9) (lv' := [(5, .int v9), (0, .ref (q 25)), (1, .int z1), (2, .int z2), (3, .int y3), (4, .int y4)]) hx hb dX2_openOnceTold_58 hl (k := 5) rfl (by rw [ev9]; rfl) (by decide) rfl (fun ls hl => ?_)
            refine lv_goto (tgt := 8) hx hb dX2_openOnceTold_61 (by decide) ?_
            exact ih y3 y4 v9 σ4 _ _ _ hw hk64 hP hS (lv_sub hl [1, 2, 3, 4, 5, 0] rfl)
          · have hw := hw.1 c5
            refine lv_iload_n hx hb dX2_openOnceTold_36 rfl (lv_at hl 3 rfl) ?_
            refine lv_aload_n hx hb dX2_openOnceTold_37 rfl (lv_at hl 0 rfl) ?_
            refine va_get (D := D) (ci := 2) (C := RX2) (T := TX2) (N := 8) hx hb htb inX2 hown hK hP 25 (xw_25 c q σ4) rfl 0 (by decide) (htb _ tb_285) (fun _ h9 => h9) rfl dX2_openOnceTold_38 ?_
            refine lv_iload hx hb dX2_openOnceTold_41 (lv_at hl 5 rfl) ?_
            refine va_iald hx hb hK hP 26 17 (xw_26 c q σ4) rfl hw.1 dX2_openOnceTold_43 ?_
            have hw := hw.2
            refine lv_iand hx hb dX2_openOnceTold_44 ?_
            refine lv_topi (fun v6 ev6 => ?_)
            have hw := hw v6 ev6
            refine lv_istore_n (lv' := [(3, .int v6), (0, .ref (q 25)), (1, .int z1), (2, .int z2), (4, .int y4), (5, .int y5)]) hx hb dX2_openOnceTold_45 rfl hl (by decide) rfl (fun ls hl => ?_)
            refine lv_iload hx hb dX2_openOnceTold_46 (lv_at hl 4 rfl) ?_
            refine lv_aload_n hx hb dX2_openOnceTold_48 rfl (lv_at hl 1 rfl) ?_
            refine va_get (D := D) (ci := 2) (C := RX2) (T := TX2) (N := 8) hx hb htb inX2 hown hK hP 25 (xw_25 c q σ4) rfl 0 (by decide) (htb _ tb_285) (fun _ h9 => h9) rfl dX2_openOnceTold_49 ?_
            refine lv_iload hx hb dX2_openOnceTold_52 (lv_at hl 5 rfl) ?_
            refine va_iald hx hb hK hP 26 17 (xw_26 c q σ4) rfl hw.1 dX2_openOnceTold_54 ?_
            have hw := hw.2
            refine lv_ior hx hb dX2_openOnceTold_55 ?_
            refine lv_topi (fun v7 ev7 => ?_)
            have hw := hw v7 ev7
            refine lv_istore (lv' := [(4, .int v7), (3, .int v6), (0, .ref (q 25)), (1, .int z1), (2, .int z2), (5, .int y5)]) hx hb dX2_openOnceTold_56 hl (by decide) rfl (fun ls hl => ?_)
            obtain ⟨v8, ev8⟩ : ∃ z : Int32, z = y5 + (1 : Int32) := ⟨_, rfl⟩
            have hw := hw v8 ev8
            refine lv_iinc (v := v8) (lv' := [(5, .int v8), (4, .int v7), (3, .int v6), (0, .ref (q 25)), (1, .int z1), (2, .int z2)]) hx hb dX2_openOnceTold_58 hl (k := 5) rfl (by rw [ev8]; rfl) (by decide) rfl (fun ls hl => ?_)
            refine lv_goto (tgt := 8) hx hb dX2_openOnceTold_61 (by decide) ?_
            exact ih v6 v7 v8 σ4 _ _ _ hw hk64 hP hS (lv_sub hl [3, 4, 5, 2, 1, 0] rfl)
  have hl := lv_entry ([.ref (q 25), .int x1, .int x2]) (n := 6) (Nat.le_of_ble_eq_true rfl)
  rw [lg_entry_eq]
  generalize (lg_sl ([.ref (q 25), .int x1, .int x2]) ++ List.replicate (6 - (lg_sl ([.ref (q 25), .int x1, .int x2])).length) Slot.unset).toArray = ls at hl ⊢
  have hl : lv_has ls 6 [(0, .ref (q 25)), (1, .int x1), (2, .int x2)] := hl
  unfold wX2_openOnceTold at hw
  refine lv_iconst (v := (-1 : Int32)) hx hb dX2_openOnceTold_0 (by decide) ?_
  refine lv_istore_n (lv' := [(3, .int (-1 : Int32)), (0, .ref (q 25)), (1, .int x1), (2, .int x2)]) hx hb dX2_openOnceTold_1 rfl hl (by decide) rfl (fun ls hl => ?_)
  refine lv_iconst (v := (0 : Int32)) hx hb dX2_openOnceTold_2 (by decide) ?_
  refine lv_istore (lv' := [(4, .int (0 : Int32)), (3, .int (-1 : Int32)), (0, .ref (q 25)), (1, .int x1), (2, .int x2)]) hx hb dX2_openOnceTold_3 hl (by decide) rfl (fun ls hl => ?_)
  refine lv_iconst (v := (0 : Int32)) hx hb dX2_openOnceTold_5 (by decide) ?_
  refine lv_istore (lv' := [(5, .int (0 : Int32)), (4, .int (0 : Int32)), (3, .int (-1 : Int32)), (0, .ref (q 25)), (1, .int x1), (2, .int x2)]) hx hb dX2_openOnceTold_6 hl (by decide) rfl (fun ls hl => ?_)
  obtain ⟨n10, hw⟩ := hw
  refine L8 _ x1 x2 n10 (-1 : Int32) (0 : Int32) (0 : Int32) σ _ _ _ hw ?_ hP hS (lv_sub hl [3, 4, 5, 2, 1, 0] rfl)
  intro v11 v12 v13 σ14 H locs ls hw hP hS hl
  have hD : va_D (wdA 36 q) (xw c q σ14) := xw_D hD0
  refine lv_iload hx hb dX2_openOnceTold_64 (lv_at hl 4 rfl) ?_
  refine lv_iload_n hx hb dX2_openOnceTold_66 rfl (lv_at hl 3 rfl) ?_
  refine lv_iconst (v := (-1 : Int32)) hx hb dX2_openOnceTold_67 (by decide) ?_
  refine lv_ixor hx hb dX2_openOnceTold_68 ?_
  refine lv_iand hx hb dX2_openOnceTold_69 ?_
  refine va_calli (va_runS (As := [.int (v12 &&& (v11 ^^^ (-1 : Int32)))]) (rest := []) ⟨hx, hb, hml, hown, htb⟩ (kcJ6_bitCount_0f7a4_x l D c q ev hev σ14 (v12 &&& (v11 ^^^ (-1 : Int32))) _ hw) (tb_CS htb kJ6_bitCount_0f7a4 tb_617 tb_407 ⟨Nat.le_of_ble_eq_true rfl, Nat.le_of_ble_eq_true rfl⟩) (wd_preS (wd := xw c q) hev hK hP hD hE hS) rfl rfl hl.1 rfl (lv_room (Nat.le_of_ble_eq_true rfl)) dX2_openOnceTold_70 ⟨Nat.zero_le _, Nat.zero_le _⟩) hS (fun q _ h => h) (fun q h => h) (fun r15 σ16 t H1 locs1 ht hvm hw hB hz1 hk1 hS => ?_)
  have hP : va_P D vwCl (xw c q σ16) H1 := ht ▸ hB
  have hD : va_D (wdA 36 q) (xw c q σ16) := xw_D hD0
  exact W.iret hx hb hr (fun t ht hW => ⟨⟨_, σ16, rfl, hw, by unfold wdB; rw [ht]; exact hP⟩, hS.F ht⟩) hS.2.2 dX2_openOnceTold_73
def wX2_mostOpenOnceTold_L4 (b0 : Nat) (z1 : Int32) (K31 : Int32 → Int32 → hsS → Prop) (post : Int32 → hsS → Prop) : Nat → Int32 → Int32 → hsS → Prop
  | 0, _, _, _ => False
  | n + 1, y2, y3, σ => vp_in z1 8 ∧ (((σ.2.1 (b0 + 2) z1.toNatClampNeg) ≤ y3 → K31 y2 y3 σ) ∧ (¬ (σ.2.1 (b0 + 2) z1.toNatClampNeg) ≤ y3 → wX2_openOnceTold b0 z1 y3 (fun r2 σ3 => ∀ v4 : Int32, v4 = (if y2 < r2 then r2 else y2) → ∀ v5 : Int32, v5 = y3 + (1 : Int32) → wX2_mostOpenOnceTold_L4 b0 z1 K31 post n v4 v5 σ3) σ))
def wX2_mostOpenOnceTold (b0 : Nat) (x1 : Int32) (post : Int32 → hsS → Prop) (σ : hsS) : Prop := ∃ n6, wX2_mostOpenOnceTold_L4 b0 x1 (fun v7 v8 σ9 => post v7 σ9) post n6 (0 : Int32) (0 : Int32) σ
set_option maxHeartbeats 4000000 in
set_option maxRecDepth 100000 in
theorem kcX2_mostOpenOnceTold_25 (l : Launch) (D : va_G) (c : Nat → ClassId) (q : Nat → Nat) (ev : State → Heap → Prop) (hev : evOK (wdA 36 q) ev) (σ : hsS) (x1 : Int32) (post : Int32 → hsS → Prop) (hw : wX2_mostOpenOnceTold 25 x1 post σ) : Met l yX2_mostOpenOnceTold (Cond.code yX2_mostOpenOnceTold cX2_mostOpenOnceTold 4 (some .int) :: tb_L) { frames := 3, cells := 0, slots := 0, locals := 87 } (wdPc D (xw c q) (xwT c) (wdA 36 q) ev σ [.ref (q 25), .int x1]) (va_Qi post (wdB D (xw c q)) (wdA 36 q)) 0 0 (wdA 36 q) := by
  refine Met.ofW (cc := cX2_mostOpenOnceTold) (maxL := 4) (ret := (some .int)) (by decide) rfl ?_
  intro p e s m args below meth c₀ s₁ Bd hml hv
  obtain ⟨rfl, hP, hK, hD0, hE⟩ := hv
  have hx := Bd.exec
  have hb := Bd.bytes
  have hr := Bd.returns
  have hts := atoms_spec (ws := Cond.code yX2_mostOpenOnceTold cX2_mostOpenOnceTold 4 (some .int) :: tb_L) Bd.pre
  have htb : ∀ w ∈ tb_L, w.before [.ref (q 25), .int x1].toArray s = true := fun w h => hts w (List.mem_cons_of_mem _ h)
  have hown : s.vm.findClass RX2 = some m.cls := findClass_of_methodNamed Bd.named
  have hlocks := Bd.notSynchronized
  have hS : va_S (wdA 36 q) s.heap s.heap [] := va_S.rf
  have hD := hD0
  have L4 : ∀ (K31 : Int32 → Int32 → hsS → Prop) (z1 : Int32) (n : Nat) (y2 : Int32) (y3 : Int32) (σ : hsS) (H : Heap) (locs : List Loc) (ls : Array Slot), wX2_mostOpenOnceTold_L4 25 z1 K31 post n y2 y3 σ → (∀ (y2 : Int32) (y3 : Int32) (σ : hsS) (H : Heap) (locs : List Loc) (ls : Array Slot), K31 y2 y3 σ → va_P D vwCl (xw c q σ) H → va_S (wdA 36 q) s.heap H locs → lv_has ls 4 [(0, .ref (q 25)), (1, .int z1), (2, .int y2), (3, .int y3)] → W p l e (headSpec (Cond.code yX2_mostOpenOnceTold cX2_mostOpenOnceTold 4 (some .int) :: tb_L) { frames := 3, cells := 0, slots := 0, locals := 87 }).room s m [.ref (q 25), .int x1].toArray below meth c₀ H locs 0 0 (MQ below (va_Qi post (wdB D (xw c q)) (wdA 36 q)) [.ref (q 25), .int x1].toArray s 0 0 (wdA 36 q)) (F0 m 31 ls [])) → va_P D vwCl (xw c q σ) H → va_S (wdA 36 q) s.heap H locs → lv_has ls 4 [(0, .ref (q 25)), (1, .int z1), (2, .int y2), (3, .int y3)] → W p l e (headSpec (Cond.code yX2_mostOpenOnceTold cX2_mostOpenOnceTold 4 (some .int) :: tb_L) { frames := 3, cells := 0, slots := 0, locals := 87 }).room s m [.ref (q 25), .int x1].toArray below meth c₀ H locs 0 0 (MQ below (va_Qi post (wdB D (xw c q)) (wdA 36 q)) [.ref (q 25), .int x1].toArray s 0 0 (wdA 36 q)) (F0 m 4 ls []) := by
    intro K31 z1 n
    induction n with
    | zero =>
      intro y2 y3 σ H locs ls hw hk31 hP hS hl
      exact (show False from hw).elim
    | succ n ih =>
      intro y2 y3 σ H locs ls hw hk31 hP hS hl
      rw [wX2_mostOpenOnceTold_L4] at hw
      have hD : va_D (wdA 36 q) (xw c q σ) := xw_D hD0
      refine lv_iload_n hx hb dX2_mostOpenOnceTold_4 rfl (lv_at hl 3 rfl) ?_
      refine lv_aload_n hx hb dX2_mostOpenOnceTold_5 rfl (lv_at hl 0 rfl) ?_
      refine va_get (D := D) (ci := 2) (C := RX2) (T := TX2) (N := 8) hx hb htb inX2 hown hK hP 25 (xw_25 c q σ) rfl 1 (by decide) (htb _ tb_286) (fun _ h9 => h9) rfl dX2_mostOpenOnceTold_6 ?_
      refine lv_iload_n hx hb dX2_mostOpenOnceTold_9 rfl (lv_at hl 1 rfl) ?_
      refine va_iald hx hb hK hP 27 18 (xw_27 c q σ) rfl hw.1 dX2_mostOpenOnceTold_10 ?_
      have hw := hw.2
      refine lv_icmp_ge (tgt := 31) hx hb dX2_mostOpenOnceTold_11 (by decide) (fun c1 => ?_) (fun c1 => ?_)
      · have hw := hw.1 c1
        exact hk31 y2 y3 σ _ _ _ hw hP hS (lv_sub hl [0, 1, 2, 3] rfl)
      · have hw := hw.2 c1
        refine lv_iload_n hx hb dX2_mostOpenOnceTold_14 rfl (lv_at hl 2 rfl) ?_
        refine lv_aload_n hx hb dX2_mostOpenOnceTold_15 rfl (lv_at hl 0 rfl) ?_
        refine lv_iload_n hx hb dX2_mostOpenOnceTold_16 rfl (lv_at hl 1 rfl) ?_
        refine lv_iload_n hx hb dX2_mostOpenOnceTold_17 rfl (lv_at hl 3 rfl) ?_
        refine va_calli (va_runV (As := [.int z1, .int y3]) (rest := [.int y2]) ⟨hx, hb, hml, hown, htb⟩ (kcX2_openOnceTold_25 l D c q ev hev σ z1 y3 _ hw) (tb_CW htb kX2_openOnceTold tb_613 tb_615 tb_10 ⟨Nat.le_of_ble_eq_true rfl, Nat.le_of_ble_eq_true rfl⟩) (wd_preV (wd := xw c q) (k := 25) hev hK hP hD hE hS (xw_25 c q σ) rfl) rfl rfl hl.1 rfl (lv_room (Nat.le_of_ble_eq_true rfl)) dX2_mostOpenOnceTold_18 ⟨Nat.zero_le _, Nat.zero_le _⟩) hS (fun q _ h => h) (fun q h => h) (fun r2 σ3 t H1 locs1 ht hvm hw hB hz1 hk1 hS => ?_)
        have hP : va_P D vwCl (xw c q σ3) H1 := ht ▸ hB
        have hD : va_D (wdA 36 q) (xw c q σ3) := xw_D hD0
        refine va_mmax hx hb (hml.trans hl.1.symm) hown (htb _ tb_581) (htb _ tb_495) (htb _ tb_104) (htb _ tb_496) (Nat.le_of_ble_eq_true rfl) (Nat.le_of_ble_eq_true rfl) (Nat.zero_le _) (Nat.zero_le _) dX2_mostOpenOnceTold_21 ?_
        refine lv_topi (fun v4 ev4 => ?_)
        have hw := hw v4 ev4
        refine lv_istore_n (lv' := [(2, .int v4), (0, .ref (q 25)), (1, .int z1), (3, .int y3)]) hx hb dX2_mostOpenOnceTold_24 rfl hl (by decide) rfl (fun ls hl => ?_)
        obtain ⟨v5, ev5⟩ : ∃ z : Int32, z = y3 + (1 : Int32) := ⟨_, rfl⟩
        have hw := hw v5 ev5
        refine lv_iinc (v := v5) (lv' := [(3, .int v5), (2, .int v4), (0, .ref (q 25)), (1, .int z1)]) hx hb dX2_mostOpenOnceTold_25 hl (k := 3) rfl (by rw [ev5]; rfl) (by decide) rfl (fun ls hl => ?_)
        refine lv_goto (tgt := 4) hx hb dX2_mostOpenOnceTold_28 (by decide) ?_
        exact ih v4 v5 σ3 _ _ _ hw hk31 hP hS (lv_sub hl [2, 3, 1, 0] rfl)
  have hl := lv_entry ([.ref (q 25), .int x1]) (n := 4) (Nat.le_of_ble_eq_true rfl)
  rw [lg_entry_eq]
  generalize (lg_sl ([.ref (q 25), .int x1]) ++ List.replicate (4 - (lg_sl ([.ref (q 25), .int x1])).length) Slot.unset).toArray = ls at hl ⊢
  have hl : lv_has ls 4 [(0, .ref (q 25)), (1, .int x1)] := hl
  unfold wX2_mostOpenOnceTold at hw
  refine lv_iconst (v := (0 : Int32)) hx hb dX2_mostOpenOnceTold_0 (by decide) ?_
  refine lv_istore_n (lv' := [(2, .int (0 : Int32)), (0, .ref (q 25)), (1, .int x1)]) hx hb dX2_mostOpenOnceTold_1 rfl hl (by decide) rfl (fun ls hl => ?_)
  refine lv_iconst (v := (0 : Int32)) hx hb dX2_mostOpenOnceTold_2 (by decide) ?_
  refine lv_istore_n (lv' := [(3, .int (0 : Int32)), (2, .int (0 : Int32)), (0, .ref (q 25)), (1, .int x1)]) hx hb dX2_mostOpenOnceTold_3 rfl hl (by decide) rfl (fun ls hl => ?_)
  obtain ⟨n6, hw⟩ := hw
  refine L4 _ x1 n6 (0 : Int32) (0 : Int32) σ _ _ _ hw ?_ hP hS (lv_sub hl [2, 3, 1, 0] rfl)
  intro v7 v8 σ9 H locs ls hw hP hS hl
  have hD : va_D (wdA 36 q) (xw c q σ9) := xw_D hD0
  refine lv_iload_n hx hb dX2_mostOpenOnceTold_31 rfl (lv_at hl 2 rfl) ?_
  exact W.iret hx hb hr (fun t ht hW => ⟨⟨_, σ9, rfl, hw, by unfold wdB; rw [ht]; exact hP⟩, hS.F ht⟩) hS.2.2 dX2_mostOpenOnceTold_32
def wX2_bestToAsk_L8 (b0 : Nat) (z1 : Int32) (K51 : Int32 → Int32 → Int32 → hsS → Prop) (post : Int32 → hsS → Prop) : Nat → Int32 → Int32 → Int32 → hsS → Prop
  | 0, _, _, _, _ => False
  | n + 1, y2, y3, y4, σ => ((z1 ≤ y4 → K51 y2 y3 y4 σ) ∧ (¬ z1 ≤ y4 → vp_in y4 8 ∧ (((σ.2.1 (b0 + 2) y4.toNatClampNeg) ≤ (1 : Int32) → ∀ v3 : Int32, v3 = y4 + (1 : Int32) → wX2_bestToAsk_L8 b0 z1 K51 post n y2 y3 v3 σ) ∧ (¬ (σ.2.1 (b0 + 2) y4.toNatClampNeg) ≤ (1 : Int32) → wX2_mostOpenOnceTold b0 y4 (fun r4 σ5 => ((y3 ≤ r4 → ∀ v7 : Int32, v7 = y4 + (1 : Int32) → wX2_bestToAsk_L8 b0 z1 K51 post n y2 y3 v7 σ5) ∧ (¬ y3 ≤ r4 → ∀ v8 : Int32, v8 = y4 + (1 : Int32) → wX2_bestToAsk_L8 b0 z1 K51 post n y4 r4 v8 σ5))) σ))))
def wX2_bestToAsk (b0 : Nat) (x1 : Int32) (post : Int32 → hsS → Prop) (σ : hsS) : Prop := ∃ n9, wX2_bestToAsk_L8 b0 x1 (fun v10 v11 v12 σ13 => post v10 σ13) post n9 (-1 : Int32) (1000000 : Int32) (0 : Int32) σ
set_option maxHeartbeats 4000000 in
set_option maxRecDepth 100000 in
theorem kcX2_bestToAsk_25 (l : Launch) (D : va_G) (c : Nat → ClassId) (q : Nat → Nat) (ev : State → Heap → Prop) (hev : evOK (wdA 36 q) ev) (σ : hsS) (x1 : Int32) (post : Int32 → hsS → Prop) (hw : wX2_bestToAsk 25 x1 post σ) : Met l yX2_bestToAsk (Cond.code yX2_bestToAsk cX2_bestToAsk 6 (some .int) :: tb_L) { frames := 4, cells := 0, slots := 0, locals := 110 } (wdPc D (xw c q) (xwT c) (wdA 36 q) ev σ [.ref (q 25), .int x1]) (va_Qi post (wdB D (xw c q)) (wdA 36 q)) 0 0 (wdA 36 q) := by
  refine Met.ofW (cc := cX2_bestToAsk) (maxL := 6) (ret := (some .int)) (by decide) rfl ?_
  intro p e s m args below meth c₀ s₁ Bd hml hv
  obtain ⟨rfl, hP, hK, hD0, hE⟩ := hv
  have hx := Bd.exec
  have hb := Bd.bytes
  have hr := Bd.returns
  have hts := atoms_spec (ws := Cond.code yX2_bestToAsk cX2_bestToAsk 6 (some .int) :: tb_L) Bd.pre
  have htb : ∀ w ∈ tb_L, w.before [.ref (q 25), .int x1].toArray s = true := fun w h => hts w (List.mem_cons_of_mem _ h)
  have hown : s.vm.findClass RX2 = some m.cls := findClass_of_methodNamed Bd.named
  have hlocks := Bd.notSynchronized
  have hS : va_S (wdA 36 q) s.heap s.heap [] := va_S.rf
  have hD := hD0
  have L8 : ∀ (K51 : Int32 → Int32 → Int32 → hsS → Prop) (z1 : Int32) (n : Nat) (y2 : Int32) (y3 : Int32) (y4 : Int32) (σ : hsS) (H : Heap) (locs : List Loc) (ls : Array Slot), wX2_bestToAsk_L8 25 z1 K51 post n y2 y3 y4 σ → (∀ (y2 : Int32) (y3 : Int32) (y4 : Int32) (σ : hsS) (H : Heap) (locs : List Loc) (ls : Array Slot), K51 y2 y3 y4 σ → va_P D vwCl (xw c q σ) H → va_S (wdA 36 q) s.heap H locs → lv_has ls 6 [(0, .ref (q 25)), (1, .int z1), (2, .int y2), (3, .int y3), (4, .int y4)] → W p l e (headSpec (Cond.code yX2_bestToAsk cX2_bestToAsk 6 (some .int) :: tb_L) { frames := 4, cells := 0, slots := 0, locals := 110 }).room s m [.ref (q 25), .int x1].toArray below meth c₀ H locs 0 0 (MQ below (va_Qi post (wdB D (xw c q)) (wdA 36 q)) [.ref (q 25), .int x1].toArray s 0 0 (wdA 36 q)) (F0 m 51 ls [])) → va_P D vwCl (xw c q σ) H → va_S (wdA 36 q) s.heap H locs → lv_has ls 6 [(0, .ref (q 25)), (1, .int z1), (2, .int y2), (3, .int y3), (4, .int y4)] → W p l e (headSpec (Cond.code yX2_bestToAsk cX2_bestToAsk 6 (some .int) :: tb_L) { frames := 4, cells := 0, slots := 0, locals := 110 }).room s m [.ref (q 25), .int x1].toArray below meth c₀ H locs 0 0 (MQ below (va_Qi post (wdB D (xw c q)) (wdA 36 q)) [.ref (q 25), .int x1].toArray s 0 0 (wdA 36 q)) (F0 m 8 ls []) := by
    intro K51 z1 n
    induction n with
    | zero =>
      intro y2 y3 y4 σ H locs ls hw hk51 hP hS hl
      exact (show False from hw).elim
    | succ n ih =>
      intro y2 y3 y4 σ H locs ls hw hk51 hP hS hl
      rw [wX2_bestToAsk_L8] at hw
      have hD : va_D (wdA 36 q) (xw c q σ) := xw_D hD0
      refine lv_iload hx hb dX2_bestToAsk_8 (lv_at hl 4 rfl) ?_
      refine lv_iload_n hx hb dX2_bestToAsk_10 rfl (lv_at hl 1 rfl) ?_
      refine lv_icmp_ge (tgt := 51) hx hb dX2_bestToAsk_11 (by decide) (fun c1 => ?_) (fun c1 => ?_)
      · have hw := hw.1 c1
        exact hk51 y2 y3 y4 σ _ _ _ hw hP hS (lv_sub hl [0, 1, 2, 3, 4] rfl)
      · have hw := hw.2 c1
        refine lv_aload_n hx hb dX2_bestToAsk_14 rfl (lv_at hl 0 rfl) ?_
        refine va_get (D := D) (ci := 2) (C := RX2) (T := TX2) (N := 8) hx hb htb inX2 hown hK hP 25 (xw_25 c q σ) rfl 1 (by decide) (htb _ tb_286) (fun _ h9 => h9) rfl dX2_bestToAsk_15 ?_
        refine lv_iload hx hb dX2_bestToAsk_18 (lv_at hl 4 rfl) ?_
        refine va_iald hx hb hK hP 27 18 (xw_27 c q σ) rfl hw.1 dX2_bestToAsk_20 ?_
        have hw := hw.2
        refine lv_iconst (v := (1 : Int32)) hx hb dX2_bestToAsk_21 (by decide) ?_
        refine lv_icmp_le (tgt := 45) hx hb dX2_bestToAsk_22 (by decide) (fun c2 => ?_) (fun c2 => ?_)
        · have hw := hw.1 c2
          obtain ⟨v3, ev3⟩ : ∃ z : Int32, z = y4 + (1 : Int32) := ⟨_, rfl⟩
          have hw := hw v3 ev3
          refine lv_iinc (v := v3) (lv' := [(4, .int v3), (0, .ref (q 25)), (1, .int z1), (2, .int y2), (3, .int y3)]) hx hb dX2_bestToAsk_45 hl (k := 4) rfl (by rw [ev3]; rfl) (by decide) rfl (fun ls hl => ?_)
          refine lv_goto (tgt := 8) hx hb dX2_bestToAsk_48 (by decide) ?_
          exact ih y2 y3 v3 σ _ _ _ hw hk51 hP hS (lv_sub hl [1, 2, 3, 4, 0] rfl)
        · have hw := hw.2 c2
          refine lv_aload_n hx hb dX2_bestToAsk_25 rfl (lv_at hl 0 rfl) ?_
          refine lv_iload hx hb dX2_bestToAsk_26 (lv_at hl 4 rfl) ?_
          refine va_calli (va_runV (As := [.int y4]) (rest := []) ⟨hx, hb, hml, hown, htb⟩ (kcX2_mostOpenOnceTold_25 l D c q ev hev σ y4 _ hw) (tb_CW htb kX2_mostOpenOnceTold tb_609 tb_611 tb_9 ⟨Nat.le_of_ble_eq_true rfl, Nat.le_of_ble_eq_true rfl⟩) (wd_preV (wd := xw c q) (k := 25) hev hK hP hD hE hS (xw_25 c q σ) rfl) rfl rfl hl.1 rfl (lv_room (Nat.le_of_ble_eq_true rfl)) dX2_bestToAsk_28 ⟨Nat.zero_le _, Nat.zero_le _⟩) hS (fun q _ h => h) (fun q h => h) (fun r4 σ5 t H1 locs1 ht hvm hw hB hz1 hk1 hS => ?_)
          have hP : va_P D vwCl (xw c q σ5) H1 := ht ▸ hB
          have hD : va_D (wdA 36 q) (xw c q σ5) := xw_D hD0
          refine lv_istore (lv' := [(5, .int r4), (0, .ref (q 25)), (1, .int z1), (2, .int y2), (3, .int y3), (4, .int y4)]) hx hb dX2_bestToAsk_31 hl (by decide) rfl (fun ls hl => ?_)
          refine lv_iload hx hb dX2_bestToAsk_33 (lv_at hl 0 rfl) ?_
          refine lv_iload_n hx hb dX2_bestToAsk_35 rfl (lv_at hl 4 rfl) ?_
          refine lv_icmp_ge (tgt := 45) hx hb dX2_bestToAsk_36 (by decide) (fun c6 => ?_) (fun c6 => ?_)
          · have hw := hw.1 c6
            obtain ⟨v7, ev7⟩ : ∃ z : Int32, z = y4 + (1 : Int32) := ⟨_, rfl⟩
            have hw := hw v7 ev7
            refine lv_iinc (v := v7) (lv' := [(4, .int v7), (5, .int r4), (0, .ref (q 25)), (1, .int z1), (2, .int y2), (3, .int y3)]) hx hb dX2_bestToAsk_45 hl (k := 5) rfl (by rw [ev7]; rfl) (by decide) rfl (fun ls hl => ?_)
            refine lv_goto (tgt := 8) hx hb dX2_bestToAsk_48 (by decide) ?_
            exact ih y2 y3 v7 σ5 _ _ _ hw hk51 hP hS (lv_sub hl [2, 3, 4, 5, 0] rfl)
          · have hw := hw.2 c6
            refine lv_iload hx hb dX2_bestToAsk_39 (lv_at hl 0 rfl) ?_
            refine lv_istore_n (lv' := [(3, .int r4), (5, .int r4), (0, .ref (q 25)), (1, .int z1), (2, .int y2), (4, .int y4)]) hx hb dX2_bestToAsk_41 rfl hl (by decide) rfl (fun ls hl => ?_)
            refine lv_iload hx hb dX2_bestToAsk_42 (lv_at hl 5 rfl) ?_
            refine lv_istore_n (lv' := [(2, .int y4), (3, .int r4), (5, .int r4), (0, .ref (q 25)), (1, .int z1), (4, .int y4)]) hx hb dX2_bestToAsk_44 rfl hl (by decide) rfl (fun ls hl => ?_)
            obtain ⟨v8, ev8⟩ : ∃ z : Int32, z = y4 + (1 : Int32) := ⟨_, rfl⟩
            have hw := hw v8 ev8
            refine lv_iinc (v := v8) (lv' := [(4, .int v8), (2, .int y4), (3, .int r4), (5, .int r4), (0, .ref (q 25)), (1, .int z1)]) hx hb dX2_bestToAsk_45 hl (k := 5) rfl (by rw [ev8]; rfl) (by decide) rfl (fun ls hl => ?_)
            refine lv_goto (tgt := 8) hx hb dX2_bestToAsk_48 (by decide) ?_
            exact ih y4 r4 v8 σ5 _ _ _ hw hk51 hP hS (lv_sub hl [4, 5, 1, 2, 0] rfl)
  have hl := lv_entry ([.ref (q 25), .int x1]) (n := 6) (Nat.le_of_ble_eq_true rfl)
  rw [lg_entry_eq]
  generalize (lg_sl ([.ref (q 25), .int x1]) ++ List.replicate (6 - (lg_sl ([.ref (q 25), .int x1])).length) Slot.unset).toArray = ls at hl ⊢
  have hl : lv_has ls 6 [(0, .ref (q 25)), (1, .int x1)] := hl
  unfold wX2_bestToAsk at hw
  refine lv_iconst (v := (-1 : Int32)) hx hb dX2_bestToAsk_0 (by decide) ?_
  refine lv_istore_n (lv' := [(2, .int (-1 : Int32)), (0, .ref (q 25)), (1, .int x1)]) hx hb dX2_bestToAsk_1 rfl hl (by decide) rfl (fun ls hl => ?_)
  refine lv_ldc hx hb hown (htb _ tb_608) dX2_bestToAsk_2 ?_
  refine lv_istore_n (lv' := [(3, .int (1000000 : Int32)), (2, .int (-1 : Int32)), (0, .ref (q 25)), (1, .int x1)]) hx hb dX2_bestToAsk_4 rfl hl (by decide) rfl (fun ls hl => ?_)
  refine lv_iconst (v := (0 : Int32)) hx hb dX2_bestToAsk_5 (by decide) ?_
  refine lv_istore (lv' := [(4, .int (0 : Int32)), (3, .int (1000000 : Int32)), (2, .int (-1 : Int32)), (0, .ref (q 25)), (1, .int x1)]) hx hb dX2_bestToAsk_6 hl (by decide) rfl (fun ls hl => ?_)
  obtain ⟨n9, hw⟩ := hw
  refine L8 _ x1 n9 (-1 : Int32) (1000000 : Int32) (0 : Int32) σ _ _ _ hw ?_ hP hS (lv_sub hl [3, 4, 2, 1, 0] rfl)
  intro v10 v11 v12 σ13 H locs ls hw hP hS hl
  have hD : va_D (wdA 36 q) (xw c q σ13) := xw_D hD0
  refine lv_iload_n hx hb dX2_bestToAsk_51 rfl (lv_at hl 2 rfl) ?_
  exact W.iret hx hb hr (fun t ht hW => ⟨⟨_, σ13, rfl, hw, by unfold wdB; rw [ht]; exact hP⟩, hS.F ht⟩) hS.2.2 dX2_bestToAsk_52
def wX7_ask  (post : Int32 → hsS → Prop) (σ : hsS) : Prop := wX2_learn 25 1 6 18 (fun σ2 => wX2_spent 25 (fun r3 σ4 => ((r3 = (0 : Int32) → wX2_bestToAsk 25 (σ4.1 65) (fun r6 σ7 => post r6 σ7) σ4) ∧ (¬ r3 = (0 : Int32) → post (-1 : Int32) σ4))) σ2) σ
set_option maxHeartbeats 4000000 in
set_option maxRecDepth 100000 in
theorem kcX7_ask (l : Launch) (D : va_G) (c : Nat → ClassId) (q : Nat → Nat) (ev : State → Heap → Prop) (hev : evOK (wdA 36 q) ev) (tF : Nat) (hF : ∀ (U : State) (H : Heap), ev U H → va_Z "StrikeHall" "FACTORIALS" "[I" (.ref tF) (wdA 36 q) U H ∧ va_T .int tF 10 (fun j => .int (xfact j)) (wdA 36 q) U H) (σ : hsS)  (post : Int32 → hsS → Prop) (hw : wX7_ask  post σ) : Met l yX7_ask (Cond.code yX7_ask cX7_ask 1 (some .int) :: tb_L) { frames := 5, cells := 0, slots := 0, locals := 140 } (wdPc D (xw c q) (xwT c) (wdA 36 q) ev σ [.ref (q 0)]) (va_Qi post (wdB D (xw c q)) (wdA 36 q)) 0 0 (wdA 36 q) := by
  refine Met.ofW (cc := cX7_ask) (maxL := 1) (ret := (some .int)) (by decide) rfl ?_
  intro p e s m args below meth c₀ s₁ Bd hml hv
  obtain ⟨rfl, hP, hK, hD0, hE⟩ := hv
  have hx := Bd.exec
  have hb := Bd.bytes
  have hr := Bd.returns
  have hts := atoms_spec (ws := Cond.code yX7_ask cX7_ask 1 (some .int) :: tb_L) Bd.pre
  have htb : ∀ w ∈ tb_L, w.before [.ref (q 0)].toArray s = true := fun w h => hts w (List.mem_cons_of_mem _ h)
  have hown : s.vm.findClass RX7 = some m.cls := findClass_of_methodNamed Bd.named
  have hlocks := Bd.notSynchronized
  have hS : va_S (wdA 36 q) s.heap s.heap [] := va_S.rf
  have hD := hD0
  have hl := lv_entry ([.ref (q 0)]) (n := 1) (Nat.le_of_ble_eq_true rfl)
  rw [lg_entry_eq]
  generalize (lg_sl ([.ref (q 0)]) ++ List.replicate (1 - (lg_sl ([.ref (q 0)])).length) Slot.unset).toArray = ls at hl ⊢
  have hl : lv_has ls 1 [(0, .ref (q 0))] := hl
  unfold wX7_ask at hw
  refine lv_aload_n hx hb dX7_ask_0 rfl (lv_at hl 0 rfl) ?_
  refine va_get (D := D) (ci := 7) (C := RX7) (T := TX7) (N := 9) hx hb htb inX7 hown hK hP 0 (xw_0 c q σ) rfl 6 (by decide) (htb _ tb_348) (fun _ h9 => h9) rfl dX7_ask_1 ?_
  refine lv_aload_n hx hb dX7_ask_4 rfl (lv_at hl 0 rfl) ?_
  refine va_get (D := D) (ci := 7) (C := RX7) (T := TX7) (N := 9) hx hb htb inX7 hown hK hP 0 (xw_0 c q σ) rfl 0 (by decide) (htb _ tb_342) (fun _ h9 => h9) rfl dX7_ask_5 ?_
  refine lv_aload_n hx hb dX7_ask_8 rfl (lv_at hl 0 rfl) ?_
  refine va_get (D := D) (ci := 7) (C := RX7) (T := TX7) (N := 9) hx hb htb inX7 hown hK hP 0 (xw_0 c q σ) rfl 1 (by decide) (htb _ tb_343) (fun _ h9 => h9) rfl dX7_ask_9 ?_
  refine lv_aload_n hx hb dX7_ask_12 rfl (lv_at hl 0 rfl) ?_
  refine va_get (D := D) (ci := 7) (C := RX7) (T := TX7) (N := 9) hx hb htb inX7 hown hK hP 0 (xw_0 c q σ) rfl 3 (by decide) (htb _ tb_345) (fun _ h9 => h9) rfl dX7_ask_13 ?_
  refine va_callv (va_runV (As := [.ref (q 1), .ref (q 6), .ref (q 18)]) (rest := []) ⟨hx, hb, hml, hown, htb⟩ (kcX2_learn_25_1_6_18 l D c q ev hev tF hF σ  _ hw) (tb_CW htb kX2_learn tb_542 tb_543 tb_544 ⟨Nat.le_of_ble_eq_true rfl, Nat.le_of_ble_eq_true rfl⟩) (wd_preV (wd := xw c q) (k := 25) hev hK hP hD hE hS (xw_25 c q σ) rfl) rfl rfl hl.1 rfl (lv_room (Nat.le_of_ble_eq_true rfl)) dX7_ask_16 ⟨Nat.zero_le _, Nat.zero_le _⟩) hS (fun q _ h => h) (fun q h => h) (fun σ2 t H1 locs1 ht hvm hw hB hz1 hk1 hS => ?_)
  have hP : va_P D vwCl (xw c q σ2) H1 := ht ▸ hB
  have hD : va_D (wdA 36 q) (xw c q σ2) := xw_D hD0
  refine lv_aload_n hx hb dX7_ask_19 rfl (lv_at hl 0 rfl) ?_
  refine va_get (D := D) (ci := 7) (C := RX7) (T := TX7) (N := 9) hx hb htb inX7 hown hK hP 0 (xw_0 c q σ2) rfl 6 (by decide) (htb _ tb_348) (fun _ h9 => h9) rfl dX7_ask_20 ?_
  refine va_calli (va_runV (As := []) (rest := []) ⟨hx, hb, hml, hown, htb⟩ (kcX2_spent_25 l D c q ev hev σ2  _ hw) (tb_CW htb kX2_spent tb_603 tb_565 tb_566 ⟨Nat.le_of_ble_eq_true rfl, Nat.le_of_ble_eq_true rfl⟩) (wd_preV (wd := xw c q) (k := 25) hev hK hP hD hE hS (xw_25 c q σ2) rfl) rfl rfl hl.1 rfl (lv_room (Nat.le_of_ble_eq_true rfl)) dX7_ask_23 ⟨Nat.zero_le _, Nat.zero_le _⟩) hS (fun q _ h => h) (fun q h => h) (fun r3 σ4 t H1 locs1 ht hvm hw hB hz1 hk1 hS => ?_)
  have hP : va_P D vwCl (xw c q σ4) H1 := ht ▸ hB
  have hD : va_D (wdA 36 q) (xw c q σ4) := xw_D hD0
  refine lv_if_eq (tgt := 33) hx hb dX7_ask_26 (by decide) (fun c5 => ?_) (fun c5 => ?_)
  · have hw := hw.1 c5
    refine lv_aload_n hx hb dX7_ask_33 rfl (lv_at hl 0 rfl) ?_
    refine va_get (D := D) (ci := 7) (C := RX7) (T := TX7) (N := 9) hx hb htb inX7 hown hK hP 0 (xw_0 c q σ4) rfl 6 (by decide) (htb _ tb_348) (fun _ h9 => h9) rfl dX7_ask_34 ?_
    refine lv_aload_n hx hb dX7_ask_37 rfl (lv_at hl 0 rfl) ?_
    refine va_get (D := D) (ci := 7) (C := RX7) (T := TX7) (N := 9) hx hb htb inX7 hown hK hP 0 (xw_0 c q σ4) rfl 0 (by decide) (htb _ tb_342) (fun _ h9 => h9) rfl dX7_ask_38 ?_
    refine va_getN (D := D) (ci := 1) (C := RX1) (T := TX1) (N := 12) hx hb htb inX1 hown hK hP 1 (xw_1 c q σ4) rfl 1 (by decide) (htb _ tb_136) (fun _ h9 => h9) rfl dX7_ask_41 ?_
    refine va_calli (va_runV (As := [.int (σ4.1 65)]) (rest := []) ⟨hx, hb, hml, hown, htb⟩ (kcX2_bestToAsk_25 l D c q ev hev σ4 (σ4.1 65) _ hw) (tb_CW htb kX2_bestToAsk tb_604 tb_605 tb_606 ⟨Nat.le_of_ble_eq_true rfl, Nat.le_of_ble_eq_true rfl⟩) (wd_preV (wd := xw c q) (k := 25) hev hK hP hD hE hS (xw_25 c q σ4) rfl) rfl rfl hl.1 rfl (lv_room (Nat.le_of_ble_eq_true rfl)) dX7_ask_44 ⟨Nat.zero_le _, Nat.zero_le _⟩) hS (fun q _ h => h) (fun q h => h) (fun r6 σ7 t H1 locs1 ht hvm hw hB hz1 hk1 hS => ?_)
    have hP : va_P D vwCl (xw c q σ7) H1 := ht ▸ hB
    have hD : va_D (wdA 36 q) (xw c q σ7) := xw_D hD0
    exact W.iret hx hb hr (fun t ht hW => ⟨⟨_, σ7, rfl, hw, by unfold wdB; rw [ht]; exact hP⟩, hS.F ht⟩) hS.2.2 dX7_ask_47
  · have hw := hw.2 c5
    refine lv_iconst (v := (-1 : Int32)) hx hb dX7_ask_29 (by decide) ?_
    refine lv_goto (tgt := 47) hx hb dX7_ask_30 (by decide) ?_
    exact W.iret hx hb hr (fun t ht hW => ⟨⟨_, σ4, rfl, hw, by unfold wdB; rw [ht]; exact hP⟩, hS.F ht⟩) hS.2.2 dX7_ask_47
def wX0_strikeIn (x0 : Int64) (x2 : Int32) (post : Int32 → hsS → Prop) (σ : hsS) : Prop := post (((x0 >>> (((4 : Int32) * x2).toInt64 &&& 63)).toInt32) &&& (15 : Int32)) σ
set_option maxHeartbeats 4000000 in
set_option maxRecDepth 100000 in
theorem kcX0_strikeIn_x (l : Launch) (D : va_G) (c : Nat → ClassId) (q : Nat → Nat) (ev : State → Heap → Prop) (hev : evOK (wdA 36 q) ev) (σ : hsS) (x0 : Int64) (x2 : Int32) (post : Int32 → hsS → Prop) (hw : wX0_strikeIn x0 x2 post σ) : Met l yX0_strikeIn (Cond.code yX0_strikeIn cX0_strikeIn 3 (some .int) :: tb_L) { frames := 0, cells := 0, slots := 0, locals := 0 } (wdPc D (xw c q) (xwT c) (wdA 36 q) ev σ [.long x0, .int x2]) (va_Qi post (wdB D (xw c q)) (wdA 36 q)) 0 0 (wdA 36 q) := by
  refine Met.ofW (cc := cX0_strikeIn) (maxL := 3) (ret := (some .int)) (by decide) rfl ?_
  intro p e s m args below meth c₀ s₁ Bd hml hv
  obtain ⟨rfl, hP, hK, hD0, hE⟩ := hv
  have hx := Bd.exec
  have hb := Bd.bytes
  have hr := Bd.returns
  have hts := atoms_spec (ws := Cond.code yX0_strikeIn cX0_strikeIn 3 (some .int) :: tb_L) Bd.pre
  have htb : ∀ w ∈ tb_L, w.before [.long x0, .int x2].toArray s = true := fun w h => hts w (List.mem_cons_of_mem _ h)
  have hown : s.vm.findClass RX0 = some m.cls := findClass_of_methodNamed Bd.named
  have hlocks := Bd.notSynchronized
  have hS : va_S (wdA 36 q) s.heap s.heap [] := va_S.rf
  have hD := hD0
  have hl := lv_entry ([.long x0, .int x2]) (n := 3) (Nat.le_of_ble_eq_true rfl)
  rw [lg_entry_eq]
  generalize (lg_sl ([.long x0, .int x2]) ++ List.replicate (3 - (lg_sl ([.long x0, .int x2])).length) Slot.unset).toArray = ls at hl ⊢
  have hl : lv_has ls 3 [(0, .long x0), (2, .int x2)] := hl
  unfold wX0_strikeIn at hw
  refine lv_lload_n hx hb dX0_strikeIn_0 rfl (lv_at hl 0 rfl) ?_
  refine lv_iconst (v := (4 : Int32)) hx hb dX0_strikeIn_1 (by decide) ?_
  refine lv_iload_n hx hb dX0_strikeIn_2 rfl (lv_at hl 1 rfl) ?_
  refine lv_imul hx hb dX0_strikeIn_3 ?_
  refine lv_lshr hx hb dX0_strikeIn_4 rfl ?_
  refine lv_l2i hx hb dX0_strikeIn_5 rfl ?_
  refine lv_bipush (v := (15 : Int32)) hx hb dX0_strikeIn_6 (by decide) ?_
  refine lv_iand hx hb dX0_strikeIn_8 ?_
  exact W.iret hx hb hr (fun t ht hW => ⟨⟨_, σ, rfl, hw, by unfold wdB; rw [ht]; exact hP⟩, hS.F ht⟩) hS.2.2 dX0_strikeIn_9
def wX0_addRow (b0 : Nat) (x1 : Int32) (x2 : Int64) (post : Int32 → hsS → Prop) (σ : hsS) : Prop := (((σ.1 (64 * b0 + 2)) < (12 : Int32) → vp_in (σ.1 (64 * b0 + 2)) 12 ∧ ∀ σ2 : hsS, σ2 = hsA σ (b0 + 1) (upd (σ.2.1 (b0 + 1)) (σ.1 (64 * b0 + 2)).toNatClampNeg x1) → vp_in (σ2.1 (64 * b0 + 2)) 12 ∧ ∀ σ3 : hsS, σ3 = hsL σ2 (b0 + 2) (vp_updL (σ2.2.2 (b0 + 2)) (σ2.1 (64 * b0 + 2)).toNatClampNeg x2) → ∀ σ4 : hsS, σ4 = hsI σ3 (64 * b0 + 2) ((σ3.1 (64 * b0 + 2)) + (1 : Int32)) → post ((σ4.1 (64 * b0 + 2)) - (1 : Int32)) σ4) ∧ (¬ (σ.1 (64 * b0 + 2)) < (12 : Int32) → post (-1 : Int32) σ))
set_option maxHeartbeats 4000000 in
set_option maxRecDepth 100000 in
theorem kcX0_addRow_30 (l : Launch) (D : va_G) (c : Nat → ClassId) (q : Nat → Nat) (ev : State → Heap → Prop) (hev : evOK (wdA 36 q) ev) (σ : hsS) (x1 : Int32) (x2 : Int64) (post : Int32 → hsS → Prop) (hw : wX0_addRow 30 x1 x2 post σ) : Met l yX0_addRow (Cond.code yX0_addRow cX0_addRow 4 (some .int) :: tb_L) { frames := 0, cells := 0, slots := 0, locals := 0 } (wdPc D (xw c q) (xwT c) (wdA 36 q) ev σ [.ref (q 30), .int x1, .long x2]) (va_Qi post (wdB D (xw c q)) (wdA 36 q)) 0 0 (wdA 36 q) := by
  refine Met.ofW (cc := cX0_addRow) (maxL := 4) (ret := (some .int)) (by decide) rfl ?_
  intro p e s m args below meth c₀ s₁ Bd hml hv
  obtain ⟨rfl, hP, hK, hD0, hE⟩ := hv
  have hx := Bd.exec
  have hb := Bd.bytes
  have hr := Bd.returns
  have hts := atoms_spec (ws := Cond.code yX0_addRow cX0_addRow 4 (some .int) :: tb_L) Bd.pre
  have htb : ∀ w ∈ tb_L, w.before [.ref (q 30), .int x1, .long x2].toArray s = true := fun w h => hts w (List.mem_cons_of_mem _ h)
  have hown : s.vm.findClass RX0 = some m.cls := findClass_of_methodNamed Bd.named
  have hlocks := Bd.notSynchronized
  have hS : va_S (wdA 36 q) s.heap s.heap [] := va_S.rf
  have hD := hD0
  have hl := lv_entry ([.ref (q 30), .int x1, .long x2]) (n := 4) (Nat.le_of_ble_eq_true rfl)
  rw [lg_entry_eq]
  generalize (lg_sl ([.ref (q 30), .int x1, .long x2]) ++ List.replicate (4 - (lg_sl ([.ref (q 30), .int x1, .long x2])).length) Slot.unset).toArray = ls at hl ⊢
  have hl : lv_has ls 4 [(0, .ref (q 30)), (1, .int x1), (2, .long x2)] := hl
  unfold wX0_addRow at hw
  refine lv_aload_n hx hb dX0_addRow_0 rfl (lv_at hl 0 rfl) ?_
  refine va_get (D := D) (ci := 0) (C := RX0) (T := TX0) (N := 5) hx hb htb inX0 hown hK hP 30 (xw_30 c q σ) rfl 2 (by decide) (htb _ tb_325) (fun _ h9 => h9) rfl dX0_addRow_1 ?_
  refine lv_bipush (v := (12 : Int32)) hx hb dX0_addRow_4 (by decide) ?_
  refine lv_icmp_lt (tgt := 11) hx hb dX0_addRow_6 (by decide) (fun c1 => ?_) (fun c1 => ?_)
  · have hw := hw.1 c1
    refine lv_aload_n hx hb dX0_addRow_11 rfl (lv_at hl 0 rfl) ?_
    refine va_get (D := D) (ci := 0) (C := RX0) (T := TX0) (N := 5) hx hb htb inX0 hown hK hP 30 (xw_30 c q σ) rfl 0 (by decide) (htb _ tb_322) (fun _ h9 => h9) rfl dX0_addRow_12 ?_
    refine lv_aload_n hx hb dX0_addRow_15 rfl (lv_at hl 0 rfl) ?_
    refine va_get (D := D) (ci := 0) (C := RX0) (T := TX0) (N := 5) hx hb htb inX0 hown hK hP 30 (xw_30 c q σ) rfl 2 (by decide) (htb _ tb_325) (fun _ h9 => h9) rfl dX0_addRow_16 ?_
    refine lv_iload_n hx hb dX0_addRow_19 rfl (lv_at hl 1 rfl) ?_
    refine va_iast hx hb hK hP hD hS 31 21 (xw_31 c q σ) rfl hw.1 dX0_addRow_20 (fun H locs hP hD hS => ?_)
    have hw := hw.2
    have hP : va_P D vwCl (xw c q (hsA σ 31 (upd (σ.2.1 31) (σ.1 1922).toNatClampNeg x1))) H := hP
    obtain ⟨σ2, eσ2⟩ : ∃ z : hsS, z = hsA σ 31 (upd (σ.2.1 31) (σ.1 1922).toNatClampNeg x1) := ⟨_, rfl⟩
    rw [← eσ2] at hP
    have hD : va_D (wdA 36 q) (xw c q σ2) := xw_D hD0
    have hw := hw σ2 eσ2
    refine lv_aload_n hx hb dX0_addRow_21 rfl (lv_at hl 0 rfl) ?_
    refine va_get (D := D) (ci := 0) (C := RX0) (T := TX0) (N := 5) hx hb htb inX0 hown hK hP 30 (xw_30 c q σ2) rfl 1 (by decide) (htb _ tb_324) (fun _ h9 => h9) rfl dX0_addRow_22 ?_
    refine lv_aload_n hx hb dX0_addRow_25 rfl (lv_at hl 0 rfl) ?_
    refine va_get (D := D) (ci := 0) (C := RX0) (T := TX0) (N := 5) hx hb htb inX0 hown hK hP 30 (xw_30 c q σ2) rfl 2 (by decide) (htb _ tb_325) (fun _ h9 => h9) rfl dX0_addRow_26 ?_
    refine lv_lload_n hx hb dX0_addRow_29 rfl (lv_at hl 2 rfl) ?_
    refine va_last hx hb hK hP hD hS 32 22 (xw_32 c q σ2) rfl hw.1 dX0_addRow_30 (fun H locs hP hD hS => ?_)
    have hw := hw.2
    have hP : va_P D vwCl (xw c q (hsL σ2 32 (vp_updL (σ2.2.2 32) (σ2.1 1922).toNatClampNeg x2))) H := hP
    obtain ⟨σ3, eσ3⟩ : ∃ z : hsS, z = hsL σ2 32 (vp_updL (σ2.2.2 32) (σ2.1 1922).toNatClampNeg x2) := ⟨_, rfl⟩
    rw [← eσ3] at hP
    have hD : va_D (wdA 36 q) (xw c q σ3) := xw_D hD0
    have hw := hw σ3 eσ3
    refine lv_aload_n hx hb dX0_addRow_31 rfl (lv_at hl 0 rfl) ?_
    refine lv_dup hx hb dX0_addRow_32 rfl ?_
    refine va_get (D := D) (ci := 0) (C := RX0) (T := TX0) (N := 5) hx hb htb inX0 hown hK hP 30 (xw_30 c q σ3) rfl 2 (by decide) (htb _ tb_325) (fun _ h9 => h9) rfl dX0_addRow_33 ?_
    refine lv_iconst (v := (1 : Int32)) hx hb dX0_addRow_36 (by decide) ?_
    refine lv_iadd hx hb dX0_addRow_37 ?_
    refine va_put (D := D) (ci := 0) (ty := .int) (C := RX0) (T := TX0) (N := 5) hx hb htb inX0 tyX0 tyX0_ok nmX0 hown hK hP hD hS 30 (xw_30 c q σ3) rfl 2 (by decide) (htb _ tb_325) (fun _ h9 => h9) rfl (by decide +kernel) rfl rfl (Nat.le_of_ble_eq_true rfl) dX0_addRow_38 (fun H locs hP hD hS => ?_)
    have hP : va_P D vwCl (xw c q (hsI σ3 1922 ((σ3.1 1922) + (1 : Int32)))) H := hP
    obtain ⟨σ4, eσ4⟩ : ∃ z : hsS, z = hsI σ3 1922 ((σ3.1 1922) + (1 : Int32)) := ⟨_, rfl⟩
    rw [← eσ4] at hP
    have hD : va_D (wdA 36 q) (xw c q σ4) := xw_D hD0
    have hw := hw σ4 eσ4
    refine lv_aload_n hx hb dX0_addRow_41 rfl (lv_at hl 0 rfl) ?_
    refine va_get (D := D) (ci := 0) (C := RX0) (T := TX0) (N := 5) hx hb htb inX0 hown hK hP 30 (xw_30 c q σ4) rfl 2 (by decide) (htb _ tb_325) (fun _ h9 => h9) rfl dX0_addRow_42 ?_
    refine lv_iconst (v := (1 : Int32)) hx hb dX0_addRow_45 (by decide) ?_
    refine lv_isub hx hb dX0_addRow_46 ?_
    exact W.iret hx hb hr (fun t ht hW => ⟨⟨_, σ4, rfl, hw, by unfold wdB; rw [ht]; exact hP⟩, hS.F ht⟩) hS.2.2 dX0_addRow_47
  · have hw := hw.2 c1
    refine lv_iconst (v := (-1 : Int32)) hx hb dX0_addRow_9 (by decide) ?_
    exact W.iret hx hb hr (fun t ht hW => ⟨⟨_, σ, rfl, hw, by unfold wdB; rw [ht]; exact hP⟩, hS.F ht⟩) hS.2.2 dX0_addRow_10
def wX7_row_L32 (z1 : Int32) (z2 : Int64) (K54 : Int32 → hsS → Prop) (K62 : Int32 → hsS → Prop) (post : Int32 → hsS → Prop) : Nat → Int32 → hsS → Prop
  | 0, _, _ => False
  | n + 1, y4, σ => ((z1 ≤ y4 → K62 y4 σ) ∧ (¬ z1 ≤ y4 → wX0_strikeIn z2 y4 (fun r5 σ6 => ((r5 < (σ6.1 64) → ∀ v8 : Int32, v8 = y4 + (1 : Int32) → wX7_row_L32 z1 z2 K54 K62 post n v8 σ6) ∧ (¬ r5 < (σ6.1 64) → K54 y4 σ6))) σ))
def wX7_row (x1 : Int32) (x2 : Int64) (post : Int32 → hsS → Prop) (σ : hsS) : Prop := ((x1 < (0 : Int32) → post (-1 : Int32) σ) ∧ (¬ x1 < (0 : Int32) → (((σ.1 70) < x1 → post (-1 : Int32) σ) ∧ (¬ (σ.1 70) < x1 → (((σ.1 1922) < (12 : Int32) → ∃ n9, wX7_row_L32 x1 x2 (fun v10 σ11 => post (-1 : Int32) σ11) (fun v12 σ13 => wX0_addRow 30 x1 x2 (fun r14 σ15 => post r14 σ15) σ13) post n9 (0 : Int32) σ) ∧ (¬ (σ.1 1922) < (12 : Int32) → post (-1 : Int32) σ))))))
set_option maxHeartbeats 4000000 in
set_option maxRecDepth 100000 in
theorem kcX7_row (l : Launch) (D : va_G) (c : Nat → ClassId) (q : Nat → Nat) (ev : State → Heap → Prop) (hev : evOK (wdA 36 q) ev) (σ : hsS) (x1 : Int32) (x2 : Int64) (post : Int32 → hsS → Prop) (hw : wX7_row x1 x2 post σ) : Met l yX7_row (Cond.code yX7_row cX7_row 5 (some .int) :: tb_L) { frames := 1, cells := 0, slots := 0, locals := 23 } (wdPc D (xw c q) (xwT c) (wdA 36 q) ev σ [.ref (q 0), .int x1, .long x2]) (va_Qi post (wdB D (xw c q)) (wdA 36 q)) 0 0 (wdA 36 q) := by
  refine Met.ofW (cc := cX7_row) (maxL := 5) (ret := (some .int)) (by decide) rfl ?_
  intro p e s m args below meth c₀ s₁ Bd hml hv
  obtain ⟨rfl, hP, hK, hD0, hE⟩ := hv
  have hx := Bd.exec
  have hb := Bd.bytes
  have hr := Bd.returns
  have hts := atoms_spec (ws := Cond.code yX7_row cX7_row 5 (some .int) :: tb_L) Bd.pre
  have htb : ∀ w ∈ tb_L, w.before [.ref (q 0), .int x1, .long x2].toArray s = true := fun w h => hts w (List.mem_cons_of_mem _ h)
  have hown : s.vm.findClass RX7 = some m.cls := findClass_of_methodNamed Bd.named
  have hlocks := Bd.notSynchronized
  have hS : va_S (wdA 36 q) s.heap s.heap [] := va_S.rf
  have hD := hD0
  have L32 : ∀ (K54 : Int32 → hsS → Prop) (K62 : Int32 → hsS → Prop) (z1 : Int32) (z2 : Int64) (n : Nat) (y4 : Int32) (σ : hsS) (H : Heap) (locs : List Loc) (ls : Array Slot), wX7_row_L32 z1 z2 K54 K62 post n y4 σ → (∀ (y4 : Int32) (σ : hsS) (H : Heap) (locs : List Loc) (ls : Array Slot), K54 y4 σ → va_P D vwCl (xw c q σ) H → va_S (wdA 36 q) s.heap H locs → lv_has ls 5 [(0, .ref (q 0)), (1, .int z1), (2, .long z2), (4, .int y4)] → W p l e (headSpec (Cond.code yX7_row cX7_row 5 (some .int) :: tb_L) { frames := 1, cells := 0, slots := 0, locals := 23 }).room s m [.ref (q 0), .int x1, .long x2].toArray below meth c₀ H locs 0 0 (MQ below (va_Qi post (wdB D (xw c q)) (wdA 36 q)) [.ref (q 0), .int x1, .long x2].toArray s 0 0 (wdA 36 q)) (F0 m 54 ls [])) → (∀ (y4 : Int32) (σ : hsS) (H : Heap) (locs : List Loc) (ls : Array Slot), K62 y4 σ → va_P D vwCl (xw c q σ) H → va_S (wdA 36 q) s.heap H locs → lv_has ls 5 [(0, .ref (q 0)), (1, .int z1), (2, .long z2), (4, .int y4)] → W p l e (headSpec (Cond.code yX7_row cX7_row 5 (some .int) :: tb_L) { frames := 1, cells := 0, slots := 0, locals := 23 }).room s m [.ref (q 0), .int x1, .long x2].toArray below meth c₀ H locs 0 0 (MQ below (va_Qi post (wdB D (xw c q)) (wdA 36 q)) [.ref (q 0), .int x1, .long x2].toArray s 0 0 (wdA 36 q)) (F0 m 62 ls [])) → va_P D vwCl (xw c q σ) H → va_S (wdA 36 q) s.heap H locs → lv_has ls 5 [(0, .ref (q 0)), (1, .int z1), (2, .long z2), (4, .int y4)] → W p l e (headSpec (Cond.code yX7_row cX7_row 5 (some .int) :: tb_L) { frames := 1, cells := 0, slots := 0, locals := 23 }).room s m [.ref (q 0), .int x1, .long x2].toArray below meth c₀ H locs 0 0 (MQ below (va_Qi post (wdB D (xw c q)) (wdA 36 q)) [.ref (q 0), .int x1, .long x2].toArray s 0 0 (wdA 36 q)) (F0 m 32 ls []) := by
    intro K54 K62 z1 z2 n
    induction n with
    | zero =>
      intro y4 σ H locs ls hw hk54 hk62 hP hS hl
      exact (show False from hw).elim
    | succ n ih =>
      intro y4 σ H locs ls hw hk54 hk62 hP hS hl
      rw [wX7_row_L32] at hw
      have hD : va_D (wdA 36 q) (xw c q σ) := xw_D hD0
      refine lv_iload hx hb dX7_row_32 (lv_at hl 3 rfl) ?_
      refine lv_iload_n hx hb dX7_row_34 rfl (lv_at hl 1 rfl) ?_
      refine lv_icmp_ge (tgt := 62) hx hb dX7_row_35 (by decide) (fun c4 => ?_) (fun c4 => ?_)
      · have hw := hw.1 c4
        exact hk62 y4 σ _ _ _ hw hP hS (lv_sub hl [0, 1, 2, 3] rfl)
      · have hw := hw.2 c4
        refine lv_lload_n hx hb dX7_row_38 rfl (lv_at hl 2 rfl) ?_
        refine lv_iload hx hb dX7_row_39 (lv_at hl 3 rfl) ?_
        refine va_calli (va_runS (As := [.long z2, .int y4]) (rest := []) ⟨hx, hb, hml, hown, htb⟩ (kcX0_strikeIn_x l D c q ev hev σ z2 y4 _ hw) (tb_CS htb kX0_strikeIn tb_622 tb_623 ⟨Nat.le_of_ble_eq_true rfl, Nat.le_of_ble_eq_true rfl⟩) (wd_preS (wd := xw c q) hev hK hP hD hE hS) rfl rfl hl.1 rfl (lv_room (Nat.le_of_ble_eq_true rfl)) dX7_row_41 ⟨Nat.zero_le _, Nat.zero_le _⟩) hS (fun q _ h => h) (fun q h => h) (fun r5 σ6 t H1 locs1 ht hvm hw hB hz1 hk1 hS => ?_)
        have hP : va_P D vwCl (xw c q σ6) H1 := ht ▸ hB
        have hD : va_D (wdA 36 q) (xw c q σ6) := xw_D hD0
        refine lv_aload_n hx hb dX7_row_44 rfl (lv_at hl 0 rfl) ?_
        refine va_get (D := D) (ci := 7) (C := RX7) (T := TX7) (N := 9) hx hb htb inX7 hown hK hP 0 (xw_0 c q σ6) rfl 0 (by decide) (htb _ tb_342) (fun _ h9 => h9) rfl dX7_row_45 ?_
        refine va_getN (D := D) (ci := 1) (C := RX1) (T := TX1) (N := 12) hx hb htb inX1 hown hK hP 1 (xw_1 c q σ6) rfl 0 (by decide) (htb _ tb_130) (fun _ h9 => h9) rfl dX7_row_48 ?_
        refine lv_icmp_lt (tgt := 56) hx hb dX7_row_51 (by decide) (fun c7 => ?_) (fun c7 => ?_)
        · have hw := hw.1 c7
          obtain ⟨v8, ev8⟩ : ∃ z : Int32, z = y4 + (1 : Int32) := ⟨_, rfl⟩
          have hw := hw v8 ev8
          refine lv_iinc (v := v8) (lv' := [(4, .int v8), (0, .ref (q 0)), (1, .int z1), (2, .long z2)]) hx hb dX7_row_56 hl (k := 3) rfl (by rw [ev8]; rfl) (by decide) rfl (fun ls hl => ?_)
          refine lv_goto (tgt := 32) hx hb dX7_row_59 (by decide) ?_
          exact ih v8 σ6 _ _ _ hw hk54 hk62 hP hS (lv_sub hl [1, 2, 3, 0] rfl)
        · have hw := hw.2 c7
          exact hk54 y4 σ6 _ _ _ hw hP hS (lv_sub hl [0, 1, 2, 3] rfl)
  have hl := lv_entry ([.ref (q 0), .int x1, .long x2]) (n := 5) (Nat.le_of_ble_eq_true rfl)
  rw [lg_entry_eq]
  generalize (lg_sl ([.ref (q 0), .int x1, .long x2]) ++ List.replicate (5 - (lg_sl ([.ref (q 0), .int x1, .long x2])).length) Slot.unset).toArray = ls at hl ⊢
  have hl : lv_has ls 5 [(0, .ref (q 0)), (1, .int x1), (2, .long x2)] := hl
  unfold wX7_row at hw
  refine lv_iload_n hx hb dX7_row_0 rfl (lv_at hl 1 rfl) ?_
  refine lv_if_lt (tgt := 27) hx hb dX7_row_1 (by decide) (fun c1 => ?_) (fun c1 => ?_)
  · have hw := hw.1 c1
    refine lv_iconst (v := (-1 : Int32)) hx hb dX7_row_27 (by decide) ?_
    exact W.iret hx hb hr (fun t ht hW => ⟨⟨_, σ, rfl, hw, by unfold wdB; rw [ht]; exact hP⟩, hS.F ht⟩) hS.2.2 dX7_row_28
  · have hw := hw.2 c1
    refine lv_iload_n hx hb dX7_row_4 rfl (lv_at hl 1 rfl) ?_
    refine lv_aload_n hx hb dX7_row_5 rfl (lv_at hl 0 rfl) ?_
    refine va_get (D := D) (ci := 7) (C := RX7) (T := TX7) (N := 9) hx hb htb inX7 hown hK hP 0 (xw_0 c q σ) rfl 0 (by decide) (htb _ tb_342) (fun _ h9 => h9) rfl dX7_row_6 ?_
    refine va_getN (D := D) (ci := 1) (C := RX1) (T := TX1) (N := 12) hx hb htb inX1 hown hK hP 1 (xw_1 c q σ) rfl 6 (by decide) (htb _ tb_151) (fun _ h9 => h9) rfl dX7_row_9 ?_
    refine lv_icmp_gt (tgt := 27) hx hb dX7_row_12 (by decide) (fun c2 => ?_) (fun c2 => ?_)
    · have hw := hw.1 c2
      refine lv_iconst (v := (-1 : Int32)) hx hb dX7_row_27 (by decide) ?_
      exact W.iret hx hb hr (fun t ht hW => ⟨⟨_, σ, rfl, hw, by unfold wdB; rw [ht]; exact hP⟩, hS.F ht⟩) hS.2.2 dX7_row_28
    · have hw := hw.2 c2
      refine lv_aload_n hx hb dX7_row_15 rfl (lv_at hl 0 rfl) ?_
      refine va_get (D := D) (ci := 7) (C := RX7) (T := TX7) (N := 9) hx hb htb inX7 hown hK hP 0 (xw_0 c q σ) rfl 7 (by decide) (htb _ tb_349) (fun _ h9 => h9) rfl dX7_row_16 ?_
      refine va_getN (D := D) (ci := 0) (C := RX0) (T := TX0) (N := 5) hx hb htb inX0 hown hK hP 30 (xw_30 c q σ) rfl 2 (by decide) (htb _ tb_326) (fun _ h9 => h9) rfl dX7_row_19 ?_
      refine lv_bipush (v := (12 : Int32)) hx hb dX7_row_22 (by decide) ?_
      refine lv_icmp_lt (tgt := 29) hx hb dX7_row_24 (by decide) (fun c3 => ?_) (fun c3 => ?_)
      · have hw := hw.1 c3
        refine lv_iconst (v := (0 : Int32)) hx hb dX7_row_29 (by decide) ?_
        refine lv_istore (lv' := [(4, .int (0 : Int32)), (0, .ref (q 0)), (1, .int x1), (2, .long x2)]) hx hb dX7_row_30 hl (by decide) rfl (fun ls hl => ?_)
        obtain ⟨n9, hw⟩ := hw
        refine L32 _ _ x1 x2 n9 (0 : Int32) σ _ _ _ hw ?_ ?_ hP hS (lv_sub hl [1, 2, 3, 0] rfl)
        · intro v10 σ11 H locs ls hw hP hS hl
          have hD : va_D (wdA 36 q) (xw c q σ11) := xw_D hD0
          refine lv_iconst (v := (-1 : Int32)) hx hb dX7_row_54 (by decide) ?_
          exact W.iret hx hb hr (fun t ht hW => ⟨⟨_, σ11, rfl, hw, by unfold wdB; rw [ht]; exact hP⟩, hS.F ht⟩) hS.2.2 dX7_row_55
        · intro v12 σ13 H locs ls hw hP hS hl
          have hD : va_D (wdA 36 q) (xw c q σ13) := xw_D hD0
          refine lv_aload_n hx hb dX7_row_62 rfl (lv_at hl 0 rfl) ?_
          refine va_get (D := D) (ci := 7) (C := RX7) (T := TX7) (N := 9) hx hb htb inX7 hown hK hP 0 (xw_0 c q σ13) rfl 7 (by decide) (htb _ tb_349) (fun _ h9 => h9) rfl dX7_row_63 ?_
          refine lv_iload_n hx hb dX7_row_66 rfl (lv_at hl 1 rfl) ?_
          refine lv_lload_n hx hb dX7_row_67 rfl (lv_at hl 2 rfl) ?_
          refine va_calli (va_runV (As := [.int x1, .long x2]) (rest := []) ⟨hx, hb, hml, hown, htb⟩ (kcX0_addRow_30 l D c q ev hev σ13 x1 x2 _ hw) (tb_CW htb kX0_addRow tb_625 tb_626 tb_627 ⟨Nat.le_of_ble_eq_true rfl, Nat.le_of_ble_eq_true rfl⟩) (wd_preV (wd := xw c q) (k := 30) hev hK hP hD hE hS (xw_30 c q σ13) rfl) rfl rfl hl.1 rfl (lv_room (Nat.le_of_ble_eq_true rfl)) dX7_row_68 ⟨Nat.zero_le _, Nat.zero_le _⟩) hS (fun q _ h => h) (fun q h => h) (fun r14 σ15 t H1 locs1 ht hvm hw hB hz1 hk1 hS => ?_)
          have hP : va_P D vwCl (xw c q σ15) H1 := ht ▸ hB
          have hD : va_D (wdA 36 q) (xw c q σ15) := xw_D hD0
          exact W.iret hx hb hr (fun t ht hW => ⟨⟨_, σ15, rfl, hw, by unfold wdB; rw [ht]; exact hP⟩, hS.F ht⟩) hS.2.2 dX7_row_71
      · have hw := hw.2 c3
        refine lv_iconst (v := (-1 : Int32)) hx hb dX7_row_27 (by decide) ?_
        exact W.iret hx hb hr (fun t ht hW => ⟨⟨_, σ, rfl, hw, by unfold wdB; rw [ht]; exact hP⟩, hS.F ht⟩) hS.2.2 dX7_row_28
