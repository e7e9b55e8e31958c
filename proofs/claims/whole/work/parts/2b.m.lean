theorem kX8_is : tbM yX8_is cX8_is 4 (some .boolean) 1 := ⟨tb_1393, tb_99, by decide +kernel, by decide +kernel⟩
theorem kX8_readLikes : tbM yX8_readLikes cX8_readLikes 8 none 1 := ⟨tb_1422, tb_99, by decide +kernel, by decide +kernel⟩
theorem kX8_word : tbM yX8_word cX8_word 2 none 1 := ⟨tb_1389, tb_99, by decide +kernel, by decide +kernel⟩
theorem kX8_readPerson : tbM yX8_readPerson cX8_readPerson 4 none 0 := ⟨tb_1416, tb_99, by decide +kernel, by decide +kernel⟩
theorem kX8_readLaw : tbM yX8_readLaw cX8_readLaw 2 none 0 := ⟨tb_1429, tb_99, by decide +kernel, by decide +kernel⟩
theorem kX8_readTurns : tbM yX8_readTurns cX8_readTurns 2 none 0 := ⟨tb_1441, tb_99, by decide +kernel, by decide +kernel⟩
theorem kX8_readLine : tbM yX8_readLine cX8_readLine 1 none 0 := ⟨tb_1411, tb_99, by decide +kernel, by decide +kernel⟩
theorem kX8_renew : tbM yX8_renew cX8_renew 2 none 0 := ⟨tb_1445, tb_99, by decide +kernel, by decide +kernel⟩
theorem kX8_hall : tbM yX8_hall cX8_hall 4 (some .int) 1 := ⟨tb_1365, tb_99, by decide +kernel, by decide +kernel⟩
theorem kX8_fault : tbM yX8_fault cX8_fault 1 (some .int) 0 := ⟨tb_1449, tb_99, by decide +kernel, by decide +kernel⟩
theorem kX8_weightOf : tbM yX8_weightOf cX8_weightOf 4 (some .int) 1 := ⟨tb_1457, tb_99, by decide +kernel, by decide +kernel⟩
theorem kX8_count : tbM yX8_count cX8_count 2 (some .int) 1 := ⟨tb_1453, tb_99, by decide +kernel, by decide +kernel⟩
theorem kX8_turn : tbM yX8_turn cX8_turn 2 (some .int) 1 := ⟨tb_1461, tb_99, by decide +kernel, by decide +kernel⟩
theorem kX8_placeOf : tbM yX8_placeOf cX8_placeOf 6 (some .int) 3 := ⟨tb_1480, tb_99, by decide +kernel, by decide +kernel⟩
theorem kX8_look : tbM yX8_look cX8_look 3 none 0 := ⟨tb_1503, tb_99, by decide +kernel, by decide +kernel⟩
theorem kX8_lookWith : tbM yX8_lookWith cX8_lookWith 7 none 1 := ⟨tb_1550, tb_99, by decide +kernel, by decide +kernel⟩
theorem kX8_place : tbM yX8_place cX8_place 3 (some .int) 2 := ⟨tb_1468, tb_99, by decide +kernel, by decide +kernel⟩
theorem kX8_sizeOf : tbM yX8_sizeOf cX8_sizeOf 3 (some .int) 1 := ⟨tb_1495, tb_99, by decide +kernel, by decide +kernel⟩
theorem kX8_mayOf : tbM yX8_mayOf cX8_mayOf 6 (some .int) 3 := ⟨tb_1492, tb_99, by decide +kernel, by decide +kernel⟩
theorem kX8_everybody : tbM yX8_everybody cX8_everybody 1 (some .int) 0 := ⟨tb_1488, tb_99, by decide +kernel, by decide +kernel⟩
theorem kX8_may : tbM yX8_may cX8_may 2 (some .int) 1 := ⟨tb_1484, tb_99, by decide +kernel, by decide +kernel⟩
set_option maxHeartbeats 4000000 in
set_option maxRecDepth 100000 in
theorem kcJ0_charAt_5068e_sm (l : Launch) (D : va_G) (c : Nat → ClassId) (q : Nat → Nat) (ev : State → Heap → Prop) (hev : evOK (wdA 31 q) ev) (adK adV : Nat → Nat) (hZ : ∀ (U : State) (H : Heap), ev U H → evS (wdA 31 q) adK adV U H) (σ : hsS) (i0 : Nat) (hi0 : i0 < 11) (x1 : Int32) (post : Int32 → hsS → Prop) (hw : wJ0_charAt_5068e i0 x1 post σ) : Met l yJ0_charAt_5068e (Cond.code yJ0_charAt_5068e cJ0_charAt_5068e 2 (some .char) :: tb_L) { frames := 3, cells := 0, slots := 0, locals := 64 } (wdPc D (mw c q) (mwT c) (wdA 31 q) ev σ [.ref (adK i0), .int x1]) (va_Qi post (wdB D (mw c q)) (wdA 31 q)) 0 0 (wdA 31 q) := by
  refine Met.ofW (cc := cJ0_charAt_5068e) (maxL := 2) (ret := (some .char)) (by decide) rfl ?_
  intro p e s m args below meth c₀ s₁ Bd hml hv
  obtain ⟨rfl, hP, hK, hD0, hE⟩ := hv
  have hx := Bd.exec
  have hb := Bd.bytes
  have hr := Bd.returns
  have hts := atoms_spec (ws := Cond.code yJ0_charAt_5068e cJ0_charAt_5068e 2 (some .char) :: tb_L) Bd.pre
  have htb : ∀ w ∈ tb_L, w.before [.ref (adK i0), .int x1].toArray s = true := fun w h => hts w (List.mem_cons_of_mem _ h)
  have hown : s.vm.findClass RJ0 = some m.cls := findClass_of_methodNamed Bd.named
  have hlocks := Bd.notSynchronized
  have hS : va_S (wdA 31 q) s.heap s.heap [] := va_S.rf
  have hD := hD0
  have hl := lv_entry ([.ref (adK i0), .int x1]) (n := 2) (Nat.le_of_ble_eq_true rfl)
  rw [lg_entry_eq]
  generalize (lg_sl ([.ref (adK i0), .int x1]) ++ List.replicate (2 - (lg_sl ([.ref (adK i0), .int x1])).length) Slot.unset).toArray = ls at hl ⊢
  have hl : lv_has ls 2 [(0, .ref (adK i0)), (1, .int x1)] := hl
  unfold wJ0_charAt_5068e at hw
  refine lv_aload_n hx hb dJ0_charAt_5068e_0 rfl (lv_at hl 0 rfl) ?_
  refine va_calli (va_runV (As := []) (rest := []) ⟨hx, hb, hml, hown, htb⟩ (kcJ0_isLatin1_aae02_sm l D c q ev hev adK adV hZ σ i0 hi0 _ hw) (tb_CW htb kJ0_isLatin1_aae02 tb_764 tb_765 tb_766 ⟨Nat.le_of_ble_eq_true rfl, Nat.le_of_ble_eq_true rfl⟩) (wd_preVs (wd := mw c q) (hZ s s.heap hE).1 hi0 hev hK hP hD hE hS) rfl rfl hl.1 rfl (lv_room (Nat.le_of_ble_eq_true rfl)) dJ0_charAt_5068e_1 ⟨Nat.zero_le _, Nat.zero_le _⟩) hS (fun q _ h => h) (fun q h => h) (fun r1 σ2 t H1 locs1 ht hvm hw hB hz1 hk1 hS => ?_)
  have hP : va_P D vwCl (mw c q σ2) H1 := ht ▸ hB
  have hD : va_D (wdA 31 q) (mw c q σ2) := mw_D hD0
  refine lv_if_eq (tgt := 16) hx hb dJ0_charAt_5068e_4 (by decide) (fun c3 => ?_) (fun c3 => ?_)
  · have hw := hw.1 c3
    exact hw.elim
  · have hw := hw.2 c3
    refine lv_aload_n hx hb dJ0_charAt_5068e_7 rfl (lv_at hl 0 rfl) ?_
    refine vk_getf hx hb ((hZ s s.heap hE).1.1 i0 hi0).2.2.1 hS hown (htb _ tb_1726) (fun _ h9 => h9) dJ0_charAt_5068e_8 ?_
    refine lv_iload_n hx hb dJ0_charAt_5068e_11 rfl (lv_at hl 1 rfl) ?_
    refine va_calli (va_runS (As := [.ref (adV i0), .int x1]) (rest := []) ⟨hx, hb, hml, hown, htb⟩ (kcJ1_charAt_3b067_vm l D c q ev hev adK adV hZ σ2 i0 hi0 x1 _ hw) (tb_CS htb kJ1_charAt_3b067 tb_768 tb_769 ⟨Nat.le_of_ble_eq_true rfl, Nat.le_of_ble_eq_true rfl⟩) (wd_preS (wd := mw c q) hev hK hP hD hE hS) rfl rfl hl.1 rfl (lv_room (Nat.le_of_ble_eq_true rfl)) dJ0_charAt_5068e_12 ⟨Nat.zero_le _, Nat.zero_le _⟩) hS (fun q _ h => h) (fun q h => h) (fun r4 σ5 t H1 locs1 ht hvm hw hB hz1 hk1 hS => ?_)
    have hP : va_P D vwCl (mw c q σ5) H1 := ht ▸ hB
    have hD : va_D (wdA 31 q) (mw c q σ5) := mw_D hD0
    exact W.zret hx hb hr hw.1 (fun t ht hW => ⟨⟨_, σ5, rfl, hw.2, by unfold wdB; rw [ht]; exact hP⟩, hS.F ht⟩) hS.2.2 dJ0_charAt_5068e_15
def wX8_is_L39 (i1 : Nat) (K82 : Int32 → Int32 → hsS → Prop) (post : Int32 → hsS → Prop) : Nat → Int32 → Int32 → hsS → Prop
  | 0, _, _, _ => False
  | n + 1, y2, y3, σ => ((y2 = (0 : Int32) → K82 y2 y3 σ) ∧ (¬ y2 = (0 : Int32) → wJ0_length_8abf5 i1 (fun r7 σ8 => ((r7 ≤ y3 → K82 y2 y3 σ8) ∧ (¬ r7 ≤ y3 → wJ0_charAt_5068e i1 y3 (fun r10 σ11 => vp_in ((σ11.1 19) + y3) 600 ∧ ((r10 = (σ11.2.1 12 ((σ11.1 19) + y3).toNatClampNeg) → ∀ v13 : Int32, v13 = y3 + (1 : Int32) → wX8_is_L39 i1 K82 post n (1 : Int32) v13 σ11) ∧ (¬ r10 = (σ11.2.1 12 ((σ11.1 19) + y3).toNatClampNeg) → ∀ v14 : Int32, v14 = y3 + (1 : Int32) → wX8_is_L39 i1 K82 post n (0 : Int32) v14 σ11))) σ8))) σ))
def wX8_is (i1 : Nat) (post : Int32 → hsS → Prop) (σ : hsS) : Prop := (((σ.1 21) = (0 : Int32) → (((σ.1 17) = (1 : Int32) → wJ0_length_8abf5 i1 (fun r3 σ4 => ((r3 = ((σ4.1 20) - (σ4.1 19)) → ∃ n15, wX8_is_L39 i1 (fun v16 v17 σ18 => (v16 = 0 ∨ v16 = 1) ∧ post v16 σ18) post n15 (1 : Int32) (0 : Int32) σ4) ∧ (¬ r3 = ((σ4.1 20) - (σ4.1 19)) → ∃ n19, wX8_is_L39 i1 (fun v20 v21 σ22 => (v20 = 0 ∨ v20 = 1) ∧ post v20 σ22) post n19 (0 : Int32) (0 : Int32) σ4))) σ) ∧ (¬ (σ.1 17) = (1 : Int32) → ∃ n23, wX8_is_L39 i1 (fun v24 v25 σ26 => (v24 = 0 ∨ v24 = 1) ∧ post v24 σ26) post n23 (0 : Int32) (0 : Int32) σ))) ∧ (¬ (σ.1 21) = (0 : Int32) → ∃ n27, wX8_is_L39 i1 (fun v28 v29 σ30 => (v28 = 0 ∨ v28 = 1) ∧ post v28 σ30) post n27 (0 : Int32) (0 : Int32) σ))
set_option maxHeartbeats 4000000 in
set_option maxRecDepth 100000 in
theorem kcX8_is_s (l : Launch) (D : va_G) (c : Nat → ClassId) (q : Nat → Nat) (ev : State → Heap → Prop) (hev : evOK (wdA 31 q) ev) (adK adV : Nat → Nat) (hZ : ∀ (U : State) (H : Heap), ev U H → evS (wdA 31 q) adK adV U H) (σ : hsS) (i1 : Nat) (hi1 : i1 < 11) (post : Int32 → hsS → Prop) (hw : wX8_is i1 post σ) : Met l yX8_is (Cond.code yX8_is cX8_is 4 (some .boolean) :: tb_L) { frames := 4, cells := 0, slots := 0, locals := 85 } (wdPc D (mw c q) (mwT c) (wdA 31 q) ev σ [.ref (q 0), .ref (adK i1)]) (va_Qi post (wdB D (mw c q)) (wdA 31 q)) 0 0 (wdA 31 q) := by
  refine Met.ofW (cc := cX8_is) (maxL := 4) (ret := (some .boolean)) (by decide) rfl ?_
  intro p e s m args below meth c₀ s₁ Bd hml hv
  obtain ⟨rfl, hP, hK, hD0, hE⟩ := hv
  have hx := Bd.exec
  have hb := Bd.bytes
  have hr := Bd.returns
  have hts := atoms_spec (ws := Cond.code yX8_is cX8_is 4 (some .boolean) :: tb_L) Bd.pre
  have htb : ∀ w ∈ tb_L, w.before [.ref (q 0), .ref (adK i1)].toArray s = true := fun w h => hts w (List.mem_cons_of_mem _ h)
  have hown : s.vm.findClass RX8 = some m.cls := findClass_of_methodNamed Bd.named
  have hlocks := Bd.notSynchronized
  have hS : va_S (wdA 31 q) s.heap s.heap [] := va_S.rf
  have hD := hD0
  have L39 : ∀ (K82 : Int32 → Int32 → hsS → Prop) (n : Nat) (y2 : Int32) (y3 : Int32) (σ : hsS) (H : Heap) (locs : List Loc) (ls : Array Slot), wX8_is_L39 i1 K82 post n y2 y3 σ → (∀ (y2 : Int32) (y3 : Int32) (σ : hsS) (H : Heap) (locs : List Loc) (ls : Array Slot), K82 y2 y3 σ → va_P D vwCl (mw c q σ) H → va_S (wdA 31 q) s.heap H locs → lv_has ls 4 [(0, .ref (q 0)), (1, .ref (adK i1)), (2, .int y2), (3, .int y3)] → W p l e (headSpec (Cond.code yX8_is cX8_is 4 (some .boolean) :: tb_L) { frames := 4, cells := 0, slots := 0, locals := 85 }).room s m [.ref (q 0), .ref (adK i1)].toArray below meth c₀ H locs 0 0 (MQ below (va_Qi post (wdB D (mw c q)) (wdA 31 q)) [.ref (q 0), .ref (adK i1)].toArray s 0 0 (wdA 31 q)) (F0 m 82 ls [])) → va_P D vwCl (mw c q σ) H → va_S (wdA 31 q) s.heap H locs → lv_has ls 4 [(0, .ref (q 0)), (1, .ref (adK i1)), (2, .int y2), (3, .int y3)] → W p l e (headSpec (Cond.code yX8_is cX8_is 4 (some .boolean) :: tb_L) { frames := 4, cells := 0, slots := 0, locals := 85 }).room s m [.ref (q 0), .ref (adK i1)].toArray below meth c₀ H locs 0 0 (MQ below (va_Qi post (wdB D (mw c q)) (wdA 31 q)) [.ref (q 0), .ref (adK i1)].toArray s 0 0 (wdA 31 q)) (F0 m 39 ls []) := by
    intro K82 n
    induction n with
    | zero =>
      intro y2 y3 σ H locs ls hw hk82 hP hS hl
      exact (show False from hw).elim
    | succ n ih =>
      intro y2 y3 σ H locs ls hw hk82 hP hS hl
      rw [wX8_is_L39] at hw
      have hD : va_D (wdA 31 q) (mw c q σ) := mw_D hD0
      refine lv_iload_n hx hb dX8_is_39 rfl (lv_at hl 2 rfl) ?_
      refine lv_if_eq (tgt := 82) hx hb dX8_is_40 (by decide) (fun c6 => ?_) (fun c6 => ?_)
      · have hw := hw.1 c6
        exact hk82 y2 y3 σ _ _ _ hw hP hS (lv_sub hl [0, 1, 2, 3] rfl)
      · have hw := hw.2 c6
        refine lv_iload_n hx hb dX8_is_43 rfl (lv_at hl 3 rfl) ?_
        refine lv_aload_n hx hb dX8_is_44 rfl (lv_at hl 1 rfl) ?_
        refine va_calli (va_runV (As := []) (rest := [.int y3]) ⟨hx, hb, hml, hown, htb⟩ (kcJ0_length_8abf5_sm l D c q ev hev adK adV hZ σ i1 hi1 _ hw) (tb_CW htb kJ0_length_8abf5 tb_1394 tb_751 tb_752 ⟨Nat.le_of_ble_eq_true rfl, Nat.le_of_ble_eq_true rfl⟩) (wd_preVs (wd := mw c q) (hZ s s.heap hE).1 hi1 hev hK hP hD hE hS) rfl rfl hl.1 rfl (lv_room (Nat.le_of_ble_eq_true rfl)) dX8_is_45 ⟨Nat.zero_le _, Nat.zero_le _⟩) hS (fun q _ h => h) (fun q h => h) (fun r7 σ8 t H1 locs1 ht hvm hw hB hz1 hk1 hS => ?_)
        have hP : va_P D vwCl (mw c q σ8) H1 := ht ▸ hB
        have hD : va_D (wdA 31 q) (mw c q σ8) := mw_D hD0
        refine lv_icmp_ge (tgt := 82) hx hb dX8_is_48 (by decide) (fun c9 => ?_) (fun c9 => ?_)
        · have hw := hw.1 c9
          exact hk82 y2 y3 σ8 _ _ _ hw hP hS (lv_sub hl [0, 1, 2, 3] rfl)
        · have hw := hw.2 c9
          refine lv_aload_n hx hb dX8_is_51 rfl (lv_at hl 1 rfl) ?_
          refine lv_iload_n hx hb dX8_is_52 rfl (lv_at hl 3 rfl) ?_
          refine va_calli (va_runV (As := [.int y3]) (rest := []) ⟨hx, hb, hml, hown, htb⟩ (kcJ0_charAt_5068e_sm l D c q ev hev adK adV hZ σ8 i1 hi1 y3 _ hw) (tb_CW htb kJ0_charAt_5068e tb_1395 tb_761 tb_762 ⟨Nat.le_of_ble_eq_true rfl, Nat.le_of_ble_eq_true rfl⟩) (wd_preVs (wd := mw c q) (hZ s s.heap hE).1 hi1 hev hK hP hD hE hS) rfl rfl hl.1 rfl (lv_room (Nat.le_of_ble_eq_true rfl)) dX8_is_53 ⟨Nat.zero_le _, Nat.zero_le _⟩) hS (fun q _ h => h) (fun q h => h) (fun r10 σ11 t H1 locs1 ht hvm hw hB hz1 hk1 hS => ?_)
          have hP : va_P D vwCl (mw c q σ11) H1 := ht ▸ hB
          have hD : va_D (wdA 31 q) (mw c q σ11) := mw_D hD0
          refine lv_aload_n hx hb dX8_is_56 rfl (lv_at hl 0 rfl) ?_
          refine va_get (D := D) (ci := 8) (C := RX8) (T := TX8) (N := 57) hx hb htb inX8 hown hK hP 0 (mw_0 c q σ11) rfl 13 (by decide) (htb _ tb_1194) (fun _ h9 => h9) rfl dX8_is_57 ?_
          refine lv_aload_n hx hb dX8_is_60 rfl (lv_at hl 0 rfl) ?_
          refine va_get (D := D) (ci := 8) (C := RX8) (T := TX8) (N := 57) hx hb htb inX8 hown hK hP 0 (mw_0 c q σ11) rfl 19 (by decide) (htb _ tb_1200) (fun _ h9 => h9) rfl dX8_is_61 ?_
          refine lv_iload_n hx hb dX8_is_64 rfl (lv_at hl 3 rfl) ?_
          refine lv_iadd hx hb dX8_is_65 ?_
          refine va_iald hx hb hK hP 12 11 (mw_12 c q σ11) rfl hw.1 dX8_is_66 ?_
          have hw := hw.2
          refine lv_icmp_ne (tgt := 74) hx hb dX8_is_67 (by decide) (fun c12 => ?_) (fun c12 => ?_)
          · have hw := hw.2 c12
            refine lv_iconst (v := (0 : Int32)) hx hb dX8_is_74 (by decide) ?_
            refine lv_istore_n (lv' := [(2, .int (0 : Int32)), (0, .ref (q 0)), (1, .ref (adK i1)), (3, .int y3)]) hx hb dX8_is_75 rfl hl (by decide) rfl (fun ls hl => ?_)
            obtain ⟨v14, ev14⟩ : ∃ z : Int32, z = y3 + (1 : Int32) := ⟨_, rfl⟩
            have hw := hw v14 ev14
            refine lv_iinc (v := v14) (lv' := [(3, .int v14), (2, .int (0 : Int32)), (0, .ref (q 0)), (1, .ref (adK i1))]) hx hb dX8_is_76 hl (k := 3) rfl (by rw [ev14]; rfl) (by decide) rfl (fun ls hl => ?_)
            refine lv_goto (tgt := 39) hx hb dX8_is_79 (by decide) ?_
            exact ih (0 : Int32) v14 σ11 _ _ _ hw hk82 hP hS (lv_sub hl [2, 3, 1, 0] rfl)
          · have hw := hw.1 c12
            refine lv_iconst (v := (1 : Int32)) hx hb dX8_is_70 (by decide) ?_
            refine lv_goto (tgt := 75) hx hb dX8_is_71 (by decide) ?_
            refine lv_istore_n (lv' := [(2, .int (1 : Int32)), (0, .ref (q 0)), (1, .ref (adK i1)), (3, .int y3)]) hx hb dX8_is_75 rfl hl (by decide) rfl (fun ls hl => ?_)
            obtain ⟨v13, ev13⟩ : ∃ z : Int32, z = y3 + (1 : Int32) := ⟨_, rfl⟩
            have hw := hw v13 ev13
            refine lv_iinc (v := v13) (lv' := [(3, .int v13), (2, .int (1 : Int32)), (0, .ref (q 0)), (1, .ref (adK i1))]) hx hb dX8_is_76 hl (k := 3) rfl (by rw [ev13]; rfl) (by decide) rfl (fun ls hl => ?_)
            refine lv_goto (tgt := 39) hx hb dX8_is_79 (by decide) ?_
            exact ih (1 : Int32) v13 σ11 _ _ _ hw hk82 hP hS (lv_sub hl [2, 3, 1, 0] rfl)
  have hl := lv_entry ([.ref (q 0), .ref (adK i1)]) (n := 4) (Nat.le_of_ble_eq_true rfl)
  rw [lg_entry_eq]
  generalize (lg_sl ([.ref (q 0), .ref (adK i1)]) ++ List.replicate (4 - (lg_sl ([.ref (q 0), .ref (adK i1)])).length) Slot.unset).toArray = ls at hl ⊢
  have hl : lv_has ls 4 [(0, .ref (q 0)), (1, .ref (adK i1))] := hl
  unfold wX8_is at hw
  refine lv_aload_n hx hb dX8_is_0 rfl (lv_at hl 0 rfl) ?_
  refine va_get (D := D) (ci := 8) (C := RX8) (T := TX8) (N := 57) hx hb htb inX8 hown hK hP 0 (mw_0 c q σ) rfl 21 (by decide) (htb _ tb_1202) (fun _ h9 => h9) rfl dX8_is_1 ?_
  refine lv_if_ne (tgt := 35) hx hb dX8_is_4 (by decide) (fun c1 => ?_) (fun c1 => ?_)
  · have hw := hw.2 c1
    refine lv_iconst (v := (0 : Int32)) hx hb dX8_is_35 (by decide) ?_
    refine lv_istore_n (lv' := [(2, .int (0 : Int32)), (0, .ref (q 0)), (1, .ref (adK i1))]) hx hb dX8_is_36 rfl hl (by decide) rfl (fun ls hl => ?_)
    refine lv_iconst (v := (0 : Int32)) hx hb dX8_is_37 (by decide) ?_
    refine lv_istore_n (lv' := [(3, .int (0 : Int32)), (2, .int (0 : Int32)), (0, .ref (q 0)), (1, .ref (adK i1))]) hx hb dX8_is_38 rfl hl (by decide) rfl (fun ls hl => ?_)
    obtain ⟨n27, hw⟩ := hw
    refine L39 _ n27 (0 : Int32) (0 : Int32) σ _ _ _ hw ?_ hP hS (lv_sub hl [2, 3, 1, 0] rfl)
    intro v28 v29 σ30 H locs ls hw hP hS hl
    have hD : va_D (wdA 31 q) (mw c q σ30) := mw_D hD0
    refine lv_iload_n hx hb dX8_is_82 rfl (lv_at hl 2 rfl) ?_
    have hq := hw.2
    exact W.zret hx hb hr (nar_b hw.1) (fun t ht hW => ⟨⟨_, σ30, rfl, hq, by unfold wdB; rw [ht]; exact hP⟩, hS.F ht⟩) hS.2.2 dX8_is_83
  · have hw := hw.1 c1
    refine lv_aload_n hx hb dX8_is_7 rfl (lv_at hl 0 rfl) ?_
    refine va_get (D := D) (ci := 8) (C := RX8) (T := TX8) (N := 57) hx hb htb inX8 hown hK hP 0 (mw_0 c q σ) rfl 17 (by decide) (htb _ tb_1198) (fun _ h9 => h9) rfl dX8_is_8 ?_
    refine lv_iconst (v := (1 : Int32)) hx hb dX8_is_11 (by decide) ?_
    refine lv_icmp_ne (tgt := 35) hx hb dX8_is_12 (by decide) (fun c2 => ?_) (fun c2 => ?_)
    · have hw := hw.2 c2
      refine lv_iconst (v := (0 : Int32)) hx hb dX8_is_35 (by decide) ?_
      refine lv_istore_n (lv' := [(2, .int (0 : Int32)), (0, .ref (q 0)), (1, .ref (adK i1))]) hx hb dX8_is_36 rfl hl (by decide) rfl (fun ls hl => ?_)
      refine lv_iconst (v := (0 : Int32)) hx hb dX8_is_37 (by decide) ?_
      refine lv_istore_n (lv' := [(3, .int (0 : Int32)), (2, .int (0 : Int32)), (0, .ref (q 0)), (1, .ref (adK i1))]) hx hb dX8_is_38 rfl hl (by decide) rfl (fun ls hl => ?_)
      obtain ⟨n23, hw⟩ := hw
      refine L39 _ n23 (0 : Int32) (0 : Int32) σ _ _ _ hw ?_ hP hS (lv_sub hl [2, 3, 1, 0] rfl)
      intro v24 v25 σ26 H locs ls hw hP hS hl
      have hD : va_D (wdA 31 q) (mw c q σ26) := mw_D hD0
      refine lv_iload_n hx hb dX8_is_82 rfl (lv_at hl 2 rfl) ?_
      have hq := hw.2
      exact W.zret hx hb hr (nar_b hw.1) (fun t ht hW => ⟨⟨_, σ26, rfl, hq, by unfold wdB; rw [ht]; exact hP⟩, hS.F ht⟩) hS.2.2 dX8_is_83
    · have hw := hw.1 c2
      refine lv_aload_n hx hb dX8_is_15 rfl (lv_at hl 1 rfl) ?_
      refine va_calli (va_runV (As := []) (rest := []) ⟨hx, hb, hml, hown, htb⟩ (kcJ0_length_8abf5_sm l D c q ev hev adK adV hZ σ i1 hi1 _ hw) (tb_CW htb kJ0_length_8abf5 tb_1394 tb_751 tb_752 ⟨Nat.le_of_ble_eq_true rfl, Nat.le_of_ble_eq_true rfl⟩) (wd_preVs (wd := mw c q) (hZ s s.heap hE).1 hi1 hev hK hP hD hE hS) rfl rfl hl.1 rfl (lv_room (Nat.le_of_ble_eq_true rfl)) dX8_is_16 ⟨Nat.zero_le _, Nat.zero_le _⟩) hS (fun q _ h => h) (fun q h => h) (fun r3 σ4 t H1 locs1 ht hvm hw hB hz1 hk1 hS => ?_)
      have hP : va_P D vwCl (mw c q σ4) H1 := ht ▸ hB
      have hD : va_D (wdA 31 q) (mw c q σ4) := mw_D hD0
      refine lv_aload_n hx hb dX8_is_19 rfl (lv_at hl 0 rfl) ?_
      refine va_get (D := D) (ci := 8) (C := RX8) (T := TX8) (N := 57) hx hb htb inX8 hown hK hP 0 (mw_0 c q σ4) rfl 20 (by decide) (htb _ tb_1201) (fun _ h9 => h9) rfl dX8_is_20 ?_
      refine lv_aload_n hx hb dX8_is_23 rfl (lv_at hl 0 rfl) ?_
      refine va_get (D := D) (ci := 8) (C := RX8) (T := TX8) (N := 57) hx hb htb inX8 hown hK hP 0 (mw_0 c q σ4) rfl 19 (by decide) (htb _ tb_1200) (fun _ h9 => h9) rfl dX8_is_24 ?_
      refine lv_isub hx hb dX8_is_27 ?_
      refine lv_icmp_ne (tgt := 35) hx hb dX8_is_28 (by decide) (fun c5 => ?_) (fun c5 => ?_)
      · have hw := hw.2 c5
        refine lv_iconst (v := (0 : Int32)) hx hb dX8_is_35 (by decide) ?_
        refine lv_istore_n (lv' := [(2, .int (0 : Int32)), (0, .ref (q 0)), (1, .ref (adK i1))]) hx hb dX8_is_36 rfl hl (by decide) rfl (fun ls hl => ?_)
        refine lv_iconst (v := (0 : Int32)) hx hb dX8_is_37 (by decide) ?_
        refine lv_istore_n (lv' := [(3, .int (0 : Int32)), (2, .int (0 : Int32)), (0, .ref (q 0)), (1, .ref (adK i1))]) hx hb dX8_is_38 rfl hl (by decide) rfl (fun ls hl => ?_)
        obtain ⟨n19, hw⟩ := hw
        refine L39 _ n19 (0 : Int32) (0 : Int32) σ4 _ _ _ hw ?_ hP hS (lv_sub hl [2, 3, 1, 0] rfl)
        intro v20 v21 σ22 H locs ls hw hP hS hl
        have hD : va_D (wdA 31 q) (mw c q σ22) := mw_D hD0
        refine lv_iload_n hx hb dX8_is_82 rfl (lv_at hl 2 rfl) ?_
        have hq := hw.2
        exact W.zret hx hb hr (nar_b hw.1) (fun t ht hW => ⟨⟨_, σ22, rfl, hq, by unfold wdB; rw [ht]; exact hP⟩, hS.F ht⟩) hS.2.2 dX8_is_83
      · have hw := hw.1 c5
        refine lv_iconst (v := (1 : Int32)) hx hb dX8_is_31 (by decide) ?_
        refine lv_goto (tgt := 36) hx hb dX8_is_32 (by decide) ?_
        refine lv_istore_n (lv' := [(2, .int (1 : Int32)), (0, .ref (q 0)), (1, .ref (adK i1))]) hx hb dX8_is_36 rfl hl (by decide) rfl (fun ls hl => ?_)
        refine lv_iconst (v := (0 : Int32)) hx hb dX8_is_37 (by decide) ?_
        refine lv_istore_n (lv' := [(3, .int (0 : Int32)), (2, .int (1 : Int32)), (0, .ref (q 0)), (1, .ref (adK i1))]) hx hb dX8_is_38 rfl hl (by decide) rfl (fun ls hl => ?_)
        obtain ⟨n15, hw⟩ := hw
        refine L39 _ n15 (1 : Int32) (0 : Int32) σ4 _ _ _ hw ?_ hP hS (lv_sub hl [2, 3, 1, 0] rfl)
        intro v16 v17 σ18 H locs ls hw hP hS hl
        have hD : va_D (wdA 31 q) (mw c q σ18) := mw_D hD0
        refine lv_iload_n hx hb dX8_is_82 rfl (lv_at hl 2 rfl) ?_
        have hq := hw.2
        exact W.zret hx hb hr (nar_b hw.1) (fun t ht hW => ⟨⟨_, σ18, rfl, hq, by unfold wdB; rw [ht]; exact hP⟩, hS.F ht⟩) hS.2.2 dX8_is_83
def wX8_readLikes_L16 (z1 : Int32) (z2 : Int32) (K67 : Int32 → Int32 → Int32 → hsS → Prop) (K146 : Int32 → Int32 → Int32 → hsS → Prop) (post : hsS → Prop) : Nat → Int32 → Int32 → Int32 → hsS → Prop
  | 0, _, _, _, _ => False
  | n + 1, y3, y4, y5, σ => ((y5 = (0 : Int32) → K146 y3 y4 y5 σ) ∧ (¬ y5 = (0 : Int32) → wX8_readNumber (0 : Int32) (999 : Int32) (σ.2.1 1 (1 : Int32).toNatClampNeg) (0 : Int32) (fun r3 σ4 => (((σ4.1 21) = (0 : Int32) → ((((y3 >>> (r3 &&& 31)) &&& (1 : Int32)) = (1 : Int32) → wX8_wrong (4 : Int32) (fun σ8 => (((σ8.1 21) = (0 : Int32) → wX8_step  (fun σ11 => ∀ v12 : Int32, v12 = y3 ||| ((1 : Int32) <<< (r3 &&& 31)) → vp_in (z2 + r3) 160 ∧ ∀ σ13 : hsS, σ13 = hsA σ11 8 (upd (σ11.2.1 8) (z2 + r3).toNatClampNeg y4) → wX8_is 4 (fun r14 σ15 => ((r14 = (0 : Int32) → wX8_is 5 (fun r17 σ18 => ((r17 = (0 : Int32) → ((r14 = (0 : Int32) → ∀ v21 : Int32, v21 = y4 + (0 : Int32) → wX8_readLikes_L16 z1 z2 K67 K146 post n v12 v21 (0 : Int32) σ18) ∧ (¬ r14 = (0 : Int32) → ∀ v22 : Int32, v22 = y4 + (1 : Int32) → wX8_readLikes_L16 z1 z2 K67 K146 post n v12 v22 (0 : Int32) σ18))) ∧ (¬ r17 = (0 : Int32) → wX8_step  (fun σ24 => ((r14 = (0 : Int32) → ∀ v26 : Int32, v26 = y4 + (0 : Int32) → wX8_readLikes_L16 z1 z2 K67 K146 post n v12 v26 (1 : Int32) σ24) ∧ (¬ r14 = (0 : Int32) → ∀ v27 : Int32, v27 = y4 + (1 : Int32) → wX8_readLikes_L16 z1 z2 K67 K146 post n v12 v27 (1 : Int32) σ24))) σ18))) σ15) ∧ (¬ r14 = (0 : Int32) → wX8_step  (fun σ29 => ((r14 = (0 : Int32) → ∀ v31 : Int32, v31 = y4 + (0 : Int32) → wX8_readLikes_L16 z1 z2 K67 K146 post n v12 v31 (1 : Int32) σ29) ∧ (¬ r14 = (0 : Int32) → ∀ v32 : Int32, v32 = y4 + (1 : Int32) → wX8_readLikes_L16 z1 z2 K67 K146 post n v12 v32 (1 : Int32) σ29))) σ15))) σ13) σ8) ∧ (¬ (σ8.1 21) = (0 : Int32) → K67 y3 y4 y5 σ8))) σ4) ∧ (¬ ((y3 >>> (r3 &&& 31)) &&& (1 : Int32)) = (1 : Int32) → (((σ4.1 21) = (0 : Int32) → wX8_step  (fun σ35 => ∀ v36 : Int32, v36 = y3 ||| ((1 : Int32) <<< (r3 &&& 31)) → vp_in (z2 + r3) 160 ∧ ∀ σ37 : hsS, σ37 = hsA σ35 8 (upd (σ35.2.1 8) (z2 + r3).toNatClampNeg y4) → wX8_is 4 (fun r38 σ39 => ((r38 = (0 : Int32) → wX8_is 5 (fun r41 σ42 => ((r41 = (0 : Int32) → ((r38 = (0 : Int32) → ∀ v45 : Int32, v45 = y4 + (0 : Int32) → wX8_readLikes_L16 z1 z2 K67 K146 post n v36 v45 (0 : Int32) σ42) ∧ (¬ r38 = (0 : Int32) → ∀ v46 : Int32, v46 = y4 + (1 : Int32) → wX8_readLikes_L16 z1 z2 K67 K146 post n v36 v46 (0 : Int32) σ42))) ∧ (¬ r41 = (0 : Int32) → wX8_step  (fun σ48 => ((r38 = (0 : Int32) → ∀ v50 : Int32, v50 = y4 + (0 : Int32) → wX8_readLikes_L16 z1 z2 K67 K146 post n v36 v50 (1 : Int32) σ48) ∧ (¬ r38 = (0 : Int32) → ∀ v51 : Int32, v51 = y4 + (1 : Int32) → wX8_readLikes_L16 z1 z2 K67 K146 post n v36 v51 (1 : Int32) σ48))) σ42))) σ39) ∧ (¬ r38 = (0 : Int32) → wX8_step  (fun σ53 => ((r38 = (0 : Int32) → ∀ v55 : Int32, v55 = y4 + (0 : Int32) → wX8_readLikes_L16 z1 z2 K67 K146 post n v36 v55 (1 : Int32) σ53) ∧ (¬ r38 = (0 : Int32) → ∀ v56 : Int32, v56 = y4 + (1 : Int32) → wX8_readLikes_L16 z1 z2 K67 K146 post n v36 v56 (1 : Int32) σ53))) σ39))) σ37) σ4) ∧ (¬ (σ4.1 21) = (0 : Int32) → K67 y3 y4 y5 σ4))))) ∧ (¬ (σ4.1 21) = (0 : Int32) → (((σ4.1 21) = (0 : Int32) → wX8_step  (fun σ59 => ∀ v60 : Int32, v60 = y3 ||| ((1 : Int32) <<< (r3 &&& 31)) → vp_in (z2 + r3) 160 ∧ ∀ σ61 : hsS, σ61 = hsA σ59 8 (upd (σ59.2.1 8) (z2 + r3).toNatClampNeg y4) → wX8_is 4 (fun r62 σ63 => ((r62 = (0 : Int32) → wX8_is 5 (fun r65 σ66 => ((r65 = (0 : Int32) → ((r62 = (0 : Int32) → ∀ v69 : Int32, v69 = y4 + (0 : Int32) → wX8_readLikes_L16 z1 z2 K67 K146 post n v60 v69 (0 : Int32) σ66) ∧ (¬ r62 = (0 : Int32) → ∀ v70 : Int32, v70 = y4 + (1 : Int32) → wX8_readLikes_L16 z1 z2 K67 K146 post n v60 v70 (0 : Int32) σ66))) ∧ (¬ r65 = (0 : Int32) → wX8_step  (fun σ72 => ((r62 = (0 : Int32) → ∀ v74 : Int32, v74 = y4 + (0 : Int32) → wX8_readLikes_L16 z1 z2 K67 K146 post n v60 v74 (1 : Int32) σ72) ∧ (¬ r62 = (0 : Int32) → ∀ v75 : Int32, v75 = y4 + (1 : Int32) → wX8_readLikes_L16 z1 z2 K67 K146 post n v60 v75 (1 : Int32) σ72))) σ66))) σ63) ∧ (¬ r62 = (0 : Int32) → wX8_step  (fun σ77 => ((r62 = (0 : Int32) → ∀ v79 : Int32, v79 = y4 + (0 : Int32) → wX8_readLikes_L16 z1 z2 K67 K146 post n v60 v79 (1 : Int32) σ77) ∧ (¬ r62 = (0 : Int32) → ∀ v80 : Int32, v80 = y4 + (1 : Int32) → wX8_readLikes_L16 z1 z2 K67 K146 post n v60 v80 (1 : Int32) σ77))) σ63))) σ61) σ4) ∧ (¬ (σ4.1 21) = (0 : Int32) → K67 y3 y4 y5 σ4))))) σ))
def wX8_readLikes_L149 (z1 : Int32) (z2 : Int32) (z3 : Int32) (z4 : Int32) (z5 : Int32) (K184 : Int32 → hsS → Prop) (post : hsS → Prop) : Nat → Int32 → hsS → Prop
  | 0, _, _ => False
  | n + 1, y6, σ => (((10 : Int32) ≤ y6 → K184 y6 σ) ∧ (¬ (10 : Int32) ≤ y6 → ((((z3 >>> (y6 &&& 31)) &&& (1 : Int32)) = (0 : Int32) → vp_in (z2 + y6) 160 ∧ ∀ σ92 : hsS, σ92 = hsA σ 8 (upd (σ.2.1 8) (z2 + y6).toNatClampNeg (z4 + (1 : Int32))) → ∀ v93 : Int32, v93 = y6 + (1 : Int32) → wX8_readLikes_L149 z1 z2 z3 z4 z5 K184 post n v93 σ92) ∧ (¬ ((z3 >>> (y6 &&& 31)) &&& (1 : Int32)) = (0 : Int32) → ∀ v94 : Int32, v94 = y6 + (1 : Int32) → wX8_readLikes_L149 z1 z2 z3 z4 z5 K184 post n v94 σ))))
def wX8_readLikes (x1 : Int32) (post : hsS → Prop) (σ : hsS) : Prop := ∀ v1 : Int32, v1 = ((8 : Int32) + x1) * (10 : Int32) → ∃ n81, wX8_readLikes_L16 x1 v1 (fun v82 v83 v84 σ85 => post σ85) (fun v86 v87 v88 σ89 => ∃ n95, wX8_readLikes_L149 x1 v1 v86 v87 v88 (fun v96 σ97 => post σ97) post n95 (0 : Int32) σ89) post n81 (0 : Int32) (0 : Int32) (1 : Int32) σ
set_option maxHeartbeats 4000000 in
set_option maxRecDepth 100000 in
theorem kcX8_readLikes (l : Launch) (D : va_G) (c : Nat → ClassId) (q : Nat → Nat) (ev : State → Heap → Prop) (hev : evOK (wdA 31 q) ev) (adK adV : Nat → Nat) (hZ : ∀ (U : State) (H : Heap), ev U H → evS (wdA 31 q) adK adV U H) (σ : hsS) (x1 : Int32) (post : hsS → Prop) (hw : wX8_readLikes x1 post σ) : Met l yX8_readLikes (Cond.code yX8_readLikes cX8_readLikes 8 none :: tb_L) { frames := 5, cells := 0, slots := 0, locals := 108 } (wdPc D (mw c q) (mwT c) (wdA 31 q) ev σ [.ref (q 0), .int x1]) (va_Qv post (wdB D (mw c q)) (wdA 31 q)) 0 0 (wdA 31 q) := by
  refine Met.ofW (cc := cX8_readLikes) (maxL := 8) (ret := none) (by decide) rfl ?_
  intro p e s m args below meth c₀ s₁ Bd hml hv
  obtain ⟨rfl, hP, hK, hD0, hE⟩ := hv
  have hx := Bd.exec
  have hb := Bd.bytes
  have hr := Bd.returns
  have hts := atoms_spec (ws := Cond.code yX8_readLikes cX8_readLikes 8 none :: tb_L) Bd.pre
  have htb : ∀ w ∈ tb_L, w.before [.ref (q 0), .int x1].toArray s = true := fun w h => hts w (List.mem_cons_of_mem _ h)
  have hown : s.vm.findClass RX8 = some m.cls := findClass_of_methodNamed Bd.named
  have hlocks := Bd.notSynchronized
  have hS : va_S (wdA 31 q) s.heap s.heap [] := va_S.rf
  have hD := hD0
  have L16 : ∀ (K67 : Int32 → Int32 → Int32 → hsS → Prop) (K146 : Int32 → Int32 → Int32 → hsS → Prop) (z1 : Int32) (z2 : Int32) (n : Nat) (y3 : Int32) (y4 : Int32) (y5 : Int32) (σ : hsS) (H : Heap) (locs : List Loc) (ls : Array Slot), wX8_readLikes_L16 z1 z2 K67 K146 post n y3 y4 y5 σ → (∀ (y3 : Int32) (y4 : Int32) (y5 : Int32) (σ : hsS) (H : Heap) (locs : List Loc) (ls : Array Slot), K67 y3 y4 y5 σ → va_P D vwCl (mw c q σ) H → va_S (wdA 31 q) s.heap H locs → lv_has ls 8 [(0, .ref (q 0)), (1, .int z1), (2, .int z2), (3, .int y3), (4, .int y4), (5, .int y5)] → W p l e (headSpec (Cond.code yX8_readLikes cX8_readLikes 8 none :: tb_L) { frames := 5, cells := 0, slots := 0, locals := 108 }).room s m [.ref (q 0), .int x1].toArray below meth c₀ H locs 0 0 (MQ below (va_Qv post (wdB D (mw c q)) (wdA 31 q)) [.ref (q 0), .int x1].toArray s 0 0 (wdA 31 q)) (F0 m 67 ls [])) → (∀ (y3 : Int32) (y4 : Int32) (y5 : Int32) (σ : hsS) (H : Heap) (locs : List Loc) (ls : Array Slot), K146 y3 y4 y5 σ → va_P D vwCl (mw c q σ) H → va_S (wdA 31 q) s.heap H locs → lv_has ls 8 [(0, .ref (q 0)), (1, .int z1), (2, .int z2), (3, .int y3), (4, .int y4), (5, .int y5)] → W p l e (headSpec (Cond.code yX8_readLikes cX8_readLikes 8 none :: tb_L) { frames := 5, cells := 0, slots := 0, locals := 108 }).room s m [.ref (q 0), .int x1].toArray below meth c₀ H locs 0 0 (MQ below (va_Qv post (wdB D (mw c q)) (wdA 31 q)) [.ref (q 0), .int x1].toArray s 0 0 (wdA 31 q)) (F0 m 146 ls [])) → va_P D vwCl (mw c q σ) H → va_S (wdA 31 q) s.heap H locs → lv_has ls 8 [(0, .ref (q 0)), (1, .int z1), (2, .int z2), (3, .int y3), (4, .int y4), (5, .int y5)] → W p l e (headSpec (Cond.code yX8_readLikes cX8_readLikes 8 none :: tb_L) { frames := 5, cells := 0, slots := 0, locals := 108 }).room s m [.ref (q 0), .int x1].toArray below meth c₀ H locs 0 0 (MQ below (va_Qv post (wdB D (mw c q)) (wdA 31 q)) [.ref (q 0), .int x1].toArray s 0 0 (wdA 31 q)) (F0 m 16 ls []) := by
    intro K67 K146 z1 z2 n
    induction n with
    | zero =>
      intro y3 y4 y5 σ H locs ls hw hk67 hk146 hP hS hl
      exact (show False from hw).elim
    | succ n ih =>
      intro y3 y4 y5 σ H locs ls hw hk67 hk146 hP hS hl
      rw [wX8_readLikes_L16] at hw
      have hD : va_D (wdA 31 q) (mw c q σ) := mw_D hD0
      refine lv_iload hx hb dX8_readLikes_16 (lv_at hl 5 rfl) ?_
      refine lv_if_eq (tgt := 146) hx hb dX8_readLikes_18 (by decide) (fun c2 => ?_) (fun c2 => ?_)
      · have hw := hw.1 c2
        exact hk146 y3 y4 y5 σ _ _ _ hw hP hS (lv_sub hl [0, 1, 2, 3, 4, 5] rfl)
      · have hw := hw.2 c2
        refine lv_aload_n hx hb dX8_readLikes_21 rfl (lv_at hl 0 rfl) ?_
        refine lv_iconst (v := (0 : Int32)) hx hb dX8_readLikes_22 (by decide) ?_
        refine lv_sipush (v := (999 : Int32)) hx hb dX8_readLikes_23 (by decide) ?_
        refine lv_aload_n hx hb dX8_readLikes_26 rfl (lv_at hl 0 rfl) ?_
        refine va_get (D := D) (ci := 8) (C := RX8) (T := TX8) (N := 57) hx hb htb inX8 hown hK hP 0 (mw_0 c q σ) rfl 1 (by decide) (htb _ tb_1182) (fun _ h9 => h9) rfl dX8_readLikes_27 ?_
        refine lv_iconst (v := (1 : Int32)) hx hb dX8_readLikes_30 (by decide) ?_
        refine va_iald hx hb hK hP 1 0 (mw_1 c q σ) rfl (by unfold vp_in; decide) dX8_readLikes_31 ?_
        refine lv_iconst (v := (0 : Int32)) hx hb dX8_readLikes_32 (by decide) ?_
        refine va_calli (va_runV (As := [.int (0 : Int32), .int (999 : Int32), .int (σ.2.1 1 (1 : Int32).toNatClampNeg), .int (0 : Int32)]) (rest := []) ⟨hx, hb, hml, hown, htb⟩ (kcX8_readNumber l D c q ev hev σ (0 : Int32) (999 : Int32) (σ.2.1 1 (1 : Int32).toNatClampNeg) (0 : Int32) _ hw) (tb_CW htb kX8_readNumber tb_1400 tb_1402 tb_48 ⟨Nat.le_of_ble_eq_true rfl, Nat.le_of_ble_eq_true rfl⟩) (wd_preV (wd := mw c q) (k := 0) hev hK hP hD hE hS (mw_0 c q σ) rfl) rfl rfl hl.1 rfl (lv_room (Nat.le_of_ble_eq_true rfl)) dX8_readLikes_33 ⟨Nat.zero_le _, Nat.zero_le _⟩) hS (fun q _ h => h) (fun q h => h) (fun r3 σ4 t H1 locs1 ht hvm hw hB hz1 hk1 hS => ?_)
        have hP : va_P D vwCl (mw c q σ4) H1 := ht ▸ hB
        have hD : va_D (wdA 31 q) (mw c q σ4) := mw_D hD0
        refine lv_istore (lv' := [(6, .int r3), (0, .ref (q 0)), (1, .int z1), (2, .int z2), (3, .int y3), (4, .int y4), (5, .int y5)]) hx hb dX8_readLikes_36 hl (by decide) rfl (fun ls hl => ?_)
        refine lv_aload_n hx hb dX8_readLikes_38 rfl (lv_at hl 1 rfl) ?_
        refine va_get (D := D) (ci := 8) (C := RX8) (T := TX8) (N := 57) hx hb htb inX8 hown hK hP 0 (mw_0 c q σ4) rfl 21 (by decide) (htb _ tb_1202) (fun _ h9 => h9) rfl dX8_readLikes_39 ?_
        refine lv_if_ne (tgt := 60) hx hb dX8_readLikes_42 (by decide) (fun c5 => ?_) (fun c5 => ?_)
        · have hw := hw.2 c5
          refine lv_aload_n hx hb dX8_readLikes_60 rfl (lv_at hl 1 rfl) ?_
          refine va_get (D := D) (ci := 8) (C := RX8) (T := TX8) (N := 57) hx hb htb inX8 hown hK hP 0 (mw_0 c q σ4) rfl 21 (by decide) (htb _ tb_1202) (fun _ h9 => h9) rfl dX8_readLikes_61 ?_
          refine lv_if_eq (tgt := 68) hx hb dX8_readLikes_64 (by decide) (fun c57 => ?_) (fun c57 => ?_)
          · have hw := hw.1 c57
            refine lv_aload_n hx hb dX8_readLikes_68 rfl (lv_at hl 1 rfl) ?_
            refine va_callv (va_runV (As := []) (rest := []) ⟨hx, hb, hml, hown, htb⟩ (kcX8_step l D c q ev hev σ4  _ hw) (tb_CW htb kX8_step tb_1370 tb_1372 tb_43 ⟨Nat.le_of_ble_eq_true rfl, Nat.le_of_ble_eq_true rfl⟩) (wd_preV (wd := mw c q) (k := 0) hev hK hP hD hE hS (mw_0 c q σ4) rfl) rfl rfl hl.1 rfl (lv_room (Nat.le_of_ble_eq_true rfl)) dX8_readLikes_69 ⟨Nat.zero_le _, Nat.zero_le _⟩) hS (fun q _ h => h) (fun q h => h) (fun σ59 t H1 locs1 ht hvm hw hB hz1 hk1 hS => ?_)
            have hP : va_P D vwCl (mw c q σ59) H1 := ht ▸ hB
            have hD : va_D (wdA 31 q) (mw c q σ59) := mw_D hD0
            refine lv_iload_n hx hb dX8_readLikes_72 rfl (lv_at hl 4 rfl) ?_
            refine lv_iconst (v := (1 : Int32)) hx hb dX8_readLikes_73 (by decide) ?_
            refine lv_iload hx hb dX8_readLikes_74 (lv_at hl 0 rfl) ?_
            refine lv_ishl hx hb dX8_readLikes_76 ?_
            refine lv_ior hx hb dX8_readLikes_77 ?_
            refine lv_topi (fun v60 ev60 => ?_)
            have hw := hw v60 ev60
            refine lv_istore_n (lv' := [(3, .int v60), (6, .int r3), (0, .ref (q 0)), (1, .int z1), (2, .int z2), (4, .int y4), (5, .int y5)]) hx hb dX8_readLikes_78 rfl hl (by decide) rfl (fun ls hl => ?_)
            refine lv_aload_n hx hb dX8_readLikes_79 rfl (lv_at hl 2 rfl) ?_
            refine va_get (D := D) (ci := 8) (C := RX8) (T := TX8) (N := 57) hx hb htb inX8 hown hK hP 0 (mw_0 c q σ59) rfl 8 (by decide) (htb _ tb_1189) (fun _ h9 => h9) rfl dX8_readLikes_80 ?_
            refine lv_iload_n hx hb dX8_readLikes_83 rfl (lv_at hl 4 rfl) ?_
            refine lv_iload hx hb dX8_readLikes_84 (lv_at hl 1 rfl) ?_
            refine lv_iadd hx hb dX8_readLikes_86 ?_
            refine lv_iload hx hb dX8_readLikes_87 (lv_at hl 5 rfl) ?_
            refine va_iast hx hb hK hP hD hS 8 7 (mw_8 c q σ59) rfl hw.1 dX8_readLikes_89 (fun H locs hP hD hS => ?_)
            have hw := hw.2
            have hP : va_P D vwCl (mw c q (hsA σ59 8 (upd (σ59.2.1 8) (z2 + r3).toNatClampNeg y4))) H := hP
            obtain ⟨σ61, eσ61⟩ : ∃ z : hsS, z = hsA σ59 8 (upd (σ59.2.1 8) (z2 + r3).toNatClampNeg y4) := ⟨_, rfl⟩
            rw [← eσ61] at hP
            have hD : va_D (wdA 31 q) (mw c q σ61) := mw_D hD0
            have hw := hw σ61 eσ61
            refine lv_aload_n hx hb dX8_readLikes_90 rfl (lv_at hl 2 rfl) ?_
            refine va_ldcS hx hb hown ((hZ s s.heap hE).2.2.2 ("StrikeHallModel", 193, "over", 4) (by decide)) dX8_readLikes_91 ?_
            refine va_calli (va_runV (As := [.ref (adK 4)]) (rest := []) ⟨hx, hb, hml, hown, htb⟩ (kcX8_is_s l D c q ev hev adK adV hZ σ61 4 (by decide) _ hw) (tb_CW htb kX8_is tb_1390 tb_1392 tb_46 ⟨Nat.le_of_ble_eq_true rfl, Nat.le_of_ble_eq_true rfl⟩) (wd_preV (wd := mw c q) (k := 0) hev hK hP hD hE hS (mw_0 c q σ61) rfl) rfl rfl hl.1 rfl (lv_room (Nat.le_of_ble_eq_true rfl)) dX8_readLikes_93 ⟨Nat.zero_le _, Nat.zero_le _⟩) hS (fun q _ h => h) (fun q h => h) (fun r62 σ63 t H1 locs1 ht hvm hw hB hz1 hk1 hS => ?_)
            have hP : va_P D vwCl (mw c q σ63) H1 := ht ▸ hB
            have hD : va_D (wdA 31 q) (mw c q σ63) := mw_D hD0
            refine lv_istore (lv' := [(7, .int r62), (3, .int v60), (6, .int r3), (0, .ref (q 0)), (1, .int z1), (2, .int z2), (4, .int y4), (5, .int y5)]) hx hb dX8_readLikes_96 hl (by decide) rfl (fun ls hl => ?_)
            refine lv_iload hx hb dX8_readLikes_98 (lv_at hl 0 rfl) ?_
            refine lv_if_ne (tgt := 112) hx hb dX8_readLikes_100 (by decide) (fun c64 => ?_) (fun c64 => ?_)
            · have hw := hw.2 c64
              refine lv_iconst (v := (1 : Int32)) hx hb dX8_readLikes_112 (by decide) ?_
              refine lv_goto (tgt := 117) hx hb dX8_readLikes_113 (by decide) ?_
              refine lv_istore (lv' := [(5, .int (1 : Int32)), (7, .int r62), (3, .int v60), (6, .int r3), (0, .ref (q 0)), (1, .int z1), (2, .int z2), (4, .int y4)]) hx hb dX8_readLikes_117 hl (by decide) rfl (fun ls hl => ?_)
              refine lv_iload hx hb dX8_readLikes_119 (lv_at hl 0 rfl) ?_
              refine lv_if_eq (tgt := 128) hx hb dX8_readLikes_121 (by decide) (fun h9 => absurd h9 (by decide)) (fun _ => ?_)
              refine lv_aload_n hx hb dX8_readLikes_124 rfl (lv_at hl 4 rfl) ?_
              refine va_callv (va_runV (As := []) (rest := []) ⟨hx, hb, hml, hown, htb⟩ (kcX8_step l D c q ev hev σ63  _ hw) (tb_CW htb kX8_step tb_1370 tb_1372 tb_43 ⟨Nat.le_of_ble_eq_true rfl, Nat.le_of_ble_eq_true rfl⟩) (wd_preV (wd := mw c q) (k := 0) hev hK hP hD hE hS (mw_0 c q σ63) rfl) rfl rfl hl.1 rfl (lv_room (Nat.le_of_ble_eq_true rfl)) dX8_readLikes_125 ⟨Nat.zero_le _, Nat.zero_le _⟩) hS (fun q _ h => h) (fun q h => h) (fun σ77 t H1 locs1 ht hvm hw hB hz1 hk1 hS => ?_)
              have hP : va_P D vwCl (mw c q σ77) H1 := ht ▸ hB
              have hD : va_D (wdA 31 q) (mw c q σ77) := mw_D hD0
              refine lv_iload hx hb dX8_readLikes_128 (lv_at hl 7 rfl) ?_
              refine lv_iload hx hb dX8_readLikes_130 (lv_at hl 1 rfl) ?_
              refine lv_if_eq (tgt := 139) hx hb dX8_readLikes_132 (by decide) (fun c78 => ?_) (fun c78 => ?_)
              · have hw := hw.1 c78
                refine lv_iconst (v := (0 : Int32)) hx hb dX8_readLikes_139 (by decide) ?_
                refine lv_iadd hx hb dX8_readLikes_140 ?_
                refine lv_topi (fun v79 ev79 => ?_)
                have hw := hw v79 ev79
                refine lv_istore (lv' := [(4, .int v79), (5, .int (1 : Int32)), (7, .int r62), (3, .int v60), (6, .int r3), (0, .ref (q 0)), (1, .int z1), (2, .int z2)]) hx hb dX8_readLikes_141 hl (by decide) rfl (fun ls hl => ?_)
                refine lv_goto (tgt := 16) hx hb dX8_readLikes_143 (by decide) ?_
                exact ih v60 v79 (1 : Int32) σ77 _ _ _ hw hk67 hk146 hP hS (lv_sub hl [5, 6, 7, 3, 0, 1] rfl)
              · have hw := hw.2 c78
                refine lv_iconst (v := (1 : Int32)) hx hb dX8_readLikes_135 (by decide) ?_
                refine lv_goto (tgt := 140) hx hb dX8_readLikes_136 (by decide) ?_
                refine lv_iadd hx hb dX8_readLikes_140 ?_
                refine lv_topi (fun v80 ev80 => ?_)
                have hw := hw v80 ev80
                refine lv_istore (lv' := [(4, .int v80), (5, .int (1 : Int32)), (7, .int r62), (3, .int v60), (6, .int r3), (0, .ref (q 0)), (1, .int z1), (2, .int z2)]) hx hb dX8_readLikes_141 hl (by decide) rfl (fun ls hl => ?_)
                refine lv_goto (tgt := 16) hx hb dX8_readLikes_143 (by decide) ?_
                exact ih v60 v80 (1 : Int32) σ77 _ _ _ hw hk67 hk146 hP hS (lv_sub hl [5, 6, 7, 3, 0, 1] rfl)
            · have hw := hw.1 c64
              refine lv_aload_n hx hb dX8_readLikes_103 rfl (lv_at hl 3 rfl) ?_
              refine va_ldcS hx hb hown ((hZ s s.heap hE).2.2.2 ("StrikeHallModel", 195, "and", 5) (by decide)) dX8_readLikes_104 ?_
              refine va_calli (va_runV (As := [.ref (adK 5)]) (rest := []) ⟨hx, hb, hml, hown, htb⟩ (kcX8_is_s l D c q ev hev adK adV hZ σ63 5 (by decide) _ hw) (tb_CW htb kX8_is tb_1390 tb_1392 tb_46 ⟨Nat.le_of_ble_eq_true rfl, Nat.le_of_ble_eq_true rfl⟩) (wd_preV (wd := mw c q) (k := 0) hev hK hP hD hE hS (mw_0 c q σ63) rfl) rfl rfl hl.1 rfl (lv_room (Nat.le_of_ble_eq_true rfl)) dX8_readLikes_106 ⟨Nat.zero_le _, Nat.zero_le _⟩) hS (fun q _ h => h) (fun q h => h) (fun r65 σ66 t H1 locs1 ht hvm hw hB hz1 hk1 hS => ?_)
              have hP : va_P D vwCl (mw c q σ66) H1 := ht ▸ hB
              have hD : va_D (wdA 31 q) (mw c q σ66) := mw_D hD0
              refine lv_if_eq (tgt := 116) hx hb dX8_readLikes_109 (by decide) (fun c67 => ?_) (fun c67 => ?_)
              · have hw := hw.1 c67
                refine lv_iconst (v := (0 : Int32)) hx hb dX8_readLikes_116 (by decide) ?_
                refine lv_istore (lv' := [(5, .int (0 : Int32)), (7, .int r62), (3, .int v60), (6, .int r3), (0, .ref (q 0)), (1, .int z1), (2, .int z2), (4, .int y4)]) hx hb dX8_readLikes_117 hl (by decide) rfl (fun ls hl => ?_)
                refine lv_iload hx hb dX8_readLikes_119 (lv_at hl 0 rfl) ?_
                refine lv_if_eq (tgt := 128) hx hb dX8_readLikes_121 (by decide) (fun _ => ?_) (fun h9 => absurd h9 (by decide))
                refine lv_iload hx hb dX8_readLikes_128 (lv_at hl 7 rfl) ?_
                refine lv_iload hx hb dX8_readLikes_130 (lv_at hl 1 rfl) ?_
                refine lv_if_eq (tgt := 139) hx hb dX8_readLikes_132 (by decide) (fun c68 => ?_) (fun c68 => ?_)
                · have hw := hw.1 c68
                  refine lv_iconst (v := (0 : Int32)) hx hb dX8_readLikes_139 (by decide) ?_
                  refine lv_iadd hx hb dX8_readLikes_140 ?_
                  refine lv_topi (fun v69 ev69 => ?_)
                  have hw := hw v69 ev69
                  refine lv_istore (lv' := [(4, .int v69), (5, .int (0 : Int32)), (7, .int r62), (3, .int v60), (6, .int r3), (0, .ref (q 0)), (1, .int z1), (2, .int z2)]) hx hb dX8_readLikes_141 hl (by decide) rfl (fun ls hl => ?_)
                  refine lv_goto (tgt := 16) hx hb dX8_readLikes_143 (by decide) ?_
                  exact ih v60 v69 (0 : Int32) σ66 _ _ _ hw hk67 hk146 hP hS (lv_sub hl [5, 6, 7, 3, 0, 1] rfl)
                · have hw := hw.2 c68
                  refine lv_iconst (v := (1 : Int32)) hx hb dX8_readLikes_135 (by decide) ?_
                  refine lv_goto (tgt := 140) hx hb dX8_readLikes_136 (by decide) ?_
                  refine lv_iadd hx hb dX8_readLikes_140 ?_
                  refine lv_topi (fun v70 ev70 => ?_)
                  have hw := hw v70 ev70
                  refine lv_istore (lv' := [(4, .int v70), (5, .int (0 : Int32)), (7, .int r62), (3, .int v60), (6, .int r3), (0, .ref (q 0)), (1, .int z1), (2, .int z2)]) hx hb dX8_readLikes_141 hl (by decide) rfl (fun ls hl => ?_)
                  refine lv_goto (tgt := 16) hx hb dX8_readLikes_143 (by decide) ?_
                  exact ih v60 v70 (0 : Int32) σ66 _ _ _ hw hk67 hk146 hP hS (lv_sub hl [5, 6, 7, 3, 0, 1] rfl)
              · have hw := hw.2 c67
                refine lv_iconst (v := (1 : Int32)) hx hb dX8_readLikes_112 (by decide) ?_
                refine lv_goto (tgt := 117) hx hb dX8_readLikes_113 (by decide) ?_
                refine lv_istore (lv' := [(5, .int (1 : Int32)), (7, .int r62), (3, .int v60), (6, .int r3), (0, .ref (q 0)), (1, .int z1), (2, .int z2), (4, .int y4)]) hx hb dX8_readLikes_117 hl (by decide) rfl (fun ls hl => ?_)
                refine lv_iload hx hb dX8_readLikes_119 (lv_at hl 0 rfl) ?_
                refine lv_if_eq (tgt := 128) hx hb dX8_readLikes_121 (by decide) (fun h9 => absurd h9 (by decide)) (fun _ => ?_)
                refine lv_aload_n hx hb dX8_readLikes_124 rfl (lv_at hl 4 rfl) ?_
                refine va_callv (va_runV (As := []) (rest := []) ⟨hx, hb, hml, hown, htb⟩ (kcX8_step l D c q ev hev σ66  _ hw) (tb_CW htb kX8_step tb_1370 tb_1372 tb_43 ⟨Nat.le_of_ble_eq_true rfl, Nat.le_of_ble_eq_true rfl⟩) (wd_preV (wd := mw c q) (k := 0) hev hK hP hD hE hS (mw_0 c q σ66) rfl) rfl rfl hl.1 rfl (lv_room (Nat.le_of_ble_eq_true rfl)) dX8_readLikes_125 ⟨Nat.zero_le _, Nat.zero_le _⟩) hS (fun q _ h => h) (fun q h => h) (fun σ72 t H1 locs1 ht hvm hw hB hz1 hk1 hS => ?_)
                have hP : va_P D vwCl (mw c q σ72) H1 := ht ▸ hB
                have hD : va_D (wdA 31 q) (mw c q σ72) := mw_D hD0
                refine lv_iload hx hb dX8_readLikes_128 (lv_at hl 7 rfl) ?_
                refine lv_iload hx hb dX8_readLikes_130 (lv_at hl 1 rfl) ?_
                refine lv_if_eq (tgt := 139) hx hb dX8_readLikes_132 (by decide) (fun c73 => ?_) (fun c73 => ?_)
                · have hw := hw.1 c73
                  refine lv_iconst (v := (0 : Int32)) hx hb dX8_readLikes_139 (by decide) ?_
                  refine lv_iadd hx hb dX8_readLikes_140 ?_
                  refine lv_topi (fun v74 ev74 => ?_)
                  have hw := hw v74 ev74
                  refine lv_istore (lv' := [(4, .int v74), (5, .int (1 : Int32)), (7, .int r62), (3, .int v60), (6, .int r3), (0, .ref (q 0)), (1, .int z1), (2, .int z2)]) hx hb dX8_readLikes_141 hl (by decide) rfl (fun ls hl => ?_)
                  refine lv_goto (tgt := 16) hx hb dX8_readLikes_143 (by decide) ?_
                  exact ih v60 v74 (1 : Int32) σ72 _ _ _ hw hk67 hk146 hP hS (lv_sub hl [5, 6, 7, 3, 0, 1] rfl)
                · have hw := hw.2 c73
                  refine lv_iconst (v := (1 : Int32)) hx hb dX8_readLikes_135 (by decide) ?_
                  refine lv_goto (tgt := 140) hx hb dX8_readLikes_136 (by decide) ?_
                  refine lv_iadd hx hb dX8_readLikes_140 ?_
                  refine lv_topi (fun v75 ev75 => ?_)
                  have hw := hw v75 ev75
                  refine lv_istore (lv' := [(4, .int v75), (5, .int (1 : Int32)), (7, .int r62), (3, .int v60), (6, .int r3), (0, .ref (q 0)), (1, .int z1), (2, .int z2)]) hx hb dX8_readLikes_141 hl (by decide) rfl (fun ls hl => ?_)
                  refine lv_goto (tgt := 16) hx hb dX8_readLikes_143 (by decide) ?_
                  exact ih v60 v75 (1 : Int32) σ72 _ _ _ hw hk67 hk146 hP hS (lv_sub hl [5, 6, 7, 3, 0, 1] rfl)
          · have hw := hw.2 c57
            exact hk67 y3 y4 y5 σ4 _ _ _ hw hP hS (lv_sub hl [1, 2, 3, 4, 5, 6] rfl)
        · have hw := hw.1 c5
          refine lv_iload_n hx hb dX8_readLikes_45 rfl (lv_at hl 4 rfl) ?_
          refine lv_iload hx hb dX8_readLikes_46 (lv_at hl 0 rfl) ?_
          refine lv_ishr hx hb dX8_readLikes_48 ?_
          refine lv_iconst (v := (1 : Int32)) hx hb dX8_readLikes_49 (by decide) ?_
          refine lv_iand hx hb dX8_readLikes_50 ?_
          refine lv_iconst (v := (1 : Int32)) hx hb dX8_readLikes_51 (by decide) ?_
          refine lv_icmp_ne (tgt := 60) hx hb dX8_readLikes_52 (by decide) (fun c6 => ?_) (fun c6 => ?_)
          · have hw := hw.2 c6
            refine lv_aload_n hx hb dX8_readLikes_60 rfl (lv_at hl 1 rfl) ?_
            refine va_get (D := D) (ci := 8) (C := RX8) (T := TX8) (N := 57) hx hb htb inX8 hown hK hP 0 (mw_0 c q σ4) rfl 21 (by decide) (htb _ tb_1202) (fun _ h9 => h9) rfl dX8_readLikes_61 ?_
            refine lv_if_eq (tgt := 68) hx hb dX8_readLikes_64 (by decide) (fun c33 => ?_) (fun c33 => ?_)
            · have hw := hw.1 c33
              refine lv_aload_n hx hb dX8_readLikes_68 rfl (lv_at hl 1 rfl) ?_
              refine va_callv (va_runV (As := []) (rest := []) ⟨hx, hb, hml, hown, htb⟩ (kcX8_step l D c q ev hev σ4  _ hw) (tb_CW htb kX8_step tb_1370 tb_1372 tb_43 ⟨Nat.le_of_ble_eq_true rfl, Nat.le_of_ble_eq_true rfl⟩) (wd_preV (wd := mw c q) (k := 0) hev hK hP hD hE hS (mw_0 c q σ4) rfl) rfl rfl hl.1 rfl (lv_room (Nat.le_of_ble_eq_true rfl)) dX8_readLikes_69 ⟨Nat.zero_le _, Nat.zero_le _⟩) hS (fun q _ h => h) (fun q h => h) (fun σ35 t H1 locs1 ht hvm hw hB hz1 hk1 hS => ?_)
              have hP : va_P D vwCl (mw c q σ35) H1 := ht ▸ hB
              have hD : va_D (wdA 31 q) (mw c q σ35) := mw_D hD0
              refine lv_iload_n hx hb dX8_readLikes_72 rfl (lv_at hl 4 rfl) ?_
              refine lv_iconst (v := (1 : Int32)) hx hb dX8_readLikes_73 (by decide) ?_
              refine lv_iload hx hb dX8_readLikes_74 (lv_at hl 0 rfl) ?_
              refine lv_ishl hx hb dX8_readLikes_76 ?_
              refine lv_ior hx hb dX8_readLikes_77 ?_
              refine lv_topi (fun v36 ev36 => ?_)
              have hw := hw v36 ev36
              refine lv_istore_n (lv' := [(3, .int v36), (6, .int r3), (0, .ref (q 0)), (1, .int z1), (2, .int z2), (4, .int y4), (5, .int y5)]) hx hb dX8_readLikes_78 rfl hl (by decide) rfl (fun ls hl => ?_)
              refine lv_aload_n hx hb dX8_readLikes_79 rfl (lv_at hl 2 rfl) ?_
              refine va_get (D := D) (ci := 8) (C := RX8) (T := TX8) (N := 57) hx hb htb inX8 hown hK hP 0 (mw_0 c q σ35) rfl 8 (by decide) (htb _ tb_1189) (fun _ h9 => h9) rfl dX8_readLikes_80 ?_
              refine lv_iload_n hx hb dX8_readLikes_83 rfl (lv_at hl 4 rfl) ?_
              refine lv_iload hx hb dX8_readLikes_84 (lv_at hl 1 rfl) ?_
              refine lv_iadd hx hb dX8_readLikes_86 ?_
              refine lv_iload hx hb dX8_readLikes_87 (lv_at hl 5 rfl) ?_
              refine va_iast hx hb hK hP hD hS 8 7 (mw_8 c q σ35) rfl hw.1 dX8_readLikes_89 (fun H locs hP hD hS => ?_)
              have hw := hw.2
              have hP : va_P D vwCl (mw c q (hsA σ35 8 (upd (σ35.2.1 8) (z2 + r3).toNatClampNeg y4))) H := hP
              obtain ⟨σ37, eσ37⟩ : ∃ z : hsS, z = hsA σ35 8 (upd (σ35.2.1 8) (z2 + r3).toNatClampNeg y4) := ⟨_, rfl⟩
              rw [← eσ37] at hP
              have hD : va_D (wdA 31 q) (mw c q σ37) := mw_D hD0
              have hw := hw σ37 eσ37
              refine lv_aload_n hx hb dX8_readLikes_90 rfl (lv_at hl 2 rfl) ?_
              refine va_ldcS hx hb hown ((hZ s s.heap hE).2.2.2 ("StrikeHallModel", 193, "over", 4) (by decide)) dX8_readLikes_91 ?_
              refine va_calli (va_runV (As := [.ref (adK 4)]) (rest := []) ⟨hx, hb, hml, hown, htb⟩ (kcX8_is_s l D c q ev hev adK adV hZ σ37 4 (by decide) _ hw) (tb_CW htb kX8_is tb_1390 tb_1392 tb_46 ⟨Nat.le_of_ble_eq_true rfl, Nat.le_of_ble_eq_true rfl⟩) (wd_preV (wd := mw c q) (k := 0) hev hK hP hD hE hS (mw_0 c q σ37) rfl) rfl rfl hl.1 rfl (lv_room (Nat.le_of_ble_eq_true rfl)) dX8_readLikes_93 ⟨Nat.zero_le _, Nat.zero_le _⟩) hS (fun q _ h => h) (fun q h => h) (fun r38 σ39 t H1 locs1 ht hvm hw hB hz1 hk1 hS => ?_)
              have hP : va_P D vwCl (mw c q σ39) H1 := ht ▸ hB
              have hD : va_D (wdA 31 q) (mw c q σ39) := mw_D hD0
              refine lv_istore (lv' := [(7, .int r38), (3, .int v36), (6, .int r3), (0, .ref (q 0)), (1, .int z1), (2, .int z2), (4, .int y4), (5, .int y5)]) hx hb dX8_readLikes_96 hl (by decide) rfl (fun ls hl => ?_)
              refine lv_iload hx hb dX8_readLikes_98 (lv_at hl 0 rfl) ?_
              refine lv_if_ne (tgt := 112) hx hb dX8_readLikes_100 (by decide) (fun c40 => ?_) (fun c40 => ?_)
              · have hw := hw.2 c40
                refine lv_iconst (v := (1 : Int32)) hx hb dX8_readLikes_112 (by decide) ?_
                refine lv_goto (tgt := 117) hx hb dX8_readLikes_113 (by decide) ?_
                refine lv_istore (lv' := [(5, .int (1 : Int32)), (7, .int r38), (3, .int v36), (6, .int r3), (0, .ref (q 0)), (1, .int z1), (2, .int z2), (4, .int y4)]) hx hb dX8_readLikes_117 hl (by decide) rfl (fun ls hl => ?_)
                refine lv_iload hx hb dX8_readLikes_119 (lv_at hl 0 rfl) ?_
                refine lv_if_eq (tgt := 128) hx hb dX8_readLikes_121 (by decide) (fun h9 => absurd h9 (by decide)) (fun _ => ?_)
                refine lv_aload_n hx hb dX8_readLikes_124 rfl (lv_at hl 4 rfl) ?_
                refine va_callv (va_runV (As := []) (rest := []) ⟨hx, hb, hml, hown, htb⟩ (kcX8_step l D c q ev hev σ39  _ hw) (tb_CW htb kX8_step tb_1370 tb_1372 tb_43 ⟨Nat.le_of_ble_eq_true rfl, Nat.le_of_ble_eq_true rfl⟩) (wd_preV (wd := mw c q) (k := 0) hev hK hP hD hE hS (mw_0 c q σ39) rfl) rfl rfl hl.1 rfl (lv_room (Nat.le_of_ble_eq_true rfl)) dX8_readLikes_125 ⟨Nat.zero_le _, Nat.zero_le _⟩) hS (fun q _ h => h) (fun q h => h) (fun σ53 t H1 locs1 ht hvm hw hB hz1 hk1 hS => ?_)
                have hP : va_P D vwCl (mw c q σ53) H1 := ht ▸ hB
                have hD : va_D (wdA 31 q) (mw c q σ53) := mw_D hD0
                refine lv_iload hx hb dX8_readLikes_128 (lv_at hl 7 rfl) ?_
                refine lv_iload hx hb dX8_readLikes_130 (lv_at hl 1 rfl) ?_
                refine lv_if_eq (tgt := 139) hx hb dX8_readLikes_132 (by decide) (fun c54 => ?_) (fun c54 => ?_)
                · have hw := hw.1 c54
                  refine lv_iconst (v := (0 : Int32)) hx hb dX8_readLikes_139 (by decide) ?_
                  refine lv_iadd hx hb dX8_readLikes_140 ?_
                  refine lv_topi (fun v55 ev55 => ?_)
                  have hw := hw v55 ev55
                  refine lv_istore (lv' := [(4, .int v55), (5, .int (1 : Int32)), (7, .int r38), (3, .int v36), (6, .int r3), (0, .ref (q 0)), (1, .int z1), (2, .int z2)]) hx hb dX8_readLikes_141 hl (by decide) rfl (fun ls hl => ?_)
                  refine lv_goto (tgt := 16) hx hb dX8_readLikes_143 (by decide) ?_
                  exact ih v36 v55 (1 : Int32) σ53 _ _ _ hw hk67 hk146 hP hS (lv_sub hl [5, 6, 7, 3, 0, 1] rfl)
                · have hw := hw.2 c54
                  refine lv_iconst (v := (1 : Int32)) hx hb dX8_readLikes_135 (by decide) ?_
                  refine lv_goto (tgt := 140) hx hb dX8_readLikes_136 (by decide) ?_
                  refine lv_iadd hx hb dX8_readLikes_140 ?_
                  refine lv_topi (fun v56 ev56 => ?_)
                  have hw := hw v56 ev56
                  refine lv_istore (lv' := [(4, .int v56), (5, .int (1 : Int32)), (7, .int r38), (3, .int v36), (6, .int r3), (0, .ref (q 0)), (1, .int z1), (2, .int z2)]) hx hb dX8_readLikes_141 hl (by decide) rfl (fun ls hl => ?_)
                  refine lv_goto (tgt := 16) hx hb dX8_readLikes_143 (by decide) ?_
                  exact ih v36 v56 (1 : Int32) σ53 _ _ _ hw hk67 hk146 hP hS (lv_sub hl [5, 6, 7, 3, 0, 1] rfl)
              · have hw := hw.1 c40
                refine lv_aload_n hx hb dX8_readLikes_103 rfl (lv_at hl 3 rfl) ?_
                refine va_ldcS hx hb hown ((hZ s s.heap hE).2.2.2 ("StrikeHallModel", 195, "and", 5) (by decide)) dX8_readLikes_104 ?_
                refine va_calli (va_runV (As := [.ref (adK 5)]) (rest := []) ⟨hx, hb, hml, hown, htb⟩ (kcX8_is_s l D c q ev hev adK adV hZ σ39 5 (by decide) _ hw) (tb_CW htb kX8_is tb_1390 tb_1392 tb_46 ⟨Nat.le_of_ble_eq_true rfl, Nat.le_of_ble_eq_true rfl⟩) (wd_preV (wd := mw c q) (k := 0) hev hK hP hD hE hS (mw_0 c q σ39) rfl) rfl rfl hl.1 rfl (lv_room (Nat.le_of_ble_eq_true rfl)) dX8_readLikes_106 ⟨Nat.zero_le _, Nat.zero_le _⟩) hS (fun q _ h => h) (fun q h => h) (fun r41 σ42 t H1 locs1 ht hvm hw hB hz1 hk1 hS => ?_)
                have hP : va_P D vwCl (mw c q σ42) H1 := ht ▸ hB
                have hD : va_D (wdA 31 q) (mw c q σ42) := mw_D hD0
                refine lv_if_eq (tgt := 116) hx hb dX8_readLikes_109 (by decide) (fun c43 => ?_) (fun c43 => ?_)
                · have hw := hw.1 c43
                  refine lv_iconst (v := (0 : Int32)) hx hb dX8_readLikes_116 (by decide) ?_
                  refine lv_istore (lv' := [(5, .int (0 : Int32)), (7, .int r38), (3, .int v36), (6, .int r3), (0, .ref (q 0)), (1, .int z1), (2, .int z2), (4, .int y4)]) hx hb dX8_readLikes_117 hl (by decide) rfl (fun ls hl => ?_)
                  refine lv_iload hx hb dX8_readLikes_119 (lv_at hl 0 rfl) ?_
                  refine lv_if_eq (tgt := 128) hx hb dX8_readLikes_121 (by decide) (fun _ => ?_) (fun h9 => absurd h9 (by decide))
                  refine lv_iload hx hb dX8_readLikes_128 (lv_at hl 7 rfl) ?_
                  refine lv_iload hx hb dX8_readLikes_130 (lv_at hl 1 rfl) ?_
                  refine lv_if_eq (tgt := 139) hx hb dX8_readLikes_132 (by decide) (fun c44 => ?_) (fun c44 => ?_)
                  · have hw := hw.1 c44
                    refine lv_iconst (v := (0 : Int32)) hx hb dX8_readLikes_139 (by decide) ?_
                    refine lv_iadd hx hb dX8_readLikes_140 ?_
                    refine lv_topi (fun v45 ev45 => ?_)
                    have hw := hw v45 ev45
                    refine lv_istore (lv' := [(4, .int v45), (5, .int (0 : Int32)), (7, .int r38), (3, .int v36), (6, .int r3), (0, .ref (q 0)), (1, .int z1), (2, .int z2)]) hx hb dX8_readLikes_141 hl (by decide) rfl (fun ls hl => ?_)
                    refine lv_goto (tgt := 16) hx hb dX8_readLikes_143 (by decide) ?_
                    exact ih v36 v45 (0 : Int32) σ42 _ _ _ hw hk67 hk146 hP hS (lv_sub hl [5, 6, 7, 3, 0, 1] rfl)
                  · have hw := hw.2 c44
                    refine lv_iconst (v := (1 : Int32)) hx hb dX8_readLikes_135 (by decide) ?_
                    refine lv_goto (tgt := 140) hx hb dX8_readLikes_136 (by decide) ?_
                    refine lv_iadd hx hb dX8_readLikes_140 ?_
                    refine lv_topi (fun v46 ev46 => ?_)
                    have hw := hw v46 ev46
                    refine lv_istore (lv' := [(4, .int v46), (5, .int (0 : Int32)), (7, .int r38), (3, .int v36), (6, .int r3), (0, .ref (q 0)), (1, .int z1), (2, .int z2)]) hx hb dX8_readLikes_141 hl (by decide) rfl (fun ls hl => ?_)
                    refine lv_goto (tgt := 16) hx hb dX8_readLikes_143 (by decide) ?_
                    exact ih v36 v46 (0 : Int32) σ42 _ _ _ hw hk67 hk146 hP hS (lv_sub hl [5, 6, 7, 3, 0, 1] rfl)
                · have hw := hw.2 c43
                  refine lv_iconst (v := (1 : Int32)) hx hb dX8_readLikes_112 (by decide) ?_
                  refine lv_goto (tgt := 117) hx hb dX8_readLikes_113 (by decide) ?_
                  refine lv_istore (lv' := [(5, .int (1 : Int32)), (7, .int r38), (3, .int v36), (6, .int r3), (0, .ref (q 0)), (1, .int z1), (2, .int z2), (4, .int y4)]) hx hb dX8_readLikes_117 hl (by decide) rfl (fun ls hl => ?_)
                  refine lv_iload hx hb dX8_readLikes_119 (lv_at hl 0 rfl) ?_
                  refine lv_if_eq (tgt := 128) hx hb dX8_readLikes_121 (by decide) (fun h9 => absurd h9 (by decide)) (fun _ => ?_)
                  refine lv_aload_n hx hb dX8_readLikes_124 rfl (lv_at hl 4 rfl) ?_
                  refine va_callv (va_runV (As := []) (rest := []) ⟨hx, hb, hml, hown, htb⟩ (kcX8_step l D c q ev hev σ42  _ hw) (tb_CW htb kX8_step tb_1370 tb_1372 tb_43 ⟨Nat.le_of_ble_eq_true rfl, Nat.le_of_ble_eq_true rfl⟩) (wd_preV (wd := mw c q) (k := 0) hev hK hP hD hE hS (mw_0 c q σ42) rfl) rfl rfl hl.1 rfl (lv_room (Nat.le_of_ble_eq_true rfl)) dX8_readLikes_125 ⟨Nat.zero_le _, Nat.zero_le _⟩) hS (fun q _ h => h) (fun q h => h) (fun σ48 t H1 locs1 ht hvm hw hB hz1 hk1 hS => ?_)
                  have hP : va_P D vwCl (mw c q σ48) H1 := ht ▸ hB
                  have hD : va_D (wdA 31 q) (mw c q σ48) := mw_D hD0
                  refine lv_iload hx hb dX8_readLikes_128 (lv_at hl 7 rfl) ?_
                  refine lv_iload hx hb dX8_readLikes_130 (lv_at hl 1 rfl) ?_
                  refine lv_if_eq (tgt := 139) hx hb dX8_readLikes_132 (by decide) (fun c49 => ?_) (fun c49 => ?_)
                  · have hw := hw.1 c49
                    refine lv_iconst (v := (0 : Int32)) hx hb dX8_readLikes_139 (by decide) ?_
                    refine lv_iadd hx hb dX8_readLikes_140 ?_
                    refine lv_topi (fun v50 ev50 => ?_)
                    have hw := hw v50 ev50
                    refine lv_istore (lv' := [(4, .int v50), (5, .int (1 : Int32)), (7, .int r38), (3, .int v36), (6, .int r3), (0, .ref (q 0)), (1, .int z1), (2, .int z2)]) hx hb dX8_readLikes_141 hl (by decide) rfl (fun ls hl => ?_)
                    refine lv_goto (tgt := 16) hx hb dX8_readLikes_143 (by decide) ?_
                    exact ih v36 v50 (1 : Int32) σ48 _ _ _ hw hk67 hk146 hP hS (lv_sub hl [5, 6, 7, 3, 0, 1] rfl)
                  · have hw := hw.2 c49
                    refine lv_iconst (v := (1 : Int32)) hx hb dX8_readLikes_135 (by decide) ?_
                    refine lv_goto (tgt := 140) hx hb dX8_readLikes_136 (by decide) ?_
                    refine lv_iadd hx hb dX8_readLikes_140 ?_
                    refine lv_topi (fun v51 ev51 => ?_)
                    have hw := hw v51 ev51
                    refine lv_istore (lv' := [(4, .int v51), (5, .int (1 : Int32)), (7, .int r38), (3, .int v36), (6, .int r3), (0, .ref (q 0)), (1, .int z1), (2, .int z2)]) hx hb dX8_readLikes_141 hl (by decide) rfl (fun ls hl => ?_)
                    refine lv_goto (tgt := 16) hx hb dX8_readLikes_143 (by decide) ?_
                    exact ih v36 v51 (1 : Int32) σ48 _ _ _ hw hk67 hk146 hP hS (lv_sub hl [5, 6, 7, 3, 0, 1] rfl)
            · have hw := hw.2 c33
              exact hk67 y3 y4 y5 σ4 _ _ _ hw hP hS (lv_sub hl [1, 2, 3, 4, 5, 6] rfl)
          · have hw := hw.1 c6
            refine lv_aload_n hx hb dX8_readLikes_55 rfl (lv_at hl 1 rfl) ?_
            refine lv_iconst (v := (4 : Int32)) hx hb dX8_readLikes_56 (by decide) ?_
            refine va_callv (va_runV (As := [.int (4 : Int32)]) (rest := []) ⟨hx, hb, hml, hown, htb⟩ (kcX8_wrong l D c q ev hev σ4 (4 : Int32) _ hw) (tb_CW htb kX8_wrong tb_1396 tb_1398 tb_47 ⟨Nat.le_of_ble_eq_true rfl, Nat.le_of_ble_eq_true rfl⟩) (wd_preV (wd := mw c q) (k := 0) hev hK hP hD hE hS (mw_0 c q σ4) rfl) rfl rfl hl.1 rfl (lv_room (Nat.le_of_ble_eq_true rfl)) dX8_readLikes_57 ⟨Nat.zero_le _, Nat.zero_le _⟩) hS (fun q _ h => h) (fun q h => h) (fun σ8 t H1 locs1 ht hvm hw hB hz1 hk1 hS => ?_)
            have hP : va_P D vwCl (mw c q σ8) H1 := ht ▸ hB
            have hD : va_D (wdA 31 q) (mw c q σ8) := mw_D hD0
            refine lv_aload_n hx hb dX8_readLikes_60 rfl (lv_at hl 1 rfl) ?_
            refine va_get (D := D) (ci := 8) (C := RX8) (T := TX8) (N := 57) hx hb htb inX8 hown hK hP 0 (mw_0 c q σ8) rfl 21 (by decide) (htb _ tb_1202) (fun _ h9 => h9) rfl dX8_readLikes_61 ?_
            refine lv_if_eq (tgt := 68) hx hb dX8_readLikes_64 (by decide) (fun c9 => ?_) (fun c9 => ?_)
            · have hw := hw.1 c9
              refine lv_aload_n hx hb dX8_readLikes_68 rfl (lv_at hl 1 rfl) ?_
              refine va_callv (va_runV (As := []) (rest := []) ⟨hx, hb, hml, hown, htb⟩ (kcX8_step l D c q ev hev σ8  _ hw) (tb_CW htb kX8_step tb_1370 tb_1372 tb_43 ⟨Nat.le_of_ble_eq_true rfl, Nat.le_of_ble_eq_true rfl⟩) (wd_preV (wd := mw c q) (k := 0) hev hK hP hD hE hS (mw_0 c q σ8) rfl) rfl rfl hl.1 rfl (lv_room (Nat.le_of_ble_eq_true rfl)) dX8_readLikes_69 ⟨Nat.zero_le _, Nat.zero_le _⟩) hS (fun q _ h => h) (fun q h => h) (fun σ11 t H1 locs1 ht hvm hw hB hz1 hk1 hS => ?_)
              have hP : va_P D vwCl (mw c q σ11) H1 := ht ▸ hB
              have hD : va_D (wdA 31 q) (mw c q σ11) := mw_D hD0
              refine lv_iload_n hx hb dX8_readLikes_72 rfl (lv_at hl 4 rfl) ?_
              refine lv_iconst (v := (1 : Int32)) hx hb dX8_readLikes_73 (by decide) ?_
              refine lv_iload hx hb dX8_readLikes_74 (lv_at hl 0 rfl) ?_
              refine lv_ishl hx hb dX8_readLikes_76 ?_
              refine lv_ior hx hb dX8_readLikes_77 ?_
              refine lv_topi (fun v12 ev12 => ?_)
              have hw := hw v12 ev12
              refine lv_istore_n (lv' := [(3, .int v12), (6, .int r3), (0, .ref (q 0)), (1, .int z1), (2, .int z2), (4, .int y4), (5, .int y5)]) hx hb dX8_readLikes_78 rfl hl (by decide) rfl (fun ls hl => ?_)
              refine lv_aload_n hx hb dX8_readLikes_79 rfl (lv_at hl 2 rfl) ?_
              refine va_get (D := D) (ci := 8) (C := RX8) (T := TX8) (N := 57) hx hb htb inX8 hown hK hP 0 (mw_0 c q σ11) rfl 8 (by decide) (htb _ tb_1189) (fun _ h9 => h9) rfl dX8_readLikes_80 ?_
              refine lv_iload_n hx hb dX8_readLikes_83 rfl (lv_at hl 4 rfl) ?_
              refine lv_iload hx hb dX8_readLikes_84 (lv_at hl 1 rfl) ?_
              refine lv_iadd hx hb dX8_readLikes_86 ?_
              refine lv_iload hx hb dX8_readLikes_87 (lv_at hl 5 rfl) ?_
              refine va_iast hx hb hK hP hD hS 8 7 (mw_8 c q σ11) rfl hw.1 dX8_readLikes_89 (fun H locs hP hD hS => ?_)
              have hw := hw.2
              have hP : va_P D vwCl (mw c q (hsA σ11 8 (upd (σ11.2.1 8) (z2 + r3).toNatClampNeg y4))) H := hP
              obtain ⟨σ13, eσ13⟩ : ∃ z : hsS, z = hsA σ11 8 (upd (σ11.2.1 8) (z2 + r3).toNatClampNeg y4) := ⟨_, rfl⟩
              rw [← eσ13] at hP
              have hD : va_D (wdA 31 q) (mw c q σ13) := mw_D hD0
              have hw := hw σ13 eσ13
              refine lv_aload_n hx hb dX8_readLikes_90 rfl (lv_at hl 2 rfl) ?_
              refine va_ldcS hx hb hown ((hZ s s.heap hE).2.2.2 ("StrikeHallModel", 193, "over", 4) (by decide)) dX8_readLikes_91 ?_
              refine va_calli (va_runV (As := [.ref (adK 4)]) (rest := []) ⟨hx, hb, hml, hown, htb⟩ (kcX8_is_s l D c q ev hev adK adV hZ σ13 4 (by decide) _ hw) (tb_CW htb kX8_is tb_1390 tb_1392 tb_46 ⟨Nat.le_of_ble_eq_true rfl, Nat.le_of_ble_eq_true rfl⟩) (wd_preV (wd := mw c q) (k := 0) hev hK hP hD hE hS (mw_0 c q σ13) rfl) rfl rfl hl.1 rfl (lv_room (Nat.le_of_ble_eq_true rfl)) dX8_readLikes_93 ⟨Nat.zero_le _, Nat.zero_le _⟩) hS (fun q _ h => h) (fun q h => h) (fun r14 σ15 t H1 locs1 ht hvm hw hB hz1 hk1 hS => ?_)
              have hP : va_P D vwCl (mw c q σ15) H1 := ht ▸ hB
              have hD : va_D (wdA 31 q) (mw c q σ15) := mw_D hD0
              refine lv_istore (lv' := [(7, .int r14), (3, .int v12), (6, .int r3), (0, .ref (q 0)), (1, .int z1), (2, .int z2), (4, .int y4), (5, .int y5)]) hx hb dX8_readLikes_96 hl (by decide) rfl (fun ls hl => ?_)
              refine lv_iload hx hb dX8_readLikes_98 (lv_at hl 0 rfl) ?_
              refine lv_if_ne (tgt := 112) hx hb dX8_readLikes_100 (by decide) (fun c16 => ?_) (fun c16 => ?_)
              · have hw := hw.2 c16
                refine lv_iconst (v := (1 : Int32)) hx hb dX8_readLikes_112 (by decide) ?_
                refine lv_goto (tgt := 117) hx hb dX8_readLikes_113 (by decide) ?_
                refine lv_istore (lv' := [(5, .int (1 : Int32)), (7, .int r14), (3, .int v12), (6, .int r3), (0, .ref (q 0)), (1, .int z1), (2, .int z2), (4, .int y4)]) hx hb dX8_readLikes_117 hl (by decide) rfl (fun ls hl => ?_)
                refine lv_iload hx hb dX8_readLikes_119 (lv_at hl 0 rfl) ?_
                refine lv_if_eq (tgt := 128) hx hb dX8_readLikes_121 (by decide) (fun h9 => absurd h9 (by decide)) (fun _ => ?_)
                refine lv_aload_n hx hb dX8_readLikes_124 rfl (lv_at hl 4 rfl) ?_
                refine va_callv (va_runV (As := []) (rest := []) ⟨hx, hb, hml, hown, htb⟩ (kcX8_step l D c q ev hev σ15  _ hw) (tb_CW htb kX8_step tb_1370 tb_1372 tb_43 ⟨Nat.le_of_ble_eq_true rfl, Nat.le_of_ble_eq_true rfl⟩) (wd_preV (wd := mw c q) (k := 0) hev hK hP hD hE hS (mw_0 c q σ15) rfl) rfl rfl hl.1 rfl (lv_room (Nat.le_of_ble_eq_true rfl)) dX8_readLikes_125 ⟨Nat.zero_le _, Nat.zero_le _⟩) hS (fun q _ h => h) (fun q h => h) (fun σ29 t H1 locs1 ht hvm hw hB hz1 hk1 hS => ?_)
                have hP : va_P D vwCl (mw c q σ29) H1 := ht ▸ hB
                have hD : va_D (wdA 31 q) (mw c q σ29) := mw_D hD0
                refine lv_iload hx hb dX8_readLikes_128 (lv_at hl 7 rfl) ?_
                refine lv_iload hx hb dX8_readLikes_130 (lv_at hl 1 rfl) ?_
                refine lv_if_eq (tgt := 139) hx hb dX8_readLikes_132 (by decide) (fun c30 => ?_) (fun c30 => ?_)
                · have hw := hw.1 c30
                  refine lv_iconst (v := (0 : Int32)) hx hb dX8_readLikes_139 (by decide) ?_
                  refine lv_iadd hx hb dX8_readLikes_140 ?_
                  refine lv_topi (fun v31 ev31 => ?_)
                  have hw := hw v31 ev31
                  refine lv_istore (lv' := [(4, .int v31), (5, .int (1 : Int32)), (7, .int r14), (3, .int v12), (6, .int r3), (0, .ref (q 0)), (1, .int z1), (2, .int z2)]) hx hb dX8_readLikes_141 hl (by decide) rfl (fun ls hl => ?_)
                  refine lv_goto (tgt := 16) hx hb dX8_readLikes_143 (by decide) ?_
                  exact ih v12 v31 (1 : Int32) σ29 _ _ _ hw hk67 hk146 hP hS (lv_sub hl [5, 6, 7, 3, 0, 1] rfl)
                · have hw := hw.2 c30
                  refine lv_iconst (v := (1 : Int32)) hx hb dX8_readLikes_135 (by decide) ?_
                  refine lv_goto (tgt := 140) hx hb dX8_readLikes_136 (by decide) ?_
                  refine lv_iadd hx hb dX8_readLikes_140 ?_
                  refine lv_topi (fun v32 ev32 => ?_)
                  have hw := hw v32 ev32
                  refine lv_istore (lv' := [(4, .int v32), (5, .int (1 : Int32)), (7, .int r14), (3, .int v12), (6, .int r3), (0, .ref (q 0)), (1, .int z1), (2, .int z2)]) hx hb dX8_readLikes_141 hl (by decide) rfl (fun ls hl => ?_)
                  refine lv_goto (tgt := 16) hx hb dX8_readLikes_143 (by decide) ?_
                  exact ih v12 v32 (1 : Int32) σ29 _ _ _ hw hk67 hk146 hP hS (lv_sub hl [5, 6, 7, 3, 0, 1] rfl)
              · have hw := hw.1 c16
                refine lv_aload_n hx hb dX8_readLikes_103 rfl (lv_at hl 3 rfl) ?_
                refine va_ldcS hx hb hown ((hZ s s.heap hE).2.2.2 ("StrikeHallModel", 195, "and", 5) (by decide)) dX8_readLikes_104 ?_
                refine va_calli (va_runV (As := [.ref (adK 5)]) (rest := []) ⟨hx, hb, hml, hown, htb⟩ (kcX8_is_s l D c q ev hev adK adV hZ σ15 5 (by decide) _ hw) (tb_CW htb kX8_is tb_1390 tb_1392 tb_46 ⟨Nat.le_of_ble_eq_true rfl, Nat.le_of_ble_eq_true rfl⟩) (wd_preV (wd := mw c q) (k := 0) hev hK hP hD hE hS (mw_0 c q σ15) rfl) rfl rfl hl.1 rfl (lv_room (Nat.le_of_ble_eq_true rfl)) dX8_readLikes_106 ⟨Nat.zero_le _, Nat.zero_le _⟩) hS (fun q _ h => h) (fun q h => h) (fun r17 σ18 t H1 locs1 ht hvm hw hB hz1 hk1 hS => ?_)
                have hP : va_P D vwCl (mw c q σ18) H1 := ht ▸ hB
                have hD : va_D (wdA 31 q) (mw c q σ18) := mw_D hD0
                refine lv_if_eq (tgt := 116) hx hb dX8_readLikes_109 (by decide) (fun c19 => ?_) (fun c19 => ?_)
                · have hw := hw.1 c19
                  refine lv_iconst (v := (0 : Int32)) hx hb dX8_readLikes_116 (by decide) ?_
                  refine lv_istore (lv' := [(5, .int (0 : Int32)), (7, .int r14), (3, .int v12), (6, .int r3), (0, .ref (q 0)), (1, .int z1), (2, .int z2), (4, .int y4)]) hx hb dX8_readLikes_117 hl (by decide) rfl (fun ls hl => ?_)
                  refine lv_iload hx hb dX8_readLikes_119 (lv_at hl 0 rfl) ?_
                  refine lv_if_eq (tgt := 128) hx hb dX8_readLikes_121 (by decide) (fun _ => ?_) (fun h9 => absurd h9 (by decide))
                  refine lv_iload hx hb dX8_readLikes_128 (lv_at hl 7 rfl) ?_
                  refine lv_iload hx hb dX8_readLikes_130 (lv_at hl 1 rfl) ?_
                  refine lv_if_eq (tgt := 139) hx hb dX8_readLikes_132 (by decide) (fun c20 => ?_) (fun c20 => ?_)
                  · have hw := hw.1 c20
                    refine lv_iconst (v := (0 : Int32)) hx hb dX8_readLikes_139 (by decide) ?_
                    refine lv_iadd hx hb dX8_readLikes_140 ?_
                    refine lv_topi (fun v21 ev21 => ?_)
                    have hw := hw v21 ev21
                    refine lv_istore (lv' := [(4, .int v21), (5, .int (0 : Int32)), (7, .int r14), (3, .int v12), (6, .int r3), (0, .ref (q 0)), (1, .int z1), (2, .int z2)]) hx hb dX8_readLikes_141 hl (by decide) rfl (fun ls hl => ?_)
                    refine lv_goto (tgt := 16) hx hb dX8_readLikes_143 (by decide) ?_
                    exact ih v12 v21 (0 : Int32) σ18 _ _ _ hw hk67 hk146 hP hS (lv_sub hl [5, 6, 7, 3, 0, 1] rfl)
                  · have hw := hw.2 c20
                    refine lv_iconst (v := (1 : Int32)) hx hb dX8_readLikes_135 (by decide) ?_
                    refine lv_goto (tgt := 140) hx hb dX8_readLikes_136 (by decide) ?_
                    refine lv_iadd hx hb dX8_readLikes_140 ?_
                    refine lv_topi (fun v22 ev22 => ?_)
                    have hw := hw v22 ev22
                    refine lv_istore (lv' := [(4, .int v22), (5, .int (0 : Int32)), (7, .int r14), (3, .int v12), (6, .int r3), (0, .ref (q 0)), (1, .int z1), (2, .int z2)]) hx hb dX8_readLikes_141 hl (by decide) rfl (fun ls hl => ?_)
                    refine lv_goto (tgt := 16) hx hb dX8_readLikes_143 (by decide) ?_
                    exact ih v12 v22 (0 : Int32) σ18 _ _ _ hw hk67 hk146 hP hS (lv_sub hl [5, 6, 7, 3, 0, 1] rfl)
                · have hw := hw.2 c19
                  refine lv_iconst (v := (1 : Int32)) hx hb dX8_readLikes_112 (by decide) ?_
                  refine lv_goto (tgt := 117) hx hb dX8_readLikes_113 (by decide) ?_
                  refine lv_istore (lv' := [(5, .int (1 : Int32)), (7, .int r14), (3, .int v12), (6, .int r3), (0, .ref (q 0)), (1, .int z1), (2, .int z2), (4, .int y4)]) hx hb dX8_readLikes_117 hl (by decide) rfl (fun ls hl => ?_)
                  refine lv_iload hx hb dX8_readLikes_119 (lv_at hl 0 rfl) ?_
                  refine lv_if_eq (tgt := 128) hx hb dX8_readLikes_121 (by decide) (fun h9 => absurd h9 (by decide)) (fun _ => ?_)
                  refine lv_aload_n hx hb dX8_readLikes_124 rfl (lv_at hl 4 rfl) ?_
                  refine va_callv (va_runV (As := []) (rest := []) ⟨hx, hb, hml, hown, htb⟩ (kcX8_step l D c q ev hev σ18  _ hw) (tb_CW htb kX8_step tb_1370 tb_1372 tb_43 ⟨Nat.le_of_ble_eq_true rfl, Nat.le_of_ble_eq_true rfl⟩) (wd_preV (wd := mw c q) (k := 0) hev hK hP hD hE hS (mw_0 c q σ18) rfl) rfl rfl hl.1 rfl (lv_room (Nat.le_of_ble_eq_true rfl)) dX8_readLikes_125 ⟨Nat.zero_le _, Nat.zero_le _⟩) hS (fun q _ h => h) (fun q h => h) (fun σ24 t H1 locs1 ht hvm hw hB hz1 hk1 hS => ?_)
                  have hP : va_P D vwCl (mw c q σ24) H1 := ht ▸ hB
                  have hD : va_D (wdA 31 q) (mw c q σ24) := mw_D hD0
                  refine lv_iload hx hb dX8_readLikes_128 (lv_at hl 7 rfl) ?_
                  refine lv_iload hx hb dX8_readLikes_130 (lv_at hl 1 rfl) ?_
                  refine lv_if_eq (tgt := 139) hx hb dX8_readLikes_132 (by decide) (fun c25 => ?_) (fun c25 => ?_)
                  · have hw := hw.1 c25
                    refine lv_iconst (v := (0 : Int32)) hx hb dX8_readLikes_139 (by decide) ?_
                    refine lv_iadd hx hb dX8_readLikes_140 ?_
                    refine lv_topi (fun v26 ev26 => ?_)
                    have hw := hw v26 ev26
                    refine lv_istore (lv' := [(4, .int v26), (5, .int (1 : Int32)), (7, .int r14), (3, .int v12), (6, .int r3), (0, .ref (q 0)), (1, .int z1), (2, .int z2)]) hx hb dX8_readLikes_141 hl (by decide) rfl (fun ls hl => ?_)
                    refine lv_goto (tgt := 16) hx hb dX8_readLikes_143 (by decide) ?_
                    exact ih v12 v26 (1 : Int32) σ24 _ _ _ hw hk67 hk146 hP hS (lv_sub hl [5, 6, 7, 3, 0, 1] rfl)
                  · have hw := hw.2 c25
                    refine lv_iconst (v := (1 : Int32)) hx hb dX8_readLikes_135 (by decide) ?_
                    refine lv_goto (tgt := 140) hx hb dX8_readLikes_136 (by decide) ?_
                    refine lv_iadd hx hb dX8_readLikes_140 ?_
                    refine lv_topi (fun v27 ev27 => ?_)
                    have hw := hw v27 ev27
                    refine lv_istore (lv' := [(4, .int v27), (5, .int (1 : Int32)), (7, .int r14), (3, .int v12), (6, .int r3), (0, .ref (q 0)), (1, .int z1), (2, .int z2)]) hx hb dX8_readLikes_141 hl (by decide) rfl (fun ls hl => ?_)
                    refine lv_goto (tgt := 16) hx hb dX8_readLikes_143 (by decide) ?_
                    exact ih v12 v27 (1 : Int32) σ24 _ _ _ hw hk67 hk146 hP hS (lv_sub hl [5, 6, 7, 3, 0, 1] rfl)
            · have hw := hw.2 c9
              exact hk67 y3 y4 y5 σ8 _ _ _ hw hP hS (lv_sub hl [1, 2, 3, 4, 5, 6] rfl)
  have L149 : ∀ (K184 : Int32 → hsS → Prop) (z1 : Int32) (z2 : Int32) (z3 : Int32) (z4 : Int32) (z5 : Int32) (n : Nat) (y6 : Int32) (σ : hsS) (H : Heap) (locs : List Loc) (ls : Array Slot), wX8_readLikes_L149 z1 z2 z3 z4 z5 K184 post n y6 σ → (∀ (y6 : Int32) (σ : hsS) (H : Heap) (locs : List Loc) (ls : Array Slot), K184 y6 σ → va_P D vwCl (mw c q σ) H → va_S (wdA 31 q) s.heap H locs → lv_has ls 8 [(0, .ref (q 0)), (1, .int z1), (2, .int z2), (3, .int z3), (4, .int z4), (5, .int z5), (6, .int y6)] → W p l e (headSpec (Cond.code yX8_readLikes cX8_readLikes 8 none :: tb_L) { frames := 5, cells := 0, slots := 0, locals := 108 }).room s m [.ref (q 0), .int x1].toArray below meth c₀ H locs 0 0 (MQ below (va_Qv post (wdB D (mw c q)) (wdA 31 q)) [.ref (q 0), .int x1].toArray s 0 0 (wdA 31 q)) (F0 m 184 ls [])) → va_P D vwCl (mw c q σ) H → va_S (wdA 31 q) s.heap H locs → lv_has ls 8 [(0, .ref (q 0)), (1, .int z1), (2, .int z2), (3, .int z3), (4, .int z4), (5, .int z5), (6, .int y6)] → W p l e (headSpec (Cond.code yX8_readLikes cX8_readLikes 8 none :: tb_L) { frames := 5, cells := 0, slots := 0, locals := 108 }).room s m [.ref (q 0), .int x1].toArray below meth c₀ H locs 0 0 (MQ below (va_Qv post (wdB D (mw c q)) (wdA 31 q)) [.ref (q 0), .int x1].toArray s 0 0 (wdA 31 q)) (F0 m 149 ls []) := by
    intro K184 z1 z2 z3 z4 z5 n
    induction n with
    | zero =>
      intro y6 σ H locs ls hw hk184 hP hS hl
      exact (show False from hw).elim
    | succ n ih =>
      intro y6 σ H locs ls hw hk184 hP hS hl
      rw [wX8_readLikes_L149] at hw
      have hD : va_D (wdA 31 q) (mw c q σ) := mw_D hD0
      refine lv_iload hx hb dX8_readLikes_149 (lv_at hl 6 rfl) ?_
      refine lv_bipush (v := (10 : Int32)) hx hb dX8_readLikes_151 (by decide) ?_
      refine lv_icmp_ge (tgt := 184) hx hb dX8_readLikes_153 (by decide) (fun c90 => ?_) (fun c90 => ?_)
      · have hw := hw.1 c90
        exact hk184 y6 σ _ _ _ hw hP hS (lv_sub hl [0, 1, 2, 3, 4, 5, 6] rfl)
      · have hw := hw.2 c90
        refine lv_iload_n hx hb dX8_readLikes_156 rfl (lv_at hl 3 rfl) ?_
        refine lv_iload hx hb dX8_readLikes_157 (lv_at hl 6 rfl) ?_
        refine lv_ishr hx hb dX8_readLikes_159 ?_
        refine lv_iconst (v := (1 : Int32)) hx hb dX8_readLikes_160 (by decide) ?_
        refine lv_iand hx hb dX8_readLikes_161 ?_
        refine lv_if_ne (tgt := 178) hx hb dX8_readLikes_162 (by decide) (fun c91 => ?_) (fun c91 => ?_)
        · have hw := hw.2 c91
          obtain ⟨v94, ev94⟩ : ∃ z : Int32, z = y6 + (1 : Int32) := ⟨_, rfl⟩
          have hw := hw v94 ev94
          refine lv_iinc (v := v94) (lv' := [(6, .int v94), (0, .ref (q 0)), (1, .int z1), (2, .int z2), (3, .int z3), (4, .int z4), (5, .int z5)]) hx hb dX8_readLikes_178 hl (k := 6) rfl (by rw [ev94]; rfl) (by decide) rfl (fun ls hl => ?_)
          refine lv_goto (tgt := 149) hx hb dX8_readLikes_181 (by decide) ?_
          exact ih v94 σ _ _ _ hw hk184 hP hS (lv_sub hl [1, 2, 3, 4, 5, 6, 0] rfl)
        · have hw := hw.1 c91
          refine lv_aload_n hx hb dX8_readLikes_165 rfl (lv_at hl 0 rfl) ?_
          refine va_get (D := D) (ci := 8) (C := RX8) (T := TX8) (N := 57) hx hb htb inX8 hown hK hP 0 (mw_0 c q σ) rfl 8 (by decide) (htb _ tb_1189) (fun _ h9 => h9) rfl dX8_readLikes_166 ?_
          refine lv_iload_n hx hb dX8_readLikes_169 rfl (lv_at hl 2 rfl) ?_
          refine lv_iload hx hb dX8_readLikes_170 (lv_at hl 6 rfl) ?_
          refine lv_iadd hx hb dX8_readLikes_172 ?_
          refine lv_iload hx hb dX8_readLikes_173 (lv_at hl 4 rfl) ?_
          refine lv_iconst (v := (1 : Int32)) hx hb dX8_readLikes_175 (by decide) ?_
          refine lv_iadd hx hb dX8_readLikes_176 ?_
          refine va_iast hx hb hK hP hD hS 8 7 (mw_8 c q σ) rfl hw.1 dX8_readLikes_177 (fun H locs hP hD hS => ?_)
          have hw := hw.2
          have hP : va_P D vwCl (mw c q (hsA σ 8 (upd (σ.2.1 8) (z2 + y6).toNatClampNeg (z4 + (1 : Int32))))) H := hP
          obtain ⟨σ92, eσ92⟩ : ∃ z : hsS, z = hsA σ 8 (upd (σ.2.1 8) (z2 + y6).toNatClampNeg (z4 + (1 : Int32))) := ⟨_, rfl⟩
          rw [← eσ92] at hP
          have hD : va_D (wdA 31 q) (mw c q σ92) := mw_D hD0
          have hw := hw σ92 eσ92
          obtain ⟨v93, ev93⟩ : ∃ z : Int32, z = y6 + (1 : Int32) := ⟨_, rfl⟩
          have hw := hw v93 ev93
          refine lv_iinc (v := v93) (lv' := [(6, .int v93), (0, .ref (q 0)), (1, .int z1), (2, .int z2), (3, .int z3), (4, .int z4), (5, .int z5)]) hx hb dX8_readLikes_178 hl (k := 6) rfl (by rw [ev93]; rfl) (by decide) rfl (fun ls hl => ?_)
          refine lv_goto (tgt := 149) hx hb dX8_readLikes_181 (by decide) ?_
          exact ih v93 σ92 _ _ _ hw hk184 hP hS (lv_sub hl [1, 2, 3, 4, 5, 6, 0] rfl)
  have hl := lv_entry ([.ref (q 0), .int x1]) (n := 8) (Nat.le_of_ble_eq_true rfl)
  rw [lg_entry_eq]
  generalize (lg_sl ([.ref (q 0), .int x1]) ++ List.replicate (8 - (lg_sl ([.ref (q 0), .int x1])).length) Slot.unset).toArray = ls at hl ⊢
  have hl : lv_has ls 8 [(0, .ref (q 0)), (1, .int x1)] := hl
  unfold wX8_readLikes at hw
  refine lv_bipush (v := (8 : Int32)) hx hb dX8_readLikes_0 (by decide) ?_
  refine lv_iload_n hx hb dX8_readLikes_2 rfl (lv_at hl 1 rfl) ?_
  refine lv_iadd hx hb dX8_readLikes_3 ?_
  refine lv_bipush (v := (10 : Int32)) hx hb dX8_readLikes_4 (by decide) ?_
  refine lv_imul hx hb dX8_readLikes_6 ?_
  refine lv_topi (fun v1 ev1 => ?_)
  have hw := hw v1 ev1
  refine lv_istore_n (lv' := [(2, .int v1), (0, .ref (q 0)), (1, .int x1)]) hx hb dX8_readLikes_7 rfl hl (by decide) rfl (fun ls hl => ?_)
  refine lv_iconst (v := (0 : Int32)) hx hb dX8_readLikes_8 (by decide) ?_
  refine lv_istore_n (lv' := [(3, .int (0 : Int32)), (2, .int v1), (0, .ref (q 0)), (1, .int x1)]) hx hb dX8_readLikes_9 rfl hl (by decide) rfl (fun ls hl => ?_)
  refine lv_iconst (v := (0 : Int32)) hx hb dX8_readLikes_10 (by decide) ?_
  refine lv_istore (lv' := [(4, .int (0 : Int32)), (3, .int (0 : Int32)), (2, .int v1), (0, .ref (q 0)), (1, .int x1)]) hx hb dX8_readLikes_11 hl (by decide) rfl (fun ls hl => ?_)
  refine lv_iconst (v := (1 : Int32)) hx hb dX8_readLikes_13 (by decide) ?_
  refine lv_istore (lv' := [(5, .int (1 : Int32)), (4, .int (0 : Int32)), (3, .int (0 : Int32)), (2, .int v1), (0, .ref (q 0)), (1, .int x1)]) hx hb dX8_readLikes_14 hl (by decide) rfl (fun ls hl => ?_)
  obtain ⟨n81, hw⟩ := hw
  refine L16 _ _ x1 v1 n81 (0 : Int32) (0 : Int32) (1 : Int32) σ _ _ _ hw ?_ ?_ hP hS (lv_sub hl [4, 5, 3, 2, 1, 0] rfl)
  · intro v82 v83 v84 σ85 H locs ls hw hP hS hl
    have hD : va_D (wdA 31 q) (mw c q σ85) := mw_D hD0
    exact W.vret hx hb hr (fun t ht hW => ⟨⟨σ85, rfl, hw, by unfold wdB; rw [ht]; exact hP⟩, hS.F ht⟩) hS.2.2 dX8_readLikes_67
  · intro v86 v87 v88 σ89 H locs ls hw hP hS hl
    have hD : va_D (wdA 31 q) (mw c q σ89) := mw_D hD0
    refine lv_iconst (v := (0 : Int32)) hx hb dX8_readLikes_146 (by decide) ?_
    refine lv_istore (lv' := [(6, .int (0 : Int32)), (0, .ref (q 0)), (1, .int x1), (2, .int v1), (3, .int v86), (4, .int v87), (5, .int v88)]) hx hb dX8_readLikes_147 hl (by decide) rfl (fun ls hl => ?_)
    obtain ⟨n95, hw⟩ := hw
    refine L149 _ x1 v1 v86 v87 v88 n95 (0 : Int32) σ89 _ _ _ hw ?_ hP hS (lv_sub hl [1, 2, 3, 4, 5, 6, 0] rfl)
    intro v96 σ97 H locs ls hw hP hS hl
    have hD : va_D (wdA 31 q) (mw c q σ97) := mw_D hD0
    exact W.vret hx hb hr (fun t ht hW => ⟨⟨σ97, rfl, hw, by unfold wdB; rw [ht]; exact hP⟩, hS.F ht⟩) hS.2.2 dX8_readLikes_184
def wX8_word (i1 : Nat) (post : hsS → Prop) (σ : hsS) : Prop := (((σ.1 21) = (0 : Int32) → wX8_is i1 (fun r2 σ3 => ((r2 = (0 : Int32) → wX8_wrong (1 : Int32) (fun σ6 => (((σ6.1 21) = (0 : Int32) → wX8_step  (fun σ9 => post σ9) σ6) ∧ (¬ (σ6.1 21) = (0 : Int32) → post σ6))) σ3) ∧ (¬ r2 = (0 : Int32) → (((σ3.1 21) = (0 : Int32) → wX8_step  (fun σ12 => post σ12) σ3) ∧ (¬ (σ3.1 21) = (0 : Int32) → post σ3))))) σ) ∧ (¬ (σ.1 21) = (0 : Int32) → (((σ.1 21) = (0 : Int32) → wX8_step  (fun σ15 => post σ15) σ) ∧ (¬ (σ.1 21) = (0 : Int32) → post σ))))
set_option maxHeartbeats 4000000 in
set_option maxRecDepth 100000 in
theorem kcX8_word_s (l : Launch) (D : va_G) (c : Nat → ClassId) (q : Nat → Nat) (ev : State → Heap → Prop) (hev : evOK (wdA 31 q) ev) (adK adV : Nat → Nat) (hZ : ∀ (U : State) (H : Heap), ev U H → evS (wdA 31 q) adK adV U H) (σ : hsS) (i1 : Nat) (hi1 : i1 < 11) (post : hsS → Prop) (hw : wX8_word i1 post σ) : Met l yX8_word (Cond.code yX8_word cX8_word 2 none :: tb_L) { frames := 5, cells := 0, slots := 0, locals := 108 } (wdPc D (mw c q) (mwT c) (wdA 31 q) ev σ [.ref (q 0), .ref (adK i1)]) (va_Qv post (wdB D (mw c q)) (wdA 31 q)) 0 0 (wdA 31 q) := by
  refine Met.ofW (cc := cX8_word) (maxL := 2) (ret := none) (by decide) rfl ?_
  intro p e s m args below meth c₀ s₁ Bd hml hv
  obtain ⟨rfl, hP, hK, hD0, hE⟩ := hv
  have hx := Bd.exec
  have hb := Bd.bytes
  have hr := Bd.returns
  have hts := atoms_spec (ws := Cond.code yX8_word cX8_word 2 none :: tb_L) Bd.pre
  have htb : ∀ w ∈ tb_L, w.before [.ref (q 0), .ref (adK i1)].toArray s = true := fun w h => hts w (List.mem_cons_of_mem _ h)
  have hown : s.vm.findClass RX8 = some m.cls := findClass_of_methodNamed Bd.named
  have hlocks := Bd.notSynchronized
  have hS : va_S (wdA 31 q) s.heap s.heap [] := va_S.rf
  have hD := hD0
  have hl := lv_entry ([.ref (q 0), .ref (adK i1)]) (n := 2) (Nat.le_of_ble_eq_true rfl)
  rw [lg_entry_eq]
  generalize (lg_sl ([.ref (q 0), .ref (adK i1)]) ++ List.replicate (2 - (lg_sl ([.ref (q 0), .ref (adK i1)])).length) Slot.unset).toArray = ls at hl ⊢
  have hl : lv_has ls 2 [(0, .ref (q 0)), (1, .ref (adK i1))] := hl
  unfold wX8_word at hw
  refine lv_aload_n hx hb dX8_word_0 rfl (lv_at hl 0 rfl) ?_
  refine va_get (D := D) (ci := 8) (C := RX8) (T := TX8) (N := 57) hx hb htb inX8 hown hK hP 0 (mw_0 c q σ) rfl 21 (by decide) (htb _ tb_1202) (fun _ h9 => h9) rfl dX8_word_1 ?_
  refine lv_if_ne (tgt := 20) hx hb dX8_word_4 (by decide) (fun c1 => ?_) (fun c1 => ?_)
  · have hw := hw.2 c1
    refine lv_aload_n hx hb dX8_word_20 rfl (lv_at hl 0 rfl) ?_
    refine va_get (D := D) (ci := 8) (C := RX8) (T := TX8) (N := 57) hx hb htb inX8 hown hK hP 0 (mw_0 c q σ) rfl 21 (by decide) (htb _ tb_1202) (fun _ h9 => h9) rfl dX8_word_21 ?_
    refine lv_if_ne (tgt := 31) hx hb dX8_word_24 (by decide) (fun c13 => ?_) (fun c13 => ?_)
    · have hw := hw.2 c13
      exact W.vret hx hb hr (fun t ht hW => ⟨⟨σ, rfl, hw, by unfold wdB; rw [ht]; exact hP⟩, hS.F ht⟩) hS.2.2 dX8_word_31
    · have hw := hw.1 c13
      refine lv_aload_n hx hb dX8_word_27 rfl (lv_at hl 0 rfl) ?_
      refine va_callv (va_runV (As := []) (rest := []) ⟨hx, hb, hml, hown, htb⟩ (kcX8_step l D c q ev hev σ  _ hw) (tb_CW htb kX8_step tb_1370 tb_1372 tb_43 ⟨Nat.le_of_ble_eq_true rfl, Nat.le_of_ble_eq_true rfl⟩) (wd_preV (wd := mw c q) (k := 0) hev hK hP hD hE hS (mw_0 c q σ) rfl) rfl rfl hl.1 rfl (lv_room (Nat.le_of_ble_eq_true rfl)) dX8_word_28 ⟨Nat.zero_le _, Nat.zero_le _⟩) hS (fun q _ h => h) (fun q h => h) (fun σ15 t H1 locs1 ht hvm hw hB hz1 hk1 hS => ?_)
      have hP : va_P D vwCl (mw c q σ15) H1 := ht ▸ hB
      have hD : va_D (wdA 31 q) (mw c q σ15) := mw_D hD0
      exact W.vret hx hb hr (fun t ht hW => ⟨⟨σ15, rfl, hw, by unfold wdB; rw [ht]; exact hP⟩, hS.F ht⟩) hS.2.2 dX8_word_31
  · have hw := hw.1 c1
    refine lv_aload_n hx hb dX8_word_7 rfl (lv_at hl 0 rfl) ?_
    refine lv_aload_n hx hb dX8_word_8 rfl (lv_at hl 1 rfl) ?_
    refine va_calli (va_runV (As := [.ref (adK i1)]) (rest := []) ⟨hx, hb, hml, hown, htb⟩ (kcX8_is_s l D c q ev hev adK adV hZ σ i1 hi1 _ hw) (tb_CW htb kX8_is tb_1390 tb_1392 tb_46 ⟨Nat.le_of_ble_eq_true rfl, Nat.le_of_ble_eq_true rfl⟩) (wd_preV (wd := mw c q) (k := 0) hev hK hP hD hE hS (mw_0 c q σ) rfl) rfl rfl hl.1 rfl (lv_room (Nat.le_of_ble_eq_true rfl)) dX8_word_9 ⟨Nat.zero_le _, Nat.zero_le _⟩) hS (fun q _ h => h) (fun q h => h) (fun r2 σ3 t H1 locs1 ht hvm hw hB hz1 hk1 hS => ?_)
    have hP : va_P D vwCl (mw c q σ3) H1 := ht ▸ hB
    have hD : va_D (wdA 31 q) (mw c q σ3) := mw_D hD0
    refine lv_if_ne (tgt := 20) hx hb dX8_word_12 (by decide) (fun c4 => ?_) (fun c4 => ?_)
    · have hw := hw.2 c4
      refine lv_aload_n hx hb dX8_word_20 rfl (lv_at hl 0 rfl) ?_
      refine va_get (D := D) (ci := 8) (C := RX8) (T := TX8) (N := 57) hx hb htb inX8 hown hK hP 0 (mw_0 c q σ3) rfl 21 (by decide) (htb _ tb_1202) (fun _ h9 => h9) rfl dX8_word_21 ?_
      refine lv_if_ne (tgt := 31) hx hb dX8_word_24 (by decide) (fun c10 => ?_) (fun c10 => ?_)
      · have hw := hw.2 c10
        exact W.vret hx hb hr (fun t ht hW => ⟨⟨σ3, rfl, hw, by unfold wdB; rw [ht]; exact hP⟩, hS.F ht⟩) hS.2.2 dX8_word_31
      · have hw := hw.1 c10
        refine lv_aload_n hx hb dX8_word_27 rfl (lv_at hl 0 rfl) ?_
        refine va_callv (va_runV (As := []) (rest := []) ⟨hx, hb, hml, hown, htb⟩ (kcX8_step l D c q ev hev σ3  _ hw) (tb_CW htb kX8_step tb_1370 tb_1372 tb_43 ⟨Nat.le_of_ble_eq_true rfl, Nat.le_of_ble_eq_true rfl⟩) (wd_preV (wd := mw c q) (k := 0) hev hK hP hD hE hS (mw_0 c q σ3) rfl) rfl rfl hl.1 rfl (lv_room (Nat.le_of_ble_eq_true rfl)) dX8_word_28 ⟨Nat.zero_le _, Nat.zero_le _⟩) hS (fun q _ h => h) (fun q h => h) (fun σ12 t H1 locs1 ht hvm hw hB hz1 hk1 hS => ?_)
        have hP : va_P D vwCl (mw c q σ12) H1 := ht ▸ hB
        have hD : va_D (wdA 31 q) (mw c q σ12) := mw_D hD0
        exact W.vret hx hb hr (fun t ht hW => ⟨⟨σ12, rfl, hw, by unfold wdB; rw [ht]; exact hP⟩, hS.F ht⟩) hS.2.2 dX8_word_31
    · have hw := hw.1 c4
      refine lv_aload_n hx hb dX8_word_15 rfl (lv_at hl 0 rfl) ?_
      refine lv_iconst (v := (1 : Int32)) hx hb dX8_word_16 (by decide) ?_
      refine va_callv (va_runV (As := [.int (1 : Int32)]) (rest := []) ⟨hx, hb, hml, hown, htb⟩ (kcX8_wrong l D c q ev hev σ3 (1 : Int32) _ hw) (tb_CW htb kX8_wrong tb_1396 tb_1398 tb_47 ⟨Nat.le_of_ble_eq_true rfl, Nat.le_of_ble_eq_true rfl⟩) (wd_preV (wd := mw c q) (k := 0) hev hK hP hD hE hS (mw_0 c q σ3) rfl) rfl rfl hl.1 rfl (lv_room (Nat.le_of_ble_eq_true rfl)) dX8_word_17 ⟨Nat.zero_le _, Nat.zero_le _⟩) hS (fun q _ h => h) (fun q h => h) (fun σ6 t H1 locs1 ht hvm hw hB hz1 hk1 hS => ?_)
      have hP : va_P D vwCl (mw c q σ6) H1 := ht ▸ hB
      have hD : va_D (wdA 31 q) (mw c q σ6) := mw_D hD0
      refine lv_aload_n hx hb dX8_word_20 rfl (lv_at hl 0 rfl) ?_
      refine va_get (D := D) (ci := 8) (C := RX8) (T := TX8) (N := 57) hx hb htb inX8 hown hK hP 0 (mw_0 c q σ6) rfl 21 (by decide) (htb _ tb_1202) (fun _ h9 => h9) rfl dX8_word_21 ?_
      refine lv_if_ne (tgt := 31) hx hb dX8_word_24 (by decide) (fun c7 => ?_) (fun c7 => ?_)
      · have hw := hw.2 c7
        exact W.vret hx hb hr (fun t ht hW => ⟨⟨σ6, rfl, hw, by unfold wdB; rw [ht]; exact hP⟩, hS.F ht⟩) hS.2.2 dX8_word_31
      · have hw := hw.1 c7
        refine lv_aload_n hx hb dX8_word_27 rfl (lv_at hl 0 rfl) ?_
        refine va_callv (va_runV (As := []) (rest := []) ⟨hx, hb, hml, hown, htb⟩ (kcX8_step l D c q ev hev σ6  _ hw) (tb_CW htb kX8_step tb_1370 tb_1372 tb_43 ⟨Nat.le_of_ble_eq_true rfl, Nat.le_of_ble_eq_true rfl⟩) (wd_preV (wd := mw c q) (k := 0) hev hK hP hD hE hS (mw_0 c q σ6) rfl) rfl rfl hl.1 rfl (lv_room (Nat.le_of_ble_eq_true rfl)) dX8_word_28 ⟨Nat.zero_le _, Nat.zero_le _⟩) hS (fun q _ h => h) (fun q h => h) (fun σ9 t H1 locs1 ht hvm hw hB hz1 hk1 hS => ?_)
        have hP : va_P D vwCl (mw c q σ9) H1 := ht ▸ hB
        have hD : va_D (wdA 31 q) (mw c q σ9) := mw_D hD0
        exact W.vret hx hb hr (fun t ht hW => ⟨⟨σ9, rfl, hw, by unfold wdB; rw [ht]; exact hP⟩, hS.F ht⟩) hS.2.2 dX8_word_31
def wX8_readPerson_L92 (z1 : Int32) (z2 : Int32) (K119 : Int32 → hsS → Prop) (post : hsS → Prop) : Nat → Int32 → hsS → Prop
  | 0, _, _ => False
  | n + 1, y3, σ => (((10 : Int32) ≤ y3 → K119 y3 σ) ∧ (¬ (10 : Int32) ≤ y3 → vp_in ((((8 : Int32) + z2) * (10 : Int32)) + y3) 160 ∧ ∀ σ20 : hsS, σ20 = hsA σ 8 (upd (σ.2.1 8) ((((8 : Int32) + z2) * (10 : Int32)) + y3).toNatClampNeg (0 : Int32)) → ∀ v21 : Int32, v21 = y3 + (1 : Int32) → wX8_readPerson_L92 z1 z2 K119 post n v21 σ20))
def wX8_readPerson  (post : hsS → Prop) (σ : hsS) : Prop := (((σ.2.1 2 (1 : Int32).toNatClampNeg) = (8 : Int32) → wX8_wrong (2 : Int32) (fun σ3 => (((σ3.1 21) = (0 : Int32) → wX8_step  (fun σ6 => wX8_word 2 (fun σ8 => wX8_readNumber (1 : Int32) (99 : Int32) (1000 : Int32) (0 : Int32) (fun r9 σ10 => (((σ10.1 21) = (0 : Int32) → wX8_step  (fun σ13 => ∀ v14 : Int32, v14 = σ13.2.1 2 (1 : Int32).toNatClampNeg → vp_in ((8 : Int32) + v14) 16 ∧ ∀ σ15 : hsS, σ15 = hsA σ13 7 (upd (σ13.2.1 7) ((8 : Int32) + v14).toNatClampNeg r9) → wX8_is 3 (fun r16 σ17 => vp_in ((8 : Int32) + v14) 16 ∧ ∀ σ18 : hsS, σ18 = hsA σ17 11 (upd (σ17.2.1 11) ((8 : Int32) + v14).toNatClampNeg (vp_nar .boolean r16)) → ∃ n22, wX8_readPerson_L92 r9 v14 (fun v23 σ24 => vp_in ((8 : Int32) + v14) 16 ∧ (((σ24.2.1 11 ((8 : Int32) + v14).toNatClampNeg) = (0 : Int32) → (((σ24.1 21) = (0 : Int32) → ∀ σ27 : hsS, σ27 = hsA σ24 2 (upd (σ24.2.1 2) (1 : Int32).toNatClampNeg ((σ24.2.1 2 (1 : Int32).toNatClampNeg) + (1 : Int32))) → post σ27) ∧ (¬ (σ24.1 21) = (0 : Int32) → post σ24))) ∧ (¬ (σ24.2.1 11 ((8 : Int32) + v14).toNatClampNeg) = (0 : Int32) → wX8_step  (fun σ29 => wX8_readLikes v14 (fun σ31 => (((σ31.1 21) = (0 : Int32) → ∀ σ33 : hsS, σ33 = hsA σ31 2 (upd (σ31.2.1 2) (1 : Int32).toNatClampNeg ((σ31.2.1 2 (1 : Int32).toNatClampNeg) + (1 : Int32))) → post σ33) ∧ (¬ (σ31.1 21) = (0 : Int32) → post σ31))) σ29) σ24))) post n22 (0 : Int32) σ18) σ15) σ10) ∧ (¬ (σ10.1 21) = (0 : Int32) → post σ10))) σ8) σ6) σ3) ∧ (¬ (σ3.1 21) = (0 : Int32) → post σ3))) σ) ∧ (¬ (σ.2.1 2 (1 : Int32).toNatClampNeg) = (8 : Int32) → (((σ.1 21) = (0 : Int32) → wX8_step  (fun σ36 => wX8_word 2 (fun σ38 => wX8_readNumber (1 : Int32) (99 : Int32) (1000 : Int32) (0 : Int32) (fun r39 σ40 => (((σ40.1 21) = (0 : Int32) → wX8_step  (fun σ43 => ∀ v44 : Int32, v44 = σ43.2.1 2 (1 : Int32).toNatClampNeg → vp_in ((8 : Int32) + v44) 16 ∧ ∀ σ45 : hsS, σ45 = hsA σ43 7 (upd (σ43.2.1 7) ((8 : Int32) + v44).toNatClampNeg r39) → wX8_is 3 (fun r46 σ47 => vp_in ((8 : Int32) + v44) 16 ∧ ∀ σ48 : hsS, σ48 = hsA σ47 11 (upd (σ47.2.1 11) ((8 : Int32) + v44).toNatClampNeg (vp_nar .boolean r46)) → ∃ n49, wX8_readPerson_L92 r39 v44 (fun v50 σ51 => vp_in ((8 : Int32) + v44) 16 ∧ (((σ51.2.1 11 ((8 : Int32) + v44).toNatClampNeg) = (0 : Int32) → (((σ51.1 21) = (0 : Int32) → ∀ σ54 : hsS, σ54 = hsA σ51 2 (upd (σ51.2.1 2) (1 : Int32).toNatClampNeg ((σ51.2.1 2 (1 : Int32).toNatClampNeg) + (1 : Int32))) → post σ54) ∧ (¬ (σ51.1 21) = (0 : Int32) → post σ51))) ∧ (¬ (σ51.2.1 11 ((8 : Int32) + v44).toNatClampNeg) = (0 : Int32) → wX8_step  (fun σ56 => wX8_readLikes v44 (fun σ58 => (((σ58.1 21) = (0 : Int32) → ∀ σ60 : hsS, σ60 = hsA σ58 2 (upd (σ58.2.1 2) (1 : Int32).toNatClampNeg ((σ58.2.1 2 (1 : Int32).toNatClampNeg) + (1 : Int32))) → post σ60) ∧ (¬ (σ58.1 21) = (0 : Int32) → post σ58))) σ56) σ51))) post n49 (0 : Int32) σ48) σ45) σ40) ∧ (¬ (σ40.1 21) = (0 : Int32) → post σ40))) σ38) σ36) σ) ∧ (¬ (σ.1 21) = (0 : Int32) → post σ))))
set_option maxHeartbeats 4000000 in
set_option maxRecDepth 100000 in
theorem kcX8_readPerson (l : Launch) (D : va_G) (c : Nat → ClassId) (q : Nat → Nat) (ev : State → Heap → Prop) (hev : evOK (wdA 31 q) ev) (adK adV : Nat → Nat) (hZ : ∀ (U : State) (H : Heap), ev U H → evS (wdA 31 q) adK adV U H) (σ : hsS)  (post : hsS → Prop) (hw : wX8_readPerson  post σ) : Met l yX8_readPerson (Cond.code yX8_readPerson cX8_readPerson 4 none :: tb_L) { frames := 6, cells := 0, slots := 0, locals := 135 } (wdPc D (mw c q) (mwT c) (wdA 31 q) ev σ [.ref (q 0)]) (va_Qv post (wdB D (mw c q)) (wdA 31 q)) 0 0 (wdA 31 q) := by
  refine Met.ofW (cc := cX8_readPerson) (maxL := 4) (ret := none) (by decide) rfl ?_
  intro p e s m args below meth c₀ s₁ Bd hml hv
  obtain ⟨rfl, hP, hK, hD0, hE⟩ := hv
  have hx := Bd.exec
  have hb := Bd.bytes
  have hr := Bd.returns
  have hts := atoms_spec (ws := Cond.code yX8_readPerson cX8_readPerson 4 none :: tb_L) Bd.pre
  have htb : ∀ w ∈ tb_L, w.before [.ref (q 0)].toArray s = true := fun w h => hts w (List.mem_cons_of_mem _ h)
  have hown : s.vm.findClass RX8 = some m.cls := findClass_of_methodNamed Bd.named
  have hlocks := Bd.notSynchronized
  have hS : va_S (wdA 31 q) s.heap s.heap [] := va_S.rf
  have hD := hD0
  have L92 : ∀ (K119 : Int32 → hsS → Prop) (z1 : Int32) (z2 : Int32) (n : Nat) (y3 : Int32) (σ : hsS) (H : Heap) (locs : List Loc) (ls : Array Slot), wX8_readPerson_L92 z1 z2 K119 post n y3 σ → (∀ (y3 : Int32) (σ : hsS) (H : Heap) (locs : List Loc) (ls : Array Slot), K119 y3 σ → va_P D vwCl (mw c q σ) H → va_S (wdA 31 q) s.heap H locs → lv_has ls 4 [(0, .ref (q 0)), (1, .int z1), (2, .int z2), (3, .int y3)] → W p l e (headSpec (Cond.code yX8_readPerson cX8_readPerson 4 none :: tb_L) { frames := 6, cells := 0, slots := 0, locals := 135 }).room s m [.ref (q 0)].toArray below meth c₀ H locs 0 0 (MQ below (va_Qv post (wdB D (mw c q)) (wdA 31 q)) [.ref (q 0)].toArray s 0 0 (wdA 31 q)) (F0 m 119 ls [])) → va_P D vwCl (mw c q σ) H → va_S (wdA 31 q) s.heap H locs → lv_has ls 4 [(0, .ref (q 0)), (1, .int z1), (2, .int z2), (3, .int y3)] → W p l e (headSpec (Cond.code yX8_readPerson cX8_readPerson 4 none :: tb_L) { frames := 6, cells := 0, slots := 0, locals := 135 }).room s m [.ref (q 0)].toArray below meth c₀ H locs 0 0 (MQ below (va_Qv post (wdB D (mw c q)) (wdA 31 q)) [.ref (q 0)].toArray s 0 0 (wdA 31 q)) (F0 m 92 ls []) := by
    intro K119 z1 z2 n
    induction n with
    | zero =>
      intro y3 σ H locs ls hw hk119 hP hS hl
      exact (show False from hw).elim
    | succ n ih =>
      intro y3 σ H locs ls hw hk119 hP hS hl
      rw [wX8_readPerson_L92] at hw
      have hD : va_D (wdA 31 q) (mw c q σ) := mw_D hD0
      refine lv_iload_n hx hb dX8_readPerson_92 rfl (lv_at hl 3 rfl) ?_
      refine lv_bipush (v := (10 : Int32)) hx hb dX8_readPerson_93 (by decide) ?_
      refine lv_icmp_ge (tgt := 119) hx hb dX8_readPerson_95 (by decide) (fun c19 => ?_) (fun c19 => ?_)
      · have hw := hw.1 c19
        exact hk119 y3 σ _ _ _ hw hP hS (lv_sub hl [0, 1, 2, 3] rfl)
      · have hw := hw.2 c19
        refine lv_aload_n hx hb dX8_readPerson_98 rfl (lv_at hl 0 rfl) ?_
        refine va_get (D := D) (ci := 8) (C := RX8) (T := TX8) (N := 57) hx hb htb inX8 hown hK hP 0 (mw_0 c q σ) rfl 8 (by decide) (htb _ tb_1189) (fun _ h9 => h9) rfl dX8_readPerson_99 ?_
        refine lv_bipush (v := (8 : Int32)) hx hb dX8_readPerson_102 (by decide) ?_
        refine lv_iload_n hx hb dX8_readPerson_104 rfl (lv_at hl 2 rfl) ?_
        refine lv_iadd hx hb dX8_readPerson_105 ?_
        refine lv_bipush (v := (10 : Int32)) hx hb dX8_readPerson_106 (by decide) ?_
        refine lv_imul hx hb dX8_readPerson_108 ?_
        refine lv_iload_n hx hb dX8_readPerson_109 rfl (lv_at hl 3 rfl) ?_
        refine lv_iadd hx hb dX8_readPerson_110 ?_
        refine lv_iconst (v := (0 : Int32)) hx hb dX8_readPerson_111 (by decide) ?_
        refine va_iast hx hb hK hP hD hS 8 7 (mw_8 c q σ) rfl hw.1 dX8_readPerson_112 (fun H locs hP hD hS => ?_)
        have hw := hw.2
        have hP : va_P D vwCl (mw c q (hsA σ 8 (upd (σ.2.1 8) ((((8 : Int32) + z2) * (10 : Int32)) + y3).toNatClampNeg (0 : Int32)))) H := hP
        obtain ⟨σ20, eσ20⟩ : ∃ z : hsS, z = hsA σ 8 (upd (σ.2.1 8) ((((8 : Int32) + z2) * (10 : Int32)) + y3).toNatClampNeg (0 : Int32)) := ⟨_, rfl⟩
        rw [← eσ20] at hP
        have hD : va_D (wdA 31 q) (mw c q σ20) := mw_D hD0
        have hw := hw σ20 eσ20
        obtain ⟨v21, ev21⟩ : ∃ z : Int32, z = y3 + (1 : Int32) := ⟨_, rfl⟩
        have hw := hw v21 ev21
        refine lv_iinc (v := v21) (lv' := [(3, .int v21), (0, .ref (q 0)), (1, .int z1), (2, .int z2)]) hx hb dX8_readPerson_113 hl (k := 3) rfl (by rw [ev21]; rfl) (by decide) rfl (fun ls hl => ?_)
        refine lv_goto (tgt := 92) hx hb dX8_readPerson_116 (by decide) ?_
        exact ih v21 σ20 _ _ _ hw hk119 hP hS (lv_sub hl [1, 2, 3, 0] rfl)
  have hl := lv_entry ([.ref (q 0)]) (n := 4) (Nat.le_of_ble_eq_true rfl)
  rw [lg_entry_eq]
  generalize (lg_sl ([.ref (q 0)]) ++ List.replicate (4 - (lg_sl ([.ref (q 0)])).length) Slot.unset).toArray = ls at hl ⊢
  have hl : lv_has ls 4 [(0, .ref (q 0))] := hl
  unfold wX8_readPerson at hw
  refine lv_aload_n hx hb dX8_readPerson_0 rfl (lv_at hl 0 rfl) ?_
  refine va_get (D := D) (ci := 8) (C := RX8) (T := TX8) (N := 57) hx hb htb inX8 hown hK hP 0 (mw_0 c q σ) rfl 2 (by decide) (htb _ tb_1183) (fun _ h9 => h9) rfl dX8_readPerson_1 ?_
  refine lv_iconst (v := (1 : Int32)) hx hb dX8_readPerson_4 (by decide) ?_
  refine va_iald hx hb hK hP 2 1 (mw_2 c q σ) rfl (by unfold vp_in; decide) dX8_readPerson_5 ?_
  refine lv_bipush (v := (8 : Int32)) hx hb dX8_readPerson_6 (by decide) ?_
  refine lv_icmp_ne (tgt := 16) hx hb dX8_readPerson_8 (by decide) (fun c1 => ?_) (fun c1 => ?_)
  · have hw := hw.2 c1
    refine lv_aload_n hx hb dX8_readPerson_16 rfl (lv_at hl 0 rfl) ?_
    refine va_get (D := D) (ci := 8) (C := RX8) (T := TX8) (N := 57) hx hb htb inX8 hown hK hP 0 (mw_0 c q σ) rfl 21 (by decide) (htb _ tb_1202) (fun _ h9 => h9) rfl dX8_readPerson_17 ?_
    refine lv_if_eq (tgt := 24) hx hb dX8_readPerson_20 (by decide) (fun c34 => ?_) (fun c34 => ?_)
    · have hw := hw.1 c34
      refine lv_aload_n hx hb dX8_readPerson_24 rfl (lv_at hl 0 rfl) ?_
      refine va_callv (va_runV (As := []) (rest := []) ⟨hx, hb, hml, hown, htb⟩ (kcX8_step l D c q ev hev σ  _ hw) (tb_CW htb kX8_step tb_1370 tb_1372 tb_43 ⟨Nat.le_of_ble_eq_true rfl, Nat.le_of_ble_eq_true rfl⟩) (wd_preV (wd := mw c q) (k := 0) hev hK hP hD hE hS (mw_0 c q σ) rfl) rfl rfl hl.1 rfl (lv_room (Nat.le_of_ble_eq_true rfl)) dX8_readPerson_25 ⟨Nat.zero_le _, Nat.zero_le _⟩) hS (fun q _ h => h) (fun q h => h) (fun σ36 t H1 locs1 ht hvm hw hB hz1 hk1 hS => ?_)
      have hP : va_P D vwCl (mw c q σ36) H1 := ht ▸ hB
      have hD : va_D (wdA 31 q) (mw c q σ36) := mw_D hD0
      refine lv_aload_n hx hb dX8_readPerson_28 rfl (lv_at hl 0 rfl) ?_
      refine va_ldcS hx hb hown ((hZ s s.heap hE).2.2.2 ("StrikeHallModel", 197, "weight", 2) (by decide)) dX8_readPerson_29 ?_
      refine va_callv (va_runV (As := [.ref (adK 2)]) (rest := []) ⟨hx, hb, hml, hown, htb⟩ (kcX8_word_s l D c q ev hev adK adV hZ σ36 2 (by decide) _ hw) (tb_CW htb kX8_word tb_1386 tb_1388 tb_45 ⟨Nat.le_of_ble_eq_true rfl, Nat.le_of_ble_eq_true rfl⟩) (wd_preV (wd := mw c q) (k := 0) hev hK hP hD hE hS (mw_0 c q σ36) rfl) rfl rfl hl.1 rfl (lv_room (Nat.le_of_ble_eq_true rfl)) dX8_readPerson_31 ⟨Nat.zero_le _, Nat.zero_le _⟩) hS (fun q _ h => h) (fun q h => h) (fun σ38 t H1 locs1 ht hvm hw hB hz1 hk1 hS => ?_)
      have hP : va_P D vwCl (mw c q σ38) H1 := ht ▸ hB
      have hD : va_D (wdA 31 q) (mw c q σ38) := mw_D hD0
      refine lv_aload_n hx hb dX8_readPerson_34 rfl (lv_at hl 0 rfl) ?_
      refine lv_iconst (v := (1 : Int32)) hx hb dX8_readPerson_35 (by decide) ?_
      refine lv_bipush (v := (99 : Int32)) hx hb dX8_readPerson_36 (by decide) ?_
      refine lv_sipush (v := (1000 : Int32)) hx hb dX8_readPerson_38 (by decide) ?_
      refine lv_iconst (v := (0 : Int32)) hx hb dX8_readPerson_41 (by decide) ?_
      refine va_calli (va_runV (As := [.int (1 : Int32), .int (99 : Int32), .int (1000 : Int32), .int (0 : Int32)]) (rest := []) ⟨hx, hb, hml, hown, htb⟩ (kcX8_readNumber l D c q ev hev σ38 (1 : Int32) (99 : Int32) (1000 : Int32) (0 : Int32) _ hw) (tb_CW htb kX8_readNumber tb_1400 tb_1402 tb_48 ⟨Nat.le_of_ble_eq_true rfl, Nat.le_of_ble_eq_true rfl⟩) (wd_preV (wd := mw c q) (k := 0) hev hK hP hD hE hS (mw_0 c q σ38) rfl) rfl rfl hl.1 rfl (lv_room (Nat.le_of_ble_eq_true rfl)) dX8_readPerson_42 ⟨Nat.zero_le _, Nat.zero_le _⟩) hS (fun q _ h => h) (fun q h => h) (fun r39 σ40 t H1 locs1 ht hvm hw hB hz1 hk1 hS => ?_)
      have hP : va_P D vwCl (mw c q σ40) H1 := ht ▸ hB
      have hD : va_D (wdA 31 q) (mw c q σ40) := mw_D hD0
      refine lv_istore_n (lv' := [(1, .int r39), (0, .ref (q 0))]) hx hb dX8_readPerson_45 rfl hl (by decide) rfl (fun ls hl => ?_)
      refine lv_aload_n hx hb dX8_readPerson_46 rfl (lv_at hl 1 rfl) ?_
      refine va_get (D := D) (ci := 8) (C := RX8) (T := TX8) (N := 57) hx hb htb inX8 hown hK hP 0 (mw_0 c q σ40) rfl 21 (by decide) (htb _ tb_1202) (fun _ h9 => h9) rfl dX8_readPerson_47 ?_
      refine lv_if_eq (tgt := 54) hx hb dX8_readPerson_50 (by decide) (fun c41 => ?_) (fun c41 => ?_)
      · have hw := hw.1 c41
        refine lv_aload_n hx hb dX8_readPerson_54 rfl (lv_at hl 1 rfl) ?_
        refine va_callv (va_runV (As := []) (rest := []) ⟨hx, hb, hml, hown, htb⟩ (kcX8_step l D c q ev hev σ40  _ hw) (tb_CW htb kX8_step tb_1370 tb_1372 tb_43 ⟨Nat.le_of_ble_eq_true rfl, Nat.le_of_ble_eq_true rfl⟩) (wd_preV (wd := mw c q) (k := 0) hev hK hP hD hE hS (mw_0 c q σ40) rfl) rfl rfl hl.1 rfl (lv_room (Nat.le_of_ble_eq_true rfl)) dX8_readPerson_55 ⟨Nat.zero_le _, Nat.zero_le _⟩) hS (fun q _ h => h) (fun q h => h) (fun σ43 t H1 locs1 ht hvm hw hB hz1 hk1 hS => ?_)
        have hP : va_P D vwCl (mw c q σ43) H1 := ht ▸ hB
        have hD : va_D (wdA 31 q) (mw c q σ43) := mw_D hD0
        refine lv_aload_n hx hb dX8_readPerson_58 rfl (lv_at hl 1 rfl) ?_
        refine va_get (D := D) (ci := 8) (C := RX8) (T := TX8) (N := 57) hx hb htb inX8 hown hK hP 0 (mw_0 c q σ43) rfl 2 (by decide) (htb _ tb_1183) (fun _ h9 => h9) rfl dX8_readPerson_59 ?_
        refine lv_iconst (v := (1 : Int32)) hx hb dX8_readPerson_62 (by decide) ?_
        refine va_iald hx hb hK hP 2 1 (mw_2 c q σ43) rfl (by unfold vp_in; decide) dX8_readPerson_63 ?_
        refine lv_topi (fun v44 ev44 => ?_)
        have hw := hw v44 ev44
        refine lv_istore_n (lv' := [(2, .int v44), (1, .int r39), (0, .ref (q 0))]) hx hb dX8_readPerson_64 rfl hl (by decide) rfl (fun ls hl => ?_)
        refine lv_aload_n hx hb dX8_readPerson_65 rfl (lv_at hl 2 rfl) ?_
        refine va_get (D := D) (ci := 8) (C := RX8) (T := TX8) (N := 57) hx hb htb inX8 hown hK hP 0 (mw_0 c q σ43) rfl 7 (by decide) (htb _ tb_1188) (fun _ h9 => h9) rfl dX8_readPerson_66 ?_
        refine lv_bipush (v := (8 : Int32)) hx hb dX8_readPerson_69 (by decide) ?_
        refine lv_iload_n hx hb dX8_readPerson_71 rfl (lv_at hl 0 rfl) ?_
        refine lv_iadd hx hb dX8_readPerson_72 ?_
        refine lv_iload_n hx hb dX8_readPerson_73 rfl (lv_at hl 1 rfl) ?_
        refine va_iast hx hb hK hP hD hS 7 6 (mw_7 c q σ43) rfl hw.1 dX8_readPerson_74 (fun H locs hP hD hS => ?_)
        have hw := hw.2
        have hP : va_P D vwCl (mw c q (hsA σ43 7 (upd (σ43.2.1 7) ((8 : Int32) + v44).toNatClampNeg r39))) H := hP
        obtain ⟨σ45, eσ45⟩ : ∃ z : hsS, z = hsA σ43 7 (upd (σ43.2.1 7) ((8 : Int32) + v44).toNatClampNeg r39) := ⟨_, rfl⟩
        rw [← eσ45] at hP
        have hD : va_D (wdA 31 q) (mw c q σ45) := mw_D hD0
        have hw := hw σ45 eσ45
        refine lv_aload_n hx hb dX8_readPerson_75 rfl (lv_at hl 2 rfl) ?_
        refine va_get (D := D) (ci := 8) (C := RX8) (T := TX8) (N := 57) hx hb htb inX8 hown hK hP 0 (mw_0 c q σ45) rfl 11 (by decide) (htb _ tb_1192) (fun _ h9 => h9) rfl dX8_readPerson_76 ?_
        refine lv_bipush (v := (8 : Int32)) hx hb dX8_readPerson_79 (by decide) ?_
        refine lv_iload_n hx hb dX8_readPerson_81 rfl (lv_at hl 0 rfl) ?_
        refine lv_iadd hx hb dX8_readPerson_82 ?_
        refine lv_aload_n hx hb dX8_readPerson_83 rfl (lv_at hl 2 rfl) ?_
        refine va_ldcS hx hb hown ((hZ s s.heap hE).2.2.2 ("StrikeHallModel", 202, "likes", 3) (by decide)) dX8_readPerson_84 ?_
        refine va_calli (va_runV (As := [.ref (adK 3)]) (rest := [.int ((8 : Int32) + v44), .ref (q 11)]) ⟨hx, hb, hml, hown, htb⟩ (kcX8_is_s l D c q ev hev adK adV hZ σ45 3 (by decide) _ hw) (tb_CW htb kX8_is tb_1390 tb_1392 tb_46 ⟨Nat.le_of_ble_eq_true rfl, Nat.le_of_ble_eq_true rfl⟩) (wd_preV (wd := mw c q) (k := 0) hev hK hP hD hE hS (mw_0 c q σ45) rfl) rfl rfl hl.1 rfl (lv_room (Nat.le_of_ble_eq_true rfl)) dX8_readPerson_86 ⟨Nat.zero_le _, Nat.zero_le _⟩) hS (fun q _ h => h) (fun q h => h) (fun r46 σ47 t H1 locs1 ht hvm hw hB hz1 hk1 hS => ?_)
        have hP : va_P D vwCl (mw c q σ47) H1 := ht ▸ hB
        have hD : va_D (wdA 31 q) (mw c q σ47) := mw_D hD0
        refine va_zast hx hb hK hP hD hS 11 10 (mw_11 c q σ47) rfl hw.1 dX8_readPerson_89 (fun H locs hP hD hS => ?_)
        have hw := hw.2
        have hP : va_P D vwCl (mw c q (hsA σ47 11 (upd (σ47.2.1 11) ((8 : Int32) + v44).toNatClampNeg (vp_nar .boolean r46)))) H := hP
        obtain ⟨σ48, eσ48⟩ : ∃ z : hsS, z = hsA σ47 11 (upd (σ47.2.1 11) ((8 : Int32) + v44).toNatClampNeg (vp_nar .boolean r46)) := ⟨_, rfl⟩
        rw [← eσ48] at hP
        have hD : va_D (wdA 31 q) (mw c q σ48) := mw_D hD0
        have hw := hw σ48 eσ48
        refine lv_iconst (v := (0 : Int32)) hx hb dX8_readPerson_90 (by decide) ?_
        refine lv_istore_n (lv' := [(3, .int (0 : Int32)), (2, .int v44), (1, .int r39), (0, .ref (q 0))]) hx hb dX8_readPerson_91 rfl hl (by decide) rfl (fun ls hl => ?_)
        obtain ⟨n49, hw⟩ := hw
        refine L92 _ r39 v44 n49 (0 : Int32) σ48 _ _ _ hw ?_ hP hS (lv_sub hl [3, 2, 1, 0] rfl)
        intro v50 σ51 H locs ls hw hP hS hl
        have hD : va_D (wdA 31 q) (mw c q σ51) := mw_D hD0
        refine lv_aload_n hx hb dX8_readPerson_119 rfl (lv_at hl 0 rfl) ?_
        refine va_get (D := D) (ci := 8) (C := RX8) (T := TX8) (N := 57) hx hb htb inX8 hown hK hP 0 (mw_0 c q σ51) rfl 11 (by decide) (htb _ tb_1192) (fun _ h9 => h9) rfl dX8_readPerson_120 ?_
        refine lv_bipush (v := (8 : Int32)) hx hb dX8_readPerson_123 (by decide) ?_
        refine lv_iload_n hx hb dX8_readPerson_125 rfl (lv_at hl 2 rfl) ?_
        refine lv_iadd hx hb dX8_readPerson_126 ?_
        refine va_zald hx hb hK hP 11 10 (mw_11 c q σ51) rfl hw.1 dX8_readPerson_127 ?_
        have hw := hw.2
        refine lv_if_eq (tgt := 140) hx hb dX8_readPerson_128 (by decide) (fun c52 => ?_) (fun c52 => ?_)
        · have hw := hw.1 c52
          refine lv_aload_n hx hb dX8_readPerson_140 rfl (lv_at hl 0 rfl) ?_
          refine va_get (D := D) (ci := 8) (C := RX8) (T := TX8) (N := 57) hx hb htb inX8 hown hK hP 0 (mw_0 c q σ51) rfl 21 (by decide) (htb _ tb_1202) (fun _ h9 => h9) rfl dX8_readPerson_141 ?_
          refine lv_if_ne (tgt := 157) hx hb dX8_readPerson_144 (by decide) (fun c53 => ?_) (fun c53 => ?_)
          · have hw := hw.2 c53
            exact W.vret hx hb hr (fun t ht hW => ⟨⟨σ51, rfl, hw, by unfold wdB; rw [ht]; exact hP⟩, hS.F ht⟩) hS.2.2 dX8_readPerson_157
          · have hw := hw.1 c53
            refine lv_aload_n hx hb dX8_readPerson_147 rfl (lv_at hl 0 rfl) ?_
            refine va_get (D := D) (ci := 8) (C := RX8) (T := TX8) (N := 57) hx hb htb inX8 hown hK hP 0 (mw_0 c q σ51) rfl 2 (by decide) (htb _ tb_1183) (fun _ h9 => h9) rfl dX8_readPerson_148 ?_
            refine lv_iconst (v := (1 : Int32)) hx hb dX8_readPerson_151 (by decide) ?_
            refine lv_dup2_11 hx hb dX8_readPerson_152 rfl rfl ?_
            refine va_iald hx hb hK hP 2 1 (mw_2 c q σ51) rfl (by unfold vp_in; decide) dX8_readPerson_153 ?_
            refine lv_iconst (v := (1 : Int32)) hx hb dX8_readPerson_154 (by decide) ?_
            refine lv_iadd hx hb dX8_readPerson_155 ?_
            refine va_iast hx hb hK hP hD hS 2 1 (mw_2 c q σ51) rfl (by unfold vp_in; decide) dX8_readPerson_156 (fun H locs hP hD hS => ?_)
            have hP : va_P D vwCl (mw c q (hsA σ51 2 (upd (σ51.2.1 2) (1 : Int32).toNatClampNeg ((σ51.2.1 2 (1 : Int32).toNatClampNeg) + (1 : Int32))))) H := hP
            obtain ⟨σ54, eσ54⟩ : ∃ z : hsS, z = hsA σ51 2 (upd (σ51.2.1 2) (1 : Int32).toNatClampNeg ((σ51.2.1 2 (1 : Int32).toNatClampNeg) + (1 : Int32))) := ⟨_, rfl⟩
            rw [← eσ54] at hP
            have hD : va_D (wdA 31 q) (mw c q σ54) := mw_D hD0
            have hw := hw σ54 eσ54
            exact W.vret hx hb hr (fun t ht hW => ⟨⟨σ54, rfl, hw, by unfold wdB; rw [ht]; exact hP⟩, hS.F ht⟩) hS.2.2 dX8_readPerson_157
        · have hw := hw.2 c52
          refine lv_aload_n hx hb dX8_readPerson_131 rfl (lv_at hl 0 rfl) ?_
          refine va_callv (va_runV (As := []) (rest := []) ⟨hx, hb, hml, hown, htb⟩ (kcX8_step l D c q ev hev σ51  _ hw) (tb_CW htb kX8_step tb_1370 tb_1372 tb_43 ⟨Nat.le_of_ble_eq_true rfl, Nat.le_of_ble_eq_true rfl⟩) (wd_preV (wd := mw c q) (k := 0) hev hK hP hD hE hS (mw_0 c q σ51) rfl) rfl rfl hl.1 rfl (lv_room (Nat.le_of_ble_eq_true rfl)) dX8_readPerson_132 ⟨Nat.zero_le _, Nat.zero_le _⟩) hS (fun q _ h => h) (fun q h => h) (fun σ56 t H1 locs1 ht hvm hw hB hz1 hk1 hS => ?_)
          have hP : va_P D vwCl (mw c q σ56) H1 := ht ▸ hB
          have hD : va_D (wdA 31 q) (mw c q σ56) := mw_D hD0
          refine lv_aload_n hx hb dX8_readPerson_135 rfl (lv_at hl 0 rfl) ?_
          refine lv_iload_n hx hb dX8_readPerson_136 rfl (lv_at hl 2 rfl) ?_
          refine va_callv (va_runV (As := [.int v44]) (rest := []) ⟨hx, hb, hml, hown, htb⟩ (kcX8_readLikes l D c q ev hev adK adV hZ σ56 v44 _ hw) (tb_CW htb kX8_readLikes tb_1419 tb_1421 tb_52 ⟨Nat.le_of_ble_eq_true rfl, Nat.le_of_ble_eq_true rfl⟩) (wd_preV (wd := mw c q) (k := 0) hev hK hP hD hE hS (mw_0 c q σ56) rfl) rfl rfl hl.1 rfl (lv_room (Nat.le_of_ble_eq_true rfl)) dX8_readPerson_137 ⟨Nat.zero_le _, Nat.zero_le _⟩) hS (fun q _ h => h) (fun q h => h) (fun σ58 t H1 locs1 ht hvm hw hB hz1 hk1 hS => ?_)
          have hP : va_P D vwCl (mw c q σ58) H1 := ht ▸ hB
          have hD : va_D (wdA 31 q) (mw c q σ58) := mw_D hD0
          refine lv_aload_n hx hb dX8_readPerson_140 rfl (lv_at hl 0 rfl) ?_
          refine va_get (D := D) (ci := 8) (C := RX8) (T := TX8) (N := 57) hx hb htb inX8 hown hK hP 0 (mw_0 c q σ58) rfl 21 (by decide) (htb _ tb_1202) (fun _ h9 => h9) rfl dX8_readPerson_141 ?_
          refine lv_if_ne (tgt := 157) hx hb dX8_readPerson_144 (by decide) (fun c59 => ?_) (fun c59 => ?_)
          · have hw := hw.2 c59
            exact W.vret hx hb hr (fun t ht hW => ⟨⟨σ58, rfl, hw, by unfold wdB; rw [ht]; exact hP⟩, hS.F ht⟩) hS.2.2 dX8_readPerson_157
          · have hw := hw.1 c59
            refine lv_aload_n hx hb dX8_readPerson_147 rfl (lv_at hl 0 rfl) ?_
            refine va_get (D := D) (ci := 8) (C := RX8) (T := TX8) (N := 57) hx hb htb inX8 hown hK hP 0 (mw_0 c q σ58) rfl 2 (by decide) (htb _ tb_1183) (fun _ h9 => h9) rfl dX8_readPerson_148 ?_
            refine lv_iconst (v := (1 : Int32)) hx hb dX8_readPerson_151 (by decide) ?_
            refine lv_dup2_11 hx hb dX8_readPerson_152 rfl rfl ?_
            refine va_iald hx hb hK hP 2 1 (mw_2 c q σ58) rfl (by unfold vp_in; decide) dX8_readPerson_153 ?_
            refine lv_iconst (v := (1 : Int32)) hx hb dX8_readPerson_154 (by decide) ?_
            refine lv_iadd hx hb dX8_readPerson_155 ?_
            refine va_iast hx hb hK hP hD hS 2 1 (mw_2 c q σ58) rfl (by unfold vp_in; decide) dX8_readPerson_156 (fun H locs hP hD hS => ?_)
            have hP : va_P D vwCl (mw c q (hsA σ58 2 (upd (σ58.2.1 2) (1 : Int32).toNatClampNeg ((σ58.2.1 2 (1 : Int32).toNatClampNeg) + (1 : Int32))))) H := hP
            obtain ⟨σ60, eσ60⟩ : ∃ z : hsS, z = hsA σ58 2 (upd (σ58.2.1 2) (1 : Int32).toNatClampNeg ((σ58.2.1 2 (1 : Int32).toNatClampNeg) + (1 : Int32))) := ⟨_, rfl⟩
            rw [← eσ60] at hP
            have hD : va_D (wdA 31 q) (mw c q σ60) := mw_D hD0
            have hw := hw σ60 eσ60
            exact W.vret hx hb hr (fun t ht hW => ⟨⟨σ60, rfl, hw, by unfold wdB; rw [ht]; exact hP⟩, hS.F ht⟩) hS.2.2 dX8_readPerson_157
      · have hw := hw.2 c41
        exact W.vret hx hb hr (fun t ht hW => ⟨⟨σ40, rfl, hw, by unfold wdB; rw [ht]; exact hP⟩, hS.F ht⟩) hS.2.2 dX8_readPerson_53
    · have hw := hw.2 c34
      exact W.vret hx hb hr (fun t ht hW => ⟨⟨σ, rfl, hw, by unfold wdB; rw [ht]; exact hP⟩, hS.F ht⟩) hS.2.2 dX8_readPerson_23
  · have hw := hw.1 c1
    refine lv_aload_n hx hb dX8_readPerson_11 rfl (lv_at hl 0 rfl) ?_
    refine lv_iconst (v := (2 : Int32)) hx hb dX8_readPerson_12 (by decide) ?_
    refine va_callv (va_runV (As := [.int (2 : Int32)]) (rest := []) ⟨hx, hb, hml, hown, htb⟩ (kcX8_wrong l D c q ev hev σ (2 : Int32) _ hw) (tb_CW htb kX8_wrong tb_1396 tb_1398 tb_47 ⟨Nat.le_of_ble_eq_true rfl, Nat.le_of_ble_eq_true rfl⟩) (wd_preV (wd := mw c q) (k := 0) hev hK hP hD hE hS (mw_0 c q σ) rfl) rfl rfl hl.1 rfl (lv_room (Nat.le_of_ble_eq_true rfl)) dX8_readPerson_13 ⟨Nat.zero_le _, Nat.zero_le _⟩) hS (fun q _ h => h) (fun q h => h) (fun σ3 t H1 locs1 ht hvm hw hB hz1 hk1 hS => ?_)
    have hP : va_P D vwCl (mw c q σ3) H1 := ht ▸ hB
    have hD : va_D (wdA 31 q) (mw c q σ3) := mw_D hD0
    refine lv_aload_n hx hb dX8_readPerson_16 rfl (lv_at hl 0 rfl) ?_
    refine va_get (D := D) (ci := 8) (C := RX8) (T := TX8) (N := 57) hx hb htb inX8 hown hK hP 0 (mw_0 c q σ3) rfl 21 (by decide) (htb _ tb_1202) (fun _ h9 => h9) rfl dX8_readPerson_17 ?_
    refine lv_if_eq (tgt := 24) hx hb dX8_readPerson_20 (by decide) (fun c4 => ?_) (fun c4 => ?_)
    · have hw := hw.1 c4
      refine lv_aload_n hx hb dX8_readPerson_24 rfl (lv_at hl 0 rfl) ?_
      refine va_callv (va_runV (As := []) (rest := []) ⟨hx, hb, hml, hown, htb⟩ (kcX8_step l D c q ev hev σ3  _ hw) (tb_CW htb kX8_step tb_1370 tb_1372 tb_43 ⟨Nat.le_of_ble_eq_true rfl, Nat.le_of_ble_eq_true rfl⟩) (wd_preV (wd := mw c q) (k := 0) hev hK hP hD hE hS (mw_0 c q σ3) rfl) rfl rfl hl.1 rfl (lv_room (Nat.le_of_ble_eq_true rfl)) dX8_readPerson_25 ⟨Nat.zero_le _, Nat.zero_le _⟩) hS (fun q _ h => h) (fun q h => h) (fun σ6 t H1 locs1 ht hvm hw hB hz1 hk1 hS => ?_)
      have hP : va_P D vwCl (mw c q σ6) H1 := ht ▸ hB
      have hD : va_D (wdA 31 q) (mw c q σ6) := mw_D hD0
      refine lv_aload_n hx hb dX8_readPerson_28 rfl (lv_at hl 0 rfl) ?_
      refine va_ldcS hx hb hown ((hZ s s.heap hE).2.2.2 ("StrikeHallModel", 197, "weight", 2) (by decide)) dX8_readPerson_29 ?_
      refine va_callv (va_runV (As := [.ref (adK 2)]) (rest := []) ⟨hx, hb, hml, hown, htb⟩ (kcX8_word_s l D c q ev hev adK adV hZ σ6 2 (by decide) _ hw) (tb_CW htb kX8_word tb_1386 tb_1388 tb_45 ⟨Nat.le_of_ble_eq_true rfl, Nat.le_of_ble_eq_true rfl⟩) (wd_preV (wd := mw c q) (k := 0) hev hK hP hD hE hS (mw_0 c q σ6) rfl) rfl rfl hl.1 rfl (lv_room (Nat.le_of_ble_eq_true rfl)) dX8_readPerson_31 ⟨Nat.zero_le _, Nat.zero_le _⟩) hS (fun q _ h => h) (fun q h => h) (fun σ8 t H1 locs1 ht hvm hw hB hz1 hk1 hS => ?_)
      have hP : va_P D vwCl (mw c q σ8) H1 := ht ▸ hB
      have hD : va_D (wdA 31 q) (mw c q σ8) := mw_D hD0
      refine lv_aload_n hx hb dX8_readPerson_34 rfl (lv_at hl 0 rfl) ?_
      refine lv_iconst (v := (1 : Int32)) hx hb dX8_readPerson_35 (by decide) ?_
      refine lv_bipush (v := (99 : Int32)) hx hb dX8_readPerson_36 (by decide) ?_
      refine lv_sipush (v := (1000 : Int32)) hx hb dX8_readPerson_38 (by decide) ?_
      refine lv_iconst (v := (0 : Int32)) hx hb dX8_readPerson_41 (by decide) ?_
      refine va_calli (va_runV (As := [.int (1 : Int32), .int (99 : Int32), .int (1000 : Int32), .int (0 : Int32)]) (rest := []) ⟨hx, hb, hml, hown, htb⟩ (kcX8_readNumber l D c q ev hev σ8 (1 : Int32) (99 : Int32) (1000 : Int32) (0 : Int32) _ hw) (tb_CW htb kX8_readNumber tb_1400 tb_1402 tb_48 ⟨Nat.le_of_ble_eq_true rfl, Nat.le_of_ble_eq_true rfl⟩) (wd_preV (wd := mw c q) (k := 0) hev hK hP hD hE hS (mw_0 c q σ8) rfl) rfl rfl hl.1 rfl (lv_room (Nat.le_of_ble_eq_true rfl)) dX8_readPerson_42 ⟨Nat.zero_le _, Nat.zero_le _⟩) hS (fun q _ h => h) (fun q h => h) (fun r9 σ10 t H1 locs1 ht hvm hw hB hz1 hk1 hS => ?_)
      have hP : va_P D vwCl (mw c q σ10) H1 := ht ▸ hB
      have hD : va_D (wdA 31 q) (mw c q σ10) := mw_D hD0
      refine lv_istore_n (lv' := [(1, .int r9), (0, .ref (q 0))]) hx hb dX8_readPerson_45 rfl hl (by decide) rfl (fun ls hl => ?_)
      refine lv_aload_n hx hb dX8_readPerson_46 rfl (lv_at hl 1 rfl) ?_
      refine va_get (D := D) (ci := 8) (C := RX8) (T := TX8) (N := 57) hx hb htb inX8 hown hK hP 0 (mw_0 c q σ10) rfl 21 (by decide) (htb _ tb_1202) (fun _ h9 => h9) rfl dX8_readPerson_47 ?_
      refine lv_if_eq (tgt := 54) hx hb dX8_readPerson_50 (by decide) (fun c11 => ?_) (fun c11 => ?_)
      · have hw := hw.1 c11
        refine lv_aload_n hx hb dX8_readPerson_54 rfl (lv_at hl 1 rfl) ?_
        refine va_callv (va_runV (As := []) (rest := []) ⟨hx, hb, hml, hown, htb⟩ (kcX8_step l D c q ev hev σ10  _ hw) (tb_CW htb kX8_step tb_1370 tb_1372 tb_43 ⟨Nat.le_of_ble_eq_true rfl, Nat.le_of_ble_eq_true rfl⟩) (wd_preV (wd := mw c q) (k := 0) hev hK hP hD hE hS (mw_0 c q σ10) rfl) rfl rfl hl.1 rfl (lv_room (Nat.le_of_ble_eq_true rfl)) dX8_readPerson_55 ⟨Nat.zero_le _, Nat.zero_le _⟩) hS (fun q _ h => h) (fun q h => h) (fun σ13 t H1 locs1 ht hvm hw hB hz1 hk1 hS => ?_)
        have hP : va_P D vwCl (mw c q σ13) H1 := ht ▸ hB
        have hD : va_D (wdA 31 q) (mw c q σ13) := mw_D hD0
        refine lv_aload_n hx hb dX8_readPerson_58 rfl (lv_at hl 1 rfl) ?_
        refine va_get (D := D) (ci := 8) (C := RX8) (T := TX8) (N := 57) hx hb htb inX8 hown hK hP 0 (mw_0 c q σ13) rfl 2 (by decide) (htb _ tb_1183) (fun _ h9 => h9) rfl dX8_readPerson_59 ?_
        refine lv_iconst (v := (1 : Int32)) hx hb dX8_readPerson_62 (by decide) ?_
        refine va_iald hx hb hK hP 2 1 (mw_2 c q σ13) rfl (by unfold vp_in; decide) dX8_readPerson_63 ?_
        refine lv_topi (fun v14 ev14 => ?_)
        have hw := hw v14 ev14
        refine lv_istore_n (lv' := [(2, .int v14), (1, .int r9), (0, .ref (q 0))]) hx hb dX8_readPerson_64 rfl hl (by decide) rfl (fun ls hl => ?_)
        refine lv_aload_n hx hb dX8_readPerson_65 rfl (lv_at hl 2 rfl) ?_
        refine va_get (D := D) (ci := 8) (C := RX8) (T := TX8) (N := 57) hx hb htb inX8 hown hK hP 0 (mw_0 c q σ13) rfl 7 (by decide) (htb _ tb_1188) (fun _ h9 => h9) rfl dX8_readPerson_66 ?_
        refine lv_bipush (v := (8 : Int32)) hx hb dX8_readPerson_69 (by decide) ?_
        refine lv_iload_n hx hb dX8_readPerson_71 rfl (lv_at hl 0 rfl) ?_
        refine lv_iadd hx hb dX8_readPerson_72 ?_
        refine lv_iload_n hx hb dX8_readPerson_73 rfl (lv_at hl 1 rfl) ?_
        refine va_iast hx hb hK hP hD hS 7 6 (mw_7 c q σ13) rfl hw.1 dX8_readPerson_74 (fun H locs hP hD hS => ?_)
        have hw := hw.2
        have hP : va_P D vwCl (mw c q (hsA σ13 7 (upd (σ13.2.1 7) ((8 : Int32) + v14).toNatClampNeg r9))) H := hP
        obtain ⟨σ15, eσ15⟩ : ∃ z : hsS, z = hsA σ13 7 (upd (σ13.2.1 7) ((8 : Int32) + v14).toNatClampNeg r9) := ⟨_, rfl⟩
        rw [← eσ15] at hP
        have hD : va_D (wdA 31 q) (mw c q σ15) := mw_D hD0
        have hw := hw σ15 eσ15
        refine lv_aload_n hx hb dX8_readPerson_75 rfl (lv_at hl 2 rfl) ?_
        refine va_get (D := D) (ci := 8) (C := RX8) (T := TX8) (N := 57) hx hb htb inX8 hown hK hP 0 (mw_0 c q σ15) rfl 11 (by decide) (htb _ tb_1192) (fun _ h9 => h9) rfl dX8_readPerson_76 ?_
        refine lv_bipush (v := (8 : Int32)) hx hb dX8_readPerson_79 (by decide) ?_
        refine lv_iload_n hx hb dX8_readPerson_81 rfl (lv_at hl 0 rfl) ?_
        refine lv_iadd hx hb dX8_readPerson_82 ?_
        refine lv_aload_n hx hb dX8_readPerson_83 rfl (lv_at hl 2 rfl) ?_
        refine va_ldcS hx hb hown ((hZ s s.heap hE).2.2.2 ("StrikeHallModel", 202, "likes", 3) (by decide)) dX8_readPerson_84 ?_
        refine va_calli (va_runV (As := [.ref (adK 3)]) (rest := [.int ((8 : Int32) + v14), .ref (q 11)]) ⟨hx, hb, hml, hown, htb⟩ (kcX8_is_s l D c q ev hev adK adV hZ σ15 3 (by decide) _ hw) (tb_CW htb kX8_is tb_1390 tb_1392 tb_46 ⟨Nat.le_of_ble_eq_true rfl, Nat.le_of_ble_eq_true rfl⟩) (wd_preV (wd := mw c q) (k := 0) hev hK hP hD hE hS (mw_0 c q σ15) rfl) rfl rfl hl.1 rfl (lv_room (Nat.le_of_ble_eq_true rfl)) dX8_readPerson_86 ⟨Nat.zero_le _, Nat.zero_le _⟩) hS (fun q _ h => h) (fun q h => h) (fun r16 σ17 t H1 locs1 ht hvm hw hB hz1 hk1 hS => ?_)
        have hP : va_P D vwCl (mw c q σ17) H1 := ht ▸ hB
        have hD : va_D (wdA 31 q) (mw c q σ17) := mw_D hD0
        refine va_zast hx hb hK hP hD hS 11 10 (mw_11 c q σ17) rfl hw.1 dX8_readPerson_89 (fun H locs hP hD hS => ?_)
        have hw := hw.2
        have hP : va_P D vwCl (mw c q (hsA σ17 11 (upd (σ17.2.1 11) ((8 : Int32) + v14).toNatClampNeg (vp_nar .boolean r16)))) H := hP
        obtain ⟨σ18, eσ18⟩ : ∃ z : hsS, z = hsA σ17 11 (upd (σ17.2.1 11) ((8 : Int32) + v14).toNatClampNeg (vp_nar .boolean r16)) := ⟨_, rfl⟩
        rw [← eσ18] at hP
        have hD : va_D (wdA 31 q) (mw c q σ18) := mw_D hD0
        have hw := hw σ18 eσ18
        refine lv_iconst (v := (0 : Int32)) hx hb dX8_readPerson_90 (by decide) ?_
        refine lv_istore_n (lv' := [(3, .int (0 : Int32)), (2, .int v14), (1, .int r9), (0, .ref (q 0))]) hx hb dX8_readPerson_91 rfl hl (by decide) rfl (fun ls hl => ?_)
        obtain ⟨n22, hw⟩ := hw
        refine L92 _ r9 v14 n22 (0 : Int32) σ18 _ _ _ hw ?_ hP hS (lv_sub hl [3, 2, 1, 0] rfl)
        intro v23 σ24 H locs ls hw hP hS hl
        have hD : va_D (wdA 31 q) (mw c q σ24) := mw_D hD0
        refine lv_aload_n hx hb dX8_readPerson_119 rfl (lv_at hl 0 rfl) ?_
        refine va_get (D := D) (ci := 8) (C := RX8) (T := TX8) (N := 57) hx hb htb inX8 hown hK hP 0 (mw_0 c q σ24) rfl 11 (by decide) (htb _ tb_1192) (fun _ h9 => h9) rfl dX8_readPerson_120 ?_
        refine lv_bipush (v := (8 : Int32)) hx hb dX8_readPerson_123 (by decide) ?_
        refine lv_iload_n hx hb dX8_readPerson_125 rfl (lv_at hl 2 rfl) ?_
        refine lv_iadd hx hb dX8_readPerson_126 ?_
        refine va_zald hx hb hK hP 11 10 (mw_11 c q σ24) rfl hw.1 dX8_readPerson_127 ?_
        have hw := hw.2
        refine lv_if_eq (tgt := 140) hx hb dX8_readPerson_128 (by decide) (fun c25 => ?_) (fun c25 => ?_)
        · have hw := hw.1 c25
          refine lv_aload_n hx hb dX8_readPerson_140 rfl (lv_at hl 0 rfl) ?_
          refine va_get (D := D) (ci := 8) (C := RX8) (T := TX8) (N := 57) hx hb htb inX8 hown hK hP 0 (mw_0 c q σ24) rfl 21 (by decide) (htb _ tb_1202) (fun _ h9 => h9) rfl dX8_readPerson_141 ?_
          refine lv_if_ne (tgt := 157) hx hb dX8_readPerson_144 (by decide) (fun c26 => ?_) (fun c26 => ?_)
          · have hw := hw.2 c26
            exact W.vret hx hb hr (fun t ht hW => ⟨⟨σ24, rfl, hw, by unfold wdB; rw [ht]; exact hP⟩, hS.F ht⟩) hS.2.2 dX8_readPerson_157
          · have hw := hw.1 c26
            refine lv_aload_n hx hb dX8_readPerson_147 rfl (lv_at hl 0 rfl) ?_
            refine va_get (D := D) (ci := 8) (C := RX8) (T := TX8) (N := 57) hx hb htb inX8 hown hK hP 0 (mw_0 c q σ24) rfl 2 (by decide) (htb _ tb_1183) (fun _ h9 => h9) rfl dX8_readPerson_148 ?_
            refine lv_iconst (v := (1 : Int32)) hx hb dX8_readPerson_151 (by decide) ?_
            refine lv_dup2_11 hx hb dX8_readPerson_152 rfl rfl ?_
            refine va_iald hx hb hK hP 2 1 (mw_2 c q σ24) rfl (by unfold vp_in; decide) dX8_readPerson_153 ?_
            refine lv_iconst (v := (1 : Int32)) hx hb dX8_readPerson_154 (by decide) ?_
            refine lv_iadd hx hb dX8_readPerson_155 ?_
            refine va_iast hx hb hK hP hD hS 2 1 (mw_2 c q σ24) rfl (by unfold vp_in; decide) dX8_readPerson_156 (fun H locs hP hD hS => ?_)
            have hP : va_P D vwCl (mw c q (hsA σ24 2 (upd (σ24.2.1 2) (1 : Int32).toNatClampNeg ((σ24.2.1 2 (1 : Int32).toNatClampNeg) + (1 : Int32))))) H := hP
            obtain ⟨σ27, eσ27⟩ : ∃ z : hsS, z = hsA σ24 2 (upd (σ24.2.1 2) (1 : Int32).toNatClampNeg ((σ24.2.1 2 (1 : Int32).toNatClampNeg) + (1 : Int32))) := ⟨_, rfl⟩
            rw [← eσ27] at hP
            have hD : va_D (wdA 31 q) (mw c q σ27) := mw_D hD0
            have hw := hw σ27 eσ27
            exact W.vret hx hb hr (fun t ht hW => ⟨⟨σ27, rfl, hw, by unfold wdB; rw [ht]; exact hP⟩, hS.F ht⟩) hS.2.2 dX8_readPerson_157
        · have hw := hw.2 c25
          refine lv_aload_n hx hb dX8_readPerson_131 rfl (lv_at hl 0 rfl) ?_
          refine va_callv (va_runV (As := []) (rest := []) ⟨hx, hb, hml, hown, htb⟩ (kcX8_step l D c q ev hev σ24  _ hw) (tb_CW htb kX8_step tb_1370 tb_1372 tb_43 ⟨Nat.le_of_ble_eq_true rfl, Nat.le_of_ble_eq_true rfl⟩) (wd_preV (wd := mw c q) (k := 0) hev hK hP hD hE hS (mw_0 c q σ24) rfl) rfl rfl hl.1 rfl (lv_room (Nat.le_of_ble_eq_true rfl)) dX8_readPerson_132 ⟨Nat.zero_le _, Nat.zero_le _⟩) hS (fun q _ h => h) (fun q h => h) (fun σ29 t H1 locs1 ht hvm hw hB hz1 hk1 hS => ?_)
          have hP : va_P D vwCl (mw c q σ29) H1 := ht ▸ hB
          have hD : va_D (wdA 31 q) (mw c q σ29) := mw_D hD0
          refine lv_aload_n hx hb dX8_readPerson_135 rfl (lv_at hl 0 rfl) ?_
          refine lv_iload_n hx hb dX8_readPerson_136 rfl (lv_at hl 2 rfl) ?_
          refine va_callv (va_runV (As := [.int v14]) (rest := []) ⟨hx, hb, hml, hown, htb⟩ (kcX8_readLikes l D c q ev hev adK adV hZ σ29 v14 _ hw) (tb_CW htb kX8_readLikes tb_1419 tb_1421 tb_52 ⟨Nat.le_of_ble_eq_true rfl, Nat.le_of_ble_eq_true rfl⟩) (wd_preV (wd := mw c q) (k := 0) hev hK hP hD hE hS (mw_0 c q σ29) rfl) rfl rfl hl.1 rfl (lv_room (Nat.le_of_ble_eq_true rfl)) dX8_readPerson_137 ⟨Nat.zero_le _, Nat.zero_le _⟩) hS (fun q _ h => h) (fun q h => h) (fun σ31 t H1 locs1 ht hvm hw hB hz1 hk1 hS => ?_)
          have hP : va_P D vwCl (mw c q σ31) H1 := ht ▸ hB
          have hD : va_D (wdA 31 q) (mw c q σ31) := mw_D hD0
          refine lv_aload_n hx hb dX8_readPerson_140 rfl (lv_at hl 0 rfl) ?_
          refine va_get (D := D) (ci := 8) (C := RX8) (T := TX8) (N := 57) hx hb htb inX8 hown hK hP 0 (mw_0 c q σ31) rfl 21 (by decide) (htb _ tb_1202) (fun _ h9 => h9) rfl dX8_readPerson_141 ?_
          refine lv_if_ne (tgt := 157) hx hb dX8_readPerson_144 (by decide) (fun c32 => ?_) (fun c32 => ?_)
          · have hw := hw.2 c32
            exact W.vret hx hb hr (fun t ht hW => ⟨⟨σ31, rfl, hw, by unfold wdB; rw [ht]; exact hP⟩, hS.F ht⟩) hS.2.2 dX8_readPerson_157
          · have hw := hw.1 c32
            refine lv_aload_n hx hb dX8_readPerson_147 rfl (lv_at hl 0 rfl) ?_
            refine va_get (D := D) (ci := 8) (C := RX8) (T := TX8) (N := 57) hx hb htb inX8 hown hK hP 0 (mw_0 c q σ31) rfl 2 (by decide) (htb _ tb_1183) (fun _ h9 => h9) rfl dX8_readPerson_148 ?_
            refine lv_iconst (v := (1 : Int32)) hx hb dX8_readPerson_151 (by decide) ?_
            refine lv_dup2_11 hx hb dX8_readPerson_152 rfl rfl ?_
            refine va_iald hx hb hK hP 2 1 (mw_2 c q σ31) rfl (by unfold vp_in; decide) dX8_readPerson_153 ?_
            refine lv_iconst (v := (1 : Int32)) hx hb dX8_readPerson_154 (by decide) ?_
            refine lv_iadd hx hb dX8_readPerson_155 ?_
            refine va_iast hx hb hK hP hD hS 2 1 (mw_2 c q σ31) rfl (by unfold vp_in; decide) dX8_readPerson_156 (fun H locs hP hD hS => ?_)
            have hP : va_P D vwCl (mw c q (hsA σ31 2 (upd (σ31.2.1 2) (1 : Int32).toNatClampNeg ((σ31.2.1 2 (1 : Int32).toNatClampNeg) + (1 : Int32))))) H := hP
            obtain ⟨σ33, eσ33⟩ : ∃ z : hsS, z = hsA σ31 2 (upd (σ31.2.1 2) (1 : Int32).toNatClampNeg ((σ31.2.1 2 (1 : Int32).toNatClampNeg) + (1 : Int32))) := ⟨_, rfl⟩
            rw [← eσ33] at hP
            have hD : va_D (wdA 31 q) (mw c q σ33) := mw_D hD0
            have hw := hw σ33 eσ33
            exact W.vret hx hb hr (fun t ht hW => ⟨⟨σ33, rfl, hw, by unfold wdB; rw [ht]; exact hP⟩, hS.F ht⟩) hS.2.2 dX8_readPerson_157
      · have hw := hw.2 c11
        exact W.vret hx hb hr (fun t ht hW => ⟨⟨σ10, rfl, hw, by unfold wdB; rw [ht]; exact hP⟩, hS.F ht⟩) hS.2.2 dX8_readPerson_53
    · have hw := hw.2 c4
      exact W.vret hx hb hr (fun t ht hW => ⟨⟨σ3, rfl, hw, by unfold wdB; rw [ht]; exact hP⟩, hS.F ht⟩) hS.2.2 dX8_readPerson_23
def wX8_readLaw_L106 (K140 : hsS → Prop) (K177 : hsS → Prop) (post : hsS → Prop) : Nat → hsS → Prop
  | 0, _ => False
  | n + 1, σ => (((σ.2.1 5 (1 : Int32).toNatClampNeg) = (8 : Int32) → wX8_readNumber (0 : Int32) (9 : Int32) (1000 : Int32) (1 : Int32) (fun r19 σ20 => (((σ20.1 21) = (0 : Int32) → vp_in ((8 : Int32) + (σ20.2.1 5 (1 : Int32).toNatClampNeg)) 16 ∧ ∀ σ22 : hsS, σ22 = hsA σ20 9 (upd (σ20.2.1 9) ((8 : Int32) + (σ20.2.1 5 (1 : Int32).toNatClampNeg)).toNatClampNeg r19) → ∀ σ23 : hsS, σ23 = hsA σ22 5 (upd (σ22.2.1 5) (1 : Int32).toNatClampNeg ((σ22.2.1 5 (1 : Int32).toNatClampNeg) + (1 : Int32))) → wX8_step  (fun σ25 => wX8_isNumber  (fun r26 σ27 => ((r26 = (0 : Int32) → K177 σ27) ∧ (¬ r26 = (0 : Int32) → wX8_readLaw_L106  K140 K177 post n σ27))) σ25) σ23) ∧ (¬ (σ20.1 21) = (0 : Int32) → K140 σ20))) σ) ∧ (¬ (σ.2.1 5 (1 : Int32).toNatClampNeg) = (8 : Int32) → wX8_readNumber (0 : Int32) (9 : Int32) (1000 : Int32) (0 : Int32) (fun r29 σ30 => (((σ30.1 21) = (0 : Int32) → vp_in ((8 : Int32) + (σ30.2.1 5 (1 : Int32).toNatClampNeg)) 16 ∧ ∀ σ32 : hsS, σ32 = hsA σ30 9 (upd (σ30.2.1 9) ((8 : Int32) + (σ30.2.1 5 (1 : Int32).toNatClampNeg)).toNatClampNeg r29) → ∀ σ33 : hsS, σ33 = hsA σ32 5 (upd (σ32.2.1 5) (1 : Int32).toNatClampNeg ((σ32.2.1 5 (1 : Int32).toNatClampNeg) + (1 : Int32))) → wX8_step  (fun σ35 => wX8_isNumber  (fun r36 σ37 => ((r36 = (0 : Int32) → K177 σ37) ∧ (¬ r36 = (0 : Int32) → wX8_readLaw_L106  K140 K177 post n σ37))) σ35) σ33) ∧ (¬ (σ30.1 21) = (0 : Int32) → K140 σ30))) σ))
def wX8_readLaw  (post : hsS → Prop) (σ : hsS) : Prop := wX8_step  (fun σ2 => wX8_is 7 (fun r3 σ4 => ((r3 = (0 : Int32) → wX8_is 8 (fun r6 σ7 => ((r6 = (0 : Int32) → wX8_is 9 (fun r9 σ10 => ((r9 = (0 : Int32) → wX8_wrong (1 : Int32) (fun σ13 => post σ13) σ10) ∧ (¬ r9 = (0 : Int32) → wX8_step  (fun σ15 => ∀ σ16 : hsS, σ16 = hsA σ15 3 (upd (σ15.2.1 3) (1 : Int32).toNatClampNeg (2 : Int32)) → ∀ σ17 : hsS, σ17 = hsA σ16 5 (upd (σ16.2.1 5) (1 : Int32).toNatClampNeg (0 : Int32)) → ∃ n39, wX8_readLaw_L106  (fun σ40 => post σ40) (fun σ41 => post σ41) post n39  σ17) σ10))) σ7) ∧ (¬ r6 = (0 : Int32) → wX8_step  (fun σ43 => wX8_readNumber (1 : Int32) (999 : Int32) (1000 : Int32) (0 : Int32) (fun r44 σ45 => ∀ σ46 : hsS, σ46 = hsA σ45 4 (upd (σ45.2.1 4) (1 : Int32).toNatClampNeg r44) → ∀ σ47 : hsS, σ47 = hsA σ46 3 (upd (σ46.2.1 3) (1 : Int32).toNatClampNeg (1 : Int32)) → (((σ47.1 21) = (0 : Int32) → wX8_step  (fun σ50 => post σ50) σ47) ∧ (¬ (σ47.1 21) = (0 : Int32) → post σ47))) σ43) σ7))) σ4) ∧ (¬ r3 = (0 : Int32) → wX8_step  (fun σ52 => ∀ σ53 : hsS, σ53 = hsA σ52 3 (upd (σ52.2.1 3) (1 : Int32).toNatClampNeg (0 : Int32)) → post σ53) σ4))) σ2) σ
set_option maxHeartbeats 4000000 in
set_option maxRecDepth 100000 in
theorem kcX8_readLaw (l : Launch) (D : va_G) (c : Nat → ClassId) (q : Nat → Nat) (ev : State → Heap → Prop) (hev : evOK (wdA 31 q) ev) (adK adV : Nat → Nat) (hZ : ∀ (U : State) (H : Heap), ev U H → evS (wdA 31 q) adK adV U H) (σ : hsS)  (post : hsS → Prop) (hw : wX8_readLaw  post σ) : Met l yX8_readLaw (Cond.code yX8_readLaw cX8_readLaw 2 none :: tb_L) { frames := 5, cells := 0, slots := 0, locals := 108 } (wdPc D (mw c q) (mwT c) (wdA 31 q) ev σ [.ref (q 0)]) (va_Qv post (wdB D (mw c q)) (wdA 31 q)) 0 0 (wdA 31 q) := by
  refine Met.ofW (cc := cX8_readLaw) (maxL := 2) (ret := none) (by decide) rfl ?_
  intro p e s m args below meth c₀ s₁ Bd hml hv
  obtain ⟨rfl, hP, hK, hD0, hE⟩ := hv
  have hx := Bd.exec
  have hb := Bd.bytes
  have hr := Bd.returns
  have hts := atoms_spec (ws := Cond.code yX8_readLaw cX8_readLaw 2 none :: tb_L) Bd.pre
  have htb : ∀ w ∈ tb_L, w.before [.ref (q 0)].toArray s = true := fun w h => hts w (List.mem_cons_of_mem _ h)
  have hown : s.vm.findClass RX8 = some m.cls := findClass_of_methodNamed Bd.named
  have hlocks := Bd.notSynchronized
  have hS : va_S (wdA 31 q) s.heap s.heap [] := va_S.rf
  have hD := hD0
  have L106 : ∀ (K140 : hsS → Prop) (K177 : hsS → Prop) (n : Nat) (σ : hsS) (H : Heap) (locs : List Loc) (ls : Array Slot), wX8_readLaw_L106  K140 K177 post n σ → (∀ (σ : hsS) (H : Heap) (locs : List Loc) (ls : Array Slot), K140 σ → va_P D vwCl (mw c q σ) H → va_S (wdA 31 q) s.heap H locs → lv_has ls 2 [(0, .ref (q 0))] → W p l e (headSpec (Cond.code yX8_readLaw cX8_readLaw 2 none :: tb_L) { frames := 5, cells := 0, slots := 0, locals := 108 }).room s m [.ref (q 0)].toArray below meth c₀ H locs 0 0 (MQ below (va_Qv post (wdB D (mw c q)) (wdA 31 q)) [.ref (q 0)].toArray s 0 0 (wdA 31 q)) (F0 m 140 ls [])) → (∀ (σ : hsS) (H : Heap) (locs : List Loc) (ls : Array Slot), K177 σ → va_P D vwCl (mw c q σ) H → va_S (wdA 31 q) s.heap H locs → lv_has ls 2 [(0, .ref (q 0))] → W p l e (headSpec (Cond.code yX8_readLaw cX8_readLaw 2 none :: tb_L) { frames := 5, cells := 0, slots := 0, locals := 108 }).room s m [.ref (q 0)].toArray below meth c₀ H locs 0 0 (MQ below (va_Qv post (wdB D (mw c q)) (wdA 31 q)) [.ref (q 0)].toArray s 0 0 (wdA 31 q)) (F0 m 177 ls [])) → va_P D vwCl (mw c q σ) H → va_S (wdA 31 q) s.heap H locs → lv_has ls 2 [(0, .ref (q 0))] → W p l e (headSpec (Cond.code yX8_readLaw cX8_readLaw 2 none :: tb_L) { frames := 5, cells := 0, slots := 0, locals := 108 }).room s m [.ref (q 0)].toArray below meth c₀ H locs 0 0 (MQ below (va_Qv post (wdB D (mw c q)) (wdA 31 q)) [.ref (q 0)].toArray s 0 0 (wdA 31 q)) (F0 m 106 ls []) := by
    intro K140 K177 n
    induction n with
    | zero =>
      intro σ H locs ls hw hk140 hk177 hP hS hl
      exact (show False from hw).elim
    | succ n ih =>
      intro σ H locs ls hw hk140 hk177 hP hS hl
      rw [wX8_readLaw_L106] at hw
      have hD : va_D (wdA 31 q) (mw c q σ) := mw_D hD0
      refine lv_aload_n hx hb dX8_readLaw_106 rfl (lv_at hl 0 rfl) ?_
      refine lv_iconst (v := (0 : Int32)) hx hb dX8_readLaw_107 (by decide) ?_
      refine lv_bipush (v := (9 : Int32)) hx hb dX8_readLaw_108 (by decide) ?_
      refine lv_sipush (v := (1000 : Int32)) hx hb dX8_readLaw_110 (by decide) ?_
      refine lv_aload_n hx hb dX8_readLaw_113 rfl (lv_at hl 0 rfl) ?_
      refine va_get (D := D) (ci := 8) (C := RX8) (T := TX8) (N := 57) hx hb htb inX8 hown hK hP 0 (mw_0 c q σ) rfl 5 (by decide) (htb _ tb_1186) (fun _ h9 => h9) rfl dX8_readLaw_114 ?_
      refine lv_iconst (v := (1 : Int32)) hx hb dX8_readLaw_117 (by decide) ?_
      refine va_iald hx hb hK hP 5 4 (mw_5 c q σ) rfl (by unfold vp_in; decide) dX8_readLaw_118 ?_
      refine lv_bipush (v := (8 : Int32)) hx hb dX8_readLaw_119 (by decide) ?_
      refine lv_icmp_ne (tgt := 128) hx hb dX8_readLaw_121 (by decide) (fun c18 => ?_) (fun c18 => ?_)
      · have hw := hw.2 c18
        refine lv_iconst (v := (0 : Int32)) hx hb dX8_readLaw_128 (by decide) ?_
        refine va_calli (va_runV (As := [.int (0 : Int32), .int (9 : Int32), .int (1000 : Int32), .int (0 : Int32)]) (rest := []) ⟨hx, hb, hml, hown, htb⟩ (kcX8_readNumber l D c q ev hev σ (0 : Int32) (9 : Int32) (1000 : Int32) (0 : Int32) _ hw) (tb_CW htb kX8_readNumber tb_1400 tb_1402 tb_48 ⟨Nat.le_of_ble_eq_true rfl, Nat.le_of_ble_eq_true rfl⟩) (wd_preV (wd := mw c q) (k := 0) hev hK hP hD hE hS (mw_0 c q σ) rfl) rfl rfl hl.1 rfl (lv_room (Nat.le_of_ble_eq_true rfl)) dX8_readLaw_129 ⟨Nat.zero_le _, Nat.zero_le _⟩) hS (fun q _ h => h) (fun q h => h) (fun r29 σ30 t H1 locs1 ht hvm hw hB hz1 hk1 hS => ?_)
        have hP : va_P D vwCl (mw c q σ30) H1 := ht ▸ hB
        have hD : va_D (wdA 31 q) (mw c q σ30) := mw_D hD0
        refine lv_istore_n (lv' := [(1, .int r29), (0, .ref (q 0))]) hx hb dX8_readLaw_132 rfl hl (by decide) rfl (fun ls hl => ?_)
        refine lv_aload_n hx hb dX8_readLaw_133 rfl (lv_at hl 1 rfl) ?_
        refine va_get (D := D) (ci := 8) (C := RX8) (T := TX8) (N := 57) hx hb htb inX8 hown hK hP 0 (mw_0 c q σ30) rfl 21 (by decide) (htb _ tb_1202) (fun _ h9 => h9) rfl dX8_readLaw_134 ?_
        refine lv_if_eq (tgt := 141) hx hb dX8_readLaw_137 (by decide) (fun c31 => ?_) (fun c31 => ?_)
        · have hw := hw.1 c31
          refine lv_aload_n hx hb dX8_readLaw_141 rfl (lv_at hl 1 rfl) ?_
          refine va_get (D := D) (ci := 8) (C := RX8) (T := TX8) (N := 57) hx hb htb inX8 hown hK hP 0 (mw_0 c q σ30) rfl 9 (by decide) (htb _ tb_1190) (fun _ h9 => h9) rfl dX8_readLaw_142 ?_
          refine lv_bipush (v := (8 : Int32)) hx hb dX8_readLaw_145 (by decide) ?_
          refine lv_aload_n hx hb dX8_readLaw_147 rfl (lv_at hl 1 rfl) ?_
          refine va_get (D := D) (ci := 8) (C := RX8) (T := TX8) (N := 57) hx hb htb inX8 hown hK hP 0 (mw_0 c q σ30) rfl 5 (by decide) (htb _ tb_1186) (fun _ h9 => h9) rfl dX8_readLaw_148 ?_
          refine lv_iconst (v := (1 : Int32)) hx hb dX8_readLaw_151 (by decide) ?_
          refine va_iald hx hb hK hP 5 4 (mw_5 c q σ30) rfl (by unfold vp_in; decide) dX8_readLaw_152 ?_
          refine lv_iadd hx hb dX8_readLaw_153 ?_
          refine lv_iload_n hx hb dX8_readLaw_154 rfl (lv_at hl 0 rfl) ?_
          refine va_iast hx hb hK hP hD hS 9 8 (mw_9 c q σ30) rfl hw.1 dX8_readLaw_155 (fun H locs hP hD hS => ?_)
          have hw := hw.2
          have hP : va_P D vwCl (mw c q (hsA σ30 9 (upd (σ30.2.1 9) ((8 : Int32) + (σ30.2.1 5 (1 : Int32).toNatClampNeg)).toNatClampNeg r29))) H := hP
          obtain ⟨σ32, eσ32⟩ : ∃ z : hsS, z = hsA σ30 9 (upd (σ30.2.1 9) ((8 : Int32) + (σ30.2.1 5 (1 : Int32).toNatClampNeg)).toNatClampNeg r29) := ⟨_, rfl⟩
          rw [← eσ32] at hP
          have hD : va_D (wdA 31 q) (mw c q σ32) := mw_D hD0
          have hw := hw σ32 eσ32
          refine lv_aload_n hx hb dX8_readLaw_156 rfl (lv_at hl 1 rfl) ?_
          refine va_get (D := D) (ci := 8) (C := RX8) (T := TX8) (N := 57) hx hb htb inX8 hown hK hP 0 (mw_0 c q σ32) rfl 5 (by decide) (htb _ tb_1186) (fun _ h9 => h9) rfl dX8_readLaw_157 ?_
          refine lv_iconst (v := (1 : Int32)) hx hb dX8_readLaw_160 (by decide) ?_
          refine lv_dup2_11 hx hb dX8_readLaw_161 rfl rfl ?_
          refine va_iald hx hb hK hP 5 4 (mw_5 c q σ32) rfl (by unfold vp_in; decide) dX8_readLaw_162 ?_
          refine lv_iconst (v := (1 : Int32)) hx hb dX8_readLaw_163 (by decide) ?_
          refine lv_iadd hx hb dX8_readLaw_164 ?_
          refine va_iast hx hb hK hP hD hS 5 4 (mw_5 c q σ32) rfl (by unfold vp_in; decide) dX8_readLaw_165 (fun H locs hP hD hS => ?_)
          have hP : va_P D vwCl (mw c q (hsA σ32 5 (upd (σ32.2.1 5) (1 : Int32).toNatClampNeg ((σ32.2.1 5 (1 : Int32).toNatClampNeg) + (1 : Int32))))) H := hP
          obtain ⟨σ33, eσ33⟩ : ∃ z : hsS, z = hsA σ32 5 (upd (σ32.2.1 5) (1 : Int32).toNatClampNeg ((σ32.2.1 5 (1 : Int32).toNatClampNeg) + (1 : Int32))) := ⟨_, rfl⟩
          rw [← eσ33] at hP
          have hD : va_D (wdA 31 q) (mw c q σ33) := mw_D hD0
          have hw := hw σ33 eσ33
          refine lv_aload_n hx hb dX8_readLaw_166 rfl (lv_at hl 1 rfl) ?_
          refine va_callv (va_runV (As := []) (rest := []) ⟨hx, hb, hml, hown, htb⟩ (kcX8_step l D c q ev hev σ33  _ hw) (tb_CW htb kX8_step tb_1370 tb_1372 tb_43 ⟨Nat.le_of_ble_eq_true rfl, Nat.le_of_ble_eq_true rfl⟩) (wd_preV (wd := mw c q) (k := 0) hev hK hP hD hE hS (mw_0 c q σ33) rfl) rfl rfl hl.1 rfl (lv_room (Nat.le_of_ble_eq_true rfl)) dX8_readLaw_167 ⟨Nat.zero_le _, Nat.zero_le _⟩) hS (fun q _ h => h) (fun q h => h) (fun σ35 t H1 locs1 ht hvm hw hB hz1 hk1 hS => ?_)
          have hP : va_P D vwCl (mw c q σ35) H1 := ht ▸ hB
          have hD : va_D (wdA 31 q) (mw c q σ35) := mw_D hD0
          refine lv_aload_n hx hb dX8_readLaw_170 rfl (lv_at hl 1 rfl) ?_
          refine va_calli (va_runV (As := []) (rest := []) ⟨hx, hb, hml, hown, htb⟩ (kcX8_isNumber l D c q ev hev σ35  _ hw) (tb_CW htb kX8_isNumber tb_1433 tb_1435 tb_54 ⟨Nat.le_of_ble_eq_true rfl, Nat.le_of_ble_eq_true rfl⟩) (wd_preV (wd := mw c q) (k := 0) hev hK hP hD hE hS (mw_0 c q σ35) rfl) rfl rfl hl.1 rfl (lv_room (Nat.le_of_ble_eq_true rfl)) dX8_readLaw_171 ⟨Nat.zero_le _, Nat.zero_le _⟩) hS (fun q _ h => h) (fun q h => h) (fun r36 σ37 t H1 locs1 ht hvm hw hB hz1 hk1 hS => ?_)
          have hP : va_P D vwCl (mw c q σ37) H1 := ht ▸ hB
          have hD : va_D (wdA 31 q) (mw c q σ37) := mw_D hD0
          refine lv_if_ne (tgt := 106) hx hb dX8_readLaw_174 (by decide) (fun c38 => ?_) (fun c38 => ?_)
          · have hw := hw.2 c38
            exact ih  σ37 _ _ _ hw hk140 hk177 hP hS (lv_sub hl [1] rfl)
          · have hw := hw.1 c38
            exact hk177  σ37 _ _ _ hw hP hS (lv_sub hl [1] rfl)
        · have hw := hw.2 c31
          exact hk140  σ30 _ _ _ hw hP hS (lv_sub hl [1] rfl)
      · have hw := hw.1 c18
        refine lv_iconst (v := (1 : Int32)) hx hb dX8_readLaw_124 (by decide) ?_
        refine lv_goto (tgt := 129) hx hb dX8_readLaw_125 (by decide) ?_
        refine va_calli (va_runV (As := [.int (0 : Int32), .int (9 : Int32), .int (1000 : Int32), .int (1 : Int32)]) (rest := []) ⟨hx, hb, hml, hown, htb⟩ (kcX8_readNumber l D c q ev hev σ (0 : Int32) (9 : Int32) (1000 : Int32) (1 : Int32) _ hw) (tb_CW htb kX8_readNumber tb_1400 tb_1402 tb_48 ⟨Nat.le_of_ble_eq_true rfl, Nat.le_of_ble_eq_true rfl⟩) (wd_preV (wd := mw c q) (k := 0) hev hK hP hD hE hS (mw_0 c q σ) rfl) rfl rfl hl.1 rfl (lv_room (Nat.le_of_ble_eq_true rfl)) dX8_readLaw_129 ⟨Nat.zero_le _, Nat.zero_le _⟩) hS (fun q _ h => h) (fun q h => h) (fun r19 σ20 t H1 locs1 ht hvm hw hB hz1 hk1 hS => ?_)
        have hP : va_P D vwCl (mw c q σ20) H1 := ht ▸ hB
        have hD : va_D (wdA 31 q) (mw c q σ20) := mw_D hD0
        refine lv_istore_n (lv' := [(1, .int r19), (0, .ref (q 0))]) hx hb dX8_readLaw_132 rfl hl (by decide) rfl (fun ls hl => ?_)
        refine lv_aload_n hx hb dX8_readLaw_133 rfl (lv_at hl 1 rfl) ?_
        refine va_get (D := D) (ci := 8) (C := RX8) (T := TX8) (N := 57) hx hb htb inX8 hown hK hP 0 (mw_0 c q σ20) rfl 21 (by decide) (htb _ tb_1202) (fun _ h9 => h9) rfl dX8_readLaw_134 ?_
        refine lv_if_eq (tgt := 141) hx hb dX8_readLaw_137 (by decide) (fun c21 => ?_) (fun c21 => ?_)
        · have hw := hw.1 c21
          refine lv_aload_n hx hb dX8_readLaw_141 rfl (lv_at hl 1 rfl) ?_
          refine va_get (D := D) (ci := 8) (C := RX8) (T := TX8) (N := 57) hx hb htb inX8 hown hK hP 0 (mw_0 c q σ20) rfl 9 (by decide) (htb _ tb_1190) (fun _ h9 => h9) rfl dX8_readLaw_142 ?_
          refine lv_bipush (v := (8 : Int32)) hx hb dX8_readLaw_145 (by decide) ?_
          refine lv_aload_n hx hb dX8_readLaw_147 rfl (lv_at hl 1 rfl) ?_
          refine va_get (D := D) (ci := 8) (C := RX8) (T := TX8) (N := 57) hx hb htb inX8 hown hK hP 0 (mw_0 c q σ20) rfl 5 (by decide) (htb _ tb_1186) (fun _ h9 => h9) rfl dX8_readLaw_148 ?_
          refine lv_iconst (v := (1 : Int32)) hx hb dX8_readLaw_151 (by decide) ?_
          refine va_iald hx hb hK hP 5 4 (mw_5 c q σ20) rfl (by unfold vp_in; decide) dX8_readLaw_152 ?_
          refine lv_iadd hx hb dX8_readLaw_153 ?_
          refine lv_iload_n hx hb dX8_readLaw_154 rfl (lv_at hl 0 rfl) ?_
          refine va_iast hx hb hK hP hD hS 9 8 (mw_9 c q σ20) rfl hw.1 dX8_readLaw_155 (fun H locs hP hD hS => ?_)
          have hw := hw.2
          have hP : va_P D vwCl (mw c q (hsA σ20 9 (upd (σ20.2.1 9) ((8 : Int32) + (σ20.2.1 5 (1 : Int32).toNatClampNeg)).toNatClampNeg r19))) H := hP
          obtain ⟨σ22, eσ22⟩ : ∃ z : hsS, z = hsA σ20 9 (upd (σ20.2.1 9) ((8 : Int32) + (σ20.2.1 5 (1 : Int32).toNatClampNeg)).toNatClampNeg r19) := ⟨_, rfl⟩
          rw [← eσ22] at hP
          have hD : va_D (wdA 31 q) (mw c q σ22) := mw_D hD0
          have hw := hw σ22 eσ22
          refine lv_aload_n hx hb dX8_readLaw_156 rfl (lv_at hl 1 rfl) ?_
          refine va_get (D := D) (ci := 8) (C := RX8) (T := TX8) (N := 57) hx hb htb inX8 hown hK hP 0 (mw_0 c q σ22) rfl 5 (by decide) (htb _ tb_1186) (fun _ h9 => h9) rfl dX8_readLaw_157 ?_
          refine lv_iconst (v := (1 : Int32)) hx hb dX8_readLaw_160 (by decide) ?_
          refine lv_dup2_11 hx hb dX8_readLaw_161 rfl rfl ?_
          refine va_iald hx hb hK hP 5 4 (mw_5 c q σ22) rfl (by unfold vp_in; decide) dX8_readLaw_162 ?_
          refine lv_iconst (v := (1 : Int32)) hx hb dX8_readLaw_163 (by decide) ?_
          refine lv_iadd hx hb dX8_readLaw_164 ?_
          refine va_iast hx hb hK hP hD hS 5 4 (mw_5 c q σ22) rfl (by unfold vp_in; decide) dX8_readLaw_165 (fun H locs hP hD hS => ?_)
          have hP : va_P D vwCl (mw c q (hsA σ22 5 (upd (σ22.2.1 5) (1 : Int32).toNatClampNeg ((σ22.2.1 5 (1 : Int32).toNatClampNeg) + (1 : Int32))))) H := hP
          obtain ⟨σ23, eσ23⟩ : ∃ z : hsS, z = hsA σ22 5 (upd (σ22.2.1 5) (1 : Int32).toNatClampNeg ((σ22.2.1 5 (1 : Int32).toNatClampNeg) + (1 : Int32))) := ⟨_, rfl⟩
          rw [← eσ23] at hP
          have hD : va_D (wdA 31 q) (mw c q σ23) := mw_D hD0
          have hw := hw σ23 eσ23
          refine lv_aload_n hx hb dX8_readLaw_166 rfl (lv_at hl 1 rfl) ?_
          refine va_callv (va_runV (As := []) (rest := []) ⟨hx, hb, hml, hown, htb⟩ (kcX8_step l D c q ev hev σ23  _ hw) (tb_CW htb kX8_step tb_1370 tb_1372 tb_43 ⟨Nat.le_of_ble_eq_true rfl, Nat.le_of_ble_eq_true rfl⟩) (wd_preV (wd := mw c q) (k := 0) hev hK hP hD hE hS (mw_0 c q σ23) rfl) rfl rfl hl.1 rfl (lv_room (Nat.le_of_ble_eq_true rfl)) dX8_readLaw_167 ⟨Nat.zero_le _, Nat.zero_le _⟩) hS (fun q _ h => h) (fun q h => h) (fun σ25 t H1 locs1 ht hvm hw hB hz1 hk1 hS => ?_)
          have hP : va_P D vwCl (mw c q σ25) H1 := ht ▸ hB
          have hD : va_D (wdA 31 q) (mw c q σ25) := mw_D hD0
          refine lv_aload_n hx hb dX8_readLaw_170 rfl (lv_at hl 1 rfl) ?_
          refine va_calli (va_runV (As := []) (rest := []) ⟨hx, hb, hml, hown, htb⟩ (kcX8_isNumber l D c q ev hev σ25  _ hw) (tb_CW htb kX8_isNumber tb_1433 tb_1435 tb_54 ⟨Nat.le_of_ble_eq_true rfl, Nat.le_of_ble_eq_true rfl⟩) (wd_preV (wd := mw c q) (k := 0) hev hK hP hD hE hS (mw_0 c q σ25) rfl) rfl rfl hl.1 rfl (lv_room (Nat.le_of_ble_eq_true rfl)) dX8_readLaw_171 ⟨Nat.zero_le _, Nat.zero_le _⟩) hS (fun q _ h => h) (fun q h => h) (fun r26 σ27 t H1 locs1 ht hvm hw hB hz1 hk1 hS => ?_)
          have hP : va_P D vwCl (mw c q σ27) H1 := ht ▸ hB
          have hD : va_D (wdA 31 q) (mw c q σ27) := mw_D hD0
          refine lv_if_ne (tgt := 106) hx hb dX8_readLaw_174 (by decide) (fun c28 => ?_) (fun c28 => ?_)
          · have hw := hw.2 c28
            exact ih  σ27 _ _ _ hw hk140 hk177 hP hS (lv_sub hl [1] rfl)
          · have hw := hw.1 c28
            exact hk177  σ27 _ _ _ hw hP hS (lv_sub hl [1] rfl)
        · have hw := hw.2 c21
          exact hk140  σ20 _ _ _ hw hP hS (lv_sub hl [1] rfl)
  have hl := lv_entry ([.ref (q 0)]) (n := 2) (Nat.le_of_ble_eq_true rfl)
  rw [lg_entry_eq]
  generalize (lg_sl ([.ref (q 0)]) ++ List.replicate (2 - (lg_sl ([.ref (q 0)])).length) Slot.unset).toArray = ls at hl ⊢
  have hl : lv_has ls 2 [(0, .ref (q 0))] := hl
  unfold wX8_readLaw at hw
  refine lv_aload_n hx hb dX8_readLaw_0 rfl (lv_at hl 0 rfl) ?_
  refine va_callv (va_runV (As := []) (rest := []) ⟨hx, hb, hml, hown, htb⟩ (kcX8_step l D c q ev hev σ  _ hw) (tb_CW htb kX8_step tb_1370 tb_1372 tb_43 ⟨Nat.le_of_ble_eq_true rfl, Nat.le_of_ble_eq_true rfl⟩) (wd_preV (wd := mw c q) (k := 0) hev hK hP hD hE hS (mw_0 c q σ) rfl) rfl rfl hl.1 rfl (lv_room (Nat.le_of_ble_eq_true rfl)) dX8_readLaw_1 ⟨Nat.zero_le _, Nat.zero_le _⟩) hS (fun q _ h => h) (fun q h => h) (fun σ2 t H1 locs1 ht hvm hw hB hz1 hk1 hS => ?_)
  have hP : va_P D vwCl (mw c q σ2) H1 := ht ▸ hB
  have hD : va_D (wdA 31 q) (mw c q σ2) := mw_D hD0
  refine lv_aload_n hx hb dX8_readLaw_4 rfl (lv_at hl 0 rfl) ?_
  refine va_ldcS hx hb hown ((hZ s s.heap hE).2.2.2 ("StrikeHallModel", 207, "parts", 7) (by decide)) dX8_readLaw_5 ?_
  refine va_calli (va_runV (As := [.ref (adK 7)]) (rest := []) ⟨hx, hb, hml, hown, htb⟩ (kcX8_is_s l D c q ev hev adK adV hZ σ2 7 (by decide) _ hw) (tb_CW htb kX8_is tb_1390 tb_1392 tb_46 ⟨Nat.le_of_ble_eq_true rfl, Nat.le_of_ble_eq_true rfl⟩) (wd_preV (wd := mw c q) (k := 0) hev hK hP hD hE hS (mw_0 c q σ2) rfl) rfl rfl hl.1 rfl (lv_room (Nat.le_of_ble_eq_true rfl)) dX8_readLaw_7 ⟨Nat.zero_le _, Nat.zero_le _⟩) hS (fun q _ h => h) (fun q h => h) (fun r3 σ4 t H1 locs1 ht hvm hw hB hz1 hk1 hS => ?_)
  have hP : va_P D vwCl (mw c q σ4) H1 := ht ▸ hB
  have hD : va_D (wdA 31 q) (mw c q σ4) := mw_D hD0
  refine lv_if_eq (tgt := 27) hx hb dX8_readLaw_10 (by decide) (fun c5 => ?_) (fun c5 => ?_)
  · have hw := hw.1 c5
    refine lv_aload_n hx hb dX8_readLaw_27 rfl (lv_at hl 0 rfl) ?_
    refine va_ldcS hx hb hown ((hZ s s.heap hE).2.2.2 ("StrikeHallModel", 209, "steps", 8) (by decide)) dX8_readLaw_28 ?_
    refine va_calli (va_runV (As := [.ref (adK 8)]) (rest := []) ⟨hx, hb, hml, hown, htb⟩ (kcX8_is_s l D c q ev hev adK adV hZ σ4 8 (by decide) _ hw) (tb_CW htb kX8_is tb_1390 tb_1392 tb_46 ⟨Nat.le_of_ble_eq_true rfl, Nat.le_of_ble_eq_true rfl⟩) (wd_preV (wd := mw c q) (k := 0) hev hK hP hD hE hS (mw_0 c q σ4) rfl) rfl rfl hl.1 rfl (lv_room (Nat.le_of_ble_eq_true rfl)) dX8_readLaw_30 ⟨Nat.zero_le _, Nat.zero_le _⟩) hS (fun q _ h => h) (fun q h => h) (fun r6 σ7 t H1 locs1 ht hvm hw hB hz1 hk1 hS => ?_)
    have hP : va_P D vwCl (mw c q σ7) H1 := ht ▸ hB
    have hD : va_D (wdA 31 q) (mw c q σ7) := mw_D hD0
    refine lv_if_eq (tgt := 79) hx hb dX8_readLaw_33 (by decide) (fun c8 => ?_) (fun c8 => ?_)
    · have hw := hw.1 c8
      refine lv_aload_n hx hb dX8_readLaw_79 rfl (lv_at hl 0 rfl) ?_
      refine va_ldcS hx hb hown ((hZ s s.heap hE).2.2.2 ("StrikeHallModel", 210, "told", 9) (by decide)) dX8_readLaw_80 ?_
      refine va_calli (va_runV (As := [.ref (adK 9)]) (rest := []) ⟨hx, hb, hml, hown, htb⟩ (kcX8_is_s l D c q ev hev adK adV hZ σ7 9 (by decide) _ hw) (tb_CW htb kX8_is tb_1390 tb_1392 tb_46 ⟨Nat.le_of_ble_eq_true rfl, Nat.le_of_ble_eq_true rfl⟩) (wd_preV (wd := mw c q) (k := 0) hev hK hP hD hE hS (mw_0 c q σ7) rfl) rfl rfl hl.1 rfl (lv_room (Nat.le_of_ble_eq_true rfl)) dX8_readLaw_82 ⟨Nat.zero_le _, Nat.zero_le _⟩) hS (fun q _ h => h) (fun q h => h) (fun r9 σ10 t H1 locs1 ht hvm hw hB hz1 hk1 hS => ?_)
      have hP : va_P D vwCl (mw c q σ10) H1 := ht ▸ hB
      have hD : va_D (wdA 31 q) (mw c q σ10) := mw_D hD0
      refine lv_if_eq (tgt := 180) hx hb dX8_readLaw_85 (by decide) (fun c11 => ?_) (fun c11 => ?_)
      · have hw := hw.1 c11
        refine lv_aload_n hx hb dX8_readLaw_180 rfl (lv_at hl 0 rfl) ?_
        refine lv_iconst (v := (1 : Int32)) hx hb dX8_readLaw_181 (by decide) ?_
        refine va_callv (va_runV (As := [.int (1 : Int32)]) (rest := []) ⟨hx, hb, hml, hown, htb⟩ (kcX8_wrong l D c q ev hev σ10 (1 : Int32) _ hw) (tb_CW htb kX8_wrong tb_1396 tb_1398 tb_47 ⟨Nat.le_of_ble_eq_true rfl, Nat.le_of_ble_eq_true rfl⟩) (wd_preV (wd := mw c q) (k := 0) hev hK hP hD hE hS (mw_0 c q σ10) rfl) rfl rfl hl.1 rfl (lv_room (Nat.le_of_ble_eq_true rfl)) dX8_readLaw_182 ⟨Nat.zero_le _, Nat.zero_le _⟩) hS (fun q _ h => h) (fun q h => h) (fun σ13 t H1 locs1 ht hvm hw hB hz1 hk1 hS => ?_)
        have hP : va_P D vwCl (mw c q σ13) H1 := ht ▸ hB
        have hD : va_D (wdA 31 q) (mw c q σ13) := mw_D hD0
        exact W.vret hx hb hr (fun t ht hW => ⟨⟨σ13, rfl, hw, by unfold wdB; rw [ht]; exact hP⟩, hS.F ht⟩) hS.2.2 dX8_readLaw_185
      · have hw := hw.2 c11
        refine lv_aload_n hx hb dX8_readLaw_88 rfl (lv_at hl 0 rfl) ?_
        refine va_callv (va_runV (As := []) (rest := []) ⟨hx, hb, hml, hown, htb⟩ (kcX8_step l D c q ev hev σ10  _ hw) (tb_CW htb kX8_step tb_1370 tb_1372 tb_43 ⟨Nat.le_of_ble_eq_true rfl, Nat.le_of_ble_eq_true rfl⟩) (wd_preV (wd := mw c q) (k := 0) hev hK hP hD hE hS (mw_0 c q σ10) rfl) rfl rfl hl.1 rfl (lv_room (Nat.le_of_ble_eq_true rfl)) dX8_readLaw_89 ⟨Nat.zero_le _, Nat.zero_le _⟩) hS (fun q _ h => h) (fun q h => h) (fun σ15 t H1 locs1 ht hvm hw hB hz1 hk1 hS => ?_)
        have hP : va_P D vwCl (mw c q σ15) H1 := ht ▸ hB
        have hD : va_D (wdA 31 q) (mw c q σ15) := mw_D hD0
        refine lv_aload_n hx hb dX8_readLaw_92 rfl (lv_at hl 0 rfl) ?_
        refine va_get (D := D) (ci := 8) (C := RX8) (T := TX8) (N := 57) hx hb htb inX8 hown hK hP 0 (mw_0 c q σ15) rfl 3 (by decide) (htb _ tb_1184) (fun _ h9 => h9) rfl dX8_readLaw_93 ?_
        refine lv_iconst (v := (1 : Int32)) hx hb dX8_readLaw_96 (by decide) ?_
        refine lv_iconst (v := (2 : Int32)) hx hb dX8_readLaw_97 (by decide) ?_
        refine va_iast hx hb hK hP hD hS 3 2 (mw_3 c q σ15) rfl (by unfold vp_in; decide) dX8_readLaw_98 (fun H locs hP hD hS => ?_)
        have hP : va_P D vwCl (mw c q (hsA σ15 3 (upd (σ15.2.1 3) (1 : Int32).toNatClampNeg (2 : Int32)))) H := hP
        obtain ⟨σ16, eσ16⟩ : ∃ z : hsS, z = hsA σ15 3 (upd (σ15.2.1 3) (1 : Int32).toNatClampNeg (2 : Int32)) := ⟨_, rfl⟩
        rw [← eσ16] at hP
        have hD : va_D (wdA 31 q) (mw c q σ16) := mw_D hD0
        have hw := hw σ16 eσ16
        refine lv_aload_n hx hb dX8_readLaw_99 rfl (lv_at hl 0 rfl) ?_
        refine va_get (D := D) (ci := 8) (C := RX8) (T := TX8) (N := 57) hx hb htb inX8 hown hK hP 0 (mw_0 c q σ16) rfl 5 (by decide) (htb _ tb_1186) (fun _ h9 => h9) rfl dX8_readLaw_100 ?_
        refine lv_iconst (v := (1 : Int32)) hx hb dX8_readLaw_103 (by decide) ?_
        refine lv_iconst (v := (0 : Int32)) hx hb dX8_readLaw_104 (by decide) ?_
        refine va_iast hx hb hK hP hD hS 5 4 (mw_5 c q σ16) rfl (by unfold vp_in; decide) dX8_readLaw_105 (fun H locs hP hD hS => ?_)
        have hP : va_P D vwCl (mw c q (hsA σ16 5 (upd (σ16.2.1 5) (1 : Int32).toNatClampNeg (0 : Int32)))) H := hP
        obtain ⟨σ17, eσ17⟩ : ∃ z : hsS, z = hsA σ16 5 (upd (σ16.2.1 5) (1 : Int32).toNatClampNeg (0 : Int32)) := ⟨_, rfl⟩
        rw [← eσ17] at hP
        have hD : va_D (wdA 31 q) (mw c q σ17) := mw_D hD0
        have hw := hw σ17 eσ17
        obtain ⟨n39, hw⟩ := hw
        refine L106 _ _ n39  σ17 _ _ _ hw ?_ ?_ hP hS (lv_sub hl [0] rfl)
        · intro σ40 H locs ls hw hP hS hl
          have hD : va_D (wdA 31 q) (mw c q σ40) := mw_D hD0
          exact W.vret hx hb hr (fun t ht hW => ⟨⟨σ40, rfl, hw, by unfold wdB; rw [ht]; exact hP⟩, hS.F ht⟩) hS.2.2 dX8_readLaw_140
        · intro σ41 H locs ls hw hP hS hl
          have hD : va_D (wdA 31 q) (mw c q σ41) := mw_D hD0
          refine lv_goto (tgt := 185) hx hb dX8_readLaw_177 (by decide) ?_
          exact W.vret hx hb hr (fun t ht hW => ⟨⟨σ41, rfl, hw, by unfold wdB; rw [ht]; exact hP⟩, hS.F ht⟩) hS.2.2 dX8_readLaw_185
    · have hw := hw.2 c8
      refine lv_aload_n hx hb dX8_readLaw_36 rfl (lv_at hl 0 rfl) ?_
      refine va_callv (va_runV (As := []) (rest := []) ⟨hx, hb, hml, hown, htb⟩ (kcX8_step l D c q ev hev σ7  _ hw) (tb_CW htb kX8_step tb_1370 tb_1372 tb_43 ⟨Nat.le_of_ble_eq_true rfl, Nat.le_of_ble_eq_true rfl⟩) (wd_preV (wd := mw c q) (k := 0) hev hK hP hD hE hS (mw_0 c q σ7) rfl) rfl rfl hl.1 rfl (lv_room (Nat.le_of_ble_eq_true rfl)) dX8_readLaw_37 ⟨Nat.zero_le _, Nat.zero_le _⟩) hS (fun q _ h => h) (fun q h => h) (fun σ43 t H1 locs1 ht hvm hw hB hz1 hk1 hS => ?_)
      have hP : va_P D vwCl (mw c q σ43) H1 := ht ▸ hB
      have hD : va_D (wdA 31 q) (mw c q σ43) := mw_D hD0
      refine lv_aload_n hx hb dX8_readLaw_40 rfl (lv_at hl 0 rfl) ?_
      refine va_get (D := D) (ci := 8) (C := RX8) (T := TX8) (N := 57) hx hb htb inX8 hown hK hP 0 (mw_0 c q σ43) rfl 4 (by decide) (htb _ tb_1185) (fun _ h9 => h9) rfl dX8_readLaw_41 ?_
      refine lv_iconst (v := (1 : Int32)) hx hb dX8_readLaw_44 (by decide) ?_
      refine lv_aload_n hx hb dX8_readLaw_45 rfl (lv_at hl 0 rfl) ?_
      refine lv_iconst (v := (1 : Int32)) hx hb dX8_readLaw_46 (by decide) ?_
      refine lv_sipush (v := (999 : Int32)) hx hb dX8_readLaw_47 (by decide) ?_
      refine lv_sipush (v := (1000 : Int32)) hx hb dX8_readLaw_50 (by decide) ?_
      refine lv_iconst (v := (0 : Int32)) hx hb dX8_readLaw_53 (by decide) ?_
      refine va_calli (va_runV (As := [.int (1 : Int32), .int (999 : Int32), .int (1000 : Int32), .int (0 : Int32)]) (rest := [.int (1 : Int32), .ref (q 4)]) ⟨hx, hb, hml, hown, htb⟩ (kcX8_readNumber l D c q ev hev σ43 (1 : Int32) (999 : Int32) (1000 : Int32) (0 : Int32) _ hw) (tb_CW htb kX8_readNumber tb_1400 tb_1402 tb_48 ⟨Nat.le_of_ble_eq_true rfl, Nat.le_of_ble_eq_true rfl⟩) (wd_preV (wd := mw c q) (k := 0) hev hK hP hD hE hS (mw_0 c q σ43) rfl) rfl rfl hl.1 rfl (lv_room (Nat.le_of_ble_eq_true rfl)) dX8_readLaw_54 ⟨Nat.zero_le _, Nat.zero_le _⟩) hS (fun q _ h => h) (fun q h => h) (fun r44 σ45 t H1 locs1 ht hvm hw hB hz1 hk1 hS => ?_)
      have hP : va_P D vwCl (mw c q σ45) H1 := ht ▸ hB
      have hD : va_D (wdA 31 q) (mw c q σ45) := mw_D hD0
      refine va_iast hx hb hK hP hD hS 4 3 (mw_4 c q σ45) rfl (by unfold vp_in; decide) dX8_readLaw_57 (fun H locs hP hD hS => ?_)
      have hP : va_P D vwCl (mw c q (hsA σ45 4 (upd (σ45.2.1 4) (1 : Int32).toNatClampNeg r44))) H := hP
      obtain ⟨σ46, eσ46⟩ : ∃ z : hsS, z = hsA σ45 4 (upd (σ45.2.1 4) (1 : Int32).toNatClampNeg r44) := ⟨_, rfl⟩
      rw [← eσ46] at hP
      have hD : va_D (wdA 31 q) (mw c q σ46) := mw_D hD0
      have hw := hw σ46 eσ46
      refine lv_aload_n hx hb dX8_readLaw_58 rfl (lv_at hl 0 rfl) ?_
      refine va_get (D := D) (ci := 8) (C := RX8) (T := TX8) (N := 57) hx hb htb inX8 hown hK hP 0 (mw_0 c q σ46) rfl 3 (by decide) (htb _ tb_1184) (fun _ h9 => h9) rfl dX8_readLaw_59 ?_
      refine lv_iconst (v := (1 : Int32)) hx hb dX8_readLaw_62 (by decide) ?_
      refine lv_iconst (v := (1 : Int32)) hx hb dX8_readLaw_63 (by decide) ?_
      refine va_iast hx hb hK hP hD hS 3 2 (mw_3 c q σ46) rfl (by unfold vp_in; decide) dX8_readLaw_64 (fun H locs hP hD hS => ?_)
      have hP : va_P D vwCl (mw c q (hsA σ46 3 (upd (σ46.2.1 3) (1 : Int32).toNatClampNeg (1 : Int32)))) H := hP
      obtain ⟨σ47, eσ47⟩ : ∃ z : hsS, z = hsA σ46 3 (upd (σ46.2.1 3) (1 : Int32).toNatClampNeg (1 : Int32)) := ⟨_, rfl⟩
      rw [← eσ47] at hP
      have hD : va_D (wdA 31 q) (mw c q σ47) := mw_D hD0
      have hw := hw σ47 eσ47
      refine lv_aload_n hx hb dX8_readLaw_65 rfl (lv_at hl 0 rfl) ?_
      refine va_get (D := D) (ci := 8) (C := RX8) (T := TX8) (N := 57) hx hb htb inX8 hown hK hP 0 (mw_0 c q σ47) rfl 21 (by decide) (htb _ tb_1202) (fun _ h9 => h9) rfl dX8_readLaw_66 ?_
      refine lv_if_ne (tgt := 185) hx hb dX8_readLaw_69 (by decide) (fun c48 => ?_) (fun c48 => ?_)
      · have hw := hw.2 c48
        exact W.vret hx hb hr (fun t ht hW => ⟨⟨σ47, rfl, hw, by unfold wdB; rw [ht]; exact hP⟩, hS.F ht⟩) hS.2.2 dX8_readLaw_185
      · have hw := hw.1 c48
        refine lv_aload_n hx hb dX8_readLaw_72 rfl (lv_at hl 0 rfl) ?_
        refine va_callv (va_runV (As := []) (rest := []) ⟨hx, hb, hml, hown, htb⟩ (kcX8_step l D c q ev hev σ47  _ hw) (tb_CW htb kX8_step tb_1370 tb_1372 tb_43 ⟨Nat.le_of_ble_eq_true rfl, Nat.le_of_ble_eq_true rfl⟩) (wd_preV (wd := mw c q) (k := 0) hev hK hP hD hE hS (mw_0 c q σ47) rfl) rfl rfl hl.1 rfl (lv_room (Nat.le_of_ble_eq_true rfl)) dX8_readLaw_73 ⟨Nat.zero_le _, Nat.zero_le _⟩) hS (fun q _ h => h) (fun q h => h) (fun σ50 t H1 locs1 ht hvm hw hB hz1 hk1 hS => ?_)
        have hP : va_P D vwCl (mw c q σ50) H1 := ht ▸ hB
        have hD : va_D (wdA 31 q) (mw c q σ50) := mw_D hD0
        refine lv_goto (tgt := 185) hx hb dX8_readLaw_76 (by decide) ?_
        exact W.vret hx hb hr (fun t ht hW => ⟨⟨σ50, rfl, hw, by unfold wdB; rw [ht]; exact hP⟩, hS.F ht⟩) hS.2.2 dX8_readLaw_185
  · have hw := hw.2 c5
    refine lv_aload_n hx hb dX8_readLaw_13 rfl (lv_at hl 0 rfl) ?_
    refine va_callv (va_runV (As := []) (rest := []) ⟨hx, hb, hml, hown, htb⟩ (kcX8_step l D c q ev hev σ4  _ hw) (tb_CW htb kX8_step tb_1370 tb_1372 tb_43 ⟨Nat.le_of_ble_eq_true rfl, Nat.le_of_ble_eq_true rfl⟩) (wd_preV (wd := mw c q) (k := 0) hev hK hP hD hE hS (mw_0 c q σ4) rfl) rfl rfl hl.1 rfl (lv_room (Nat.le_of_ble_eq_true rfl)) dX8_readLaw_14 ⟨Nat.zero_le _, Nat.zero_le _⟩) hS (fun q _ h => h) (fun q h => h) (fun σ52 t H1 locs1 ht hvm hw hB hz1 hk1 hS => ?_)
    have hP : va_P D vwCl (mw c q σ52) H1 := ht ▸ hB
    have hD : va_D (wdA 31 q) (mw c q σ52) := mw_D hD0
    refine lv_aload_n hx hb dX8_readLaw_17 rfl (lv_at hl 0 rfl) ?_
    refine va_get (D := D) (ci := 8) (C := RX8) (T := TX8) (N := 57) hx hb htb inX8 hown hK hP 0 (mw_0 c q σ52) rfl 3 (by decide) (htb _ tb_1184) (fun _ h9 => h9) rfl dX8_readLaw_18 ?_
    refine lv_iconst (v := (1 : Int32)) hx hb dX8_readLaw_21 (by decide) ?_
    refine lv_iconst (v := (0 : Int32)) hx hb dX8_readLaw_22 (by decide) ?_
    refine va_iast hx hb hK hP hD hS 3 2 (mw_3 c q σ52) rfl (by unfold vp_in; decide) dX8_readLaw_23 (fun H locs hP hD hS => ?_)
    have hP : va_P D vwCl (mw c q (hsA σ52 3 (upd (σ52.2.1 3) (1 : Int32).toNatClampNeg (0 : Int32)))) H := hP
    obtain ⟨σ53, eσ53⟩ : ∃ z : hsS, z = hsA σ52 3 (upd (σ52.2.1 3) (1 : Int32).toNatClampNeg (0 : Int32)) := ⟨_, rfl⟩
    rw [← eσ53] at hP
    have hD : va_D (wdA 31 q) (mw c q σ53) := mw_D hD0
    have hw := hw σ53 eσ53
    refine lv_goto (tgt := 185) hx hb dX8_readLaw_24 (by decide) ?_
    exact W.vret hx hb hr (fun t ht hW => ⟨⟨σ53, rfl, hw, by unfold wdB; rw [ht]; exact hP⟩, hS.F ht⟩) hS.2.2 dX8_readLaw_185
def wX8_readTurns_L11 (K55 : hsS → Prop) (K92 : hsS → Prop) (post : hsS → Prop) : Nat → hsS → Prop
  | 0, _ => False
  | n + 1, σ => (((σ.2.1 6 (1 : Int32).toNatClampNeg) = ((σ.2.1 1 (1 : Int32).toNatClampNeg) - (1 : Int32)) → wX8_readNumber (0 : Int32) (999 : Int32) (σ.2.1 2 (1 : Int32).toNatClampNeg) (1 : Int32) (fun r5 σ6 => (((σ6.1 21) = (0 : Int32) → vp_in ((9 : Int32) + (σ6.2.1 6 (1 : Int32).toNatClampNeg)) 18 ∧ ∀ σ8 : hsS, σ8 = hsA σ6 10 (upd (σ6.2.1 10) ((9 : Int32) + (σ6.2.1 6 (1 : Int32).toNatClampNeg)).toNatClampNeg r5) → ∀ σ9 : hsS, σ9 = hsA σ8 6 (upd (σ8.2.1 6) (1 : Int32).toNatClampNeg ((σ8.2.1 6 (1 : Int32).toNatClampNeg) + (1 : Int32))) → wX8_step  (fun σ11 => wX8_isNumber  (fun r12 σ13 => ((r12 = (0 : Int32) → K92 σ13) ∧ (¬ r12 = (0 : Int32) → wX8_readTurns_L11  K55 K92 post n σ13))) σ11) σ9) ∧ (¬ (σ6.1 21) = (0 : Int32) → K55 σ6))) σ) ∧ (¬ (σ.2.1 6 (1 : Int32).toNatClampNeg) = ((σ.2.1 1 (1 : Int32).toNatClampNeg) - (1 : Int32)) → wX8_readNumber (0 : Int32) (999 : Int32) (σ.2.1 2 (1 : Int32).toNatClampNeg) (0 : Int32) (fun r15 σ16 => (((σ16.1 21) = (0 : Int32) → vp_in ((9 : Int32) + (σ16.2.1 6 (1 : Int32).toNatClampNeg)) 18 ∧ ∀ σ18 : hsS, σ18 = hsA σ16 10 (upd (σ16.2.1 10) ((9 : Int32) + (σ16.2.1 6 (1 : Int32).toNatClampNeg)).toNatClampNeg r15) → ∀ σ19 : hsS, σ19 = hsA σ18 6 (upd (σ18.2.1 6) (1 : Int32).toNatClampNeg ((σ18.2.1 6 (1 : Int32).toNatClampNeg) + (1 : Int32))) → wX8_step  (fun σ21 => wX8_isNumber  (fun r22 σ23 => ((r22 = (0 : Int32) → K92 σ23) ∧ (¬ r22 = (0 : Int32) → wX8_readTurns_L11  K55 K92 post n σ23))) σ21) σ19) ∧ (¬ (σ16.1 21) = (0 : Int32) → K55 σ16))) σ))
def wX8_readTurns  (post : hsS → Prop) (σ : hsS) : Prop := wX8_step  (fun σ2 => ∀ σ3 : hsS, σ3 = hsA σ2 6 (upd (σ2.2.1 6) (1 : Int32).toNatClampNeg (0 : Int32)) → ∃ n25, wX8_readTurns_L11  (fun σ26 => post σ26) (fun σ27 => post σ27) post n25  σ3) σ
set_option maxHeartbeats 4000000 in
set_option maxRecDepth 100000 in
theorem kcX8_readTurns (l : Launch) (D : va_G) (c : Nat → ClassId) (q : Nat → Nat) (ev : State → Heap → Prop) (hev : evOK (wdA 31 q) ev) (σ : hsS)  (post : hsS → Prop) (hw : wX8_readTurns  post σ) : Met l yX8_readTurns (Cond.code yX8_readTurns cX8_readTurns 2 none :: tb_L) { frames := 2, cells := 0, slots := 0, locals := 61 } (wdPc D (mw c q) (mwT c) (wdA 31 q) ev σ [.ref (q 0)]) (va_Qv post (wdB D (mw c q)) (wdA 31 q)) 0 0 (wdA 31 q) := by
  refine Met.ofW (cc := cX8_readTurns) (maxL := 2) (ret := none) (by decide) rfl ?_
  intro p e s m args below meth c₀ s₁ Bd hml hv
  obtain ⟨rfl, hP, hK, hD0, hE⟩ := hv
  have hx := Bd.exec
  have hb := Bd.bytes
  have hr := Bd.returns
  have hts := atoms_spec (ws := Cond.code yX8_readTurns cX8_readTurns 2 none :: tb_L) Bd.pre
  have htb : ∀ w ∈ tb_L, w.before [.ref (q 0)].toArray s = true := fun w h => hts w (List.mem_cons_of_mem _ h)
  have hown : s.vm.findClass RX8 = some m.cls := findClass_of_methodNamed Bd.named
  have hlocks := Bd.notSynchronized
  have hS : va_S (wdA 31 q) s.heap s.heap [] := va_S.rf
  have hD := hD0
  have L11 : ∀ (K55 : hsS → Prop) (K92 : hsS → Prop) (n : Nat) (σ : hsS) (H : Heap) (locs : List Loc) (ls : Array Slot), wX8_readTurns_L11  K55 K92 post n σ → (∀ (σ : hsS) (H : Heap) (locs : List Loc) (ls : Array Slot), K55 σ → va_P D vwCl (mw c q σ) H → va_S (wdA 31 q) s.heap H locs → lv_has ls 2 [(0, .ref (q 0))] → W p l e (headSpec (Cond.code yX8_readTurns cX8_readTurns 2 none :: tb_L) { frames := 2, cells := 0, slots := 0, locals := 61 }).room s m [.ref (q 0)].toArray below meth c₀ H locs 0 0 (MQ below (va_Qv post (wdB D (mw c q)) (wdA 31 q)) [.ref (q 0)].toArray s 0 0 (wdA 31 q)) (F0 m 55 ls [])) → (∀ (σ : hsS) (H : Heap) (locs : List Loc) (ls : Array Slot), K92 σ → va_P D vwCl (mw c q σ) H → va_S (wdA 31 q) s.heap H locs → lv_has ls 2 [(0, .ref (q 0))] → W p l e (headSpec (Cond.code yX8_readTurns cX8_readTurns 2 none :: tb_L) { frames := 2, cells := 0, slots := 0, locals := 61 }).room s m [.ref (q 0)].toArray below meth c₀ H locs 0 0 (MQ below (va_Qv post (wdB D (mw c q)) (wdA 31 q)) [.ref (q 0)].toArray s 0 0 (wdA 31 q)) (F0 m 92 ls [])) → va_P D vwCl (mw c q σ) H → va_S (wdA 31 q) s.heap H locs → lv_has ls 2 [(0, .ref (q 0))] → W p l e (headSpec (Cond.code yX8_readTurns cX8_readTurns 2 none :: tb_L) { frames := 2, cells := 0, slots := 0, locals := 61 }).room s m [.ref (q 0)].toArray below meth c₀ H locs 0 0 (MQ below (va_Qv post (wdB D (mw c q)) (wdA 31 q)) [.ref (q 0)].toArray s 0 0 (wdA 31 q)) (F0 m 11 ls []) := by
    intro K55 K92 n
    induction n with
    | zero =>
      intro σ H locs ls hw hk55 hk92 hP hS hl
      exact (show False from hw).elim
    | succ n ih =>
      intro σ H locs ls hw hk55 hk92 hP hS hl
      rw [wX8_readTurns_L11] at hw
      have hD : va_D (wdA 31 q) (mw c q σ) := mw_D hD0
      refine lv_aload_n hx hb dX8_readTurns_11 rfl (lv_at hl 0 rfl) ?_
      refine lv_iconst (v := (0 : Int32)) hx hb dX8_readTurns_12 (by decide) ?_
      refine lv_sipush (v := (999 : Int32)) hx hb dX8_readTurns_13 (by decide) ?_
      refine lv_aload_n hx hb dX8_readTurns_16 rfl (lv_at hl 0 rfl) ?_
      refine va_get (D := D) (ci := 8) (C := RX8) (T := TX8) (N := 57) hx hb htb inX8 hown hK hP 0 (mw_0 c q σ) rfl 2 (by decide) (htb _ tb_1183) (fun _ h9 => h9) rfl dX8_readTurns_17 ?_
      refine lv_iconst (v := (1 : Int32)) hx hb dX8_readTurns_20 (by decide) ?_
      refine va_iald hx hb hK hP 2 1 (mw_2 c q σ) rfl (by unfold vp_in; decide) dX8_readTurns_21 ?_
      refine lv_aload_n hx hb dX8_readTurns_22 rfl (lv_at hl 0 rfl) ?_
      refine va_get (D := D) (ci := 8) (C := RX8) (T := TX8) (N := 57) hx hb htb inX8 hown hK hP 0 (mw_0 c q σ) rfl 6 (by decide) (htb _ tb_1187) (fun _ h9 => h9) rfl dX8_readTurns_23 ?_
      refine lv_iconst (v := (1 : Int32)) hx hb dX8_readTurns_26 (by decide) ?_
      refine va_iald hx hb hK hP 6 5 (mw_6 c q σ) rfl (by unfold vp_in; decide) dX8_readTurns_27 ?_
      refine lv_aload_n hx hb dX8_readTurns_28 rfl (lv_at hl 0 rfl) ?_
      refine va_get (D := D) (ci := 8) (C := RX8) (T := TX8) (N := 57) hx hb htb inX8 hown hK hP 0 (mw_0 c q σ) rfl 1 (by decide) (htb _ tb_1182) (fun _ h9 => h9) rfl dX8_readTurns_29 ?_
      refine lv_iconst (v := (1 : Int32)) hx hb dX8_readTurns_32 (by decide) ?_
      refine va_iald hx hb hK hP 1 0 (mw_1 c q σ) rfl (by unfold vp_in; decide) dX8_readTurns_33 ?_
      refine lv_iconst (v := (1 : Int32)) hx hb dX8_readTurns_34 (by decide) ?_
      refine lv_isub hx hb dX8_readTurns_35 ?_
      refine lv_icmp_ne (tgt := 43) hx hb dX8_readTurns_36 (by decide) (fun c4 => ?_) (fun c4 => ?_)
      · have hw := hw.2 c4
        refine lv_iconst (v := (0 : Int32)) hx hb dX8_readTurns_43 (by decide) ?_
        refine va_calli (va_runV (As := [.int (0 : Int32), .int (999 : Int32), .int (σ.2.1 2 (1 : Int32).toNatClampNeg), .int (0 : Int32)]) (rest := []) ⟨hx, hb, hml, hown, htb⟩ (kcX8_readNumber l D c q ev hev σ (0 : Int32) (999 : Int32) (σ.2.1 2 (1 : Int32).toNatClampNeg) (0 : Int32) _ hw) (tb_CW htb kX8_readNumber tb_1400 tb_1402 tb_48 ⟨Nat.le_of_ble_eq_true rfl, Nat.le_of_ble_eq_true rfl⟩) (wd_preV (wd := mw c q) (k := 0) hev hK hP hD hE hS (mw_0 c q σ) rfl) rfl rfl hl.1 rfl (lv_room (Nat.le_of_ble_eq_true rfl)) dX8_readTurns_44 ⟨Nat.zero_le _, Nat.zero_le _⟩) hS (fun q _ h => h) (fun q h => h) (fun r15 σ16 t H1 locs1 ht hvm hw hB hz1 hk1 hS => ?_)
        have hP : va_P D vwCl (mw c q σ16) H1 := ht ▸ hB
        have hD : va_D (wdA 31 q) (mw c q σ16) := mw_D hD0
        refine lv_istore_n (lv' := [(1, .int r15), (0, .ref (q 0))]) hx hb dX8_readTurns_47 rfl hl (by decide) rfl (fun ls hl => ?_)
        refine lv_aload_n hx hb dX8_readTurns_48 rfl (lv_at hl 1 rfl) ?_
        refine va_get (D := D) (ci := 8) (C := RX8) (T := TX8) (N := 57) hx hb htb inX8 hown hK hP 0 (mw_0 c q σ16) rfl 21 (by decide) (htb _ tb_1202) (fun _ h9 => h9) rfl dX8_readTurns_49 ?_
        refine lv_if_eq (tgt := 56) hx hb dX8_readTurns_52 (by decide) (fun c17 => ?_) (fun c17 => ?_)
        · have hw := hw.1 c17
          refine lv_aload_n hx hb dX8_readTurns_56 rfl (lv_at hl 1 rfl) ?_
          refine va_get (D := D) (ci := 8) (C := RX8) (T := TX8) (N := 57) hx hb htb inX8 hown hK hP 0 (mw_0 c q σ16) rfl 10 (by decide) (htb _ tb_1191) (fun _ h9 => h9) rfl dX8_readTurns_57 ?_
          refine lv_bipush (v := (9 : Int32)) hx hb dX8_readTurns_60 (by decide) ?_
          refine lv_aload_n hx hb dX8_readTurns_62 rfl (lv_at hl 1 rfl) ?_
          refine va_get (D := D) (ci := 8) (C := RX8) (T := TX8) (N := 57) hx hb htb inX8 hown hK hP 0 (mw_0 c q σ16) rfl 6 (by decide) (htb _ tb_1187) (fun _ h9 => h9) rfl dX8_readTurns_63 ?_
          refine lv_iconst (v := (1 : Int32)) hx hb dX8_readTurns_66 (by decide) ?_
          refine va_iald hx hb hK hP 6 5 (mw_6 c q σ16) rfl (by unfold vp_in; decide) dX8_readTurns_67 ?_
          refine lv_iadd hx hb dX8_readTurns_68 ?_
          refine lv_iload_n hx hb dX8_readTurns_69 rfl (lv_at hl 0 rfl) ?_
          refine va_iast hx hb hK hP hD hS 10 9 (mw_10 c q σ16) rfl hw.1 dX8_readTurns_70 (fun H locs hP hD hS => ?_)
          have hw := hw.2
          have hP : va_P D vwCl (mw c q (hsA σ16 10 (upd (σ16.2.1 10) ((9 : Int32) + (σ16.2.1 6 (1 : Int32).toNatClampNeg)).toNatClampNeg r15))) H := hP
          obtain ⟨σ18, eσ18⟩ : ∃ z : hsS, z = hsA σ16 10 (upd (σ16.2.1 10) ((9 : Int32) + (σ16.2.1 6 (1 : Int32).toNatClampNeg)).toNatClampNeg r15) := ⟨_, rfl⟩
          rw [← eσ18] at hP
          have hD : va_D (wdA 31 q) (mw c q σ18) := mw_D hD0
          have hw := hw σ18 eσ18
          refine lv_aload_n hx hb dX8_readTurns_71 rfl (lv_at hl 1 rfl) ?_
          refine va_get (D := D) (ci := 8) (C := RX8) (T := TX8) (N := 57) hx hb htb inX8 hown hK hP 0 (mw_0 c q σ18) rfl 6 (by decide) (htb _ tb_1187) (fun _ h9 => h9) rfl dX8_readTurns_72 ?_
          refine lv_iconst (v := (1 : Int32)) hx hb dX8_readTurns_75 (by decide) ?_
          refine lv_dup2_11 hx hb dX8_readTurns_76 rfl rfl ?_
          refine va_iald hx hb hK hP 6 5 (mw_6 c q σ18) rfl (by unfold vp_in; decide) dX8_readTurns_77 ?_
          refine lv_iconst (v := (1 : Int32)) hx hb dX8_readTurns_78 (by decide) ?_
          refine lv_iadd hx hb dX8_readTurns_79 ?_
          refine va_iast hx hb hK hP hD hS 6 5 (mw_6 c q σ18) rfl (by unfold vp_in; decide) dX8_readTurns_80 (fun H locs hP hD hS => ?_)
          have hP : va_P D vwCl (mw c q (hsA σ18 6 (upd (σ18.2.1 6) (1 : Int32).toNatClampNeg ((σ18.2.1 6 (1 : Int32).toNatClampNeg) + (1 : Int32))))) H := hP
          obtain ⟨σ19, eσ19⟩ : ∃ z : hsS, z = hsA σ18 6 (upd (σ18.2.1 6) (1 : Int32).toNatClampNeg ((σ18.2.1 6 (1 : Int32).toNatClampNeg) + (1 : Int32))) := ⟨_, rfl⟩
          rw [← eσ19] at hP
          have hD : va_D (wdA 31 q) (mw c q σ19) := mw_D hD0
          have hw := hw σ19 eσ19
          refine lv_aload_n hx hb dX8_readTurns_81 rfl (lv_at hl 1 rfl) ?_
          refine va_callv (va_runV (As := []) (rest := []) ⟨hx, hb, hml, hown, htb⟩ (kcX8_step l D c q ev hev σ19  _ hw) (tb_CW htb kX8_step tb_1370 tb_1372 tb_43 ⟨Nat.le_of_ble_eq_true rfl, Nat.le_of_ble_eq_true rfl⟩) (wd_preV (wd := mw c q) (k := 0) hev hK hP hD hE hS (mw_0 c q σ19) rfl) rfl rfl hl.1 rfl (lv_room (Nat.le_of_ble_eq_true rfl)) dX8_readTurns_82 ⟨Nat.zero_le _, Nat.zero_le _⟩) hS (fun q _ h => h) (fun q h => h) (fun σ21 t H1 locs1 ht hvm hw hB hz1 hk1 hS => ?_)
          have hP : va_P D vwCl (mw c q σ21) H1 := ht ▸ hB
          have hD : va_D (wdA 31 q) (mw c q σ21) := mw_D hD0
          refine lv_aload_n hx hb dX8_readTurns_85 rfl (lv_at hl 1 rfl) ?_
          refine va_calli (va_runV (As := []) (rest := []) ⟨hx, hb, hml, hown, htb⟩ (kcX8_isNumber l D c q ev hev σ21  _ hw) (tb_CW htb kX8_isNumber tb_1433 tb_1435 tb_54 ⟨Nat.le_of_ble_eq_true rfl, Nat.le_of_ble_eq_true rfl⟩) (wd_preV (wd := mw c q) (k := 0) hev hK hP hD hE hS (mw_0 c q σ21) rfl) rfl rfl hl.1 rfl (lv_room (Nat.le_of_ble_eq_true rfl)) dX8_readTurns_86 ⟨Nat.zero_le _, Nat.zero_le _⟩) hS (fun q _ h => h) (fun q h => h) (fun r22 σ23 t H1 locs1 ht hvm hw hB hz1 hk1 hS => ?_)
          have hP : va_P D vwCl (mw c q σ23) H1 := ht ▸ hB
          have hD : va_D (wdA 31 q) (mw c q σ23) := mw_D hD0
          refine lv_if_ne (tgt := 11) hx hb dX8_readTurns_89 (by decide) (fun c24 => ?_) (fun c24 => ?_)
          · have hw := hw.2 c24
            exact ih  σ23 _ _ _ hw hk55 hk92 hP hS (lv_sub hl [1] rfl)
          · have hw := hw.1 c24
            exact hk92  σ23 _ _ _ hw hP hS (lv_sub hl [1] rfl)
        · have hw := hw.2 c17
          exact hk55  σ16 _ _ _ hw hP hS (lv_sub hl [1] rfl)
      · have hw := hw.1 c4
        refine lv_iconst (v := (1 : Int32)) hx hb dX8_readTurns_39 (by decide) ?_
        refine lv_goto (tgt := 44) hx hb dX8_readTurns_40 (by decide) ?_
        refine va_calli (va_runV (As := [.int (0 : Int32), .int (999 : Int32), .int (σ.2.1 2 (1 : Int32).toNatClampNeg), .int (1 : Int32)]) (rest := []) ⟨hx, hb, hml, hown, htb⟩ (kcX8_readNumber l D c q ev hev σ (0 : Int32) (999 : Int32) (σ.2.1 2 (1 : Int32).toNatClampNeg) (1 : Int32) _ hw) (tb_CW htb kX8_readNumber tb_1400 tb_1402 tb_48 ⟨Nat.le_of_ble_eq_true rfl, Nat.le_of_ble_eq_true rfl⟩) (wd_preV (wd := mw c q) (k := 0) hev hK hP hD hE hS (mw_0 c q σ) rfl) rfl rfl hl.1 rfl (lv_room (Nat.le_of_ble_eq_true rfl)) dX8_readTurns_44 ⟨Nat.zero_le _, Nat.zero_le _⟩) hS (fun q _ h => h) (fun q h => h) (fun r5 σ6 t H1 locs1 ht hvm hw hB hz1 hk1 hS => ?_)
        have hP : va_P D vwCl (mw c q σ6) H1 := ht ▸ hB
        have hD : va_D (wdA 31 q) (mw c q σ6) := mw_D hD0
        refine lv_istore_n (lv' := [(1, .int r5), (0, .ref (q 0))]) hx hb dX8_readTurns_47 rfl hl (by decide) rfl (fun ls hl => ?_)
        refine lv_aload_n hx hb dX8_readTurns_48 rfl (lv_at hl 1 rfl) ?_
        refine va_get (D := D) (ci := 8) (C := RX8) (T := TX8) (N := 57) hx hb htb inX8 hown hK hP 0 (mw_0 c q σ6) rfl 21 (by decide) (htb _ tb_1202) (fun _ h9 => h9) rfl dX8_readTurns_49 ?_
        refine lv_if_eq (tgt := 56) hx hb dX8_readTurns_52 (by decide) (fun c7 => ?_) (fun c7 => ?_)
        · have hw := hw.1 c7
          refine lv_aload_n hx hb dX8_readTurns_56 rfl (lv_at hl 1 rfl) ?_
          refine va_get (D := D) (ci := 8) (C := RX8) (T := TX8) (N := 57) hx hb htb inX8 hown hK hP 0 (mw_0 c q σ6) rfl 10 (by decide) (htb _ tb_1191) (fun _ h9 => h9) rfl dX8_readTurns_57 ?_
          refine lv_bipush (v := (9 : Int32)) hx hb dX8_readTurns_60 (by decide) ?_
          refine lv_aload_n hx hb dX8_readTurns_62 rfl (lv_at hl 1 rfl) ?_
          refine va_get (D := D) (ci := 8) (C := RX8) (T := TX8) (N := 57) hx hb htb inX8 hown hK hP 0 (mw_0 c q σ6) rfl 6 (by decide) (htb _ tb_1187) (fun _ h9 => h9) rfl dX8_readTurns_63 ?_
          refine lv_iconst (v := (1 : Int32)) hx hb dX8_readTurns_66 (by decide) ?_
          refine va_iald hx hb hK hP 6 5 (mw_6 c q σ6) rfl (by unfold vp_in; decide) dX8_readTurns_67 ?_
          refine lv_iadd hx hb dX8_readTurns_68 ?_
          refine lv_iload_n hx hb dX8_readTurns_69 rfl (lv_at hl 0 rfl) ?_
          refine va_iast hx hb hK hP hD hS 10 9 (mw_10 c q σ6) rfl hw.1 dX8_readTurns_70 (fun H locs hP hD hS => ?_)
          have hw := hw.2
          have hP : va_P D vwCl (mw c q (hsA σ6 10 (upd (σ6.2.1 10) ((9 : Int32) + (σ6.2.1 6 (1 : Int32).toNatClampNeg)).toNatClampNeg r5))) H := hP
          obtain ⟨σ8, eσ8⟩ : ∃ z : hsS, z = hsA σ6 10 (upd (σ6.2.1 10) ((9 : Int32) + (σ6.2.1 6 (1 : Int32).toNatClampNeg)).toNatClampNeg r5) := ⟨_, rfl⟩
          rw [← eσ8] at hP
          have hD : va_D (wdA 31 q) (mw c q σ8) := mw_D hD0
          have hw := hw σ8 eσ8
          refine lv_aload_n hx hb dX8_readTurns_71 rfl (lv_at hl 1 rfl) ?_
          refine va_get (D := D) (ci := 8) (C := RX8) (T := TX8) (N := 57) hx hb htb inX8 hown hK hP 0 (mw_0 c q σ8) rfl 6 (by decide) (htb _ tb_1187) (fun _ h9 => h9) rfl dX8_readTurns_72 ?_
          refine lv_iconst (v := (1 : Int32)) hx hb dX8_readTurns_75 (by decide) ?_
          refine lv_dup2_11 hx hb dX8_readTurns_76 rfl rfl ?_
          refine va_iald hx hb hK hP 6 5 (mw_6 c q σ8) rfl (by unfold vp_in; decide) dX8_readTurns_77 ?_
          refine lv_iconst (v := (1 : Int32)) hx hb dX8_readTurns_78 (by decide) ?_
          refine lv_iadd hx hb dX8_readTurns_79 ?_
          refine va_iast hx hb hK hP hD hS 6 5 (mw_6 c q σ8) rfl (by unfold vp_in; decide) dX8_readTurns_80 (fun H locs hP hD hS => ?_)
          have hP : va_P D vwCl (mw c q (hsA σ8 6 (upd (σ8.2.1 6) (1 : Int32).toNatClampNeg ((σ8.2.1 6 (1 : Int32).toNatClampNeg) + (1 : Int32))))) H := hP
          obtain ⟨σ9, eσ9⟩ : ∃ z : hsS, z = hsA σ8 6 (upd (σ8.2.1 6) (1 : Int32).toNatClampNeg ((σ8.2.1 6 (1 : Int32).toNatClampNeg) + (1 : Int32))) := ⟨_, rfl⟩
          rw [← eσ9] at hP
          have hD : va_D (wdA 31 q) (mw c q σ9) := mw_D hD0
          have hw := hw σ9 eσ9
          refine lv_aload_n hx hb dX8_readTurns_81 rfl (lv_at hl 1 rfl) ?_
          refine va_callv (va_runV (As := []) (rest := []) ⟨hx, hb, hml, hown, htb⟩ (kcX8_step l D c q ev hev σ9  _ hw) (tb_CW htb kX8_step tb_1370 tb_1372 tb_43 ⟨Nat.le_of_ble_eq_true rfl, Nat.le_of_ble_eq_true rfl⟩) (wd_preV (wd := mw c q) (k := 0) hev hK hP hD hE hS (mw_0 c q σ9) rfl) rfl rfl hl.1 rfl (lv_room (Nat.le_of_ble_eq_true rfl)) dX8_readTurns_82 ⟨Nat.zero_le _, Nat.zero_le _⟩) hS (fun q _ h => h) (fun q h => h) (fun σ11 t H1 locs1 ht hvm hw hB hz1 hk1 hS => ?_)
          have hP : va_P D vwCl (mw c q σ11) H1 := ht ▸ hB
          have hD : va_D (wdA 31 q) (mw c q σ11) := mw_D hD0
          refine lv_aload_n hx hb dX8_readTurns_85 rfl (lv_at hl 1 rfl) ?_
          refine va_calli (va_runV (As := []) (rest := []) ⟨hx, hb, hml, hown, htb⟩ (kcX8_isNumber l D c q ev hev σ11  _ hw) (tb_CW htb kX8_isNumber tb_1433 tb_1435 tb_54 ⟨Nat.le_of_ble_eq_true rfl, Nat.le_of_ble_eq_true rfl⟩) (wd_preV (wd := mw c q) (k := 0) hev hK hP hD hE hS (mw_0 c q σ11) rfl) rfl rfl hl.1 rfl (lv_room (Nat.le_of_ble_eq_true rfl)) dX8_readTurns_86 ⟨Nat.zero_le _, Nat.zero_le _⟩) hS (fun q _ h => h) (fun q h => h) (fun r12 σ13 t H1 locs1 ht hvm hw hB hz1 hk1 hS => ?_)
          have hP : va_P D vwCl (mw c q σ13) H1 := ht ▸ hB
          have hD : va_D (wdA 31 q) (mw c q σ13) := mw_D hD0
          refine lv_if_ne (tgt := 11) hx hb dX8_readTurns_89 (by decide) (fun c14 => ?_) (fun c14 => ?_)
          · have hw := hw.2 c14
            exact ih  σ13 _ _ _ hw hk55 hk92 hP hS (lv_sub hl [1] rfl)
          · have hw := hw.1 c14
            exact hk92  σ13 _ _ _ hw hP hS (lv_sub hl [1] rfl)
        · have hw := hw.2 c7
          exact hk55  σ6 _ _ _ hw hP hS (lv_sub hl [1] rfl)
  have hl := lv_entry ([.ref (q 0)]) (n := 2) (Nat.le_of_ble_eq_true rfl)
  rw [lg_entry_eq]
  generalize (lg_sl ([.ref (q 0)]) ++ List.replicate (2 - (lg_sl ([.ref (q 0)])).length) Slot.unset).toArray = ls at hl ⊢
  have hl : lv_has ls 2 [(0, .ref (q 0))] := hl
  unfold wX8_readTurns at hw
  refine lv_aload_n hx hb dX8_readTurns_0 rfl (lv_at hl 0 rfl) ?_
  refine va_callv (va_runV (As := []) (rest := []) ⟨hx, hb, hml, hown, htb⟩ (kcX8_step l D c q ev hev σ  _ hw) (tb_CW htb kX8_step tb_1370 tb_1372 tb_43 ⟨Nat.le_of_ble_eq_true rfl, Nat.le_of_ble_eq_true rfl⟩) (wd_preV (wd := mw c q) (k := 0) hev hK hP hD hE hS (mw_0 c q σ) rfl) rfl rfl hl.1 rfl (lv_room (Nat.le_of_ble_eq_true rfl)) dX8_readTurns_1 ⟨Nat.zero_le _, Nat.zero_le _⟩) hS (fun q _ h => h) (fun q h => h) (fun σ2 t H1 locs1 ht hvm hw hB hz1 hk1 hS => ?_)
  have hP : va_P D vwCl (mw c q σ2) H1 := ht ▸ hB
  have hD : va_D (wdA 31 q) (mw c q σ2) := mw_D hD0
  refine lv_aload_n hx hb dX8_readTurns_4 rfl (lv_at hl 0 rfl) ?_
  refine va_get (D := D) (ci := 8) (C := RX8) (T := TX8) (N := 57) hx hb htb inX8 hown hK hP 0 (mw_0 c q σ2) rfl 6 (by decide) (htb _ tb_1187) (fun _ h9 => h9) rfl dX8_readTurns_5 ?_
  refine lv_iconst (v := (1 : Int32)) hx hb dX8_readTurns_8 (by decide) ?_
  refine lv_iconst (v := (0 : Int32)) hx hb dX8_readTurns_9 (by decide) ?_
  refine va_iast hx hb hK hP hD hS 6 5 (mw_6 c q σ2) rfl (by unfold vp_in; decide) dX8_readTurns_10 (fun H locs hP hD hS => ?_)
  have hP : va_P D vwCl (mw c q (hsA σ2 6 (upd (σ2.2.1 6) (1 : Int32).toNatClampNeg (0 : Int32)))) H := hP
  obtain ⟨σ3, eσ3⟩ : ∃ z : hsS, z = hsA σ2 6 (upd (σ2.2.1 6) (1 : Int32).toNatClampNeg (0 : Int32)) := ⟨_, rfl⟩
  rw [← eσ3] at hP
  have hD : va_D (wdA 31 q) (mw c q σ3) := mw_D hD0
  have hw := hw σ3 eσ3
  obtain ⟨n25, hw⟩ := hw
  refine L11 _ _ n25  σ3 _ _ _ hw ?_ ?_ hP hS (lv_sub hl [0] rfl)
  · intro σ26 H locs ls hw hP hS hl
    have hD : va_D (wdA 31 q) (mw c q σ26) := mw_D hD0
    exact W.vret hx hb hr (fun t ht hW => ⟨⟨σ26, rfl, hw, by unfold wdB; rw [ht]; exact hP⟩, hS.F ht⟩) hS.2.2 dX8_readTurns_55
  · intro σ27 H locs ls hw hP hS hl
    have hD : va_D (wdA 31 q) (mw c q σ27) := mw_D hD0
    exact W.vret hx hb hr (fun t ht hW => ⟨⟨σ27, rfl, hw, by unfold wdB; rw [ht]; exact hP⟩, hS.F ht⟩) hS.2.2 dX8_readTurns_92
def wX8_readLine  (post : hsS → Prop) (σ : hsS) : Prop := wX8_is 1 (fun r1 σ2 => ((r1 = (0 : Int32) → wX8_is 6 (fun r4 σ5 => ((r4 = (0 : Int32) → wX8_is 10 (fun r7 σ8 => ((r7 = (0 : Int32) → wX8_wrong (1 : Int32) (fun σ11 => wX8_semi  (fun σ13 => post σ13) σ11) σ8) ∧ (¬ r7 = (0 : Int32) → wX8_readTurns  (fun σ15 => wX8_semi  (fun σ17 => post σ17) σ15) σ8))) σ5) ∧ (¬ r4 = (0 : Int32) → wX8_readLaw  (fun σ19 => wX8_semi  (fun σ21 => post σ21) σ19) σ5))) σ2) ∧ (¬ r1 = (0 : Int32) → wX8_readPerson  (fun σ23 => wX8_semi  (fun σ25 => post σ25) σ23) σ2))) σ
set_option maxHeartbeats 4000000 in
set_option maxRecDepth 100000 in
theorem kcX8_readLine (l : Launch) (D : va_G) (c : Nat → ClassId) (q : Nat → Nat) (ev : State → Heap → Prop) (hev : evOK (wdA 31 q) ev) (adK adV : Nat → Nat) (hZ : ∀ (U : State) (H : Heap), ev U H → evS (wdA 31 q) adK adV U H) (σ : hsS)  (post : hsS → Prop) (hw : wX8_readLine  post σ) : Met l yX8_readLine (Cond.code yX8_readLine cX8_readLine 1 none :: tb_L) { frames := 7, cells := 0, slots := 0, locals := 158 } (wdPc D (mw c q) (mwT c) (wdA 31 q) ev σ [.ref (q 0)]) (va_Qv post (wdB D (mw c q)) (wdA 31 q)) 0 0 (wdA 31 q) := by
  refine Met.ofW (cc := cX8_readLine) (maxL := 1) (ret := none) (by decide) rfl ?_
  intro p e s m args below meth c₀ s₁ Bd hml hv
  obtain ⟨rfl, hP, hK, hD0, hE⟩ := hv
  have hx := Bd.exec
  have hb := Bd.bytes
  have hr := Bd.returns
  have hts := atoms_spec (ws := Cond.code yX8_readLine cX8_readLine 1 none :: tb_L) Bd.pre
  have htb : ∀ w ∈ tb_L, w.before [.ref (q 0)].toArray s = true := fun w h => hts w (List.mem_cons_of_mem _ h)
  have hown : s.vm.findClass RX8 = some m.cls := findClass_of_methodNamed Bd.named
  have hlocks := Bd.notSynchronized
  have hS : va_S (wdA 31 q) s.heap s.heap [] := va_S.rf
  have hD := hD0
  have hl := lv_entry ([.ref (q 0)]) (n := 1) (Nat.le_of_ble_eq_true rfl)
  rw [lg_entry_eq]
  generalize (lg_sl ([.ref (q 0)]) ++ List.replicate (1 - (lg_sl ([.ref (q 0)])).length) Slot.unset).toArray = ls at hl ⊢
  have hl : lv_has ls 1 [(0, .ref (q 0))] := hl
  unfold wX8_readLine at hw
  refine lv_aload_n hx hb dX8_readLine_0 rfl (lv_at hl 0 rfl) ?_
  refine va_ldcS hx hb hown ((hZ s s.heap hE).2.2.2 ("StrikeHallModel", 215, "person", 1) (by decide)) dX8_readLine_1 ?_
  refine va_calli (va_runV (As := [.ref (adK 1)]) (rest := []) ⟨hx, hb, hml, hown, htb⟩ (kcX8_is_s l D c q ev hev adK adV hZ σ 1 (by decide) _ hw) (tb_CW htb kX8_is tb_1390 tb_1392 tb_46 ⟨Nat.le_of_ble_eq_true rfl, Nat.le_of_ble_eq_true rfl⟩) (wd_preV (wd := mw c q) (k := 0) hev hK hP hD hE hS (mw_0 c q σ) rfl) rfl rfl hl.1 rfl (lv_room (Nat.le_of_ble_eq_true rfl)) dX8_readLine_3 ⟨Nat.zero_le _, Nat.zero_le _⟩) hS (fun q _ h => h) (fun q h => h) (fun r1 σ2 t H1 locs1 ht hvm hw hB hz1 hk1 hS => ?_)
  have hP : va_P D vwCl (mw c q σ2) H1 := ht ▸ hB
  have hD : va_D (wdA 31 q) (mw c q σ2) := mw_D hD0
  refine lv_if_eq (tgt := 16) hx hb dX8_readLine_6 (by decide) (fun c3 => ?_) (fun c3 => ?_)
  · have hw := hw.1 c3
    refine lv_aload_n hx hb dX8_readLine_16 rfl (lv_at hl 0 rfl) ?_
    refine va_ldcS hx hb hown ((hZ s s.heap hE).2.2.2 ("StrikeHallModel", 220, "law", 6) (by decide)) dX8_readLine_17 ?_
    refine va_calli (va_runV (As := [.ref (adK 6)]) (rest := []) ⟨hx, hb, hml, hown, htb⟩ (kcX8_is_s l D c q ev hev adK adV hZ σ2 6 (by decide) _ hw) (tb_CW htb kX8_is tb_1390 tb_1392 tb_46 ⟨Nat.le_of_ble_eq_true rfl, Nat.le_of_ble_eq_true rfl⟩) (wd_preV (wd := mw c q) (k := 0) hev hK hP hD hE hS (mw_0 c q σ2) rfl) rfl rfl hl.1 rfl (lv_room (Nat.le_of_ble_eq_true rfl)) dX8_readLine_19 ⟨Nat.zero_le _, Nat.zero_le _⟩) hS (fun q _ h => h) (fun q h => h) (fun r4 σ5 t H1 locs1 ht hvm hw hB hz1 hk1 hS => ?_)
    have hP : va_P D vwCl (mw c q σ5) H1 := ht ▸ hB
    have hD : va_D (wdA 31 q) (mw c q σ5) := mw_D hD0
    refine lv_if_eq (tgt := 32) hx hb dX8_readLine_22 (by decide) (fun c6 => ?_) (fun c6 => ?_)
    · have hw := hw.1 c6
      refine lv_aload_n hx hb dX8_readLine_32 rfl (lv_at hl 0 rfl) ?_
      refine va_ldcS hx hb hown ((hZ s s.heap hE).2.2.2 ("StrikeHallModel", 224, "turns", 10) (by decide)) dX8_readLine_33 ?_
      refine va_calli (va_runV (As := [.ref (adK 10)]) (rest := []) ⟨hx, hb, hml, hown, htb⟩ (kcX8_is_s l D c q ev hev adK adV hZ σ5 10 (by decide) _ hw) (tb_CW htb kX8_is tb_1390 tb_1392 tb_46 ⟨Nat.le_of_ble_eq_true rfl, Nat.le_of_ble_eq_true rfl⟩) (wd_preV (wd := mw c q) (k := 0) hev hK hP hD hE hS (mw_0 c q σ5) rfl) rfl rfl hl.1 rfl (lv_room (Nat.le_of_ble_eq_true rfl)) dX8_readLine_35 ⟨Nat.zero_le _, Nat.zero_le _⟩) hS (fun q _ h => h) (fun q h => h) (fun r7 σ8 t H1 locs1 ht hvm hw hB hz1 hk1 hS => ?_)
      have hP : va_P D vwCl (mw c q σ8) H1 := ht ▸ hB
      have hD : va_D (wdA 31 q) (mw c q σ8) := mw_D hD0
      refine lv_if_eq (tgt := 48) hx hb dX8_readLine_38 (by decide) (fun c9 => ?_) (fun c9 => ?_)
      · have hw := hw.1 c9
        refine lv_aload_n hx hb dX8_readLine_48 rfl (lv_at hl 0 rfl) ?_
        refine lv_iconst (v := (1 : Int32)) hx hb dX8_readLine_49 (by decide) ?_
        refine va_callv (va_runV (As := [.int (1 : Int32)]) (rest := []) ⟨hx, hb, hml, hown, htb⟩ (kcX8_wrong l D c q ev hev σ8 (1 : Int32) _ hw) (tb_CW htb kX8_wrong tb_1396 tb_1398 tb_47 ⟨Nat.le_of_ble_eq_true rfl, Nat.le_of_ble_eq_true rfl⟩) (wd_preV (wd := mw c q) (k := 0) hev hK hP hD hE hS (mw_0 c q σ8) rfl) rfl rfl hl.1 rfl (lv_room (Nat.le_of_ble_eq_true rfl)) dX8_readLine_50 ⟨Nat.zero_le _, Nat.zero_le _⟩) hS (fun q _ h => h) (fun q h => h) (fun σ11 t H1 locs1 ht hvm hw hB hz1 hk1 hS => ?_)
        have hP : va_P D vwCl (mw c q σ11) H1 := ht ▸ hB
        have hD : va_D (wdA 31 q) (mw c q σ11) := mw_D hD0
        refine lv_aload_n hx hb dX8_readLine_53 rfl (lv_at hl 0 rfl) ?_
        refine va_callv (va_runV (As := []) (rest := []) ⟨hx, hb, hml, hown, htb⟩ (kcX8_semi l D c q ev hev σ11  _ hw) (tb_CW htb kX8_semi tb_1404 tb_1406 tb_49 ⟨Nat.le_of_ble_eq_true rfl, Nat.le_of_ble_eq_true rfl⟩) (wd_preV (wd := mw c q) (k := 0) hev hK hP hD hE hS (mw_0 c q σ11) rfl) rfl rfl hl.1 rfl (lv_room (Nat.le_of_ble_eq_true rfl)) dX8_readLine_54 ⟨Nat.zero_le _, Nat.zero_le _⟩) hS (fun q _ h => h) (fun q h => h) (fun σ13 t H1 locs1 ht hvm hw hB hz1 hk1 hS => ?_)
        have hP : va_P D vwCl (mw c q σ13) H1 := ht ▸ hB
        have hD : va_D (wdA 31 q) (mw c q σ13) := mw_D hD0
        exact W.vret hx hb hr (fun t ht hW => ⟨⟨σ13, rfl, hw, by unfold wdB; rw [ht]; exact hP⟩, hS.F ht⟩) hS.2.2 dX8_readLine_57
      · have hw := hw.2 c9
        refine lv_aload_n hx hb dX8_readLine_41 rfl (lv_at hl 0 rfl) ?_
        refine va_callv (va_runV (As := []) (rest := []) ⟨hx, hb, hml, hown, htb⟩ (kcX8_readTurns l D c q ev hev σ8  _ hw) (tb_CW htb kX8_readTurns tb_1438 tb_1440 tb_55 ⟨Nat.le_of_ble_eq_true rfl, Nat.le_of_ble_eq_true rfl⟩) (wd_preV (wd := mw c q) (k := 0) hev hK hP hD hE hS (mw_0 c q σ8) rfl) rfl rfl hl.1 rfl (lv_room (Nat.le_of_ble_eq_true rfl)) dX8_readLine_42 ⟨Nat.zero_le _, Nat.zero_le _⟩) hS (fun q _ h => h) (fun q h => h) (fun σ15 t H1 locs1 ht hvm hw hB hz1 hk1 hS => ?_)
        have hP : va_P D vwCl (mw c q σ15) H1 := ht ▸ hB
        have hD : va_D (wdA 31 q) (mw c q σ15) := mw_D hD0
        refine lv_goto (tgt := 53) hx hb dX8_readLine_45 (by decide) ?_
        refine lv_aload_n hx hb dX8_readLine_53 rfl (lv_at hl 0 rfl) ?_
        refine va_callv (va_runV (As := []) (rest := []) ⟨hx, hb, hml, hown, htb⟩ (kcX8_semi l D c q ev hev σ15  _ hw) (tb_CW htb kX8_semi tb_1404 tb_1406 tb_49 ⟨Nat.le_of_ble_eq_true rfl, Nat.le_of_ble_eq_true rfl⟩) (wd_preV (wd := mw c q) (k := 0) hev hK hP hD hE hS (mw_0 c q σ15) rfl) rfl rfl hl.1 rfl (lv_room (Nat.le_of_ble_eq_true rfl)) dX8_readLine_54 ⟨Nat.zero_le _, Nat.zero_le _⟩) hS (fun q _ h => h) (fun q h => h) (fun σ17 t H1 locs1 ht hvm hw hB hz1 hk1 hS => ?_)
        have hP : va_P D vwCl (mw c q σ17) H1 := ht ▸ hB
        have hD : va_D (wdA 31 q) (mw c q σ17) := mw_D hD0
        exact W.vret hx hb hr (fun t ht hW => ⟨⟨σ17, rfl, hw, by unfold wdB; rw [ht]; exact hP⟩, hS.F ht⟩) hS.2.2 dX8_readLine_57
    · have hw := hw.2 c6
      refine lv_aload_n hx hb dX8_readLine_25 rfl (lv_at hl 0 rfl) ?_
      refine va_callv (va_runV (As := []) (rest := []) ⟨hx, hb, hml, hown, htb⟩ (kcX8_readLaw l D c q ev hev adK adV hZ σ5  _ hw) (tb_CW htb kX8_readLaw tb_1426 tb_1428 tb_53 ⟨Nat.le_of_ble_eq_true rfl, Nat.le_of_ble_eq_true rfl⟩) (wd_preV (wd := mw c q) (k := 0) hev hK hP hD hE hS (mw_0 c q σ5) rfl) rfl rfl hl.1 rfl (lv_room (Nat.le_of_ble_eq_true rfl)) dX8_readLine_26 ⟨Nat.zero_le _, Nat.zero_le _⟩) hS (fun q _ h => h) (fun q h => h) (fun σ19 t H1 locs1 ht hvm hw hB hz1 hk1 hS => ?_)
      have hP : va_P D vwCl (mw c q σ19) H1 := ht ▸ hB
      have hD : va_D (wdA 31 q) (mw c q σ19) := mw_D hD0
      refine lv_goto (tgt := 53) hx hb dX8_readLine_29 (by decide) ?_
      refine lv_aload_n hx hb dX8_readLine_53 rfl (lv_at hl 0 rfl) ?_
      refine va_callv (va_runV (As := []) (rest := []) ⟨hx, hb, hml, hown, htb⟩ (kcX8_semi l D c q ev hev σ19  _ hw) (tb_CW htb kX8_semi tb_1404 tb_1406 tb_49 ⟨Nat.le_of_ble_eq_true rfl, Nat.le_of_ble_eq_true rfl⟩) (wd_preV (wd := mw c q) (k := 0) hev hK hP hD hE hS (mw_0 c q σ19) rfl) rfl rfl hl.1 rfl (lv_room (Nat.le_of_ble_eq_true rfl)) dX8_readLine_54 ⟨Nat.zero_le _, Nat.zero_le _⟩) hS (fun q _ h => h) (fun q h => h) (fun σ21 t H1 locs1 ht hvm hw hB hz1 hk1 hS => ?_)
      have hP : va_P D vwCl (mw c q σ21) H1 := ht ▸ hB
      have hD : va_D (wdA 31 q) (mw c q σ21) := mw_D hD0
      exact W.vret hx hb hr (fun t ht hW => ⟨⟨σ21, rfl, hw, by unfold wdB; rw [ht]; exact hP⟩, hS.F ht⟩) hS.2.2 dX8_readLine_57
  · have hw := hw.2 c3
    refine lv_aload_n hx hb dX8_readLine_9 rfl (lv_at hl 0 rfl) ?_
    refine va_callv (va_runV (As := []) (rest := []) ⟨hx, hb, hml, hown, htb⟩ (kcX8_readPerson l D c q ev hev adK adV hZ σ2  _ hw) (tb_CW htb kX8_readPerson tb_1413 tb_1415 tb_51 ⟨Nat.le_of_ble_eq_true rfl, Nat.le_of_ble_eq_true rfl⟩) (wd_preV (wd := mw c q) (k := 0) hev hK hP hD hE hS (mw_0 c q σ2) rfl) rfl rfl hl.1 rfl (lv_room (Nat.le_of_ble_eq_true rfl)) dX8_readLine_10 ⟨Nat.zero_le _, Nat.zero_le _⟩) hS (fun q _ h => h) (fun q h => h) (fun σ23 t H1 locs1 ht hvm hw hB hz1 hk1 hS => ?_)
    have hP : va_P D vwCl (mw c q σ23) H1 := ht ▸ hB
    have hD : va_D (wdA 31 q) (mw c q σ23) := mw_D hD0
    refine lv_goto (tgt := 53) hx hb dX8_readLine_13 (by decide) ?_
    refine lv_aload_n hx hb dX8_readLine_53 rfl (lv_at hl 0 rfl) ?_
    refine va_callv (va_runV (As := []) (rest := []) ⟨hx, hb, hml, hown, htb⟩ (kcX8_semi l D c q ev hev σ23  _ hw) (tb_CW htb kX8_semi tb_1404 tb_1406 tb_49 ⟨Nat.le_of_ble_eq_true rfl, Nat.le_of_ble_eq_true rfl⟩) (wd_preV (wd := mw c q) (k := 0) hev hK hP hD hE hS (mw_0 c q σ23) rfl) rfl rfl hl.1 rfl (lv_room (Nat.le_of_ble_eq_true rfl)) dX8_readLine_54 ⟨Nat.zero_le _, Nat.zero_le _⟩) hS (fun q _ h => h) (fun q h => h) (fun σ25 t H1 locs1 ht hvm hw hB hz1 hk1 hS => ?_)
    have hP : va_P D vwCl (mw c q σ25) H1 := ht ▸ hB
    have hD : va_D (wdA 31 q) (mw c q σ25) := mw_D hD0
    exact W.vret hx hb hr (fun t ht hW => ⟨⟨σ25, rfl, hw, by unfold wdB; rw [ht]; exact hP⟩, hS.F ht⟩) hS.2.2 dX8_readLine_57
def wX8_renew_L17 (K36 : Int32 → hsS → Prop) (post : hsS → Prop) : Nat → Int32 → hsS → Prop
  | 0, _, _ => False
  | n + 1, y1, σ => (((8 : Int32) ≤ y1 → K36 y1 σ) ∧ (¬ (8 : Int32) ≤ y1 → vp_in y1 8 ∧ ∀ σ4 : hsS, σ4 = hsA σ 29 (upd (σ.2.1 29) y1.toNatClampNeg (-1 : Int32)) → ∀ v5 : Int32, v5 = y1 + (1 : Int32) → wX8_renew_L17  K36 post n v5 σ4))
def wX8_renew  (post : hsS → Prop) (σ : hsS) : Prop := ∀ σ1 : hsS, σ1 = hsI σ 12 ((σ.1 12) + (1 : Int32)) → ∀ σ2 : hsS, σ2 = hsI σ1 52 (0 : Int32) → ∃ n6, wX8_renew_L17  (fun v7 σ8 => post σ8) post n6 (0 : Int32) σ2
set_option maxHeartbeats 4000000 in
set_option maxRecDepth 100000 in
theorem kcX8_renew (l : Launch) (D : va_G) (c : Nat → ClassId) (q : Nat → Nat) (ev : State → Heap → Prop) (hev : evOK (wdA 31 q) ev) (σ : hsS)  (post : hsS → Prop) (hw : wX8_renew  post σ) : Met l yX8_renew (Cond.code yX8_renew cX8_renew 2 none :: tb_L) { frames := 0, cells := 0, slots := 0, locals := 0 } (wdPc D (mw c q) (mwT c) (wdA 31 q) ev σ [.ref (q 0)]) (va_Qv post (wdB D (mw c q)) (wdA 31 q)) 0 0 (wdA 31 q) := by
  refine Met.ofW (cc := cX8_renew) (maxL := 2) (ret := none) (by decide) rfl ?_
  intro p e s m args below meth c₀ s₁ Bd hml hv
  obtain ⟨rfl, hP, hK, hD0, hE⟩ := hv
  have hx := Bd.exec
  have hb := Bd.bytes
  have hr := Bd.returns
  have hts := atoms_spec (ws := Cond.code yX8_renew cX8_renew 2 none :: tb_L) Bd.pre
  have htb : ∀ w ∈ tb_L, w.before [.ref (q 0)].toArray s = true := fun w h => hts w (List.mem_cons_of_mem _ h)
  have hown : s.vm.findClass RX8 = some m.cls := findClass_of_methodNamed Bd.named
  have hlocks := Bd.notSynchronized
  have hS : va_S (wdA 31 q) s.heap s.heap [] := va_S.rf
  have hD := hD0
  have L17 : ∀ (K36 : Int32 → hsS → Prop) (n : Nat) (y1 : Int32) (σ : hsS) (H : Heap) (locs : List Loc) (ls : Array Slot), wX8_renew_L17  K36 post n y1 σ → (∀ (y1 : Int32) (σ : hsS) (H : Heap) (locs : List Loc) (ls : Array Slot), K36 y1 σ → va_P D vwCl (mw c q σ) H → va_S (wdA 31 q) s.heap H locs → lv_has ls 2 [(0, .ref (q 0)), (1, .int y1)] → W p l e (headSpec (Cond.code yX8_renew cX8_renew 2 none :: tb_L) { frames := 0, cells := 0, slots := 0, locals := 0 }).room s m [.ref (q 0)].toArray below meth c₀ H locs 0 0 (MQ below (va_Qv post (wdB D (mw c q)) (wdA 31 q)) [.ref (q 0)].toArray s 0 0 (wdA 31 q)) (F0 m 36 ls [])) → va_P D vwCl (mw c q σ) H → va_S (wdA 31 q) s.heap H locs → lv_has ls 2 [(0, .ref (q 0)), (1, .int y1)] → W p l e (headSpec (Cond.code yX8_renew cX8_renew 2 none :: tb_L) { frames := 0, cells := 0, slots := 0, locals := 0 }).room s m [.ref (q 0)].toArray below meth c₀ H locs 0 0 (MQ below (va_Qv post (wdB D (mw c q)) (wdA 31 q)) [.ref (q 0)].toArray s 0 0 (wdA 31 q)) (F0 m 17 ls []) := by
    intro K36 n
    induction n with
    | zero =>
      intro y1 σ H locs ls hw hk36 hP hS hl
      exact (show False from hw).elim
    | succ n ih =>
      intro y1 σ H locs ls hw hk36 hP hS hl
      rw [wX8_renew_L17] at hw
      have hD : va_D (wdA 31 q) (mw c q σ) := mw_D hD0
      refine lv_iload_n hx hb dX8_renew_17 rfl (lv_at hl 1 rfl) ?_
      refine lv_bipush (v := (8 : Int32)) hx hb dX8_renew_18 (by decide) ?_
      refine lv_icmp_ge (tgt := 36) hx hb dX8_renew_20 (by decide) (fun c3 => ?_) (fun c3 => ?_)
      · have hw := hw.1 c3
        exact hk36 y1 σ _ _ _ hw hP hS (lv_sub hl [0, 1] rfl)
      · have hw := hw.2 c3
        refine lv_aload_n hx hb dX8_renew_23 rfl (lv_at hl 0 rfl) ?_
        refine va_get (D := D) (ci := 8) (C := RX8) (T := TX8) (N := 57) hx hb htb inX8 hown hK hP 0 (mw_0 c q σ) rfl 55 (by decide) (htb _ tb_1236) (fun _ h9 => h9) rfl dX8_renew_24 ?_
        refine lv_iload_n hx hb dX8_renew_27 rfl (lv_at hl 1 rfl) ?_
        refine lv_iconst (v := (-1 : Int32)) hx hb dX8_renew_28 (by decide) ?_
        refine va_iast hx hb hK hP hD hS 29 28 (mw_29 c q σ) rfl hw.1 dX8_renew_29 (fun H locs hP hD hS => ?_)
        have hw := hw.2
        have hP : va_P D vwCl (mw c q (hsA σ 29 (upd (σ.2.1 29) y1.toNatClampNeg (-1 : Int32)))) H := hP
        obtain ⟨σ4, eσ4⟩ : ∃ z : hsS, z = hsA σ 29 (upd (σ.2.1 29) y1.toNatClampNeg (-1 : Int32)) := ⟨_, rfl⟩
        rw [← eσ4] at hP
        have hD : va_D (wdA 31 q) (mw c q σ4) := mw_D hD0
        have hw := hw σ4 eσ4
        obtain ⟨v5, ev5⟩ : ∃ z : Int32, z = y1 + (1 : Int32) := ⟨_, rfl⟩
        have hw := hw v5 ev5
        refine lv_iinc (v := v5) (lv' := [(1, .int v5), (0, .ref (q 0))]) hx hb dX8_renew_30 hl (k := 1) rfl (by rw [ev5]; rfl) (by decide) rfl (fun ls hl => ?_)
        refine lv_goto (tgt := 17) hx hb dX8_renew_33 (by decide) ?_
        exact ih v5 σ4 _ _ _ hw hk36 hP hS (lv_sub hl [1, 0] rfl)
  have hl := lv_entry ([.ref (q 0)]) (n := 2) (Nat.le_of_ble_eq_true rfl)
  rw [lg_entry_eq]
  generalize (lg_sl ([.ref (q 0)]) ++ List.replicate (2 - (lg_sl ([.ref (q 0)])).length) Slot.unset).toArray = ls at hl ⊢
  have hl : lv_has ls 2 [(0, .ref (q 0))] := hl
  unfold wX8_renew at hw
  refine lv_aload_n hx hb dX8_renew_0 rfl (lv_at hl 0 rfl) ?_
  refine lv_dup hx hb dX8_renew_1 rfl ?_
  refine va_get (D := D) (ci := 8) (C := RX8) (T := TX8) (N := 57) hx hb htb inX8 hown hK hP 0 (mw_0 c q σ) rfl 12 (by decide) (htb _ tb_1193) (fun _ h9 => h9) rfl dX8_renew_2 ?_
  refine lv_iconst (v := (1 : Int32)) hx hb dX8_renew_5 (by decide) ?_
  refine lv_iadd hx hb dX8_renew_6 ?_
  refine va_put (D := D) (ci := 8) (ty := .int) (C := RX8) (T := TX8) (N := 57) hx hb htb inX8 tyX8 tyX8_ok nmX8 hown hK hP hD hS 0 (mw_0 c q σ) rfl 12 (by decide) (htb _ tb_1193) (fun _ h9 => h9) rfl (by decide +kernel) rfl rfl (Nat.le_of_ble_eq_true rfl) dX8_renew_7 (fun H locs hP hD hS => ?_)
  have hP : va_P D vwCl (mw c q (hsI σ 12 ((σ.1 12) + (1 : Int32)))) H := hP
  obtain ⟨σ1, eσ1⟩ : ∃ z : hsS, z = hsI σ 12 ((σ.1 12) + (1 : Int32)) := ⟨_, rfl⟩
  rw [← eσ1] at hP
  have hD : va_D (wdA 31 q) (mw c q σ1) := mw_D hD0
  have hw := hw σ1 eσ1
  refine lv_aload_n hx hb dX8_renew_10 rfl (lv_at hl 0 rfl) ?_
  refine lv_iconst (v := (0 : Int32)) hx hb dX8_renew_11 (by decide) ?_
  refine va_put (D := D) (ci := 8) (ty := .int) (C := RX8) (T := TX8) (N := 57) hx hb htb inX8 tyX8 tyX8_ok nmX8 hown hK hP hD hS 0 (mw_0 c q σ1) rfl 52 (by decide) (htb _ tb_1233) (fun _ h9 => h9) rfl (by decide +kernel) rfl rfl (Nat.le_of_ble_eq_true rfl) dX8_renew_12 (fun H locs hP hD hS => ?_)
  have hP : va_P D vwCl (mw c q (hsI σ1 52 (0 : Int32))) H := hP
  obtain ⟨σ2, eσ2⟩ : ∃ z : hsS, z = hsI σ1 52 (0 : Int32) := ⟨_, rfl⟩
  rw [← eσ2] at hP
  have hD : va_D (wdA 31 q) (mw c q σ2) := mw_D hD0
  have hw := hw σ2 eσ2
  refine lv_iconst (v := (0 : Int32)) hx hb dX8_renew_15 (by decide) ?_
  refine lv_istore_n (lv' := [(1, .int (0 : Int32)), (0, .ref (q 0))]) hx hb dX8_renew_16 rfl hl (by decide) rfl (fun ls hl => ?_)
  obtain ⟨n6, hw⟩ := hw
  refine L17 _ n6 (0 : Int32) σ2 _ _ _ hw ?_ hP hS (lv_sub hl [1, 0] rfl)
  intro v7 σ8 H locs ls hw hP hS hl
  have hD : va_D (wdA 31 q) (mw c q σ8) := mw_D hD0
  exact W.vret hx hb hr (fun t ht hW => ⟨⟨σ8, rfl, hw, by unfold wdB; rw [ht]; exact hP⟩, hS.F ht⟩) hS.2.2 dX8_renew_36
def wX8_hall_L125 (z1 : Int32) (K146 : hsS → Prop) (post : Int32 → hsS → Prop) : Nat → hsS → Prop
  | 0, _ => False
  | n + 1, σ => (((σ.1 21) = (0 : Int32) → (((σ.1 17) = (0 : Int32) → K146 σ) ∧ (¬ (σ.1 17) = (0 : Int32) → wX8_readLine  (fun σ31 => wX8_hall_L125 z1 K146 post n σ31) σ))) ∧ (¬ (σ.1 21) = (0 : Int32) → K146 σ))
def wX8_hall_L278 (z1 : Int32) (z2 : Int32) (K315 : Int32 → hsS → Prop) (post : Int32 → hsS → Prop) : Nat → Int32 → hsS → Prop
  | 0, _, _ => False
  | n + 1, y3, σ => (((10 : Int32) ≤ y3 → K315 y3 σ) ∧ (¬ (10 : Int32) ≤ y3 → vp_in ((((8 : Int32) + z2) * (10 : Int32)) + y3) 160 ∧ vp_in ((z2 * (10 : Int32)) + y3) 160 ∧ ∀ σ45 : hsS, σ45 = hsA σ 8 (upd (σ.2.1 8) ((z2 * (10 : Int32)) + y3).toNatClampNeg (σ.2.1 8 ((((8 : Int32) + z2) * (10 : Int32)) + y3).toNatClampNeg)) → ∀ v46 : Int32, v46 = y3 + (1 : Int32) → wX8_hall_L278 z1 z2 K315 post n v46 σ45))
def wX8_hall_L240 (z1 : Int32) (K321 : Int32 → hsS → Prop) (post : Int32 → hsS → Prop) : Nat → Int32 → hsS → Prop
  | 0, _, _ => False
  | n + 1, y2, σ => (((8 : Int32) ≤ y2 → K321 y2 σ) ∧ (¬ (8 : Int32) ≤ y2 → vp_in ((8 : Int32) + y2) 16 ∧ vp_in y2 16 ∧ ∀ σ42 : hsS, σ42 = hsA σ 7 (upd (σ.2.1 7) y2.toNatClampNeg (σ.2.1 7 ((8 : Int32) + y2).toNatClampNeg)) → vp_in ((8 : Int32) + y2) 16 ∧ vp_in y2 16 ∧ ∀ σ43 : hsS, σ43 = hsA σ42 11 (upd (σ42.2.1 11) y2.toNatClampNeg (vp_nar .boolean (σ42.2.1 11 ((8 : Int32) + y2).toNatClampNeg))) → ∃ n47, wX8_hall_L278 z1 y2 (fun v48 σ49 => ∀ v50 : Int32, v50 = y2 + (1 : Int32) → wX8_hall_L240 z1 K321 post n v50 σ49) post n47 (0 : Int32) σ43))
def wX8_hall_L323 (z1 : Int32) (K350 : Int32 → hsS → Prop) (post : Int32 → hsS → Prop) : Nat → Int32 → hsS → Prop
  | 0, _, _ => False
  | n + 1, y2, σ => (((8 : Int32) ≤ y2 → K350 y2 σ) ∧ (¬ (8 : Int32) ≤ y2 → vp_in ((8 : Int32) + y2) 16 ∧ vp_in y2 16 ∧ ∀ σ55 : hsS, σ55 = hsA σ 9 (upd (σ.2.1 9) y2.toNatClampNeg (σ.2.1 9 ((8 : Int32) + y2).toNatClampNeg)) → ∀ v56 : Int32, v56 = y2 + (1 : Int32) → wX8_hall_L323 z1 K350 post n v56 σ55))
def wX8_hall_L352 (z1 : Int32) (K379 : Int32 → hsS → Prop) (post : Int32 → hsS → Prop) : Nat → Int32 → hsS → Prop
  | 0, _, _ => False
  | n + 1, y2, σ => (((9 : Int32) ≤ y2 → K379 y2 σ) ∧ (¬ (9 : Int32) ≤ y2 → vp_in ((9 : Int32) + y2) 18 ∧ vp_in y2 18 ∧ ∀ σ61 : hsS, σ61 = hsA σ 10 (upd (σ.2.1 10) y2.toNatClampNeg (σ.2.1 10 ((9 : Int32) + y2).toNatClampNeg)) → ∀ v62 : Int32, v62 = y2 + (1 : Int32) → wX8_hall_L352 z1 K379 post n v62 σ61))
def wX8_hall (x1 : Int32) (post : Int32 → hsS → Prop) (σ : hsS) : Prop := ∀ σ1 : hsS, σ1 = hsI σ 0 (0 : Int32) → ((x1 < (0 : Int32) → wX8_fail (1 : Int32) (fun r3 σ4 => post r3 σ4) σ1) ∧ (¬ x1 < (0 : Int32) → ((x1 ≤ (σ1.1 14) → ∀ σ6 : hsS, σ6 = hsI σ1 14 (0 : Int32) → ∀ σ7 : hsS, σ7 = hsI σ6 16 x1 → ∀ σ8 : hsS, σ8 = hsI σ7 15 (0 : Int32) → ∀ σ9 : hsS, σ9 = hsI σ8 21 (0 : Int32) → ∀ σ10 : hsS, σ10 = hsI σ9 23 (-1 : Int32) → ∀ σ11 : hsS, σ11 = hsA σ10 2 (upd (σ10.2.1 2) (1 : Int32).toNatClampNeg (0 : Int32)) → ∀ σ12 : hsS, σ12 = hsA σ11 3 (upd (σ11.2.1 3) (1 : Int32).toNatClampNeg (0 : Int32)) → ∀ σ13 : hsS, σ13 = hsA σ12 4 (upd (σ12.2.1 4) (1 : Int32).toNatClampNeg (1 : Int32)) → ∀ σ14 : hsS, σ14 = hsA σ13 5 (upd (σ13.2.1 5) (1 : Int32).toNatClampNeg (0 : Int32)) → ∀ σ15 : hsS, σ15 = hsA σ14 6 (upd (σ14.2.1 6) (1 : Int32).toNatClampNeg (0 : Int32)) → wX8_step  (fun σ17 => wX8_word 0 (fun σ19 => wX8_readNumber (2 : Int32) (9 : Int32) (1000 : Int32) (0 : Int32) (fun r20 σ21 => ∀ σ22 : hsS, σ22 = hsA σ21 1 (upd (σ21.2.1 1) (1 : Int32).toNatClampNeg r20) → (((σ22.1 21) = (0 : Int32) → wX8_step  (fun σ25 => wX8_semi  (fun σ27 => ∃ n32, wX8_hall_L125 x1 (fun σ33 => (((σ33.1 21) = (0 : Int32) → ∀ σ35 : hsS, σ35 = hsA σ33 1 (upd (σ33.2.1 1) (0 : Int32).toNatClampNeg (σ33.2.1 1 (1 : Int32).toNatClampNeg)) → ∀ σ36 : hsS, σ36 = hsA σ35 2 (upd (σ35.2.1 2) (0 : Int32).toNatClampNeg (σ35.2.1 2 (1 : Int32).toNatClampNeg)) → ∀ σ37 : hsS, σ37 = hsA σ36 3 (upd (σ36.2.1 3) (0 : Int32).toNatClampNeg (σ36.2.1 3 (1 : Int32).toNatClampNeg)) → ∀ σ38 : hsS, σ38 = hsA σ37 4 (upd (σ37.2.1 4) (0 : Int32).toNatClampNeg (σ37.2.1 4 (1 : Int32).toNatClampNeg)) → ∀ σ39 : hsS, σ39 = hsA σ38 5 (upd (σ38.2.1 5) (0 : Int32).toNatClampNeg (σ38.2.1 5 (1 : Int32).toNatClampNeg)) → ∀ σ40 : hsS, σ40 = hsA σ39 6 (upd (σ39.2.1 6) (0 : Int32).toNatClampNeg (σ39.2.1 6 (1 : Int32).toNatClampNeg)) → ∃ n51, wX8_hall_L240 x1 (fun v52 σ53 => ∃ n57, wX8_hall_L323 x1 (fun v58 σ59 => ∃ n63, wX8_hall_L352 x1 (fun v64 σ65 => wX8_renew  (fun σ67 => post (0 : Int32) σ67) σ65) post n63 (0 : Int32) σ59) post n57 (0 : Int32) σ53) post n51 (0 : Int32) σ40) ∧ (¬ (σ33.1 21) = (0 : Int32) → ∀ σ68 : hsS, σ68 = hsI σ33 23 (σ33.1 22) → post (σ68.1 21) σ68))) post n32  σ27) σ25) σ22) ∧ (¬ (σ22.1 21) = (0 : Int32) → wX8_semi  (fun σ70 => ∃ n71, wX8_hall_L125 x1 (fun σ72 => (((σ72.1 21) = (0 : Int32) → ∀ σ74 : hsS, σ74 = hsA σ72 1 (upd (σ72.2.1 1) (0 : Int32).toNatClampNeg (σ72.2.1 1 (1 : Int32).toNatClampNeg)) → ∀ σ75 : hsS, σ75 = hsA σ74 2 (upd (σ74.2.1 2) (0 : Int32).toNatClampNeg (σ74.2.1 2 (1 : Int32).toNatClampNeg)) → ∀ σ76 : hsS, σ76 = hsA σ75 3 (upd (σ75.2.1 3) (0 : Int32).toNatClampNeg (σ75.2.1 3 (1 : Int32).toNatClampNeg)) → ∀ σ77 : hsS, σ77 = hsA σ76 4 (upd (σ76.2.1 4) (0 : Int32).toNatClampNeg (σ76.2.1 4 (1 : Int32).toNatClampNeg)) → ∀ σ78 : hsS, σ78 = hsA σ77 5 (upd (σ77.2.1 5) (0 : Int32).toNatClampNeg (σ77.2.1 5 (1 : Int32).toNatClampNeg)) → ∀ σ79 : hsS, σ79 = hsA σ78 6 (upd (σ78.2.1 6) (0 : Int32).toNatClampNeg (σ78.2.1 6 (1 : Int32).toNatClampNeg)) → ∃ n80, wX8_hall_L240 x1 (fun v81 σ82 => ∃ n83, wX8_hall_L323 x1 (fun v84 σ85 => ∃ n86, wX8_hall_L352 x1 (fun v87 σ88 => wX8_renew  (fun σ90 => post (0 : Int32) σ90) σ88) post n86 (0 : Int32) σ85) post n83 (0 : Int32) σ82) post n80 (0 : Int32) σ79) ∧ (¬ (σ72.1 21) = (0 : Int32) → ∀ σ91 : hsS, σ91 = hsI σ72 23 (σ72.1 22) → post (σ91.1 21) σ91))) post n71  σ70) σ22))) σ19) σ17) σ15) ∧ (¬ x1 ≤ (σ1.1 14) → wX8_fail (1 : Int32) (fun r92 σ93 => post r92 σ93) σ1))))
set_option maxHeartbeats 4000000 in
set_option maxRecDepth 100000 in
theorem kcX8_hall (l : Launch) (D : va_G) (c : Nat → ClassId) (q : Nat → Nat) (ev : State → Heap → Prop) (hev : evOK (wdA 31 q) ev) (adK adV : Nat → Nat) (hZ : ∀ (U : State) (H : Heap), ev U H → evS (wdA 31 q) adK adV U H) (σ : hsS) (x1 : Int32) (post : Int32 → hsS → Prop) (hw : wX8_hall x1 post σ) : Met l yX8_hall (Cond.code yX8_hall cX8_hall 4 (some .int) :: tb_L) { frames := 8, cells := 0, slots := 0, locals := 178 } (wdPc D (mw c q) (mwT c) (wdA 31 q) ev σ [.ref (q 0), .int x1]) (va_Qi post (wdB D (mw c q)) (wdA 31 q)) 0 0 (wdA 31 q) := by
  refine Met.ofW (cc := cX8_hall) (maxL := 4) (ret := (some .int)) (by decide) rfl ?_
  intro p e s m args below meth c₀ s₁ Bd hml hv
  obtain ⟨rfl, hP, hK, hD0, hE⟩ := hv
  have hx := Bd.exec
  have hb := Bd.bytes
  have hr := Bd.returns
  have hts := atoms_spec (ws := Cond.code yX8_hall cX8_hall 4 (some .int) :: tb_L) Bd.pre
  have htb : ∀ w ∈ tb_L, w.before [.ref (q 0), .int x1].toArray s = true := fun w h => hts w (List.mem_cons_of_mem _ h)
  have hown : s.vm.findClass RX8 = some m.cls := findClass_of_methodNamed Bd.named
  have hlocks := Bd.notSynchronized
  have hS : va_S (wdA 31 q) s.heap s.heap [] := va_S.rf
  have hD := hD0
  have L125 : ∀ (K146 : hsS → Prop) (z1 : Int32) (n : Nat) (σ : hsS) (H : Heap) (locs : List Loc) (ls : Array Slot), wX8_hall_L125 z1 K146 post n σ → (∀ (σ : hsS) (H : Heap) (locs : List Loc) (ls : Array Slot), K146 σ → va_P D vwCl (mw c q σ) H → va_S (wdA 31 q) s.heap H locs → lv_has ls 4 [(0, .ref (q 0)), (1, .int z1)] → W p l e (headSpec (Cond.code yX8_hall cX8_hall 4 (some .int) :: tb_L) { frames := 8, cells := 0, slots := 0, locals := 178 }).room s m [.ref (q 0), .int x1].toArray below meth c₀ H locs 0 0 (MQ below (va_Qi post (wdB D (mw c q)) (wdA 31 q)) [.ref (q 0), .int x1].toArray s 0 0 (wdA 31 q)) (F0 m 146 ls [])) → va_P D vwCl (mw c q σ) H → va_S (wdA 31 q) s.heap H locs → lv_has ls 4 [(0, .ref (q 0)), (1, .int z1)] → W p l e (headSpec (Cond.code yX8_hall cX8_hall 4 (some .int) :: tb_L) { frames := 8, cells := 0, slots := 0, locals := 178 }).room s m [.ref (q 0), .int x1].toArray below meth c₀ H locs 0 0 (MQ below (va_Qi post (wdB D (mw c q)) (wdA 31 q)) [.ref (q 0), .int x1].toArray s 0 0 (wdA 31 q)) (F0 m 125 ls []) := by
    intro K146 z1 n
    induction n with
    | zero =>
      intro σ H locs ls hw hk146 hP hS hl
      exact (show False from hw).elim
    | succ n ih =>
      intro σ H locs ls hw hk146 hP hS hl
      rw [wX8_hall_L125] at hw
      have hD : va_D (wdA 31 q) (mw c q σ) := mw_D hD0
      refine lv_aload_n hx hb dX8_hall_125 rfl (lv_at hl 0 rfl) ?_
      refine va_get (D := D) (ci := 8) (C := RX8) (T := TX8) (N := 57) hx hb htb inX8 hown hK hP 0 (mw_0 c q σ) rfl 21 (by decide) (htb _ tb_1202) (fun _ h9 => h9) rfl dX8_hall_126 ?_
      refine lv_if_ne (tgt := 146) hx hb dX8_hall_129 (by decide) (fun c28 => ?_) (fun c28 => ?_)
      · have hw := hw.2 c28
        exact hk146  σ _ _ _ hw hP hS (lv_sub hl [0, 1] rfl)
      · have hw := hw.1 c28
        refine lv_aload_n hx hb dX8_hall_132 rfl (lv_at hl 0 rfl) ?_
        refine va_get (D := D) (ci := 8) (C := RX8) (T := TX8) (N := 57) hx hb htb inX8 hown hK hP 0 (mw_0 c q σ) rfl 17 (by decide) (htb _ tb_1198) (fun _ h9 => h9) rfl dX8_hall_133 ?_
        refine lv_if_eq (tgt := 146) hx hb dX8_hall_136 (by decide) (fun c29 => ?_) (fun c29 => ?_)
        · have hw := hw.1 c29
          exact hk146  σ _ _ _ hw hP hS (lv_sub hl [0, 1] rfl)
        · have hw := hw.2 c29
          refine lv_aload_n hx hb dX8_hall_139 rfl (lv_at hl 0 rfl) ?_
          refine va_callv (va_runV (As := []) (rest := []) ⟨hx, hb, hml, hown, htb⟩ (kcX8_readLine l D c q ev hev adK adV hZ σ  _ hw) (tb_CW htb kX8_readLine tb_1408 tb_1410 tb_50 ⟨Nat.le_of_ble_eq_true rfl, Nat.le_of_ble_eq_true rfl⟩) (wd_preV (wd := mw c q) (k := 0) hev hK hP hD hE hS (mw_0 c q σ) rfl) rfl rfl hl.1 rfl (lv_room (Nat.le_of_ble_eq_true rfl)) dX8_hall_140 ⟨Nat.zero_le _, Nat.zero_le _⟩) hS (fun q _ h => h) (fun q h => h) (fun σ31 t H1 locs1 ht hvm hw hB hz1 hk1 hS => ?_)
          have hP : va_P D vwCl (mw c q σ31) H1 := ht ▸ hB
          have hD : va_D (wdA 31 q) (mw c q σ31) := mw_D hD0
          refine lv_goto (tgt := 125) hx hb dX8_hall_143 (by decide) ?_
          exact ih  σ31 _ _ _ hw hk146 hP hS (lv_sub hl [0, 1] rfl)
  have L278 : ∀ (K315 : Int32 → hsS → Prop) (z1 : Int32) (z2 : Int32) (n : Nat) (y3 : Int32) (σ : hsS) (H : Heap) (locs : List Loc) (ls : Array Slot), wX8_hall_L278 z1 z2 K315 post n y3 σ → (∀ (y3 : Int32) (σ : hsS) (H : Heap) (locs : List Loc) (ls : Array Slot), K315 y3 σ → va_P D vwCl (mw c q σ) H → va_S (wdA 31 q) s.heap H locs → lv_has ls 4 [(0, .ref (q 0)), (1, .int z1), (2, .int z2), (3, .int y3)] → W p l e (headSpec (Cond.code yX8_hall cX8_hall 4 (some .int) :: tb_L) { frames := 8, cells := 0, slots := 0, locals := 178 }).room s m [.ref (q 0), .int x1].toArray below meth c₀ H locs 0 0 (MQ below (va_Qi post (wdB D (mw c q)) (wdA 31 q)) [.ref (q 0), .int x1].toArray s 0 0 (wdA 31 q)) (F0 m 315 ls [])) → va_P D vwCl (mw c q σ) H → va_S (wdA 31 q) s.heap H locs → lv_has ls 4 [(0, .ref (q 0)), (1, .int z1), (2, .int z2), (3, .int y3)] → W p l e (headSpec (Cond.code yX8_hall cX8_hall 4 (some .int) :: tb_L) { frames := 8, cells := 0, slots := 0, locals := 178 }).room s m [.ref (q 0), .int x1].toArray below meth c₀ H locs 0 0 (MQ below (va_Qi post (wdB D (mw c q)) (wdA 31 q)) [.ref (q 0), .int x1].toArray s 0 0 (wdA 31 q)) (F0 m 278 ls []) := by
    intro K315 z1 z2 n
    induction n with
    | zero =>
      intro y3 σ H locs ls hw hk315 hP hS hl
      exact (show False from hw).elim
    | succ n ih =>
      intro y3 σ H locs ls hw hk315 hP hS hl
      rw [wX8_hall_L278] at hw
      have hD : va_D (wdA 31 q) (mw c q σ) := mw_D hD0
      refine lv_iload_n hx hb dX8_hall_278 rfl (lv_at hl 3 rfl) ?_
      refine lv_bipush (v := (10 : Int32)) hx hb dX8_hall_279 (by decide) ?_
      refine lv_icmp_ge (tgt := 315) hx hb dX8_hall_281 (by decide) (fun c44 => ?_) (fun c44 => ?_)
      · have hw := hw.1 c44
        exact hk315 y3 σ _ _ _ hw hP hS (lv_sub hl [0, 1, 2, 3] rfl)
      · have hw := hw.2 c44
        refine lv_aload_n hx hb dX8_hall_284 rfl (lv_at hl 0 rfl) ?_
        refine va_get (D := D) (ci := 8) (C := RX8) (T := TX8) (N := 57) hx hb htb inX8 hown hK hP 0 (mw_0 c q σ) rfl 8 (by decide) (htb _ tb_1189) (fun _ h9 => h9) rfl dX8_hall_285 ?_
        refine lv_iload_n hx hb dX8_hall_288 rfl (lv_at hl 2 rfl) ?_
        refine lv_bipush (v := (10 : Int32)) hx hb dX8_hall_289 (by decide) ?_
        refine lv_imul hx hb dX8_hall_291 ?_
        refine lv_iload_n hx hb dX8_hall_292 rfl (lv_at hl 3 rfl) ?_
        refine lv_iadd hx hb dX8_hall_293 ?_
        refine lv_aload_n hx hb dX8_hall_294 rfl (lv_at hl 0 rfl) ?_
        refine va_get (D := D) (ci := 8) (C := RX8) (T := TX8) (N := 57) hx hb htb inX8 hown hK hP 0 (mw_0 c q σ) rfl 8 (by decide) (htb _ tb_1189) (fun _ h9 => h9) rfl dX8_hall_295 ?_
        refine lv_bipush (v := (8 : Int32)) hx hb dX8_hall_298 (by decide) ?_
        refine lv_iload_n hx hb dX8_hall_300 rfl (lv_at hl 2 rfl) ?_
        refine lv_iadd hx hb dX8_hall_301 ?_
        refine lv_bipush (v := (10 : Int32)) hx hb dX8_hall_302 (by decide) ?_
        refine lv_imul hx hb dX8_hall_304 ?_
        refine lv_iload_n hx hb dX8_hall_305 rfl (lv_at hl 3 rfl) ?_
        refine lv_iadd hx hb dX8_hall_306 ?_
        refine va_iald hx hb hK hP 8 7 (mw_8 c q σ) rfl hw.1 dX8_hall_307 ?_
        have hw := hw.2
        refine va_iast hx hb hK hP hD hS 8 7 (mw_8 c q σ) rfl hw.1 dX8_hall_308 (fun H locs hP hD hS => ?_)
        have hw := hw.2
        have hP : va_P D vwCl (mw c q (hsA σ 8 (upd (σ.2.1 8) ((z2 * (10 : Int32)) + y3).toNatClampNeg (σ.2.1 8 ((((8 : Int32) + z2) * (10 : Int32)) + y3).toNatClampNeg)))) H := hP
        obtain ⟨σ45, eσ45⟩ : ∃ z : hsS, z = hsA σ 8 (upd (σ.2.1 8) ((z2 * (10 : Int32)) + y3).toNatClampNeg (σ.2.1 8 ((((8 : Int32) + z2) * (10 : Int32)) + y3).toNatClampNeg)) := ⟨_, rfl⟩
        rw [← eσ45] at hP
        have hD : va_D (wdA 31 q) (mw c q σ45) := mw_D hD0
        have hw := hw σ45 eσ45
        obtain ⟨v46, ev46⟩ : ∃ z : Int32, z = y3 + (1 : Int32) := ⟨_, rfl⟩
        have hw := hw v46 ev46
        refine lv_iinc (v := v46) (lv' := [(3, .int v46), (0, .ref (q 0)), (1, .int z1), (2, .int z2)]) hx hb dX8_hall_309 hl (k := 3) rfl (by rw [ev46]; rfl) (by decide) rfl (fun ls hl => ?_)
        refine lv_goto (tgt := 278) hx hb dX8_hall_312 (by decide) ?_
        exact ih v46 σ45 _ _ _ hw hk315 hP hS (lv_sub hl [1, 2, 3, 0] rfl)
  have L240 : ∀ (K321 : Int32 → hsS → Prop) (z1 : Int32) (n : Nat) (y2 : Int32) (σ : hsS) (H : Heap) (locs : List Loc) (ls : Array Slot), wX8_hall_L240 z1 K321 post n y2 σ → (∀ (y2 : Int32) (σ : hsS) (H : Heap) (locs : List Loc) (ls : Array Slot), K321 y2 σ → va_P D vwCl (mw c q σ) H → va_S (wdA 31 q) s.heap H locs → lv_has ls 4 [(0, .ref (q 0)), (1, .int z1), (2, .int y2)] → W p l e (headSpec (Cond.code yX8_hall cX8_hall 4 (some .int) :: tb_L) { frames := 8, cells := 0, slots := 0, locals := 178 }).room s m [.ref (q 0), .int x1].toArray below meth c₀ H locs 0 0 (MQ below (va_Qi post (wdB D (mw c q)) (wdA 31 q)) [.ref (q 0), .int x1].toArray s 0 0 (wdA 31 q)) (F0 m 321 ls [])) → va_P D vwCl (mw c q σ) H → va_S (wdA 31 q) s.heap H locs → lv_has ls 4 [(0, .ref (q 0)), (1, .int z1), (2, .int y2)] → W p l e (headSpec (Cond.code yX8_hall cX8_hall 4 (some .int) :: tb_L) { frames := 8, cells := 0, slots := 0, locals := 178 }).room s m [.ref (q 0), .int x1].toArray below meth c₀ H locs 0 0 (MQ below (va_Qi post (wdB D (mw c q)) (wdA 31 q)) [.ref (q 0), .int x1].toArray s 0 0 (wdA 31 q)) (F0 m 240 ls []) := by
    intro K321 z1 n
    induction n with
    | zero =>
      intro y2 σ H locs ls hw hk321 hP hS hl
      exact (show False from hw).elim
    | succ n ih =>
      intro y2 σ H locs ls hw hk321 hP hS hl
      rw [wX8_hall_L240] at hw
      have hD : va_D (wdA 31 q) (mw c q σ) := mw_D hD0
      refine lv_iload_n hx hb dX8_hall_240 rfl (lv_at hl 2 rfl) ?_
      refine lv_bipush (v := (8 : Int32)) hx hb dX8_hall_241 (by decide) ?_
      refine lv_icmp_ge (tgt := 321) hx hb dX8_hall_243 (by decide) (fun c41 => ?_) (fun c41 => ?_)
      · have hw := hw.1 c41
        exact hk321 y2 σ _ _ _ hw hP hS (lv_sub hl [0, 1, 2] rfl)
      · have hw := hw.2 c41
        refine lv_aload_n hx hb dX8_hall_246 rfl (lv_at hl 0 rfl) ?_
        refine va_get (D := D) (ci := 8) (C := RX8) (T := TX8) (N := 57) hx hb htb inX8 hown hK hP 0 (mw_0 c q σ) rfl 7 (by decide) (htb _ tb_1188) (fun _ h9 => h9) rfl dX8_hall_247 ?_
        refine lv_iload_n hx hb dX8_hall_250 rfl (lv_at hl 2 rfl) ?_
        refine lv_aload_n hx hb dX8_hall_251 rfl (lv_at hl 0 rfl) ?_
        refine va_get (D := D) (ci := 8) (C := RX8) (T := TX8) (N := 57) hx hb htb inX8 hown hK hP 0 (mw_0 c q σ) rfl 7 (by decide) (htb _ tb_1188) (fun _ h9 => h9) rfl dX8_hall_252 ?_
        refine lv_bipush (v := (8 : Int32)) hx hb dX8_hall_255 (by decide) ?_
        refine lv_iload_n hx hb dX8_hall_257 rfl (lv_at hl 2 rfl) ?_
        refine lv_iadd hx hb dX8_hall_258 ?_
        refine va_iald hx hb hK hP 7 6 (mw_7 c q σ) rfl hw.1 dX8_hall_259 ?_
        have hw := hw.2
        refine va_iast hx hb hK hP hD hS 7 6 (mw_7 c q σ) rfl hw.1 dX8_hall_260 (fun H locs hP hD hS => ?_)
        have hw := hw.2
        have hP : va_P D vwCl (mw c q (hsA σ 7 (upd (σ.2.1 7) y2.toNatClampNeg (σ.2.1 7 ((8 : Int32) + y2).toNatClampNeg)))) H := hP
        obtain ⟨σ42, eσ42⟩ : ∃ z : hsS, z = hsA σ 7 (upd (σ.2.1 7) y2.toNatClampNeg (σ.2.1 7 ((8 : Int32) + y2).toNatClampNeg)) := ⟨_, rfl⟩
        rw [← eσ42] at hP
        have hD : va_D (wdA 31 q) (mw c q σ42) := mw_D hD0
        have hw := hw σ42 eσ42
        refine lv_aload_n hx hb dX8_hall_261 rfl (lv_at hl 0 rfl) ?_
        refine va_get (D := D) (ci := 8) (C := RX8) (T := TX8) (N := 57) hx hb htb inX8 hown hK hP 0 (mw_0 c q σ42) rfl 11 (by decide) (htb _ tb_1192) (fun _ h9 => h9) rfl dX8_hall_262 ?_
        refine lv_iload_n hx hb dX8_hall_265 rfl (lv_at hl 2 rfl) ?_
        refine lv_aload_n hx hb dX8_hall_266 rfl (lv_at hl 0 rfl) ?_
        refine va_get (D := D) (ci := 8) (C := RX8) (T := TX8) (N := 57) hx hb htb inX8 hown hK hP 0 (mw_0 c q σ42) rfl 11 (by decide) (htb _ tb_1192) (fun _ h9 => h9) rfl dX8_hall_267 ?_
        refine lv_bipush (v := (8 : Int32)) hx hb dX8_hall_270 (by decide) ?_
        refine lv_iload_n hx hb dX8_hall_272 rfl (lv_at hl 2 rfl) ?_
        refine lv_iadd hx hb dX8_hall_273 ?_
        refine va_zald hx hb hK hP 11 10 (mw_11 c q σ42) rfl hw.1 dX8_hall_274 ?_
        have hw := hw.2
        refine va_zast hx hb hK hP hD hS 11 10 (mw_11 c q σ42) rfl hw.1 dX8_hall_275 (fun H locs hP hD hS => ?_)
        have hw := hw.2
        have hP : va_P D vwCl (mw c q (hsA σ42 11 (upd (σ42.2.1 11) y2.toNatClampNeg (vp_nar .boolean (σ42.2.1 11 ((8 : Int32) + y2).toNatClampNeg))))) H := hP
        obtain ⟨σ43, eσ43⟩ : ∃ z : hsS, z = hsA σ42 11 (upd (σ42.2.1 11) y2.toNatClampNeg (vp_nar .boolean (σ42.2.1 11 ((8 : Int32) + y2).toNatClampNeg))) := ⟨_, rfl⟩
        rw [← eσ43] at hP
        have hD : va_D (wdA 31 q) (mw c q σ43) := mw_D hD0
        have hw := hw σ43 eσ43
        refine lv_iconst (v := (0 : Int32)) hx hb dX8_hall_276 (by decide) ?_
        refine lv_istore_n (lv' := [(3, .int (0 : Int32)), (0, .ref (q 0)), (1, .int z1), (2, .int y2)]) hx hb dX8_hall_277 rfl hl (by decide) rfl (fun ls hl => ?_)
        obtain ⟨n47, hw⟩ := hw
        refine L278 _ z1 y2 n47 (0 : Int32) σ43 _ _ _ hw ?_ hP hS (lv_sub hl [1, 2, 3, 0] rfl)
        intro v48 σ49 H locs ls hw hP hS hl
        have hD : va_D (wdA 31 q) (mw c q σ49) := mw_D hD0
        obtain ⟨v50, ev50⟩ : ∃ z : Int32, z = y2 + (1 : Int32) := ⟨_, rfl⟩
        have hw := hw v50 ev50
        refine lv_iinc (v := v50) (lv' := [(2, .int v50), (0, .ref (q 0)), (1, .int z1), (3, .int v48)]) hx hb dX8_hall_315 hl (k := 2) rfl (by rw [ev50]; rfl) (by decide) rfl (fun ls hl => ?_)
        refine lv_goto (tgt := 240) hx hb dX8_hall_318 (by decide) ?_
        exact ih v50 σ49 _ _ _ hw hk321 hP hS (lv_sub hl [1, 2, 0] rfl)
  have L323 : ∀ (K350 : Int32 → hsS → Prop) (z1 : Int32) (n : Nat) (y2 : Int32) (σ : hsS) (H : Heap) (locs : List Loc) (ls : Array Slot), wX8_hall_L323 z1 K350 post n y2 σ → (∀ (y2 : Int32) (σ : hsS) (H : Heap) (locs : List Loc) (ls : Array Slot), K350 y2 σ → va_P D vwCl (mw c q σ) H → va_S (wdA 31 q) s.heap H locs → lv_has ls 4 [(0, .ref (q 0)), (1, .int z1), (2, .int y2)] → W p l e (headSpec (Cond.code yX8_hall cX8_hall 4 (some .int) :: tb_L) { frames := 8, cells := 0, slots := 0, locals := 178 }).room s m [.ref (q 0), .int x1].toArray below meth c₀ H locs 0 0 (MQ below (va_Qi post (wdB D (mw c q)) (wdA 31 q)) [.ref (q 0), .int x1].toArray s 0 0 (wdA 31 q)) (F0 m 350 ls [])) → va_P D vwCl (mw c q σ) H → va_S (wdA 31 q) s.heap H locs → lv_has ls 4 [(0, .ref (q 0)), (1, .int z1), (2, .int y2)] → W p l e (headSpec (Cond.code yX8_hall cX8_hall 4 (some .int) :: tb_L) { frames := 8, cells := 0, slots := 0, locals := 178 }).room s m [.ref (q 0), .int x1].toArray below meth c₀ H locs 0 0 (MQ below (va_Qi post (wdB D (mw c q)) (wdA 31 q)) [.ref (q 0), .int x1].toArray s 0 0 (wdA 31 q)) (F0 m 323 ls []) := by
    intro K350 z1 n
    induction n with
    | zero =>
      intro y2 σ H locs ls hw hk350 hP hS hl
      exact (show False from hw).elim
    | succ n ih =>
      intro y2 σ H locs ls hw hk350 hP hS hl
      rw [wX8_hall_L323] at hw
      have hD : va_D (wdA 31 q) (mw c q σ) := mw_D hD0
      refine lv_iload_n hx hb dX8_hall_323 rfl (lv_at hl 2 rfl) ?_
      refine lv_bipush (v := (8 : Int32)) hx hb dX8_hall_324 (by decide) ?_
      refine lv_icmp_ge (tgt := 350) hx hb dX8_hall_326 (by decide) (fun c54 => ?_) (fun c54 => ?_)
      · have hw := hw.1 c54
        exact hk350 y2 σ _ _ _ hw hP hS (lv_sub hl [0, 1, 2] rfl)
      · have hw := hw.2 c54
        refine lv_aload_n hx hb dX8_hall_329 rfl (lv_at hl 0 rfl) ?_
        refine va_get (D := D) (ci := 8) (C := RX8) (T := TX8) (N := 57) hx hb htb inX8 hown hK hP 0 (mw_0 c q σ) rfl 9 (by decide) (htb _ tb_1190) (fun _ h9 => h9) rfl dX8_hall_330 ?_
        refine lv_iload_n hx hb dX8_hall_333 rfl (lv_at hl 2 rfl) ?_
        refine lv_aload_n hx hb dX8_hall_334 rfl (lv_at hl 0 rfl) ?_
        refine va_get (D := D) (ci := 8) (C := RX8) (T := TX8) (N := 57) hx hb htb inX8 hown hK hP 0 (mw_0 c q σ) rfl 9 (by decide) (htb _ tb_1190) (fun _ h9 => h9) rfl dX8_hall_335 ?_
        refine lv_bipush (v := (8 : Int32)) hx hb dX8_hall_338 (by decide) ?_
        refine lv_iload_n hx hb dX8_hall_340 rfl (lv_at hl 2 rfl) ?_
        refine lv_iadd hx hb dX8_hall_341 ?_
        refine va_iald hx hb hK hP 9 8 (mw_9 c q σ) rfl hw.1 dX8_hall_342 ?_
        have hw := hw.2
        refine va_iast hx hb hK hP hD hS 9 8 (mw_9 c q σ) rfl hw.1 dX8_hall_343 (fun H locs hP hD hS => ?_)
        have hw := hw.2
        have hP : va_P D vwCl (mw c q (hsA σ 9 (upd (σ.2.1 9) y2.toNatClampNeg (σ.2.1 9 ((8 : Int32) + y2).toNatClampNeg)))) H := hP
        obtain ⟨σ55, eσ55⟩ : ∃ z : hsS, z = hsA σ 9 (upd (σ.2.1 9) y2.toNatClampNeg (σ.2.1 9 ((8 : Int32) + y2).toNatClampNeg)) := ⟨_, rfl⟩
        rw [← eσ55] at hP
        have hD : va_D (wdA 31 q) (mw c q σ55) := mw_D hD0
        have hw := hw σ55 eσ55
        obtain ⟨v56, ev56⟩ : ∃ z : Int32, z = y2 + (1 : Int32) := ⟨_, rfl⟩
        have hw := hw v56 ev56
        refine lv_iinc (v := v56) (lv' := [(2, .int v56), (0, .ref (q 0)), (1, .int z1)]) hx hb dX8_hall_344 hl (k := 2) rfl (by rw [ev56]; rfl) (by decide) rfl (fun ls hl => ?_)
        refine lv_goto (tgt := 323) hx hb dX8_hall_347 (by decide) ?_
        exact ih v56 σ55 _ _ _ hw hk350 hP hS (lv_sub hl [1, 2, 0] rfl)
  have L352 : ∀ (K379 : Int32 → hsS → Prop) (z1 : Int32) (n : Nat) (y2 : Int32) (σ : hsS) (H : Heap) (locs : List Loc) (ls : Array Slot), wX8_hall_L352 z1 K379 post n y2 σ → (∀ (y2 : Int32) (σ : hsS) (H : Heap) (locs : List Loc) (ls : Array Slot), K379 y2 σ → va_P D vwCl (mw c q σ) H → va_S (wdA 31 q) s.heap H locs → lv_has ls 4 [(0, .ref (q 0)), (1, .int z1), (2, .int y2)] → W p l e (headSpec (Cond.code yX8_hall cX8_hall 4 (some .int) :: tb_L) { frames := 8, cells := 0, slots := 0, locals := 178 }).room s m [.ref (q 0), .int x1].toArray below meth c₀ H locs 0 0 (MQ below (va_Qi post (wdB D (mw c q)) (wdA 31 q)) [.ref (q 0), .int x1].toArray s 0 0 (wdA 31 q)) (F0 m 379 ls [])) → va_P D vwCl (mw c q σ) H → va_S (wdA 31 q) s.heap H locs → lv_has ls 4 [(0, .ref (q 0)), (1, .int z1), (2, .int y2)] → W p l e (headSpec (Cond.code yX8_hall cX8_hall 4 (some .int) :: tb_L) { frames := 8, cells := 0, slots := 0, locals := 178 }).room s m [.ref (q 0), .int x1].toArray below meth c₀ H locs 0 0 (MQ below (va_Qi post (wdB D (mw c q)) (wdA 31 q)) [.ref (q 0), .int x1].toArray s 0 0 (wdA 31 q)) (F0 m 352 ls []) := by
    intro K379 z1 n
    induction n with
    | zero =>
      intro y2 σ H locs ls hw hk379 hP hS hl
      exact (show False from hw).elim
    | succ n ih =>
      intro y2 σ H locs ls hw hk379 hP hS hl
      rw [wX8_hall_L352] at hw
      have hD : va_D (wdA 31 q) (mw c q σ) := mw_D hD0
      refine lv_iload_n hx hb dX8_hall_352 rfl (lv_at hl 2 rfl) ?_
      refine lv_bipush (v := (9 : Int32)) hx hb dX8_hall_353 (by decide) ?_
      refine lv_icmp_ge (tgt := 379) hx hb dX8_hall_355 (by decide) (fun c60 => ?_) (fun c60 => ?_)
      · have hw := hw.1 c60
        exact hk379 y2 σ _ _ _ hw hP hS (lv_sub hl [0, 1, 2] rfl)
      · have hw := hw.2 c60
        refine lv_aload_n hx hb dX8_hall_358 rfl (lv_at hl 0 rfl) ?_
        refine va_get (D := D) (ci := 8) (C := RX8) (T := TX8) (N := 57) hx hb htb inX8 hown hK hP 0 (mw_0 c q σ) rfl 10 (by decide) (htb _ tb_1191) (fun _ h9 => h9) rfl dX8_hall_359 ?_
        refine lv_iload_n hx hb dX8_hall_362 rfl (lv_at hl 2 rfl) ?_
        refine lv_aload_n hx hb dX8_hall_363 rfl (lv_at hl 0 rfl) ?_
        refine va_get (D := D) (ci := 8) (C := RX8) (T := TX8) (N := 57) hx hb htb inX8 hown hK hP 0 (mw_0 c q σ) rfl 10 (by decide) (htb _ tb_1191) (fun _ h9 => h9) rfl dX8_hall_364 ?_
        refine lv_bipush (v := (9 : Int32)) hx hb dX8_hall_367 (by decide) ?_
        refine lv_iload_n hx hb dX8_hall_369 rfl (lv_at hl 2 rfl) ?_
        refine lv_iadd hx hb dX8_hall_370 ?_
        refine va_iald hx hb hK hP 10 9 (mw_10 c q σ) rfl hw.1 dX8_hall_371 ?_
        have hw := hw.2
        refine va_iast hx hb hK hP hD hS 10 9 (mw_10 c q σ) rfl hw.1 dX8_hall_372 (fun H locs hP hD hS => ?_)
        have hw := hw.2
        have hP : va_P D vwCl (mw c q (hsA σ 10 (upd (σ.2.1 10) y2.toNatClampNeg (σ.2.1 10 ((9 : Int32) + y2).toNatClampNeg)))) H := hP
        obtain ⟨σ61, eσ61⟩ : ∃ z : hsS, z = hsA σ 10 (upd (σ.2.1 10) y2.toNatClampNeg (σ.2.1 10 ((9 : Int32) + y2).toNatClampNeg)) := ⟨_, rfl⟩
        rw [← eσ61] at hP
        have hD : va_D (wdA 31 q) (mw c q σ61) := mw_D hD0
        have hw := hw σ61 eσ61
        obtain ⟨v62, ev62⟩ : ∃ z : Int32, z = y2 + (1 : Int32) := ⟨_, rfl⟩
        have hw := hw v62 ev62
        refine lv_iinc (v := v62) (lv' := [(2, .int v62), (0, .ref (q 0)), (1, .int z1)]) hx hb dX8_hall_373 hl (k := 2) rfl (by rw [ev62]; rfl) (by decide) rfl (fun ls hl => ?_)
        refine lv_goto (tgt := 352) hx hb dX8_hall_376 (by decide) ?_
        exact ih v62 σ61 _ _ _ hw hk379 hP hS (lv_sub hl [1, 2, 0] rfl)
  have hl := lv_entry ([.ref (q 0), .int x1]) (n := 4) (Nat.le_of_ble_eq_true rfl)
  rw [lg_entry_eq]
  generalize (lg_sl ([.ref (q 0), .int x1]) ++ List.replicate (4 - (lg_sl ([.ref (q 0), .int x1])).length) Slot.unset).toArray = ls at hl ⊢
  have hl : lv_has ls 4 [(0, .ref (q 0)), (1, .int x1)] := hl
  unfold wX8_hall at hw
  refine lv_aload_n hx hb dX8_hall_0 rfl (lv_at hl 0 rfl) ?_
  refine lv_iconst (v := (0 : Int32)) hx hb dX8_hall_1 (by decide) ?_
  refine va_put (D := D) (ci := 8) (ty := .int) (C := RX8) (T := TX8) (N := 57) hx hb htb inX8 tyX8 tyX8_ok nmX8 hown hK hP hD hS 0 (mw_0 c q σ) rfl 0 (by decide) (htb _ tb_1181) (fun _ h9 => h9) rfl (by decide +kernel) rfl rfl (Nat.le_of_ble_eq_true rfl) dX8_hall_2 (fun H locs hP hD hS => ?_)
  have hP : va_P D vwCl (mw c q (hsI σ 0 (0 : Int32))) H := hP
  obtain ⟨σ1, eσ1⟩ : ∃ z : hsS, z = hsI σ 0 (0 : Int32) := ⟨_, rfl⟩
  rw [← eσ1] at hP
  have hD : va_D (wdA 31 q) (mw c q σ1) := mw_D hD0
  have hw := hw σ1 eσ1
  refine lv_iload_n hx hb dX8_hall_5 rfl (lv_at hl 1 rfl) ?_
  refine lv_if_lt (tgt := 17) hx hb dX8_hall_6 (by decide) (fun c2 => ?_) (fun c2 => ?_)
  · have hw := hw.1 c2
    refine lv_aload_n hx hb dX8_hall_17 rfl (lv_at hl 0 rfl) ?_
    refine lv_iconst (v := (1 : Int32)) hx hb dX8_hall_18 (by decide) ?_
    refine va_calli (va_runV (As := [.int (1 : Int32)]) (rest := []) ⟨hx, hb, hml, hown, htb⟩ (kcX8_fail l D c q ev hev σ1 (1 : Int32) _ hw) (tb_CW htb kX8_fail tb_1366 tb_1368 tb_42 ⟨Nat.le_of_ble_eq_true rfl, Nat.le_of_ble_eq_true rfl⟩) (wd_preV (wd := mw c q) (k := 0) hev hK hP hD hE hS (mw_0 c q σ1) rfl) rfl rfl hl.1 rfl (lv_room (Nat.le_of_ble_eq_true rfl)) dX8_hall_19 ⟨Nat.zero_le _, Nat.zero_le _⟩) hS (fun q _ h => h) (fun q h => h) (fun r3 σ4 t H1 locs1 ht hvm hw hB hz1 hk1 hS => ?_)
    have hP : va_P D vwCl (mw c q σ4) H1 := ht ▸ hB
    have hD : va_D (wdA 31 q) (mw c q σ4) := mw_D hD0
    exact W.iret hx hb hr (fun t ht hW => ⟨⟨_, σ4, rfl, hw, by unfold wdB; rw [ht]; exact hP⟩, hS.F ht⟩) hS.2.2 dX8_hall_22
  · have hw := hw.2 c2
    refine lv_iload_n hx hb dX8_hall_9 rfl (lv_at hl 1 rfl) ?_
    refine lv_aload_n hx hb dX8_hall_10 rfl (lv_at hl 0 rfl) ?_
    refine va_get (D := D) (ci := 8) (C := RX8) (T := TX8) (N := 57) hx hb htb inX8 hown hK hP 0 (mw_0 c q σ1) rfl 14 (by decide) (htb _ tb_1195) (fun _ h9 => h9) rfl dX8_hall_11 ?_
    refine lv_icmp_le (tgt := 23) hx hb dX8_hall_14 (by decide) (fun c5 => ?_) (fun c5 => ?_)
    · have hw := hw.1 c5
      refine lv_aload_n hx hb dX8_hall_23 rfl (lv_at hl 0 rfl) ?_
      refine lv_iconst (v := (0 : Int32)) hx hb dX8_hall_24 (by decide) ?_
      refine va_put (D := D) (ci := 8) (ty := .int) (C := RX8) (T := TX8) (N := 57) hx hb htb inX8 tyX8 tyX8_ok nmX8 hown hK hP hD hS 0 (mw_0 c q σ1) rfl 14 (by decide) (htb _ tb_1195) (fun _ h9 => h9) rfl (by decide +kernel) rfl rfl (Nat.le_of_ble_eq_true rfl) dX8_hall_25 (fun H locs hP hD hS => ?_)
      have hP : va_P D vwCl (mw c q (hsI σ1 14 (0 : Int32))) H := hP
      obtain ⟨σ6, eσ6⟩ : ∃ z : hsS, z = hsI σ1 14 (0 : Int32) := ⟨_, rfl⟩
      rw [← eσ6] at hP
      have hD : va_D (wdA 31 q) (mw c q σ6) := mw_D hD0
      have hw := hw σ6 eσ6
      refine lv_aload_n hx hb dX8_hall_28 rfl (lv_at hl 0 rfl) ?_
      refine lv_iload_n hx hb dX8_hall_29 rfl (lv_at hl 1 rfl) ?_
      refine va_put (D := D) (ci := 8) (ty := .int) (C := RX8) (T := TX8) (N := 57) hx hb htb inX8 tyX8 tyX8_ok nmX8 hown hK hP hD hS 0 (mw_0 c q σ6) rfl 16 (by decide) (htb _ tb_1197) (fun _ h9 => h9) rfl (by decide +kernel) rfl rfl (Nat.le_of_ble_eq_true rfl) dX8_hall_30 (fun H locs hP hD hS => ?_)
      have hP : va_P D vwCl (mw c q (hsI σ6 16 x1)) H := hP
      obtain ⟨σ7, eσ7⟩ : ∃ z : hsS, z = hsI σ6 16 x1 := ⟨_, rfl⟩
      rw [← eσ7] at hP
      have hD : va_D (wdA 31 q) (mw c q σ7) := mw_D hD0
      have hw := hw σ7 eσ7
      refine lv_aload_n hx hb dX8_hall_33 rfl (lv_at hl 0 rfl) ?_
      refine lv_iconst (v := (0 : Int32)) hx hb dX8_hall_34 (by decide) ?_
      refine va_put (D := D) (ci := 8) (ty := .int) (C := RX8) (T := TX8) (N := 57) hx hb htb inX8 tyX8 tyX8_ok nmX8 hown hK hP hD hS 0 (mw_0 c q σ7) rfl 15 (by decide) (htb _ tb_1196) (fun _ h9 => h9) rfl (by decide +kernel) rfl rfl (Nat.le_of_ble_eq_true rfl) dX8_hall_35 (fun H locs hP hD hS => ?_)
      have hP : va_P D vwCl (mw c q (hsI σ7 15 (0 : Int32))) H := hP
      obtain ⟨σ8, eσ8⟩ : ∃ z : hsS, z = hsI σ7 15 (0 : Int32) := ⟨_, rfl⟩
      rw [← eσ8] at hP
      have hD : va_D (wdA 31 q) (mw c q σ8) := mw_D hD0
      have hw := hw σ8 eσ8
      refine lv_aload_n hx hb dX8_hall_38 rfl (lv_at hl 0 rfl) ?_
      refine lv_iconst (v := (0 : Int32)) hx hb dX8_hall_39 (by decide) ?_
      refine va_put (D := D) (ci := 8) (ty := .int) (C := RX8) (T := TX8) (N := 57) hx hb htb inX8 tyX8 tyX8_ok nmX8 hown hK hP hD hS 0 (mw_0 c q σ8) rfl 21 (by decide) (htb _ tb_1202) (fun _ h9 => h9) rfl (by decide +kernel) rfl rfl (Nat.le_of_ble_eq_true rfl) dX8_hall_40 (fun H locs hP hD hS => ?_)
      have hP : va_P D vwCl (mw c q (hsI σ8 21 (0 : Int32))) H := hP
      obtain ⟨σ9, eσ9⟩ : ∃ z : hsS, z = hsI σ8 21 (0 : Int32) := ⟨_, rfl⟩
      rw [← eσ9] at hP
      have hD : va_D (wdA 31 q) (mw c q σ9) := mw_D hD0
      have hw := hw σ9 eσ9
      refine lv_aload_n hx hb dX8_hall_43 rfl (lv_at hl 0 rfl) ?_
      refine lv_iconst (v := (-1 : Int32)) hx hb dX8_hall_44 (by decide) ?_
      refine va_put (D := D) (ci := 8) (ty := .int) (C := RX8) (T := TX8) (N := 57) hx hb htb inX8 tyX8 tyX8_ok nmX8 hown hK hP hD hS 0 (mw_0 c q σ9) rfl 23 (by decide) (htb _ tb_1204) (fun _ h9 => h9) rfl (by decide +kernel) rfl rfl (Nat.le_of_ble_eq_true rfl) dX8_hall_45 (fun H locs hP hD hS => ?_)
      have hP : va_P D vwCl (mw c q (hsI σ9 23 (-1 : Int32))) H := hP
      obtain ⟨σ10, eσ10⟩ : ∃ z : hsS, z = hsI σ9 23 (-1 : Int32) := ⟨_, rfl⟩
      rw [← eσ10] at hP
      have hD : va_D (wdA 31 q) (mw c q σ10) := mw_D hD0
      have hw := hw σ10 eσ10
      refine lv_aload_n hx hb dX8_hall_48 rfl (lv_at hl 0 rfl) ?_
      refine va_get (D := D) (ci := 8) (C := RX8) (T := TX8) (N := 57) hx hb htb inX8 hown hK hP 0 (mw_0 c q σ10) rfl 2 (by decide) (htb _ tb_1183) (fun _ h9 => h9) rfl dX8_hall_49 ?_
      refine lv_iconst (v := (1 : Int32)) hx hb dX8_hall_52 (by decide) ?_
      refine lv_iconst (v := (0 : Int32)) hx hb dX8_hall_53 (by decide) ?_
      refine va_iast hx hb hK hP hD hS 2 1 (mw_2 c q σ10) rfl (by unfold vp_in; decide) dX8_hall_54 (fun H locs hP hD hS => ?_)
      have hP : va_P D vwCl (mw c q (hsA σ10 2 (upd (σ10.2.1 2) (1 : Int32).toNatClampNeg (0 : Int32)))) H := hP
      obtain ⟨σ11, eσ11⟩ : ∃ z : hsS, z = hsA σ10 2 (upd (σ10.2.1 2) (1 : Int32).toNatClampNeg (0 : Int32)) := ⟨_, rfl⟩
      rw [← eσ11] at hP
      have hD : va_D (wdA 31 q) (mw c q σ11) := mw_D hD0
      have hw := hw σ11 eσ11
      refine lv_aload_n hx hb dX8_hall_55 rfl (lv_at hl 0 rfl) ?_
      refine va_get (D := D) (ci := 8) (C := RX8) (T := TX8) (N := 57) hx hb htb inX8 hown hK hP 0 (mw_0 c q σ11) rfl 3 (by decide) (htb _ tb_1184) (fun _ h9 => h9) rfl dX8_hall_56 ?_
      refine lv_iconst (v := (1 : Int32)) hx hb dX8_hall_59 (by decide) ?_
      refine lv_iconst (v := (0 : Int32)) hx hb dX8_hall_60 (by decide) ?_
      refine va_iast hx hb hK hP hD hS 3 2 (mw_3 c q σ11) rfl (by unfold vp_in; decide) dX8_hall_61 (fun H locs hP hD hS => ?_)
      have hP : va_P D vwCl (mw c q (hsA σ11 3 (upd (σ11.2.1 3) (1 : Int32).toNatClampNeg (0 : Int32)))) H := hP
      obtain ⟨σ12, eσ12⟩ : ∃ z : hsS, z = hsA σ11 3 (upd (σ11.2.1 3) (1 : Int32).toNatClampNeg (0 : Int32)) := ⟨_, rfl⟩
      rw [← eσ12] at hP
      have hD : va_D (wdA 31 q) (mw c q σ12) := mw_D hD0
      have hw := hw σ12 eσ12
      refine lv_aload_n hx hb dX8_hall_62 rfl (lv_at hl 0 rfl) ?_
      refine va_get (D := D) (ci := 8) (C := RX8) (T := TX8) (N := 57) hx hb htb inX8 hown hK hP 0 (mw_0 c q σ12) rfl 4 (by decide) (htb _ tb_1185) (fun _ h9 => h9) rfl dX8_hall_63 ?_
      refine lv_iconst (v := (1 : Int32)) hx hb dX8_hall_66 (by decide) ?_
      refine lv_iconst (v := (1 : Int32)) hx hb dX8_hall_67 (by decide) ?_
      refine va_iast hx hb hK hP hD hS 4 3 (mw_4 c q σ12) rfl (by unfold vp_in; decide) dX8_hall_68 (fun H locs hP hD hS => ?_)
      have hP : va_P D vwCl (mw c q (hsA σ12 4 (upd (σ12.2.1 4) (1 : Int32).toNatClampNeg (1 : Int32)))) H := hP
      obtain ⟨σ13, eσ13⟩ : ∃ z : hsS, z = hsA σ12 4 (upd (σ12.2.1 4) (1 : Int32).toNatClampNeg (1 : Int32)) := ⟨_, rfl⟩
      rw [← eσ13] at hP
      have hD : va_D (wdA 31 q) (mw c q σ13) := mw_D hD0
      have hw := hw σ13 eσ13
      refine lv_aload_n hx hb dX8_hall_69 rfl (lv_at hl 0 rfl) ?_
      refine va_get (D := D) (ci := 8) (C := RX8) (T := TX8) (N := 57) hx hb htb inX8 hown hK hP 0 (mw_0 c q σ13) rfl 5 (by decide) (htb _ tb_1186) (fun _ h9 => h9) rfl dX8_hall_70 ?_
      refine lv_iconst (v := (1 : Int32)) hx hb dX8_hall_73 (by decide) ?_
      refine lv_iconst (v := (0 : Int32)) hx hb dX8_hall_74 (by decide) ?_
      refine va_iast hx hb hK hP hD hS 5 4 (mw_5 c q σ13) rfl (by unfold vp_in; decide) dX8_hall_75 (fun H locs hP hD hS => ?_)
      have hP : va_P D vwCl (mw c q (hsA σ13 5 (upd (σ13.2.1 5) (1 : Int32).toNatClampNeg (0 : Int32)))) H := hP
      obtain ⟨σ14, eσ14⟩ : ∃ z : hsS, z = hsA σ13 5 (upd (σ13.2.1 5) (1 : Int32).toNatClampNeg (0 : Int32)) := ⟨_, rfl⟩
      rw [← eσ14] at hP
      have hD : va_D (wdA 31 q) (mw c q σ14) := mw_D hD0
      have hw := hw σ14 eσ14
      refine lv_aload_n hx hb dX8_hall_76 rfl (lv_at hl 0 rfl) ?_
      refine va_get (D := D) (ci := 8) (C := RX8) (T := TX8) (N := 57) hx hb htb inX8 hown hK hP 0 (mw_0 c q σ14) rfl 6 (by decide) (htb _ tb_1187) (fun _ h9 => h9) rfl dX8_hall_77 ?_
      refine lv_iconst (v := (1 : Int32)) hx hb dX8_hall_80 (by decide) ?_
      refine lv_iconst (v := (0 : Int32)) hx hb dX8_hall_81 (by decide) ?_
      refine va_iast hx hb hK hP hD hS 6 5 (mw_6 c q σ14) rfl (by unfold vp_in; decide) dX8_hall_82 (fun H locs hP hD hS => ?_)
      have hP : va_P D vwCl (mw c q (hsA σ14 6 (upd (σ14.2.1 6) (1 : Int32).toNatClampNeg (0 : Int32)))) H := hP
      obtain ⟨σ15, eσ15⟩ : ∃ z : hsS, z = hsA σ14 6 (upd (σ14.2.1 6) (1 : Int32).toNatClampNeg (0 : Int32)) := ⟨_, rfl⟩
      rw [← eσ15] at hP
      have hD : va_D (wdA 31 q) (mw c q σ15) := mw_D hD0
      have hw := hw σ15 eσ15
      refine lv_aload_n hx hb dX8_hall_83 rfl (lv_at hl 0 rfl) ?_
      refine va_callv (va_runV (As := []) (rest := []) ⟨hx, hb, hml, hown, htb⟩ (kcX8_step l D c q ev hev σ15  _ hw) (tb_CW htb kX8_step tb_1370 tb_1372 tb_43 ⟨Nat.le_of_ble_eq_true rfl, Nat.le_of_ble_eq_true rfl⟩) (wd_preV (wd := mw c q) (k := 0) hev hK hP hD hE hS (mw_0 c q σ15) rfl) rfl rfl hl.1 rfl (lv_room (Nat.le_of_ble_eq_true rfl)) dX8_hall_84 ⟨Nat.zero_le _, Nat.zero_le _⟩) hS (fun q _ h => h) (fun q h => h) (fun σ17 t H1 locs1 ht hvm hw hB hz1 hk1 hS => ?_)
      have hP : va_P D vwCl (mw c q σ17) H1 := ht ▸ hB
      have hD : va_D (wdA 31 q) (mw c q σ17) := mw_D hD0
      refine lv_aload_n hx hb dX8_hall_87 rfl (lv_at hl 0 rfl) ?_
      refine va_ldcS hx hb hown ((hZ s s.heap hE).2.2.2 ("StrikeHallModel", 235, "things", 0) (by decide)) dX8_hall_88 ?_
      refine va_callv (va_runV (As := [.ref (adK 0)]) (rest := []) ⟨hx, hb, hml, hown, htb⟩ (kcX8_word_s l D c q ev hev adK adV hZ σ17 0 (by decide) _ hw) (tb_CW htb kX8_word tb_1386 tb_1388 tb_45 ⟨Nat.le_of_ble_eq_true rfl, Nat.le_of_ble_eq_true rfl⟩) (wd_preV (wd := mw c q) (k := 0) hev hK hP hD hE hS (mw_0 c q σ17) rfl) rfl rfl hl.1 rfl (lv_room (Nat.le_of_ble_eq_true rfl)) dX8_hall_90 ⟨Nat.zero_le _, Nat.zero_le _⟩) hS (fun q _ h => h) (fun q h => h) (fun σ19 t H1 locs1 ht hvm hw hB hz1 hk1 hS => ?_)
      have hP : va_P D vwCl (mw c q σ19) H1 := ht ▸ hB
      have hD : va_D (wdA 31 q) (mw c q σ19) := mw_D hD0
      refine lv_aload_n hx hb dX8_hall_93 rfl (lv_at hl 0 rfl) ?_
      refine va_get (D := D) (ci := 8) (C := RX8) (T := TX8) (N := 57) hx hb htb inX8 hown hK hP 0 (mw_0 c q σ19) rfl 1 (by decide) (htb _ tb_1182) (fun _ h9 => h9) rfl dX8_hall_94 ?_
      refine lv_iconst (v := (1 : Int32)) hx hb dX8_hall_97 (by decide) ?_
      refine lv_aload_n hx hb dX8_hall_98 rfl (lv_at hl 0 rfl) ?_
      refine lv_iconst (v := (2 : Int32)) hx hb dX8_hall_99 (by decide) ?_
      refine lv_bipush (v := (9 : Int32)) hx hb dX8_hall_100 (by decide) ?_
      refine lv_sipush (v := (1000 : Int32)) hx hb dX8_hall_102 (by decide) ?_
      refine lv_iconst (v := (0 : Int32)) hx hb dX8_hall_105 (by decide) ?_
      refine va_calli (va_runV (As := [.int (2 : Int32), .int (9 : Int32), .int (1000 : Int32), .int (0 : Int32)]) (rest := [.int (1 : Int32), .ref (q 1)]) ⟨hx, hb, hml, hown, htb⟩ (kcX8_readNumber l D c q ev hev σ19 (2 : Int32) (9 : Int32) (1000 : Int32) (0 : Int32) _ hw) (tb_CW htb kX8_readNumber tb_1400 tb_1402 tb_48 ⟨Nat.le_of_ble_eq_true rfl, Nat.le_of_ble_eq_true rfl⟩) (wd_preV (wd := mw c q) (k := 0) hev hK hP hD hE hS (mw_0 c q σ19) rfl) rfl rfl hl.1 rfl (lv_room (Nat.le_of_ble_eq_true rfl)) dX8_hall_106 ⟨Nat.zero_le _, Nat.zero_le _⟩) hS (fun q _ h => h) (fun q h => h) (fun r20 σ21 t H1 locs1 ht hvm hw hB hz1 hk1 hS => ?_)
      have hP : va_P D vwCl (mw c q σ21) H1 := ht ▸ hB
      have hD : va_D (wdA 31 q) (mw c q σ21) := mw_D hD0
      refine va_iast hx hb hK hP hD hS 1 0 (mw_1 c q σ21) rfl (by unfold vp_in; decide) dX8_hall_109 (fun H locs hP hD hS => ?_)
      have hP : va_P D vwCl (mw c q (hsA σ21 1 (upd (σ21.2.1 1) (1 : Int32).toNatClampNeg r20))) H := hP
      obtain ⟨σ22, eσ22⟩ : ∃ z : hsS, z = hsA σ21 1 (upd (σ21.2.1 1) (1 : Int32).toNatClampNeg r20) := ⟨_, rfl⟩
      rw [← eσ22] at hP
      have hD : va_D (wdA 31 q) (mw c q σ22) := mw_D hD0
      have hw := hw σ22 eσ22
      refine lv_aload_n hx hb dX8_hall_110 rfl (lv_at hl 0 rfl) ?_
      refine va_get (D := D) (ci := 8) (C := RX8) (T := TX8) (N := 57) hx hb htb inX8 hown hK hP 0 (mw_0 c q σ22) rfl 21 (by decide) (htb _ tb_1202) (fun _ h9 => h9) rfl dX8_hall_111 ?_
      refine lv_if_ne (tgt := 121) hx hb dX8_hall_114 (by decide) (fun c23 => ?_) (fun c23 => ?_)
      · have hw := hw.2 c23
        refine lv_aload_n hx hb dX8_hall_121 rfl (lv_at hl 0 rfl) ?_
        refine va_callv (va_runV (As := []) (rest := []) ⟨hx, hb, hml, hown, htb⟩ (kcX8_semi l D c q ev hev σ22  _ hw) (tb_CW htb kX8_semi tb_1404 tb_1406 tb_49 ⟨Nat.le_of_ble_eq_true rfl, Nat.le_of_ble_eq_true rfl⟩) (wd_preV (wd := mw c q) (k := 0) hev hK hP hD hE hS (mw_0 c q σ22) rfl) rfl rfl hl.1 rfl (lv_room (Nat.le_of_ble_eq_true rfl)) dX8_hall_122 ⟨Nat.zero_le _, Nat.zero_le _⟩) hS (fun q _ h => h) (fun q h => h) (fun σ70 t H1 locs1 ht hvm hw hB hz1 hk1 hS => ?_)
        have hP : va_P D vwCl (mw c q σ70) H1 := ht ▸ hB
        have hD : va_D (wdA 31 q) (mw c q σ70) := mw_D hD0
        obtain ⟨n71, hw⟩ := hw
        refine L125 _ x1 n71  σ70 _ _ _ hw ?_ hP hS (lv_sub hl [0, 1] rfl)
        intro σ72 H locs ls hw hP hS hl
        have hD : va_D (wdA 31 q) (mw c q σ72) := mw_D hD0
        refine lv_aload_n hx hb dX8_hall_146 rfl (lv_at hl 0 rfl) ?_
        refine va_get (D := D) (ci := 8) (C := RX8) (T := TX8) (N := 57) hx hb htb inX8 hown hK hP 0 (mw_0 c q σ72) rfl 21 (by decide) (htb _ tb_1202) (fun _ h9 => h9) rfl dX8_hall_147 ?_
        refine lv_if_eq (tgt := 166) hx hb dX8_hall_150 (by decide) (fun c73 => ?_) (fun c73 => ?_)
        · have hw := hw.1 c73
          refine lv_aload_n hx hb dX8_hall_166 rfl (lv_at hl 0 rfl) ?_
          refine va_get (D := D) (ci := 8) (C := RX8) (T := TX8) (N := 57) hx hb htb inX8 hown hK hP 0 (mw_0 c q σ72) rfl 1 (by decide) (htb _ tb_1182) (fun _ h9 => h9) rfl dX8_hall_167 ?_
          refine lv_iconst (v := (0 : Int32)) hx hb dX8_hall_170 (by decide) ?_
          refine lv_aload_n hx hb dX8_hall_171 rfl (lv_at hl 0 rfl) ?_
          refine va_get (D := D) (ci := 8) (C := RX8) (T := TX8) (N := 57) hx hb htb inX8 hown hK hP 0 (mw_0 c q σ72) rfl 1 (by decide) (htb _ tb_1182) (fun _ h9 => h9) rfl dX8_hall_172 ?_
          refine lv_iconst (v := (1 : Int32)) hx hb dX8_hall_175 (by decide) ?_
          refine va_iald hx hb hK hP 1 0 (mw_1 c q σ72) rfl (by unfold vp_in; decide) dX8_hall_176 ?_
          refine va_iast hx hb hK hP hD hS 1 0 (mw_1 c q σ72) rfl (by unfold vp_in; decide) dX8_hall_177 (fun H locs hP hD hS => ?_)
          have hP : va_P D vwCl (mw c q (hsA σ72 1 (upd (σ72.2.1 1) (0 : Int32).toNatClampNeg (σ72.2.1 1 (1 : Int32).toNatClampNeg)))) H := hP
          obtain ⟨σ74, eσ74⟩ : ∃ z : hsS, z = hsA σ72 1 (upd (σ72.2.1 1) (0 : Int32).toNatClampNeg (σ72.2.1 1 (1 : Int32).toNatClampNeg)) := ⟨_, rfl⟩
          rw [← eσ74] at hP
          have hD : va_D (wdA 31 q) (mw c q σ74) := mw_D hD0
          have hw := hw σ74 eσ74
          refine lv_aload_n hx hb dX8_hall_178 rfl (lv_at hl 0 rfl) ?_
          refine va_get (D := D) (ci := 8) (C := RX8) (T := TX8) (N := 57) hx hb htb inX8 hown hK hP 0 (mw_0 c q σ74) rfl 2 (by decide) (htb _ tb_1183) (fun _ h9 => h9) rfl dX8_hall_179 ?_
          refine lv_iconst (v := (0 : Int32)) hx hb dX8_hall_182 (by decide) ?_
          refine lv_aload_n hx hb dX8_hall_183 rfl (lv_at hl 0 rfl) ?_
          refine va_get (D := D) (ci := 8) (C := RX8) (T := TX8) (N := 57) hx hb htb inX8 hown hK hP 0 (mw_0 c q σ74) rfl 2 (by decide) (htb _ tb_1183) (fun _ h9 => h9) rfl dX8_hall_184 ?_
          refine lv_iconst (v := (1 : Int32)) hx hb dX8_hall_187 (by decide) ?_
          refine va_iald hx hb hK hP 2 1 (mw_2 c q σ74) rfl (by unfold vp_in; decide) dX8_hall_188 ?_
          refine va_iast hx hb hK hP hD hS 2 1 (mw_2 c q σ74) rfl (by unfold vp_in; decide) dX8_hall_189 (fun H locs hP hD hS => ?_)
          have hP : va_P D vwCl (mw c q (hsA σ74 2 (upd (σ74.2.1 2) (0 : Int32).toNatClampNeg (σ74.2.1 2 (1 : Int32).toNatClampNeg)))) H := hP
          obtain ⟨σ75, eσ75⟩ : ∃ z : hsS, z = hsA σ74 2 (upd (σ74.2.1 2) (0 : Int32).toNatClampNeg (σ74.2.1 2 (1 : Int32).toNatClampNeg)) := ⟨_, rfl⟩
          rw [← eσ75] at hP
          have hD : va_D (wdA 31 q) (mw c q σ75) := mw_D hD0
          have hw := hw σ75 eσ75
          refine lv_aload_n hx hb dX8_hall_190 rfl (lv_at hl 0 rfl) ?_
          refine va_get (D := D) (ci := 8) (C := RX8) (T := TX8) (N := 57) hx hb htb inX8 hown hK hP 0 (mw_0 c q σ75) rfl 3 (by decide) (htb _ tb_1184) (fun _ h9 => h9) rfl dX8_hall_191 ?_
          refine lv_iconst (v := (0 : Int32)) hx hb dX8_hall_194 (by decide) ?_
          refine lv_aload_n hx hb dX8_hall_195 rfl (lv_at hl 0 rfl) ?_
          refine va_get (D := D) (ci := 8) (C := RX8) (T := TX8) (N := 57) hx hb htb inX8 hown hK hP 0 (mw_0 c q σ75) rfl 3 (by decide) (htb _ tb_1184) (fun _ h9 => h9) rfl dX8_hall_196 ?_
          refine lv_iconst (v := (1 : Int32)) hx hb dX8_hall_199 (by decide) ?_
          refine va_iald hx hb hK hP 3 2 (mw_3 c q σ75) rfl (by unfold vp_in; decide) dX8_hall_200 ?_
          refine va_iast hx hb hK hP hD hS 3 2 (mw_3 c q σ75) rfl (by unfold vp_in; decide) dX8_hall_201 (fun H locs hP hD hS => ?_)
          have hP : va_P D vwCl (mw c q (hsA σ75 3 (upd (σ75.2.1 3) (0 : Int32).toNatClampNeg (σ75.2.1 3 (1 : Int32).toNatClampNeg)))) H := hP
          obtain ⟨σ76, eσ76⟩ : ∃ z : hsS, z = hsA σ75 3 (upd (σ75.2.1 3) (0 : Int32).toNatClampNeg (σ75.2.1 3 (1 : Int32).toNatClampNeg)) := ⟨_, rfl⟩
          rw [← eσ76] at hP
          have hD : va_D (wdA 31 q) (mw c q σ76) := mw_D hD0
          have hw := hw σ76 eσ76
          refine lv_aload_n hx hb dX8_hall_202 rfl (lv_at hl 0 rfl) ?_
          refine va_get (D := D) (ci := 8) (C := RX8) (T := TX8) (N := 57) hx hb htb inX8 hown hK hP 0 (mw_0 c q σ76) rfl 4 (by decide) (htb _ tb_1185) (fun _ h9 => h9) rfl dX8_hall_203 ?_
          refine lv_iconst (v := (0 : Int32)) hx hb dX8_hall_206 (by decide) ?_
          refine lv_aload_n hx hb dX8_hall_207 rfl (lv_at hl 0 rfl) ?_
          refine va_get (D := D) (ci := 8) (C := RX8) (T := TX8) (N := 57) hx hb htb inX8 hown hK hP 0 (mw_0 c q σ76) rfl 4 (by decide) (htb _ tb_1185) (fun _ h9 => h9) rfl dX8_hall_208 ?_
          refine lv_iconst (v := (1 : Int32)) hx hb dX8_hall_211 (by decide) ?_
          refine va_iald hx hb hK hP 4 3 (mw_4 c q σ76) rfl (by unfold vp_in; decide) dX8_hall_212 ?_
          refine va_iast hx hb hK hP hD hS 4 3 (mw_4 c q σ76) rfl (by unfold vp_in; decide) dX8_hall_213 (fun H locs hP hD hS => ?_)
          have hP : va_P D vwCl (mw c q (hsA σ76 4 (upd (σ76.2.1 4) (0 : Int32).toNatClampNeg (σ76.2.1 4 (1 : Int32).toNatClampNeg)))) H := hP
          obtain ⟨σ77, eσ77⟩ : ∃ z : hsS, z = hsA σ76 4 (upd (σ76.2.1 4) (0 : Int32).toNatClampNeg (σ76.2.1 4 (1 : Int32).toNatClampNeg)) := ⟨_, rfl⟩
          rw [← eσ77] at hP
          have hD : va_D (wdA 31 q) (mw c q σ77) := mw_D hD0
          have hw := hw σ77 eσ77
          refine lv_aload_n hx hb dX8_hall_214 rfl (lv_at hl 0 rfl) ?_
          refine va_get (D := D) (ci := 8) (C := RX8) (T := TX8) (N := 57) hx hb htb inX8 hown hK hP 0 (mw_0 c q σ77) rfl 5 (by decide) (htb _ tb_1186) (fun _ h9 => h9) rfl dX8_hall_215 ?_
          refine lv_iconst (v := (0 : Int32)) hx hb dX8_hall_218 (by decide) ?_
          refine lv_aload_n hx hb dX8_hall_219 rfl (lv_at hl 0 rfl) ?_
          refine va_get (D := D) (ci := 8) (C := RX8) (T := TX8) (N := 57) hx hb htb inX8 hown hK hP 0 (mw_0 c q σ77) rfl 5 (by decide) (htb _ tb_1186) (fun _ h9 => h9) rfl dX8_hall_220 ?_
          refine lv_iconst (v := (1 : Int32)) hx hb dX8_hall_223 (by decide) ?_
          refine va_iald hx hb hK hP 5 4 (mw_5 c q σ77) rfl (by unfold vp_in; decide) dX8_hall_224 ?_
          refine va_iast hx hb hK hP hD hS 5 4 (mw_5 c q σ77) rfl (by unfold vp_in; decide) dX8_hall_225 (fun H locs hP hD hS => ?_)
          have hP : va_P D vwCl (mw c q (hsA σ77 5 (upd (σ77.2.1 5) (0 : Int32).toNatClampNeg (σ77.2.1 5 (1 : Int32).toNatClampNeg)))) H := hP
          obtain ⟨σ78, eσ78⟩ : ∃ z : hsS, z = hsA σ77 5 (upd (σ77.2.1 5) (0 : Int32).toNatClampNeg (σ77.2.1 5 (1 : Int32).toNatClampNeg)) := ⟨_, rfl⟩
          rw [← eσ78] at hP
          have hD : va_D (wdA 31 q) (mw c q σ78) := mw_D hD0
          have hw := hw σ78 eσ78
          refine lv_aload_n hx hb dX8_hall_226 rfl (lv_at hl 0 rfl) ?_
          refine va_get (D := D) (ci := 8) (C := RX8) (T := TX8) (N := 57) hx hb htb inX8 hown hK hP 0 (mw_0 c q σ78) rfl 6 (by decide) (htb _ tb_1187) (fun _ h9 => h9) rfl dX8_hall_227 ?_
          refine lv_iconst (v := (0 : Int32)) hx hb dX8_hall_230 (by decide) ?_
          refine lv_aload_n hx hb dX8_hall_231 rfl (lv_at hl 0 rfl) ?_
          refine va_get (D := D) (ci := 8) (C := RX8) (T := TX8) (N := 57) hx hb htb inX8 hown hK hP 0 (mw_0 c q σ78) rfl 6 (by decide) (htb _ tb_1187) (fun _ h9 => h9) rfl dX8_hall_232 ?_
          refine lv_iconst (v := (1 : Int32)) hx hb dX8_hall_235 (by decide) ?_
          refine va_iald hx hb hK hP 6 5 (mw_6 c q σ78) rfl (by unfold vp_in; decide) dX8_hall_236 ?_
          refine va_iast hx hb hK hP hD hS 6 5 (mw_6 c q σ78) rfl (by unfold vp_in; decide) dX8_hall_237 (fun H locs hP hD hS => ?_)
          have hP : va_P D vwCl (mw c q (hsA σ78 6 (upd (σ78.2.1 6) (0 : Int32).toNatClampNeg (σ78.2.1 6 (1 : Int32).toNatClampNeg)))) H := hP
          obtain ⟨σ79, eσ79⟩ : ∃ z : hsS, z = hsA σ78 6 (upd (σ78.2.1 6) (0 : Int32).toNatClampNeg (σ78.2.1 6 (1 : Int32).toNatClampNeg)) := ⟨_, rfl⟩
          rw [← eσ79] at hP
          have hD : va_D (wdA 31 q) (mw c q σ79) := mw_D hD0
          have hw := hw σ79 eσ79
          refine lv_iconst (v := (0 : Int32)) hx hb dX8_hall_238 (by decide) ?_
          refine lv_istore_n (lv' := [(2, .int (0 : Int32)), (0, .ref (q 0)), (1, .int x1)]) hx hb dX8_hall_239 rfl hl (by decide) rfl (fun ls hl => ?_)
          obtain ⟨n80, hw⟩ := hw
          refine L240 _ x1 n80 (0 : Int32) σ79 _ _ _ hw ?_ hP hS (lv_sub hl [1, 2, 0] rfl)
          intro v81 σ82 H locs ls hw hP hS hl
          have hD : va_D (wdA 31 q) (mw c q σ82) := mw_D hD0
          refine lv_iconst (v := (0 : Int32)) hx hb dX8_hall_321 (by decide) ?_
          refine lv_istore_n (lv' := [(2, .int (0 : Int32)), (0, .ref (q 0)), (1, .int x1)]) hx hb dX8_hall_322 rfl hl (by decide) rfl (fun ls hl => ?_)
          obtain ⟨n83, hw⟩ := hw
          refine L323 _ x1 n83 (0 : Int32) σ82 _ _ _ hw ?_ hP hS (lv_sub hl [1, 2, 0] rfl)
          intro v84 σ85 H locs ls hw hP hS hl
          have hD : va_D (wdA 31 q) (mw c q σ85) := mw_D hD0
          refine lv_iconst (v := (0 : Int32)) hx hb dX8_hall_350 (by decide) ?_
          refine lv_istore_n (lv' := [(2, .int (0 : Int32)), (0, .ref (q 0)), (1, .int x1)]) hx hb dX8_hall_351 rfl hl (by decide) rfl (fun ls hl => ?_)
          obtain ⟨n86, hw⟩ := hw
          refine L352 _ x1 n86 (0 : Int32) σ85 _ _ _ hw ?_ hP hS (lv_sub hl [1, 2, 0] rfl)
          intro v87 σ88 H locs ls hw hP hS hl
          have hD : va_D (wdA 31 q) (mw c q σ88) := mw_D hD0
          refine lv_aload_n hx hb dX8_hall_379 rfl (lv_at hl 0 rfl) ?_
          refine va_callv (va_runV (As := []) (rest := []) ⟨hx, hb, hml, hown, htb⟩ (kcX8_renew l D c q ev hev σ88  _ hw) (tb_CW htb kX8_renew tb_1442 tb_1444 tb_56 ⟨Nat.le_of_ble_eq_true rfl, Nat.le_of_ble_eq_true rfl⟩) (wd_preV (wd := mw c q) (k := 0) hev hK hP hD hE hS (mw_0 c q σ88) rfl) rfl rfl hl.1 rfl (lv_room (Nat.le_of_ble_eq_true rfl)) dX8_hall_380 ⟨Nat.zero_le _, Nat.zero_le _⟩) hS (fun q _ h => h) (fun q h => h) (fun σ90 t H1 locs1 ht hvm hw hB hz1 hk1 hS => ?_)
          have hP : va_P D vwCl (mw c q σ90) H1 := ht ▸ hB
          have hD : va_D (wdA 31 q) (mw c q σ90) := mw_D hD0
          refine lv_iconst (v := (0 : Int32)) hx hb dX8_hall_383 (by decide) ?_
          exact W.iret hx hb hr (fun t ht hW => ⟨⟨_, σ90, rfl, hw, by unfold wdB; rw [ht]; exact hP⟩, hS.F ht⟩) hS.2.2 dX8_hall_384
        · have hw := hw.2 c73
          refine lv_aload_n hx hb dX8_hall_153 rfl (lv_at hl 0 rfl) ?_
          refine lv_aload_n hx hb dX8_hall_154 rfl (lv_at hl 0 rfl) ?_
          refine va_get (D := D) (ci := 8) (C := RX8) (T := TX8) (N := 57) hx hb htb inX8 hown hK hP 0 (mw_0 c q σ72) rfl 22 (by decide) (htb _ tb_1203) (fun _ h9 => h9) rfl dX8_hall_155 ?_
          refine va_put (D := D) (ci := 8) (ty := .int) (C := RX8) (T := TX8) (N := 57) hx hb htb inX8 tyX8 tyX8_ok nmX8 hown hK hP hD hS 0 (mw_0 c q σ72) rfl 23 (by decide) (htb _ tb_1204) (fun _ h9 => h9) rfl (by decide +kernel) rfl rfl (Nat.le_of_ble_eq_true rfl) dX8_hall_158 (fun H locs hP hD hS => ?_)
          have hP : va_P D vwCl (mw c q (hsI σ72 23 (σ72.1 22))) H := hP
          obtain ⟨σ91, eσ91⟩ : ∃ z : hsS, z = hsI σ72 23 (σ72.1 22) := ⟨_, rfl⟩
          rw [← eσ91] at hP
          have hD : va_D (wdA 31 q) (mw c q σ91) := mw_D hD0
          have hw := hw σ91 eσ91
          refine lv_aload_n hx hb dX8_hall_161 rfl (lv_at hl 0 rfl) ?_
          refine va_get (D := D) (ci := 8) (C := RX8) (T := TX8) (N := 57) hx hb htb inX8 hown hK hP 0 (mw_0 c q σ91) rfl 21 (by decide) (htb _ tb_1202) (fun _ h9 => h9) rfl dX8_hall_162 ?_
          exact W.iret hx hb hr (fun t ht hW => ⟨⟨_, σ91, rfl, hw, by unfold wdB; rw [ht]; exact hP⟩, hS.F ht⟩) hS.2.2 dX8_hall_165
      · have hw := hw.1 c23
        refine lv_aload_n hx hb dX8_hall_117 rfl (lv_at hl 0 rfl) ?_
        refine va_callv (va_runV (As := []) (rest := []) ⟨hx, hb, hml, hown, htb⟩ (kcX8_step l D c q ev hev σ22  _ hw) (tb_CW htb kX8_step tb_1370 tb_1372 tb_43 ⟨Nat.le_of_ble_eq_true rfl, Nat.le_of_ble_eq_true rfl⟩) (wd_preV (wd := mw c q) (k := 0) hev hK hP hD hE hS (mw_0 c q σ22) rfl) rfl rfl hl.1 rfl (lv_room (Nat.le_of_ble_eq_true rfl)) dX8_hall_118 ⟨Nat.zero_le _, Nat.zero_le _⟩) hS (fun q _ h => h) (fun q h => h) (fun σ25 t H1 locs1 ht hvm hw hB hz1 hk1 hS => ?_)
        have hP : va_P D vwCl (mw c q σ25) H1 := ht ▸ hB
        have hD : va_D (wdA 31 q) (mw c q σ25) := mw_D hD0
        refine lv_aload_n hx hb dX8_hall_121 rfl (lv_at hl 0 rfl) ?_
        refine va_callv (va_runV (As := []) (rest := []) ⟨hx, hb, hml, hown, htb⟩ (kcX8_semi l D c q ev hev σ25  _ hw) (tb_CW htb kX8_semi tb_1404 tb_1406 tb_49 ⟨Nat.le_of_ble_eq_true rfl, Nat.le_of_ble_eq_true rfl⟩) (wd_preV (wd := mw c q) (k := 0) hev hK hP hD hE hS (mw_0 c q σ25) rfl) rfl rfl hl.1 rfl (lv_room (Nat.le_of_ble_eq_true rfl)) dX8_hall_122 ⟨Nat.zero_le _, Nat.zero_le _⟩) hS (fun q _ h => h) (fun q h => h) (fun σ27 t H1 locs1 ht hvm hw hB hz1 hk1 hS => ?_)
        have hP : va_P D vwCl (mw c q σ27) H1 := ht ▸ hB
        have hD : va_D (wdA 31 q) (mw c q σ27) := mw_D hD0
        obtain ⟨n32, hw⟩ := hw
        refine L125 _ x1 n32  σ27 _ _ _ hw ?_ hP hS (lv_sub hl [0, 1] rfl)
        intro σ33 H locs ls hw hP hS hl
        have hD : va_D (wdA 31 q) (mw c q σ33) := mw_D hD0
        refine lv_aload_n hx hb dX8_hall_146 rfl (lv_at hl 0 rfl) ?_
        refine va_get (D := D) (ci := 8) (C := RX8) (T := TX8) (N := 57) hx hb htb inX8 hown hK hP 0 (mw_0 c q σ33) rfl 21 (by decide) (htb _ tb_1202) (fun _ h9 => h9) rfl dX8_hall_147 ?_
        refine lv_if_eq (tgt := 166) hx hb dX8_hall_150 (by decide) (fun c34 => ?_) (fun c34 => ?_)
        · have hw := hw.1 c34
          refine lv_aload_n hx hb dX8_hall_166 rfl (lv_at hl 0 rfl) ?_
          refine va_get (D := D) (ci := 8) (C := RX8) (T := TX8) (N := 57) hx hb htb inX8 hown hK hP 0 (mw_0 c q σ33) rfl 1 (by decide) (htb _ tb_1182) (fun _ h9 => h9) rfl dX8_hall_167 ?_
          refine lv_iconst (v := (0 : Int32)) hx hb dX8_hall_170 (by decide) ?_
          refine lv_aload_n hx hb dX8_hall_171 rfl (lv_at hl 0 rfl) ?_
          refine va_get (D := D) (ci := 8) (C := RX8) (T := TX8) (N := 57) hx hb htb inX8 hown hK hP 0 (mw_0 c q σ33) rfl 1 (by decide) (htb _ tb_1182) (fun _ h9 => h9) rfl dX8_hall_172 ?_
          refine lv_iconst (v := (1 : Int32)) hx hb dX8_hall_175 (by decide) ?_
          refine va_iald hx hb hK hP 1 0 (mw_1 c q σ33) rfl (by unfold vp_in; decide) dX8_hall_176 ?_
          refine va_iast hx hb hK hP hD hS 1 0 (mw_1 c q σ33) rfl (by unfold vp_in; decide) dX8_hall_177 (fun H locs hP hD hS => ?_)
          have hP : va_P D vwCl (mw c q (hsA σ33 1 (upd (σ33.2.1 1) (0 : Int32).toNatClampNeg (σ33.2.1 1 (1 : Int32).toNatClampNeg)))) H := hP
          obtain ⟨σ35, eσ35⟩ : ∃ z : hsS, z = hsA σ33 1 (upd (σ33.2.1 1) (0 : Int32).toNatClampNeg (σ33.2.1 1 (1 : Int32).toNatClampNeg)) := ⟨_, rfl⟩
          rw [← eσ35] at hP
          have hD : va_D (wdA 31 q) (mw c q σ35) := mw_D hD0
          have hw := hw σ35 eσ35
          refine lv_aload_n hx hb dX8_hall_178 rfl (lv_at hl 0 rfl) ?_
          refine va_get (D := D) (ci := 8) (C := RX8) (T := TX8) (N := 57) hx hb htb inX8 hown hK hP 0 (mw_0 c q σ35) rfl 2 (by decide) (htb _ tb_1183) (fun _ h9 => h9) rfl dX8_hall_179 ?_
          refine lv_iconst (v := (0 : Int32)) hx hb dX8_hall_182 (by decide) ?_
          refine lv_aload_n hx hb dX8_hall_183 rfl (lv_at hl 0 rfl) ?_
          refine va_get (D := D) (ci := 8) (C := RX8) (T := TX8) (N := 57) hx hb htb inX8 hown hK hP 0 (mw_0 c q σ35) rfl 2 (by decide) (htb _ tb_1183) (fun _ h9 => h9) rfl dX8_hall_184 ?_
          refine lv_iconst (v := (1 : Int32)) hx hb dX8_hall_187 (by decide) ?_
          refine va_iald hx hb hK hP 2 1 (mw_2 c q σ35) rfl (by unfold vp_in; decide) dX8_hall_188 ?_
          refine va_iast hx hb hK hP hD hS 2 1 (mw_2 c q σ35) rfl (by unfold vp_in; decide) dX8_hall_189 (fun H locs hP hD hS => ?_)
          have hP : va_P D vwCl (mw c q (hsA σ35 2 (upd (σ35.2.1 2) (0 : Int32).toNatClampNeg (σ35.2.1 2 (1 : Int32).toNatClampNeg)))) H := hP
          obtain ⟨σ36, eσ36⟩ : ∃ z : hsS, z = hsA σ35 2 (upd (σ35.2.1 2) (0 : Int32).toNatClampNeg (σ35.2.1 2 (1 : Int32).toNatClampNeg)) := ⟨_, rfl⟩
          rw [← eσ36] at hP
          have hD : va_D (wdA 31 q) (mw c q σ36) := mw_D hD0
          have hw := hw σ36 eσ36
          refine lv_aload_n hx hb dX8_hall_190 rfl (lv_at hl 0 rfl) ?_
          refine va_get (D := D) (ci := 8) (C := RX8) (T := TX8) (N := 57) hx hb htb inX8 hown hK hP 0 (mw_0 c q σ36) rfl 3 (by decide) (htb _ tb_1184) (fun _ h9 => h9) rfl dX8_hall_191 ?_
          refine lv_iconst (v := (0 : Int32)) hx hb dX8_hall_194 (by decide) ?_
          refine lv_aload_n hx hb dX8_hall_195 rfl (lv_at hl 0 rfl) ?_
          refine va_get (D := D) (ci := 8) (C := RX8) (T := TX8) (N := 57) hx hb htb inX8 hown hK hP 0 (mw_0 c q σ36) rfl 3 (by decide) (htb _ tb_1184) (fun _ h9 => h9) rfl dX8_hall_196 ?_
          refine lv_iconst (v := (1 : Int32)) hx hb dX8_hall_199 (by decide) ?_
          refine va_iald hx hb hK hP 3 2 (mw_3 c q σ36) rfl (by unfold vp_in; decide) dX8_hall_200 ?_
          refine va_iast hx hb hK hP hD hS 3 2 (mw_3 c q σ36) rfl (by unfold vp_in; decide) dX8_hall_201 (fun H locs hP hD hS => ?_)
          have hP : va_P D vwCl (mw c q (hsA σ36 3 (upd (σ36.2.1 3) (0 : Int32).toNatClampNeg (σ36.2.1 3 (1 : Int32).toNatClampNeg)))) H := hP
          obtain ⟨σ37, eσ37⟩ : ∃ z : hsS, z = hsA σ36 3 (upd (σ36.2.1 3) (0 : Int32).toNatClampNeg (σ36.2.1 3 (1 : Int32).toNatClampNeg)) := ⟨_, rfl⟩
          rw [← eσ37] at hP
          have hD : va_D (wdA 31 q) (mw c q σ37) := mw_D hD0
          have hw := hw σ37 eσ37
          refine lv_aload_n hx hb dX8_hall_202 rfl (lv_at hl 0 rfl) ?_
          refine va_get (D := D) (ci := 8) (C := RX8) (T := TX8) (N := 57) hx hb htb inX8 hown hK hP 0 (mw_0 c q σ37) rfl 4 (by decide) (htb _ tb_1185) (fun _ h9 => h9) rfl dX8_hall_203 ?_
          refine lv_iconst (v := (0 : Int32)) hx hb dX8_hall_206 (by decide) ?_
          refine lv_aload_n hx hb dX8_hall_207 rfl (lv_at hl 0 rfl) ?_
          refine va_get (D := D) (ci := 8) (C := RX8) (T := TX8) (N := 57) hx hb htb inX8 hown hK hP 0 (mw_0 c q σ37) rfl 4 (by decide) (htb _ tb_1185) (fun _ h9 => h9) rfl dX8_hall_208 ?_
          refine lv_iconst (v := (1 : Int32)) hx hb dX8_hall_211 (by decide) ?_
          refine va_iald hx hb hK hP 4 3 (mw_4 c q σ37) rfl (by unfold vp_in; decide) dX8_hall_212 ?_
          refine va_iast hx hb hK hP hD hS 4 3 (mw_4 c q σ37) rfl (by unfold vp_in; decide) dX8_hall_213 (fun H locs hP hD hS => ?_)
          have hP : va_P D vwCl (mw c q (hsA σ37 4 (upd (σ37.2.1 4) (0 : Int32).toNatClampNeg (σ37.2.1 4 (1 : Int32).toNatClampNeg)))) H := hP
          obtain ⟨σ38, eσ38⟩ : ∃ z : hsS, z = hsA σ37 4 (upd (σ37.2.1 4) (0 : Int32).toNatClampNeg (σ37.2.1 4 (1 : Int32).toNatClampNeg)) := ⟨_, rfl⟩
          rw [← eσ38] at hP
          have hD : va_D (wdA 31 q) (mw c q σ38) := mw_D hD0
          have hw := hw σ38 eσ38
          refine lv_aload_n hx hb dX8_hall_214 rfl (lv_at hl 0 rfl) ?_
          refine va_get (D := D) (ci := 8) (C := RX8) (T := TX8) (N := 57) hx hb htb inX8 hown hK hP 0 (mw_0 c q σ38) rfl 5 (by decide) (htb _ tb_1186) (fun _ h9 => h9) rfl dX8_hall_215 ?_
          refine lv_iconst (v := (0 : Int32)) hx hb dX8_hall_218 (by decide) ?_
          refine lv_aload_n hx hb dX8_hall_219 rfl (lv_at hl 0 rfl) ?_
          refine va_get (D := D) (ci := 8) (C := RX8) (T := TX8) (N := 57) hx hb htb inX8 hown hK hP 0 (mw_0 c q σ38) rfl 5 (by decide) (htb _ tb_1186) (fun _ h9 => h9) rfl dX8_hall_220 ?_
          refine lv_iconst (v := (1 : Int32)) hx hb dX8_hall_223 (by decide) ?_
          refine va_iald hx hb hK hP 5 4 (mw_5 c q σ38) rfl (by unfold vp_in; decide) dX8_hall_224 ?_
          refine va_iast hx hb hK hP hD hS 5 4 (mw_5 c q σ38) rfl (by unfold vp_in; decide) dX8_hall_225 (fun H locs hP hD hS => ?_)
          have hP : va_P D vwCl (mw c q (hsA σ38 5 (upd (σ38.2.1 5) (0 : Int32).toNatClampNeg (σ38.2.1 5 (1 : Int32).toNatClampNeg)))) H := hP
          obtain ⟨σ39, eσ39⟩ : ∃ z : hsS, z = hsA σ38 5 (upd (σ38.2.1 5) (0 : Int32).toNatClampNeg (σ38.2.1 5 (1 : Int32).toNatClampNeg)) := ⟨_, rfl⟩
          rw [← eσ39] at hP
          have hD : va_D (wdA 31 q) (mw c q σ39) := mw_D hD0
          have hw := hw σ39 eσ39
          refine lv_aload_n hx hb dX8_hall_226 rfl (lv_at hl 0 rfl) ?_
          refine va_get (D := D) (ci := 8) (C := RX8) (T := TX8) (N := 57) hx hb htb inX8 hown hK hP 0 (mw_0 c q σ39) rfl 6 (by decide) (htb _ tb_1187) (fun _ h9 => h9) rfl dX8_hall_227 ?_
          refine lv_iconst (v := (0 : Int32)) hx hb dX8_hall_230 (by decide) ?_
          refine lv_aload_n hx hb dX8_hall_231 rfl (lv_at hl 0 rfl) ?_
          refine va_get (D := D) (ci := 8) (C := RX8) (T := TX8) (N := 57) hx hb htb inX8 hown hK hP 0 (mw_0 c q σ39) rfl 6 (by decide) (htb _ tb_1187) (fun _ h9 => h9) rfl dX8_hall_232 ?_
          refine lv_iconst (v := (1 : Int32)) hx hb dX8_hall_235 (by decide) ?_
          refine va_iald hx hb hK hP 6 5 (mw_6 c q σ39) rfl (by unfold vp_in; decide) dX8_hall_236 ?_
          refine va_iast hx hb hK hP hD hS 6 5 (mw_6 c q σ39) rfl (by unfold vp_in; decide) dX8_hall_237 (fun H locs hP hD hS => ?_)
          have hP : va_P D vwCl (mw c q (hsA σ39 6 (upd (σ39.2.1 6) (0 : Int32).toNatClampNeg (σ39.2.1 6 (1 : Int32).toNatClampNeg)))) H := hP
          obtain ⟨σ40, eσ40⟩ : ∃ z : hsS, z = hsA σ39 6 (upd (σ39.2.1 6) (0 : Int32).toNatClampNeg (σ39.2.1 6 (1 : Int32).toNatClampNeg)) := ⟨_, rfl⟩
          rw [← eσ40] at hP
          have hD : va_D (wdA 31 q) (mw c q σ40) := mw_D hD0
          have hw := hw σ40 eσ40
          refine lv_iconst (v := (0 : Int32)) hx hb dX8_hall_238 (by decide) ?_
          refine lv_istore_n (lv' := [(2, .int (0 : Int32)), (0, .ref (q 0)), (1, .int x1)]) hx hb dX8_hall_239 rfl hl (by decide) rfl (fun ls hl => ?_)
          obtain ⟨n51, hw⟩ := hw
          refine L240 _ x1 n51 (0 : Int32) σ40 _ _ _ hw ?_ hP hS (lv_sub hl [1, 2, 0] rfl)
          intro v52 σ53 H locs ls hw hP hS hl
          have hD : va_D (wdA 31 q) (mw c q σ53) := mw_D hD0
          refine lv_iconst (v := (0 : Int32)) hx hb dX8_hall_321 (by decide) ?_
          refine lv_istore_n (lv' := [(2, .int (0 : Int32)), (0, .ref (q 0)), (1, .int x1)]) hx hb dX8_hall_322 rfl hl (by decide) rfl (fun ls hl => ?_)
          obtain ⟨n57, hw⟩ := hw
          refine L323 _ x1 n57 (0 : Int32) σ53 _ _ _ hw ?_ hP hS (lv_sub hl [1, 2, 0] rfl)
          intro v58 σ59 H locs ls hw hP hS hl
          have hD : va_D (wdA 31 q) (mw c q σ59) := mw_D hD0
          refine lv_iconst (v := (0 : Int32)) hx hb dX8_hall_350 (by decide) ?_
          refine lv_istore_n (lv' := [(2, .int (0 : Int32)), (0, .ref (q 0)), (1, .int x1)]) hx hb dX8_hall_351 rfl hl (by decide) rfl (fun ls hl => ?_)
          obtain ⟨n63, hw⟩ := hw
          refine L352 _ x1 n63 (0 : Int32) σ59 _ _ _ hw ?_ hP hS (lv_sub hl [1, 2, 0] rfl)
          intro v64 σ65 H locs ls hw hP hS hl
          have hD : va_D (wdA 31 q) (mw c q σ65) := mw_D hD0
          refine lv_aload_n hx hb dX8_hall_379 rfl (lv_at hl 0 rfl) ?_
          refine va_callv (va_runV (As := []) (rest := []) ⟨hx, hb, hml, hown, htb⟩ (kcX8_renew l D c q ev hev σ65  _ hw) (tb_CW htb kX8_renew tb_1442 tb_1444 tb_56 ⟨Nat.le_of_ble_eq_true rfl, Nat.le_of_ble_eq_true rfl⟩) (wd_preV (wd := mw c q) (k := 0) hev hK hP hD hE hS (mw_0 c q σ65) rfl) rfl rfl hl.1 rfl (lv_room (Nat.le_of_ble_eq_true rfl)) dX8_hall_380 ⟨Nat.zero_le _, Nat.zero_le _⟩) hS (fun q _ h => h) (fun q h => h) (fun σ67 t H1 locs1 ht hvm hw hB hz1 hk1 hS => ?_)
          have hP : va_P D vwCl (mw c q σ67) H1 := ht ▸ hB
          have hD : va_D (wdA 31 q) (mw c q σ67) := mw_D hD0
          refine lv_iconst (v := (0 : Int32)) hx hb dX8_hall_383 (by decide) ?_
          exact W.iret hx hb hr (fun t ht hW => ⟨⟨_, σ67, rfl, hw, by unfold wdB; rw [ht]; exact hP⟩, hS.F ht⟩) hS.2.2 dX8_hall_384
        · have hw := hw.2 c34
          refine lv_aload_n hx hb dX8_hall_153 rfl (lv_at hl 0 rfl) ?_
          refine lv_aload_n hx hb dX8_hall_154 rfl (lv_at hl 0 rfl) ?_
          refine va_get (D := D) (ci := 8) (C := RX8) (T := TX8) (N := 57) hx hb htb inX8 hown hK hP 0 (mw_0 c q σ33) rfl 22 (by decide) (htb _ tb_1203) (fun _ h9 => h9) rfl dX8_hall_155 ?_
          refine va_put (D := D) (ci := 8) (ty := .int) (C := RX8) (T := TX8) (N := 57) hx hb htb inX8 tyX8 tyX8_ok nmX8 hown hK hP hD hS 0 (mw_0 c q σ33) rfl 23 (by decide) (htb _ tb_1204) (fun _ h9 => h9) rfl (by decide +kernel) rfl rfl (Nat.le_of_ble_eq_true rfl) dX8_hall_158 (fun H locs hP hD hS => ?_)
          have hP : va_P D vwCl (mw c q (hsI σ33 23 (σ33.1 22))) H := hP
          obtain ⟨σ68, eσ68⟩ : ∃ z : hsS, z = hsI σ33 23 (σ33.1 22) := ⟨_, rfl⟩
          rw [← eσ68] at hP
          have hD : va_D (wdA 31 q) (mw c q σ68) := mw_D hD0
          have hw := hw σ68 eσ68
          refine lv_aload_n hx hb dX8_hall_161 rfl (lv_at hl 0 rfl) ?_
          refine va_get (D := D) (ci := 8) (C := RX8) (T := TX8) (N := 57) hx hb htb inX8 hown hK hP 0 (mw_0 c q σ68) rfl 21 (by decide) (htb _ tb_1202) (fun _ h9 => h9) rfl dX8_hall_162 ?_
          exact W.iret hx hb hr (fun t ht hW => ⟨⟨_, σ68, rfl, hw, by unfold wdB; rw [ht]; exact hP⟩, hS.F ht⟩) hS.2.2 dX8_hall_165
    · have hw := hw.2 c5
      refine lv_aload_n hx hb dX8_hall_17 rfl (lv_at hl 0 rfl) ?_
      refine lv_iconst (v := (1 : Int32)) hx hb dX8_hall_18 (by decide) ?_
      refine va_calli (va_runV (As := [.int (1 : Int32)]) (rest := []) ⟨hx, hb, hml, hown, htb⟩ (kcX8_fail l D c q ev hev σ1 (1 : Int32) _ hw) (tb_CW htb kX8_fail tb_1366 tb_1368 tb_42 ⟨Nat.le_of_ble_eq_true rfl, Nat.le_of_ble_eq_true rfl⟩) (wd_preV (wd := mw c q) (k := 0) hev hK hP hD hE hS (mw_0 c q σ1) rfl) rfl rfl hl.1 rfl (lv_room (Nat.le_of_ble_eq_true rfl)) dX8_hall_19 ⟨Nat.zero_le _, Nat.zero_le _⟩) hS (fun q _ h => h) (fun q h => h) (fun r92 σ93 t H1 locs1 ht hvm hw hB hz1 hk1 hS => ?_)
      have hP : va_P D vwCl (mw c q σ93) H1 := ht ▸ hB
      have hD : va_D (wdA 31 q) (mw c q σ93) := mw_D hD0
      exact W.iret hx hb hr (fun t ht hW => ⟨⟨_, σ93, rfl, hw, by unfold wdB; rw [ht]; exact hP⟩, hS.F ht⟩) hS.2.2 dX8_hall_22
def wX8_fault  (post : Int32 → hsS → Prop) (σ : hsS) : Prop := ∀ σ1 : hsS, σ1 = hsI σ 0 (0 : Int32) → post (σ1.1 23) σ1
set_option maxHeartbeats 4000000 in
set_option maxRecDepth 100000 in
theorem kcX8_fault (l : Launch) (D : va_G) (c : Nat → ClassId) (q : Nat → Nat) (ev : State → Heap → Prop) (hev : evOK (wdA 31 q) ev) (σ : hsS)  (post : Int32 → hsS → Prop) (hw : wX8_fault  post σ) : Met l yX8_fault (Cond.code yX8_fault cX8_fault 1 (some .int) :: tb_L) { frames := 0, cells := 0, slots := 0, locals := 0 } (wdPc D (mw c q) (mwT c) (wdA 31 q) ev σ [.ref (q 0)]) (va_Qi post (wdB D (mw c q)) (wdA 31 q)) 0 0 (wdA 31 q) := by
  refine Met.ofW (cc := cX8_fault) (maxL := 1) (ret := (some .int)) (by decide) rfl ?_
  intro p e s m args below meth c₀ s₁ Bd hml hv
  obtain ⟨rfl, hP, hK, hD0, hE⟩ := hv
  have hx := Bd.exec
  have hb := Bd.bytes
  have hr := Bd.returns
  have hts := atoms_spec (ws := Cond.code yX8_fault cX8_fault 1 (some .int) :: tb_L) Bd.pre
  have htb : ∀ w ∈ tb_L, w.before [.ref (q 0)].toArray s = true := fun w h => hts w (List.mem_cons_of_mem _ h)
  have hown : s.vm.findClass RX8 = some m.cls := findClass_of_methodNamed Bd.named
  have hlocks := Bd.notSynchronized
  have hS : va_S (wdA 31 q) s.heap s.heap [] := va_S.rf
  have hD := hD0
  have hl := lv_entry ([.ref (q 0)]) (n := 1) (Nat.le_of_ble_eq_true rfl)
  rw [lg_entry_eq]
  generalize (lg_sl ([.ref (q 0)]) ++ List.replicate (1 - (lg_sl ([.ref (q 0)])).length) Slot.unset).toArray = ls at hl ⊢
  have hl : lv_has ls 1 [(0, .ref (q 0))] := hl
  unfold wX8_fault at hw
  refine lv_aload_n hx hb dX8_fault_0 rfl (lv_at hl 0 rfl) ?_
  refine lv_iconst (v := (0 : Int32)) hx hb dX8_fault_1 (by decide) ?_
  refine va_put (D := D) (ci := 8) (ty := .int) (C := RX8) (T := TX8) (N := 57) hx hb htb inX8 tyX8 tyX8_ok nmX8 hown hK hP hD hS 0 (mw_0 c q σ) rfl 0 (by decide) (htb _ tb_1181) (fun _ h9 => h9) rfl (by decide +kernel) rfl rfl (Nat.le_of_ble_eq_true rfl) dX8_fault_2 (fun H locs hP hD hS => ?_)
  have hP : va_P D vwCl (mw c q (hsI σ 0 (0 : Int32))) H := hP
  obtain ⟨σ1, eσ1⟩ : ∃ z : hsS, z = hsI σ 0 (0 : Int32) := ⟨_, rfl⟩
  rw [← eσ1] at hP
  have hD : va_D (wdA 31 q) (mw c q σ1) := mw_D hD0
  have hw := hw σ1 eσ1
  refine lv_aload_n hx hb dX8_fault_5 rfl (lv_at hl 0 rfl) ?_
  refine va_get (D := D) (ci := 8) (C := RX8) (T := TX8) (N := 57) hx hb htb inX8 hown hK hP 0 (mw_0 c q σ1) rfl 23 (by decide) (htb _ tb_1204) (fun _ h9 => h9) rfl dX8_fault_6 ?_
  exact W.iret hx hb hr (fun t ht hW => ⟨⟨_, σ1, rfl, hw, by unfold wdB; rw [ht]; exact hP⟩, hS.F ht⟩) hS.2.2 dX8_fault_9
def wX8_weightOf_L4 (z1 : Int32) (K42 : Int32 → Int32 → hsS → Prop) (post : Int32 → hsS → Prop) : Nat → Int32 → Int32 → hsS → Prop
  | 0, _, _, _ => False
  | n + 1, y2, y3, σ => (((σ.2.1 2 (0 : Int32).toNatClampNeg) ≤ y3 → K42 y2 y3 σ) ∧ (¬ (σ.2.1 2 (0 : Int32).toNatClampNeg) ≤ y3 → ((((z1 >>> (y3 &&& 31)) &&& (1 : Int32)) = (1 : Int32) → vp_in y3 16 ∧ ∀ v3 : Int32, v3 = y2 + (σ.2.1 7 y3.toNatClampNeg) → ∀ v4 : Int32, v4 = y3 + (1 : Int32) → wX8_weightOf_L4 z1 K42 post n v3 v4 σ) ∧ (¬ ((z1 >>> (y3 &&& 31)) &&& (1 : Int32)) = (1 : Int32) → ∀ v5 : Int32, v5 = y2 + (0 : Int32) → ∀ v6 : Int32, v6 = y3 + (1 : Int32) → wX8_weightOf_L4 z1 K42 post n v5 v6 σ))))
def wX8_weightOf (x1 : Int32) (post : Int32 → hsS → Prop) (σ : hsS) : Prop := ∃ n7, wX8_weightOf_L4 x1 (fun v8 v9 σ10 => post v8 σ10) post n7 (0 : Int32) (0 : Int32) σ
set_option maxHeartbeats 4000000 in
set_option maxRecDepth 100000 in
theorem kcX8_weightOf (l : Launch) (D : va_G) (c : Nat → ClassId) (q : Nat → Nat) (ev : State → Heap → Prop) (hev : evOK (wdA 31 q) ev) (σ : hsS) (x1 : Int32) (post : Int32 → hsS → Prop) (hw : wX8_weightOf x1 post σ) : Met l yX8_weightOf (Cond.code yX8_weightOf cX8_weightOf 4 (some .int) :: tb_L) { frames := 0, cells := 0, slots := 0, locals := 0 } (wdPc D (mw c q) (mwT c) (wdA 31 q) ev σ [.ref (q 0), .int x1]) (va_Qi post (wdB D (mw c q)) (wdA 31 q)) 0 0 (wdA 31 q) := by
  refine Met.ofW (cc := cX8_weightOf) (maxL := 4) (ret := (some .int)) (by decide) rfl ?_
  intro p e s m args below meth c₀ s₁ Bd hml hv
  obtain ⟨rfl, hP, hK, hD0, hE⟩ := hv
  have hx := Bd.exec
  have hb := Bd.bytes
  have hr := Bd.returns
  have hts := atoms_spec (ws := Cond.code yX8_weightOf cX8_weightOf 4 (some .int) :: tb_L) Bd.pre
  have htb : ∀ w ∈ tb_L, w.before [.ref (q 0), .int x1].toArray s = true := fun w h => hts w (List.mem_cons_of_mem _ h)
  have hown : s.vm.findClass RX8 = some m.cls := findClass_of_methodNamed Bd.named
  have hlocks := Bd.notSynchronized
  have hS : va_S (wdA 31 q) s.heap s.heap [] := va_S.rf
  have hD := hD0
  have L4 : ∀ (K42 : Int32 → Int32 → hsS → Prop) (z1 : Int32) (n : Nat) (y2 : Int32) (y3 : Int32) (σ : hsS) (H : Heap) (locs : List Loc) (ls : Array Slot), wX8_weightOf_L4 z1 K42 post n y2 y3 σ → (∀ (y2 : Int32) (y3 : Int32) (σ : hsS) (H : Heap) (locs : List Loc) (ls : Array Slot), K42 y2 y3 σ → va_P D vwCl (mw c q σ) H → va_S (wdA 31 q) s.heap H locs → lv_has ls 4 [(0, .ref (q 0)), (1, .int z1), (2, .int y2), (3, .int y3)] → W p l e (headSpec (Cond.code yX8_weightOf cX8_weightOf 4 (some .int) :: tb_L) { frames := 0, cells := 0, slots := 0, locals := 0 }).room s m [.ref (q 0), .int x1].toArray below meth c₀ H locs 0 0 (MQ below (va_Qi post (wdB D (mw c q)) (wdA 31 q)) [.ref (q 0), .int x1].toArray s 0 0 (wdA 31 q)) (F0 m 42 ls [])) → va_P D vwCl (mw c q σ) H → va_S (wdA 31 q) s.heap H locs → lv_has ls 4 [(0, .ref (q 0)), (1, .int z1), (2, .int y2), (3, .int y3)] → W p l e (headSpec (Cond.code yX8_weightOf cX8_weightOf 4 (some .int) :: tb_L) { frames := 0, cells := 0, slots := 0, locals := 0 }).room s m [.ref (q 0), .int x1].toArray below meth c₀ H locs 0 0 (MQ below (va_Qi post (wdB D (mw c q)) (wdA 31 q)) [.ref (q 0), .int x1].toArray s 0 0 (wdA 31 q)) (F0 m 4 ls []) := by
    intro K42 z1 n
    induction n with
    | zero =>
      intro y2 y3 σ H locs ls hw hk42 hP hS hl
      exact (show False from hw).elim
    | succ n ih =>
      intro y2 y3 σ H locs ls hw hk42 hP hS hl
      rw [wX8_weightOf_L4] at hw
      have hD : va_D (wdA 31 q) (mw c q σ) := mw_D hD0
      refine lv_iload_n hx hb dX8_weightOf_4 rfl (lv_at hl 3 rfl) ?_
      refine lv_aload_n hx hb dX8_weightOf_5 rfl (lv_at hl 0 rfl) ?_
      refine va_get (D := D) (ci := 8) (C := RX8) (T := TX8) (N := 57) hx hb htb inX8 hown hK hP 0 (mw_0 c q σ) rfl 2 (by decide) (htb _ tb_1183) (fun _ h9 => h9) rfl dX8_weightOf_6 ?_
      refine lv_iconst (v := (0 : Int32)) hx hb dX8_weightOf_9 (by decide) ?_
      refine va_iald hx hb hK hP 2 1 (mw_2 c q σ) rfl (by unfold vp_in; decide) dX8_weightOf_10 ?_
      refine lv_icmp_ge (tgt := 42) hx hb dX8_weightOf_11 (by decide) (fun c1 => ?_) (fun c1 => ?_)
      · have hw := hw.1 c1
        exact hk42 y2 y3 σ _ _ _ hw hP hS (lv_sub hl [0, 1, 2, 3] rfl)
      · have hw := hw.2 c1
        refine lv_iload_n hx hb dX8_weightOf_14 rfl (lv_at hl 2 rfl) ?_
        refine lv_iload_n hx hb dX8_weightOf_15 rfl (lv_at hl 1 rfl) ?_
        refine lv_iload_n hx hb dX8_weightOf_16 rfl (lv_at hl 3 rfl) ?_
        refine lv_ishr hx hb dX8_weightOf_17 ?_
        refine lv_iconst (v := (1 : Int32)) hx hb dX8_weightOf_18 (by decide) ?_
        refine lv_iand hx hb dX8_weightOf_19 ?_
        refine lv_iconst (v := (1 : Int32)) hx hb dX8_weightOf_20 (by decide) ?_
        refine lv_icmp_ne (tgt := 33) hx hb dX8_weightOf_21 (by decide) (fun c2 => ?_) (fun c2 => ?_)
        · have hw := hw.2 c2
          refine lv_iconst (v := (0 : Int32)) hx hb dX8_weightOf_33 (by decide) ?_
          refine lv_iadd hx hb dX8_weightOf_34 ?_
          refine lv_topi (fun v5 ev5 => ?_)
          have hw := hw v5 ev5
          refine lv_istore_n (lv' := [(2, .int v5), (0, .ref (q 0)), (1, .int z1), (3, .int y3)]) hx hb dX8_weightOf_35 rfl hl (by decide) rfl (fun ls hl => ?_)
          obtain ⟨v6, ev6⟩ : ∃ z : Int32, z = y3 + (1 : Int32) := ⟨_, rfl⟩
          have hw := hw v6 ev6
          refine lv_iinc (v := v6) (lv' := [(3, .int v6), (2, .int v5), (0, .ref (q 0)), (1, .int z1)]) hx hb dX8_weightOf_36 hl (k := 3) rfl (by rw [ev6]; rfl) (by decide) rfl (fun ls hl => ?_)
          refine lv_goto (tgt := 4) hx hb dX8_weightOf_39 (by decide) ?_
          exact ih v5 v6 σ _ _ _ hw hk42 hP hS (lv_sub hl [2, 3, 1, 0] rfl)
        · have hw := hw.1 c2
          refine lv_aload_n hx hb dX8_weightOf_24 rfl (lv_at hl 0 rfl) ?_
          refine va_get (D := D) (ci := 8) (C := RX8) (T := TX8) (N := 57) hx hb htb inX8 hown hK hP 0 (mw_0 c q σ) rfl 7 (by decide) (htb _ tb_1188) (fun _ h9 => h9) rfl dX8_weightOf_25 ?_
          refine lv_iload_n hx hb dX8_weightOf_28 rfl (lv_at hl 3 rfl) ?_
          refine va_iald hx hb hK hP 7 6 (mw_7 c q σ) rfl hw.1 dX8_weightOf_29 ?_
          have hw := hw.2
          refine lv_goto (tgt := 34) hx hb dX8_weightOf_30 (by decide) ?_
          refine lv_iadd hx hb dX8_weightOf_34 ?_
          refine lv_topi (fun v3 ev3 => ?_)
          have hw := hw v3 ev3
          refine lv_istore_n (lv' := [(2, .int v3), (0, .ref (q 0)), (1, .int z1), (3, .int y3)]) hx hb dX8_weightOf_35 rfl hl (by decide) rfl (fun ls hl => ?_)
          obtain ⟨v4, ev4⟩ : ∃ z : Int32, z = y3 + (1 : Int32) := ⟨_, rfl⟩
          have hw := hw v4 ev4
          refine lv_iinc (v := v4) (lv' := [(3, .int v4), (2, .int v3), (0, .ref (q 0)), (1, .int z1)]) hx hb dX8_weightOf_36 hl (k := 3) rfl (by rw [ev4]; rfl) (by decide) rfl (fun ls hl => ?_)
          refine lv_goto (tgt := 4) hx hb dX8_weightOf_39 (by decide) ?_
          exact ih v3 v4 σ _ _ _ hw hk42 hP hS (lv_sub hl [2, 3, 1, 0] rfl)
  have hl := lv_entry ([.ref (q 0), .int x1]) (n := 4) (Nat.le_of_ble_eq_true rfl)
  rw [lg_entry_eq]
  generalize (lg_sl ([.ref (q 0), .int x1]) ++ List.replicate (4 - (lg_sl ([.ref (q 0), .int x1])).length) Slot.unset).toArray = ls at hl ⊢
  have hl : lv_has ls 4 [(0, .ref (q 0)), (1, .int x1)] := hl
  unfold wX8_weightOf at hw
  refine lv_iconst (v := (0 : Int32)) hx hb dX8_weightOf_0 (by decide) ?_
  refine lv_istore_n (lv' := [(2, .int (0 : Int32)), (0, .ref (q 0)), (1, .int x1)]) hx hb dX8_weightOf_1 rfl hl (by decide) rfl (fun ls hl => ?_)
  refine lv_iconst (v := (0 : Int32)) hx hb dX8_weightOf_2 (by decide) ?_
  refine lv_istore_n (lv' := [(3, .int (0 : Int32)), (2, .int (0 : Int32)), (0, .ref (q 0)), (1, .int x1)]) hx hb dX8_weightOf_3 rfl hl (by decide) rfl (fun ls hl => ?_)
  obtain ⟨n7, hw⟩ := hw
  refine L4 _ x1 n7 (0 : Int32) (0 : Int32) σ _ _ _ hw ?_ hP hS (lv_sub hl [2, 3, 1, 0] rfl)
  intro v8 v9 σ10 H locs ls hw hP hS hl
  have hD : va_D (wdA 31 q) (mw c q σ10) := mw_D hD0
  refine lv_iload_n hx hb dX8_weightOf_42 rfl (lv_at hl 2 rfl) ?_
  exact W.iret hx hb hr (fun t ht hW => ⟨⟨_, σ10, rfl, hw, by unfold wdB; rw [ht]; exact hP⟩, hS.F ht⟩) hS.2.2 dX8_weightOf_43
def wX8_count (x1 : Int32) (post : Int32 → hsS → Prop) (σ : hsS) : Prop := ∀ σ1 : hsS, σ1 = hsI σ 0 (0 : Int32) → ((x1 = (0 : Int32) → post (σ1.2.1 1 (0 : Int32).toNatClampNeg) σ1) ∧ (¬ x1 = (0 : Int32) → ((x1 = (1 : Int32) → post (σ1.2.1 2 (0 : Int32).toNatClampNeg) σ1) ∧ (¬ x1 = (1 : Int32) → ((x1 = (2 : Int32) → post (σ1.2.1 6 (0 : Int32).toNatClampNeg) σ1) ∧ (¬ x1 = (2 : Int32) → ((x1 = (3 : Int32) → post (σ1.2.1 3 (0 : Int32).toNatClampNeg) σ1) ∧ (¬ x1 = (3 : Int32) → ((x1 = (4 : Int32) → post (σ1.1 52) σ1) ∧ (¬ x1 = (4 : Int32) → ((x1 = (5 : Int32) → post (σ1.1 14) σ1) ∧ (¬ x1 = (5 : Int32) → ((x1 = (6 : Int32) → wX8_weightOf (((1 : Int32) <<< ((σ1.2.1 2 (0 : Int32).toNatClampNeg) &&& 31)) - (1 : Int32)) (fun r8 σ9 => post r8 σ9) σ1) ∧ (¬ x1 = (6 : Int32) → wX8_fail (1 : Int32) (fun r11 σ12 => post r11 σ12) σ1))))))))))))))
set_option maxHeartbeats 4000000 in
set_option maxRecDepth 100000 in
theorem kcX8_count (l : Launch) (D : va_G) (c : Nat → ClassId) (q : Nat → Nat) (ev : State → Heap → Prop) (hev : evOK (wdA 31 q) ev) (σ : hsS) (x1 : Int32) (post : Int32 → hsS → Prop) (hw : wX8_count x1 post σ) : Met l yX8_count (Cond.code yX8_count cX8_count 2 (some .int) :: tb_L) { frames := 1, cells := 0, slots := 0, locals := 23 } (wdPc D (mw c q) (mwT c) (wdA 31 q) ev σ [.ref (q 0), .int x1]) (va_Qi post (wdB D (mw c q)) (wdA 31 q)) 0 0 (wdA 31 q) := by
  refine Met.ofW (cc := cX8_count) (maxL := 2) (ret := (some .int)) (by decide) rfl ?_
  intro p e s m args below meth c₀ s₁ Bd hml hv
  obtain ⟨rfl, hP, hK, hD0, hE⟩ := hv
  have hx := Bd.exec
  have hb := Bd.bytes
  have hr := Bd.returns
  have hts := atoms_spec (ws := Cond.code yX8_count cX8_count 2 (some .int) :: tb_L) Bd.pre
  have htb : ∀ w ∈ tb_L, w.before [.ref (q 0), .int x1].toArray s = true := fun w h => hts w (List.mem_cons_of_mem _ h)
  have hown : s.vm.findClass RX8 = some m.cls := findClass_of_methodNamed Bd.named
  have hlocks := Bd.notSynchronized
  have hS : va_S (wdA 31 q) s.heap s.heap [] := va_S.rf
  have hD := hD0
  have hl := lv_entry ([.ref (q 0), .int x1]) (n := 2) (Nat.le_of_ble_eq_true rfl)
  rw [lg_entry_eq]
  generalize (lg_sl ([.ref (q 0), .int x1]) ++ List.replicate (2 - (lg_sl ([.ref (q 0), .int x1])).length) Slot.unset).toArray = ls at hl ⊢
  have hl : lv_has ls 2 [(0, .ref (q 0)), (1, .int x1)] := hl
  unfold wX8_count at hw
  refine lv_aload_n hx hb dX8_count_0 rfl (lv_at hl 0 rfl) ?_
  refine lv_iconst (v := (0 : Int32)) hx hb dX8_count_1 (by decide) ?_
  refine va_put (D := D) (ci := 8) (ty := .int) (C := RX8) (T := TX8) (N := 57) hx hb htb inX8 tyX8 tyX8_ok nmX8 hown hK hP hD hS 0 (mw_0 c q σ) rfl 0 (by decide) (htb _ tb_1181) (fun _ h9 => h9) rfl (by decide +kernel) rfl rfl (Nat.le_of_ble_eq_true rfl) dX8_count_2 (fun H locs hP hD hS => ?_)
  have hP : va_P D vwCl (mw c q (hsI σ 0 (0 : Int32))) H := hP
  obtain ⟨σ1, eσ1⟩ : ∃ z : hsS, z = hsI σ 0 (0 : Int32) := ⟨_, rfl⟩
  rw [← eσ1] at hP
  have hD : va_D (wdA 31 q) (mw c q σ1) := mw_D hD0
  have hw := hw σ1 eσ1
  refine lv_iload_n hx hb dX8_count_5 rfl (lv_at hl 1 rfl) ?_
  by_cases c2 : x1 = (0 : Int32)
  · have hw := hw.1 c2
    refine lv_tableIn (off := 42) (tgt := 48) hx hb dX8_count_6 (by rw [c2]; decide) (by rw [c2]; decide) (by rw [c2]; rfl) (by decide) ?_
    refine lv_aload_n hx hb dX8_count_48 rfl (lv_at hl 0 rfl) ?_
    refine va_get (D := D) (ci := 8) (C := RX8) (T := TX8) (N := 57) hx hb htb inX8 hown hK hP 0 (mw_0 c q σ1) rfl 1 (by decide) (htb _ tb_1182) (fun _ h9 => h9) rfl dX8_count_49 ?_
    refine lv_iconst (v := (0 : Int32)) hx hb dX8_count_52 (by decide) ?_
    refine va_iald hx hb hK hP 1 0 (mw_1 c q σ1) rfl (by unfold vp_in; decide) dX8_count_53 ?_
    exact W.iret hx hb hr (fun t ht hW => ⟨⟨_, σ1, rfl, hw, by unfold wdB; rw [ht]; exact hP⟩, hS.F ht⟩) hS.2.2 dX8_count_54
  · have hw := hw.2 c2
    by_cases c3 : x1 = (1 : Int32)
    · have hw := hw.1 c3
      refine lv_tableIn (off := 49) (tgt := 55) hx hb dX8_count_6 (by rw [c3]; decide) (by rw [c3]; decide) (by rw [c3]; rfl) (by decide) ?_
      refine lv_aload_n hx hb dX8_count_55 rfl (lv_at hl 0 rfl) ?_
      refine va_get (D := D) (ci := 8) (C := RX8) (T := TX8) (N := 57) hx hb htb inX8 hown hK hP 0 (mw_0 c q σ1) rfl 2 (by decide) (htb _ tb_1183) (fun _ h9 => h9) rfl dX8_count_56 ?_
      refine lv_iconst (v := (0 : Int32)) hx hb dX8_count_59 (by decide) ?_
      refine va_iald hx hb hK hP 2 1 (mw_2 c q σ1) rfl (by unfold vp_in; decide) dX8_count_60 ?_
      exact W.iret hx hb hr (fun t ht hW => ⟨⟨_, σ1, rfl, hw, by unfold wdB; rw [ht]; exact hP⟩, hS.F ht⟩) hS.2.2 dX8_count_61
    · have hw := hw.2 c3
      by_cases c4 : x1 = (2 : Int32)
      · have hw := hw.1 c4
        refine lv_tableIn (off := 56) (tgt := 62) hx hb dX8_count_6 (by rw [c4]; decide) (by rw [c4]; decide) (by rw [c4]; rfl) (by decide) ?_
        refine lv_aload_n hx hb dX8_count_62 rfl (lv_at hl 0 rfl) ?_
        refine va_get (D := D) (ci := 8) (C := RX8) (T := TX8) (N := 57) hx hb htb inX8 hown hK hP 0 (mw_0 c q σ1) rfl 6 (by decide) (htb _ tb_1187) (fun _ h9 => h9) rfl dX8_count_63 ?_
        refine lv_iconst (v := (0 : Int32)) hx hb dX8_count_66 (by decide) ?_
        refine va_iald hx hb hK hP 6 5 (mw_6 c q σ1) rfl (by unfold vp_in; decide) dX8_count_67 ?_
        exact W.iret hx hb hr (fun t ht hW => ⟨⟨_, σ1, rfl, hw, by unfold wdB; rw [ht]; exact hP⟩, hS.F ht⟩) hS.2.2 dX8_count_68
      · have hw := hw.2 c4
        by_cases c5 : x1 = (3 : Int32)
        · have hw := hw.1 c5
          refine lv_tableIn (off := 63) (tgt := 69) hx hb dX8_count_6 (by rw [c5]; decide) (by rw [c5]; decide) (by rw [c5]; rfl) (by decide) ?_
          refine lv_aload_n hx hb dX8_count_69 rfl (lv_at hl 0 rfl) ?_
          refine va_get (D := D) (ci := 8) (C := RX8) (T := TX8) (N := 57) hx hb htb inX8 hown hK hP 0 (mw_0 c q σ1) rfl 3 (by decide) (htb _ tb_1184) (fun _ h9 => h9) rfl dX8_count_70 ?_
          refine lv_iconst (v := (0 : Int32)) hx hb dX8_count_73 (by decide) ?_
          refine va_iald hx hb hK hP 3 2 (mw_3 c q σ1) rfl (by unfold vp_in; decide) dX8_count_74 ?_
          exact W.iret hx hb hr (fun t ht hW => ⟨⟨_, σ1, rfl, hw, by unfold wdB; rw [ht]; exact hP⟩, hS.F ht⟩) hS.2.2 dX8_count_75
        · have hw := hw.2 c5
          by_cases c6 : x1 = (4 : Int32)
          · have hw := hw.1 c6
            refine lv_tableIn (off := 70) (tgt := 76) hx hb dX8_count_6 (by rw [c6]; decide) (by rw [c6]; decide) (by rw [c6]; rfl) (by decide) ?_
            refine lv_aload_n hx hb dX8_count_76 rfl (lv_at hl 0 rfl) ?_
            refine va_get (D := D) (ci := 8) (C := RX8) (T := TX8) (N := 57) hx hb htb inX8 hown hK hP 0 (mw_0 c q σ1) rfl 52 (by decide) (htb _ tb_1233) (fun _ h9 => h9) rfl dX8_count_77 ?_
            exact W.iret hx hb hr (fun t ht hW => ⟨⟨_, σ1, rfl, hw, by unfold wdB; rw [ht]; exact hP⟩, hS.F ht⟩) hS.2.2 dX8_count_80
          · have hw := hw.2 c6
            by_cases c7 : x1 = (5 : Int32)
            · have hw := hw.1 c7
              refine lv_tableIn (off := 75) (tgt := 81) hx hb dX8_count_6 (by rw [c7]; decide) (by rw [c7]; decide) (by rw [c7]; rfl) (by decide) ?_
              refine lv_aload_n hx hb dX8_count_81 rfl (lv_at hl 0 rfl) ?_
              refine va_get (D := D) (ci := 8) (C := RX8) (T := TX8) (N := 57) hx hb htb inX8 hown hK hP 0 (mw_0 c q σ1) rfl 14 (by decide) (htb _ tb_1195) (fun _ h9 => h9) rfl dX8_count_82 ?_
              exact W.iret hx hb hr (fun t ht hW => ⟨⟨_, σ1, rfl, hw, by unfold wdB; rw [ht]; exact hP⟩, hS.F ht⟩) hS.2.2 dX8_count_85
            · have hw := hw.2 c7
              by_cases c10 : x1 = (6 : Int32)
              · have hw := hw.1 c10
                refine lv_tableIn (off := 80) (tgt := 86) hx hb dX8_count_6 (by rw [c10]; decide) (by rw [c10]; decide) (by rw [c10]; rfl) (by decide) ?_
                refine lv_aload_n hx hb dX8_count_86 rfl (lv_at hl 0 rfl) ?_
                refine lv_iconst (v := (1 : Int32)) hx hb dX8_count_87 (by decide) ?_
                refine lv_aload_n hx hb dX8_count_88 rfl (lv_at hl 0 rfl) ?_
                refine va_get (D := D) (ci := 8) (C := RX8) (T := TX8) (N := 57) hx hb htb inX8 hown hK hP 0 (mw_0 c q σ1) rfl 2 (by decide) (htb _ tb_1183) (fun _ h9 => h9) rfl dX8_count_89 ?_
                refine lv_iconst (v := (0 : Int32)) hx hb dX8_count_92 (by decide) ?_
                refine va_iald hx hb hK hP 2 1 (mw_2 c q σ1) rfl (by unfold vp_in; decide) dX8_count_93 ?_
                refine lv_ishl hx hb dX8_count_94 ?_
                refine lv_iconst (v := (1 : Int32)) hx hb dX8_count_95 (by decide) ?_
                refine lv_isub hx hb dX8_count_96 ?_
                refine va_calli (va_runV (As := [.int (((1 : Int32) <<< ((σ1.2.1 2 (0 : Int32).toNatClampNeg) &&& 31)) - (1 : Int32))]) (rest := []) ⟨hx, hb, hml, hown, htb⟩ (kcX8_weightOf l D c q ev hev σ1 (((1 : Int32) <<< ((σ1.2.1 2 (0 : Int32).toNatClampNeg) &&& 31)) - (1 : Int32)) _ hw) (tb_CW htb kX8_weightOf tb_1454 tb_1456 tb_57 ⟨Nat.le_of_ble_eq_true rfl, Nat.le_of_ble_eq_true rfl⟩) (wd_preV (wd := mw c q) (k := 0) hev hK hP hD hE hS (mw_0 c q σ1) rfl) rfl rfl hl.1 rfl (lv_room (Nat.le_of_ble_eq_true rfl)) dX8_count_97 ⟨Nat.zero_le _, Nat.zero_le _⟩) hS (fun q _ h => h) (fun q h => h) (fun r8 σ9 t H1 locs1 ht hvm hw hB hz1 hk1 hS => ?_)
                have hP : va_P D vwCl (mw c q σ9) H1 := ht ▸ hB
                have hD : va_D (wdA 31 q) (mw c q σ9) := mw_D hD0
                exact W.iret hx hb hr (fun t ht hW => ⟨⟨_, σ9, rfl, hw, by unfold wdB; rw [ht]; exact hP⟩, hS.F ht⟩) hS.2.2 dX8_count_100
              · have hw := hw.2 c10
                have hz : ¬ (x1).toInt = 0 ∧ ¬ (x1).toInt = 1 ∧ ¬ (x1).toInt = 2 ∧ ¬ (x1).toInt = 3 ∧ ¬ (x1).toInt = 4 ∧ ¬ (x1).toInt = 5 ∧ ¬ (x1).toInt = 6 := by
                  exact ⟨lv_neT (a := 0) c2 rfl, lv_neT (a := 1) c3 rfl, lv_neT (a := 2) c4 rfl, lv_neT (a := 3) c5 rfl, lv_neT (a := 4) c6 rfl, lv_neT (a := 5) c7 rfl, lv_neT (a := 6) c10 rfl⟩
                refine lv_tableOut (tgt := 101) hx hb dX8_count_6 (by omega) (by decide) ?_
                refine lv_aload_n hx hb dX8_count_101 rfl (lv_at hl 0 rfl) ?_
                refine lv_iconst (v := (1 : Int32)) hx hb dX8_count_102 (by decide) ?_
                refine va_calli (va_runV (As := [.int (1 : Int32)]) (rest := []) ⟨hx, hb, hml, hown, htb⟩ (kcX8_fail l D c q ev hev σ1 (1 : Int32) _ hw) (tb_CW htb kX8_fail tb_1366 tb_1368 tb_42 ⟨Nat.le_of_ble_eq_true rfl, Nat.le_of_ble_eq_true rfl⟩) (wd_preV (wd := mw c q) (k := 0) hev hK hP hD hE hS (mw_0 c q σ1) rfl) rfl rfl hl.1 rfl (lv_room (Nat.le_of_ble_eq_true rfl)) dX8_count_103 ⟨Nat.zero_le _, Nat.zero_le _⟩) hS (fun q _ h => h) (fun q h => h) (fun r11 σ12 t H1 locs1 ht hvm hw hB hz1 hk1 hS => ?_)
                have hP : va_P D vwCl (mw c q σ12) H1 := ht ▸ hB
                have hD : va_D (wdA 31 q) (mw c q σ12) := mw_D hD0
                exact W.iret hx hb hr (fun t ht hW => ⟨⟨_, σ12, rfl, hw, by unfold wdB; rw [ht]; exact hP⟩, hS.F ht⟩) hS.2.2 dX8_count_106
def wX8_turn (x1 : Int32) (post : Int32 → hsS → Prop) (σ : hsS) : Prop := ∀ σ1 : hsS, σ1 = hsI σ 0 (0 : Int32) → wX8_isIn x1 (0 : Int32) ((σ1.2.1 6 (0 : Int32).toNatClampNeg) - (1 : Int32)) (fun r2 σ3 => ((r2 = (0 : Int32) → wX8_fail (1 : Int32) (fun r5 σ6 => post r5 σ6) σ3) ∧ (¬ r2 = (0 : Int32) → vp_in x1 18 ∧ post (σ3.2.1 10 x1.toNatClampNeg) σ3))) σ1
set_option maxHeartbeats 4000000 in
set_option maxRecDepth 100000 in
theorem kcX8_turn (l : Launch) (D : va_G) (c : Nat → ClassId) (q : Nat → Nat) (ev : State → Heap → Prop) (hev : evOK (wdA 31 q) ev) (σ : hsS) (x1 : Int32) (post : Int32 → hsS → Prop) (hw : wX8_turn x1 post σ) : Met l yX8_turn (Cond.code yX8_turn cX8_turn 2 (some .int) :: tb_L) { frames := 1, cells := 0, slots := 0, locals := 22 } (wdPc D (mw c q) (mwT c) (wdA 31 q) ev σ [.ref (q 0), .int x1]) (va_Qi post (wdB D (mw c q)) (wdA 31 q)) 0 0 (wdA 31 q) := by
  refine Met.ofW (cc := cX8_turn) (maxL := 2) (ret := (some .int)) (by decide) rfl ?_
  intro p e s m args below meth c₀ s₁ Bd hml hv
  obtain ⟨rfl, hP, hK, hD0, hE⟩ := hv
  have hx := Bd.exec
  have hb := Bd.bytes
  have hr := Bd.returns
  have hts := atoms_spec (ws := Cond.code yX8_turn cX8_turn 2 (some .int) :: tb_L) Bd.pre
  have htb : ∀ w ∈ tb_L, w.before [.ref (q 0), .int x1].toArray s = true := fun w h => hts w (List.mem_cons_of_mem _ h)
  have hown : s.vm.findClass RX8 = some m.cls := findClass_of_methodNamed Bd.named
  have hlocks := Bd.notSynchronized
  have hS : va_S (wdA 31 q) s.heap s.heap [] := va_S.rf
  have hD := hD0
  have hl := lv_entry ([.ref (q 0), .int x1]) (n := 2) (Nat.le_of_ble_eq_true rfl)
  rw [lg_entry_eq]
  generalize (lg_sl ([.ref (q 0), .int x1]) ++ List.replicate (2 - (lg_sl ([.ref (q 0), .int x1])).length) Slot.unset).toArray = ls at hl ⊢
  have hl : lv_has ls 2 [(0, .ref (q 0)), (1, .int x1)] := hl
  unfold wX8_turn at hw
  refine lv_aload_n hx hb dX8_turn_0 rfl (lv_at hl 0 rfl) ?_
  refine lv_iconst (v := (0 : Int32)) hx hb dX8_turn_1 (by decide) ?_
  refine va_put (D := D) (ci := 8) (ty := .int) (C := RX8) (T := TX8) (N := 57) hx hb htb inX8 tyX8 tyX8_ok nmX8 hown hK hP hD hS 0 (mw_0 c q σ) rfl 0 (by decide) (htb _ tb_1181) (fun _ h9 => h9) rfl (by decide +kernel) rfl rfl (Nat.le_of_ble_eq_true rfl) dX8_turn_2 (fun H locs hP hD hS => ?_)
  have hP : va_P D vwCl (mw c q (hsI σ 0 (0 : Int32))) H := hP
  obtain ⟨σ1, eσ1⟩ : ∃ z : hsS, z = hsI σ 0 (0 : Int32) := ⟨_, rfl⟩
  rw [← eσ1] at hP
  have hD : va_D (wdA 31 q) (mw c q σ1) := mw_D hD0
  have hw := hw σ1 eσ1
  refine lv_iload_n hx hb dX8_turn_5 rfl (lv_at hl 1 rfl) ?_
  refine lv_iconst (v := (0 : Int32)) hx hb dX8_turn_6 (by decide) ?_
  refine lv_aload_n hx hb dX8_turn_7 rfl (lv_at hl 0 rfl) ?_
  refine va_get (D := D) (ci := 8) (C := RX8) (T := TX8) (N := 57) hx hb htb inX8 hown hK hP 0 (mw_0 c q σ1) rfl 6 (by decide) (htb _ tb_1187) (fun _ h9 => h9) rfl dX8_turn_8 ?_
  refine lv_iconst (v := (0 : Int32)) hx hb dX8_turn_11 (by decide) ?_
  refine va_iald hx hb hK hP 6 5 (mw_6 c q σ1) rfl (by unfold vp_in; decide) dX8_turn_12 ?_
  refine lv_iconst (v := (1 : Int32)) hx hb dX8_turn_13 (by decide) ?_
  refine lv_isub hx hb dX8_turn_14 ?_
  refine va_calli (va_runS (As := [.int x1, .int (0 : Int32), .int ((σ1.2.1 6 (0 : Int32).toNatClampNeg) - (1 : Int32))]) (rest := []) ⟨hx, hb, hml, hown, htb⟩ (kcX8_isIn_m l D c q ev hev σ1 x1 (0 : Int32) ((σ1.2.1 6 (0 : Int32).toNatClampNeg) - (1 : Int32)) _ hw) (tb_CS htb kX8_isIn tb_1462 tb_1463 ⟨Nat.le_of_ble_eq_true rfl, Nat.le_of_ble_eq_true rfl⟩) (wd_preS (wd := mw c q) hev hK hP hD hE hS) rfl rfl hl.1 rfl (lv_room (Nat.le_of_ble_eq_true rfl)) dX8_turn_15 ⟨Nat.zero_le _, Nat.zero_le _⟩) hS (fun q _ h => h) (fun q h => h) (fun r2 σ3 t H1 locs1 ht hvm hw hB hz1 hk1 hS => ?_)
  have hP : va_P D vwCl (mw c q σ3) H1 := ht ▸ hB
  have hD : va_D (wdA 31 q) (mw c q σ3) := mw_D hD0
  refine lv_if_eq (tgt := 30) hx hb dX8_turn_18 (by decide) (fun c4 => ?_) (fun c4 => ?_)
  · have hw := hw.1 c4
    refine lv_aload_n hx hb dX8_turn_30 rfl (lv_at hl 0 rfl) ?_
    refine lv_iconst (v := (1 : Int32)) hx hb dX8_turn_31 (by decide) ?_
    refine va_calli (va_runV (As := [.int (1 : Int32)]) (rest := []) ⟨hx, hb, hml, hown, htb⟩ (kcX8_fail l D c q ev hev σ3 (1 : Int32) _ hw) (tb_CW htb kX8_fail tb_1366 tb_1368 tb_42 ⟨Nat.le_of_ble_eq_true rfl, Nat.le_of_ble_eq_true rfl⟩) (wd_preV (wd := mw c q) (k := 0) hev hK hP hD hE hS (mw_0 c q σ3) rfl) rfl rfl hl.1 rfl (lv_room (Nat.le_of_ble_eq_true rfl)) dX8_turn_32 ⟨Nat.zero_le _, Nat.zero_le _⟩) hS (fun q _ h => h) (fun q h => h) (fun r5 σ6 t H1 locs1 ht hvm hw hB hz1 hk1 hS => ?_)
    have hP : va_P D vwCl (mw c q σ6) H1 := ht ▸ hB
    have hD : va_D (wdA 31 q) (mw c q σ6) := mw_D hD0
    exact W.iret hx hb hr (fun t ht hW => ⟨⟨_, σ6, rfl, hw, by unfold wdB; rw [ht]; exact hP⟩, hS.F ht⟩) hS.2.2 dX8_turn_35
  · have hw := hw.2 c4
    refine lv_aload_n hx hb dX8_turn_21 rfl (lv_at hl 0 rfl) ?_
    refine va_get (D := D) (ci := 8) (C := RX8) (T := TX8) (N := 57) hx hb htb inX8 hown hK hP 0 (mw_0 c q σ3) rfl 10 (by decide) (htb _ tb_1191) (fun _ h9 => h9) rfl dX8_turn_22 ?_
    refine lv_iload_n hx hb dX8_turn_25 rfl (lv_at hl 1 rfl) ?_
    refine va_iald hx hb hK hP 10 9 (mw_10 c q σ3) rfl hw.1 dX8_turn_26 ?_
    have hw := hw.2
    refine lv_goto (tgt := 35) hx hb dX8_turn_27 (by decide) ?_
    exact W.iret hx hb hr (fun t ht hW => ⟨⟨_, σ3, rfl, hw, by unfold wdB; rw [ht]; exact hP⟩, hS.F ht⟩) hS.2.2 dX8_turn_35
def wX8_placeOf_L6 (z1 : Int32) (z2 : Int32) (z3 : Int32) (K54 : Int32 → Int32 → hsS → Prop) (post : Int32 → hsS → Prop) : Nat → Int32 → Int32 → hsS → Prop
  | 0, _, _, _ => False
  | n + 1, y4, y5, σ => ((z3 ≤ y5 → K54 y4 y5 σ) ∧ (¬ z3 ≤ y5 → vp_in ((z1 * (10 : Int32)) + y5) 160 ∧ vp_in ((z1 * (10 : Int32)) + z2) 160 ∧ (((σ.2.1 8 ((z1 * (10 : Int32)) + z2).toNatClampNeg) ≤ (σ.2.1 8 ((z1 * (10 : Int32)) + y5).toNatClampNeg) → ∀ v3 : Int32, v3 = y4 + (0 : Int32) → ∀ v4 : Int32, v4 = y5 + (1 : Int32) → wX8_placeOf_L6 z1 z2 z3 K54 post n v3 v4 σ) ∧ (¬ (σ.2.1 8 ((z1 * (10 : Int32)) + z2).toNatClampNeg) ≤ (σ.2.1 8 ((z1 * (10 : Int32)) + y5).toNatClampNeg) → ∀ v5 : Int32, v5 = y4 + (1 : Int32) → ∀ v6 : Int32, v6 = y5 + (1 : Int32) → wX8_placeOf_L6 z1 z2 z3 K54 post n v5 v6 σ))))
def wX8_placeOf (x1 : Int32) (x2 : Int32) (x3 : Int32) (post : Int32 → hsS → Prop) (σ : hsS) : Prop := ∃ n7, wX8_placeOf_L6 x1 x2 x3 (fun v8 v9 σ10 => post v8 σ10) post n7 (0 : Int32) (0 : Int32) σ
set_option maxHeartbeats 4000000 in
set_option maxRecDepth 100000 in
theorem kcX8_placeOf (l : Launch) (D : va_G) (c : Nat → ClassId) (q : Nat → Nat) (ev : State → Heap → Prop) (hev : evOK (wdA 31 q) ev) (σ : hsS) (x1 : Int32) (x2 : Int32) (x3 : Int32) (post : Int32 → hsS → Prop) (hw : wX8_placeOf x1 x2 x3 post σ) : Met l yX8_placeOf (Cond.code yX8_placeOf cX8_placeOf 6 (some .int) :: tb_L) { frames := 0, cells := 0, slots := 0, locals := 0 } (wdPc D (mw c q) (mwT c) (wdA 31 q) ev σ [.ref (q 0), .int x1, .int x2, .int x3]) (va_Qi post (wdB D (mw c q)) (wdA 31 q)) 0 0 (wdA 31 q) := by
  refine Met.ofW (cc := cX8_placeOf) (maxL := 6) (ret := (some .int)) (by decide) rfl ?_
  intro p e s m args below meth c₀ s₁ Bd hml hv
  obtain ⟨rfl, hP, hK, hD0, hE⟩ := hv
  have hx := Bd.exec
  have hb := Bd.bytes
  have hr := Bd.returns
  have hts := atoms_spec (ws := Cond.code yX8_placeOf cX8_placeOf 6 (some .int) :: tb_L) Bd.pre
  have htb : ∀ w ∈ tb_L, w.before [.ref (q 0), .int x1, .int x2, .int x3].toArray s = true := fun w h => hts w (List.mem_cons_of_mem _ h)
  have hown : s.vm.findClass RX8 = some m.cls := findClass_of_methodNamed Bd.named
  have hlocks := Bd.notSynchronized
  have hS : va_S (wdA 31 q) s.heap s.heap [] := va_S.rf
  have hD := hD0
  have L6 : ∀ (K54 : Int32 → Int32 → hsS → Prop) (z1 : Int32) (z2 : Int32) (z3 : Int32) (n : Nat) (y4 : Int32) (y5 : Int32) (σ : hsS) (H : Heap) (locs : List Loc) (ls : Array Slot), wX8_placeOf_L6 z1 z2 z3 K54 post n y4 y5 σ → (∀ (y4 : Int32) (y5 : Int32) (σ : hsS) (H : Heap) (locs : List Loc) (ls : Array Slot), K54 y4 y5 σ → va_P D vwCl (mw c q σ) H → va_S (wdA 31 q) s.heap H locs → lv_has ls 6 [(0, .ref (q 0)), (1, .int z1), (2, .int z2), (3, .int z3), (4, .int y4), (5, .int y5)] → W p l e (headSpec (Cond.code yX8_placeOf cX8_placeOf 6 (some .int) :: tb_L) { frames := 0, cells := 0, slots := 0, locals := 0 }).room s m [.ref (q 0), .int x1, .int x2, .int x3].toArray below meth c₀ H locs 0 0 (MQ below (va_Qi post (wdB D (mw c q)) (wdA 31 q)) [.ref (q 0), .int x1, .int x2, .int x3].toArray s 0 0 (wdA 31 q)) (F0 m 54 ls [])) → va_P D vwCl (mw c q σ) H → va_S (wdA 31 q) s.heap H locs → lv_has ls 6 [(0, .ref (q 0)), (1, .int z1), (2, .int z2), (3, .int z3), (4, .int y4), (5, .int y5)] → W p l e (headSpec (Cond.code yX8_placeOf cX8_placeOf 6 (some .int) :: tb_L) { frames := 0, cells := 0, slots := 0, locals := 0 }).room s m [.ref (q 0), .int x1, .int x2, .int x3].toArray below meth c₀ H locs 0 0 (MQ below (va_Qi post (wdB D (mw c q)) (wdA 31 q)) [.ref (q 0), .int x1, .int x2, .int x3].toArray s 0 0 (wdA 31 q)) (F0 m 6 ls []) := by
    intro K54 z1 z2 z3 n
    induction n with
    | zero =>
      intro y4 y5 σ H locs ls hw hk54 hP hS hl
      exact (show False from hw).elim
    | succ n ih =>
      intro y4 y5 σ H locs ls hw hk54 hP hS hl
      rw [wX8_placeOf_L6] at hw
      have hD : va_D (wdA 31 q) (mw c q σ) := mw_D hD0
      refine lv_iload hx hb dX8_placeOf_6 (lv_at hl 5 rfl) ?_
      refine lv_iload_n hx hb dX8_placeOf_8 rfl (lv_at hl 3 rfl) ?_
      refine lv_icmp_ge (tgt := 54) hx hb dX8_placeOf_9 (by decide) (fun c1 => ?_) (fun c1 => ?_)
      · have hw := hw.1 c1
        exact hk54 y4 y5 σ _ _ _ hw hP hS (lv_sub hl [0, 1, 2, 3, 4, 5] rfl)
      · have hw := hw.2 c1
        refine lv_iload hx hb dX8_placeOf_12 (lv_at hl 4 rfl) ?_
        refine lv_aload_n hx hb dX8_placeOf_14 rfl (lv_at hl 0 rfl) ?_
        refine va_get (D := D) (ci := 8) (C := RX8) (T := TX8) (N := 57) hx hb htb inX8 hown hK hP 0 (mw_0 c q σ) rfl 8 (by decide) (htb _ tb_1189) (fun _ h9 => h9) rfl dX8_placeOf_15 ?_
        refine lv_iload_n hx hb dX8_placeOf_18 rfl (lv_at hl 1 rfl) ?_
        refine lv_bipush (v := (10 : Int32)) hx hb dX8_placeOf_19 (by decide) ?_
        refine lv_imul hx hb dX8_placeOf_21 ?_
        refine lv_iload hx hb dX8_placeOf_22 (lv_at hl 5 rfl) ?_
        refine lv_iadd hx hb dX8_placeOf_24 ?_
        refine va_iald hx hb hK hP 8 7 (mw_8 c q σ) rfl hw.1 dX8_placeOf_25 ?_
        have hw := hw.2
        refine lv_aload_n hx hb dX8_placeOf_26 rfl (lv_at hl 0 rfl) ?_
        refine va_get (D := D) (ci := 8) (C := RX8) (T := TX8) (N := 57) hx hb htb inX8 hown hK hP 0 (mw_0 c q σ) rfl 8 (by decide) (htb _ tb_1189) (fun _ h9 => h9) rfl dX8_placeOf_27 ?_
        refine lv_iload_n hx hb dX8_placeOf_30 rfl (lv_at hl 1 rfl) ?_
        refine lv_bipush (v := (10 : Int32)) hx hb dX8_placeOf_31 (by decide) ?_
        refine lv_imul hx hb dX8_placeOf_33 ?_
        refine lv_iload_n hx hb dX8_placeOf_34 rfl (lv_at hl 2 rfl) ?_
        refine lv_iadd hx hb dX8_placeOf_35 ?_
        refine va_iald hx hb hK hP 8 7 (mw_8 c q σ) rfl hw.1 dX8_placeOf_36 ?_
        have hw := hw.2
        refine lv_icmp_ge (tgt := 44) hx hb dX8_placeOf_37 (by decide) (fun c2 => ?_) (fun c2 => ?_)
        · have hw := hw.1 c2
          refine lv_iconst (v := (0 : Int32)) hx hb dX8_placeOf_44 (by decide) ?_
          refine lv_iadd hx hb dX8_placeOf_45 ?_
          refine lv_topi (fun v3 ev3 => ?_)
          have hw := hw v3 ev3
          refine lv_istore (lv' := [(4, .int v3), (0, .ref (q 0)), (1, .int z1), (2, .int z2), (3, .int z3), (5, .int y5)]) hx hb dX8_placeOf_46 hl (by decide) rfl (fun ls hl => ?_)
          obtain ⟨v4, ev4⟩ : ∃ z : Int32, z = y5 + (1 : Int32) := ⟨_, rfl⟩
          have hw := hw v4 ev4
          refine lv_iinc (v := v4) (lv' := [(5, .int v4), (4, .int v3), (0, .ref (q 0)), (1, .int z1), (2, .int z2), (3, .int z3)]) hx hb dX8_placeOf_48 hl (k := 5) rfl (by rw [ev4]; rfl) (by decide) rfl (fun ls hl => ?_)
          refine lv_goto (tgt := 6) hx hb dX8_placeOf_51 (by decide) ?_
          exact ih v3 v4 σ _ _ _ hw hk54 hP hS (lv_sub hl [2, 3, 4, 5, 1, 0] rfl)
        · have hw := hw.2 c2
          refine lv_iconst (v := (1 : Int32)) hx hb dX8_placeOf_40 (by decide) ?_
          refine lv_goto (tgt := 45) hx hb dX8_placeOf_41 (by decide) ?_
          refine lv_iadd hx hb dX8_placeOf_45 ?_
          refine lv_topi (fun v5 ev5 => ?_)
          have hw := hw v5 ev5
          refine lv_istore (lv' := [(4, .int v5), (0, .ref (q 0)), (1, .int z1), (2, .int z2), (3, .int z3), (5, .int y5)]) hx hb dX8_placeOf_46 hl (by decide) rfl (fun ls hl => ?_)
          obtain ⟨v6, ev6⟩ : ∃ z : Int32, z = y5 + (1 : Int32) := ⟨_, rfl⟩
          have hw := hw v6 ev6
          refine lv_iinc (v := v6) (lv' := [(5, .int v6), (4, .int v5), (0, .ref (q 0)), (1, .int z1), (2, .int z2), (3, .int z3)]) hx hb dX8_placeOf_48 hl (k := 5) rfl (by rw [ev6]; rfl) (by decide) rfl (fun ls hl => ?_)
          refine lv_goto (tgt := 6) hx hb dX8_placeOf_51 (by decide) ?_
          exact ih v5 v6 σ _ _ _ hw hk54 hP hS (lv_sub hl [2, 3, 4, 5, 1, 0] rfl)
  have hl := lv_entry ([.ref (q 0), .int x1, .int x2, .int x3]) (n := 6) (Nat.le_of_ble_eq_true rfl)
  rw [lg_entry_eq]
  generalize (lg_sl ([.ref (q 0), .int x1, .int x2, .int x3]) ++ List.replicate (6 - (lg_sl ([.ref (q 0), .int x1, .int x2, .int x3])).length) Slot.unset).toArray = ls at hl ⊢
  have hl : lv_has ls 6 [(0, .ref (q 0)), (1, .int x1), (2, .int x2), (3, .int x3)] := hl
  unfold wX8_placeOf at hw
  refine lv_iconst (v := (0 : Int32)) hx hb dX8_placeOf_0 (by decide) ?_
  refine lv_istore (lv' := [(4, .int (0 : Int32)), (0, .ref (q 0)), (1, .int x1), (2, .int x2), (3, .int x3)]) hx hb dX8_placeOf_1 hl (by decide) rfl (fun ls hl => ?_)
  refine lv_iconst (v := (0 : Int32)) hx hb dX8_placeOf_3 (by decide) ?_
  refine lv_istore (lv' := [(5, .int (0 : Int32)), (4, .int (0 : Int32)), (0, .ref (q 0)), (1, .int x1), (2, .int x2), (3, .int x3)]) hx hb dX8_placeOf_4 hl (by decide) rfl (fun ls hl => ?_)
  obtain ⟨n7, hw⟩ := hw
  refine L6 _ x1 x2 x3 n7 (0 : Int32) (0 : Int32) σ _ _ _ hw ?_ hP hS (lv_sub hl [2, 3, 4, 5, 1, 0] rfl)
  intro v8 v9 σ10 H locs ls hw hP hS hl
  have hD : va_D (wdA 31 q) (mw c q σ10) := mw_D hD0
  refine lv_iload hx hb dX8_placeOf_54 (lv_at hl 4 rfl) ?_
  exact W.iret hx hb hr (fun t ht hW => ⟨⟨_, σ10, rfl, hw, by unfold wdB; rw [ht]; exact hP⟩, hS.F ht⟩) hS.2.2 dX8_placeOf_56
def wX8_look_L24 (z1 : Int32) (K59 : Int32 → hsS → Prop) (post : hsS → Prop) : Nat → Int32 → hsS → Prop
  | 0, _, _ => False
  | n + 1, y2, σ => (((σ.1 25) ≤ y2 → K59 y2 σ) ∧ (¬ (σ.1 25) ≤ y2 → wX8_placeOf z1 y2 (σ.1 25) (fun r4 σ5 => vp_in ((z1 * (10 : Int32)) + y2) 80 ∧ ∀ σ6 : hsS, σ6 = hsA σ5 13 (upd (σ5.2.1 13) ((z1 * (10 : Int32)) + y2).toNatClampNeg r4) → ∀ v7 : Int32, v7 = y2 + (1 : Int32) → wX8_look_L24 z1 K59 post n v7 σ6) σ))
def wX8_look_L12 (K65 : Int32 → hsS → Prop) (post : hsS → Prop) : Nat → Int32 → hsS → Prop
  | 0, _, _ => False
  | n + 1, y1, σ => (((σ.2.1 2 (0 : Int32).toNatClampNeg) ≤ y1 → K65 y1 σ) ∧ (¬ (σ.2.1 2 (0 : Int32).toNatClampNeg) ≤ y1 → ∃ n8, wX8_look_L24 y1 (fun v9 σ10 => ∀ v11 : Int32, v11 = y1 + (1 : Int32) → wX8_look_L12  K65 post n v11 σ10) post n8 (0 : Int32) σ))
def wX8_look  (post : hsS → Prop) (σ : hsS) : Prop := ∀ σ1 : hsS, σ1 = hsI σ 25 (σ.2.1 1 (0 : Int32).toNatClampNeg) → ∃ n12, wX8_look_L12  (fun v13 σ14 => post σ14) post n12 (0 : Int32) σ1
set_option maxHeartbeats 4000000 in
set_option maxRecDepth 100000 in
theorem kcX8_look (l : Launch) (D : va_G) (c : Nat → ClassId) (q : Nat → Nat) (ev : State → Heap → Prop) (hev : evOK (wdA 31 q) ev) (σ : hsS)  (post : hsS → Prop) (hw : wX8_look  post σ) : Met l yX8_look (Cond.code yX8_look cX8_look 3 none :: tb_L) { frames := 1, cells := 0, slots := 0, locals := 25 } (wdPc D (mw c q) (mwT c) (wdA 31 q) ev σ [.ref (q 0)]) (va_Qv post (wdB D (mw c q)) (wdA 31 q)) 0 0 (wdA 31 q) := by
  refine Met.ofW (cc := cX8_look) (maxL := 3) (ret := none) (by decide) rfl ?_
  intro p e s m args below meth c₀ s₁ Bd hml hv
  obtain ⟨rfl, hP, hK, hD0, hE⟩ := hv
  have hx := Bd.exec
  have hb := Bd.bytes
  have hr := Bd.returns
  have hts := atoms_spec (ws := Cond.code yX8_look cX8_look 3 none :: tb_L) Bd.pre
  have htb : ∀ w ∈ tb_L, w.before [.ref (q 0)].toArray s = true := fun w h => hts w (List.mem_cons_of_mem _ h)
  have hown : s.vm.findClass RX8 = some m.cls := findClass_of_methodNamed Bd.named
  have hlocks := Bd.notSynchronized
  have hS : va_S (wdA 31 q) s.heap s.heap [] := va_S.rf
  have hD := hD0
  have L24 : ∀ (K59 : Int32 → hsS → Prop) (z1 : Int32) (n : Nat) (y2 : Int32) (σ : hsS) (H : Heap) (locs : List Loc) (ls : Array Slot), wX8_look_L24 z1 K59 post n y2 σ → (∀ (y2 : Int32) (σ : hsS) (H : Heap) (locs : List Loc) (ls : Array Slot), K59 y2 σ → va_P D vwCl (mw c q σ) H → va_S (wdA 31 q) s.heap H locs → lv_has ls 3 [(0, .ref (q 0)), (1, .int z1), (2, .int y2)] → W p l e (headSpec (Cond.code yX8_look cX8_look 3 none :: tb_L) { frames := 1, cells := 0, slots := 0, locals := 25 }).room s m [.ref (q 0)].toArray below meth c₀ H locs 0 0 (MQ below (va_Qv post (wdB D (mw c q)) (wdA 31 q)) [.ref (q 0)].toArray s 0 0 (wdA 31 q)) (F0 m 59 ls [])) → va_P D vwCl (mw c q σ) H → va_S (wdA 31 q) s.heap H locs → lv_has ls 3 [(0, .ref (q 0)), (1, .int z1), (2, .int y2)] → W p l e (headSpec (Cond.code yX8_look cX8_look 3 none :: tb_L) { frames := 1, cells := 0, slots := 0, locals := 25 }).room s m [.ref (q 0)].toArray below meth c₀ H locs 0 0 (MQ below (va_Qv post (wdB D (mw c q)) (wdA 31 q)) [.ref (q 0)].toArray s 0 0 (wdA 31 q)) (F0 m 24 ls []) := by
    intro K59 z1 n
    induction n with
    | zero =>
      intro y2 σ H locs ls hw hk59 hP hS hl
      exact (show False from hw).elim
    | succ n ih =>
      intro y2 σ H locs ls hw hk59 hP hS hl
      rw [wX8_look_L24] at hw
      have hD : va_D (wdA 31 q) (mw c q σ) := mw_D hD0
      refine lv_iload_n hx hb dX8_look_24 rfl (lv_at hl 2 rfl) ?_
      refine lv_aload_n hx hb dX8_look_25 rfl (lv_at hl 0 rfl) ?_
      refine va_get (D := D) (ci := 8) (C := RX8) (T := TX8) (N := 57) hx hb htb inX8 hown hK hP 0 (mw_0 c q σ) rfl 25 (by decide) (htb _ tb_1206) (fun _ h9 => h9) rfl dX8_look_26 ?_
      refine lv_icmp_ge (tgt := 59) hx hb dX8_look_29 (by decide) (fun c3 => ?_) (fun c3 => ?_)
      · have hw := hw.1 c3
        exact hk59 y2 σ _ _ _ hw hP hS (lv_sub hl [0, 1, 2] rfl)
      · have hw := hw.2 c3
        refine lv_aload_n hx hb dX8_look_32 rfl (lv_at hl 0 rfl) ?_
        refine va_get (D := D) (ci := 8) (C := RX8) (T := TX8) (N := 57) hx hb htb inX8 hown hK hP 0 (mw_0 c q σ) rfl 24 (by decide) (htb _ tb_1205) (fun _ h9 => h9) rfl dX8_look_33 ?_
        refine lv_iload_n hx hb dX8_look_36 rfl (lv_at hl 1 rfl) ?_
        refine lv_bipush (v := (10 : Int32)) hx hb dX8_look_37 (by decide) ?_
        refine lv_imul hx hb dX8_look_39 ?_
        refine lv_iload_n hx hb dX8_look_40 rfl (lv_at hl 2 rfl) ?_
        refine lv_iadd hx hb dX8_look_41 ?_
        refine lv_aload_n hx hb dX8_look_42 rfl (lv_at hl 0 rfl) ?_
        refine lv_iload_n hx hb dX8_look_43 rfl (lv_at hl 1 rfl) ?_
        refine lv_iload_n hx hb dX8_look_44 rfl (lv_at hl 2 rfl) ?_
        refine lv_aload_n hx hb dX8_look_45 rfl (lv_at hl 0 rfl) ?_
        refine va_get (D := D) (ci := 8) (C := RX8) (T := TX8) (N := 57) hx hb htb inX8 hown hK hP 0 (mw_0 c q σ) rfl 25 (by decide) (htb _ tb_1206) (fun _ h9 => h9) rfl dX8_look_46 ?_
        refine va_calli (va_runV (As := [.int z1, .int y2, .int (σ.1 25)]) (rest := [.int ((z1 * (10 : Int32)) + y2), .ref (q 13)]) ⟨hx, hb, hml, hown, htb⟩ (kcX8_placeOf l D c q ev hev σ z1 y2 (σ.1 25) _ hw) (tb_CW htb kX8_placeOf tb_1477 tb_1479 tb_60 ⟨Nat.le_of_ble_eq_true rfl, Nat.le_of_ble_eq_true rfl⟩) (wd_preV (wd := mw c q) (k := 0) hev hK hP hD hE hS (mw_0 c q σ) rfl) rfl rfl hl.1 rfl (lv_room (Nat.le_of_ble_eq_true rfl)) dX8_look_49 ⟨Nat.zero_le _, Nat.zero_le _⟩) hS (fun q _ h => h) (fun q h => h) (fun r4 σ5 t H1 locs1 ht hvm hw hB hz1 hk1 hS => ?_)
        have hP : va_P D vwCl (mw c q σ5) H1 := ht ▸ hB
        have hD : va_D (wdA 31 q) (mw c q σ5) := mw_D hD0
        refine va_iast hx hb hK hP hD hS 13 12 (mw_13 c q σ5) rfl hw.1 dX8_look_52 (fun H locs hP hD hS => ?_)
        have hw := hw.2
        have hP : va_P D vwCl (mw c q (hsA σ5 13 (upd (σ5.2.1 13) ((z1 * (10 : Int32)) + y2).toNatClampNeg r4))) H := hP
        obtain ⟨σ6, eσ6⟩ : ∃ z : hsS, z = hsA σ5 13 (upd (σ5.2.1 13) ((z1 * (10 : Int32)) + y2).toNatClampNeg r4) := ⟨_, rfl⟩
        rw [← eσ6] at hP
        have hD : va_D (wdA 31 q) (mw c q σ6) := mw_D hD0
        have hw := hw σ6 eσ6
        obtain ⟨v7, ev7⟩ : ∃ z : Int32, z = y2 + (1 : Int32) := ⟨_, rfl⟩
        have hw := hw v7 ev7
        refine lv_iinc (v := v7) (lv' := [(2, .int v7), (0, .ref (q 0)), (1, .int z1)]) hx hb dX8_look_53 hl (k := 2) rfl (by rw [ev7]; rfl) (by decide) rfl (fun ls hl => ?_)
        refine lv_goto (tgt := 24) hx hb dX8_look_56 (by decide) ?_
        exact ih v7 σ6 _ _ _ hw hk59 hP hS (lv_sub hl [1, 2, 0] rfl)
  have L12 : ∀ (K65 : Int32 → hsS → Prop) (n : Nat) (y1 : Int32) (σ : hsS) (H : Heap) (locs : List Loc) (ls : Array Slot), wX8_look_L12  K65 post n y1 σ → (∀ (y1 : Int32) (σ : hsS) (H : Heap) (locs : List Loc) (ls : Array Slot), K65 y1 σ → va_P D vwCl (mw c q σ) H → va_S (wdA 31 q) s.heap H locs → lv_has ls 3 [(0, .ref (q 0)), (1, .int y1)] → W p l e (headSpec (Cond.code yX8_look cX8_look 3 none :: tb_L) { frames := 1, cells := 0, slots := 0, locals := 25 }).room s m [.ref (q 0)].toArray below meth c₀ H locs 0 0 (MQ below (va_Qv post (wdB D (mw c q)) (wdA 31 q)) [.ref (q 0)].toArray s 0 0 (wdA 31 q)) (F0 m 65 ls [])) → va_P D vwCl (mw c q σ) H → va_S (wdA 31 q) s.heap H locs → lv_has ls 3 [(0, .ref (q 0)), (1, .int y1)] → W p l e (headSpec (Cond.code yX8_look cX8_look 3 none :: tb_L) { frames := 1, cells := 0, slots := 0, locals := 25 }).room s m [.ref (q 0)].toArray below meth c₀ H locs 0 0 (MQ below (va_Qv post (wdB D (mw c q)) (wdA 31 q)) [.ref (q 0)].toArray s 0 0 (wdA 31 q)) (F0 m 12 ls []) := by
    intro K65 n
    induction n with
    | zero =>
      intro y1 σ H locs ls hw hk65 hP hS hl
      exact (show False from hw).elim
    | succ n ih =>
      intro y1 σ H locs ls hw hk65 hP hS hl
      rw [wX8_look_L12] at hw
      have hD : va_D (wdA 31 q) (mw c q σ) := mw_D hD0
      refine lv_iload_n hx hb dX8_look_12 rfl (lv_at hl 1 rfl) ?_
      refine lv_aload_n hx hb dX8_look_13 rfl (lv_at hl 0 rfl) ?_
      refine va_get (D := D) (ci := 8) (C := RX8) (T := TX8) (N := 57) hx hb htb inX8 hown hK hP 0 (mw_0 c q σ) rfl 2 (by decide) (htb _ tb_1183) (fun _ h9 => h9) rfl dX8_look_14 ?_
      refine lv_iconst (v := (0 : Int32)) hx hb dX8_look_17 (by decide) ?_
      refine va_iald hx hb hK hP 2 1 (mw_2 c q σ) rfl (by unfold vp_in; decide) dX8_look_18 ?_
      refine lv_icmp_ge (tgt := 65) hx hb dX8_look_19 (by decide) (fun c2 => ?_) (fun c2 => ?_)
      · have hw := hw.1 c2
        exact hk65 y1 σ _ _ _ hw hP hS (lv_sub hl [0, 1] rfl)
      · have hw := hw.2 c2
        refine lv_iconst (v := (0 : Int32)) hx hb dX8_look_22 (by decide) ?_
        refine lv_istore_n (lv' := [(2, .int (0 : Int32)), (0, .ref (q 0)), (1, .int y1)]) hx hb dX8_look_23 rfl hl (by decide) rfl (fun ls hl => ?_)
        obtain ⟨n8, hw⟩ := hw
        refine L24 _ y1 n8 (0 : Int32) σ _ _ _ hw ?_ hP hS (lv_sub hl [1, 2, 0] rfl)
        intro v9 σ10 H locs ls hw hP hS hl
        have hD : va_D (wdA 31 q) (mw c q σ10) := mw_D hD0
        obtain ⟨v11, ev11⟩ : ∃ z : Int32, z = y1 + (1 : Int32) := ⟨_, rfl⟩
        have hw := hw v11 ev11
        refine lv_iinc (v := v11) (lv' := [(1, .int v11), (0, .ref (q 0)), (2, .int v9)]) hx hb dX8_look_59 hl (k := 1) rfl (by rw [ev11]; rfl) (by decide) rfl (fun ls hl => ?_)
        refine lv_goto (tgt := 12) hx hb dX8_look_62 (by decide) ?_
        exact ih v11 σ10 _ _ _ hw hk65 hP hS (lv_sub hl [1, 0] rfl)
  have hl := lv_entry ([.ref (q 0)]) (n := 3) (Nat.le_of_ble_eq_true rfl)
  rw [lg_entry_eq]
  generalize (lg_sl ([.ref (q 0)]) ++ List.replicate (3 - (lg_sl ([.ref (q 0)])).length) Slot.unset).toArray = ls at hl ⊢
  have hl : lv_has ls 3 [(0, .ref (q 0))] := hl
  unfold wX8_look at hw
  refine lv_aload_n hx hb dX8_look_0 rfl (lv_at hl 0 rfl) ?_
  refine lv_aload_n hx hb dX8_look_1 rfl (lv_at hl 0 rfl) ?_
  refine va_get (D := D) (ci := 8) (C := RX8) (T := TX8) (N := 57) hx hb htb inX8 hown hK hP 0 (mw_0 c q σ) rfl 1 (by decide) (htb _ tb_1182) (fun _ h9 => h9) rfl dX8_look_2 ?_
  refine lv_iconst (v := (0 : Int32)) hx hb dX8_look_5 (by decide) ?_
  refine va_iald hx hb hK hP 1 0 (mw_1 c q σ) rfl (by unfold vp_in; decide) dX8_look_6 ?_
  refine va_put (D := D) (ci := 8) (ty := .int) (C := RX8) (T := TX8) (N := 57) hx hb htb inX8 tyX8 tyX8_ok nmX8 hown hK hP hD hS 0 (mw_0 c q σ) rfl 25 (by decide) (htb _ tb_1206) (fun _ h9 => h9) rfl (by decide +kernel) rfl rfl (Nat.le_of_ble_eq_true rfl) dX8_look_7 (fun H locs hP hD hS => ?_)
  have hP : va_P D vwCl (mw c q (hsI σ 25 (σ.2.1 1 (0 : Int32).toNatClampNeg))) H := hP
  obtain ⟨σ1, eσ1⟩ : ∃ z : hsS, z = hsI σ 25 (σ.2.1 1 (0 : Int32).toNatClampNeg) := ⟨_, rfl⟩
  rw [← eσ1] at hP
  have hD : va_D (wdA 31 q) (mw c q σ1) := mw_D hD0
  have hw := hw σ1 eσ1
  refine lv_iconst (v := (0 : Int32)) hx hb dX8_look_10 (by decide) ?_
  refine lv_istore_n (lv' := [(1, .int (0 : Int32)), (0, .ref (q 0))]) hx hb dX8_look_11 rfl hl (by decide) rfl (fun ls hl => ?_)
  obtain ⟨n12, hw⟩ := hw
  refine L12 _ n12 (0 : Int32) σ1 _ _ _ hw ?_ hP hS (lv_sub hl [1, 0] rfl)
  intro v13 σ14 H locs ls hw hP hS hl
  have hD : va_D (wdA 31 q) (mw c q σ14) := mw_D hD0
  exact W.vret hx hb hr (fun t ht hW => ⟨⟨σ14, rfl, hw, by unfold wdB; rw [ht]; exact hP⟩, hS.F ht⟩) hS.2.2 dX8_look_65
def wX8_lookWith_L35 (z1 : Int32) (z2 : Int32) (z3 : Int32) (z4 : Int32) (K79 : Int32 → Int32 → hsS → Prop) (post : hsS → Prop) : Nat → Int32 → Int32 → hsS → Prop
  | 0, _, _, _ => False
  | n + 1, y5, y6, σ => ((z2 ≤ y6 → K79 y5 y6 σ) ∧ (¬ z2 ≤ y6 → vp_in (z4 + y6) 160 ∧ vp_in (z4 + z1) 160 ∧ (((σ.2.1 8 (z4 + z1).toNatClampNeg) < (σ.2.1 8 (z4 + y6).toNatClampNeg) → ∀ v8 : Int32, v8 = y5 + (0 : Int32) → ∀ v9 : Int32, v9 = y6 + (1 : Int32) → wX8_lookWith_L35 z1 z2 z3 z4 K79 post n v8 v9 σ) ∧ (¬ (σ.2.1 8 (z4 + z1).toNatClampNeg) < (σ.2.1 8 (z4 + y6).toNatClampNeg) → ∀ v10 : Int32, v10 = y5 + (1 : Int32) → ∀ v11 : Int32, v11 = y6 + (1 : Int32) → wX8_lookWith_L35 z1 z2 z3 z4 K79 post n v10 v11 σ))))
def wX8_lookWith_L82 (z1 : Int32) (z2 : Int32) (z3 : Int32) (z4 : Int32) (z5 : Int32) (K134 : Int32 → hsS → Prop) (post : hsS → Prop) : Nat → Int32 → hsS → Prop
  | 0, _, _ => False
  | n + 1, y6, σ => ((z2 ≤ y6 → K134 y6 σ) ∧ (¬ z2 ≤ y6 → vp_in (z4 + y6) 80 ∧ vp_in (z4 + y6) 160 ∧ vp_in (z4 + z1) 160 ∧ (((σ.2.1 8 (z4 + y6).toNatClampNeg) ≤ (σ.2.1 8 (z4 + z1).toNatClampNeg) → vp_in (z4 + y6) 80 ∧ ∀ σ18 : hsS, σ18 = hsA σ 13 (upd (σ.2.1 13) (z4 + y6).toNatClampNeg ((σ.2.1 13 (z4 + y6).toNatClampNeg) + (0 : Int32))) → ∀ v19 : Int32, v19 = y6 + (1 : Int32) → wX8_lookWith_L82 z1 z2 z3 z4 z5 K134 post n v19 σ18) ∧ (¬ (σ.2.1 8 (z4 + y6).toNatClampNeg) ≤ (σ.2.1 8 (z4 + z1).toNatClampNeg) → vp_in (z4 + y6) 80 ∧ ∀ σ20 : hsS, σ20 = hsA σ 13 (upd (σ.2.1 13) (z4 + y6).toNatClampNeg ((σ.2.1 13 (z4 + y6).toNatClampNeg) + (1 : Int32))) → ∀ v21 : Int32, v21 = y6 + (1 : Int32) → wX8_lookWith_L82 z1 z2 z3 z4 z5 K134 post n v21 σ20))))
def wX8_lookWith_L13 (z1 : Int32) (z2 : Int32) (K151 : Int32 → hsS → Prop) (post : hsS → Prop) : Nat → Int32 → hsS → Prop
  | 0, _, _ => False
  | n + 1, y3, σ => (((σ.2.1 2 (0 : Int32).toNatClampNeg) ≤ y3 → K151 y3 σ) ∧ (¬ (σ.2.1 2 (0 : Int32).toNatClampNeg) ≤ y3 → ∀ v5 : Int32, v5 = y3 * (10 : Int32) → ∃ n12, wX8_lookWith_L35 z1 z2 y3 v5 (fun v13 v14 σ15 => ∃ n22, wX8_lookWith_L82 z1 z2 y3 v5 v13 (fun v23 σ24 => vp_in (v5 + z2) 80 ∧ ∀ σ25 : hsS, σ25 = hsA σ24 13 (upd (σ24.2.1 13) (v5 + z2).toNatClampNeg v13) → ∀ v26 : Int32, v26 = y3 + (1 : Int32) → wX8_lookWith_L13 z1 z2 K151 post n v26 σ25) post n22 (0 : Int32) σ15) post n12 (0 : Int32) (0 : Int32) σ))
def wX8_lookWith (x1 : Int32) (post : hsS → Prop) (σ : hsS) : Prop := wX8_look  (fun σ2 => ∀ v3 : Int32, v3 = σ2.2.1 1 (0 : Int32).toNatClampNeg → ∃ n27, wX8_lookWith_L13 x1 v3 (fun v28 σ29 => ∀ σ30 : hsS, σ30 = hsI σ29 25 (v3 + (1 : Int32)) → post σ30) post n27 (0 : Int32) σ2) σ
set_option maxHeartbeats 4000000 in
set_option maxRecDepth 100000 in
theorem kcX8_lookWith (l : Launch) (D : va_G) (c : Nat → ClassId) (q : Nat → Nat) (ev : State → Heap → Prop) (hev : evOK (wdA 31 q) ev) (σ : hsS) (x1 : Int32) (post : hsS → Prop) (hw : wX8_lookWith x1 post σ) : Met l yX8_lookWith (Cond.code yX8_lookWith cX8_lookWith 7 none :: tb_L) { frames := 2, cells := 0, slots := 0, locals := 47 } (wdPc D (mw c q) (mwT c) (wdA 31 q) ev σ [.ref (q 0), .int x1]) (va_Qv post (wdB D (mw c q)) (wdA 31 q)) 0 0 (wdA 31 q) := by
  refine Met.ofW (cc := cX8_lookWith) (maxL := 7) (ret := none) (by decide) rfl ?_
  intro p e s m args below meth c₀ s₁ Bd hml hv
  obtain ⟨rfl, hP, hK, hD0, hE⟩ := hv
  have hx := Bd.exec
  have hb := Bd.bytes
  have hr := Bd.returns
  have hts := atoms_spec (ws := Cond.code yX8_lookWith cX8_lookWith 7 none :: tb_L) Bd.pre
  have htb : ∀ w ∈ tb_L, w.before [.ref (q 0), .int x1].toArray s = true := fun w h => hts w (List.mem_cons_of_mem _ h)
  have hown : s.vm.findClass RX8 = some m.cls := findClass_of_methodNamed Bd.named
  have hlocks := Bd.notSynchronized
  have hS : va_S (wdA 31 q) s.heap s.heap [] := va_S.rf
  have hD := hD0
  have L35 : ∀ (K79 : Int32 → Int32 → hsS → Prop) (z1 : Int32) (z2 : Int32) (z3 : Int32) (z4 : Int32) (n : Nat) (y5 : Int32) (y6 : Int32) (σ : hsS) (H : Heap) (locs : List Loc) (ls : Array Slot), wX8_lookWith_L35 z1 z2 z3 z4 K79 post n y5 y6 σ → (∀ (y5 : Int32) (y6 : Int32) (σ : hsS) (H : Heap) (locs : List Loc) (ls : Array Slot), K79 y5 y6 σ → va_P D vwCl (mw c q σ) H → va_S (wdA 31 q) s.heap H locs → lv_has ls 7 [(0, .ref (q 0)), (1, .int z1), (2, .int z2), (3, .int z3), (4, .int z4), (5, .int y5), (6, .int y6)] → W p l e (headSpec (Cond.code yX8_lookWith cX8_lookWith 7 none :: tb_L) { frames := 2, cells := 0, slots := 0, locals := 47 }).room s m [.ref (q 0), .int x1].toArray below meth c₀ H locs 0 0 (MQ below (va_Qv post (wdB D (mw c q)) (wdA 31 q)) [.ref (q 0), .int x1].toArray s 0 0 (wdA 31 q)) (F0 m 79 ls [])) → va_P D vwCl (mw c q σ) H → va_S (wdA 31 q) s.heap H locs → lv_has ls 7 [(0, .ref (q 0)), (1, .int z1), (2, .int z2), (3, .int z3), (4, .int z4), (5, .int y5), (6, .int y6)] → W p l e (headSpec (Cond.code yX8_lookWith cX8_lookWith 7 none :: tb_L) { frames := 2, cells := 0, slots := 0, locals := 47 }).room s m [.ref (q 0), .int x1].toArray below meth c₀ H locs 0 0 (MQ below (va_Qv post (wdB D (mw c q)) (wdA 31 q)) [.ref (q 0), .int x1].toArray s 0 0 (wdA 31 q)) (F0 m 35 ls []) := by
    intro K79 z1 z2 z3 z4 n
    induction n with
    | zero =>
      intro y5 y6 σ H locs ls hw hk79 hP hS hl
      exact (show False from hw).elim
    | succ n ih =>
      intro y5 y6 σ H locs ls hw hk79 hP hS hl
      rw [wX8_lookWith_L35] at hw
      have hD : va_D (wdA 31 q) (mw c q σ) := mw_D hD0
      refine lv_iload hx hb dX8_lookWith_35 (lv_at hl 6 rfl) ?_
      refine lv_iload_n hx hb dX8_lookWith_37 rfl (lv_at hl 2 rfl) ?_
      refine lv_icmp_ge (tgt := 79) hx hb dX8_lookWith_38 (by decide) (fun c6 => ?_) (fun c6 => ?_)
      · have hw := hw.1 c6
        exact hk79 y5 y6 σ _ _ _ hw hP hS (lv_sub hl [0, 1, 2, 3, 4, 5, 6] rfl)
      · have hw := hw.2 c6
        refine lv_iload hx hb dX8_lookWith_41 (lv_at hl 5 rfl) ?_
        refine lv_aload_n hx hb dX8_lookWith_43 rfl (lv_at hl 0 rfl) ?_
        refine va_get (D := D) (ci := 8) (C := RX8) (T := TX8) (N := 57) hx hb htb inX8 hown hK hP 0 (mw_0 c q σ) rfl 8 (by decide) (htb _ tb_1189) (fun _ h9 => h9) rfl dX8_lookWith_44 ?_
        refine lv_iload hx hb dX8_lookWith_47 (lv_at hl 4 rfl) ?_
        refine lv_iload hx hb dX8_lookWith_49 (lv_at hl 6 rfl) ?_
        refine lv_iadd hx hb dX8_lookWith_51 ?_
        refine va_iald hx hb hK hP 8 7 (mw_8 c q σ) rfl hw.1 dX8_lookWith_52 ?_
        have hw := hw.2
        refine lv_aload_n hx hb dX8_lookWith_53 rfl (lv_at hl 0 rfl) ?_
        refine va_get (D := D) (ci := 8) (C := RX8) (T := TX8) (N := 57) hx hb htb inX8 hown hK hP 0 (mw_0 c q σ) rfl 8 (by decide) (htb _ tb_1189) (fun _ h9 => h9) rfl dX8_lookWith_54 ?_
        refine lv_iload hx hb dX8_lookWith_57 (lv_at hl 4 rfl) ?_
        refine lv_iload_n hx hb dX8_lookWith_59 rfl (lv_at hl 1 rfl) ?_
        refine lv_iadd hx hb dX8_lookWith_60 ?_
        refine va_iald hx hb hK hP 8 7 (mw_8 c q σ) rfl hw.1 dX8_lookWith_61 ?_
        have hw := hw.2
        refine lv_icmp_gt (tgt := 69) hx hb dX8_lookWith_62 (by decide) (fun c7 => ?_) (fun c7 => ?_)
        · have hw := hw.1 c7
          refine lv_iconst (v := (0 : Int32)) hx hb dX8_lookWith_69 (by decide) ?_
          refine lv_iadd hx hb dX8_lookWith_70 ?_
          refine lv_topi (fun v8 ev8 => ?_)
          have hw := hw v8 ev8
          refine lv_istore (lv' := [(5, .int v8), (0, .ref (q 0)), (1, .int z1), (2, .int z2), (3, .int z3), (4, .int z4), (6, .int y6)]) hx hb dX8_lookWith_71 hl (by decide) rfl (fun ls hl => ?_)
          obtain ⟨v9, ev9⟩ : ∃ z : Int32, z = y6 + (1 : Int32) := ⟨_, rfl⟩
          have hw := hw v9 ev9
          refine lv_iinc (v := v9) (lv' := [(6, .int v9), (5, .int v8), (0, .ref (q 0)), (1, .int z1), (2, .int z2), (3, .int z3), (4, .int z4)]) hx hb dX8_lookWith_73 hl (k := 6) rfl (by rw [ev9]; rfl) (by decide) rfl (fun ls hl => ?_)
          refine lv_goto (tgt := 35) hx hb dX8_lookWith_76 (by decide) ?_
          exact ih v8 v9 σ _ _ _ hw hk79 hP hS (lv_sub hl [2, 3, 4, 5, 6, 1, 0] rfl)
        · have hw := hw.2 c7
          refine lv_iconst (v := (1 : Int32)) hx hb dX8_lookWith_65 (by decide) ?_
          refine lv_goto (tgt := 70) hx hb dX8_lookWith_66 (by decide) ?_
          refine lv_iadd hx hb dX8_lookWith_70 ?_
          refine lv_topi (fun v10 ev10 => ?_)
          have hw := hw v10 ev10
          refine lv_istore (lv' := [(5, .int v10), (0, .ref (q 0)), (1, .int z1), (2, .int z2), (3, .int z3), (4, .int z4), (6, .int y6)]) hx hb dX8_lookWith_71 hl (by decide) rfl (fun ls hl => ?_)
          obtain ⟨v11, ev11⟩ : ∃ z : Int32, z = y6 + (1 : Int32) := ⟨_, rfl⟩
          have hw := hw v11 ev11
          refine lv_iinc (v := v11) (lv' := [(6, .int v11), (5, .int v10), (0, .ref (q 0)), (1, .int z1), (2, .int z2), (3, .int z3), (4, .int z4)]) hx hb dX8_lookWith_73 hl (k := 6) rfl (by rw [ev11]; rfl) (by decide) rfl (fun ls hl => ?_)
          refine lv_goto (tgt := 35) hx hb dX8_lookWith_76 (by decide) ?_
          exact ih v10 v11 σ _ _ _ hw hk79 hP hS (lv_sub hl [2, 3, 4, 5, 6, 1, 0] rfl)
  have L82 : ∀ (K134 : Int32 → hsS → Prop) (z1 : Int32) (z2 : Int32) (z3 : Int32) (z4 : Int32) (z5 : Int32) (n : Nat) (y6 : Int32) (σ : hsS) (H : Heap) (locs : List Loc) (ls : Array Slot), wX8_lookWith_L82 z1 z2 z3 z4 z5 K134 post n y6 σ → (∀ (y6 : Int32) (σ : hsS) (H : Heap) (locs : List Loc) (ls : Array Slot), K134 y6 σ → va_P D vwCl (mw c q σ) H → va_S (wdA 31 q) s.heap H locs → lv_has ls 7 [(0, .ref (q 0)), (1, .int z1), (2, .int z2), (3, .int z3), (4, .int z4), (5, .int z5), (6, .int y6)] → W p l e (headSpec (Cond.code yX8_lookWith cX8_lookWith 7 none :: tb_L) { frames := 2, cells := 0, slots := 0, locals := 47 }).room s m [.ref (q 0), .int x1].toArray below meth c₀ H locs 0 0 (MQ below (va_Qv post (wdB D (mw c q)) (wdA 31 q)) [.ref (q 0), .int x1].toArray s 0 0 (wdA 31 q)) (F0 m 134 ls [])) → va_P D vwCl (mw c q σ) H → va_S (wdA 31 q) s.heap H locs → lv_has ls 7 [(0, .ref (q 0)), (1, .int z1), (2, .int z2), (3, .int z3), (4, .int z4), (5, .int z5), (6, .int y6)] → W p l e (headSpec (Cond.code yX8_lookWith cX8_lookWith 7 none :: tb_L) { frames := 2, cells := 0, slots := 0, locals := 47 }).room s m [.ref (q 0), .int x1].toArray below meth c₀ H locs 0 0 (MQ below (va_Qv post (wdB D (mw c q)) (wdA 31 q)) [.ref (q 0), .int x1].toArray s 0 0 (wdA 31 q)) (F0 m 82 ls []) := by
    intro K134 z1 z2 z3 z4 z5 n
    induction n with
    | zero =>
      intro y6 σ H locs ls hw hk134 hP hS hl
      exact (show False from hw).elim
    | succ n ih =>
      intro y6 σ H locs ls hw hk134 hP hS hl
      rw [wX8_lookWith_L82] at hw
      have hD : va_D (wdA 31 q) (mw c q σ) := mw_D hD0
      refine lv_iload hx hb dX8_lookWith_82 (lv_at hl 6 rfl) ?_
      refine lv_iload_n hx hb dX8_lookWith_84 rfl (lv_at hl 2 rfl) ?_
      refine lv_icmp_ge (tgt := 134) hx hb dX8_lookWith_85 (by decide) (fun c16 => ?_) (fun c16 => ?_)
      · have hw := hw.1 c16
        exact hk134 y6 σ _ _ _ hw hP hS (lv_sub hl [0, 1, 2, 3, 4, 5, 6] rfl)
      · have hw := hw.2 c16
        refine lv_aload_n hx hb dX8_lookWith_88 rfl (lv_at hl 0 rfl) ?_
        refine va_get (D := D) (ci := 8) (C := RX8) (T := TX8) (N := 57) hx hb htb inX8 hown hK hP 0 (mw_0 c q σ) rfl 24 (by decide) (htb _ tb_1205) (fun _ h9 => h9) rfl dX8_lookWith_89 ?_
        refine lv_iload hx hb dX8_lookWith_92 (lv_at hl 4 rfl) ?_
        refine lv_iload hx hb dX8_lookWith_94 (lv_at hl 6 rfl) ?_
        refine lv_iadd hx hb dX8_lookWith_96 ?_
        refine lv_dup2_11 hx hb dX8_lookWith_97 rfl rfl ?_
        refine va_iald hx hb hK hP 13 12 (mw_13 c q σ) rfl hw.1 dX8_lookWith_98 ?_
        have hw := hw.2
        refine lv_aload_n hx hb dX8_lookWith_99 rfl (lv_at hl 0 rfl) ?_
        refine va_get (D := D) (ci := 8) (C := RX8) (T := TX8) (N := 57) hx hb htb inX8 hown hK hP 0 (mw_0 c q σ) rfl 8 (by decide) (htb _ tb_1189) (fun _ h9 => h9) rfl dX8_lookWith_100 ?_
        refine lv_iload hx hb dX8_lookWith_103 (lv_at hl 4 rfl) ?_
        refine lv_iload hx hb dX8_lookWith_105 (lv_at hl 6 rfl) ?_
        refine lv_iadd hx hb dX8_lookWith_107 ?_
        refine va_iald hx hb hK hP 8 7 (mw_8 c q σ) rfl hw.1 dX8_lookWith_108 ?_
        have hw := hw.2
        refine lv_aload_n hx hb dX8_lookWith_109 rfl (lv_at hl 0 rfl) ?_
        refine va_get (D := D) (ci := 8) (C := RX8) (T := TX8) (N := 57) hx hb htb inX8 hown hK hP 0 (mw_0 c q σ) rfl 8 (by decide) (htb _ tb_1189) (fun _ h9 => h9) rfl dX8_lookWith_110 ?_
        refine lv_iload hx hb dX8_lookWith_113 (lv_at hl 4 rfl) ?_
        refine lv_iload_n hx hb dX8_lookWith_115 rfl (lv_at hl 1 rfl) ?_
        refine lv_iadd hx hb dX8_lookWith_116 ?_
        refine va_iald hx hb hK hP 8 7 (mw_8 c q σ) rfl hw.1 dX8_lookWith_117 ?_
        have hw := hw.2
        refine lv_icmp_le (tgt := 125) hx hb dX8_lookWith_118 (by decide) (fun c17 => ?_) (fun c17 => ?_)
        · have hw := hw.1 c17
          refine lv_iconst (v := (0 : Int32)) hx hb dX8_lookWith_125 (by decide) ?_
          refine lv_iadd hx hb dX8_lookWith_126 ?_
          refine va_iast hx hb hK hP hD hS 13 12 (mw_13 c q σ) rfl hw.1 dX8_lookWith_127 (fun H locs hP hD hS => ?_)
          have hw := hw.2
          have hP : va_P D vwCl (mw c q (hsA σ 13 (upd (σ.2.1 13) (z4 + y6).toNatClampNeg ((σ.2.1 13 (z4 + y6).toNatClampNeg) + (0 : Int32))))) H := hP
          obtain ⟨σ18, eσ18⟩ : ∃ z : hsS, z = hsA σ 13 (upd (σ.2.1 13) (z4 + y6).toNatClampNeg ((σ.2.1 13 (z4 + y6).toNatClampNeg) + (0 : Int32))) := ⟨_, rfl⟩
          rw [← eσ18] at hP
          have hD : va_D (wdA 31 q) (mw c q σ18) := mw_D hD0
          have hw := hw σ18 eσ18
          obtain ⟨v19, ev19⟩ : ∃ z : Int32, z = y6 + (1 : Int32) := ⟨_, rfl⟩
          have hw := hw v19 ev19
          refine lv_iinc (v := v19) (lv' := [(6, .int v19), (0, .ref (q 0)), (1, .int z1), (2, .int z2), (3, .int z3), (4, .int z4), (5, .int z5)]) hx hb dX8_lookWith_128 hl (k := 6) rfl (by rw [ev19]; rfl) (by decide) rfl (fun ls hl => ?_)
          refine lv_goto (tgt := 82) hx hb dX8_lookWith_131 (by decide) ?_
          exact ih v19 σ18 _ _ _ hw hk134 hP hS (lv_sub hl [1, 2, 3, 4, 5, 6, 0] rfl)
        · have hw := hw.2 c17
          refine lv_iconst (v := (1 : Int32)) hx hb dX8_lookWith_121 (by decide) ?_
          refine lv_goto (tgt := 126) hx hb dX8_lookWith_122 (by decide) ?_
          refine lv_iadd hx hb dX8_lookWith_126 ?_
          refine va_iast hx hb hK hP hD hS 13 12 (mw_13 c q σ) rfl hw.1 dX8_lookWith_127 (fun H locs hP hD hS => ?_)
          have hw := hw.2
          have hP : va_P D vwCl (mw c q (hsA σ 13 (upd (σ.2.1 13) (z4 + y6).toNatClampNeg ((σ.2.1 13 (z4 + y6).toNatClampNeg) + (1 : Int32))))) H := hP
          obtain ⟨σ20, eσ20⟩ : ∃ z : hsS, z = hsA σ 13 (upd (σ.2.1 13) (z4 + y6).toNatClampNeg ((σ.2.1 13 (z4 + y6).toNatClampNeg) + (1 : Int32))) := ⟨_, rfl⟩
          rw [← eσ20] at hP
          have hD : va_D (wdA 31 q) (mw c q σ20) := mw_D hD0
          have hw := hw σ20 eσ20
          obtain ⟨v21, ev21⟩ : ∃ z : Int32, z = y6 + (1 : Int32) := ⟨_, rfl⟩
          have hw := hw v21 ev21
          refine lv_iinc (v := v21) (lv' := [(6, .int v21), (0, .ref (q 0)), (1, .int z1), (2, .int z2), (3, .int z3), (4, .int z4), (5, .int z5)]) hx hb dX8_lookWith_128 hl (k := 6) rfl (by rw [ev21]; rfl) (by decide) rfl (fun ls hl => ?_)
          refine lv_goto (tgt := 82) hx hb dX8_lookWith_131 (by decide) ?_
          exact ih v21 σ20 _ _ _ hw hk134 hP hS (lv_sub hl [1, 2, 3, 4, 5, 6, 0] rfl)
  have L13 : ∀ (K151 : Int32 → hsS → Prop) (z1 : Int32) (z2 : Int32) (n : Nat) (y3 : Int32) (σ : hsS) (H : Heap) (locs : List Loc) (ls : Array Slot), wX8_lookWith_L13 z1 z2 K151 post n y3 σ → (∀ (y3 : Int32) (σ : hsS) (H : Heap) (locs : List Loc) (ls : Array Slot), K151 y3 σ → va_P D vwCl (mw c q σ) H → va_S (wdA 31 q) s.heap H locs → lv_has ls 7 [(0, .ref (q 0)), (1, .int z1), (2, .int z2), (3, .int y3)] → W p l e (headSpec (Cond.code yX8_lookWith cX8_lookWith 7 none :: tb_L) { frames := 2, cells := 0, slots := 0, locals := 47 }).room s m [.ref (q 0), .int x1].toArray below meth c₀ H locs 0 0 (MQ below (va_Qv post (wdB D (mw c q)) (wdA 31 q)) [.ref (q 0), .int x1].toArray s 0 0 (wdA 31 q)) (F0 m 151 ls [])) → va_P D vwCl (mw c q σ) H → va_S (wdA 31 q) s.heap H locs → lv_has ls 7 [(0, .ref (q 0)), (1, .int z1), (2, .int z2), (3, .int y3)] → W p l e (headSpec (Cond.code yX8_lookWith cX8_lookWith 7 none :: tb_L) { frames := 2, cells := 0, slots := 0, locals := 47 }).room s m [.ref (q 0), .int x1].toArray below meth c₀ H locs 0 0 (MQ below (va_Qv post (wdB D (mw c q)) (wdA 31 q)) [.ref (q 0), .int x1].toArray s 0 0 (wdA 31 q)) (F0 m 13 ls []) := by
    intro K151 z1 z2 n
    induction n with
    | zero =>
      intro y3 σ H locs ls hw hk151 hP hS hl
      exact (show False from hw).elim
    | succ n ih =>
      intro y3 σ H locs ls hw hk151 hP hS hl
      rw [wX8_lookWith_L13] at hw
      have hD : va_D (wdA 31 q) (mw c q σ) := mw_D hD0
      refine lv_iload_n hx hb dX8_lookWith_13 rfl (lv_at hl 3 rfl) ?_
      refine lv_aload_n hx hb dX8_lookWith_14 rfl (lv_at hl 0 rfl) ?_
      refine va_get (D := D) (ci := 8) (C := RX8) (T := TX8) (N := 57) hx hb htb inX8 hown hK hP 0 (mw_0 c q σ) rfl 2 (by decide) (htb _ tb_1183) (fun _ h9 => h9) rfl dX8_lookWith_15 ?_
      refine lv_iconst (v := (0 : Int32)) hx hb dX8_lookWith_18 (by decide) ?_
      refine va_iald hx hb hK hP 2 1 (mw_2 c q σ) rfl (by unfold vp_in; decide) dX8_lookWith_19 ?_
      refine lv_icmp_ge (tgt := 151) hx hb dX8_lookWith_20 (by decide) (fun c4 => ?_) (fun c4 => ?_)
      · have hw := hw.1 c4
        exact hk151 y3 σ _ _ _ hw hP hS (lv_sub hl [0, 1, 2, 3] rfl)
      · have hw := hw.2 c4
        refine lv_iload_n hx hb dX8_lookWith_23 rfl (lv_at hl 3 rfl) ?_
        refine lv_bipush (v := (10 : Int32)) hx hb dX8_lookWith_24 (by decide) ?_
        refine lv_imul hx hb dX8_lookWith_26 ?_
        refine lv_topi (fun v5 ev5 => ?_)
        have hw := hw v5 ev5
        refine lv_istore (lv' := [(4, .int v5), (0, .ref (q 0)), (1, .int z1), (2, .int z2), (3, .int y3)]) hx hb dX8_lookWith_27 hl (by decide) rfl (fun ls hl => ?_)
        refine lv_iconst (v := (0 : Int32)) hx hb dX8_lookWith_29 (by decide) ?_
        refine lv_istore (lv' := [(5, .int (0 : Int32)), (4, .int v5), (0, .ref (q 0)), (1, .int z1), (2, .int z2), (3, .int y3)]) hx hb dX8_lookWith_30 hl (by decide) rfl (fun ls hl => ?_)
        refine lv_iconst (v := (0 : Int32)) hx hb dX8_lookWith_32 (by decide) ?_
        refine lv_istore (lv' := [(6, .int (0 : Int32)), (5, .int (0 : Int32)), (4, .int v5), (0, .ref (q 0)), (1, .int z1), (2, .int z2), (3, .int y3)]) hx hb dX8_lookWith_33 hl (by decide) rfl (fun ls hl => ?_)
        obtain ⟨n12, hw⟩ := hw
        refine L35 _ z1 z2 y3 v5 n12 (0 : Int32) (0 : Int32) σ _ _ _ hw ?_ hP hS (lv_sub hl [3, 4, 5, 6, 2, 1, 0] rfl)
        intro v13 v14 σ15 H locs ls hw hP hS hl
        have hD : va_D (wdA 31 q) (mw c q σ15) := mw_D hD0
        refine lv_iconst (v := (0 : Int32)) hx hb dX8_lookWith_79 (by decide) ?_
        refine lv_istore (lv' := [(6, .int (0 : Int32)), (0, .ref (q 0)), (1, .int z1), (2, .int z2), (3, .int y3), (4, .int v5), (5, .int v13)]) hx hb dX8_lookWith_80 hl (by decide) rfl (fun ls hl => ?_)
        obtain ⟨n22, hw⟩ := hw
        refine L82 _ z1 z2 y3 v5 v13 n22 (0 : Int32) σ15 _ _ _ hw ?_ hP hS (lv_sub hl [1, 2, 3, 4, 5, 6, 0] rfl)
        intro v23 σ24 H locs ls hw hP hS hl
        have hD : va_D (wdA 31 q) (mw c q σ24) := mw_D hD0
        refine lv_aload_n hx hb dX8_lookWith_134 rfl (lv_at hl 0 rfl) ?_
        refine va_get (D := D) (ci := 8) (C := RX8) (T := TX8) (N := 57) hx hb htb inX8 hown hK hP 0 (mw_0 c q σ24) rfl 24 (by decide) (htb _ tb_1205) (fun _ h9 => h9) rfl dX8_lookWith_135 ?_
        refine lv_iload hx hb dX8_lookWith_138 (lv_at hl 4 rfl) ?_
        refine lv_iload_n hx hb dX8_lookWith_140 rfl (lv_at hl 2 rfl) ?_
        refine lv_iadd hx hb dX8_lookWith_141 ?_
        refine lv_iload hx hb dX8_lookWith_142 (lv_at hl 5 rfl) ?_
        refine va_iast hx hb hK hP hD hS 13 12 (mw_13 c q σ24) rfl hw.1 dX8_lookWith_144 (fun H locs hP hD hS => ?_)
        have hw := hw.2
        have hP : va_P D vwCl (mw c q (hsA σ24 13 (upd (σ24.2.1 13) (v5 + z2).toNatClampNeg v13))) H := hP
        obtain ⟨σ25, eσ25⟩ : ∃ z : hsS, z = hsA σ24 13 (upd (σ24.2.1 13) (v5 + z2).toNatClampNeg v13) := ⟨_, rfl⟩
        rw [← eσ25] at hP
        have hD : va_D (wdA 31 q) (mw c q σ25) := mw_D hD0
        have hw := hw σ25 eσ25
        obtain ⟨v26, ev26⟩ : ∃ z : Int32, z = y3 + (1 : Int32) := ⟨_, rfl⟩
        have hw := hw v26 ev26
        refine lv_iinc (v := v26) (lv' := [(3, .int v26), (0, .ref (q 0)), (1, .int z1), (2, .int z2), (4, .int v5), (5, .int v13), (6, .int v23)]) hx hb dX8_lookWith_145 hl (k := 3) rfl (by rw [ev26]; rfl) (by decide) rfl (fun ls hl => ?_)
        refine lv_goto (tgt := 13) hx hb dX8_lookWith_148 (by decide) ?_
        exact ih v26 σ25 _ _ _ hw hk151 hP hS (lv_sub hl [1, 2, 3, 0] rfl)
  have hl := lv_entry ([.ref (q 0), .int x1]) (n := 7) (Nat.le_of_ble_eq_true rfl)
  rw [lg_entry_eq]
  generalize (lg_sl ([.ref (q 0), .int x1]) ++ List.replicate (7 - (lg_sl ([.ref (q 0), .int x1])).length) Slot.unset).toArray = ls at hl ⊢
  have hl : lv_has ls 7 [(0, .ref (q 0)), (1, .int x1)] := hl
  unfold wX8_lookWith at hw
  refine lv_aload_n hx hb dX8_lookWith_0 rfl (lv_at hl 0 rfl) ?_
  refine va_callv (va_runV (As := []) (rest := []) ⟨hx, hb, hml, hown, htb⟩ (kcX8_look l D c q ev hev σ  _ hw) (tb_CW htb kX8_look tb_1500 tb_1502 tb_63 ⟨Nat.le_of_ble_eq_true rfl, Nat.le_of_ble_eq_true rfl⟩) (wd_preV (wd := mw c q) (k := 0) hev hK hP hD hE hS (mw_0 c q σ) rfl) rfl rfl hl.1 rfl (lv_room (Nat.le_of_ble_eq_true rfl)) dX8_lookWith_1 ⟨Nat.zero_le _, Nat.zero_le _⟩) hS (fun q _ h => h) (fun q h => h) (fun σ2 t H1 locs1 ht hvm hw hB hz1 hk1 hS => ?_)
  have hP : va_P D vwCl (mw c q σ2) H1 := ht ▸ hB
  have hD : va_D (wdA 31 q) (mw c q σ2) := mw_D hD0
  refine lv_aload_n hx hb dX8_lookWith_4 rfl (lv_at hl 0 rfl) ?_
  refine va_get (D := D) (ci := 8) (C := RX8) (T := TX8) (N := 57) hx hb htb inX8 hown hK hP 0 (mw_0 c q σ2) rfl 1 (by decide) (htb _ tb_1182) (fun _ h9 => h9) rfl dX8_lookWith_5 ?_
  refine lv_iconst (v := (0 : Int32)) hx hb dX8_lookWith_8 (by decide) ?_
  refine va_iald hx hb hK hP 1 0 (mw_1 c q σ2) rfl (by unfold vp_in; decide) dX8_lookWith_9 ?_
  refine lv_topi (fun v3 ev3 => ?_)
  have hw := hw v3 ev3
  refine lv_istore_n (lv' := [(2, .int v3), (0, .ref (q 0)), (1, .int x1)]) hx hb dX8_lookWith_10 rfl hl (by decide) rfl (fun ls hl => ?_)
  refine lv_iconst (v := (0 : Int32)) hx hb dX8_lookWith_11 (by decide) ?_
  refine lv_istore_n (lv' := [(3, .int (0 : Int32)), (2, .int v3), (0, .ref (q 0)), (1, .int x1)]) hx hb dX8_lookWith_12 rfl hl (by decide) rfl (fun ls hl => ?_)
  obtain ⟨n27, hw⟩ := hw
  refine L13 _ x1 v3 n27 (0 : Int32) σ2 _ _ _ hw ?_ hP hS (lv_sub hl [2, 3, 1, 0] rfl)
  intro v28 σ29 H locs ls hw hP hS hl
  have hD : va_D (wdA 31 q) (mw c q σ29) := mw_D hD0
  refine lv_aload_n hx hb dX8_lookWith_151 rfl (lv_at hl 0 rfl) ?_
  refine lv_iload_n hx hb dX8_lookWith_152 rfl (lv_at hl 2 rfl) ?_
  refine lv_iconst (v := (1 : Int32)) hx hb dX8_lookWith_153 (by decide) ?_
  refine lv_iadd hx hb dX8_lookWith_154 ?_
  refine va_put (D := D) (ci := 8) (ty := .int) (C := RX8) (T := TX8) (N := 57) hx hb htb inX8 tyX8 tyX8_ok nmX8 hown hK hP hD hS 0 (mw_0 c q σ29) rfl 25 (by decide) (htb _ tb_1206) (fun _ h9 => h9) rfl (by decide +kernel) rfl rfl (Nat.le_of_ble_eq_true rfl) dX8_lookWith_155 (fun H locs hP hD hS => ?_)
  have hP : va_P D vwCl (mw c q (hsI σ29 25 (v3 + (1 : Int32)))) H := hP
  obtain ⟨σ30, eσ30⟩ : ∃ z : hsS, z = hsI σ29 25 (v3 + (1 : Int32)) := ⟨_, rfl⟩
  rw [← eσ30] at hP
  have hD : va_D (wdA 31 q) (mw c q σ30) := mw_D hD0
  have hw := hw σ30 eσ30
  exact W.vret hx hb hr (fun t ht hW => ⟨⟨σ30, rfl, hw, by unfold wdB; rw [ht]; exact hP⟩, hS.F ht⟩) hS.2.2 dX8_lookWith_158
def wX8_place (x1 : Int32) (x2 : Int32) (post : Int32 → hsS → Prop) (σ : hsS) : Prop := ∀ σ1 : hsS, σ1 = hsI σ 0 (0 : Int32) → wX8_isOne x1 (fun r2 σ3 => ((r2 = (0 : Int32) → wX8_fail (1 : Int32) (fun r5 σ6 => post r5 σ6) σ3) ∧ (¬ r2 = (0 : Int32) → wX8_isThing x2 (fun r7 σ8 => ((r7 = (0 : Int32) → wX8_fail (1 : Int32) (fun r10 σ11 => post r10 σ11) σ8) ∧ (¬ r7 = (0 : Int32) → wX8_placeOf x1 x2 (σ8.2.1 1 (0 : Int32).toNatClampNeg) (fun r12 σ13 => post r12 σ13) σ8))) σ3))) σ1
set_option maxHeartbeats 4000000 in
set_option maxRecDepth 100000 in
theorem kcX8_place (l : Launch) (D : va_G) (c : Nat → ClassId) (q : Nat → Nat) (ev : State → Heap → Prop) (hev : evOK (wdA 31 q) ev) (σ : hsS) (x1 : Int32) (x2 : Int32) (post : Int32 → hsS → Prop) (hw : wX8_place x1 x2 post σ) : Met l yX8_place (Cond.code yX8_place cX8_place 3 (some .int) :: tb_L) { frames := 2, cells := 0, slots := 0, locals := 43 } (wdPc D (mw c q) (mwT c) (wdA 31 q) ev σ [.ref (q 0), .int x1, .int x2]) (va_Qi post (wdB D (mw c q)) (wdA 31 q)) 0 0 (wdA 31 q) := by
  refine Met.ofW (cc := cX8_place) (maxL := 3) (ret := (some .int)) (by decide) rfl ?_
  intro p e s m args below meth c₀ s₁ Bd hml hv
  obtain ⟨rfl, hP, hK, hD0, hE⟩ := hv
  have hx := Bd.exec
  have hb := Bd.bytes
  have hr := Bd.returns
  have hts := atoms_spec (ws := Cond.code yX8_place cX8_place 3 (some .int) :: tb_L) Bd.pre
  have htb : ∀ w ∈ tb_L, w.before [.ref (q 0), .int x1, .int x2].toArray s = true := fun w h => hts w (List.mem_cons_of_mem _ h)
  have hown : s.vm.findClass RX8 = some m.cls := findClass_of_methodNamed Bd.named
  have hlocks := Bd.notSynchronized
  have hS : va_S (wdA 31 q) s.heap s.heap [] := va_S.rf
  have hD := hD0
  have hl := lv_entry ([.ref (q 0), .int x1, .int x2]) (n := 3) (Nat.le_of_ble_eq_true rfl)
  rw [lg_entry_eq]
  generalize (lg_sl ([.ref (q 0), .int x1, .int x2]) ++ List.replicate (3 - (lg_sl ([.ref (q 0), .int x1, .int x2])).length) Slot.unset).toArray = ls at hl ⊢
  have hl : lv_has ls 3 [(0, .ref (q 0)), (1, .int x1), (2, .int x2)] := hl
  unfold wX8_place at hw
  refine lv_aload_n hx hb dX8_place_0 rfl (lv_at hl 0 rfl) ?_
  refine lv_iconst (v := (0 : Int32)) hx hb dX8_place_1 (by decide) ?_
  refine va_put (D := D) (ci := 8) (ty := .int) (C := RX8) (T := TX8) (N := 57) hx hb htb inX8 tyX8 tyX8_ok nmX8 hown hK hP hD hS 0 (mw_0 c q σ) rfl 0 (by decide) (htb _ tb_1181) (fun _ h9 => h9) rfl (by decide +kernel) rfl rfl (Nat.le_of_ble_eq_true rfl) dX8_place_2 (fun H locs hP hD hS => ?_)
  have hP : va_P D vwCl (mw c q (hsI σ 0 (0 : Int32))) H := hP
  obtain ⟨σ1, eσ1⟩ : ∃ z : hsS, z = hsI σ 0 (0 : Int32) := ⟨_, rfl⟩
  rw [← eσ1] at hP
  have hD : va_D (wdA 31 q) (mw c q σ1) := mw_D hD0
  have hw := hw σ1 eσ1
  refine lv_aload_n hx hb dX8_place_5 rfl (lv_at hl 0 rfl) ?_
  refine lv_iload_n hx hb dX8_place_6 rfl (lv_at hl 1 rfl) ?_
  refine va_calli (va_runV (As := [.int x1]) (rest := []) ⟨hx, hb, hml, hown, htb⟩ (kcX8_isOne l D c q ev hev σ1 x1 _ hw) (tb_CW htb kX8_isOne tb_1469 tb_1471 tb_58 ⟨Nat.le_of_ble_eq_true rfl, Nat.le_of_ble_eq_true rfl⟩) (wd_preV (wd := mw c q) (k := 0) hev hK hP hD hE hS (mw_0 c q σ1) rfl) rfl rfl hl.1 rfl (lv_room (Nat.le_of_ble_eq_true rfl)) dX8_place_7 ⟨Nat.zero_le _, Nat.zero_le _⟩) hS (fun q _ h => h) (fun q h => h) (fun r2 σ3 t H1 locs1 ht hvm hw hB hz1 hk1 hS => ?_)
  have hP : va_P D vwCl (mw c q σ3) H1 := ht ▸ hB
  have hD : va_D (wdA 31 q) (mw c q σ3) := mw_D hD0
  refine lv_if_eq (tgt := 21) hx hb dX8_place_10 (by decide) (fun c4 => ?_) (fun c4 => ?_)
  · have hw := hw.1 c4
    refine lv_aload_n hx hb dX8_place_21 rfl (lv_at hl 0 rfl) ?_
    refine lv_iconst (v := (1 : Int32)) hx hb dX8_place_22 (by decide) ?_
    refine va_calli (va_runV (As := [.int (1 : Int32)]) (rest := []) ⟨hx, hb, hml, hown, htb⟩ (kcX8_fail l D c q ev hev σ3 (1 : Int32) _ hw) (tb_CW htb kX8_fail tb_1366 tb_1368 tb_42 ⟨Nat.le_of_ble_eq_true rfl, Nat.le_of_ble_eq_true rfl⟩) (wd_preV (wd := mw c q) (k := 0) hev hK hP hD hE hS (mw_0 c q σ3) rfl) rfl rfl hl.1 rfl (lv_room (Nat.le_of_ble_eq_true rfl)) dX8_place_23 ⟨Nat.zero_le _, Nat.zero_le _⟩) hS (fun q _ h => h) (fun q h => h) (fun r5 σ6 t H1 locs1 ht hvm hw hB hz1 hk1 hS => ?_)
    have hP : va_P D vwCl (mw c q σ6) H1 := ht ▸ hB
    have hD : va_D (wdA 31 q) (mw c q σ6) := mw_D hD0
    exact W.iret hx hb hr (fun t ht hW => ⟨⟨_, σ6, rfl, hw, by unfold wdB; rw [ht]; exact hP⟩, hS.F ht⟩) hS.2.2 dX8_place_26
  · have hw := hw.2 c4
    refine lv_aload_n hx hb dX8_place_13 rfl (lv_at hl 0 rfl) ?_
    refine lv_iload_n hx hb dX8_place_14 rfl (lv_at hl 2 rfl) ?_
    refine va_calli (va_runV (As := [.int x2]) (rest := []) ⟨hx, hb, hml, hown, htb⟩ (kcX8_isThing l D c q ev hev σ3 x2 _ hw) (tb_CW htb kX8_isThing tb_1473 tb_1475 tb_59 ⟨Nat.le_of_ble_eq_true rfl, Nat.le_of_ble_eq_true rfl⟩) (wd_preV (wd := mw c q) (k := 0) hev hK hP hD hE hS (mw_0 c q σ3) rfl) rfl rfl hl.1 rfl (lv_room (Nat.le_of_ble_eq_true rfl)) dX8_place_15 ⟨Nat.zero_le _, Nat.zero_le _⟩) hS (fun q _ h => h) (fun q h => h) (fun r7 σ8 t H1 locs1 ht hvm hw hB hz1 hk1 hS => ?_)
    have hP : va_P D vwCl (mw c q σ8) H1 := ht ▸ hB
    have hD : va_D (wdA 31 q) (mw c q σ8) := mw_D hD0
    refine lv_if_ne (tgt := 27) hx hb dX8_place_18 (by decide) (fun c9 => ?_) (fun c9 => ?_)
    · have hw := hw.2 c9
      refine lv_aload_n hx hb dX8_place_27 rfl (lv_at hl 0 rfl) ?_
      refine lv_iload_n hx hb dX8_place_28 rfl (lv_at hl 1 rfl) ?_
      refine lv_iload_n hx hb dX8_place_29 rfl (lv_at hl 2 rfl) ?_
      refine lv_aload_n hx hb dX8_place_30 rfl (lv_at hl 0 rfl) ?_
      refine va_get (D := D) (ci := 8) (C := RX8) (T := TX8) (N := 57) hx hb htb inX8 hown hK hP 0 (mw_0 c q σ8) rfl 1 (by decide) (htb _ tb_1182) (fun _ h9 => h9) rfl dX8_place_31 ?_
      refine lv_iconst (v := (0 : Int32)) hx hb dX8_place_34 (by decide) ?_
      refine va_iald hx hb hK hP 1 0 (mw_1 c q σ8) rfl (by unfold vp_in; decide) dX8_place_35 ?_
      refine va_calli (va_runV (As := [.int x1, .int x2, .int (σ8.2.1 1 (0 : Int32).toNatClampNeg)]) (rest := []) ⟨hx, hb, hml, hown, htb⟩ (kcX8_placeOf l D c q ev hev σ8 x1 x2 (σ8.2.1 1 (0 : Int32).toNatClampNeg) _ hw) (tb_CW htb kX8_placeOf tb_1477 tb_1479 tb_60 ⟨Nat.le_of_ble_eq_true rfl, Nat.le_of_ble_eq_true rfl⟩) (wd_preV (wd := mw c q) (k := 0) hev hK hP hD hE hS (mw_0 c q σ8) rfl) rfl rfl hl.1 rfl (lv_room (Nat.le_of_ble_eq_true rfl)) dX8_place_36 ⟨Nat.zero_le _, Nat.zero_le _⟩) hS (fun q _ h => h) (fun q h => h) (fun r12 σ13 t H1 locs1 ht hvm hw hB hz1 hk1 hS => ?_)
      have hP : va_P D vwCl (mw c q σ13) H1 := ht ▸ hB
      have hD : va_D (wdA 31 q) (mw c q σ13) := mw_D hD0
      exact W.iret hx hb hr (fun t ht hW => ⟨⟨_, σ13, rfl, hw, by unfold wdB; rw [ht]; exact hP⟩, hS.F ht⟩) hS.2.2 dX8_place_39
    · have hw := hw.1 c9
      refine lv_aload_n hx hb dX8_place_21 rfl (lv_at hl 0 rfl) ?_
      refine lv_iconst (v := (1 : Int32)) hx hb dX8_place_22 (by decide) ?_
      refine va_calli (va_runV (As := [.int (1 : Int32)]) (rest := []) ⟨hx, hb, hml, hown, htb⟩ (kcX8_fail l D c q ev hev σ8 (1 : Int32) _ hw) (tb_CW htb kX8_fail tb_1366 tb_1368 tb_42 ⟨Nat.le_of_ble_eq_true rfl, Nat.le_of_ble_eq_true rfl⟩) (wd_preV (wd := mw c q) (k := 0) hev hK hP hD hE hS (mw_0 c q σ8) rfl) rfl rfl hl.1 rfl (lv_room (Nat.le_of_ble_eq_true rfl)) dX8_place_23 ⟨Nat.zero_le _, Nat.zero_le _⟩) hS (fun q _ h => h) (fun q h => h) (fun r10 σ11 t H1 locs1 ht hvm hw hB hz1 hk1 hS => ?_)
      have hP : va_P D vwCl (mw c q σ11) H1 := ht ▸ hB
      have hD : va_D (wdA 31 q) (mw c q σ11) := mw_D hD0
      exact W.iret hx hb hr (fun t ht hW => ⟨⟨_, σ11, rfl, hw, by unfold wdB; rw [ht]; exact hP⟩, hS.F ht⟩) hS.2.2 dX8_place_26
def wX8_sizeOf_L4 (z0 : Int32) (K24 : Int32 → Int32 → hsS → Prop) (post : Int32 → hsS → Prop) : Nat → Int32 → Int32 → hsS → Prop
  | 0, _, _, _ => False
  | n + 1, y1, y2, σ => (((12 : Int32) ≤ y2 → K24 y1 y2 σ) ∧ (¬ (12 : Int32) ≤ y2 → ∀ v2 : Int32, v2 = y1 + ((z0 >>> (y2 &&& 31)) &&& (1 : Int32)) → ∀ v3 : Int32, v3 = y2 + (1 : Int32) → wX8_sizeOf_L4 z0 K24 post n v2 v3 σ))
def wX8_sizeOf (x0 : Int32) (post : Int32 → hsS → Prop) (σ : hsS) : Prop := ∃ n4, wX8_sizeOf_L4 x0 (fun v5 v6 σ7 => post v5 σ7) post n4 (0 : Int32) (0 : Int32) σ
set_option maxHeartbeats 4000000 in
set_option maxRecDepth 100000 in
theorem kcX8_sizeOf_m (l : Launch) (D : va_G) (c : Nat → ClassId) (q : Nat → Nat) (ev : State → Heap → Prop) (hev : evOK (wdA 31 q) ev) (σ : hsS) (x0 : Int32) (post : Int32 → hsS → Prop) (hw : wX8_sizeOf x0 post σ) : Met l yX8_sizeOf (Cond.code yX8_sizeOf cX8_sizeOf 3 (some .int) :: tb_L) { frames := 0, cells := 0, slots := 0, locals := 0 } (wdPc D (mw c q) (mwT c) (wdA 31 q) ev σ [.int x0]) (va_Qi post (wdB D (mw c q)) (wdA 31 q)) 0 0 (wdA 31 q) := by
  refine Met.ofW (cc := cX8_sizeOf) (maxL := 3) (ret := (some .int)) (by decide) rfl ?_
  intro p e s m args below meth c₀ s₁ Bd hml hv
  obtain ⟨rfl, hP, hK, hD0, hE⟩ := hv
  have hx := Bd.exec
  have hb := Bd.bytes
  have hr := Bd.returns
  have hts := atoms_spec (ws := Cond.code yX8_sizeOf cX8_sizeOf 3 (some .int) :: tb_L) Bd.pre
  have htb : ∀ w ∈ tb_L, w.before [.int x0].toArray s = true := fun w h => hts w (List.mem_cons_of_mem _ h)
  have hown : s.vm.findClass RX8 = some m.cls := findClass_of_methodNamed Bd.named
  have hlocks := Bd.notSynchronized
  have hS : va_S (wdA 31 q) s.heap s.heap [] := va_S.rf
  have hD := hD0
  have L4 : ∀ (K24 : Int32 → Int32 → hsS → Prop) (z0 : Int32) (n : Nat) (y1 : Int32) (y2 : Int32) (σ : hsS) (H : Heap) (locs : List Loc) (ls : Array Slot), wX8_sizeOf_L4 z0 K24 post n y1 y2 σ → (∀ (y1 : Int32) (y2 : Int32) (σ : hsS) (H : Heap) (locs : List Loc) (ls : Array Slot), K24 y1 y2 σ → va_P D vwCl (mw c q σ) H → va_S (wdA 31 q) s.heap H locs → lv_has ls 3 [(0, .int z0), (1, .int y1), (2, .int y2)] → W p l e (headSpec (Cond.code yX8_sizeOf cX8_sizeOf 3 (some .int) :: tb_L) { frames := 0, cells := 0, slots := 0, locals := 0 }).room s m [.int x0].toArray below meth c₀ H locs 0 0 (MQ below (va_Qi post (wdB D (mw c q)) (wdA 31 q)) [.int x0].toArray s 0 0 (wdA 31 q)) (F0 m 24 ls [])) → va_P D vwCl (mw c q σ) H → va_S (wdA 31 q) s.heap H locs → lv_has ls 3 [(0, .int z0), (1, .int y1), (2, .int y2)] → W p l e (headSpec (Cond.code yX8_sizeOf cX8_sizeOf 3 (some .int) :: tb_L) { frames := 0, cells := 0, slots := 0, locals := 0 }).room s m [.int x0].toArray below meth c₀ H locs 0 0 (MQ below (va_Qi post (wdB D (mw c q)) (wdA 31 q)) [.int x0].toArray s 0 0 (wdA 31 q)) (F0 m 4 ls []) := by
    intro K24 z0 n
    induction n with
    | zero =>
      intro y1 y2 σ H locs ls hw hk24 hP hS hl
      exact (show False from hw).elim
    | succ n ih =>
      intro y1 y2 σ H locs ls hw hk24 hP hS hl
      rw [wX8_sizeOf_L4] at hw
      have hD : va_D (wdA 31 q) (mw c q σ) := mw_D hD0
      refine lv_iload_n hx hb dX8_sizeOf_4 rfl (lv_at hl 2 rfl) ?_
      refine lv_bipush (v := (12 : Int32)) hx hb dX8_sizeOf_5 (by decide) ?_
      refine lv_icmp_ge (tgt := 24) hx hb dX8_sizeOf_7 (by decide) (fun c1 => ?_) (fun c1 => ?_)
      · have hw := hw.1 c1
        exact hk24 y1 y2 σ _ _ _ hw hP hS (lv_sub hl [0, 1, 2] rfl)
      · have hw := hw.2 c1
        refine lv_iload_n hx hb dX8_sizeOf_10 rfl (lv_at hl 1 rfl) ?_
        refine lv_iload_n hx hb dX8_sizeOf_11 rfl (lv_at hl 0 rfl) ?_
        refine lv_iload_n hx hb dX8_sizeOf_12 rfl (lv_at hl 2 rfl) ?_
        refine lv_ishr hx hb dX8_sizeOf_13 ?_
        refine lv_iconst (v := (1 : Int32)) hx hb dX8_sizeOf_14 (by decide) ?_
        refine lv_iand hx hb dX8_sizeOf_15 ?_
        refine lv_iadd hx hb dX8_sizeOf_16 ?_
        refine lv_topi (fun v2 ev2 => ?_)
        have hw := hw v2 ev2
        refine lv_istore_n (lv' := [(1, .int v2), (0, .int z0), (2, .int y2)]) hx hb dX8_sizeOf_17 rfl hl (by decide) rfl (fun ls hl => ?_)
        obtain ⟨v3, ev3⟩ : ∃ z : Int32, z = y2 + (1 : Int32) := ⟨_, rfl⟩
        have hw := hw v3 ev3
        refine lv_iinc (v := v3) (lv' := [(2, .int v3), (1, .int v2), (0, .int z0)]) hx hb dX8_sizeOf_18 hl (k := 2) rfl (by rw [ev3]; rfl) (by decide) rfl (fun ls hl => ?_)
        refine lv_goto (tgt := 4) hx hb dX8_sizeOf_21 (by decide) ?_
        exact ih v2 v3 σ _ _ _ hw hk24 hP hS (lv_sub hl [2, 1, 0] rfl)
  have hl := lv_entry ([.int x0]) (n := 3) (Nat.le_of_ble_eq_true rfl)
  rw [lg_entry_eq]
  generalize (lg_sl ([.int x0]) ++ List.replicate (3 - (lg_sl ([.int x0])).length) Slot.unset).toArray = ls at hl ⊢
  have hl : lv_has ls 3 [(0, .int x0)] := hl
  unfold wX8_sizeOf at hw
  refine lv_iconst (v := (0 : Int32)) hx hb dX8_sizeOf_0 (by decide) ?_
  refine lv_istore_n (lv' := [(1, .int (0 : Int32)), (0, .int x0)]) hx hb dX8_sizeOf_1 rfl hl (by decide) rfl (fun ls hl => ?_)
  refine lv_iconst (v := (0 : Int32)) hx hb dX8_sizeOf_2 (by decide) ?_
  refine lv_istore_n (lv' := [(2, .int (0 : Int32)), (1, .int (0 : Int32)), (0, .int x0)]) hx hb dX8_sizeOf_3 rfl hl (by decide) rfl (fun ls hl => ?_)
  obtain ⟨n4, hw⟩ := hw
  refine L4 _ x0 n4 (0 : Int32) (0 : Int32) σ _ _ _ hw ?_ hP hS (lv_sub hl [2, 1, 0] rfl)
  intro v5 v6 σ7 H locs ls hw hP hS hl
  have hD : va_D (wdA 31 q) (mw c q σ7) := mw_D hD0
  refine lv_iload_n hx hb dX8_sizeOf_24 rfl (lv_at hl 1 rfl) ?_
  exact W.iret hx hb hr (fun t ht hW => ⟨⟨_, σ7, rfl, hw, by unfold wdB; rw [ht]; exact hP⟩, hS.F ht⟩) hS.2.2 dX8_sizeOf_25
def wX8_mayOf (x1 : Int32) (x2 : Int32) (x3 : Int32) (post : Int32 → hsS → Prop) (σ : hsS) : Prop := ((x1 = (0 : Int32) → post (0 : Int32) σ) ∧ (¬ x1 = (0 : Int32) → (((σ.2.1 3 (0 : Int32).toNatClampNeg) = (0 : Int32) → wX8_weightOf x2 (fun r3 σ4 => wX8_weightOf x1 (fun r5 σ6 => ¬ r3 = 0 ∧ ∀ v7 : Int32, v7 = ((((x3 * r5) + r3) - (1 : Int32)) / r3) - (1 : Int32) → post (if v7 < (x3 - (1 : Int32)) then v7 else (x3 - (1 : Int32))) σ6) σ4) σ) ∧ (¬ (σ.2.1 3 (0 : Int32).toNatClampNeg) = (0 : Int32) → (((σ.2.1 3 (0 : Int32).toNatClampNeg) = (1 : Int32) → wX8_weightOf x1 (fun r9 σ10 => ¬ (σ10.2.1 4 (0 : Int32).toNatClampNeg) = 0 ∧ ∀ v11 : Int32, v11 = r9 / (σ10.2.1 4 (0 : Int32).toNatClampNeg) → post (if v11 < (x3 - (1 : Int32)) then v11 else (x3 - (1 : Int32))) σ10) σ) ∧ (¬ (σ.2.1 3 (0 : Int32).toNatClampNeg) = (1 : Int32) → wX8_sizeOf x1 (fun r12 σ13 => vp_in ((if (σ13.2.1 5 (0 : Int32).toNatClampNeg) < r12 then (σ13.2.1 5 (0 : Int32).toNatClampNeg) else r12) - (1 : Int32)) 16 ∧ ∀ v14 : Int32, v14 = σ13.2.1 9 ((if (σ13.2.1 5 (0 : Int32).toNatClampNeg) < r12 then (σ13.2.1 5 (0 : Int32).toNatClampNeg) else r12) - (1 : Int32)).toNatClampNeg → post (if v14 < (x3 - (1 : Int32)) then v14 else (x3 - (1 : Int32))) σ13) σ))))))
set_option maxHeartbeats 4000000 in
set_option maxRecDepth 100000 in
theorem kcX8_mayOf (l : Launch) (D : va_G) (c : Nat → ClassId) (q : Nat → Nat) (ev : State → Heap → Prop) (hev : evOK (wdA 31 q) ev) (σ : hsS) (x1 : Int32) (x2 : Int32) (x3 : Int32) (post : Int32 → hsS → Prop) (hw : wX8_mayOf x1 x2 x3 post σ) : Met l yX8_mayOf (Cond.code yX8_mayOf cX8_mayOf 6 (some .int) :: tb_L) { frames := 1, cells := 0, slots := 0, locals := 40 } (wdPc D (mw c q) (mwT c) (wdA 31 q) ev σ [.ref (q 0), .int x1, .int x2, .int x3]) (va_Qi post (wdB D (mw c q)) (wdA 31 q)) 0 0 (wdA 31 q) := by
  refine Met.ofW (cc := cX8_mayOf) (maxL := 6) (ret := (some .int)) (by decide) rfl ?_
  intro p e s m args below meth c₀ s₁ Bd hml hv
  obtain ⟨rfl, hP, hK, hD0, hE⟩ := hv
  have hx := Bd.exec
  have hb := Bd.bytes
  have hr := Bd.returns
  have hts := atoms_spec (ws := Cond.code yX8_mayOf cX8_mayOf 6 (some .int) :: tb_L) Bd.pre
  have htb : ∀ w ∈ tb_L, w.before [.ref (q 0), .int x1, .int x2, .int x3].toArray s = true := fun w h => hts w (List.mem_cons_of_mem _ h)
  have hown : s.vm.findClass RX8 = some m.cls := findClass_of_methodNamed Bd.named
  have hlocks := Bd.notSynchronized
  have hS : va_S (wdA 31 q) s.heap s.heap [] := va_S.rf
  have hD := hD0
  have hl := lv_entry ([.ref (q 0), .int x1, .int x2, .int x3]) (n := 6) (Nat.le_of_ble_eq_true rfl)
  rw [lg_entry_eq]
  generalize (lg_sl ([.ref (q 0), .int x1, .int x2, .int x3]) ++ List.replicate (6 - (lg_sl ([.ref (q 0), .int x1, .int x2, .int x3])).length) Slot.unset).toArray = ls at hl ⊢
  have hl : lv_has ls 6 [(0, .ref (q 0)), (1, .int x1), (2, .int x2), (3, .int x3)] := hl
  unfold wX8_mayOf at hw
  refine lv_iload_n hx hb dX8_mayOf_0 rfl (lv_at hl 1 rfl) ?_
  refine lv_if_ne (tgt := 6) hx hb dX8_mayOf_1 (by decide) (fun c1 => ?_) (fun c1 => ?_)
  · have hw := hw.2 c1
    refine lv_aload_n hx hb dX8_mayOf_6 rfl (lv_at hl 0 rfl) ?_
    refine va_get (D := D) (ci := 8) (C := RX8) (T := TX8) (N := 57) hx hb htb inX8 hown hK hP 0 (mw_0 c q σ) rfl 3 (by decide) (htb _ tb_1184) (fun _ h9 => h9) rfl dX8_mayOf_7 ?_
    refine lv_iconst (v := (0 : Int32)) hx hb dX8_mayOf_10 (by decide) ?_
    refine va_iald hx hb hK hP 3 2 (mw_3 c q σ) rfl (by unfold vp_in; decide) dX8_mayOf_11 ?_
    refine lv_if_ne (tgt := 44) hx hb dX8_mayOf_12 (by decide) (fun c2 => ?_) (fun c2 => ?_)
    · have hw := hw.2 c2
      refine lv_aload_n hx hb dX8_mayOf_44 rfl (lv_at hl 0 rfl) ?_
      refine va_get (D := D) (ci := 8) (C := RX8) (T := TX8) (N := 57) hx hb htb inX8 hown hK hP 0 (mw_0 c q σ) rfl 3 (by decide) (htb _ tb_1184) (fun _ h9 => h9) rfl dX8_mayOf_45 ?_
      refine lv_iconst (v := (0 : Int32)) hx hb dX8_mayOf_48 (by decide) ?_
      refine va_iald hx hb hK hP 3 2 (mw_3 c q σ) rfl (by unfold vp_in; decide) dX8_mayOf_49 ?_
      refine lv_iconst (v := (1 : Int32)) hx hb dX8_mayOf_50 (by decide) ?_
      refine lv_icmp_ne (tgt := 71) hx hb dX8_mayOf_51 (by decide) (fun c8 => ?_) (fun c8 => ?_)
      · have hw := hw.2 c8
        refine lv_aload_n hx hb dX8_mayOf_71 rfl (lv_at hl 0 rfl) ?_
        refine va_get (D := D) (ci := 8) (C := RX8) (T := TX8) (N := 57) hx hb htb inX8 hown hK hP 0 (mw_0 c q σ) rfl 9 (by decide) (htb _ tb_1190) (fun _ h9 => h9) rfl dX8_mayOf_72 ?_
        refine lv_iload_n hx hb dX8_mayOf_75 rfl (lv_at hl 1 rfl) ?_
        refine va_calli (va_runS (As := [.int x1]) (rest := [.ref (q 9)]) ⟨hx, hb, hml, hown, htb⟩ (kcX8_sizeOf_m l D c q ev hev σ x1 _ hw) (tb_CS htb kX8_sizeOf tb_1493 tb_1494 ⟨Nat.le_of_ble_eq_true rfl, Nat.le_of_ble_eq_true rfl⟩) (wd_preS (wd := mw c q) hev hK hP hD hE hS) rfl rfl hl.1 rfl (lv_room (Nat.le_of_ble_eq_true rfl)) dX8_mayOf_76 ⟨Nat.zero_le _, Nat.zero_le _⟩) hS (fun q _ h => h) (fun q h => h) (fun r12 σ13 t H1 locs1 ht hvm hw hB hz1 hk1 hS => ?_)
        have hP : va_P D vwCl (mw c q σ13) H1 := ht ▸ hB
        have hD : va_D (wdA 31 q) (mw c q σ13) := mw_D hD0
        refine lv_aload_n hx hb dX8_mayOf_79 rfl (lv_at hl 0 rfl) ?_
        refine va_get (D := D) (ci := 8) (C := RX8) (T := TX8) (N := 57) hx hb htb inX8 hown hK hP 0 (mw_0 c q σ13) rfl 5 (by decide) (htb _ tb_1186) (fun _ h9 => h9) rfl dX8_mayOf_80 ?_
        refine lv_iconst (v := (0 : Int32)) hx hb dX8_mayOf_83 (by decide) ?_
        refine va_iald hx hb hK hP 5 4 (mw_5 c q σ13) rfl (by unfold vp_in; decide) dX8_mayOf_84 ?_
        refine va_mmin hx hb (hml.trans hl.1.symm) hown (htb _ tb_1384) (htb _ tb_413) (htb _ tb_104) (htb _ tb_414) (Nat.le_of_ble_eq_true rfl) (Nat.le_of_ble_eq_true rfl) (Nat.zero_le _) (Nat.zero_le _) dX8_mayOf_85 ?_
        refine lv_iconst (v := (1 : Int32)) hx hb dX8_mayOf_88 (by decide) ?_
        refine lv_isub hx hb dX8_mayOf_89 ?_
        refine va_iald hx hb hK hP 9 8 (mw_9 c q σ13) rfl hw.1 dX8_mayOf_90 ?_
        have hw := hw.2
        refine lv_topi (fun v14 ev14 => ?_)
        have hw := hw v14 ev14
        refine lv_istore (lv' := [(4, .int v14), (0, .ref (q 0)), (1, .int x1), (2, .int x2), (3, .int x3)]) hx hb dX8_mayOf_91 hl (by decide) rfl (fun ls hl => ?_)
        refine lv_iload_n hx hb dX8_mayOf_93 rfl (lv_at hl 4 rfl) ?_
        refine lv_iconst (v := (1 : Int32)) hx hb dX8_mayOf_94 (by decide) ?_
        refine lv_isub hx hb dX8_mayOf_95 ?_
        refine lv_iload hx hb dX8_mayOf_96 (lv_at hl 0 rfl) ?_
        refine va_mmin hx hb (hml.trans hl.1.symm) hown (htb _ tb_1384) (htb _ tb_413) (htb _ tb_104) (htb _ tb_414) (Nat.le_of_ble_eq_true rfl) (Nat.le_of_ble_eq_true rfl) (Nat.zero_le _) (Nat.zero_le _) dX8_mayOf_98 ?_
        exact W.iret hx hb hr (fun t ht hW => ⟨⟨_, σ13, rfl, hw, by unfold wdB; rw [ht]; exact hP⟩, hS.F ht⟩) hS.2.2 dX8_mayOf_101
      · have hw := hw.1 c8
        refine lv_aload_n hx hb dX8_mayOf_54 rfl (lv_at hl 0 rfl) ?_
        refine lv_iload_n hx hb dX8_mayOf_55 rfl (lv_at hl 1 rfl) ?_
        refine va_calli (va_runV (As := [.int x1]) (rest := []) ⟨hx, hb, hml, hown, htb⟩ (kcX8_weightOf l D c q ev hev σ x1 _ hw) (tb_CW htb kX8_weightOf tb_1454 tb_1456 tb_57 ⟨Nat.le_of_ble_eq_true rfl, Nat.le_of_ble_eq_true rfl⟩) (wd_preV (wd := mw c q) (k := 0) hev hK hP hD hE hS (mw_0 c q σ) rfl) rfl rfl hl.1 rfl (lv_room (Nat.le_of_ble_eq_true rfl)) dX8_mayOf_56 ⟨Nat.zero_le _, Nat.zero_le _⟩) hS (fun q _ h => h) (fun q h => h) (fun r9 σ10 t H1 locs1 ht hvm hw hB hz1 hk1 hS => ?_)
        have hP : va_P D vwCl (mw c q σ10) H1 := ht ▸ hB
        have hD : va_D (wdA 31 q) (mw c q σ10) := mw_D hD0
        refine lv_aload_n hx hb dX8_mayOf_59 rfl (lv_at hl 0 rfl) ?_
        refine va_get (D := D) (ci := 8) (C := RX8) (T := TX8) (N := 57) hx hb htb inX8 hown hK hP 0 (mw_0 c q σ10) rfl 4 (by decide) (htb _ tb_1185) (fun _ h9 => h9) rfl dX8_mayOf_60 ?_
        refine lv_iconst (v := (0 : Int32)) hx hb dX8_mayOf_63 (by decide) ?_
        refine va_iald hx hb hK hP 4 3 (mw_4 c q σ10) rfl (by unfold vp_in; decide) dX8_mayOf_64 ?_
        refine lv_idiv hx hb dX8_mayOf_65 hw.1 ?_
        have hw := hw.2
        refine lv_topi (fun v11 ev11 => ?_)
        have hw := hw v11 ev11
        refine lv_istore (lv' := [(4, .int v11), (0, .ref (q 0)), (1, .int x1), (2, .int x2), (3, .int x3)]) hx hb dX8_mayOf_66 hl (by decide) rfl (fun ls hl => ?_)
        refine lv_goto (tgt := 93) hx hb dX8_mayOf_68 (by decide) ?_
        refine lv_iload_n hx hb dX8_mayOf_93 rfl (lv_at hl 4 rfl) ?_
        refine lv_iconst (v := (1 : Int32)) hx hb dX8_mayOf_94 (by decide) ?_
        refine lv_isub hx hb dX8_mayOf_95 ?_
        refine lv_iload hx hb dX8_mayOf_96 (lv_at hl 0 rfl) ?_
        refine va_mmin hx hb (hml.trans hl.1.symm) hown (htb _ tb_1384) (htb _ tb_413) (htb _ tb_104) (htb _ tb_414) (Nat.le_of_ble_eq_true rfl) (Nat.le_of_ble_eq_true rfl) (Nat.zero_le _) (Nat.zero_le _) dX8_mayOf_98 ?_
        exact W.iret hx hb hr (fun t ht hW => ⟨⟨_, σ10, rfl, hw, by unfold wdB; rw [ht]; exact hP⟩, hS.F ht⟩) hS.2.2 dX8_mayOf_101
    · have hw := hw.1 c2
      refine lv_aload_n hx hb dX8_mayOf_15 rfl (lv_at hl 0 rfl) ?_
      refine lv_iload_n hx hb dX8_mayOf_16 rfl (lv_at hl 2 rfl) ?_
      refine va_calli (va_runV (As := [.int x2]) (rest := []) ⟨hx, hb, hml, hown, htb⟩ (kcX8_weightOf l D c q ev hev σ x2 _ hw) (tb_CW htb kX8_weightOf tb_1454 tb_1456 tb_57 ⟨Nat.le_of_ble_eq_true rfl, Nat.le_of_ble_eq_true rfl⟩) (wd_preV (wd := mw c q) (k := 0) hev hK hP hD hE hS (mw_0 c q σ) rfl) rfl rfl hl.1 rfl (lv_room (Nat.le_of_ble_eq_true rfl)) dX8_mayOf_17 ⟨Nat.zero_le _, Nat.zero_le _⟩) hS (fun q _ h => h) (fun q h => h) (fun r3 σ4 t H1 locs1 ht hvm hw hB hz1 hk1 hS => ?_)
      have hP : va_P D vwCl (mw c q σ4) H1 := ht ▸ hB
      have hD : va_D (wdA 31 q) (mw c q σ4) := mw_D hD0
      refine lv_istore (lv' := [(5, .int r3), (0, .ref (q 0)), (1, .int x1), (2, .int x2), (3, .int x3)]) hx hb dX8_mayOf_20 hl (by decide) rfl (fun ls hl => ?_)
      refine lv_iload_n hx hb dX8_mayOf_22 rfl (lv_at hl 4 rfl) ?_
      refine lv_aload_n hx hb dX8_mayOf_23 rfl (lv_at hl 1 rfl) ?_
      refine lv_iload_n hx hb dX8_mayOf_24 rfl (lv_at hl 2 rfl) ?_
      refine va_calli (va_runV (As := [.int x1]) (rest := [.int x3]) ⟨hx, hb, hml, hown, htb⟩ (kcX8_weightOf l D c q ev hev σ4 x1 _ hw) (tb_CW htb kX8_weightOf tb_1454 tb_1456 tb_57 ⟨Nat.le_of_ble_eq_true rfl, Nat.le_of_ble_eq_true rfl⟩) (wd_preV (wd := mw c q) (k := 0) hev hK hP hD hE hS (mw_0 c q σ4) rfl) rfl rfl hl.1 rfl (lv_room (Nat.le_of_ble_eq_true rfl)) dX8_mayOf_25 ⟨Nat.zero_le _, Nat.zero_le _⟩) hS (fun q _ h => h) (fun q h => h) (fun r5 σ6 t H1 locs1 ht hvm hw hB hz1 hk1 hS => ?_)
      have hP : va_P D vwCl (mw c q σ6) H1 := ht ▸ hB
      have hD : va_D (wdA 31 q) (mw c q σ6) := mw_D hD0
      refine lv_imul hx hb dX8_mayOf_28 ?_
      refine lv_iload hx hb dX8_mayOf_29 (lv_at hl 0 rfl) ?_
      refine lv_iadd hx hb dX8_mayOf_31 ?_
      refine lv_iconst (v := (1 : Int32)) hx hb dX8_mayOf_32 (by decide) ?_
      refine lv_isub hx hb dX8_mayOf_33 ?_
      refine lv_iload hx hb dX8_mayOf_34 (lv_at hl 0 rfl) ?_
      refine lv_idiv hx hb dX8_mayOf_36 hw.1 ?_
      have hw := hw.2
      refine lv_iconst (v := (1 : Int32)) hx hb dX8_mayOf_37 (by decide) ?_
      refine lv_isub hx hb dX8_mayOf_38 ?_
      refine lv_topi (fun v7 ev7 => ?_)
      have hw := hw v7 ev7
      refine lv_istore (lv' := [(4, .int v7), (5, .int r3), (0, .ref (q 0)), (1, .int x1), (2, .int x2), (3, .int x3)]) hx hb dX8_mayOf_39 hl (by decide) rfl (fun ls hl => ?_)
      refine lv_goto (tgt := 93) hx hb dX8_mayOf_41 (by decide) ?_
      refine lv_iload_n hx hb dX8_mayOf_93 rfl (lv_at hl 5 rfl) ?_
      refine lv_iconst (v := (1 : Int32)) hx hb dX8_mayOf_94 (by decide) ?_
      refine lv_isub hx hb dX8_mayOf_95 ?_
      refine lv_iload hx hb dX8_mayOf_96 (lv_at hl 0 rfl) ?_
      refine va_mmin hx hb (hml.trans hl.1.symm) hown (htb _ tb_1384) (htb _ tb_413) (htb _ tb_104) (htb _ tb_414) (Nat.le_of_ble_eq_true rfl) (Nat.le_of_ble_eq_true rfl) (Nat.zero_le _) (Nat.zero_le _) dX8_mayOf_98 ?_
      exact W.iret hx hb hr (fun t ht hW => ⟨⟨_, σ6, rfl, hw, by unfold wdB; rw [ht]; exact hP⟩, hS.F ht⟩) hS.2.2 dX8_mayOf_101
  · have hw := hw.1 c1
    refine lv_iconst (v := (0 : Int32)) hx hb dX8_mayOf_4 (by decide) ?_
    exact W.iret hx hb hr (fun t ht hW => ⟨⟨_, σ, rfl, hw, by unfold wdB; rw [ht]; exact hP⟩, hS.F ht⟩) hS.2.2 dX8_mayOf_5
def wX8_everybody  (post : Int32 → hsS → Prop) (σ : hsS) : Prop := post (((1 : Int32) <<< ((σ.2.1 2 (0 : Int32).toNatClampNeg) &&& 31)) - (1 : Int32)) σ
set_option maxHeartbeats 4000000 in
set_option maxRecDepth 100000 in
theorem kcX8_everybody (l : Launch) (D : va_G) (c : Nat → ClassId) (q : Nat → Nat) (ev : State → Heap → Prop) (hev : evOK (wdA 31 q) ev) (σ : hsS)  (post : Int32 → hsS → Prop) (hw : wX8_everybody  post σ) : Met l yX8_everybody (Cond.code yX8_everybody cX8_everybody 1 (some .int) :: tb_L) { frames := 0, cells := 0, slots := 0, locals := 0 } (wdPc D (mw c q) (mwT c) (wdA 31 q) ev σ [.ref (q 0)]) (va_Qi post (wdB D (mw c q)) (wdA 31 q)) 0 0 (wdA 31 q) := by
  refine Met.ofW (cc := cX8_everybody) (maxL := 1) (ret := (some .int)) (by decide) rfl ?_
  intro p e s m args below meth c₀ s₁ Bd hml hv
  obtain ⟨rfl, hP, hK, hD0, hE⟩ := hv
  have hx := Bd.exec
  have hb := Bd.bytes
  have hr := Bd.returns
  have hts := atoms_spec (ws := Cond.code yX8_everybody cX8_everybody 1 (some .int) :: tb_L) Bd.pre
  have htb : ∀ w ∈ tb_L, w.before [.ref (q 0)].toArray s = true := fun w h => hts w (List.mem_cons_of_mem _ h)
  have hown : s.vm.findClass RX8 = some m.cls := findClass_of_methodNamed Bd.named
  have hlocks := Bd.notSynchronized
  have hS : va_S (wdA 31 q) s.heap s.heap [] := va_S.rf
  have hD := hD0
  have hl := lv_entry ([.ref (q 0)]) (n := 1) (Nat.le_of_ble_eq_true rfl)
  rw [lg_entry_eq]
  generalize (lg_sl ([.ref (q 0)]) ++ List.replicate (1 - (lg_sl ([.ref (q 0)])).length) Slot.unset).toArray = ls at hl ⊢
  have hl : lv_has ls 1 [(0, .ref (q 0))] := hl
  unfold wX8_everybody at hw
  refine lv_iconst (v := (1 : Int32)) hx hb dX8_everybody_0 (by decide) ?_
  refine lv_aload_n hx hb dX8_everybody_1 rfl (lv_at hl 0 rfl) ?_
  refine va_get (D := D) (ci := 8) (C := RX8) (T := TX8) (N := 57) hx hb htb inX8 hown hK hP 0 (mw_0 c q σ) rfl 2 (by decide) (htb _ tb_1183) (fun _ h9 => h9) rfl dX8_everybody_2 ?_
  refine lv_iconst (v := (0 : Int32)) hx hb dX8_everybody_5 (by decide) ?_
  refine va_iald hx hb hK hP 2 1 (mw_2 c q σ) rfl (by unfold vp_in; decide) dX8_everybody_6 ?_
  refine lv_ishl hx hb dX8_everybody_7 ?_
  refine lv_iconst (v := (1 : Int32)) hx hb dX8_everybody_8 (by decide) ?_
  refine lv_isub hx hb dX8_everybody_9 ?_
  exact W.iret hx hb hr (fun t ht hW => ⟨⟨_, σ, rfl, hw, by unfold wdB; rw [ht]; exact hP⟩, hS.F ht⟩) hS.2.2 dX8_everybody_10
def wX8_may (x1 : Int32) (post : Int32 → hsS → Prop) (σ : hsS) : Prop := ∀ σ1 : hsS, σ1 = hsI σ 0 (0 : Int32) → wX8_everybody  (fun r2 σ3 => wX8_everybody  (fun r4 σ5 => wX8_mayOf (x1 &&& r2) r4 (σ5.2.1 1 (0 : Int32).toNatClampNeg) (fun r6 σ7 => post r6 σ7) σ5) σ3) σ1
set_option maxHeartbeats 4000000 in
set_option maxRecDepth 100000 in
theorem kcX8_may (l : Launch) (D : va_G) (c : Nat → ClassId) (q : Nat → Nat) (ev : State → Heap → Prop) (hev : evOK (wdA 31 q) ev) (σ : hsS) (x1 : Int32) (post : Int32 → hsS → Prop) (hw : wX8_may x1 post σ) : Met l yX8_may (Cond.code yX8_may cX8_may 2 (some .int) :: tb_L) { frames := 2, cells := 0, slots := 0, locals := 65 } (wdPc D (mw c q) (mwT c) (wdA 31 q) ev σ [.ref (q 0), .int x1]) (va_Qi post (wdB D (mw c q)) (wdA 31 q)) 0 0 (wdA 31 q) := by
  refine Met.ofW (cc := cX8_may) (maxL := 2) (ret := (some .int)) (by decide) rfl ?_
  intro p e s m args below meth c₀ s₁ Bd hml hv
  obtain ⟨rfl, hP, hK, hD0, hE⟩ := hv
  have hx := Bd.exec
  have hb := Bd.bytes
  have hr := Bd.returns
  have hts := atoms_spec (ws := Cond.code yX8_may cX8_may 2 (some .int) :: tb_L) Bd.pre
  have htb : ∀ w ∈ tb_L, w.before [.ref (q 0), .int x1].toArray s = true := fun w h => hts w (List.mem_cons_of_mem _ h)
  have hown : s.vm.findClass RX8 = some m.cls := findClass_of_methodNamed Bd.named
  have hlocks := Bd.notSynchronized
  have hS : va_S (wdA 31 q) s.heap s.heap [] := va_S.rf
  have hD := hD0
  have hl := lv_entry ([.ref (q 0), .int x1]) (n := 2) (Nat.le_of_ble_eq_true rfl)
  rw [lg_entry_eq]
  generalize (lg_sl ([.ref (q 0), .int x1]) ++ List.replicate (2 - (lg_sl ([.ref (q 0), .int x1])).length) Slot.unset).toArray = ls at hl ⊢
  have hl : lv_has ls 2 [(0, .ref (q 0)), (1, .int x1)] := hl
  unfold wX8_may at hw
  refine lv_aload_n hx hb dX8_may_0 rfl (lv_at hl 0 rfl) ?_
  refine lv_iconst (v := (0 : Int32)) hx hb dX8_may_1 (by decide) ?_
  refine va_put (D := D) (ci := 8) (ty := .int) (C := RX8) (T := TX8) (N := 57) hx hb htb inX8 tyX8 tyX8_ok nmX8 hown hK hP hD hS 0 (mw_0 c q σ) rfl 0 (by decide) (htb _ tb_1181) (fun _ h9 => h9) rfl (by decide +kernel) rfl rfl (Nat.le_of_ble_eq_true rfl) dX8_may_2 (fun H locs hP hD hS => ?_)
  have hP : va_P D vwCl (mw c q (hsI σ 0 (0 : Int32))) H := hP
  obtain ⟨σ1, eσ1⟩ : ∃ z : hsS, z = hsI σ 0 (0 : Int32) := ⟨_, rfl⟩
  rw [← eσ1] at hP
  have hD : va_D (wdA 31 q) (mw c q σ1) := mw_D hD0
  have hw := hw σ1 eσ1
  refine lv_aload_n hx hb dX8_may_5 rfl (lv_at hl 0 rfl) ?_
  refine lv_iload_n hx hb dX8_may_6 rfl (lv_at hl 1 rfl) ?_
  refine lv_aload_n hx hb dX8_may_7 rfl (lv_at hl 0 rfl) ?_
  refine va_calli (va_runV (As := []) (rest := [.int x1, .ref (q 0)]) ⟨hx, hb, hml, hown, htb⟩ (kcX8_everybody l D c q ev hev σ1  _ hw) (tb_CW htb kX8_everybody tb_1485 tb_1487 tb_61 ⟨Nat.le_of_ble_eq_true rfl, Nat.le_of_ble_eq_true rfl⟩) (wd_preV (wd := mw c q) (k := 0) hev hK hP hD hE hS (mw_0 c q σ1) rfl) rfl rfl hl.1 rfl (lv_room (Nat.le_of_ble_eq_true rfl)) dX8_may_8 ⟨Nat.zero_le _, Nat.zero_le _⟩) hS (fun q _ h => h) (fun q h => h) (fun r2 σ3 t H1 locs1 ht hvm hw hB hz1 hk1 hS => ?_)
  have hP : va_P D vwCl (mw c q σ3) H1 := ht ▸ hB
  have hD : va_D (wdA 31 q) (mw c q σ3) := mw_D hD0
  refine lv_iand hx hb dX8_may_11 ?_
  refine lv_aload_n hx hb dX8_may_12 rfl (lv_at hl 0 rfl) ?_
  refine va_calli (va_runV (As := []) (rest := [.int (x1 &&& r2), .ref (q 0)]) ⟨hx, hb, hml, hown, htb⟩ (kcX8_everybody l D c q ev hev σ3  _ hw) (tb_CW htb kX8_everybody tb_1485 tb_1487 tb_61 ⟨Nat.le_of_ble_eq_true rfl, Nat.le_of_ble_eq_true rfl⟩) (wd_preV (wd := mw c q) (k := 0) hev hK hP hD hE hS (mw_0 c q σ3) rfl) rfl rfl hl.1 rfl (lv_room (Nat.le_of_ble_eq_true rfl)) dX8_may_13 ⟨Nat.zero_le _, Nat.zero_le _⟩) hS (fun q _ h => h) (fun q h => h) (fun r4 σ5 t H1 locs1 ht hvm hw hB hz1 hk1 hS => ?_)
  have hP : va_P D vwCl (mw c q σ5) H1 := ht ▸ hB
  have hD : va_D (wdA 31 q) (mw c q σ5) := mw_D hD0
  refine lv_aload_n hx hb dX8_may_16 rfl (lv_at hl 0 rfl) ?_
  refine va_get (D := D) (ci := 8) (C := RX8) (T := TX8) (N := 57) hx hb htb inX8 hown hK hP 0 (mw_0 c q σ5) rfl 1 (by decide) (htb _ tb_1182) (fun _ h9 => h9) rfl dX8_may_17 ?_
  refine lv_iconst (v := (0 : Int32)) hx hb dX8_may_20 (by decide) ?_
  refine va_iald hx hb hK hP 1 0 (mw_1 c q σ5) rfl (by unfold vp_in; decide) dX8_may_21 ?_
  refine va_calli (va_runV (As := [.int (x1 &&& r2), .int r4, .int (σ5.2.1 1 (0 : Int32).toNatClampNeg)]) (rest := []) ⟨hx, hb, hml, hown, htb⟩ (kcX8_mayOf l D c q ev hev σ5 (x1 &&& r2) r4 (σ5.2.1 1 (0 : Int32).toNatClampNeg) _ hw) (tb_CW htb kX8_mayOf tb_1489 tb_1491 tb_62 ⟨Nat.le_of_ble_eq_true rfl, Nat.le_of_ble_eq_true rfl⟩) (wd_preV (wd := mw c q) (k := 0) hev hK hP hD hE hS (mw_0 c q σ5) rfl) rfl rfl hl.1 rfl (lv_room (Nat.le_of_ble_eq_true rfl)) dX8_may_22 ⟨Nat.zero_le _, Nat.zero_le _⟩) hS (fun q _ h => h) (fun q h => h) (fun r6 σ7 t H1 locs1 ht hvm hw hB hz1 hk1 hS => ?_)
  have hP : va_P D vwCl (mw c q σ7) H1 := ht ▸ hB
  have hD : va_D (wdA 31 q) (mw c q σ7) := mw_D hD0
  exact W.iret hx hb hr (fun t ht hW => ⟨⟨_, σ7, rfl, hw, by unfold wdB; rw [ht]; exact hP⟩, hS.F ht⟩) hS.2.2 dX8_may_25
