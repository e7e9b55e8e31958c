theorem kX7_fault : tbM yX7_fault cX7_fault 1 (some .int) 0 := ⟨tb_385, tb_90, by decide +kernel, by decide +kernel⟩
theorem kX7_count : tbM yX7_count cX7_count 2 (some .int) 1 := ⟨tb_882, tb_90, by decide +kernel, by decide +kernel⟩
theorem kX7_needPerson : tbM yX7_needPerson cX7_needPerson 2 none 1 := ⟨tb_909, tb_90, by decide +kernel, by decide +kernel⟩
theorem kX7_needThing : tbM yX7_needThing cX7_needThing 2 none 1 := ⟨tb_914, tb_90, by decide +kernel, by decide +kernel⟩
theorem kX1_placeOf : tbM yX1_placeOf cX1_placeOf 3 (some .int) 2 := ⟨tb_448, tb_91, by decide +kernel, by decide +kernel⟩
theorem kX7_place : tbM yX7_place cX7_place 3 (some .int) 2 := ⟨tb_905, tb_90, by decide +kernel, by decide +kernel⟩
theorem kX7_turn : tbM yX7_turn cX7_turn 2 (some .int) 1 := ⟨tb_923, tb_90, by decide +kernel, by decide +kernel⟩
theorem kX1_allPeople : tbM yX1_allPeople cX1_allPeople 1 (some .int) 0 := ⟨tb_397, tb_91, by decide +kernel, by decide +kernel⟩
theorem kX1_weightOf : tbM yX1_weightOf cX1_weightOf 4 (some .int) 1 := ⟨tb_405, tb_91, by decide +kernel, by decide +kernel⟩
theorem kX1_lawGives : tbM yX1_lawGives cX1_lawGives 2 (some .int) 1 := ⟨tb_401, tb_91, by decide +kernel, by decide +kernel⟩
theorem kX1_mayStrike : tbM yX1_mayStrike cX1_mayStrike 3 (some .int) 1 := ⟨tb_393, tb_91, by decide +kernel, by decide +kernel⟩
theorem kX7_may : tbM yX7_may cX7_may 2 (some .int) 1 := ⟨tb_389, tb_90, by decide +kernel, by decide +kernel⟩
theorem kX1_allThings : tbM yX1_allThings cX1_allThings 1 (some .int) 0 := ⟨tb_440, tb_91, by decide +kernel, by decide +kernel⟩
theorem kX1_dearerThan : tbM yX1_dearerThan cX1_dearerThan 6 (some .int) 2 := ⟨tb_444, tb_91, by decide +kernel, by decide +kernel⟩
theorem kX1_keptBy : tbM yX1_keptBy cX1_keptBy 5 (some .int) 2 := ⟨tb_935, tb_91, by decide +kernel, by decide +kernel⟩
theorem kX7_keep : tbM yX7_keep cX7_keep 3 (some .int) 2 := ⟨tb_931, tb_90, by decide +kernel, by decide +kernel⟩
theorem kX7_strikes : tbM yX7_strikes cX7_strikes 4 (some .boolean) 2 := ⟨tb_943, tb_90, by decide +kernel, by decide +kernel⟩
theorem kX4_weigh : tbM yX4_weigh cX4_weigh 4 none 1 := ⟨tb_426, tb_93, by decide +kernel, by decide +kernel⟩
theorem kX4_ahead : tbM yX4_ahead cX4_ahead 5 (some .int) 2 := ⟨tb_452, tb_93, by decide +kernel, by decide +kernel⟩
theorem kX4_strikerOf : tbM yX4_strikerOf cX4_strikerOf 10 (some .int) 3 := ⟨tb_436, tb_93, by decide +kernel, by decide +kernel⟩
theorem kX7_striker : tbM yX7_striker cX7_striker 2 (some .int) 1 := ⟨tb_952, tb_90, by decide +kernel, by decide +kernel⟩
theorem kX4_coreAsWeighed : tbM yX4_coreAsWeighed cX4_coreAsWeighed 4 (some .int) 1 := ⟨tb_432, tb_93, by decide +kernel, by decide +kernel⟩
def wX7_fault  (post : Int32 → hsS → Prop) (σ : hsS) : Prop := post (σ.1 713) σ
set_option maxHeartbeats 4000000 in
set_option maxRecDepth 100000 in
theorem kcX7_fault (l : Launch) (D : va_G) (c : Nat → ClassId) (q : Nat → Nat) (ev : State → Heap → Prop) (hev : evOK (wdA 36 q) ev) (σ : hsS)  (post : Int32 → hsS → Prop) (hw : wX7_fault  post σ) : Met l yX7_fault (Cond.code yX7_fault cX7_fault 1 (some .int) :: tb_L) { frames := 0, cells := 0, slots := 0, locals := 0 } (wdPc D (xw c q) (xwT c) (wdA 36 q) ev σ [.ref (q 0)]) (va_Qi post (wdB D (xw c q)) (wdA 36 q)) 0 0 (wdA 36 q) := by
  refine Met.ofW (cc := cX7_fault) (maxL := 1) (ret := (some .int)) (by decide) rfl ?_
  intro p e s m args below meth c₀ s₁ Bd hml hv
  obtain ⟨rfl, hP, hK, hD0, hE⟩ := hv
  have hx := Bd.exec
  have hb := Bd.bytes
  have hr := Bd.returns
  have hts := atoms_spec (ws := Cond.code yX7_fault cX7_fault 1 (some .int) :: tb_L) Bd.pre
  have htb : ∀ w ∈ tb_L, w.before [.ref (q 0)].toArray s = true := fun w h => hts w (List.mem_cons_of_mem _ h)
  have hown : s.vm.findClass RX7 = some m.cls := findClass_of_methodNamed Bd.named
  have hlocks := Bd.notSynchronized
  have hS : va_S (wdA 36 q) s.heap s.heap [] := va_S.rf
  have hD := hD0
  have hl := lv_entry ([.ref (q 0)]) (n := 1) (Nat.le_of_ble_eq_true rfl)
  rw [lg_entry_eq]
  generalize (lg_sl ([.ref (q 0)]) ++ List.replicate (1 - (lg_sl ([.ref (q 0)])).length) Slot.unset).toArray = ls at hl ⊢
  have hl : lv_has ls 1 [(0, .ref (q 0))] := hl
  unfold wX7_fault at hw
  refine lv_aload_n hx hb dX7_fault_0 rfl (lv_at hl 0 rfl) ?_
  refine va_get (D := D) (ci := 7) (C := RX7) (T := TX7) (N := 9) hx hb htb inX7 hown hK hP 0 (xw_0 c q σ) rfl 2 (by decide) (htb _ tb_344) (fun _ h9 => h9) rfl dX7_fault_1 ?_
  refine va_getN (D := D) (ci := 3) (C := RX3) (T := TX3) (N := 10) hx hb htb inX3 hown hK hP 11 (xw_11 c q σ) rfl 9 (by decide) (htb _ tb_213) (fun _ h9 => h9) rfl dX7_fault_4 ?_
  exact W.iret hx hb hr (fun t ht hW => ⟨⟨_, σ, rfl, hw, by unfold wdB; rw [ht]; exact hP⟩, hS.F ht⟩) hS.2.2 dX7_fault_7
def wX7_count (x1 : Int32) (post : Int32 → hsS → Prop) (px : hsS → Prop) (σ : hsS) : Prop := ((x1 = (0 : Int32) → post (σ.1 64) σ) ∧ (¬ x1 = (0 : Int32) → ((x1 = (1 : Int32) → post (σ.1 65) σ) ∧ (¬ x1 = (1 : Int32) → ((x1 = (2 : Int32) → post (σ.1 70) σ) ∧ (¬ x1 = (2 : Int32) → ((x1 = (3 : Int32) → post (σ.1 67) σ) ∧ (¬ x1 = (3 : Int32) → ((x1 = (4 : Int32) → post (σ.1 1922) σ) ∧ (¬ x1 = (4 : Int32) → ((x1 = (5 : Int32) → post (σ.1 706) σ) ∧ (¬ x1 = (5 : Int32) → ((x1 = (6 : Int32) → post (σ.1 66) σ) ∧ (¬ x1 = (6 : Int32) → px σ))))))))))))))
set_option maxHeartbeats 4000000 in
set_option maxRecDepth 100000 in
theorem kcX7_count (l : Launch) (D : va_G) (c : Nat → ClassId) (q : Nat → Nat) (ev : State → Heap → Prop) (hev : evOK (wdA 36 q) ev) (hst : l.stackTraces = false) (hX : ∀ (U : State) (H : Heap), ev U H → evT (wdA 36 q) U H) (σ : hsS) (x1 : Int32) (post : Int32 → hsS → Prop) (px : hsS → Prop) (hw : wX7_count x1 post px σ) : vx_Met l yX7_count (Cond.code yX7_count cX7_count 2 (some .int) :: tb_L) { frames := 8, cells := 1, slots := 6, locals := 128 } (wdPc D (xw c q) (xwT c) (wdA 36 q) ev σ [.ref (q 0), .int x1]) (va_Qi post (wdB D (xw c q)) (wdA 36 q)) (vx_X px (xpB D (xw c q) "java/util/NoSuchElementException") (wdA 36 q)) 1 6 (wdA 36 q) := by
  refine vx_ofW (cc := cX7_count) (maxL := 2) (ret := (some .int)) (by decide) rfl ?_
  intro p e s m args below meth c₀ s₁ Bd hml htab hv
  obtain ⟨rfl, hP, hK, hD0, hE⟩ := hv
  have hx := Bd.exec
  have hb := Bd.bytes
  have hr := Bd.returns
  have hts := atoms_spec (ws := Cond.code yX7_count cX7_count 2 (some .int) :: tb_L) Bd.pre
  have htb : ∀ w ∈ tb_L, w.before [.ref (q 0), .int x1].toArray s = true := fun w h => hts w (List.mem_cons_of_mem _ h)
  have hown : s.vm.findClass RX7 = some m.cls := findClass_of_methodNamed Bd.named
  have hlocks := Bd.notSynchronized
  have hS : va_S (wdA 36 q) s.heap s.heap [] := va_S.rf
  have hD := hD0
  have hl := lv_entry ([.ref (q 0), .int x1]) (n := 2) (Nat.le_of_ble_eq_true rfl)
  rw [lg_entry_eq]
  generalize (lg_sl ([.ref (q 0), .int x1]) ++ List.replicate (2 - (lg_sl ([.ref (q 0), .int x1])).length) Slot.unset).toArray = ls at hl ⊢
  have hl : lv_has ls 2 [(0, .ref (q 0)), (1, .int x1)] := hl
  unfold wX7_count at hw
  refine lv_iload_n hx hb dX7_count_0 rfl (lv_at hl 1 rfl) ?_
  by_cases c1 : x1 = (0 : Int32)
  · have hw := hw.1 c1
    refine lv_tableIn (off := 43) (tgt := 44) hx hb dX7_count_1 (by rw [c1]; decide) (by rw [c1]; decide) (by rw [c1]; rfl) (by decide) ?_
    refine lv_aload_n hx hb dX7_count_44 rfl (lv_at hl 0 rfl) ?_
    refine va_get (D := D) (ci := 7) (C := RX7) (T := TX7) (N := 9) hx hb htb inX7 hown hK hP 0 (xw_0 c q σ) rfl 0 (by decide) (htb _ tb_342) (fun _ h9 => h9) rfl dX7_count_45 ?_
    refine va_getN (D := D) (ci := 1) (C := RX1) (T := TX1) (N := 12) hx hb htb inX1 hown hK hP 1 (xw_1 c q σ) rfl 0 (by decide) (htb _ tb_130) (fun _ h9 => h9) rfl dX7_count_48 ?_
    exact vx_ret (W.widen (k := 1) (n := 6) (Nat.le_of_ble_eq_true rfl) (Nat.le_of_ble_eq_true rfl) (W.iret hx hb hr (fun t ht hW => ⟨⟨_, σ, rfl, hw, by unfold wdB; rw [ht]; exact hP⟩, hS.F ht⟩) hS.2.2 dX7_count_51))
  · have hw := hw.2 c1
    by_cases c2 : x1 = (1 : Int32)
    · have hw := hw.1 c2
      refine lv_tableIn (off := 51) (tgt := 52) hx hb dX7_count_1 (by rw [c2]; decide) (by rw [c2]; decide) (by rw [c2]; rfl) (by decide) ?_
      refine lv_aload_n hx hb dX7_count_52 rfl (lv_at hl 0 rfl) ?_
      refine va_get (D := D) (ci := 7) (C := RX7) (T := TX7) (N := 9) hx hb htb inX7 hown hK hP 0 (xw_0 c q σ) rfl 0 (by decide) (htb _ tb_342) (fun _ h9 => h9) rfl dX7_count_53 ?_
      refine va_getN (D := D) (ci := 1) (C := RX1) (T := TX1) (N := 12) hx hb htb inX1 hown hK hP 1 (xw_1 c q σ) rfl 1 (by decide) (htb _ tb_136) (fun _ h9 => h9) rfl dX7_count_56 ?_
      exact vx_ret (W.widen (k := 1) (n := 6) (Nat.le_of_ble_eq_true rfl) (Nat.le_of_ble_eq_true rfl) (W.iret hx hb hr (fun t ht hW => ⟨⟨_, σ, rfl, hw, by unfold wdB; rw [ht]; exact hP⟩, hS.F ht⟩) hS.2.2 dX7_count_59))
    · have hw := hw.2 c2
      by_cases c3 : x1 = (2 : Int32)
      · have hw := hw.1 c3
        refine lv_tableIn (off := 59) (tgt := 60) hx hb dX7_count_1 (by rw [c3]; decide) (by rw [c3]; decide) (by rw [c3]; rfl) (by decide) ?_
        refine lv_aload_n hx hb dX7_count_60 rfl (lv_at hl 0 rfl) ?_
        refine va_get (D := D) (ci := 7) (C := RX7) (T := TX7) (N := 9) hx hb htb inX7 hown hK hP 0 (xw_0 c q σ) rfl 0 (by decide) (htb _ tb_342) (fun _ h9 => h9) rfl dX7_count_61 ?_
        refine va_getN (D := D) (ci := 1) (C := RX1) (T := TX1) (N := 12) hx hb htb inX1 hown hK hP 1 (xw_1 c q σ) rfl 6 (by decide) (htb _ tb_151) (fun _ h9 => h9) rfl dX7_count_64 ?_
        exact vx_ret (W.widen (k := 1) (n := 6) (Nat.le_of_ble_eq_true rfl) (Nat.le_of_ble_eq_true rfl) (W.iret hx hb hr (fun t ht hW => ⟨⟨_, σ, rfl, hw, by unfold wdB; rw [ht]; exact hP⟩, hS.F ht⟩) hS.2.2 dX7_count_67))
      · have hw := hw.2 c3
        by_cases c4 : x1 = (3 : Int32)
        · have hw := hw.1 c4
          refine lv_tableIn (off := 67) (tgt := 68) hx hb dX7_count_1 (by rw [c4]; decide) (by rw [c4]; decide) (by rw [c4]; rfl) (by decide) ?_
          refine lv_aload_n hx hb dX7_count_68 rfl (lv_at hl 0 rfl) ?_
          refine va_get (D := D) (ci := 7) (C := RX7) (T := TX7) (N := 9) hx hb htb inX7 hown hK hP 0 (xw_0 c q σ) rfl 0 (by decide) (htb _ tb_342) (fun _ h9 => h9) rfl dX7_count_69 ?_
          refine va_getN (D := D) (ci := 1) (C := RX1) (T := TX1) (N := 12) hx hb htb inX1 hown hK hP 1 (xw_1 c q σ) rfl 3 (by decide) (htb _ tb_142) (fun _ h9 => h9) rfl dX7_count_72 ?_
          exact vx_ret (W.widen (k := 1) (n := 6) (Nat.le_of_ble_eq_true rfl) (Nat.le_of_ble_eq_true rfl) (W.iret hx hb hr (fun t ht hW => ⟨⟨_, σ, rfl, hw, by unfold wdB; rw [ht]; exact hP⟩, hS.F ht⟩) hS.2.2 dX7_count_75))
        · have hw := hw.2 c4
          by_cases c5 : x1 = (4 : Int32)
          · have hw := hw.1 c5
            refine lv_tableIn (off := 75) (tgt := 76) hx hb dX7_count_1 (by rw [c5]; decide) (by rw [c5]; decide) (by rw [c5]; rfl) (by decide) ?_
            refine lv_aload_n hx hb dX7_count_76 rfl (lv_at hl 0 rfl) ?_
            refine va_get (D := D) (ci := 7) (C := RX7) (T := TX7) (N := 9) hx hb htb inX7 hown hK hP 0 (xw_0 c q σ) rfl 7 (by decide) (htb _ tb_349) (fun _ h9 => h9) rfl dX7_count_77 ?_
            refine va_getN (D := D) (ci := 0) (C := RX0) (T := TX0) (N := 5) hx hb htb inX0 hown hK hP 30 (xw_30 c q σ) rfl 2 (by decide) (htb _ tb_326) (fun _ h9 => h9) rfl dX7_count_80 ?_
            exact vx_ret (W.widen (k := 1) (n := 6) (Nat.le_of_ble_eq_true rfl) (Nat.le_of_ble_eq_true rfl) (W.iret hx hb hr (fun t ht hW => ⟨⟨_, σ, rfl, hw, by unfold wdB; rw [ht]; exact hP⟩, hS.F ht⟩) hS.2.2 dX7_count_83))
          · have hw := hw.2 c5
            by_cases c6 : x1 = (5 : Int32)
            · have hw := hw.1 c6
              refine lv_tableIn (off := 83) (tgt := 84) hx hb dX7_count_1 (by rw [c6]; decide) (by rw [c6]; decide) (by rw [c6]; rfl) (by decide) ?_
              refine lv_aload_n hx hb dX7_count_84 rfl (lv_at hl 0 rfl) ?_
              refine va_get (D := D) (ci := 7) (C := RX7) (T := TX7) (N := 9) hx hb htb inX7 hown hK hP 0 (xw_0 c q σ) rfl 2 (by decide) (htb _ tb_344) (fun _ h9 => h9) rfl dX7_count_85 ?_
              refine va_getN (D := D) (ci := 3) (C := RX3) (T := TX3) (N := 10) hx hb htb inX3 hown hK hP 11 (xw_11 c q σ) rfl 2 (by decide) (htb _ tb_205) (fun _ h9 => h9) rfl dX7_count_88 ?_
              exact vx_ret (W.widen (k := 1) (n := 6) (Nat.le_of_ble_eq_true rfl) (Nat.le_of_ble_eq_true rfl) (W.iret hx hb hr (fun t ht hW => ⟨⟨_, σ, rfl, hw, by unfold wdB; rw [ht]; exact hP⟩, hS.F ht⟩) hS.2.2 dX7_count_91))
            · have hw := hw.2 c6
              by_cases c7 : x1 = (6 : Int32)
              · have hw := hw.1 c7
                refine lv_tableIn (off := 91) (tgt := 92) hx hb dX7_count_1 (by rw [c7]; decide) (by rw [c7]; decide) (by rw [c7]; rfl) (by decide) ?_
                refine lv_aload_n hx hb dX7_count_92 rfl (lv_at hl 0 rfl) ?_
                refine va_get (D := D) (ci := 7) (C := RX7) (T := TX7) (N := 9) hx hb htb inX7 hown hK hP 0 (xw_0 c q σ) rfl 0 (by decide) (htb _ tb_342) (fun _ h9 => h9) rfl dX7_count_93 ?_
                refine va_getN (D := D) (ci := 1) (C := RX1) (T := TX1) (N := 12) hx hb htb inX1 hown hK hP 1 (xw_1 c q σ) rfl 2 (by decide) (htb _ tb_139) (fun _ h9 => h9) rfl dX7_count_96 ?_
                exact vx_ret (W.widen (k := 1) (n := 6) (Nat.le_of_ble_eq_true rfl) (Nat.le_of_ble_eq_true rfl) (W.iret hx hb hr (fun t ht hW => ⟨⟨_, σ, rfl, hw, by unfold wdB; rw [ht]; exact hP⟩, hS.F ht⟩) hS.2.2 dX7_count_99))
              · have hw := hw.2 c7
                have hz : ¬ (x1).toInt = 0 ∧ ¬ (x1).toInt = 1 ∧ ¬ (x1).toInt = 2 ∧ ¬ (x1).toInt = 3 ∧ ¬ (x1).toInt = 4 ∧ ¬ (x1).toInt = 5 ∧ ¬ (x1).toInt = 6 := by
                  exact ⟨lv_neT (a := 0) c1 rfl, lv_neT (a := 1) c2 rfl, lv_neT (a := 2) c3 rfl, lv_neT (a := 3) c4 rfl, lv_neT (a := 4) c5 rfl, lv_neT (a := 5) c6 rfl, lv_neT (a := 6) c7 rfl⟩
                refine lv_tableOut (tgt := 100) hx hb dX7_count_1 (by omega) (by decide) ?_
                obtain ⟨hU9, hN9, hF9, hR9⟩ := hX s s.heap hE
                obtain ⟨sa9, hsa9⟩ := hR9 (128, "no such count") (by decide)
                exact xt_throwS hx hb hst (own := "StrikeHall") (cls := "java/util/NoSuchElementException") (text := "no such count") (names := ["java/lang/Exception"]) (ix := 13) (rx := xt_rx) (Yc := "java/lang/RuntimeException") hown (by decide) (by decide) (by decide +kernel) (by decide +kernel) (by decide +kernel) (by decide +kernel) (by decide) (htb _ tb_883) (htb _ tb_111) hsa9 (hat_NSE htb hF9) hot_NSE hU9 hN9 hS (hl.1.trans hml.symm) dX7_count_100 dX7_count_103 dX7_count_104 dX7_count_106 dX7_count_109 (fun x h => (htab x h).elim) (Nat.le_of_ble_eq_true rfl) (Nat.le_of_ble_eq_true rfl) (Nat.le_of_ble_eq_true rfl) (Nat.le_of_ble_eq_true rfl) hlocks (fun t hvm hsz hk => ⟨σ, hw, ⟨rfl, wd_grow hP hk⟩, wd_F hS hsz hk⟩) hS.2.2 (Nat.le_of_ble_eq_true rfl) (Nat.le_of_ble_eq_true rfl)
def wX7_needPerson (x1 : Int32) (post : hsS → Prop) (px : hsS → Prop) (σ : hsS) : Prop := ((x1 < (0 : Int32) → px σ) ∧ (¬ x1 < (0 : Int32) → ((x1 < (σ.1 65) → post σ) ∧ (¬ x1 < (σ.1 65) → px σ))))
set_option maxHeartbeats 4000000 in
set_option maxRecDepth 100000 in
theorem kcX7_needPerson (l : Launch) (D : va_G) (c : Nat → ClassId) (q : Nat → Nat) (ev : State → Heap → Prop) (hev : evOK (wdA 36 q) ev) (hst : l.stackTraces = false) (hX : ∀ (U : State) (H : Heap), ev U H → evT (wdA 36 q) U H) (σ : hsS) (x1 : Int32) (post : hsS → Prop) (px : hsS → Prop) (hw : wX7_needPerson x1 post px σ) : vx_Met l yX7_needPerson (Cond.code yX7_needPerson cX7_needPerson 2 none :: tb_L) { frames := 8, cells := 1, slots := 6, locals := 128 } (wdPc D (xw c q) (xwT c) (wdA 36 q) ev σ [.ref (q 0), .int x1]) (va_Qv post (wdB D (xw c q)) (wdA 36 q)) (vx_X px (xpB D (xw c q) "java/util/NoSuchElementException") (wdA 36 q)) 1 6 (wdA 36 q) := by
  refine vx_ofW (cc := cX7_needPerson) (maxL := 2) (ret := none) (by decide) rfl ?_
  intro p e s m args below meth c₀ s₁ Bd hml htab hv
  obtain ⟨rfl, hP, hK, hD0, hE⟩ := hv
  have hx := Bd.exec
  have hb := Bd.bytes
  have hr := Bd.returns
  have hts := atoms_spec (ws := Cond.code yX7_needPerson cX7_needPerson 2 none :: tb_L) Bd.pre
  have htb : ∀ w ∈ tb_L, w.before [.ref (q 0), .int x1].toArray s = true := fun w h => hts w (List.mem_cons_of_mem _ h)
  have hown : s.vm.findClass RX7 = some m.cls := findClass_of_methodNamed Bd.named
  have hlocks := Bd.notSynchronized
  have hS : va_S (wdA 36 q) s.heap s.heap [] := va_S.rf
  have hD := hD0
  have hl := lv_entry ([.ref (q 0), .int x1]) (n := 2) (Nat.le_of_ble_eq_true rfl)
  rw [lg_entry_eq]
  generalize (lg_sl ([.ref (q 0), .int x1]) ++ List.replicate (2 - (lg_sl ([.ref (q 0), .int x1])).length) Slot.unset).toArray = ls at hl ⊢
  have hl : lv_has ls 2 [(0, .ref (q 0)), (1, .int x1)] := hl
  unfold wX7_needPerson at hw
  refine lv_iload_n hx hb dX7_needPerson_0 rfl (lv_at hl 1 rfl) ?_
  refine lv_if_lt (tgt := 15) hx hb dX7_needPerson_1 (by decide) (fun c1 => ?_) (fun c1 => ?_)
  · have hw := hw.1 c1
    obtain ⟨hU9, hN9, hF9, hR9⟩ := hX s s.heap hE
    obtain ⟨sa9, hsa9⟩ := hR9 (341, "no such one of people") (by decide)
    exact xt_throwSW hx hb hst (own := "StrikeHall") (cls := "java/util/NoSuchElementException") (text := "no such one of people") (names := ["java/lang/Exception"]) (ix := 13) (rx := xt_rx) (Yc := "java/lang/RuntimeException") hown (by decide) (by decide) (by decide +kernel) (by decide +kernel) (by decide +kernel) (by decide +kernel) (by decide) (htb _ tb_883) (htb _ tb_111) hsa9 (hat_NSE htb hF9) hot_NSE hU9 hN9 hS (hl.1.trans hml.symm) dX7_needPerson_15 dX7_needPerson_18 dX7_needPerson_19 dX7_needPerson_22 dX7_needPerson_25 (fun x h => (htab x h).elim) (Nat.le_of_ble_eq_true rfl) (Nat.le_of_ble_eq_true rfl) (Nat.le_of_ble_eq_true rfl) (Nat.le_of_ble_eq_true rfl) hlocks (fun t hvm hsz hk => ⟨σ, hw, ⟨rfl, wd_grow hP hk⟩, wd_F hS hsz hk⟩) hS.2.2 (Nat.le_of_ble_eq_true rfl) (Nat.le_of_ble_eq_true rfl)
  · have hw := hw.2 c1
    refine lv_iload_n hx hb dX7_needPerson_4 rfl (lv_at hl 1 rfl) ?_
    refine lv_aload_n hx hb dX7_needPerson_5 rfl (lv_at hl 0 rfl) ?_
    refine va_get (D := D) (ci := 7) (C := RX7) (T := TX7) (N := 9) hx hb htb inX7 hown hK hP 0 (xw_0 c q σ) rfl 0 (by decide) (htb _ tb_342) (fun _ h9 => h9) rfl dX7_needPerson_6 ?_
    refine va_getN (D := D) (ci := 1) (C := RX1) (T := TX1) (N := 12) hx hb htb inX1 hown hK hP 1 (xw_1 c q σ) rfl 1 (by decide) (htb _ tb_136) (fun _ h9 => h9) rfl dX7_needPerson_9 ?_
    refine lv_icmp_lt (tgt := 26) hx hb dX7_needPerson_12 (by decide) (fun c2 => ?_) (fun c2 => ?_)
    · have hw := hw.1 c2
      exact vx_ret (W.widen (k := 1) (n := 6) (Nat.le_of_ble_eq_true rfl) (Nat.le_of_ble_eq_true rfl) (W.vret hx hb hr (fun t ht hW => ⟨⟨σ, rfl, hw, by unfold wdB; rw [ht]; exact hP⟩, hS.F ht⟩) hS.2.2 dX7_needPerson_26))
    · have hw := hw.2 c2
      obtain ⟨hU9, hN9, hF9, hR9⟩ := hX s s.heap hE
      obtain ⟨sa9, hsa9⟩ := hR9 (341, "no such one of people") (by decide)
      exact xt_throwSW hx hb hst (own := "StrikeHall") (cls := "java/util/NoSuchElementException") (text := "no such one of people") (names := ["java/lang/Exception"]) (ix := 13) (rx := xt_rx) (Yc := "java/lang/RuntimeException") hown (by decide) (by decide) (by decide +kernel) (by decide +kernel) (by decide +kernel) (by decide +kernel) (by decide) (htb _ tb_883) (htb _ tb_111) hsa9 (hat_NSE htb hF9) hot_NSE hU9 hN9 hS (hl.1.trans hml.symm) dX7_needPerson_15 dX7_needPerson_18 dX7_needPerson_19 dX7_needPerson_22 dX7_needPerson_25 (fun x h => (htab x h).elim) (Nat.le_of_ble_eq_true rfl) (Nat.le_of_ble_eq_true rfl) (Nat.le_of_ble_eq_true rfl) (Nat.le_of_ble_eq_true rfl) hlocks (fun t hvm hsz hk => ⟨σ, hw, ⟨rfl, wd_grow hP hk⟩, wd_F hS hsz hk⟩) hS.2.2 (Nat.le_of_ble_eq_true rfl) (Nat.le_of_ble_eq_true rfl)
def wX7_needThing (x1 : Int32) (post : hsS → Prop) (px : hsS → Prop) (σ : hsS) : Prop := ((x1 < (0 : Int32) → px σ) ∧ (¬ x1 < (0 : Int32) → ((x1 < (σ.1 64) → post σ) ∧ (¬ x1 < (σ.1 64) → px σ))))
set_option maxHeartbeats 4000000 in
set_option maxRecDepth 100000 in
theorem kcX7_needThing (l : Launch) (D : va_G) (c : Nat → ClassId) (q : Nat → Nat) (ev : State → Heap → Prop) (hev : evOK (wdA 36 q) ev) (hst : l.stackTraces = false) (hX : ∀ (U : State) (H : Heap), ev U H → evT (wdA 36 q) U H) (σ : hsS) (x1 : Int32) (post : hsS → Prop) (px : hsS → Prop) (hw : wX7_needThing x1 post px σ) : vx_Met l yX7_needThing (Cond.code yX7_needThing cX7_needThing 2 none :: tb_L) { frames := 8, cells := 1, slots := 6, locals := 128 } (wdPc D (xw c q) (xwT c) (wdA 36 q) ev σ [.ref (q 0), .int x1]) (va_Qv post (wdB D (xw c q)) (wdA 36 q)) (vx_X px (xpB D (xw c q) "java/util/NoSuchElementException") (wdA 36 q)) 1 6 (wdA 36 q) := by
  refine vx_ofW (cc := cX7_needThing) (maxL := 2) (ret := none) (by decide) rfl ?_
  intro p e s m args below meth c₀ s₁ Bd hml htab hv
  obtain ⟨rfl, hP, hK, hD0, hE⟩ := hv
  have hx := Bd.exec
  have hb := Bd.bytes
  have hr := Bd.returns
  have hts := atoms_spec (ws := Cond.code yX7_needThing cX7_needThing 2 none :: tb_L) Bd.pre
  have htb : ∀ w ∈ tb_L, w.before [.ref (q 0), .int x1].toArray s = true := fun w h => hts w (List.mem_cons_of_mem _ h)
  have hown : s.vm.findClass RX7 = some m.cls := findClass_of_methodNamed Bd.named
  have hlocks := Bd.notSynchronized
  have hS : va_S (wdA 36 q) s.heap s.heap [] := va_S.rf
  have hD := hD0
  have hl := lv_entry ([.ref (q 0), .int x1]) (n := 2) (Nat.le_of_ble_eq_true rfl)
  rw [lg_entry_eq]
  generalize (lg_sl ([.ref (q 0), .int x1]) ++ List.replicate (2 - (lg_sl ([.ref (q 0), .int x1])).length) Slot.unset).toArray = ls at hl ⊢
  have hl : lv_has ls 2 [(0, .ref (q 0)), (1, .int x1)] := hl
  unfold wX7_needThing at hw
  refine lv_iload_n hx hb dX7_needThing_0 rfl (lv_at hl 1 rfl) ?_
  refine lv_if_lt (tgt := 15) hx hb dX7_needThing_1 (by decide) (fun c1 => ?_) (fun c1 => ?_)
  · have hw := hw.1 c1
    obtain ⟨hU9, hN9, hF9, hR9⟩ := hX s s.heap hE
    obtain ⟨sa9, hsa9⟩ := hR9 (339, "no such thing") (by decide)
    exact xt_throwSW hx hb hst (own := "StrikeHall") (cls := "java/util/NoSuchElementException") (text := "no such thing") (names := ["java/lang/Exception"]) (ix := 13) (rx := xt_rx) (Yc := "java/lang/RuntimeException") hown (by decide) (by decide) (by decide +kernel) (by decide +kernel) (by decide +kernel) (by decide +kernel) (by decide) (htb _ tb_883) (htb _ tb_111) hsa9 (hat_NSE htb hF9) hot_NSE hU9 hN9 hS (hl.1.trans hml.symm) dX7_needThing_15 dX7_needThing_18 dX7_needThing_19 dX7_needThing_22 dX7_needThing_25 (fun x h => (htab x h).elim) (Nat.le_of_ble_eq_true rfl) (Nat.le_of_ble_eq_true rfl) (Nat.le_of_ble_eq_true rfl) (Nat.le_of_ble_eq_true rfl) hlocks (fun t hvm hsz hk => ⟨σ, hw, ⟨rfl, wd_grow hP hk⟩, wd_F hS hsz hk⟩) hS.2.2 (Nat.le_of_ble_eq_true rfl) (Nat.le_of_ble_eq_true rfl)
  · have hw := hw.2 c1
    refine lv_iload_n hx hb dX7_needThing_4 rfl (lv_at hl 1 rfl) ?_
    refine lv_aload_n hx hb dX7_needThing_5 rfl (lv_at hl 0 rfl) ?_
    refine va_get (D := D) (ci := 7) (C := RX7) (T := TX7) (N := 9) hx hb htb inX7 hown hK hP 0 (xw_0 c q σ) rfl 0 (by decide) (htb _ tb_342) (fun _ h9 => h9) rfl dX7_needThing_6 ?_
    refine va_getN (D := D) (ci := 1) (C := RX1) (T := TX1) (N := 12) hx hb htb inX1 hown hK hP 1 (xw_1 c q σ) rfl 0 (by decide) (htb _ tb_130) (fun _ h9 => h9) rfl dX7_needThing_9 ?_
    refine lv_icmp_lt (tgt := 26) hx hb dX7_needThing_12 (by decide) (fun c2 => ?_) (fun c2 => ?_)
    · have hw := hw.1 c2
      exact vx_ret (W.widen (k := 1) (n := 6) (Nat.le_of_ble_eq_true rfl) (Nat.le_of_ble_eq_true rfl) (W.vret hx hb hr (fun t ht hW => ⟨⟨σ, rfl, hw, by unfold wdB; rw [ht]; exact hP⟩, hS.F ht⟩) hS.2.2 dX7_needThing_26))
    · have hw := hw.2 c2
      obtain ⟨hU9, hN9, hF9, hR9⟩ := hX s s.heap hE
      obtain ⟨sa9, hsa9⟩ := hR9 (339, "no such thing") (by decide)
      exact xt_throwSW hx hb hst (own := "StrikeHall") (cls := "java/util/NoSuchElementException") (text := "no such thing") (names := ["java/lang/Exception"]) (ix := 13) (rx := xt_rx) (Yc := "java/lang/RuntimeException") hown (by decide) (by decide) (by decide +kernel) (by decide +kernel) (by decide +kernel) (by decide +kernel) (by decide) (htb _ tb_883) (htb _ tb_111) hsa9 (hat_NSE htb hF9) hot_NSE hU9 hN9 hS (hl.1.trans hml.symm) dX7_needThing_15 dX7_needThing_18 dX7_needThing_19 dX7_needThing_22 dX7_needThing_25 (fun x h => (htab x h).elim) (Nat.le_of_ble_eq_true rfl) (Nat.le_of_ble_eq_true rfl) (Nat.le_of_ble_eq_true rfl) (Nat.le_of_ble_eq_true rfl) hlocks (fun t hvm hsz hk => ⟨σ, hw, ⟨rfl, wd_grow hP hk⟩, wd_F hS hsz hk⟩) hS.2.2 (Nat.le_of_ble_eq_true rfl) (Nat.le_of_ble_eq_true rfl)
def wX1_placeOf (b0 : Nat) (x1 : Int32) (x2 : Int32) (post : Int32 → hsS → Prop) (σ : hsS) : Prop := vp_in ((x1 * (9 : Int32)) + x2) 72 ∧ post (σ.2.1 (b0 + 2) ((x1 * (9 : Int32)) + x2).toNatClampNeg) σ
set_option maxHeartbeats 4000000 in
set_option maxRecDepth 100000 in
theorem kcX1_placeOf_1 (l : Launch) (D : va_G) (c : Nat → ClassId) (q : Nat → Nat) (ev : State → Heap → Prop) (hev : evOK (wdA 36 q) ev) (σ : hsS) (x1 : Int32) (x2 : Int32) (post : Int32 → hsS → Prop) (hw : wX1_placeOf 1 x1 x2 post σ) : Met l yX1_placeOf (Cond.code yX1_placeOf cX1_placeOf 3 (some .int) :: tb_L) { frames := 0, cells := 0, slots := 0, locals := 0 } (wdPc D (xw c q) (xwT c) (wdA 36 q) ev σ [.ref (q 1), .int x1, .int x2]) (va_Qi post (wdB D (xw c q)) (wdA 36 q)) 0 0 (wdA 36 q) := by
  refine Met.ofW (cc := cX1_placeOf) (maxL := 3) (ret := (some .int)) (by decide) rfl ?_
  intro p e s m args below meth c₀ s₁ Bd hml hv
  obtain ⟨rfl, hP, hK, hD0, hE⟩ := hv
  have hx := Bd.exec
  have hb := Bd.bytes
  have hr := Bd.returns
  have hts := atoms_spec (ws := Cond.code yX1_placeOf cX1_placeOf 3 (some .int) :: tb_L) Bd.pre
  have htb : ∀ w ∈ tb_L, w.before [.ref (q 1), .int x1, .int x2].toArray s = true := fun w h => hts w (List.mem_cons_of_mem _ h)
  have hown : s.vm.findClass RX1 = some m.cls := findClass_of_methodNamed Bd.named
  have hlocks := Bd.notSynchronized
  have hS : va_S (wdA 36 q) s.heap s.heap [] := va_S.rf
  have hD := hD0
  have hl := lv_entry ([.ref (q 1), .int x1, .int x2]) (n := 3) (Nat.le_of_ble_eq_true rfl)
  rw [lg_entry_eq]
  generalize (lg_sl ([.ref (q 1), .int x1, .int x2]) ++ List.replicate (3 - (lg_sl ([.ref (q 1), .int x1, .int x2])).length) Slot.unset).toArray = ls at hl ⊢
  have hl : lv_has ls 3 [(0, .ref (q 1)), (1, .int x1), (2, .int x2)] := hl
  unfold wX1_placeOf at hw
  refine lv_aload_n hx hb dX1_placeOf_0 rfl (lv_at hl 0 rfl) ?_
  refine va_get (D := D) (ci := 1) (C := RX1) (T := TX1) (N := 12) hx hb htb inX1 hown hK hP 1 (xw_1 c q σ) rfl 9 (by decide) (htb _ tb_158) (fun _ h9 => h9) rfl dX1_placeOf_1 ?_
  refine lv_iload_n hx hb dX1_placeOf_4 rfl (lv_at hl 1 rfl) ?_
  refine lv_bipush (v := (9 : Int32)) hx hb dX1_placeOf_5 (by decide) ?_
  refine lv_imul hx hb dX1_placeOf_7 ?_
  refine lv_iload_n hx hb dX1_placeOf_8 rfl (lv_at hl 2 rfl) ?_
  refine lv_iadd hx hb dX1_placeOf_9 ?_
  refine va_iald hx hb hK hP 3 1 (xw_3 c q σ) rfl hw.1 dX1_placeOf_10 ?_
  have hw := hw.2
  exact W.iret hx hb hr (fun t ht hW => ⟨⟨_, σ, rfl, hw, by unfold wdB; rw [ht]; exact hP⟩, hS.F ht⟩) hS.2.2 dX1_placeOf_11
def wX7_place (x1 : Int32) (x2 : Int32) (post : Int32 → hsS → Prop) (px : hsS → Prop) (σ : hsS) : Prop := wX7_needPerson x1 (fun σ2 => wX7_needThing x2 (fun σ4 => wX1_placeOf 1 x1 x2 (fun r5 σ6 => post r5 σ6) σ4) px σ2) px σ
set_option maxHeartbeats 4000000 in
set_option maxRecDepth 100000 in
theorem kcX7_place (l : Launch) (D : va_G) (c : Nat → ClassId) (q : Nat → Nat) (ev : State → Heap → Prop) (hev : evOK (wdA 36 q) ev) (hst : l.stackTraces = false) (hX : ∀ (U : State) (H : Heap), ev U H → evT (wdA 36 q) U H) (σ : hsS) (x1 : Int32) (x2 : Int32) (post : Int32 → hsS → Prop) (px : hsS → Prop) (hw : wX7_place x1 x2 post px σ) : vx_Met l yX7_place (Cond.code yX7_place cX7_place 3 (some .int) :: tb_L) { frames := 9, cells := 2, slots := 12, locals := 149 } (wdPc D (xw c q) (xwT c) (wdA 36 q) ev σ [.ref (q 0), .int x1, .int x2]) (va_Qi post (wdB D (xw c q)) (wdA 36 q)) (vx_X px (xpB D (xw c q) "java/util/NoSuchElementException") (wdA 36 q)) 2 12 (wdA 36 q) := by
  refine vx_ofW (cc := cX7_place) (maxL := 3) (ret := (some .int)) (by decide) rfl ?_
  intro p e s m args below meth c₀ s₁ Bd hml htab hv
  obtain ⟨rfl, hP, hK, hD0, hE⟩ := hv
  have hx := Bd.exec
  have hb := Bd.bytes
  have hr := Bd.returns
  have hts := atoms_spec (ws := Cond.code yX7_place cX7_place 3 (some .int) :: tb_L) Bd.pre
  have htb : ∀ w ∈ tb_L, w.before [.ref (q 0), .int x1, .int x2].toArray s = true := fun w h => hts w (List.mem_cons_of_mem _ h)
  have hown : s.vm.findClass RX7 = some m.cls := findClass_of_methodNamed Bd.named
  have hlocks := Bd.notSynchronized
  have hS : va_S (wdA 36 q) s.heap s.heap [] := va_S.rf
  have hD := hD0
  have hl := lv_entry ([.ref (q 0), .int x1, .int x2]) (n := 3) (Nat.le_of_ble_eq_true rfl)
  rw [lg_entry_eq]
  generalize (lg_sl ([.ref (q 0), .int x1, .int x2]) ++ List.replicate (3 - (lg_sl ([.ref (q 0), .int x1, .int x2])).length) Slot.unset).toArray = ls at hl ⊢
  have hl : lv_has ls 3 [(0, .ref (q 0)), (1, .int x1), (2, .int x2)] := hl
  unfold wX7_place at hw
  refine lv_aload_n hx hb dX7_place_0 rfl (lv_at hl 0 rfl) ?_
  refine lv_iload_n hx hb dX7_place_1 rfl (lv_at hl 1 rfl) ?_
  refine vx_callv (vx_runV (As := [.int x1]) (rest := []) ⟨hx, hb, hml, hown, htb⟩ (kcX7_needPerson l D c q ev hev hst hX σ x1 _ px hw) (tb_CW htb kX7_needPerson tb_906 tb_908 tb_32 ⟨Nat.le_of_ble_eq_true rfl, Nat.le_of_ble_eq_true rfl⟩) (wd_preV (wd := xw c q) (k := 0) hev hK hP hD hE hS (xw_0 c q σ) rfl) rfl rfl hl.1 rfl (lv_room (Nat.le_of_ble_eq_true rfl)) dX7_place_2 ⟨Nat.le_of_ble_eq_true rfl, Nat.le_of_ble_eq_true rfl⟩) hS (fun q _ h => h) (fun q h => h) (fun q _ h => h) (fun E9 ce9 q9 σx t H1 locs1 ht hvm hpx hBX hz1 hk1 hS hce hcv hcl => vx_out (fun x h => (htab x h).elim) hlocks hce hcv hcl (fun t2 ht2 _ => ⟨σx, hpx, ⟨hBX.1, by rw [ht2, ← ht]; exact hBX.2⟩, hS.F ht2⟩) hS.2.2 (Nat.le_of_ble_eq_true rfl) (Nat.le_of_ble_eq_true rfl)) (fun σ2 t H1 locs1 ht hvm hw hB hz1 hk1 hS => ?_)
  have hP : va_P D vwCl (xw c q σ2) H1 := ht ▸ hB
  have hD : va_D (wdA 36 q) (xw c q σ2) := xw_D hD0
  refine lv_aload_n hx hb dX7_place_5 rfl (lv_at hl 0 rfl) ?_
  refine lv_iload_n hx hb dX7_place_6 rfl (lv_at hl 2 rfl) ?_
  refine vx_callv (vx_runV (As := [.int x2]) (rest := []) ⟨hx, hb, hml, hown, htb⟩ (kcX7_needThing l D c q ev hev hst hX σ2 x2 _ px hw) (tb_CW htb kX7_needThing tb_911 tb_913 tb_33 ⟨Nat.le_of_ble_eq_true rfl, Nat.le_of_ble_eq_true rfl⟩) (wd_preV (wd := xw c q) (k := 0) hev hK hP hD hE hS (xw_0 c q σ2) rfl) rfl rfl hl.1 rfl (lv_room (Nat.le_of_ble_eq_true rfl)) dX7_place_7 ⟨Nat.le_of_ble_eq_true rfl, Nat.le_of_ble_eq_true rfl⟩) hS (fun q _ h => h) (fun q h => h) (fun q _ h => h) (fun E9 ce9 q9 σx t H1 locs1 ht hvm hpx hBX hz1 hk1 hS hce hcv hcl => vx_out (fun x h => (htab x h).elim) hlocks hce hcv hcl (fun t2 ht2 _ => ⟨σx, hpx, ⟨hBX.1, by rw [ht2, ← ht]; exact hBX.2⟩, hS.F ht2⟩) hS.2.2 (Nat.le_of_ble_eq_true rfl) (Nat.le_of_ble_eq_true rfl)) (fun σ4 t H1 locs1 ht hvm hw hB hz1 hk1 hS => ?_)
  have hP : va_P D vwCl (xw c q σ4) H1 := ht ▸ hB
  have hD : va_D (wdA 36 q) (xw c q σ4) := xw_D hD0
  refine lv_aload_n hx hb dX7_place_10 rfl (lv_at hl 0 rfl) ?_
  refine va_get (D := D) (ci := 7) (C := RX7) (T := TX7) (N := 9) hx hb htb inX7 hown hK hP 0 (xw_0 c q σ4) rfl 0 (by decide) (htb _ tb_342) (fun _ h9 => h9) rfl dX7_place_11 ?_
  refine lv_iload_n hx hb dX7_place_14 rfl (lv_at hl 1 rfl) ?_
  refine lv_iload_n hx hb dX7_place_15 rfl (lv_at hl 2 rfl) ?_
  refine va_calli (va_runV (As := [.int x1, .int x2]) (rest := []) ⟨hx, hb, hml, hown, htb⟩ (kcX1_placeOf_1 l D c q ev hev σ4 x1 x2 _ hw) (tb_CW htb kX1_placeOf tb_916 tb_446 tb_447 ⟨Nat.le_of_ble_eq_true rfl, Nat.le_of_ble_eq_true rfl⟩) (wd_preV (wd := xw c q) (k := 1) hev hK hP hD hE hS (xw_1 c q σ4) rfl) rfl rfl hl.1 rfl (lv_room (Nat.le_of_ble_eq_true rfl)) dX7_place_16 ⟨Nat.le_of_ble_eq_true rfl, Nat.le_of_ble_eq_true rfl⟩) hS (fun q _ h => h) (fun q h => h) (fun r5 σ6 t H1 locs1 ht hvm hw hB hz1 hk1 hS => ?_)
  have hP : va_P D vwCl (xw c q σ6) H1 := ht ▸ hB
  have hD : va_D (wdA 36 q) (xw c q σ6) := xw_D hD0
  exact vx_ret (W.widen (k := 2) (n := 12) (Nat.le_of_ble_eq_true rfl) (Nat.le_of_ble_eq_true rfl) (W.iret hx hb hr (fun t ht hW => ⟨⟨_, σ6, rfl, hw, by unfold wdB; rw [ht]; exact hP⟩, hS.F ht⟩) hS.2.2 dX7_place_19))
def wX7_turn (x1 : Int32) (post : Int32 → hsS → Prop) (px : hsS → Prop) (σ : hsS) : Prop := ((x1 < (0 : Int32) → px σ) ∧ (¬ x1 < (0 : Int32) → ((x1 < (σ.1 70) → vp_in x1 8 ∧ post (σ.2.1 5 x1.toNatClampNeg) σ) ∧ (¬ x1 < (σ.1 70) → px σ))))
set_option maxHeartbeats 4000000 in
set_option maxRecDepth 100000 in
theorem kcX7_turn (l : Launch) (D : va_G) (c : Nat → ClassId) (q : Nat → Nat) (ev : State → Heap → Prop) (hev : evOK (wdA 36 q) ev) (hst : l.stackTraces = false) (hX : ∀ (U : State) (H : Heap), ev U H → evT (wdA 36 q) U H) (σ : hsS) (x1 : Int32) (post : Int32 → hsS → Prop) (px : hsS → Prop) (hw : wX7_turn x1 post px σ) : vx_Met l yX7_turn (Cond.code yX7_turn cX7_turn 2 (some .int) :: tb_L) { frames := 8, cells := 1, slots := 6, locals := 128 } (wdPc D (xw c q) (xwT c) (wdA 36 q) ev σ [.ref (q 0), .int x1]) (va_Qi post (wdB D (xw c q)) (wdA 36 q)) (vx_X px (xpB D (xw c q) "java/util/NoSuchElementException") (wdA 36 q)) 1 6 (wdA 36 q) := by
  refine vx_ofW (cc := cX7_turn) (maxL := 2) (ret := (some .int)) (by decide) rfl ?_
  intro p e s m args below meth c₀ s₁ Bd hml htab hv
  obtain ⟨rfl, hP, hK, hD0, hE⟩ := hv
  have hx := Bd.exec
  have hb := Bd.bytes
  have hr := Bd.returns
  have hts := atoms_spec (ws := Cond.code yX7_turn cX7_turn 2 (some .int) :: tb_L) Bd.pre
  have htb : ∀ w ∈ tb_L, w.before [.ref (q 0), .int x1].toArray s = true := fun w h => hts w (List.mem_cons_of_mem _ h)
  have hown : s.vm.findClass RX7 = some m.cls := findClass_of_methodNamed Bd.named
  have hlocks := Bd.notSynchronized
  have hS : va_S (wdA 36 q) s.heap s.heap [] := va_S.rf
  have hD := hD0
  have hl := lv_entry ([.ref (q 0), .int x1]) (n := 2) (Nat.le_of_ble_eq_true rfl)
  rw [lg_entry_eq]
  generalize (lg_sl ([.ref (q 0), .int x1]) ++ List.replicate (2 - (lg_sl ([.ref (q 0), .int x1])).length) Slot.unset).toArray = ls at hl ⊢
  have hl : lv_has ls 2 [(0, .ref (q 0)), (1, .int x1)] := hl
  unfold wX7_turn at hw
  refine lv_iload_n hx hb dX7_turn_0 rfl (lv_at hl 1 rfl) ?_
  refine lv_if_lt (tgt := 15) hx hb dX7_turn_1 (by decide) (fun c1 => ?_) (fun c1 => ?_)
  · have hw := hw.1 c1
    obtain ⟨hU9, hN9, hF9, hR9⟩ := hX s s.heap hE
    obtain ⟨sa9, hsa9⟩ := hR9 (141, "no such turn") (by decide)
    exact xt_throwS hx hb hst (own := "StrikeHall") (cls := "java/util/NoSuchElementException") (text := "no such turn") (names := ["java/lang/Exception"]) (ix := 13) (rx := xt_rx) (Yc := "java/lang/RuntimeException") hown (by decide) (by decide) (by decide +kernel) (by decide +kernel) (by decide +kernel) (by decide +kernel) (by decide) (htb _ tb_883) (htb _ tb_111) hsa9 (hat_NSE htb hF9) hot_NSE hU9 hN9 hS (hl.1.trans hml.symm) dX7_turn_15 dX7_turn_18 dX7_turn_19 dX7_turn_21 dX7_turn_24 (fun x h => (htab x h).elim) (Nat.le_of_ble_eq_true rfl) (Nat.le_of_ble_eq_true rfl) (Nat.le_of_ble_eq_true rfl) (Nat.le_of_ble_eq_true rfl) hlocks (fun t hvm hsz hk => ⟨σ, hw, ⟨rfl, wd_grow hP hk⟩, wd_F hS hsz hk⟩) hS.2.2 (Nat.le_of_ble_eq_true rfl) (Nat.le_of_ble_eq_true rfl)
  · have hw := hw.2 c1
    refine lv_iload_n hx hb dX7_turn_4 rfl (lv_at hl 1 rfl) ?_
    refine lv_aload_n hx hb dX7_turn_5 rfl (lv_at hl 0 rfl) ?_
    refine va_get (D := D) (ci := 7) (C := RX7) (T := TX7) (N := 9) hx hb htb inX7 hown hK hP 0 (xw_0 c q σ) rfl 0 (by decide) (htb _ tb_342) (fun _ h9 => h9) rfl dX7_turn_6 ?_
    refine va_getN (D := D) (ci := 1) (C := RX1) (T := TX1) (N := 12) hx hb htb inX1 hown hK hP 1 (xw_1 c q σ) rfl 6 (by decide) (htb _ tb_151) (fun _ h9 => h9) rfl dX7_turn_9 ?_
    refine lv_icmp_lt (tgt := 25) hx hb dX7_turn_12 (by decide) (fun c2 => ?_) (fun c2 => ?_)
    · have hw := hw.1 c2
      refine lv_aload_n hx hb dX7_turn_25 rfl (lv_at hl 0 rfl) ?_
      refine va_get (D := D) (ci := 7) (C := RX7) (T := TX7) (N := 9) hx hb htb inX7 hown hK hP 0 (xw_0 c q σ) rfl 0 (by decide) (htb _ tb_342) (fun _ h9 => h9) rfl dX7_turn_26 ?_
      refine va_getN (D := D) (ci := 1) (C := RX1) (T := TX1) (N := 12) hx hb htb inX1 hown hK hP 1 (xw_1 c q σ) rfl 11 (by decide) (htb _ tb_165) (fun _ h9 => h9) rfl dX7_turn_29 ?_
      refine lv_iload_n hx hb dX7_turn_32 rfl (lv_at hl 1 rfl) ?_
      refine va_iald hx hb hK hP 5 3 (xw_5 c q σ) rfl hw.1 dX7_turn_33 ?_
      have hw := hw.2
      exact vx_ret (W.widen (k := 1) (n := 6) (Nat.le_of_ble_eq_true rfl) (Nat.le_of_ble_eq_true rfl) (W.iret hx hb hr (fun t ht hW => ⟨⟨_, σ, rfl, hw, by unfold wdB; rw [ht]; exact hP⟩, hS.F ht⟩) hS.2.2 dX7_turn_34))
    · have hw := hw.2 c2
      obtain ⟨hU9, hN9, hF9, hR9⟩ := hX s s.heap hE
      obtain ⟨sa9, hsa9⟩ := hR9 (141, "no such turn") (by decide)
      exact xt_throwS hx hb hst (own := "StrikeHall") (cls := "java/util/NoSuchElementException") (text := "no such turn") (names := ["java/lang/Exception"]) (ix := 13) (rx := xt_rx) (Yc := "java/lang/RuntimeException") hown (by decide) (by decide) (by decide +kernel) (by decide +kernel) (by decide +kernel) (by decide +kernel) (by decide) (htb _ tb_883) (htb _ tb_111) hsa9 (hat_NSE htb hF9) hot_NSE hU9 hN9 hS (hl.1.trans hml.symm) dX7_turn_15 dX7_turn_18 dX7_turn_19 dX7_turn_21 dX7_turn_24 (fun x h => (htab x h).elim) (Nat.le_of_ble_eq_true rfl) (Nat.le_of_ble_eq_true rfl) (Nat.le_of_ble_eq_true rfl) (Nat.le_of_ble_eq_true rfl) hlocks (fun t hvm hsz hk => ⟨σ, hw, ⟨rfl, wd_grow hP hk⟩, wd_F hS hsz hk⟩) hS.2.2 (Nat.le_of_ble_eq_true rfl) (Nat.le_of_ble_eq_true rfl)
def wX1_allPeople (b0 : Nat) (post : Int32 → hsS → Prop) (σ : hsS) : Prop := post (((1 : Int32) <<< ((σ.1 (64 * b0 + 1)) &&& 31)) - (1 : Int32)) σ
set_option maxHeartbeats 4000000 in
set_option maxRecDepth 100000 in
theorem kcX1_allPeople_1 (l : Launch) (D : va_G) (c : Nat → ClassId) (q : Nat → Nat) (ev : State → Heap → Prop) (hev : evOK (wdA 36 q) ev) (σ : hsS)  (post : Int32 → hsS → Prop) (hw : wX1_allPeople 1 post σ) : Met l yX1_allPeople (Cond.code yX1_allPeople cX1_allPeople 1 (some .int) :: tb_L) { frames := 0, cells := 0, slots := 0, locals := 0 } (wdPc D (xw c q) (xwT c) (wdA 36 q) ev σ [.ref (q 1)]) (va_Qi post (wdB D (xw c q)) (wdA 36 q)) 0 0 (wdA 36 q) := by
  refine Met.ofW (cc := cX1_allPeople) (maxL := 1) (ret := (some .int)) (by decide) rfl ?_
  intro p e s m args below meth c₀ s₁ Bd hml hv
  obtain ⟨rfl, hP, hK, hD0, hE⟩ := hv
  have hx := Bd.exec
  have hb := Bd.bytes
  have hr := Bd.returns
  have hts := atoms_spec (ws := Cond.code yX1_allPeople cX1_allPeople 1 (some .int) :: tb_L) Bd.pre
  have htb : ∀ w ∈ tb_L, w.before [.ref (q 1)].toArray s = true := fun w h => hts w (List.mem_cons_of_mem _ h)
  have hown : s.vm.findClass RX1 = some m.cls := findClass_of_methodNamed Bd.named
  have hlocks := Bd.notSynchronized
  have hS : va_S (wdA 36 q) s.heap s.heap [] := va_S.rf
  have hD := hD0
  have hl := lv_entry ([.ref (q 1)]) (n := 1) (Nat.le_of_ble_eq_true rfl)
  rw [lg_entry_eq]
  generalize (lg_sl ([.ref (q 1)]) ++ List.replicate (1 - (lg_sl ([.ref (q 1)])).length) Slot.unset).toArray = ls at hl ⊢
  have hl : lv_has ls 1 [(0, .ref (q 1))] := hl
  unfold wX1_allPeople at hw
  refine lv_iconst (v := (1 : Int32)) hx hb dX1_allPeople_0 (by decide) ?_
  refine lv_aload_n hx hb dX1_allPeople_1 rfl (lv_at hl 0 rfl) ?_
  refine va_get (D := D) (ci := 1) (C := RX1) (T := TX1) (N := 12) hx hb htb inX1 hown hK hP 1 (xw_1 c q σ) rfl 1 (by decide) (htb _ tb_132) (fun _ h9 => h9) rfl dX1_allPeople_2 ?_
  refine lv_ishl hx hb dX1_allPeople_5 ?_
  refine lv_iconst (v := (1 : Int32)) hx hb dX1_allPeople_6 (by decide) ?_
  refine lv_isub hx hb dX1_allPeople_7 ?_
  exact W.iret hx hb hr (fun t ht hW => ⟨⟨_, σ, rfl, hw, by unfold wdB; rw [ht]; exact hP⟩, hS.F ht⟩) hS.2.2 dX1_allPeople_8
def wX1_weightOf_L4 (b0 : Nat) (z1 : Int32) (K36 : Int32 → Int32 → hsS → Prop) (post : Int32 → hsS → Prop) : Nat → Int32 → Int32 → hsS → Prop
  | 0, _, _, _ => False
  | n + 1, y2, y3, σ => (((σ.1 (64 * b0 + 1)) ≤ y3 → K36 y2 y3 σ) ∧ (¬ (σ.1 (64 * b0 + 1)) ≤ y3 → ((((z1 >>> (y3 &&& 31)) &&& (1 : Int32)) = (1 : Int32) → vp_in y3 8 ∧ ∀ v3 : Int32, v3 = y2 + (σ.2.1 (b0 + 1) y3.toNatClampNeg) → ∀ v4 : Int32, v4 = y3 + (1 : Int32) → wX1_weightOf_L4 b0 z1 K36 post n v3 v4 σ) ∧ (¬ ((z1 >>> (y3 &&& 31)) &&& (1 : Int32)) = (1 : Int32) → ∀ v5 : Int32, v5 = y3 + (1 : Int32) → wX1_weightOf_L4 b0 z1 K36 post n y2 v5 σ))))
def wX1_weightOf (b0 : Nat) (x1 : Int32) (post : Int32 → hsS → Prop) (σ : hsS) : Prop := ∃ n6, wX1_weightOf_L4 b0 x1 (fun v7 v8 σ9 => post v7 σ9) post n6 (0 : Int32) (0 : Int32) σ
set_option maxHeartbeats 4000000 in
set_option maxRecDepth 100000 in
theorem kcX1_weightOf_1 (l : Launch) (D : va_G) (c : Nat → ClassId) (q : Nat → Nat) (ev : State → Heap → Prop) (hev : evOK (wdA 36 q) ev) (σ : hsS) (x1 : Int32) (post : Int32 → hsS → Prop) (hw : wX1_weightOf 1 x1 post σ) : Met l yX1_weightOf (Cond.code yX1_weightOf cX1_weightOf 4 (some .int) :: tb_L) { frames := 0, cells := 0, slots := 0, locals := 0 } (wdPc D (xw c q) (xwT c) (wdA 36 q) ev σ [.ref (q 1), .int x1]) (va_Qi post (wdB D (xw c q)) (wdA 36 q)) 0 0 (wdA 36 q) := by
  refine Met.ofW (cc := cX1_weightOf) (maxL := 4) (ret := (some .int)) (by decide) rfl ?_
  intro p e s m args below meth c₀ s₁ Bd hml hv
  obtain ⟨rfl, hP, hK, hD0, hE⟩ := hv
  have hx := Bd.exec
  have hb := Bd.bytes
  have hr := Bd.returns
  have hts := atoms_spec (ws := Cond.code yX1_weightOf cX1_weightOf 4 (some .int) :: tb_L) Bd.pre
  have htb : ∀ w ∈ tb_L, w.before [.ref (q 1), .int x1].toArray s = true := fun w h => hts w (List.mem_cons_of_mem _ h)
  have hown : s.vm.findClass RX1 = some m.cls := findClass_of_methodNamed Bd.named
  have hlocks := Bd.notSynchronized
  have hS : va_S (wdA 36 q) s.heap s.heap [] := va_S.rf
  have hD := hD0
  have L4 : ∀ (K36 : Int32 → Int32 → hsS → Prop) (z1 : Int32) (n : Nat) (y2 : Int32) (y3 : Int32) (σ : hsS) (H : Heap) (locs : List Loc) (ls : Array Slot), wX1_weightOf_L4 1 z1 K36 post n y2 y3 σ → (∀ (y2 : Int32) (y3 : Int32) (σ : hsS) (H : Heap) (locs : List Loc) (ls : Array Slot), K36 y2 y3 σ → va_P D vwCl (xw c q σ) H → va_S (wdA 36 q) s.heap H locs → lv_has ls 4 [(0, .ref (q 1)), (1, .int z1), (2, .int y2), (3, .int y3)] → W p l e (headSpec (Cond.code yX1_weightOf cX1_weightOf 4 (some .int) :: tb_L) { frames := 0, cells := 0, slots := 0, locals := 0 }).room s m [.ref (q 1), .int x1].toArray below meth c₀ H locs 0 0 (MQ below (va_Qi post (wdB D (xw c q)) (wdA 36 q)) [.ref (q 1), .int x1].toArray s 0 0 (wdA 36 q)) (F0 m 36 ls [])) → va_P D vwCl (xw c q σ) H → va_S (wdA 36 q) s.heap H locs → lv_has ls 4 [(0, .ref (q 1)), (1, .int z1), (2, .int y2), (3, .int y3)] → W p l e (headSpec (Cond.code yX1_weightOf cX1_weightOf 4 (some .int) :: tb_L) { frames := 0, cells := 0, slots := 0, locals := 0 }).room s m [.ref (q 1), .int x1].toArray below meth c₀ H locs 0 0 (MQ below (va_Qi post (wdB D (xw c q)) (wdA 36 q)) [.ref (q 1), .int x1].toArray s 0 0 (wdA 36 q)) (F0 m 4 ls []) := by
    intro K36 z1 n
    induction n with
    | zero =>
      intro y2 y3 σ H locs ls hw hk36 hP hS hl
      exact (show False from hw).elim
    | succ n ih =>
      intro y2 y3 σ H locs ls hw hk36 hP hS hl
      rw [wX1_weightOf_L4] at hw
      have hD : va_D (wdA 36 q) (xw c q σ) := xw_D hD0
      refine lv_iload_n hx hb dX1_weightOf_4 rfl (lv_at hl 3 rfl) ?_
      refine lv_aload_n hx hb dX1_weightOf_5 rfl (lv_at hl 0 rfl) ?_
      refine va_get (D := D) (ci := 1) (C := RX1) (T := TX1) (N := 12) hx hb htb inX1 hown hK hP 1 (xw_1 c q σ) rfl 1 (by decide) (htb _ tb_132) (fun _ h9 => h9) rfl dX1_weightOf_6 ?_
      refine lv_icmp_ge (tgt := 36) hx hb dX1_weightOf_9 (by decide) (fun c1 => ?_) (fun c1 => ?_)
      · have hw := hw.1 c1
        exact hk36 y2 y3 σ _ _ _ hw hP hS (lv_sub hl [0, 1, 2, 3] rfl)
      · have hw := hw.2 c1
        refine lv_iload_n hx hb dX1_weightOf_12 rfl (lv_at hl 1 rfl) ?_
        refine lv_iload_n hx hb dX1_weightOf_13 rfl (lv_at hl 3 rfl) ?_
        refine lv_ishr hx hb dX1_weightOf_14 ?_
        refine lv_iconst (v := (1 : Int32)) hx hb dX1_weightOf_15 (by decide) ?_
        refine lv_iand hx hb dX1_weightOf_16 ?_
        refine lv_iconst (v := (1 : Int32)) hx hb dX1_weightOf_17 (by decide) ?_
        refine lv_icmp_ne (tgt := 30) hx hb dX1_weightOf_18 (by decide) (fun c2 => ?_) (fun c2 => ?_)
        · have hw := hw.2 c2
          obtain ⟨v5, ev5⟩ : ∃ z : Int32, z = y3 + (1 : Int32) := ⟨_, rfl⟩
          have hw := hw v5 ev5
          refine lv_iinc (v := v5) (lv' := [(3, .int v5), (0, .ref (q 1)), (1, .int z1), (2, .int y2)]) hx hb dX1_weightOf_30 hl (k := 3) rfl (by rw [ev5]; rfl) (by decide) rfl (fun ls hl => ?_)
          refine lv_goto (tgt := 4) hx hb dX1_weightOf_33 (by decide) ?_
          exact ih y2 v5 σ _ _ _ hw hk36 hP hS (lv_sub hl [1, 2, 3, 0] rfl)
        · have hw := hw.1 c2
          refine lv_iload_n hx hb dX1_weightOf_21 rfl (lv_at hl 2 rfl) ?_
          refine lv_aload_n hx hb dX1_weightOf_22 rfl (lv_at hl 0 rfl) ?_
          refine va_get (D := D) (ci := 1) (C := RX1) (T := TX1) (N := 12) hx hb htb inX1 hown hK hP 1 (xw_1 c q σ) rfl 8 (by decide) (htb _ tb_156) (fun _ h9 => h9) rfl dX1_weightOf_23 ?_
          refine lv_iload_n hx hb dX1_weightOf_26 rfl (lv_at hl 3 rfl) ?_
          refine va_iald hx hb hK hP 2 0 (xw_2 c q σ) rfl hw.1 dX1_weightOf_27 ?_
          have hw := hw.2
          refine lv_iadd hx hb dX1_weightOf_28 ?_
          refine lv_topi (fun v3 ev3 => ?_)
          have hw := hw v3 ev3
          refine lv_istore_n (lv' := [(2, .int v3), (0, .ref (q 1)), (1, .int z1), (3, .int y3)]) hx hb dX1_weightOf_29 rfl hl (by decide) rfl (fun ls hl => ?_)
          obtain ⟨v4, ev4⟩ : ∃ z : Int32, z = y3 + (1 : Int32) := ⟨_, rfl⟩
          have hw := hw v4 ev4
          refine lv_iinc (v := v4) (lv' := [(3, .int v4), (2, .int v3), (0, .ref (q 1)), (1, .int z1)]) hx hb dX1_weightOf_30 hl (k := 3) rfl (by rw [ev4]; rfl) (by decide) rfl (fun ls hl => ?_)
          refine lv_goto (tgt := 4) hx hb dX1_weightOf_33 (by decide) ?_
          exact ih v3 v4 σ _ _ _ hw hk36 hP hS (lv_sub hl [2, 3, 1, 0] rfl)
  have hl := lv_entry ([.ref (q 1), .int x1]) (n := 4) (Nat.le_of_ble_eq_true rfl)
  rw [lg_entry_eq]
  generalize (lg_sl ([.ref (q 1), .int x1]) ++ List.replicate (4 - (lg_sl ([.ref (q 1), .int x1])).length) Slot.unset).toArray = ls at hl ⊢
  have hl : lv_has ls 4 [(0, .ref (q 1)), (1, .int x1)] := hl
  unfold wX1_weightOf at hw
  refine lv_iconst (v := (0 : Int32)) hx hb dX1_weightOf_0 (by decide) ?_
  refine lv_istore_n (lv' := [(2, .int (0 : Int32)), (0, .ref (q 1)), (1, .int x1)]) hx hb dX1_weightOf_1 rfl hl (by decide) rfl (fun ls hl => ?_)
  refine lv_iconst (v := (0 : Int32)) hx hb dX1_weightOf_2 (by decide) ?_
  refine lv_istore_n (lv' := [(3, .int (0 : Int32)), (2, .int (0 : Int32)), (0, .ref (q 1)), (1, .int x1)]) hx hb dX1_weightOf_3 rfl hl (by decide) rfl (fun ls hl => ?_)
  obtain ⟨n6, hw⟩ := hw
  refine L4 _ x1 n6 (0 : Int32) (0 : Int32) σ _ _ _ hw ?_ hP hS (lv_sub hl [2, 3, 1, 0] rfl)
  intro v7 v8 σ9 H locs ls hw hP hS hl
  have hD : va_D (wdA 36 q) (xw c q σ9) := xw_D hD0
  refine lv_iload_n hx hb dX1_weightOf_36 rfl (lv_at hl 2 rfl) ?_
  exact W.iret hx hb hr (fun t ht hW => ⟨⟨_, σ9, rfl, hw, by unfold wdB; rw [ht]; exact hP⟩, hS.F ht⟩) hS.2.2 dX1_weightOf_37
def wX1_lawGives (b0 : Nat) (x1 : Int32) (post : Int32 → hsS → Prop) (σ : hsS) : Prop := (((σ.1 (64 * b0 + 3)) = (1 : Int32) → (((σ.1 (64 * b0 + 4)) ≤ (0 : Int32) → post (0 : Int32) σ) ∧ (¬ (σ.1 (64 * b0 + 4)) ≤ (0 : Int32) → wX1_weightOf b0 x1 (fun r2 σ3 => ¬ (σ3.1 (64 * b0 + 4)) = 0 ∧ post (r2 / (σ3.1 (64 * b0 + 4))) σ3) σ))) ∧ (¬ (σ.1 (64 * b0 + 3)) = (1 : Int32) → (((σ.1 (64 * b0 + 3)) = (2 : Int32) → (((σ.1 (64 * b0 + 5)) ≤ (0 : Int32) → post (0 : Int32) σ) ∧ (¬ (σ.1 (64 * b0 + 5)) ≤ (0 : Int32) → wJ6_bitCount_0f7a4 x1 (fun r6 σ7 => vp_in ((if (σ7.1 (64 * b0 + 5)) < r6 then (σ7.1 (64 * b0 + 5)) else r6) - (1 : Int32)) 8 ∧ post (σ7.2.1 (b0 + 3) ((if (σ7.1 (64 * b0 + 5)) < r6 then (σ7.1 (64 * b0 + 5)) else r6) - (1 : Int32)).toNatClampNeg) σ7) σ))) ∧ (¬ (σ.1 (64 * b0 + 3)) = (2 : Int32) → (((σ.1 (64 * b0 + 2)) ≤ (0 : Int32) → post (0 : Int32) σ) ∧ (¬ (σ.1 (64 * b0 + 2)) ≤ (0 : Int32) → wX1_weightOf b0 x1 (fun r10 σ11 => ¬ (σ11.1 (64 * b0 + 2)) = 0 ∧ post ((((((σ.1 (64 * b0 + 0)) * r10) + (σ11.1 (64 * b0 + 2))) - (1 : Int32)) / (σ11.1 (64 * b0 + 2))) - (1 : Int32)) σ11) σ))))))
set_option maxHeartbeats 4000000 in
set_option maxRecDepth 100000 in
theorem kcX1_lawGives_1 (l : Launch) (D : va_G) (c : Nat → ClassId) (q : Nat → Nat) (ev : State → Heap → Prop) (hev : evOK (wdA 36 q) ev) (σ : hsS) (x1 : Int32) (post : Int32 → hsS → Prop) (hw : wX1_lawGives 1 x1 post σ) : Met l yX1_lawGives (Cond.code yX1_lawGives cX1_lawGives 2 (some .int) :: tb_L) { frames := 1, cells := 0, slots := 0, locals := 40 } (wdPc D (xw c q) (xwT c) (wdA 36 q) ev σ [.ref (q 1), .int x1]) (va_Qi post (wdB D (xw c q)) (wdA 36 q)) 0 0 (wdA 36 q) := by
  refine Met.ofW (cc := cX1_lawGives) (maxL := 2) (ret := (some .int)) (by decide) rfl ?_
  intro p e s m args below meth c₀ s₁ Bd hml hv
  obtain ⟨rfl, hP, hK, hD0, hE⟩ := hv
  have hx := Bd.exec
  have hb := Bd.bytes
  have hr := Bd.returns
  have hts := atoms_spec (ws := Cond.code yX1_lawGives cX1_lawGives 2 (some .int) :: tb_L) Bd.pre
  have htb : ∀ w ∈ tb_L, w.before [.ref (q 1), .int x1].toArray s = true := fun w h => hts w (List.mem_cons_of_mem _ h)
  have hown : s.vm.findClass RX1 = some m.cls := findClass_of_methodNamed Bd.named
  have hlocks := Bd.notSynchronized
  have hS : va_S (wdA 36 q) s.heap s.heap [] := va_S.rf
  have hD := hD0
  have hl := lv_entry ([.ref (q 1), .int x1]) (n := 2) (Nat.le_of_ble_eq_true rfl)
  rw [lg_entry_eq]
  generalize (lg_sl ([.ref (q 1), .int x1]) ++ List.replicate (2 - (lg_sl ([.ref (q 1), .int x1])).length) Slot.unset).toArray = ls at hl ⊢
  have hl : lv_has ls 2 [(0, .ref (q 1)), (1, .int x1)] := hl
  unfold wX1_lawGives at hw
  refine lv_aload_n hx hb dX1_lawGives_0 rfl (lv_at hl 0 rfl) ?_
  refine va_get (D := D) (ci := 1) (C := RX1) (T := TX1) (N := 12) hx hb htb inX1 hown hK hP 1 (xw_1 c q σ) rfl 3 (by decide) (htb _ tb_141) (fun _ h9 => h9) rfl dX1_lawGives_1 ?_
  by_cases c4 : σ.1 67 = (1 : Int32)
  · have hw := hw.1 c4
    refine lv_lookup (off := 28) (tgt := 32) hx hb dX1_lawGives_4 (by decide) (by rw [c4]; rfl) (by decide) ?_
    refine lv_aload_n hx hb dX1_lawGives_32 rfl (lv_at hl 0 rfl) ?_
    refine va_get (D := D) (ci := 1) (C := RX1) (T := TX1) (N := 12) hx hb htb inX1 hown hK hP 1 (xw_1 c q σ) rfl 4 (by decide) (htb _ tb_144) (fun _ h9 => h9) rfl dX1_lawGives_33 ?_
    refine lv_if_le (tgt := 52) hx hb dX1_lawGives_36 (by decide) (fun c1 => ?_) (fun c1 => ?_)
    · have hw := hw.1 c1
      refine lv_iconst (v := (0 : Int32)) hx hb dX1_lawGives_52 (by decide) ?_
      exact W.iret hx hb hr (fun t ht hW => ⟨⟨_, σ, rfl, hw, by unfold wdB; rw [ht]; exact hP⟩, hS.F ht⟩) hS.2.2 dX1_lawGives_53
    · have hw := hw.2 c1
      refine lv_aload_n hx hb dX1_lawGives_39 rfl (lv_at hl 0 rfl) ?_
      refine lv_iload_n hx hb dX1_lawGives_40 rfl (lv_at hl 1 rfl) ?_
      refine va_calli (va_runV (As := [.int x1]) (rest := []) ⟨hx, hb, hml, hown, htb⟩ (kcX1_weightOf_1 l D c q ev hev σ x1 _ hw) (tb_CW htb kX1_weightOf tb_402 tb_403 tb_404 ⟨Nat.le_of_ble_eq_true rfl, Nat.le_of_ble_eq_true rfl⟩) (wd_preV (wd := xw c q) (k := 1) hev hK hP hD hE hS (xw_1 c q σ) rfl) rfl rfl hl.1 rfl (lv_room (Nat.le_of_ble_eq_true rfl)) dX1_lawGives_41 ⟨Nat.zero_le _, Nat.zero_le _⟩) hS (fun q _ h => h) (fun q h => h) (fun r2 σ3 t H1 locs1 ht hvm hw hB hz1 hk1 hS => ?_)
      have hP : va_P D vwCl (xw c q σ3) H1 := ht ▸ hB
      have hD : va_D (wdA 36 q) (xw c q σ3) := xw_D hD0
      refine lv_aload_n hx hb dX1_lawGives_44 rfl (lv_at hl 0 rfl) ?_
      refine va_get (D := D) (ci := 1) (C := RX1) (T := TX1) (N := 12) hx hb htb inX1 hown hK hP 1 (xw_1 c q σ3) rfl 4 (by decide) (htb _ tb_144) (fun _ h9 => h9) rfl dX1_lawGives_45 ?_
      refine lv_idiv hx hb dX1_lawGives_48 hw.1 ?_
      have hw := hw.2
      refine lv_goto (tgt := 53) hx hb dX1_lawGives_49 (by decide) ?_
      exact W.iret hx hb hr (fun t ht hW => ⟨⟨_, σ3, rfl, hw, by unfold wdB; rw [ht]; exact hP⟩, hS.F ht⟩) hS.2.2 dX1_lawGives_53
  · have hw := hw.2 c4
    by_cases c8 : σ.1 67 = (2 : Int32)
    · have hw := hw.1 c8
      refine lv_lookup (off := 50) (tgt := 54) hx hb dX1_lawGives_4 (by decide) (by rw [c8]; rfl) (by decide) ?_
      refine lv_aload_n hx hb dX1_lawGives_54 rfl (lv_at hl 0 rfl) ?_
      refine va_get (D := D) (ci := 1) (C := RX1) (T := TX1) (N := 12) hx hb htb inX1 hown hK hP 1 (xw_1 c q σ) rfl 5 (by decide) (htb _ tb_146) (fun _ h9 => h9) rfl dX1_lawGives_55 ?_
      refine lv_if_le (tgt := 82) hx hb dX1_lawGives_58 (by decide) (fun c5 => ?_) (fun c5 => ?_)
      · have hw := hw.1 c5
        refine lv_iconst (v := (0 : Int32)) hx hb dX1_lawGives_82 (by decide) ?_
        exact W.iret hx hb hr (fun t ht hW => ⟨⟨_, σ, rfl, hw, by unfold wdB; rw [ht]; exact hP⟩, hS.F ht⟩) hS.2.2 dX1_lawGives_83
      · have hw := hw.2 c5
        refine lv_aload_n hx hb dX1_lawGives_61 rfl (lv_at hl 0 rfl) ?_
        refine va_get (D := D) (ci := 1) (C := RX1) (T := TX1) (N := 12) hx hb htb inX1 hown hK hP 1 (xw_1 c q σ) rfl 10 (by decide) (htb _ tb_159) (fun _ h9 => h9) rfl dX1_lawGives_62 ?_
        refine lv_iload_n hx hb dX1_lawGives_65 rfl (lv_at hl 1 rfl) ?_
        refine va_calli (va_runS (As := [.int x1]) (rest := [.ref (q 4)]) ⟨hx, hb, hml, hown, htb⟩ (kcJ6_bitCount_0f7a4_x l D c q ev hev σ x1 _ hw) (tb_CS htb kJ6_bitCount_0f7a4 tb_406 tb_407 ⟨Nat.le_of_ble_eq_true rfl, Nat.le_of_ble_eq_true rfl⟩) (wd_preS (wd := xw c q) hev hK hP hD hE hS) rfl rfl hl.1 rfl (lv_room (Nat.le_of_ble_eq_true rfl)) dX1_lawGives_66 ⟨Nat.zero_le _, Nat.zero_le _⟩) hS (fun q _ h => h) (fun q h => h) (fun r6 σ7 t H1 locs1 ht hvm hw hB hz1 hk1 hS => ?_)
        have hP : va_P D vwCl (xw c q σ7) H1 := ht ▸ hB
        have hD : va_D (wdA 36 q) (xw c q σ7) := xw_D hD0
        refine lv_aload_n hx hb dX1_lawGives_69 rfl (lv_at hl 0 rfl) ?_
        refine va_get (D := D) (ci := 1) (C := RX1) (T := TX1) (N := 12) hx hb htb inX1 hown hK hP 1 (xw_1 c q σ7) rfl 5 (by decide) (htb _ tb_146) (fun _ h9 => h9) rfl dX1_lawGives_70 ?_
        refine va_mmin hx hb (hml.trans hl.1.symm) hown (htb _ tb_412) (htb _ tb_413) (htb _ tb_104) (htb _ tb_414) (Nat.le_of_ble_eq_true rfl) (Nat.le_of_ble_eq_true rfl) (Nat.zero_le _) (Nat.zero_le _) dX1_lawGives_73 ?_
        refine lv_iconst (v := (1 : Int32)) hx hb dX1_lawGives_76 (by decide) ?_
        refine lv_isub hx hb dX1_lawGives_77 ?_
        refine va_iald hx hb hK hP 4 2 (xw_4 c q σ7) rfl hw.1 dX1_lawGives_78 ?_
        have hw := hw.2
        refine lv_goto (tgt := 83) hx hb dX1_lawGives_79 (by decide) ?_
        exact W.iret hx hb hr (fun t ht hW => ⟨⟨_, σ7, rfl, hw, by unfold wdB; rw [ht]; exact hP⟩, hS.F ht⟩) hS.2.2 dX1_lawGives_83
    · have hw := hw.2 c8
      refine lv_lookup (off := 80) (tgt := 84) hx hb dX1_lawGives_4 (by decide) (by show Op.lookupswitch.offset [(1, 28), (2, 50)] 80 _ = _; rw [lv_osw (a := 1) c4 rfl, lv_osw (a := 2) c8 rfl]; rfl) (by decide) ?_
      refine lv_aload_n hx hb dX1_lawGives_84 rfl (lv_at hl 0 rfl) ?_
      refine va_get (D := D) (ci := 1) (C := RX1) (T := TX1) (N := 12) hx hb htb inX1 hown hK hP 1 (xw_1 c q σ) rfl 2 (by decide) (htb _ tb_138) (fun _ h9 => h9) rfl dX1_lawGives_85 ?_
      refine lv_if_le (tgt := 118) hx hb dX1_lawGives_88 (by decide) (fun c9 => ?_) (fun c9 => ?_)
      · have hw := hw.1 c9
        refine lv_iconst (v := (0 : Int32)) hx hb dX1_lawGives_118 (by decide) ?_
        exact W.iret hx hb hr (fun t ht hW => ⟨⟨_, σ, rfl, hw, by unfold wdB; rw [ht]; exact hP⟩, hS.F ht⟩) hS.2.2 dX1_lawGives_119
      · have hw := hw.2 c9
        refine lv_aload_n hx hb dX1_lawGives_91 rfl (lv_at hl 0 rfl) ?_
        refine va_get (D := D) (ci := 1) (C := RX1) (T := TX1) (N := 12) hx hb htb inX1 hown hK hP 1 (xw_1 c q σ) rfl 0 (by decide) (htb _ tb_126) (fun _ h9 => h9) rfl dX1_lawGives_92 ?_
        refine lv_aload_n hx hb dX1_lawGives_95 rfl (lv_at hl 0 rfl) ?_
        refine lv_iload_n hx hb dX1_lawGives_96 rfl (lv_at hl 1 rfl) ?_
        refine va_calli (va_runV (As := [.int x1]) (rest := [.int (σ.1 64)]) ⟨hx, hb, hml, hown, htb⟩ (kcX1_weightOf_1 l D c q ev hev σ x1 _ hw) (tb_CW htb kX1_weightOf tb_402 tb_403 tb_404 ⟨Nat.le_of_ble_eq_true rfl, Nat.le_of_ble_eq_true rfl⟩) (wd_preV (wd := xw c q) (k := 1) hev hK hP hD hE hS (xw_1 c q σ) rfl) rfl rfl hl.1 rfl (lv_room (Nat.le_of_ble_eq_true rfl)) dX1_lawGives_97 ⟨Nat.zero_le _, Nat.zero_le _⟩) hS (fun q _ h => h) (fun q h => h) (fun r10 σ11 t H1 locs1 ht hvm hw hB hz1 hk1 hS => ?_)
        have hP : va_P D vwCl (xw c q σ11) H1 := ht ▸ hB
        have hD : va_D (wdA 36 q) (xw c q σ11) := xw_D hD0
        refine lv_imul hx hb dX1_lawGives_100 ?_
        refine lv_aload_n hx hb dX1_lawGives_101 rfl (lv_at hl 0 rfl) ?_
        refine va_get (D := D) (ci := 1) (C := RX1) (T := TX1) (N := 12) hx hb htb inX1 hown hK hP 1 (xw_1 c q σ11) rfl 2 (by decide) (htb _ tb_138) (fun _ h9 => h9) rfl dX1_lawGives_102 ?_
        refine lv_iadd hx hb dX1_lawGives_105 ?_
        refine lv_iconst (v := (1 : Int32)) hx hb dX1_lawGives_106 (by decide) ?_
        refine lv_isub hx hb dX1_lawGives_107 ?_
        refine lv_aload_n hx hb dX1_lawGives_108 rfl (lv_at hl 0 rfl) ?_
        refine va_get (D := D) (ci := 1) (C := RX1) (T := TX1) (N := 12) hx hb htb inX1 hown hK hP 1 (xw_1 c q σ11) rfl 2 (by decide) (htb _ tb_138) (fun _ h9 => h9) rfl dX1_lawGives_109 ?_
        refine lv_idiv hx hb dX1_lawGives_112 hw.1 ?_
        have hw := hw.2
        refine lv_iconst (v := (1 : Int32)) hx hb dX1_lawGives_113 (by decide) ?_
        refine lv_isub hx hb dX1_lawGives_114 ?_
        refine lv_goto (tgt := 119) hx hb dX1_lawGives_115 (by decide) ?_
        exact W.iret hx hb hr (fun t ht hW => ⟨⟨_, σ11, rfl, hw, by unfold wdB; rw [ht]; exact hP⟩, hS.F ht⟩) hS.2.2 dX1_lawGives_119
def wX1_mayStrike (b0 : Nat) (x1 : Int32) (post : Int32 → hsS → Prop) (σ : hsS) : Prop := wX1_allPeople b0 (fun r1 σ2 => ∀ v3 : Int32, v3 = x1 &&& r1 → ((v3 = (0 : Int32) → post (0 : Int32) σ2) ∧ (¬ v3 = (0 : Int32) → wX1_lawGives b0 v3 (fun r5 σ6 => post (if r5 < ((σ2.1 (64 * b0 + 0)) - (1 : Int32)) then r5 else ((σ2.1 (64 * b0 + 0)) - (1 : Int32))) σ6) σ2))) σ
set_option maxHeartbeats 4000000 in
set_option maxRecDepth 100000 in
theorem kcX1_mayStrike_1 (l : Launch) (D : va_G) (c : Nat → ClassId) (q : Nat → Nat) (ev : State → Heap → Prop) (hev : evOK (wdA 36 q) ev) (σ : hsS) (x1 : Int32) (post : Int32 → hsS → Prop) (hw : wX1_mayStrike 1 x1 post σ) : Met l yX1_mayStrike (Cond.code yX1_mayStrike cX1_mayStrike 3 (some .int) :: tb_L) { frames := 2, cells := 0, slots := 0, locals := 61 } (wdPc D (xw c q) (xwT c) (wdA 36 q) ev σ [.ref (q 1), .int x1]) (va_Qi post (wdB D (xw c q)) (wdA 36 q)) 0 0 (wdA 36 q) := by
  refine Met.ofW (cc := cX1_mayStrike) (maxL := 3) (ret := (some .int)) (by decide) rfl ?_
  intro p e s m args below meth c₀ s₁ Bd hml hv
  obtain ⟨rfl, hP, hK, hD0, hE⟩ := hv
  have hx := Bd.exec
  have hb := Bd.bytes
  have hr := Bd.returns
  have hts := atoms_spec (ws := Cond.code yX1_mayStrike cX1_mayStrike 3 (some .int) :: tb_L) Bd.pre
  have htb : ∀ w ∈ tb_L, w.before [.ref (q 1), .int x1].toArray s = true := fun w h => hts w (List.mem_cons_of_mem _ h)
  have hown : s.vm.findClass RX1 = some m.cls := findClass_of_methodNamed Bd.named
  have hlocks := Bd.notSynchronized
  have hS : va_S (wdA 36 q) s.heap s.heap [] := va_S.rf
  have hD := hD0
  have hl := lv_entry ([.ref (q 1), .int x1]) (n := 3) (Nat.le_of_ble_eq_true rfl)
  rw [lg_entry_eq]
  generalize (lg_sl ([.ref (q 1), .int x1]) ++ List.replicate (3 - (lg_sl ([.ref (q 1), .int x1])).length) Slot.unset).toArray = ls at hl ⊢
  have hl : lv_has ls 3 [(0, .ref (q 1)), (1, .int x1)] := hl
  unfold wX1_mayStrike at hw
  refine lv_iload_n hx hb dX1_mayStrike_0 rfl (lv_at hl 1 rfl) ?_
  refine lv_aload_n hx hb dX1_mayStrike_1 rfl (lv_at hl 0 rfl) ?_
  refine va_calli (va_runV (As := []) (rest := [.int x1]) ⟨hx, hb, hml, hown, htb⟩ (kcX1_allPeople_1 l D c q ev hev σ  _ hw) (tb_CW htb kX1_allPeople tb_394 tb_395 tb_396 ⟨Nat.le_of_ble_eq_true rfl, Nat.le_of_ble_eq_true rfl⟩) (wd_preV (wd := xw c q) (k := 1) hev hK hP hD hE hS (xw_1 c q σ) rfl) rfl rfl hl.1 rfl (lv_room (Nat.le_of_ble_eq_true rfl)) dX1_mayStrike_2 ⟨Nat.zero_le _, Nat.zero_le _⟩) hS (fun q _ h => h) (fun q h => h) (fun r1 σ2 t H1 locs1 ht hvm hw hB hz1 hk1 hS => ?_)
  have hP : va_P D vwCl (xw c q σ2) H1 := ht ▸ hB
  have hD : va_D (wdA 36 q) (xw c q σ2) := xw_D hD0
  refine lv_iand hx hb dX1_mayStrike_5 ?_
  refine lv_topi (fun v3 ev3 => ?_)
  have hw := hw v3 ev3
  refine lv_istore_n (lv' := [(2, .int v3), (0, .ref (q 1)), (1, .int x1)]) hx hb dX1_mayStrike_6 rfl hl (by decide) rfl (fun ls hl => ?_)
  refine lv_iload_n hx hb dX1_mayStrike_7 rfl (lv_at hl 0 rfl) ?_
  refine lv_if_ne (tgt := 13) hx hb dX1_mayStrike_8 (by decide) (fun c4 => ?_) (fun c4 => ?_)
  · have hw := hw.2 c4
    refine lv_aload_n hx hb dX1_mayStrike_13 rfl (lv_at hl 1 rfl) ?_
    refine va_get (D := D) (ci := 1) (C := RX1) (T := TX1) (N := 12) hx hb htb inX1 hown hK hP 1 (xw_1 c q σ2) rfl 0 (by decide) (htb _ tb_126) (fun _ h9 => h9) rfl dX1_mayStrike_14 ?_
    refine lv_iconst (v := (1 : Int32)) hx hb dX1_mayStrike_17 (by decide) ?_
    refine lv_isub hx hb dX1_mayStrike_18 ?_
    refine lv_aload_n hx hb dX1_mayStrike_19 rfl (lv_at hl 1 rfl) ?_
    refine lv_iload_n hx hb dX1_mayStrike_20 rfl (lv_at hl 0 rfl) ?_
    refine va_calli (va_runV (As := [.int v3]) (rest := [.int ((σ2.1 64) - (1 : Int32))]) ⟨hx, hb, hml, hown, htb⟩ (kcX1_lawGives_1 l D c q ev hev σ2 v3 _ hw) (tb_CW htb kX1_lawGives tb_398 tb_400 tb_0 ⟨Nat.le_of_ble_eq_true rfl, Nat.le_of_ble_eq_true rfl⟩) (wd_preV (wd := xw c q) (k := 1) hev hK hP hD hE hS (xw_1 c q σ2) rfl) rfl rfl hl.1 rfl (lv_room (Nat.le_of_ble_eq_true rfl)) dX1_mayStrike_21 ⟨Nat.zero_le _, Nat.zero_le _⟩) hS (fun q _ h => h) (fun q h => h) (fun r5 σ6 t H1 locs1 ht hvm hw hB hz1 hk1 hS => ?_)
    have hP : va_P D vwCl (xw c q σ6) H1 := ht ▸ hB
    have hD : va_D (wdA 36 q) (xw c q σ6) := xw_D hD0
    refine va_mmin hx hb (hml.trans hl.1.symm) hown (htb _ tb_412) (htb _ tb_413) (htb _ tb_104) (htb _ tb_414) (Nat.le_of_ble_eq_true rfl) (Nat.le_of_ble_eq_true rfl) (Nat.zero_le _) (Nat.zero_le _) dX1_mayStrike_24 ?_
    exact W.iret hx hb hr (fun t ht hW => ⟨⟨_, σ6, rfl, hw, by unfold wdB; rw [ht]; exact hP⟩, hS.F ht⟩) hS.2.2 dX1_mayStrike_27
  · have hw := hw.1 c4
    refine lv_iconst (v := (0 : Int32)) hx hb dX1_mayStrike_11 (by decide) ?_
    exact W.iret hx hb hr (fun t ht hW => ⟨⟨_, σ2, rfl, hw, by unfold wdB; rw [ht]; exact hP⟩, hS.F ht⟩) hS.2.2 dX1_mayStrike_12
def wX7_may (x1 : Int32) (post : Int32 → hsS → Prop) (σ : hsS) : Prop := wX1_mayStrike 1 x1 (fun r1 σ2 => post r1 σ2) σ
set_option maxHeartbeats 4000000 in
set_option maxRecDepth 100000 in
theorem kcX7_may (l : Launch) (D : va_G) (c : Nat → ClassId) (q : Nat → Nat) (ev : State → Heap → Prop) (hev : evOK (wdA 36 q) ev) (σ : hsS) (x1 : Int32) (post : Int32 → hsS → Prop) (hw : wX7_may x1 post σ) : Met l yX7_may (Cond.code yX7_may cX7_may 2 (some .int) :: tb_L) { frames := 3, cells := 0, slots := 0, locals := 83 } (wdPc D (xw c q) (xwT c) (wdA 36 q) ev σ [.ref (q 0), .int x1]) (va_Qi post (wdB D (xw c q)) (wdA 36 q)) 0 0 (wdA 36 q) := by
  refine Met.ofW (cc := cX7_may) (maxL := 2) (ret := (some .int)) (by decide) rfl ?_
  intro p e s m args below meth c₀ s₁ Bd hml hv
  obtain ⟨rfl, hP, hK, hD0, hE⟩ := hv
  have hx := Bd.exec
  have hb := Bd.bytes
  have hr := Bd.returns
  have hts := atoms_spec (ws := Cond.code yX7_may cX7_may 2 (some .int) :: tb_L) Bd.pre
  have htb : ∀ w ∈ tb_L, w.before [.ref (q 0), .int x1].toArray s = true := fun w h => hts w (List.mem_cons_of_mem _ h)
  have hown : s.vm.findClass RX7 = some m.cls := findClass_of_methodNamed Bd.named
  have hlocks := Bd.notSynchronized
  have hS : va_S (wdA 36 q) s.heap s.heap [] := va_S.rf
  have hD := hD0
  have hl := lv_entry ([.ref (q 0), .int x1]) (n := 2) (Nat.le_of_ble_eq_true rfl)
  rw [lg_entry_eq]
  generalize (lg_sl ([.ref (q 0), .int x1]) ++ List.replicate (2 - (lg_sl ([.ref (q 0), .int x1])).length) Slot.unset).toArray = ls at hl ⊢
  have hl : lv_has ls 2 [(0, .ref (q 0)), (1, .int x1)] := hl
  unfold wX7_may at hw
  refine lv_aload_n hx hb dX7_may_0 rfl (lv_at hl 0 rfl) ?_
  refine va_get (D := D) (ci := 7) (C := RX7) (T := TX7) (N := 9) hx hb htb inX7 hown hK hP 0 (xw_0 c q σ) rfl 0 (by decide) (htb _ tb_342) (fun _ h9 => h9) rfl dX7_may_1 ?_
  refine lv_iload_n hx hb dX7_may_4 rfl (lv_at hl 1 rfl) ?_
  refine va_calli (va_runV (As := [.int x1]) (rest := []) ⟨hx, hb, hml, hown, htb⟩ (kcX1_mayStrike_1 l D c q ev hev σ x1 _ hw) (tb_CW htb kX1_mayStrike tb_390 tb_391 tb_392 ⟨Nat.le_of_ble_eq_true rfl, Nat.le_of_ble_eq_true rfl⟩) (wd_preV (wd := xw c q) (k := 1) hev hK hP hD hE hS (xw_1 c q σ) rfl) rfl rfl hl.1 rfl (lv_room (Nat.le_of_ble_eq_true rfl)) dX7_may_5 ⟨Nat.zero_le _, Nat.zero_le _⟩) hS (fun q _ h => h) (fun q h => h) (fun r1 σ2 t H1 locs1 ht hvm hw hB hz1 hk1 hS => ?_)
  have hP : va_P D vwCl (xw c q σ2) H1 := ht ▸ hB
  have hD : va_D (wdA 36 q) (xw c q σ2) := xw_D hD0
  exact W.iret hx hb hr (fun t ht hW => ⟨⟨_, σ2, rfl, hw, by unfold wdB; rw [ht]; exact hP⟩, hS.F ht⟩) hS.2.2 dX7_may_8
def wX1_allThings (b0 : Nat) (post : Int32 → hsS → Prop) (σ : hsS) : Prop := post (((1 : Int32) <<< ((σ.1 (64 * b0 + 0)) &&& 31)) - (1 : Int32)) σ
set_option maxHeartbeats 4000000 in
set_option maxRecDepth 100000 in
theorem kcX1_allThings_1 (l : Launch) (D : va_G) (c : Nat → ClassId) (q : Nat → Nat) (ev : State → Heap → Prop) (hev : evOK (wdA 36 q) ev) (σ : hsS)  (post : Int32 → hsS → Prop) (hw : wX1_allThings 1 post σ) : Met l yX1_allThings (Cond.code yX1_allThings cX1_allThings 1 (some .int) :: tb_L) { frames := 0, cells := 0, slots := 0, locals := 0 } (wdPc D (xw c q) (xwT c) (wdA 36 q) ev σ [.ref (q 1)]) (va_Qi post (wdB D (xw c q)) (wdA 36 q)) 0 0 (wdA 36 q) := by
  refine Met.ofW (cc := cX1_allThings) (maxL := 1) (ret := (some .int)) (by decide) rfl ?_
  intro p e s m args below meth c₀ s₁ Bd hml hv
  obtain ⟨rfl, hP, hK, hD0, hE⟩ := hv
  have hx := Bd.exec
  have hb := Bd.bytes
  have hr := Bd.returns
  have hts := atoms_spec (ws := Cond.code yX1_allThings cX1_allThings 1 (some .int) :: tb_L) Bd.pre
  have htb : ∀ w ∈ tb_L, w.before [.ref (q 1)].toArray s = true := fun w h => hts w (List.mem_cons_of_mem _ h)
  have hown : s.vm.findClass RX1 = some m.cls := findClass_of_methodNamed Bd.named
  have hlocks := Bd.notSynchronized
  have hS : va_S (wdA 36 q) s.heap s.heap [] := va_S.rf
  have hD := hD0
  have hl := lv_entry ([.ref (q 1)]) (n := 1) (Nat.le_of_ble_eq_true rfl)
  rw [lg_entry_eq]
  generalize (lg_sl ([.ref (q 1)]) ++ List.replicate (1 - (lg_sl ([.ref (q 1)])).length) Slot.unset).toArray = ls at hl ⊢
  have hl : lv_has ls 1 [(0, .ref (q 1))] := hl
  unfold wX1_allThings at hw
  refine lv_iconst (v := (1 : Int32)) hx hb dX1_allThings_0 (by decide) ?_
  refine lv_aload_n hx hb dX1_allThings_1 rfl (lv_at hl 0 rfl) ?_
  refine va_get (D := D) (ci := 1) (C := RX1) (T := TX1) (N := 12) hx hb htb inX1 hown hK hP 1 (xw_1 c q σ) rfl 0 (by decide) (htb _ tb_126) (fun _ h9 => h9) rfl dX1_allThings_2 ?_
  refine lv_ishl hx hb dX1_allThings_5 ?_
  refine lv_iconst (v := (1 : Int32)) hx hb dX1_allThings_6 (by decide) ?_
  refine lv_isub hx hb dX1_allThings_7 ?_
  exact W.iret hx hb hr (fun t ht hW => ⟨⟨_, σ, rfl, hw, by unfold wdB; rw [ht]; exact hP⟩, hS.F ht⟩) hS.2.2 dX1_allThings_8
def wX1_dearerThan_L13 (b0 : Nat) (z1 : Int32) (z2 : Int32) (z3 : Int32) (K48 : Int32 → Int32 → hsS → Prop) (post : Int32 → hsS → Prop) : Nat → Int32 → Int32 → hsS → Prop
  | 0, _, _, _ => False
  | n + 1, y4, y5, σ => (((σ.1 (64 * b0 + 0)) ≤ y5 → K48 y4 y5 σ) ∧ (¬ (σ.1 (64 * b0 + 0)) ≤ y5 → wX1_placeOf b0 z1 y5 (fun r4 σ5 => ((z3 ≤ r4 → ∀ v7 : Int32, v7 = y5 + (1 : Int32) → wX1_dearerThan_L13 b0 z1 z2 z3 K48 post n y4 v7 σ5) ∧ (¬ z3 ≤ r4 → ∀ v8 : Int32, v8 = y4 ||| ((1 : Int32) <<< (y5 &&& 31)) → ∀ v9 : Int32, v9 = y5 + (1 : Int32) → wX1_dearerThan_L13 b0 z1 z2 z3 K48 post n v8 v9 σ5))) σ))
def wX1_dearerThan (b0 : Nat) (x1 : Int32) (x2 : Int32) (post : Int32 → hsS → Prop) (σ : hsS) : Prop := wX1_placeOf b0 x1 x2 (fun r1 σ2 => ∃ n10, wX1_dearerThan_L13 b0 x1 x2 r1 (fun v11 v12 σ13 => post v11 σ13) post n10 (0 : Int32) (0 : Int32) σ2) σ
set_option maxHeartbeats 4000000 in
set_option maxRecDepth 100000 in
theorem kcX1_dearerThan_1 (l : Launch) (D : va_G) (c : Nat → ClassId) (q : Nat → Nat) (ev : State → Heap → Prop) (hev : evOK (wdA 36 q) ev) (σ : hsS) (x1 : Int32) (x2 : Int32) (post : Int32 → hsS → Prop) (hw : wX1_dearerThan 1 x1 x2 post σ) : Met l yX1_dearerThan (Cond.code yX1_dearerThan cX1_dearerThan 6 (some .int) :: tb_L) { frames := 1, cells := 0, slots := 0, locals := 22 } (wdPc D (xw c q) (xwT c) (wdA 36 q) ev σ [.ref (q 1), .int x1, .int x2]) (va_Qi post (wdB D (xw c q)) (wdA 36 q)) 0 0 (wdA 36 q) := by
  refine Met.ofW (cc := cX1_dearerThan) (maxL := 6) (ret := (some .int)) (by decide) rfl ?_
  intro p e s m args below meth c₀ s₁ Bd hml hv
  obtain ⟨rfl, hP, hK, hD0, hE⟩ := hv
  have hx := Bd.exec
  have hb := Bd.bytes
  have hr := Bd.returns
  have hts := atoms_spec (ws := Cond.code yX1_dearerThan cX1_dearerThan 6 (some .int) :: tb_L) Bd.pre
  have htb : ∀ w ∈ tb_L, w.before [.ref (q 1), .int x1, .int x2].toArray s = true := fun w h => hts w (List.mem_cons_of_mem _ h)
  have hown : s.vm.findClass RX1 = some m.cls := findClass_of_methodNamed Bd.named
  have hlocks := Bd.notSynchronized
  have hS : va_S (wdA 36 q) s.heap s.heap [] := va_S.rf
  have hD := hD0
  have L13 : ∀ (K48 : Int32 → Int32 → hsS → Prop) (z1 : Int32) (z2 : Int32) (z3 : Int32) (n : Nat) (y4 : Int32) (y5 : Int32) (σ : hsS) (H : Heap) (locs : List Loc) (ls : Array Slot), wX1_dearerThan_L13 1 z1 z2 z3 K48 post n y4 y5 σ → (∀ (y4 : Int32) (y5 : Int32) (σ : hsS) (H : Heap) (locs : List Loc) (ls : Array Slot), K48 y4 y5 σ → va_P D vwCl (xw c q σ) H → va_S (wdA 36 q) s.heap H locs → lv_has ls 6 [(0, .ref (q 1)), (1, .int z1), (2, .int z2), (3, .int z3), (4, .int y4), (5, .int y5)] → W p l e (headSpec (Cond.code yX1_dearerThan cX1_dearerThan 6 (some .int) :: tb_L) { frames := 1, cells := 0, slots := 0, locals := 22 }).room s m [.ref (q 1), .int x1, .int x2].toArray below meth c₀ H locs 0 0 (MQ below (va_Qi post (wdB D (xw c q)) (wdA 36 q)) [.ref (q 1), .int x1, .int x2].toArray s 0 0 (wdA 36 q)) (F0 m 48 ls [])) → va_P D vwCl (xw c q σ) H → va_S (wdA 36 q) s.heap H locs → lv_has ls 6 [(0, .ref (q 1)), (1, .int z1), (2, .int z2), (3, .int z3), (4, .int y4), (5, .int y5)] → W p l e (headSpec (Cond.code yX1_dearerThan cX1_dearerThan 6 (some .int) :: tb_L) { frames := 1, cells := 0, slots := 0, locals := 22 }).room s m [.ref (q 1), .int x1, .int x2].toArray below meth c₀ H locs 0 0 (MQ below (va_Qi post (wdB D (xw c q)) (wdA 36 q)) [.ref (q 1), .int x1, .int x2].toArray s 0 0 (wdA 36 q)) (F0 m 13 ls []) := by
    intro K48 z1 z2 z3 n
    induction n with
    | zero =>
      intro y4 y5 σ H locs ls hw hk48 hP hS hl
      exact (show False from hw).elim
    | succ n ih =>
      intro y4 y5 σ H locs ls hw hk48 hP hS hl
      rw [wX1_dearerThan_L13] at hw
      have hD : va_D (wdA 36 q) (xw c q σ) := xw_D hD0
      refine lv_iload hx hb dX1_dearerThan_13 (lv_at hl 5 rfl) ?_
      refine lv_aload_n hx hb dX1_dearerThan_15 rfl (lv_at hl 0 rfl) ?_
      refine va_get (D := D) (ci := 1) (C := RX1) (T := TX1) (N := 12) hx hb htb inX1 hown hK hP 1 (xw_1 c q σ) rfl 0 (by decide) (htb _ tb_126) (fun _ h9 => h9) rfl dX1_dearerThan_16 ?_
      refine lv_icmp_ge (tgt := 48) hx hb dX1_dearerThan_19 (by decide) (fun c3 => ?_) (fun c3 => ?_)
      · have hw := hw.1 c3
        exact hk48 y4 y5 σ _ _ _ hw hP hS (lv_sub hl [0, 1, 2, 3, 4, 5] rfl)
      · have hw := hw.2 c3
        refine lv_aload_n hx hb dX1_dearerThan_22 rfl (lv_at hl 0 rfl) ?_
        refine lv_iload_n hx hb dX1_dearerThan_23 rfl (lv_at hl 1 rfl) ?_
        refine lv_iload hx hb dX1_dearerThan_24 (lv_at hl 5 rfl) ?_
        refine va_calli (va_runV (As := [.int z1, .int y5]) (rest := []) ⟨hx, hb, hml, hown, htb⟩ (kcX1_placeOf_1 l D c q ev hev σ z1 y5 _ hw) (tb_CW htb kX1_placeOf tb_445 tb_446 tb_447 ⟨Nat.le_of_ble_eq_true rfl, Nat.le_of_ble_eq_true rfl⟩) (wd_preV (wd := xw c q) (k := 1) hev hK hP hD hE hS (xw_1 c q σ) rfl) rfl rfl hl.1 rfl (lv_room (Nat.le_of_ble_eq_true rfl)) dX1_dearerThan_26 ⟨Nat.zero_le _, Nat.zero_le _⟩) hS (fun q _ h => h) (fun q h => h) (fun r4 σ5 t H1 locs1 ht hvm hw hB hz1 hk1 hS => ?_)
        have hP : va_P D vwCl (xw c q σ5) H1 := ht ▸ hB
        have hD : va_D (wdA 36 q) (xw c q σ5) := xw_D hD0
        refine lv_iload_n hx hb dX1_dearerThan_29 rfl (lv_at hl 3 rfl) ?_
        refine lv_icmp_ge (tgt := 42) hx hb dX1_dearerThan_30 (by decide) (fun c6 => ?_) (fun c6 => ?_)
        · have hw := hw.1 c6
          obtain ⟨v7, ev7⟩ : ∃ z : Int32, z = y5 + (1 : Int32) := ⟨_, rfl⟩
          have hw := hw v7 ev7
          refine lv_iinc (v := v7) (lv' := [(5, .int v7), (0, .ref (q 1)), (1, .int z1), (2, .int z2), (3, .int z3), (4, .int y4)]) hx hb dX1_dearerThan_42 hl (k := 5) rfl (by rw [ev7]; rfl) (by decide) rfl (fun ls hl => ?_)
          refine lv_goto (tgt := 13) hx hb dX1_dearerThan_45 (by decide) ?_
          exact ih y4 v7 σ5 _ _ _ hw hk48 hP hS (lv_sub hl [1, 2, 3, 4, 5, 0] rfl)
        · have hw := hw.2 c6
          refine lv_iload hx hb dX1_dearerThan_33 (lv_at hl 4 rfl) ?_
          refine lv_iconst (v := (1 : Int32)) hx hb dX1_dearerThan_35 (by decide) ?_
          refine lv_iload hx hb dX1_dearerThan_36 (lv_at hl 5 rfl) ?_
          refine lv_ishl hx hb dX1_dearerThan_38 ?_
          refine lv_ior hx hb dX1_dearerThan_39 ?_
          refine lv_topi (fun v8 ev8 => ?_)
          have hw := hw v8 ev8
          refine lv_istore (lv' := [(4, .int v8), (0, .ref (q 1)), (1, .int z1), (2, .int z2), (3, .int z3), (5, .int y5)]) hx hb dX1_dearerThan_40 hl (by decide) rfl (fun ls hl => ?_)
          obtain ⟨v9, ev9⟩ : ∃ z : Int32, z = y5 + (1 : Int32) := ⟨_, rfl⟩
          have hw := hw v9 ev9
          refine lv_iinc (v := v9) (lv' := [(5, .int v9), (4, .int v8), (0, .ref (q 1)), (1, .int z1), (2, .int z2), (3, .int z3)]) hx hb dX1_dearerThan_42 hl (k := 5) rfl (by rw [ev9]; rfl) (by decide) rfl (fun ls hl => ?_)
          refine lv_goto (tgt := 13) hx hb dX1_dearerThan_45 (by decide) ?_
          exact ih v8 v9 σ5 _ _ _ hw hk48 hP hS (lv_sub hl [2, 3, 4, 5, 1, 0] rfl)
  have hl := lv_entry ([.ref (q 1), .int x1, .int x2]) (n := 6) (Nat.le_of_ble_eq_true rfl)
  rw [lg_entry_eq]
  generalize (lg_sl ([.ref (q 1), .int x1, .int x2]) ++ List.replicate (6 - (lg_sl ([.ref (q 1), .int x1, .int x2])).length) Slot.unset).toArray = ls at hl ⊢
  have hl : lv_has ls 6 [(0, .ref (q 1)), (1, .int x1), (2, .int x2)] := hl
  unfold wX1_dearerThan at hw
  refine lv_aload_n hx hb dX1_dearerThan_0 rfl (lv_at hl 0 rfl) ?_
  refine lv_iload_n hx hb dX1_dearerThan_1 rfl (lv_at hl 1 rfl) ?_
  refine lv_iload_n hx hb dX1_dearerThan_2 rfl (lv_at hl 2 rfl) ?_
  refine va_calli (va_runV (As := [.int x1, .int x2]) (rest := []) ⟨hx, hb, hml, hown, htb⟩ (kcX1_placeOf_1 l D c q ev hev σ x1 x2 _ hw) (tb_CW htb kX1_placeOf tb_445 tb_446 tb_447 ⟨Nat.le_of_ble_eq_true rfl, Nat.le_of_ble_eq_true rfl⟩) (wd_preV (wd := xw c q) (k := 1) hev hK hP hD hE hS (xw_1 c q σ) rfl) rfl rfl hl.1 rfl (lv_room (Nat.le_of_ble_eq_true rfl)) dX1_dearerThan_3 ⟨Nat.zero_le _, Nat.zero_le _⟩) hS (fun q _ h => h) (fun q h => h) (fun r1 σ2 t H1 locs1 ht hvm hw hB hz1 hk1 hS => ?_)
  have hP : va_P D vwCl (xw c q σ2) H1 := ht ▸ hB
  have hD : va_D (wdA 36 q) (xw c q σ2) := xw_D hD0
  refine lv_istore_n (lv' := [(3, .int r1), (0, .ref (q 1)), (1, .int x1), (2, .int x2)]) hx hb dX1_dearerThan_6 rfl hl (by decide) rfl (fun ls hl => ?_)
  refine lv_iconst (v := (0 : Int32)) hx hb dX1_dearerThan_7 (by decide) ?_
  refine lv_istore (lv' := [(4, .int (0 : Int32)), (3, .int r1), (0, .ref (q 1)), (1, .int x1), (2, .int x2)]) hx hb dX1_dearerThan_8 hl (by decide) rfl (fun ls hl => ?_)
  refine lv_iconst (v := (0 : Int32)) hx hb dX1_dearerThan_10 (by decide) ?_
  refine lv_istore (lv' := [(5, .int (0 : Int32)), (4, .int (0 : Int32)), (3, .int r1), (0, .ref (q 1)), (1, .int x1), (2, .int x2)]) hx hb dX1_dearerThan_11 hl (by decide) rfl (fun ls hl => ?_)
  obtain ⟨n10, hw⟩ := hw
  refine L13 _ x1 x2 r1 n10 (0 : Int32) (0 : Int32) σ2 _ _ _ hw ?_ hP hS (lv_sub hl [3, 4, 5, 2, 1, 0] rfl)
  intro v11 v12 σ13 H locs ls hw hP hS hl
  have hD : va_D (wdA 36 q) (xw c q σ13) := xw_D hD0
  refine lv_iload hx hb dX1_dearerThan_48 (lv_at hl 4 rfl) ?_
  exact W.iret hx hb hr (fun t ht hW => ⟨⟨_, σ13, rfl, hw, by unfold wdB; rw [ht]; exact hP⟩, hS.F ht⟩) hS.2.2 dX1_dearerThan_50
def wX1_keptBy_L8 (b0 : Nat) (z1 : Int32) (z2 : Int32) (K43 : Int32 → Int32 → hsS → Prop) (post : Int32 → hsS → Prop) : Nat → Int32 → Int32 → hsS → Prop
  | 0, _, _, _ => False
  | n + 1, y3, y4, σ => (((σ.1 (64 * b0 + 1)) ≤ y4 → K43 y3 y4 σ) ∧ (¬ (σ.1 (64 * b0 + 1)) ≤ y4 → ((((z1 >>> (y4 &&& 31)) &&& (1 : Int32)) = (1 : Int32) → wX1_dearerThan b0 y4 z2 (fun r5 σ6 => ∀ v7 : Int32, v7 = y3 &&& r5 → ∀ v8 : Int32, v8 = y4 + (1 : Int32) → wX1_keptBy_L8 b0 z1 z2 K43 post n v7 v8 σ6) σ) ∧ (¬ ((z1 >>> (y4 &&& 31)) &&& (1 : Int32)) = (1 : Int32) → ∀ v9 : Int32, v9 = y4 + (1 : Int32) → wX1_keptBy_L8 b0 z1 z2 K43 post n y3 v9 σ))))
def wX1_keptBy (b0 : Nat) (x1 : Int32) (x2 : Int32) (post : Int32 → hsS → Prop) (σ : hsS) : Prop := wX1_allThings b0 (fun r1 σ2 => ∃ n10, wX1_keptBy_L8 b0 x1 x2 (fun v11 v12 σ13 => post v11 σ13) post n10 r1 (0 : Int32) σ2) σ
set_option maxHeartbeats 4000000 in
set_option maxRecDepth 100000 in
theorem kcX1_keptBy_1 (l : Launch) (D : va_G) (c : Nat → ClassId) (q : Nat → Nat) (ev : State → Heap → Prop) (hev : evOK (wdA 36 q) ev) (σ : hsS) (x1 : Int32) (x2 : Int32) (post : Int32 → hsS → Prop) (hw : wX1_keptBy 1 x1 x2 post σ) : Met l yX1_keptBy (Cond.code yX1_keptBy cX1_keptBy 5 (some .int) :: tb_L) { frames := 2, cells := 0, slots := 0, locals := 47 } (wdPc D (xw c q) (xwT c) (wdA 36 q) ev σ [.ref (q 1), .int x1, .int x2]) (va_Qi post (wdB D (xw c q)) (wdA 36 q)) 0 0 (wdA 36 q) := by
  refine Met.ofW (cc := cX1_keptBy) (maxL := 5) (ret := (some .int)) (by decide) rfl ?_
  intro p e s m args below meth c₀ s₁ Bd hml hv
  obtain ⟨rfl, hP, hK, hD0, hE⟩ := hv
  have hx := Bd.exec
  have hb := Bd.bytes
  have hr := Bd.returns
  have hts := atoms_spec (ws := Cond.code yX1_keptBy cX1_keptBy 5 (some .int) :: tb_L) Bd.pre
  have htb : ∀ w ∈ tb_L, w.before [.ref (q 1), .int x1, .int x2].toArray s = true := fun w h => hts w (List.mem_cons_of_mem _ h)
  have hown : s.vm.findClass RX1 = some m.cls := findClass_of_methodNamed Bd.named
  have hlocks := Bd.notSynchronized
  have hS : va_S (wdA 36 q) s.heap s.heap [] := va_S.rf
  have hD := hD0
  have L8 : ∀ (K43 : Int32 → Int32 → hsS → Prop) (z1 : Int32) (z2 : Int32) (n : Nat) (y3 : Int32) (y4 : Int32) (σ : hsS) (H : Heap) (locs : List Loc) (ls : Array Slot), wX1_keptBy_L8 1 z1 z2 K43 post n y3 y4 σ → (∀ (y3 : Int32) (y4 : Int32) (σ : hsS) (H : Heap) (locs : List Loc) (ls : Array Slot), K43 y3 y4 σ → va_P D vwCl (xw c q σ) H → va_S (wdA 36 q) s.heap H locs → lv_has ls 5 [(0, .ref (q 1)), (1, .int z1), (2, .int z2), (3, .int y3), (4, .int y4)] → W p l e (headSpec (Cond.code yX1_keptBy cX1_keptBy 5 (some .int) :: tb_L) { frames := 2, cells := 0, slots := 0, locals := 47 }).room s m [.ref (q 1), .int x1, .int x2].toArray below meth c₀ H locs 0 0 (MQ below (va_Qi post (wdB D (xw c q)) (wdA 36 q)) [.ref (q 1), .int x1, .int x2].toArray s 0 0 (wdA 36 q)) (F0 m 43 ls [])) → va_P D vwCl (xw c q σ) H → va_S (wdA 36 q) s.heap H locs → lv_has ls 5 [(0, .ref (q 1)), (1, .int z1), (2, .int z2), (3, .int y3), (4, .int y4)] → W p l e (headSpec (Cond.code yX1_keptBy cX1_keptBy 5 (some .int) :: tb_L) { frames := 2, cells := 0, slots := 0, locals := 47 }).room s m [.ref (q 1), .int x1, .int x2].toArray below meth c₀ H locs 0 0 (MQ below (va_Qi post (wdB D (xw c q)) (wdA 36 q)) [.ref (q 1), .int x1, .int x2].toArray s 0 0 (wdA 36 q)) (F0 m 8 ls []) := by
    intro K43 z1 z2 n
    induction n with
    | zero =>
      intro y3 y4 σ H locs ls hw hk43 hP hS hl
      exact (show False from hw).elim
    | succ n ih =>
      intro y3 y4 σ H locs ls hw hk43 hP hS hl
      rw [wX1_keptBy_L8] at hw
      have hD : va_D (wdA 36 q) (xw c q σ) := xw_D hD0
      refine lv_iload hx hb dX1_keptBy_8 (lv_at hl 4 rfl) ?_
      refine lv_aload_n hx hb dX1_keptBy_10 rfl (lv_at hl 0 rfl) ?_
      refine va_get (D := D) (ci := 1) (C := RX1) (T := TX1) (N := 12) hx hb htb inX1 hown hK hP 1 (xw_1 c q σ) rfl 1 (by decide) (htb _ tb_132) (fun _ h9 => h9) rfl dX1_keptBy_11 ?_
      refine lv_icmp_ge (tgt := 43) hx hb dX1_keptBy_14 (by decide) (fun c3 => ?_) (fun c3 => ?_)
      · have hw := hw.1 c3
        exact hk43 y3 y4 σ _ _ _ hw hP hS (lv_sub hl [0, 1, 2, 3, 4] rfl)
      · have hw := hw.2 c3
        refine lv_iload_n hx hb dX1_keptBy_17 rfl (lv_at hl 1 rfl) ?_
        refine lv_iload hx hb dX1_keptBy_18 (lv_at hl 4 rfl) ?_
        refine lv_ishr hx hb dX1_keptBy_20 ?_
        refine lv_iconst (v := (1 : Int32)) hx hb dX1_keptBy_21 (by decide) ?_
        refine lv_iand hx hb dX1_keptBy_22 ?_
        refine lv_iconst (v := (1 : Int32)) hx hb dX1_keptBy_23 (by decide) ?_
        refine lv_icmp_ne (tgt := 37) hx hb dX1_keptBy_24 (by decide) (fun c4 => ?_) (fun c4 => ?_)
        · have hw := hw.2 c4
          obtain ⟨v9, ev9⟩ : ∃ z : Int32, z = y4 + (1 : Int32) := ⟨_, rfl⟩
          have hw := hw v9 ev9
          refine lv_iinc (v := v9) (lv' := [(4, .int v9), (0, .ref (q 1)), (1, .int z1), (2, .int z2), (3, .int y3)]) hx hb dX1_keptBy_37 hl (k := 4) rfl (by rw [ev9]; rfl) (by decide) rfl (fun ls hl => ?_)
          refine lv_goto (tgt := 8) hx hb dX1_keptBy_40 (by decide) ?_
          exact ih y3 v9 σ _ _ _ hw hk43 hP hS (lv_sub hl [1, 2, 3, 4, 0] rfl)
        · have hw := hw.1 c4
          refine lv_iload_n hx hb dX1_keptBy_27 rfl (lv_at hl 3 rfl) ?_
          refine lv_aload_n hx hb dX1_keptBy_28 rfl (lv_at hl 0 rfl) ?_
          refine lv_iload hx hb dX1_keptBy_29 (lv_at hl 4 rfl) ?_
          refine lv_iload_n hx hb dX1_keptBy_31 rfl (lv_at hl 2 rfl) ?_
          refine va_calli (va_runV (As := [.int y4, .int z2]) (rest := [.int y3]) ⟨hx, hb, hml, hown, htb⟩ (kcX1_dearerThan_1 l D c q ev hev σ y4 z2 _ hw) (tb_CW htb kX1_dearerThan tb_936 tb_442 tb_443 ⟨Nat.le_of_ble_eq_true rfl, Nat.le_of_ble_eq_true rfl⟩) (wd_preV (wd := xw c q) (k := 1) hev hK hP hD hE hS (xw_1 c q σ) rfl) rfl rfl hl.1 rfl (lv_room (Nat.le_of_ble_eq_true rfl)) dX1_keptBy_32 ⟨Nat.zero_le _, Nat.zero_le _⟩) hS (fun q _ h => h) (fun q h => h) (fun r5 σ6 t H1 locs1 ht hvm hw hB hz1 hk1 hS => ?_)
          have hP : va_P D vwCl (xw c q σ6) H1 := ht ▸ hB
          have hD : va_D (wdA 36 q) (xw c q σ6) := xw_D hD0
          refine lv_iand hx hb dX1_keptBy_35 ?_
          refine lv_topi (fun v7 ev7 => ?_)
          have hw := hw v7 ev7
          refine lv_istore_n (lv' := [(3, .int v7), (0, .ref (q 1)), (1, .int z1), (2, .int z2), (4, .int y4)]) hx hb dX1_keptBy_36 rfl hl (by decide) rfl (fun ls hl => ?_)
          obtain ⟨v8, ev8⟩ : ∃ z : Int32, z = y4 + (1 : Int32) := ⟨_, rfl⟩
          have hw := hw v8 ev8
          refine lv_iinc (v := v8) (lv' := [(4, .int v8), (3, .int v7), (0, .ref (q 1)), (1, .int z1), (2, .int z2)]) hx hb dX1_keptBy_37 hl (k := 4) rfl (by rw [ev8]; rfl) (by decide) rfl (fun ls hl => ?_)
          refine lv_goto (tgt := 8) hx hb dX1_keptBy_40 (by decide) ?_
          exact ih v7 v8 σ6 _ _ _ hw hk43 hP hS (lv_sub hl [2, 3, 4, 1, 0] rfl)
  have hl := lv_entry ([.ref (q 1), .int x1, .int x2]) (n := 5) (Nat.le_of_ble_eq_true rfl)
  rw [lg_entry_eq]
  generalize (lg_sl ([.ref (q 1), .int x1, .int x2]) ++ List.replicate (5 - (lg_sl ([.ref (q 1), .int x1, .int x2])).length) Slot.unset).toArray = ls at hl ⊢
  have hl : lv_has ls 5 [(0, .ref (q 1)), (1, .int x1), (2, .int x2)] := hl
  unfold wX1_keptBy at hw
  refine lv_aload_n hx hb dX1_keptBy_0 rfl (lv_at hl 0 rfl) ?_
  refine va_calli (va_runV (As := []) (rest := []) ⟨hx, hb, hml, hown, htb⟩ (kcX1_allThings_1 l D c q ev hev σ  _ hw) (tb_CW htb kX1_allThings tb_461 tb_438 tb_439 ⟨Nat.le_of_ble_eq_true rfl, Nat.le_of_ble_eq_true rfl⟩) (wd_preV (wd := xw c q) (k := 1) hev hK hP hD hE hS (xw_1 c q σ) rfl) rfl rfl hl.1 rfl (lv_room (Nat.le_of_ble_eq_true rfl)) dX1_keptBy_1 ⟨Nat.zero_le _, Nat.zero_le _⟩) hS (fun q _ h => h) (fun q h => h) (fun r1 σ2 t H1 locs1 ht hvm hw hB hz1 hk1 hS => ?_)
  have hP : va_P D vwCl (xw c q σ2) H1 := ht ▸ hB
  have hD : va_D (wdA 36 q) (xw c q σ2) := xw_D hD0
  refine lv_istore_n (lv' := [(3, .int r1), (0, .ref (q 1)), (1, .int x1), (2, .int x2)]) hx hb dX1_keptBy_4 rfl hl (by decide) rfl (fun ls hl => ?_)
  refine lv_iconst (v := (0 : Int32)) hx hb dX1_keptBy_5 (by decide) ?_
  refine lv_istore (lv' := [(4, .int (0 : Int32)), (3, .int r1), (0, .ref (q 1)), (1, .int x1), (2, .int x2)]) hx hb dX1_keptBy_6 hl (by decide) rfl (fun ls hl => ?_)
  obtain ⟨n10, hw⟩ := hw
  refine L8 _ x1 x2 n10 r1 (0 : Int32) σ2 _ _ _ hw ?_ hP hS (lv_sub hl [2, 3, 4, 1, 0] rfl)
  intro v11 v12 σ13 H locs ls hw hP hS hl
  have hD : va_D (wdA 36 q) (xw c q σ13) := xw_D hD0
  refine lv_iload_n hx hb dX1_keptBy_43 rfl (lv_at hl 3 rfl) ?_
  exact W.iret hx hb hr (fun t ht hW => ⟨⟨_, σ13, rfl, hw, by unfold wdB; rw [ht]; exact hP⟩, hS.F ht⟩) hS.2.2 dX1_keptBy_44
def wX7_keep (x1 : Int32) (x2 : Int32) (post : Int32 → hsS → Prop) (px : hsS → Prop) (σ : hsS) : Prop := wX7_needThing x2 (fun σ2 => wX1_keptBy 1 x1 x2 (fun r3 σ4 => post r3 σ4) σ2) px σ
set_option maxHeartbeats 4000000 in
set_option maxRecDepth 100000 in
theorem kcX7_keep (l : Launch) (D : va_G) (c : Nat → ClassId) (q : Nat → Nat) (ev : State → Heap → Prop) (hev : evOK (wdA 36 q) ev) (hst : l.stackTraces = false) (hX : ∀ (U : State) (H : Heap), ev U H → evT (wdA 36 q) U H) (σ : hsS) (x1 : Int32) (x2 : Int32) (post : Int32 → hsS → Prop) (px : hsS → Prop) (hw : wX7_keep x1 x2 post px σ) : vx_Met l yX7_keep (Cond.code yX7_keep cX7_keep 3 (some .int) :: tb_L) { frames := 9, cells := 1, slots := 6, locals := 149 } (wdPc D (xw c q) (xwT c) (wdA 36 q) ev σ [.ref (q 0), .int x1, .int x2]) (va_Qi post (wdB D (xw c q)) (wdA 36 q)) (vx_X px (xpB D (xw c q) "java/util/NoSuchElementException") (wdA 36 q)) 1 6 (wdA 36 q) := by
  refine vx_ofW (cc := cX7_keep) (maxL := 3) (ret := (some .int)) (by decide) rfl ?_
  intro p e s m args below meth c₀ s₁ Bd hml htab hv
  obtain ⟨rfl, hP, hK, hD0, hE⟩ := hv
  have hx := Bd.exec
  have hb := Bd.bytes
  have hr := Bd.returns
  have hts := atoms_spec (ws := Cond.code yX7_keep cX7_keep 3 (some .int) :: tb_L) Bd.pre
  have htb : ∀ w ∈ tb_L, w.before [.ref (q 0), .int x1, .int x2].toArray s = true := fun w h => hts w (List.mem_cons_of_mem _ h)
  have hown : s.vm.findClass RX7 = some m.cls := findClass_of_methodNamed Bd.named
  have hlocks := Bd.notSynchronized
  have hS : va_S (wdA 36 q) s.heap s.heap [] := va_S.rf
  have hD := hD0
  have hl := lv_entry ([.ref (q 0), .int x1, .int x2]) (n := 3) (Nat.le_of_ble_eq_true rfl)
  rw [lg_entry_eq]
  generalize (lg_sl ([.ref (q 0), .int x1, .int x2]) ++ List.replicate (3 - (lg_sl ([.ref (q 0), .int x1, .int x2])).length) Slot.unset).toArray = ls at hl ⊢
  have hl : lv_has ls 3 [(0, .ref (q 0)), (1, .int x1), (2, .int x2)] := hl
  unfold wX7_keep at hw
  refine lv_aload_n hx hb dX7_keep_0 rfl (lv_at hl 0 rfl) ?_
  refine lv_iload_n hx hb dX7_keep_1 rfl (lv_at hl 2 rfl) ?_
  refine vx_callv (vx_runV (As := [.int x2]) (rest := []) ⟨hx, hb, hml, hown, htb⟩ (kcX7_needThing l D c q ev hev hst hX σ x2 _ px hw) (tb_CW htb kX7_needThing tb_911 tb_913 tb_33 ⟨Nat.le_of_ble_eq_true rfl, Nat.le_of_ble_eq_true rfl⟩) (wd_preV (wd := xw c q) (k := 0) hev hK hP hD hE hS (xw_0 c q σ) rfl) rfl rfl hl.1 rfl (lv_room (Nat.le_of_ble_eq_true rfl)) dX7_keep_2 ⟨Nat.le_of_ble_eq_true rfl, Nat.le_of_ble_eq_true rfl⟩) hS (fun q _ h => h) (fun q h => h) (fun q _ h => h) (fun E9 ce9 q9 σx t H1 locs1 ht hvm hpx hBX hz1 hk1 hS hce hcv hcl => vx_out (fun x h => (htab x h).elim) hlocks hce hcv hcl (fun t2 ht2 _ => ⟨σx, hpx, ⟨hBX.1, by rw [ht2, ← ht]; exact hBX.2⟩, hS.F ht2⟩) hS.2.2 (Nat.le_of_ble_eq_true rfl) (Nat.le_of_ble_eq_true rfl)) (fun σ2 t H1 locs1 ht hvm hw hB hz1 hk1 hS => ?_)
  have hP : va_P D vwCl (xw c q σ2) H1 := ht ▸ hB
  have hD : va_D (wdA 36 q) (xw c q σ2) := xw_D hD0
  refine lv_aload_n hx hb dX7_keep_5 rfl (lv_at hl 0 rfl) ?_
  refine va_get (D := D) (ci := 7) (C := RX7) (T := TX7) (N := 9) hx hb htb inX7 hown hK hP 0 (xw_0 c q σ2) rfl 0 (by decide) (htb _ tb_342) (fun _ h9 => h9) rfl dX7_keep_6 ?_
  refine lv_iload_n hx hb dX7_keep_9 rfl (lv_at hl 1 rfl) ?_
  refine lv_iload_n hx hb dX7_keep_10 rfl (lv_at hl 2 rfl) ?_
  refine va_calli (va_runV (As := [.int x1, .int x2]) (rest := []) ⟨hx, hb, hml, hown, htb⟩ (kcX1_keptBy_1 l D c q ev hev σ2 x1 x2 _ hw) (tb_CW htb kX1_keptBy tb_932 tb_933 tb_934 ⟨Nat.le_of_ble_eq_true rfl, Nat.le_of_ble_eq_true rfl⟩) (wd_preV (wd := xw c q) (k := 1) hev hK hP hD hE hS (xw_1 c q σ2) rfl) rfl rfl hl.1 rfl (lv_room (Nat.le_of_ble_eq_true rfl)) dX7_keep_11 ⟨Nat.le_of_ble_eq_true rfl, Nat.le_of_ble_eq_true rfl⟩) hS (fun q _ h => h) (fun q h => h) (fun r3 σ4 t H1 locs1 ht hvm hw hB hz1 hk1 hS => ?_)
  have hP : va_P D vwCl (xw c q σ4) H1 := ht ▸ hB
  have hD : va_D (wdA 36 q) (xw c q σ4) := xw_D hD0
  exact vx_ret (W.widen (k := 1) (n := 6) (Nat.le_of_ble_eq_true rfl) (Nat.le_of_ble_eq_true rfl) (W.iret hx hb hr (fun t ht hW => ⟨⟨_, σ4, rfl, hw, by unfold wdB; rw [ht]; exact hP⟩, hS.F ht⟩) hS.2.2 dX7_keep_14))
def wX7_strikes (x1 : Int32) (x2 : Int32) (post : Int32 → hsS → Prop) (px : hsS → Prop) (σ : hsS) : Prop := wX7_needThing x2 (fun σ2 => wX1_allPeople 1 (fun r3 σ4 => ∀ v5 : Int32, v5 = x1 &&& r3 → ((v5 = (0 : Int32) → post (0 : Int32) σ4) ∧ (¬ v5 = (0 : Int32) → wX1_keptBy 1 v5 x2 (fun r7 σ8 => wJ6_bitCount_0f7a4 r7 (fun r9 σ10 => wX1_mayStrike 1 v5 (fun r11 σ12 => ((r9 < ((σ10.1 64) - r11) → post (0 : Int32) σ12) ∧ (¬ r9 < ((σ10.1 64) - r11) → post (1 : Int32) σ12))) σ10) σ8) σ4))) σ2) px σ
set_option maxHeartbeats 4000000 in
set_option maxRecDepth 100000 in
theorem kcX7_strikes (l : Launch) (D : va_G) (c : Nat → ClassId) (q : Nat → Nat) (ev : State → Heap → Prop) (hev : evOK (wdA 36 q) ev) (hst : l.stackTraces = false) (hX : ∀ (U : State) (H : Heap), ev U H → evT (wdA 36 q) U H) (σ : hsS) (x1 : Int32) (x2 : Int32) (post : Int32 → hsS → Prop) (px : hsS → Prop) (hw : wX7_strikes x1 x2 post px σ) : vx_Met l yX7_strikes (Cond.code yX7_strikes cX7_strikes 4 (some .boolean) :: tb_L) { frames := 9, cells := 1, slots := 6, locals := 149 } (wdPc D (xw c q) (xwT c) (wdA 36 q) ev σ [.ref (q 0), .int x1, .int x2]) (va_Qi post (wdB D (xw c q)) (wdA 36 q)) (vx_X px (xpB D (xw c q) "java/util/NoSuchElementException") (wdA 36 q)) 1 6 (wdA 36 q) := by
  refine vx_ofW (cc := cX7_strikes) (maxL := 4) (ret := (some .boolean)) (by decide) rfl ?_
  intro p e s m args below meth c₀ s₁ Bd hml htab hv
  obtain ⟨rfl, hP, hK, hD0, hE⟩ := hv
  have hx := Bd.exec
  have hb := Bd.bytes
  have hr := Bd.returns
  have hts := atoms_spec (ws := Cond.code yX7_strikes cX7_strikes 4 (some .boolean) :: tb_L) Bd.pre
  have htb : ∀ w ∈ tb_L, w.before [.ref (q 0), .int x1, .int x2].toArray s = true := fun w h => hts w (List.mem_cons_of_mem _ h)
  have hown : s.vm.findClass RX7 = some m.cls := findClass_of_methodNamed Bd.named
  have hlocks := Bd.notSynchronized
  have hS : va_S (wdA 36 q) s.heap s.heap [] := va_S.rf
  have hD := hD0
  have hl := lv_entry ([.ref (q 0), .int x1, .int x2]) (n := 4) (Nat.le_of_ble_eq_true rfl)
  rw [lg_entry_eq]
  generalize (lg_sl ([.ref (q 0), .int x1, .int x2]) ++ List.replicate (4 - (lg_sl ([.ref (q 0), .int x1, .int x2])).length) Slot.unset).toArray = ls at hl ⊢
  have hl : lv_has ls 4 [(0, .ref (q 0)), (1, .int x1), (2, .int x2)] := hl
  unfold wX7_strikes at hw
  refine lv_aload_n hx hb dX7_strikes_0 rfl (lv_at hl 0 rfl) ?_
  refine lv_iload_n hx hb dX7_strikes_1 rfl (lv_at hl 2 rfl) ?_
  refine vx_callv (vx_runV (As := [.int x2]) (rest := []) ⟨hx, hb, hml, hown, htb⟩ (kcX7_needThing l D c q ev hev hst hX σ x2 _ px hw) (tb_CW htb kX7_needThing tb_911 tb_913 tb_33 ⟨Nat.le_of_ble_eq_true rfl, Nat.le_of_ble_eq_true rfl⟩) (wd_preV (wd := xw c q) (k := 0) hev hK hP hD hE hS (xw_0 c q σ) rfl) rfl rfl hl.1 rfl (lv_room (Nat.le_of_ble_eq_true rfl)) dX7_strikes_2 ⟨Nat.le_of_ble_eq_true rfl, Nat.le_of_ble_eq_true rfl⟩) hS (fun q _ h => h) (fun q h => h) (fun q _ h => h) (fun E9 ce9 q9 σx t H1 locs1 ht hvm hpx hBX hz1 hk1 hS hce hcv hcl => vx_out (fun x h => (htab x h).elim) hlocks hce hcv hcl (fun t2 ht2 _ => ⟨σx, hpx, ⟨hBX.1, by rw [ht2, ← ht]; exact hBX.2⟩, hS.F ht2⟩) hS.2.2 (Nat.le_of_ble_eq_true rfl) (Nat.le_of_ble_eq_true rfl)) (fun σ2 t H1 locs1 ht hvm hw hB hz1 hk1 hS => ?_)
  have hP : va_P D vwCl (xw c q σ2) H1 := ht ▸ hB
  have hD : va_D (wdA 36 q) (xw c q σ2) := xw_D hD0
  refine lv_iload_n hx hb dX7_strikes_5 rfl (lv_at hl 1 rfl) ?_
  refine lv_aload_n hx hb dX7_strikes_6 rfl (lv_at hl 0 rfl) ?_
  refine va_get (D := D) (ci := 7) (C := RX7) (T := TX7) (N := 9) hx hb htb inX7 hown hK hP 0 (xw_0 c q σ2) rfl 0 (by decide) (htb _ tb_342) (fun _ h9 => h9) rfl dX7_strikes_7 ?_
  refine va_calli (va_runV (As := []) (rest := [.int x1]) ⟨hx, hb, hml, hown, htb⟩ (kcX1_allPeople_1 l D c q ev hev σ2  _ hw) (tb_CW htb kX1_allPeople tb_944 tb_395 tb_396 ⟨Nat.le_of_ble_eq_true rfl, Nat.le_of_ble_eq_true rfl⟩) (wd_preV (wd := xw c q) (k := 1) hev hK hP hD hE hS (xw_1 c q σ2) rfl) rfl rfl hl.1 rfl (lv_room (Nat.le_of_ble_eq_true rfl)) dX7_strikes_10 ⟨Nat.le_of_ble_eq_true rfl, Nat.le_of_ble_eq_true rfl⟩) hS (fun q _ h => h) (fun q h => h) (fun r3 σ4 t H1 locs1 ht hvm hw hB hz1 hk1 hS => ?_)
  have hP : va_P D vwCl (xw c q σ4) H1 := ht ▸ hB
  have hD : va_D (wdA 36 q) (xw c q σ4) := xw_D hD0
  refine lv_iand hx hb dX7_strikes_13 ?_
  refine lv_topi (fun v5 ev5 => ?_)
  have hw := hw v5 ev5
  refine lv_istore_n (lv' := [(3, .int v5), (0, .ref (q 0)), (1, .int x1), (2, .int x2)]) hx hb dX7_strikes_14 rfl hl (by decide) rfl (fun ls hl => ?_)
  refine lv_iload_n hx hb dX7_strikes_15 rfl (lv_at hl 0 rfl) ?_
  refine lv_if_eq (tgt := 54) hx hb dX7_strikes_16 (by decide) (fun c6 => ?_) (fun c6 => ?_)
  · have hw := hw.1 c6
    refine lv_iconst (v := (0 : Int32)) hx hb dX7_strikes_54 (by decide) ?_
    exact vx_ret (W.widen (k := 1) (n := 6) (Nat.le_of_ble_eq_true rfl) (Nat.le_of_ble_eq_true rfl) (W.zret hx hb hr rfl (fun t ht hW => ⟨⟨_, σ4, rfl, hw, by unfold wdB; rw [ht]; exact hP⟩, hS.F ht⟩) hS.2.2 dX7_strikes_55))
  · have hw := hw.2 c6
    refine lv_aload_n hx hb dX7_strikes_19 rfl (lv_at hl 1 rfl) ?_
    refine va_get (D := D) (ci := 7) (C := RX7) (T := TX7) (N := 9) hx hb htb inX7 hown hK hP 0 (xw_0 c q σ4) rfl 0 (by decide) (htb _ tb_342) (fun _ h9 => h9) rfl dX7_strikes_20 ?_
    refine lv_iload_n hx hb dX7_strikes_23 rfl (lv_at hl 0 rfl) ?_
    refine lv_iload_n hx hb dX7_strikes_24 rfl (lv_at hl 3 rfl) ?_
    refine va_calli (va_runV (As := [.int v5, .int x2]) (rest := []) ⟨hx, hb, hml, hown, htb⟩ (kcX1_keptBy_1 l D c q ev hev σ4 v5 x2 _ hw) (tb_CW htb kX1_keptBy tb_932 tb_933 tb_934 ⟨Nat.le_of_ble_eq_true rfl, Nat.le_of_ble_eq_true rfl⟩) (wd_preV (wd := xw c q) (k := 1) hev hK hP hD hE hS (xw_1 c q σ4) rfl) rfl rfl hl.1 rfl (lv_room (Nat.le_of_ble_eq_true rfl)) dX7_strikes_25 ⟨Nat.le_of_ble_eq_true rfl, Nat.le_of_ble_eq_true rfl⟩) hS (fun q _ h => h) (fun q h => h) (fun r7 σ8 t H1 locs1 ht hvm hw hB hz1 hk1 hS => ?_)
    have hP : va_P D vwCl (xw c q σ8) H1 := ht ▸ hB
    have hD : va_D (wdA 36 q) (xw c q σ8) := xw_D hD0
    refine va_calli (va_runS (As := [.int r7]) (rest := []) ⟨hx, hb, hml, hown, htb⟩ (kcJ6_bitCount_0f7a4_x l D c q ev hev σ8 r7 _ hw) (tb_CS htb kJ6_bitCount_0f7a4 tb_945 tb_407 ⟨Nat.le_of_ble_eq_true rfl, Nat.le_of_ble_eq_true rfl⟩) (wd_preS (wd := xw c q) hev hK hP hD hE hS) rfl rfl hl.1 rfl (lv_room (Nat.le_of_ble_eq_true rfl)) dX7_strikes_28 ⟨Nat.le_of_ble_eq_true rfl, Nat.le_of_ble_eq_true rfl⟩) hS (fun q _ h => h) (fun q h => h) (fun r9 σ10 t H1 locs1 ht hvm hw hB hz1 hk1 hS => ?_)
    have hP : va_P D vwCl (xw c q σ10) H1 := ht ▸ hB
    have hD : va_D (wdA 36 q) (xw c q σ10) := xw_D hD0
    refine lv_aload_n hx hb dX7_strikes_31 rfl (lv_at hl 1 rfl) ?_
    refine va_get (D := D) (ci := 7) (C := RX7) (T := TX7) (N := 9) hx hb htb inX7 hown hK hP 0 (xw_0 c q σ10) rfl 0 (by decide) (htb _ tb_342) (fun _ h9 => h9) rfl dX7_strikes_32 ?_
    refine va_getN (D := D) (ci := 1) (C := RX1) (T := TX1) (N := 12) hx hb htb inX1 hown hK hP 1 (xw_1 c q σ10) rfl 0 (by decide) (htb _ tb_130) (fun _ h9 => h9) rfl dX7_strikes_35 ?_
    refine lv_aload_n hx hb dX7_strikes_38 rfl (lv_at hl 1 rfl) ?_
    refine va_get (D := D) (ci := 7) (C := RX7) (T := TX7) (N := 9) hx hb htb inX7 hown hK hP 0 (xw_0 c q σ10) rfl 0 (by decide) (htb _ tb_342) (fun _ h9 => h9) rfl dX7_strikes_39 ?_
    refine lv_iload_n hx hb dX7_strikes_42 rfl (lv_at hl 0 rfl) ?_
    refine va_calli (va_runV (As := [.int v5]) (rest := [.int (σ10.1 64), .int r9]) ⟨hx, hb, hml, hown, htb⟩ (kcX1_mayStrike_1 l D c q ev hev σ10 v5 _ hw) (tb_CW htb kX1_mayStrike tb_390 tb_391 tb_392 ⟨Nat.le_of_ble_eq_true rfl, Nat.le_of_ble_eq_true rfl⟩) (wd_preV (wd := xw c q) (k := 1) hev hK hP hD hE hS (xw_1 c q σ10) rfl) rfl rfl hl.1 rfl (lv_room (Nat.le_of_ble_eq_true rfl)) dX7_strikes_43 ⟨Nat.le_of_ble_eq_true rfl, Nat.le_of_ble_eq_true rfl⟩) hS (fun q _ h => h) (fun q h => h) (fun r11 σ12 t H1 locs1 ht hvm hw hB hz1 hk1 hS => ?_)
    have hP : va_P D vwCl (xw c q σ12) H1 := ht ▸ hB
    have hD : va_D (wdA 36 q) (xw c q σ12) := xw_D hD0
    refine lv_isub hx hb dX7_strikes_46 ?_
    refine lv_icmp_lt (tgt := 54) hx hb dX7_strikes_47 (by decide) (fun c13 => ?_) (fun c13 => ?_)
    · have hw := hw.1 c13
      refine lv_iconst (v := (0 : Int32)) hx hb dX7_strikes_54 (by decide) ?_
      exact vx_ret (W.widen (k := 1) (n := 6) (Nat.le_of_ble_eq_true rfl) (Nat.le_of_ble_eq_true rfl) (W.zret hx hb hr rfl (fun t ht hW => ⟨⟨_, σ12, rfl, hw, by unfold wdB; rw [ht]; exact hP⟩, hS.F ht⟩) hS.2.2 dX7_strikes_55))
    · have hw := hw.2 c13
      refine lv_iconst (v := (1 : Int32)) hx hb dX7_strikes_50 (by decide) ?_
      refine lv_goto (tgt := 55) hx hb dX7_strikes_51 (by decide) ?_
      exact vx_ret (W.widen (k := 1) (n := 6) (Nat.le_of_ble_eq_true rfl) (Nat.le_of_ble_eq_true rfl) (W.zret hx hb hr rfl (fun t ht hW => ⟨⟨_, σ12, rfl, hw, by unfold wdB; rw [ht]; exact hP⟩, hS.F ht⟩) hS.2.2 dX7_strikes_55))
def wX4_weigh_L17 (b0 : Nat) (b1 : Nat) (z2 : Int32) (K39 : Int32 → hsS → Prop) (post : hsS → Prop) : Nat → Int32 → hsS → Prop
  | 0, _, _ => False
  | n + 1, y3, σ => ((z2 ≤ y3 → K39 y3 σ) ∧ (¬ z2 ≤ y3 → wX1_mayStrike b1 y3 (fun r3 σ4 => vp_in y3 256 ∧ ∀ σ5 : hsS, σ5 = hsA σ4 (b0 + 1) (upd (σ4.2.1 (b0 + 1)) y3.toNatClampNeg r3) → ∀ v6 : Int32, v6 = y3 + (1 : Int32) → wX4_weigh_L17 b0 b1 z2 K39 post n v6 σ5) σ))
def wX4_weigh (b0 : Nat) (b1 : Nat) (post : hsS → Prop) (σ : hsS) : Prop := ∀ v1 : Int32, v1 = (if (256 : Int32) < ((1 : Int32) <<< ((σ.1 (64 * b1 + 1)) &&& 31)) then (256 : Int32) else ((1 : Int32) <<< ((σ.1 (64 * b1 + 1)) &&& 31))) → ∃ n7, wX4_weigh_L17 b0 b1 v1 (fun v8 σ9 => post σ9) post n7 (0 : Int32) σ
set_option maxHeartbeats 4000000 in
set_option maxRecDepth 100000 in
theorem kcX4_weigh_18_1 (l : Launch) (D : va_G) (c : Nat → ClassId) (q : Nat → Nat) (ev : State → Heap → Prop) (hev : evOK (wdA 36 q) ev) (σ : hsS)  (post : hsS → Prop) (hw : wX4_weigh 18 1 post σ) : Met l yX4_weigh (Cond.code yX4_weigh cX4_weigh 4 none :: tb_L) { frames := 3, cells := 0, slots := 0, locals := 83 } (wdPc D (xw c q) (xwT c) (wdA 36 q) ev σ [.ref (q 18), .ref (q 1)]) (va_Qv post (wdB D (xw c q)) (wdA 36 q)) 0 0 (wdA 36 q) := by
  refine Met.ofW (cc := cX4_weigh) (maxL := 4) (ret := none) (by decide) rfl ?_
  intro p e s m args below meth c₀ s₁ Bd hml hv
  obtain ⟨rfl, hP, hK, hD0, hE⟩ := hv
  have hx := Bd.exec
  have hb := Bd.bytes
  have hr := Bd.returns
  have hts := atoms_spec (ws := Cond.code yX4_weigh cX4_weigh 4 none :: tb_L) Bd.pre
  have htb : ∀ w ∈ tb_L, w.before [.ref (q 18), .ref (q 1)].toArray s = true := fun w h => hts w (List.mem_cons_of_mem _ h)
  have hown : s.vm.findClass RX4 = some m.cls := findClass_of_methodNamed Bd.named
  have hlocks := Bd.notSynchronized
  have hS : va_S (wdA 36 q) s.heap s.heap [] := va_S.rf
  have hD := hD0
  have L17 : ∀ (K39 : Int32 → hsS → Prop) (z2 : Int32) (n : Nat) (y3 : Int32) (σ : hsS) (H : Heap) (locs : List Loc) (ls : Array Slot), wX4_weigh_L17 18 1 z2 K39 post n y3 σ → (∀ (y3 : Int32) (σ : hsS) (H : Heap) (locs : List Loc) (ls : Array Slot), K39 y3 σ → va_P D vwCl (xw c q σ) H → va_S (wdA 36 q) s.heap H locs → lv_has ls 4 [(0, .ref (q 18)), (1, .ref (q 1)), (2, .int z2), (3, .int y3)] → W p l e (headSpec (Cond.code yX4_weigh cX4_weigh 4 none :: tb_L) { frames := 3, cells := 0, slots := 0, locals := 83 }).room s m [.ref (q 18), .ref (q 1)].toArray below meth c₀ H locs 0 0 (MQ below (va_Qv post (wdB D (xw c q)) (wdA 36 q)) [.ref (q 18), .ref (q 1)].toArray s 0 0 (wdA 36 q)) (F0 m 39 ls [])) → va_P D vwCl (xw c q σ) H → va_S (wdA 36 q) s.heap H locs → lv_has ls 4 [(0, .ref (q 18)), (1, .ref (q 1)), (2, .int z2), (3, .int y3)] → W p l e (headSpec (Cond.code yX4_weigh cX4_weigh 4 none :: tb_L) { frames := 3, cells := 0, slots := 0, locals := 83 }).room s m [.ref (q 18), .ref (q 1)].toArray below meth c₀ H locs 0 0 (MQ below (va_Qv post (wdB D (xw c q)) (wdA 36 q)) [.ref (q 18), .ref (q 1)].toArray s 0 0 (wdA 36 q)) (F0 m 17 ls []) := by
    intro K39 z2 n
    induction n with
    | zero =>
      intro y3 σ H locs ls hw hk39 hP hS hl
      exact (show False from hw).elim
    | succ n ih =>
      intro y3 σ H locs ls hw hk39 hP hS hl
      rw [wX4_weigh_L17] at hw
      have hD : va_D (wdA 36 q) (xw c q σ) := xw_D hD0
      refine lv_iload_n hx hb dX4_weigh_17 rfl (lv_at hl 3 rfl) ?_
      refine lv_iload_n hx hb dX4_weigh_18 rfl (lv_at hl 2 rfl) ?_
      refine lv_icmp_ge (tgt := 39) hx hb dX4_weigh_19 (by decide) (fun c2 => ?_) (fun c2 => ?_)
      · have hw := hw.1 c2
        exact hk39 y3 σ _ _ _ hw hP hS (lv_sub hl [0, 1, 2, 3] rfl)
      · have hw := hw.2 c2
        refine lv_aload_n hx hb dX4_weigh_22 rfl (lv_at hl 0 rfl) ?_
        refine va_get (D := D) (ci := 4) (C := RX4) (T := TX4) (N := 2) hx hb htb inX4 hown hK hP 18 (xw_18 c q σ) rfl 0 (by decide) (htb _ tb_242) (fun _ h9 => h9) rfl dX4_weigh_23 ?_
        refine lv_iload_n hx hb dX4_weigh_26 rfl (lv_at hl 3 rfl) ?_
        refine lv_aload_n hx hb dX4_weigh_27 rfl (lv_at hl 1 rfl) ?_
        refine lv_iload_n hx hb dX4_weigh_28 rfl (lv_at hl 3 rfl) ?_
        refine va_calli (va_runV (As := [.int y3]) (rest := [.int y3, .ref (q 19)]) ⟨hx, hb, hml, hown, htb⟩ (kcX1_mayStrike_1 l D c q ev hev σ y3 _ hw) (tb_CW htb kX1_mayStrike tb_428 tb_391 tb_392 ⟨Nat.le_of_ble_eq_true rfl, Nat.le_of_ble_eq_true rfl⟩) (wd_preV (wd := xw c q) (k := 1) hev hK hP hD hE hS (xw_1 c q σ) rfl) rfl rfl hl.1 rfl (lv_room (Nat.le_of_ble_eq_true rfl)) dX4_weigh_29 ⟨Nat.zero_le _, Nat.zero_le _⟩) hS (fun q _ h => h) (fun q h => h) (fun r3 σ4 t H1 locs1 ht hvm hw hB hz1 hk1 hS => ?_)
        have hP : va_P D vwCl (xw c q σ4) H1 := ht ▸ hB
        have hD : va_D (wdA 36 q) (xw c q σ4) := xw_D hD0
        refine va_iast hx hb hK hP hD hS 19 13 (xw_19 c q σ4) rfl hw.1 dX4_weigh_32 (fun H locs hP hD hS => ?_)
        have hw := hw.2
        have hP : va_P D vwCl (xw c q (hsA σ4 19 (upd (σ4.2.1 19) y3.toNatClampNeg r3))) H := hP
        obtain ⟨σ5, eσ5⟩ : ∃ z : hsS, z = hsA σ4 19 (upd (σ4.2.1 19) y3.toNatClampNeg r3) := ⟨_, rfl⟩
        rw [← eσ5] at hP
        have hD : va_D (wdA 36 q) (xw c q σ5) := xw_D hD0
        have hw := hw σ5 eσ5
        obtain ⟨v6, ev6⟩ : ∃ z : Int32, z = y3 + (1 : Int32) := ⟨_, rfl⟩
        have hw := hw v6 ev6
        refine lv_iinc (v := v6) (lv' := [(3, .int v6), (0, .ref (q 18)), (1, .ref (q 1)), (2, .int z2)]) hx hb dX4_weigh_33 hl (k := 3) rfl (by rw [ev6]; rfl) (by decide) rfl (fun ls hl => ?_)
        refine lv_goto (tgt := 17) hx hb dX4_weigh_36 (by decide) ?_
        exact ih v6 σ5 _ _ _ hw hk39 hP hS (lv_sub hl [1, 2, 3, 0] rfl)
  have hl := lv_entry ([.ref (q 18), .ref (q 1)]) (n := 4) (Nat.le_of_ble_eq_true rfl)
  rw [lg_entry_eq]
  generalize (lg_sl ([.ref (q 18), .ref (q 1)]) ++ List.replicate (4 - (lg_sl ([.ref (q 18), .ref (q 1)])).length) Slot.unset).toArray = ls at hl ⊢
  have hl : lv_has ls 4 [(0, .ref (q 18)), (1, .ref (q 1))] := hl
  unfold wX4_weigh at hw
  refine lv_iconst (v := (1 : Int32)) hx hb dX4_weigh_0 (by decide) ?_
  refine lv_aload_n hx hb dX4_weigh_1 rfl (lv_at hl 1 rfl) ?_
  refine va_getN (D := D) (ci := 1) (C := RX1) (T := TX1) (N := 12) hx hb htb inX1 hown hK hP 1 (xw_1 c q σ) rfl 1 (by decide) (htb _ tb_133) (fun _ h9 => h9) rfl dX4_weigh_2 ?_
  refine lv_ishl hx hb dX4_weigh_5 ?_
  refine lv_aload_n hx hb dX4_weigh_6 rfl (lv_at hl 0 rfl) ?_
  refine va_get (D := D) (ci := 4) (C := RX4) (T := TX4) (N := 2) hx hb htb inX4 hown hK hP 18 (xw_18 c q σ) rfl 0 (by decide) (htb _ tb_242) (fun _ h9 => h9) rfl dX4_weigh_7 ?_
  refine va_alen (v := 256) (ty := .int) hx hb hK hP 19 13 (xw_19 c q σ) rfl rfl dX4_weigh_10 ?_
  refine va_mmin hx hb (hml.trans hl.1.symm) hown (htb _ tb_427) (htb _ tb_413) (htb _ tb_104) (htb _ tb_414) (Nat.le_of_ble_eq_true rfl) (Nat.le_of_ble_eq_true rfl) (Nat.zero_le _) (Nat.zero_le _) dX4_weigh_11 ?_
  refine lv_topi (fun v1 ev1 => ?_)
  have hw := hw v1 ev1
  refine lv_istore_n (lv' := [(2, .int v1), (0, .ref (q 18)), (1, .ref (q 1))]) hx hb dX4_weigh_14 rfl hl (by decide) rfl (fun ls hl => ?_)
  refine lv_iconst (v := (0 : Int32)) hx hb dX4_weigh_15 (by decide) ?_
  refine lv_istore_n (lv' := [(3, .int (0 : Int32)), (2, .int v1), (0, .ref (q 18)), (1, .ref (q 1))]) hx hb dX4_weigh_16 rfl hl (by decide) rfl (fun ls hl => ?_)
  obtain ⟨n7, hw⟩ := hw
  refine L17 _ v1 n7 (0 : Int32) σ _ _ _ hw ?_ hP hS (lv_sub hl [2, 3, 1, 0] rfl)
  intro v8 σ9 H locs ls hw hP hS hl
  have hD : va_D (wdA 36 q) (xw c q σ9) := xw_D hD0
  exact W.vret hx hb hr (fun t ht hW => ⟨⟨σ9, rfl, hw, by unfold wdB; rw [ht]; exact hP⟩, hS.F ht⟩) hS.2.2 dX4_weigh_39
def wX4_ahead (x0 : Int32) (x1 : Int32) (post : Int32 → hsS → Prop) (σ : hsS) : Prop := wJ6_bitCount_0f7a4 x0 (fun r1 σ2 => wJ6_bitCount_0f7a4 x1 (fun r3 σ4 => ∀ v5 : Int32, v5 = r1 - r3 → ((v5 = (0 : Int32) → ∀ v7 : Int32, v7 = x0 ^^^ x1 → ∀ v8 : Int32, v8 = v7 &&& (-v7) → (((x0 &&& v8) = (0 : Int32) → post x1 σ4) ∧ (¬ (x0 &&& v8) = (0 : Int32) → post x0 σ4))) ∧ (¬ v5 = (0 : Int32) → (((0 : Int32) ≤ v5 → post x1 σ4) ∧ (¬ (0 : Int32) ≤ v5 → post x0 σ4))))) σ2) σ
set_option maxHeartbeats 4000000 in
set_option maxRecDepth 100000 in
theorem kcX4_ahead_x (l : Launch) (D : va_G) (c : Nat → ClassId) (q : Nat → Nat) (ev : State → Heap → Prop) (hev : evOK (wdA 36 q) ev) (σ : hsS) (x0 : Int32) (x1 : Int32) (post : Int32 → hsS → Prop) (hw : wX4_ahead x0 x1 post σ) : Met l yX4_ahead (Cond.code yX4_ahead cX4_ahead 5 (some .int) :: tb_L) { frames := 1, cells := 0, slots := 0, locals := 20 } (wdPc D (xw c q) (xwT c) (wdA 36 q) ev σ [.int x0, .int x1]) (va_Qi post (wdB D (xw c q)) (wdA 36 q)) 0 0 (wdA 36 q) := by
  refine Met.ofW (cc := cX4_ahead) (maxL := 5) (ret := (some .int)) (by decide) rfl ?_
  intro p e s m args below meth c₀ s₁ Bd hml hv
  obtain ⟨rfl, hP, hK, hD0, hE⟩ := hv
  have hx := Bd.exec
  have hb := Bd.bytes
  have hr := Bd.returns
  have hts := atoms_spec (ws := Cond.code yX4_ahead cX4_ahead 5 (some .int) :: tb_L) Bd.pre
  have htb : ∀ w ∈ tb_L, w.before [.int x0, .int x1].toArray s = true := fun w h => hts w (List.mem_cons_of_mem _ h)
  have hown : s.vm.findClass RX4 = some m.cls := findClass_of_methodNamed Bd.named
  have hlocks := Bd.notSynchronized
  have hS : va_S (wdA 36 q) s.heap s.heap [] := va_S.rf
  have hD := hD0
  have hl := lv_entry ([.int x0, .int x1]) (n := 5) (Nat.le_of_ble_eq_true rfl)
  rw [lg_entry_eq]
  generalize (lg_sl ([.int x0, .int x1]) ++ List.replicate (5 - (lg_sl ([.int x0, .int x1])).length) Slot.unset).toArray = ls at hl ⊢
  have hl : lv_has ls 5 [(0, .int x0), (1, .int x1)] := hl
  unfold wX4_ahead at hw
  refine lv_iload_n hx hb dX4_ahead_0 rfl (lv_at hl 0 rfl) ?_
  refine va_calli (va_runS (As := [.int x0]) (rest := []) ⟨hx, hb, hml, hown, htb⟩ (kcJ6_bitCount_0f7a4_x l D c q ev hev σ x0 _ hw) (tb_CS htb kJ6_bitCount_0f7a4 tb_449 tb_407 ⟨Nat.le_of_ble_eq_true rfl, Nat.le_of_ble_eq_true rfl⟩) (wd_preS (wd := xw c q) hev hK hP hD hE hS) rfl rfl hl.1 rfl (lv_room (Nat.le_of_ble_eq_true rfl)) dX4_ahead_1 ⟨Nat.zero_le _, Nat.zero_le _⟩) hS (fun q _ h => h) (fun q h => h) (fun r1 σ2 t H1 locs1 ht hvm hw hB hz1 hk1 hS => ?_)
  have hP : va_P D vwCl (xw c q σ2) H1 := ht ▸ hB
  have hD : va_D (wdA 36 q) (xw c q σ2) := xw_D hD0
  refine lv_iload_n hx hb dX4_ahead_4 rfl (lv_at hl 1 rfl) ?_
  refine va_calli (va_runS (As := [.int x1]) (rest := [.int r1]) ⟨hx, hb, hml, hown, htb⟩ (kcJ6_bitCount_0f7a4_x l D c q ev hev σ2 x1 _ hw) (tb_CS htb kJ6_bitCount_0f7a4 tb_449 tb_407 ⟨Nat.le_of_ble_eq_true rfl, Nat.le_of_ble_eq_true rfl⟩) (wd_preS (wd := xw c q) hev hK hP hD hE hS) rfl rfl hl.1 rfl (lv_room (Nat.le_of_ble_eq_true rfl)) dX4_ahead_5 ⟨Nat.zero_le _, Nat.zero_le _⟩) hS (fun q _ h => h) (fun q h => h) (fun r3 σ4 t H1 locs1 ht hvm hw hB hz1 hk1 hS => ?_)
  have hP : va_P D vwCl (xw c q σ4) H1 := ht ▸ hB
  have hD : va_D (wdA 36 q) (xw c q σ4) := xw_D hD0
  refine lv_isub hx hb dX4_ahead_8 ?_
  refine lv_topi (fun v5 ev5 => ?_)
  have hw := hw v5 ev5
  refine lv_istore_n (lv' := [(2, .int v5), (0, .int x0), (1, .int x1)]) hx hb dX4_ahead_9 rfl hl (by decide) rfl (fun ls hl => ?_)
  refine lv_iload_n hx hb dX4_ahead_10 rfl (lv_at hl 0 rfl) ?_
  refine lv_if_eq (tgt := 24) hx hb dX4_ahead_11 (by decide) (fun c6 => ?_) (fun c6 => ?_)
  · have hw := hw.1 c6
    refine lv_iload_n hx hb dX4_ahead_24 rfl (lv_at hl 1 rfl) ?_
    refine lv_iload_n hx hb dX4_ahead_25 rfl (lv_at hl 2 rfl) ?_
    refine lv_ixor hx hb dX4_ahead_26 ?_
    refine lv_topi (fun v7 ev7 => ?_)
    have hw := hw v7 ev7
    refine lv_istore_n (lv' := [(3, .int v7), (2, .int v5), (0, .int x0), (1, .int x1)]) hx hb dX4_ahead_27 rfl hl (by decide) rfl (fun ls hl => ?_)
    refine lv_iload_n hx hb dX4_ahead_28 rfl (lv_at hl 0 rfl) ?_
    refine lv_iload_n hx hb dX4_ahead_29 rfl (lv_at hl 0 rfl) ?_
    refine lv_ineg hx hb dX4_ahead_30 ?_
    refine lv_iand hx hb dX4_ahead_31 ?_
    refine lv_topi (fun v8 ev8 => ?_)
    have hw := hw v8 ev8
    refine lv_istore (lv' := [(4, .int v8), (3, .int v7), (2, .int v5), (0, .int x0), (1, .int x1)]) hx hb dX4_ahead_32 hl (by decide) rfl (fun ls hl => ?_)
    refine lv_iload_n hx hb dX4_ahead_34 rfl (lv_at hl 3 rfl) ?_
    refine lv_iload hx hb dX4_ahead_35 (lv_at hl 0 rfl) ?_
    refine lv_iand hx hb dX4_ahead_37 ?_
    refine lv_if_eq (tgt := 45) hx hb dX4_ahead_38 (by decide) (fun c9 => ?_) (fun c9 => ?_)
    · have hw := hw.1 c9
      refine lv_iload_n hx hb dX4_ahead_45 rfl (lv_at hl 4 rfl) ?_
      exact W.iret hx hb hr (fun t ht hW => ⟨⟨_, σ4, rfl, hw, by unfold wdB; rw [ht]; exact hP⟩, hS.F ht⟩) hS.2.2 dX4_ahead_46
    · have hw := hw.2 c9
      refine lv_iload_n hx hb dX4_ahead_41 rfl (lv_at hl 3 rfl) ?_
      refine lv_goto (tgt := 46) hx hb dX4_ahead_42 (by decide) ?_
      exact W.iret hx hb hr (fun t ht hW => ⟨⟨_, σ4, rfl, hw, by unfold wdB; rw [ht]; exact hP⟩, hS.F ht⟩) hS.2.2 dX4_ahead_46
  · have hw := hw.2 c6
    refine lv_iload_n hx hb dX4_ahead_14 rfl (lv_at hl 0 rfl) ?_
    refine lv_if_ge (tgt := 22) hx hb dX4_ahead_15 (by decide) (fun c10 => ?_) (fun c10 => ?_)
    · have hw := hw.1 c10
      refine lv_iload_n hx hb dX4_ahead_22 rfl (lv_at hl 2 rfl) ?_
      exact W.iret hx hb hr (fun t ht hW => ⟨⟨_, σ4, rfl, hw, by unfold wdB; rw [ht]; exact hP⟩, hS.F ht⟩) hS.2.2 dX4_ahead_23
    · have hw := hw.2 c10
      refine lv_iload_n hx hb dX4_ahead_18 rfl (lv_at hl 1 rfl) ?_
      refine lv_goto (tgt := 23) hx hb dX4_ahead_19 (by decide) ?_
      exact W.iret hx hb hr (fun t ht hW => ⟨⟨_, σ4, rfl, hw, by unfold wdB; rw [ht]; exact hP⟩, hS.F ht⟩) hS.2.2 dX4_ahead_23
def wX4_strikerOf_L50 (b0 : Nat) (b1 : Nat) (z2 : Int32) (z3 : Int32) (z5 : Int32) (z6 : Int32) (z7 : Int32) (K129 : Int32 → Int32 → hsS → Prop) (K138 : Int32 → Int32 → hsS → Prop) (post : Int32 → hsS → Prop) : Nat → Int32 → Int32 → hsS → Prop
  | 0, _, _, _ => False
  | n + 1, y4, y8, σ => ((z5 ≤ y8 → K138 y4 y8 σ) ∧ (¬ z5 ≤ y8 → ∀ v9 : Int32, v9 = z5 + y8 → vp_in y8 256 ∧ vp_in v9 256 ∧ ∀ σ10 : hsS, σ10 = hsA σ (b0 + 2) (upd (σ.2.1 (b0 + 2)) v9.toNatClampNeg ((σ.2.1 (b0 + 2) y8.toNatClampNeg) &&& z7)) → vp_in v9 256 ∧ wJ6_bitCount_0f7a4 (σ10.2.1 (b0 + 2) v9.toNatClampNeg) (fun r11 σ12 => vp_in v9 256 ∧ ((r11 < ((σ12.1 (64 * b1 + 0)) - (σ12.2.1 (b0 + 1) v9.toNatClampNeg)) → ∀ v14 : Int32, v14 = y8 + (1 : Int32) → wX4_strikerOf_L50 b0 b1 z2 z3 z5 z6 z7 K129 K138 post n y4 v14 σ12) ∧ (¬ r11 < ((σ12.1 (64 * b1 + 0)) - (σ12.2.1 (b0 + 1) v9.toNatClampNeg)) → ((y4 = (0 : Int32) → ((z3 = (0 : Int32) → ∀ v17 : Int32, v17 = y8 + (1 : Int32) → wX4_strikerOf_L50 b0 b1 z2 z3 z5 z6 z7 K129 K138 post n v9 v17 σ12) ∧ (¬ z3 = (0 : Int32) → K129 v9 y8 σ12))) ∧ (¬ y4 = (0 : Int32) → wX4_ahead y4 v9 (fun r18 σ19 => ((z3 = (0 : Int32) → ∀ v21 : Int32, v21 = y8 + (1 : Int32) → wX4_strikerOf_L50 b0 b1 z2 z3 z5 z6 z7 K129 K138 post n r18 v21 σ19) ∧ (¬ z3 = (0 : Int32) → K129 r18 y8 σ19))) σ12))))) σ10))
def wX4_strikerOf_L19 (b0 : Nat) (b1 : Nat) (z2 : Int32) (z3 : Int32) (K129 : Int32 → Int32 → Int32 → hsS → Prop) (K151 : Int32 → Int32 → Int32 → hsS → Prop) (post : Int32 → hsS → Prop) : Nat → Int32 → Int32 → Int32 → hsS → Prop
  | 0, _, _, _, _ => False
  | n + 1, y4, y5, y6, σ => (((σ.1 (64 * b1 + 1)) ≤ y6 → K151 y4 y5 y6 σ) ∧ (¬ (σ.1 (64 * b1 + 1)) ≤ y6 → (((256 : Int32) ≤ y5 → K151 y4 y5 y6 σ) ∧ (¬ (256 : Int32) ≤ y5 → wX1_dearerThan b1 y6 z2 (fun r6 σ7 => ∃ n22, wX4_strikerOf_L50 b0 b1 z2 z3 y5 y6 r6 (fun v23 v24 σ25 => K129 v23 y5 y6 σ25) (fun v26 v27 σ28 => ∀ v29 : Int32, v29 = y5 + y5 → ∀ v30 : Int32, v30 = y6 + (1 : Int32) → wX4_strikerOf_L19 b0 b1 z2 z3 K129 K151 post n v26 v29 v30 σ28) post n22 y4 (0 : Int32) σ7) σ))))
def wX4_strikerOf (b0 : Nat) (b1 : Nat) (x2 : Int32) (x3 : Int32) (post : Int32 → hsS → Prop) (σ : hsS) : Prop := wX1_allThings b1 (fun r1 σ2 => ∀ σ3 : hsS, σ3 = hsA σ2 (b0 + 2) (upd (σ2.2.1 (b0 + 2)) (0 : Int32).toNatClampNeg r1) → ∃ n31, wX4_strikerOf_L19 b0 b1 x2 x3 (fun v32 v33 v34 σ35 => post v32 σ35) (fun v36 v37 v38 σ39 => post v36 σ39) post n31 (0 : Int32) (1 : Int32) (0 : Int32) σ3) σ
set_option maxHeartbeats 4000000 in
set_option maxRecDepth 100000 in
theorem kcX4_strikerOf_18_1 (l : Launch) (D : va_G) (c : Nat → ClassId) (q : Nat → Nat) (ev : State → Heap → Prop) (hev : evOK (wdA 36 q) ev) (σ : hsS) (x2 : Int32) (x3 : Int32) (post : Int32 → hsS → Prop) (hw : wX4_strikerOf 18 1 x2 x3 post σ) : Met l yX4_strikerOf (Cond.code yX4_strikerOf cX4_strikerOf 10 (some .int) :: tb_L) { frames := 2, cells := 0, slots := 0, locals := 47 } (wdPc D (xw c q) (xwT c) (wdA 36 q) ev σ [.ref (q 18), .ref (q 1), .int x2, .int x3]) (va_Qi post (wdB D (xw c q)) (wdA 36 q)) 0 0 (wdA 36 q) := by
  refine Met.ofW (cc := cX4_strikerOf) (maxL := 10) (ret := (some .int)) (by decide) rfl ?_
  intro p e s m args below meth c₀ s₁ Bd hml hv
  obtain ⟨rfl, hP, hK, hD0, hE⟩ := hv
  have hx := Bd.exec
  have hb := Bd.bytes
  have hr := Bd.returns
  have hts := atoms_spec (ws := Cond.code yX4_strikerOf cX4_strikerOf 10 (some .int) :: tb_L) Bd.pre
  have htb : ∀ w ∈ tb_L, w.before [.ref (q 18), .ref (q 1), .int x2, .int x3].toArray s = true := fun w h => hts w (List.mem_cons_of_mem _ h)
  have hown : s.vm.findClass RX4 = some m.cls := findClass_of_methodNamed Bd.named
  have hlocks := Bd.notSynchronized
  have hS : va_S (wdA 36 q) s.heap s.heap [] := va_S.rf
  have hD := hD0
  have L50 : ∀ (K129 : Int32 → Int32 → hsS → Prop) (K138 : Int32 → Int32 → hsS → Prop) (z2 : Int32) (z3 : Int32) (z5 : Int32) (z6 : Int32) (z7 : Int32) (n : Nat) (y4 : Int32) (y8 : Int32) (σ : hsS) (H : Heap) (locs : List Loc) (ls : Array Slot), wX4_strikerOf_L50 18 1 z2 z3 z5 z6 z7 K129 K138 post n y4 y8 σ → (∀ (y4 : Int32) (y8 : Int32) (σ : hsS) (H : Heap) (locs : List Loc) (ls : Array Slot), K129 y4 y8 σ → va_P D vwCl (xw c q σ) H → va_S (wdA 36 q) s.heap H locs → lv_has ls 10 [(0, .ref (q 18)), (1, .ref (q 1)), (2, .int z2), (3, .int z3), (4, .int y4), (5, .int z5), (6, .int z6), (7, .int z7), (8, .int y8)] → W p l e (headSpec (Cond.code yX4_strikerOf cX4_strikerOf 10 (some .int) :: tb_L) { frames := 2, cells := 0, slots := 0, locals := 47 }).room s m [.ref (q 18), .ref (q 1), .int x2, .int x3].toArray below meth c₀ H locs 0 0 (MQ below (va_Qi post (wdB D (xw c q)) (wdA 36 q)) [.ref (q 18), .ref (q 1), .int x2, .int x3].toArray s 0 0 (wdA 36 q)) (F0 m 129 ls [])) → (∀ (y4 : Int32) (y8 : Int32) (σ : hsS) (H : Heap) (locs : List Loc) (ls : Array Slot), K138 y4 y8 σ → va_P D vwCl (xw c q σ) H → va_S (wdA 36 q) s.heap H locs → lv_has ls 10 [(0, .ref (q 18)), (1, .ref (q 1)), (2, .int z2), (3, .int z3), (4, .int y4), (5, .int z5), (6, .int z6), (7, .int z7), (8, .int y8)] → W p l e (headSpec (Cond.code yX4_strikerOf cX4_strikerOf 10 (some .int) :: tb_L) { frames := 2, cells := 0, slots := 0, locals := 47 }).room s m [.ref (q 18), .ref (q 1), .int x2, .int x3].toArray below meth c₀ H locs 0 0 (MQ below (va_Qi post (wdB D (xw c q)) (wdA 36 q)) [.ref (q 18), .ref (q 1), .int x2, .int x3].toArray s 0 0 (wdA 36 q)) (F0 m 138 ls [])) → va_P D vwCl (xw c q σ) H → va_S (wdA 36 q) s.heap H locs → lv_has ls 10 [(0, .ref (q 18)), (1, .ref (q 1)), (2, .int z2), (3, .int z3), (4, .int y4), (5, .int z5), (6, .int z6), (7, .int z7), (8, .int y8)] → W p l e (headSpec (Cond.code yX4_strikerOf cX4_strikerOf 10 (some .int) :: tb_L) { frames := 2, cells := 0, slots := 0, locals := 47 }).room s m [.ref (q 18), .ref (q 1), .int x2, .int x3].toArray below meth c₀ H locs 0 0 (MQ below (va_Qi post (wdB D (xw c q)) (wdA 36 q)) [.ref (q 18), .ref (q 1), .int x2, .int x3].toArray s 0 0 (wdA 36 q)) (F0 m 50 ls []) := by
    intro K129 K138 z2 z3 z5 z6 z7 n
    induction n with
    | zero =>
      intro y4 y8 σ H locs ls hw hk129 hk138 hP hS hl
      exact (show False from hw).elim
    | succ n ih =>
      intro y4 y8 σ H locs ls hw hk129 hk138 hP hS hl
      rw [wX4_strikerOf_L50] at hw
      have hD : va_D (wdA 36 q) (xw c q σ) := xw_D hD0
      refine lv_iload hx hb dX4_strikerOf_50 (lv_at hl 8 rfl) ?_
      refine lv_iload hx hb dX4_strikerOf_52 (lv_at hl 5 rfl) ?_
      refine lv_icmp_ge (tgt := 138) hx hb dX4_strikerOf_54 (by decide) (fun c8 => ?_) (fun c8 => ?_)
      · have hw := hw.1 c8
        exact hk138 y4 y8 σ _ _ _ hw hP hS (lv_sub hl [0, 1, 2, 3, 4, 5, 6, 7, 8] rfl)
      · have hw := hw.2 c8
        refine lv_iload hx hb dX4_strikerOf_57 (lv_at hl 5 rfl) ?_
        refine lv_iload hx hb dX4_strikerOf_59 (lv_at hl 8 rfl) ?_
        refine lv_iadd hx hb dX4_strikerOf_61 ?_
        refine lv_topi (fun v9 ev9 => ?_)
        have hw := hw v9 ev9
        refine lv_istore (lv' := [(9, .int v9), (0, .ref (q 18)), (1, .ref (q 1)), (2, .int z2), (3, .int z3), (4, .int y4), (5, .int z5), (6, .int z6), (7, .int z7), (8, .int y8)]) hx hb dX4_strikerOf_62 hl (by decide) rfl (fun ls hl => ?_)
        refine lv_aload_n hx hb dX4_strikerOf_64 rfl (lv_at hl 1 rfl) ?_
        refine va_get (D := D) (ci := 4) (C := RX4) (T := TX4) (N := 2) hx hb htb inX4 hown hK hP 18 (xw_18 c q σ) rfl 1 (by decide) (htb _ tb_243) (fun _ h9 => h9) rfl dX4_strikerOf_65 ?_
        refine lv_iload hx hb dX4_strikerOf_68 (lv_at hl 0 rfl) ?_
        refine lv_aload_n hx hb dX4_strikerOf_70 rfl (lv_at hl 1 rfl) ?_
        refine va_get (D := D) (ci := 4) (C := RX4) (T := TX4) (N := 2) hx hb htb inX4 hown hK hP 18 (xw_18 c q σ) rfl 1 (by decide) (htb _ tb_243) (fun _ h9 => h9) rfl dX4_strikerOf_71 ?_
        refine lv_iload hx hb dX4_strikerOf_74 (lv_at hl 9 rfl) ?_
        refine va_iald hx hb hK hP 20 14 (xw_20 c q σ) rfl hw.1 dX4_strikerOf_76 ?_
        have hw := hw.2
        refine lv_iload hx hb dX4_strikerOf_77 (lv_at hl 8 rfl) ?_
        refine lv_iand hx hb dX4_strikerOf_79 ?_
        refine va_iast hx hb hK hP hD hS 20 14 (xw_20 c q σ) rfl hw.1 dX4_strikerOf_80 (fun H locs hP hD hS => ?_)
        have hw := hw.2
        have hP : va_P D vwCl (xw c q (hsA σ 20 (upd (σ.2.1 20) v9.toNatClampNeg ((σ.2.1 20 y8.toNatClampNeg) &&& z7)))) H := hP
        obtain ⟨σ10, eσ10⟩ : ∃ z : hsS, z = hsA σ 20 (upd (σ.2.1 20) v9.toNatClampNeg ((σ.2.1 20 y8.toNatClampNeg) &&& z7)) := ⟨_, rfl⟩
        rw [← eσ10] at hP
        have hD : va_D (wdA 36 q) (xw c q σ10) := xw_D hD0
        have hw := hw σ10 eσ10
        refine lv_aload_n hx hb dX4_strikerOf_81 rfl (lv_at hl 1 rfl) ?_
        refine va_get (D := D) (ci := 4) (C := RX4) (T := TX4) (N := 2) hx hb htb inX4 hown hK hP 18 (xw_18 c q σ10) rfl 1 (by decide) (htb _ tb_243) (fun _ h9 => h9) rfl dX4_strikerOf_82 ?_
        refine lv_iload hx hb dX4_strikerOf_85 (lv_at hl 0 rfl) ?_
        refine va_iald hx hb hK hP 20 14 (xw_20 c q σ10) rfl hw.1 dX4_strikerOf_87 ?_
        have hw := hw.2
        refine va_calli (va_runS (As := [.int (σ10.2.1 20 v9.toNatClampNeg)]) (rest := []) ⟨hx, hb, hml, hown, htb⟩ (kcJ6_bitCount_0f7a4_x l D c q ev hev σ10 (σ10.2.1 20 v9.toNatClampNeg) _ hw) (tb_CS htb kJ6_bitCount_0f7a4 tb_449 tb_407 ⟨Nat.le_of_ble_eq_true rfl, Nat.le_of_ble_eq_true rfl⟩) (wd_preS (wd := xw c q) hev hK hP hD hE hS) rfl rfl hl.1 rfl (lv_room (Nat.le_of_ble_eq_true rfl)) dX4_strikerOf_88 ⟨Nat.zero_le _, Nat.zero_le _⟩) hS (fun q _ h => h) (fun q h => h) (fun r11 σ12 t H1 locs1 ht hvm hw hB hz1 hk1 hS => ?_)
        have hP : va_P D vwCl (xw c q σ12) H1 := ht ▸ hB
        have hD : va_D (wdA 36 q) (xw c q σ12) := xw_D hD0
        refine lv_aload_n hx hb dX4_strikerOf_91 rfl (lv_at hl 2 rfl) ?_
        refine va_getN (D := D) (ci := 1) (C := RX1) (T := TX1) (N := 12) hx hb htb inX1 hown hK hP 1 (xw_1 c q σ12) rfl 0 (by decide) (htb _ tb_127) (fun _ h9 => h9) rfl dX4_strikerOf_92 ?_
        refine lv_aload_n hx hb dX4_strikerOf_95 rfl (lv_at hl 1 rfl) ?_
        refine va_get (D := D) (ci := 4) (C := RX4) (T := TX4) (N := 2) hx hb htb inX4 hown hK hP 18 (xw_18 c q σ12) rfl 0 (by decide) (htb _ tb_242) (fun _ h9 => h9) rfl dX4_strikerOf_96 ?_
        refine lv_iload hx hb dX4_strikerOf_99 (lv_at hl 0 rfl) ?_
        refine va_iald hx hb hK hP 19 13 (xw_19 c q σ12) rfl hw.1 dX4_strikerOf_101 ?_
        have hw := hw.2
        refine lv_isub hx hb dX4_strikerOf_102 ?_
        refine lv_icmp_lt (tgt := 132) hx hb dX4_strikerOf_103 (by decide) (fun c13 => ?_) (fun c13 => ?_)
        · have hw := hw.1 c13
          obtain ⟨v14, ev14⟩ : ∃ z : Int32, z = y8 + (1 : Int32) := ⟨_, rfl⟩
          have hw := hw v14 ev14
          refine lv_iinc (v := v14) (lv' := [(8, .int v14), (9, .int v9), (0, .ref (q 18)), (1, .ref (q 1)), (2, .int z2), (3, .int z3), (4, .int y4), (5, .int z5), (6, .int z6), (7, .int z7)]) hx hb dX4_strikerOf_132 hl (k := 9) rfl (by rw [ev14]; rfl) (by decide) rfl (fun ls hl => ?_)
          refine lv_goto (tgt := 50) hx hb dX4_strikerOf_135 (by decide) ?_
          exact ih y4 v14 σ12 _ _ _ hw hk129 hk138 hP hS (lv_sub hl [2, 3, 4, 5, 6, 7, 8, 9, 0] rfl)
        · have hw := hw.2 c13
          refine lv_iload hx hb dX4_strikerOf_106 (lv_at hl 5 rfl) ?_
          refine lv_if_ne (tgt := 116) hx hb dX4_strikerOf_108 (by decide) (fun c15 => ?_) (fun c15 => ?_)
          · have hw := hw.2 c15
            refine lv_iload hx hb dX4_strikerOf_116 (lv_at hl 5 rfl) ?_
            refine lv_iload hx hb dX4_strikerOf_118 (lv_at hl 0 rfl) ?_
            refine va_calli (va_runS (As := [.int y4, .int v9]) (rest := []) ⟨hx, hb, hml, hown, htb⟩ (kcX4_ahead_x l D c q ev hev σ12 y4 v9 _ hw) (tb_CS htb kX4_ahead tb_450 tb_451 ⟨Nat.le_of_ble_eq_true rfl, Nat.le_of_ble_eq_true rfl⟩) (wd_preS (wd := xw c q) hev hK hP hD hE hS) rfl rfl hl.1 rfl (lv_room (Nat.le_of_ble_eq_true rfl)) dX4_strikerOf_120 ⟨Nat.zero_le _, Nat.zero_le _⟩) hS (fun q _ h => h) (fun q h => h) (fun r18 σ19 t H1 locs1 ht hvm hw hB hz1 hk1 hS => ?_)
            have hP : va_P D vwCl (xw c q σ19) H1 := ht ▸ hB
            have hD : va_D (wdA 36 q) (xw c q σ19) := xw_D hD0
            refine lv_istore (lv' := [(4, .int r18), (9, .int v9), (0, .ref (q 18)), (1, .ref (q 1)), (2, .int z2), (3, .int z3), (5, .int z5), (6, .int z6), (7, .int z7), (8, .int y8)]) hx hb dX4_strikerOf_123 hl (by decide) rfl (fun ls hl => ?_)
            refine lv_iload_n hx hb dX4_strikerOf_125 rfl (lv_at hl 5 rfl) ?_
            refine lv_if_eq (tgt := 132) hx hb dX4_strikerOf_126 (by decide) (fun c20 => ?_) (fun c20 => ?_)
            · have hw := hw.1 c20
              obtain ⟨v21, ev21⟩ : ∃ z : Int32, z = y8 + (1 : Int32) := ⟨_, rfl⟩
              have hw := hw v21 ev21
              refine lv_iinc (v := v21) (lv' := [(8, .int v21), (4, .int r18), (9, .int v9), (0, .ref (q 18)), (1, .ref (q 1)), (2, .int z2), (3, .int z3), (5, .int z5), (6, .int z6), (7, .int z7)]) hx hb dX4_strikerOf_132 hl (k := 9) rfl (by rw [ev21]; rfl) (by decide) rfl (fun ls hl => ?_)
              refine lv_goto (tgt := 50) hx hb dX4_strikerOf_135 (by decide) ?_
              exact ih r18 v21 σ19 _ _ _ hw hk129 hk138 hP hS (lv_sub hl [3, 4, 5, 6, 1, 7, 8, 9, 0] rfl)
            · have hw := hw.2 c20
              exact hk129 r18 y8 σ19 _ _ _ hw hP hS (lv_sub hl [2, 3, 4, 5, 0, 6, 7, 8, 9] rfl)
          · have hw := hw.1 c15
            refine lv_iload hx hb dX4_strikerOf_111 (lv_at hl 0 rfl) ?_
            refine lv_goto (tgt := 123) hx hb dX4_strikerOf_113 (by decide) ?_
            refine lv_istore (lv' := [(4, .int v9), (9, .int v9), (0, .ref (q 18)), (1, .ref (q 1)), (2, .int z2), (3, .int z3), (5, .int z5), (6, .int z6), (7, .int z7), (8, .int y8)]) hx hb dX4_strikerOf_123 hl (by decide) rfl (fun ls hl => ?_)
            refine lv_iload_n hx hb dX4_strikerOf_125 rfl (lv_at hl 5 rfl) ?_
            refine lv_if_eq (tgt := 132) hx hb dX4_strikerOf_126 (by decide) (fun c16 => ?_) (fun c16 => ?_)
            · have hw := hw.1 c16
              obtain ⟨v17, ev17⟩ : ∃ z : Int32, z = y8 + (1 : Int32) := ⟨_, rfl⟩
              have hw := hw v17 ev17
              refine lv_iinc (v := v17) (lv' := [(8, .int v17), (4, .int v9), (9, .int v9), (0, .ref (q 18)), (1, .ref (q 1)), (2, .int z2), (3, .int z3), (5, .int z5), (6, .int z6), (7, .int z7)]) hx hb dX4_strikerOf_132 hl (k := 9) rfl (by rw [ev17]; rfl) (by decide) rfl (fun ls hl => ?_)
              refine lv_goto (tgt := 50) hx hb dX4_strikerOf_135 (by decide) ?_
              exact ih v9 v17 σ12 _ _ _ hw hk129 hk138 hP hS (lv_sub hl [3, 4, 5, 6, 1, 7, 8, 9, 0] rfl)
            · have hw := hw.2 c16
              exact hk129 v9 y8 σ12 _ _ _ hw hP hS (lv_sub hl [2, 3, 4, 5, 0, 6, 7, 8, 9] rfl)
  have L19 : ∀ (K129 : Int32 → Int32 → Int32 → hsS → Prop) (K151 : Int32 → Int32 → Int32 → hsS → Prop) (z2 : Int32) (z3 : Int32) (n : Nat) (y4 : Int32) (y5 : Int32) (y6 : Int32) (σ : hsS) (H : Heap) (locs : List Loc) (ls : Array Slot), wX4_strikerOf_L19 18 1 z2 z3 K129 K151 post n y4 y5 y6 σ → (∀ (y4 : Int32) (y5 : Int32) (y6 : Int32) (σ : hsS) (H : Heap) (locs : List Loc) (ls : Array Slot), K129 y4 y5 y6 σ → va_P D vwCl (xw c q σ) H → va_S (wdA 36 q) s.heap H locs → lv_has ls 10 [(0, .ref (q 18)), (1, .ref (q 1)), (2, .int z2), (3, .int z3), (4, .int y4), (5, .int y5), (6, .int y6)] → W p l e (headSpec (Cond.code yX4_strikerOf cX4_strikerOf 10 (some .int) :: tb_L) { frames := 2, cells := 0, slots := 0, locals := 47 }).room s m [.ref (q 18), .ref (q 1), .int x2, .int x3].toArray below meth c₀ H locs 0 0 (MQ below (va_Qi post (wdB D (xw c q)) (wdA 36 q)) [.ref (q 18), .ref (q 1), .int x2, .int x3].toArray s 0 0 (wdA 36 q)) (F0 m 129 ls [])) → (∀ (y4 : Int32) (y5 : Int32) (y6 : Int32) (σ : hsS) (H : Heap) (locs : List Loc) (ls : Array Slot), K151 y4 y5 y6 σ → va_P D vwCl (xw c q σ) H → va_S (wdA 36 q) s.heap H locs → lv_has ls 10 [(0, .ref (q 18)), (1, .ref (q 1)), (2, .int z2), (3, .int z3), (4, .int y4), (5, .int y5), (6, .int y6)] → W p l e (headSpec (Cond.code yX4_strikerOf cX4_strikerOf 10 (some .int) :: tb_L) { frames := 2, cells := 0, slots := 0, locals := 47 }).room s m [.ref (q 18), .ref (q 1), .int x2, .int x3].toArray below meth c₀ H locs 0 0 (MQ below (va_Qi post (wdB D (xw c q)) (wdA 36 q)) [.ref (q 18), .ref (q 1), .int x2, .int x3].toArray s 0 0 (wdA 36 q)) (F0 m 151 ls [])) → va_P D vwCl (xw c q σ) H → va_S (wdA 36 q) s.heap H locs → lv_has ls 10 [(0, .ref (q 18)), (1, .ref (q 1)), (2, .int z2), (3, .int z3), (4, .int y4), (5, .int y5), (6, .int y6)] → W p l e (headSpec (Cond.code yX4_strikerOf cX4_strikerOf 10 (some .int) :: tb_L) { frames := 2, cells := 0, slots := 0, locals := 47 }).room s m [.ref (q 18), .ref (q 1), .int x2, .int x3].toArray below meth c₀ H locs 0 0 (MQ below (va_Qi post (wdB D (xw c q)) (wdA 36 q)) [.ref (q 18), .ref (q 1), .int x2, .int x3].toArray s 0 0 (wdA 36 q)) (F0 m 19 ls []) := by
    intro K129 K151 z2 z3 n
    induction n with
    | zero =>
      intro y4 y5 y6 σ H locs ls hw hk129 hk151 hP hS hl
      exact (show False from hw).elim
    | succ n ih =>
      intro y4 y5 y6 σ H locs ls hw hk129 hk151 hP hS hl
      rw [wX4_strikerOf_L19] at hw
      have hD : va_D (wdA 36 q) (xw c q σ) := xw_D hD0
      refine lv_iload hx hb dX4_strikerOf_19 (lv_at hl 6 rfl) ?_
      refine lv_aload_n hx hb dX4_strikerOf_21 rfl (lv_at hl 1 rfl) ?_
      refine va_getN (D := D) (ci := 1) (C := RX1) (T := TX1) (N := 12) hx hb htb inX1 hown hK hP 1 (xw_1 c q σ) rfl 1 (by decide) (htb _ tb_133) (fun _ h9 => h9) rfl dX4_strikerOf_22 ?_
      refine lv_icmp_ge (tgt := 151) hx hb dX4_strikerOf_25 (by decide) (fun c4 => ?_) (fun c4 => ?_)
      · have hw := hw.1 c4
        exact hk151 y4 y5 y6 σ _ _ _ hw hP hS (lv_sub hl [0, 1, 2, 3, 4, 5, 6] rfl)
      · have hw := hw.2 c4
        refine lv_iload hx hb dX4_strikerOf_28 (lv_at hl 5 rfl) ?_
        refine lv_aload_n hx hb dX4_strikerOf_30 rfl (lv_at hl 0 rfl) ?_
        refine va_get (D := D) (ci := 4) (C := RX4) (T := TX4) (N := 2) hx hb htb inX4 hown hK hP 18 (xw_18 c q σ) rfl 1 (by decide) (htb _ tb_243) (fun _ h9 => h9) rfl dX4_strikerOf_31 ?_
        refine va_alen (v := 256) (ty := .int) hx hb hK hP 20 14 (xw_20 c q σ) rfl rfl dX4_strikerOf_34 ?_
        refine lv_icmp_ge (tgt := 151) hx hb dX4_strikerOf_35 (by decide) (fun c5 => ?_) (fun c5 => ?_)
        · have hw := hw.1 c5
          exact hk151 y4 y5 y6 σ _ _ _ hw hP hS (lv_sub hl [0, 1, 2, 3, 4, 5, 6] rfl)
        · have hw := hw.2 c5
          refine lv_aload_n hx hb dX4_strikerOf_38 rfl (lv_at hl 1 rfl) ?_
          refine lv_iload hx hb dX4_strikerOf_39 (lv_at hl 6 rfl) ?_
          refine lv_iload_n hx hb dX4_strikerOf_41 rfl (lv_at hl 2 rfl) ?_
          refine va_calli (va_runV (As := [.int y6, .int z2]) (rest := []) ⟨hx, hb, hml, hown, htb⟩ (kcX1_dearerThan_1 l D c q ev hev σ y6 z2 _ hw) (tb_CW htb kX1_dearerThan tb_441 tb_442 tb_443 ⟨Nat.le_of_ble_eq_true rfl, Nat.le_of_ble_eq_true rfl⟩) (wd_preV (wd := xw c q) (k := 1) hev hK hP hD hE hS (xw_1 c q σ) rfl) rfl rfl hl.1 rfl (lv_room (Nat.le_of_ble_eq_true rfl)) dX4_strikerOf_42 ⟨Nat.zero_le _, Nat.zero_le _⟩) hS (fun q _ h => h) (fun q h => h) (fun r6 σ7 t H1 locs1 ht hvm hw hB hz1 hk1 hS => ?_)
          have hP : va_P D vwCl (xw c q σ7) H1 := ht ▸ hB
          have hD : va_D (wdA 36 q) (xw c q σ7) := xw_D hD0
          refine lv_istore (lv' := [(7, .int r6), (0, .ref (q 18)), (1, .ref (q 1)), (2, .int z2), (3, .int z3), (4, .int y4), (5, .int y5), (6, .int y6)]) hx hb dX4_strikerOf_45 hl (by decide) rfl (fun ls hl => ?_)
          refine lv_iconst (v := (0 : Int32)) hx hb dX4_strikerOf_47 (by decide) ?_
          refine lv_istore (lv' := [(8, .int (0 : Int32)), (7, .int r6), (0, .ref (q 18)), (1, .ref (q 1)), (2, .int z2), (3, .int z3), (4, .int y4), (5, .int y5), (6, .int y6)]) hx hb dX4_strikerOf_48 hl (by decide) rfl (fun ls hl => ?_)
          obtain ⟨n22, hw⟩ := hw
          refine L50 _ _ z2 z3 y5 y6 r6 n22 y4 (0 : Int32) σ7 _ _ _ hw ?_ ?_ hP hS (lv_sub hl [2, 3, 4, 5, 6, 7, 8, 1, 0] rfl)
          · intro v23 v24 σ25 H locs ls hw hP hS hl
            have hD : va_D (wdA 36 q) (xw c q σ25) := xw_D hD0
            exact hk129 v23 y5 y6 σ25 _ _ _ hw hP hS (lv_sub hl [0, 1, 2, 3, 4, 5, 6] rfl)
          · intro v26 v27 σ28 H locs ls hw hP hS hl
            have hD : va_D (wdA 36 q) (xw c q σ28) := xw_D hD0
            refine lv_iload hx hb dX4_strikerOf_138 (lv_at hl 5 rfl) ?_
            refine lv_iload hx hb dX4_strikerOf_140 (lv_at hl 5 rfl) ?_
            refine lv_iadd hx hb dX4_strikerOf_142 ?_
            refine lv_topi (fun v29 ev29 => ?_)
            have hw := hw v29 ev29
            refine lv_istore (lv' := [(5, .int v29), (0, .ref (q 18)), (1, .ref (q 1)), (2, .int z2), (3, .int z3), (4, .int v26), (6, .int y6), (7, .int r6), (8, .int v27)]) hx hb dX4_strikerOf_143 hl (by decide) rfl (fun ls hl => ?_)
            obtain ⟨v30, ev30⟩ : ∃ z : Int32, z = y6 + (1 : Int32) := ⟨_, rfl⟩
            have hw := hw v30 ev30
            refine lv_iinc (v := v30) (lv' := [(6, .int v30), (5, .int v29), (0, .ref (q 18)), (1, .ref (q 1)), (2, .int z2), (3, .int z3), (4, .int v26), (7, .int r6), (8, .int v27)]) hx hb dX4_strikerOf_145 hl (k := 6) rfl (by rw [ev30]; rfl) (by decide) rfl (fun ls hl => ?_)
            refine lv_goto (tgt := 19) hx hb dX4_strikerOf_148 (by decide) ?_
            exact ih v26 v29 v30 σ28 _ _ _ hw hk129 hk151 hP hS (lv_sub hl [2, 3, 4, 5, 6, 1, 0] rfl)
  have hl := lv_entry ([.ref (q 18), .ref (q 1), .int x2, .int x3]) (n := 10) (Nat.le_of_ble_eq_true rfl)
  rw [lg_entry_eq]
  generalize (lg_sl ([.ref (q 18), .ref (q 1), .int x2, .int x3]) ++ List.replicate (10 - (lg_sl ([.ref (q 18), .ref (q 1), .int x2, .int x3])).length) Slot.unset).toArray = ls at hl ⊢
  have hl : lv_has ls 10 [(0, .ref (q 18)), (1, .ref (q 1)), (2, .int x2), (3, .int x3)] := hl
  unfold wX4_strikerOf at hw
  refine lv_iconst (v := (0 : Int32)) hx hb dX4_strikerOf_0 (by decide) ?_
  refine lv_istore (lv' := [(4, .int (0 : Int32)), (0, .ref (q 18)), (1, .ref (q 1)), (2, .int x2), (3, .int x3)]) hx hb dX4_strikerOf_1 hl (by decide) rfl (fun ls hl => ?_)
  refine lv_aload_n hx hb dX4_strikerOf_3 rfl (lv_at hl 1 rfl) ?_
  refine va_get (D := D) (ci := 4) (C := RX4) (T := TX4) (N := 2) hx hb htb inX4 hown hK hP 18 (xw_18 c q σ) rfl 1 (by decide) (htb _ tb_243) (fun _ h9 => h9) rfl dX4_strikerOf_4 ?_
  refine lv_iconst (v := (0 : Int32)) hx hb dX4_strikerOf_7 (by decide) ?_
  refine lv_aload_n hx hb dX4_strikerOf_8 rfl (lv_at hl 2 rfl) ?_
  refine va_calli (va_runV (As := []) (rest := [.int (0 : Int32), .ref (q 20)]) ⟨hx, hb, hml, hown, htb⟩ (kcX1_allThings_1 l D c q ev hev σ  _ hw) (tb_CW htb kX1_allThings tb_437 tb_438 tb_439 ⟨Nat.le_of_ble_eq_true rfl, Nat.le_of_ble_eq_true rfl⟩) (wd_preV (wd := xw c q) (k := 1) hev hK hP hD hE hS (xw_1 c q σ) rfl) rfl rfl hl.1 rfl (lv_room (Nat.le_of_ble_eq_true rfl)) dX4_strikerOf_9 ⟨Nat.zero_le _, Nat.zero_le _⟩) hS (fun q _ h => h) (fun q h => h) (fun r1 σ2 t H1 locs1 ht hvm hw hB hz1 hk1 hS => ?_)
  have hP : va_P D vwCl (xw c q σ2) H1 := ht ▸ hB
  have hD : va_D (wdA 36 q) (xw c q σ2) := xw_D hD0
  refine va_iast hx hb hK hP hD hS 20 14 (xw_20 c q σ2) rfl (by unfold vp_in; decide) dX4_strikerOf_12 (fun H locs hP hD hS => ?_)
  have hP : va_P D vwCl (xw c q (hsA σ2 20 (upd (σ2.2.1 20) (0 : Int32).toNatClampNeg r1))) H := hP
  obtain ⟨σ3, eσ3⟩ : ∃ z : hsS, z = hsA σ2 20 (upd (σ2.2.1 20) (0 : Int32).toNatClampNeg r1) := ⟨_, rfl⟩
  rw [← eσ3] at hP
  have hD : va_D (wdA 36 q) (xw c q σ3) := xw_D hD0
  have hw := hw σ3 eσ3
  refine lv_iconst (v := (1 : Int32)) hx hb dX4_strikerOf_13 (by decide) ?_
  refine lv_istore (lv' := [(5, .int (1 : Int32)), (4, .int (0 : Int32)), (0, .ref (q 18)), (1, .ref (q 1)), (2, .int x2), (3, .int x3)]) hx hb dX4_strikerOf_14 hl (by decide) rfl (fun ls hl => ?_)
  refine lv_iconst (v := (0 : Int32)) hx hb dX4_strikerOf_16 (by decide) ?_
  refine lv_istore (lv' := [(6, .int (0 : Int32)), (5, .int (1 : Int32)), (4, .int (0 : Int32)), (0, .ref (q 18)), (1, .ref (q 1)), (2, .int x2), (3, .int x3)]) hx hb dX4_strikerOf_17 hl (by decide) rfl (fun ls hl => ?_)
  obtain ⟨n31, hw⟩ := hw
  refine L19 _ _ x2 x3 n31 (0 : Int32) (1 : Int32) (0 : Int32) σ3 _ _ _ hw ?_ ?_ hP hS (lv_sub hl [3, 4, 5, 6, 2, 1, 0] rfl)
  · intro v32 v33 v34 σ35 H locs ls hw hP hS hl
    have hD : va_D (wdA 36 q) (xw c q σ35) := xw_D hD0
    refine lv_iload hx hb dX4_strikerOf_129 (lv_at hl 4 rfl) ?_
    exact W.iret hx hb hr (fun t ht hW => ⟨⟨_, σ35, rfl, hw, by unfold wdB; rw [ht]; exact hP⟩, hS.F ht⟩) hS.2.2 dX4_strikerOf_131
  · intro v36 v37 v38 σ39 H locs ls hw hP hS hl
    have hD : va_D (wdA 36 q) (xw c q σ39) := xw_D hD0
    refine lv_iload hx hb dX4_strikerOf_151 (lv_at hl 4 rfl) ?_
    exact W.iret hx hb hr (fun t ht hW => ⟨⟨_, σ39, rfl, hw, by unfold wdB; rw [ht]; exact hP⟩, hS.F ht⟩) hS.2.2 dX4_strikerOf_153
def wX7_striker (x1 : Int32) (post : Int32 → hsS → Prop) (px : hsS → Prop) (σ : hsS) : Prop := wX7_needThing x1 (fun σ2 => wX4_weigh 18 1 (fun σ4 => wX4_strikerOf 18 1 x1 (0 : Int32) (fun r5 σ6 => post r5 σ6) σ4) σ2) px σ
set_option maxHeartbeats 4000000 in
set_option maxRecDepth 100000 in
theorem kcX7_striker (l : Launch) (D : va_G) (c : Nat → ClassId) (q : Nat → Nat) (ev : State → Heap → Prop) (hev : evOK (wdA 36 q) ev) (hst : l.stackTraces = false) (hX : ∀ (U : State) (H : Heap), ev U H → evT (wdA 36 q) U H) (σ : hsS) (x1 : Int32) (post : Int32 → hsS → Prop) (px : hsS → Prop) (hw : wX7_striker x1 post px σ) : vx_Met l yX7_striker (Cond.code yX7_striker cX7_striker 2 (some .int) :: tb_L) { frames := 9, cells := 1, slots := 6, locals := 149 } (wdPc D (xw c q) (xwT c) (wdA 36 q) ev σ [.ref (q 0), .int x1]) (va_Qi post (wdB D (xw c q)) (wdA 36 q)) (vx_X px (xpB D (xw c q) "java/util/NoSuchElementException") (wdA 36 q)) 1 6 (wdA 36 q) := by
  refine vx_ofW (cc := cX7_striker) (maxL := 2) (ret := (some .int)) (by decide) rfl ?_
  intro p e s m args below meth c₀ s₁ Bd hml htab hv
  obtain ⟨rfl, hP, hK, hD0, hE⟩ := hv
  have hx := Bd.exec
  have hb := Bd.bytes
  have hr := Bd.returns
  have hts := atoms_spec (ws := Cond.code yX7_striker cX7_striker 2 (some .int) :: tb_L) Bd.pre
  have htb : ∀ w ∈ tb_L, w.before [.ref (q 0), .int x1].toArray s = true := fun w h => hts w (List.mem_cons_of_mem _ h)
  have hown : s.vm.findClass RX7 = some m.cls := findClass_of_methodNamed Bd.named
  have hlocks := Bd.notSynchronized
  have hS : va_S (wdA 36 q) s.heap s.heap [] := va_S.rf
  have hD := hD0
  have hl := lv_entry ([.ref (q 0), .int x1]) (n := 2) (Nat.le_of_ble_eq_true rfl)
  rw [lg_entry_eq]
  generalize (lg_sl ([.ref (q 0), .int x1]) ++ List.replicate (2 - (lg_sl ([.ref (q 0), .int x1])).length) Slot.unset).toArray = ls at hl ⊢
  have hl : lv_has ls 2 [(0, .ref (q 0)), (1, .int x1)] := hl
  unfold wX7_striker at hw
  refine lv_aload_n hx hb dX7_striker_0 rfl (lv_at hl 0 rfl) ?_
  refine lv_iload_n hx hb dX7_striker_1 rfl (lv_at hl 1 rfl) ?_
  refine vx_callv (vx_runV (As := [.int x1]) (rest := []) ⟨hx, hb, hml, hown, htb⟩ (kcX7_needThing l D c q ev hev hst hX σ x1 _ px hw) (tb_CW htb kX7_needThing tb_911 tb_913 tb_33 ⟨Nat.le_of_ble_eq_true rfl, Nat.le_of_ble_eq_true rfl⟩) (wd_preV (wd := xw c q) (k := 0) hev hK hP hD hE hS (xw_0 c q σ) rfl) rfl rfl hl.1 rfl (lv_room (Nat.le_of_ble_eq_true rfl)) dX7_striker_2 ⟨Nat.le_of_ble_eq_true rfl, Nat.le_of_ble_eq_true rfl⟩) hS (fun q _ h => h) (fun q h => h) (fun q _ h => h) (fun E9 ce9 q9 σx t H1 locs1 ht hvm hpx hBX hz1 hk1 hS hce hcv hcl => vx_out (fun x h => (htab x h).elim) hlocks hce hcv hcl (fun t2 ht2 _ => ⟨σx, hpx, ⟨hBX.1, by rw [ht2, ← ht]; exact hBX.2⟩, hS.F ht2⟩) hS.2.2 (Nat.le_of_ble_eq_true rfl) (Nat.le_of_ble_eq_true rfl)) (fun σ2 t H1 locs1 ht hvm hw hB hz1 hk1 hS => ?_)
  have hP : va_P D vwCl (xw c q σ2) H1 := ht ▸ hB
  have hD : va_D (wdA 36 q) (xw c q σ2) := xw_D hD0
  refine lv_aload_n hx hb dX7_striker_5 rfl (lv_at hl 0 rfl) ?_
  refine va_get (D := D) (ci := 7) (C := RX7) (T := TX7) (N := 9) hx hb htb inX7 hown hK hP 0 (xw_0 c q σ2) rfl 3 (by decide) (htb _ tb_345) (fun _ h9 => h9) rfl dX7_striker_6 ?_
  refine lv_aload_n hx hb dX7_striker_9 rfl (lv_at hl 0 rfl) ?_
  refine va_get (D := D) (ci := 7) (C := RX7) (T := TX7) (N := 9) hx hb htb inX7 hown hK hP 0 (xw_0 c q σ2) rfl 0 (by decide) (htb _ tb_342) (fun _ h9 => h9) rfl dX7_striker_10 ?_
  refine va_callv (va_runV (As := [.ref (q 1)]) (rest := []) ⟨hx, hb, hml, hown, htb⟩ (kcX4_weigh_18_1 l D c q ev hev σ2  _ hw) (tb_CW htb kX4_weigh tb_953 tb_424 tb_425 ⟨Nat.le_of_ble_eq_true rfl, Nat.le_of_ble_eq_true rfl⟩) (wd_preV (wd := xw c q) (k := 18) hev hK hP hD hE hS (xw_18 c q σ2) rfl) rfl rfl hl.1 rfl (lv_room (Nat.le_of_ble_eq_true rfl)) dX7_striker_13 ⟨Nat.le_of_ble_eq_true rfl, Nat.le_of_ble_eq_true rfl⟩) hS (fun q _ h => h) (fun q h => h) (fun σ4 t H1 locs1 ht hvm hw hB hz1 hk1 hS => ?_)
  have hP : va_P D vwCl (xw c q σ4) H1 := ht ▸ hB
  have hD : va_D (wdA 36 q) (xw c q σ4) := xw_D hD0
  refine lv_aload_n hx hb dX7_striker_16 rfl (lv_at hl 0 rfl) ?_
  refine va_get (D := D) (ci := 7) (C := RX7) (T := TX7) (N := 9) hx hb htb inX7 hown hK hP 0 (xw_0 c q σ4) rfl 3 (by decide) (htb _ tb_345) (fun _ h9 => h9) rfl dX7_striker_17 ?_
  refine lv_aload_n hx hb dX7_striker_20 rfl (lv_at hl 0 rfl) ?_
  refine va_get (D := D) (ci := 7) (C := RX7) (T := TX7) (N := 9) hx hb htb inX7 hown hK hP 0 (xw_0 c q σ4) rfl 0 (by decide) (htb _ tb_342) (fun _ h9 => h9) rfl dX7_striker_21 ?_
  refine lv_iload_n hx hb dX7_striker_24 rfl (lv_at hl 1 rfl) ?_
  refine lv_iconst (v := (0 : Int32)) hx hb dX7_striker_25 (by decide) ?_
  refine va_calli (va_runV (As := [.ref (q 1), .int x1, .int (0 : Int32)]) (rest := []) ⟨hx, hb, hml, hown, htb⟩ (kcX4_strikerOf_18_1 l D c q ev hev σ4 x1 (0 : Int32) _ hw) (tb_CW htb kX4_strikerOf tb_954 tb_434 tb_435 ⟨Nat.le_of_ble_eq_true rfl, Nat.le_of_ble_eq_true rfl⟩) (wd_preV (wd := xw c q) (k := 18) hev hK hP hD hE hS (xw_18 c q σ4) rfl) rfl rfl hl.1 rfl (lv_room (Nat.le_of_ble_eq_true rfl)) dX7_striker_26 ⟨Nat.le_of_ble_eq_true rfl, Nat.le_of_ble_eq_true rfl⟩) hS (fun q _ h => h) (fun q h => h) (fun r5 σ6 t H1 locs1 ht hvm hw hB hz1 hk1 hS => ?_)
  have hP : va_P D vwCl (xw c q σ6) H1 := ht ▸ hB
  have hD : va_D (wdA 36 q) (xw c q σ6) := xw_D hD0
  exact vx_ret (W.widen (k := 1) (n := 6) (Nat.le_of_ble_eq_true rfl) (Nat.le_of_ble_eq_true rfl) (W.iret hx hb hr (fun t ht hW => ⟨⟨_, σ6, rfl, hw, by unfold wdB; rw [ht]; exact hP⟩, hS.F ht⟩) hS.2.2 dX7_striker_29))
def wX4_coreAsWeighed_L4 (b0 : Nat) (b1 : Nat) (K34 : Int32 → Int32 → hsS → Prop) (post : Int32 → hsS → Prop) : Nat → Int32 → Int32 → hsS → Prop
  | 0, _, _, _ => False
  | n + 1, y2, y3, σ => (((σ.1 (64 * b1 + 0)) ≤ y3 → K34 y2 y3 σ) ∧ (¬ (σ.1 (64 * b1 + 0)) ≤ y3 → wX4_strikerOf b0 b1 y3 (1 : Int32) (fun r2 σ3 => ((r2 = (0 : Int32) → ∀ v5 : Int32, v5 = y2 ||| ((1 : Int32) <<< (y3 &&& 31)) → ∀ v6 : Int32, v6 = y3 + (1 : Int32) → wX4_coreAsWeighed_L4 b0 b1 K34 post n v5 v6 σ3) ∧ (¬ r2 = (0 : Int32) → ∀ v7 : Int32, v7 = y3 + (1 : Int32) → wX4_coreAsWeighed_L4 b0 b1 K34 post n y2 v7 σ3))) σ))
def wX4_coreAsWeighed (b0 : Nat) (b1 : Nat) (post : Int32 → hsS → Prop) (σ : hsS) : Prop := ∃ n8, wX4_coreAsWeighed_L4 b0 b1 (fun v9 v10 σ11 => post v9 σ11) post n8 (0 : Int32) (0 : Int32) σ
set_option maxHeartbeats 4000000 in
set_option maxRecDepth 100000 in
theorem kcX4_coreAsWeighed_18_1 (l : Launch) (D : va_G) (c : Nat → ClassId) (q : Nat → Nat) (ev : State → Heap → Prop) (hev : evOK (wdA 36 q) ev) (σ : hsS)  (post : Int32 → hsS → Prop) (hw : wX4_coreAsWeighed 18 1 post σ) : Met l yX4_coreAsWeighed (Cond.code yX4_coreAsWeighed cX4_coreAsWeighed 4 (some .int) :: tb_L) { frames := 3, cells := 0, slots := 0, locals := 76 } (wdPc D (xw c q) (xwT c) (wdA 36 q) ev σ [.ref (q 18), .ref (q 1)]) (va_Qi post (wdB D (xw c q)) (wdA 36 q)) 0 0 (wdA 36 q) := by
  refine Met.ofW (cc := cX4_coreAsWeighed) (maxL := 4) (ret := (some .int)) (by decide) rfl ?_
  intro p e s m args below meth c₀ s₁ Bd hml hv
  obtain ⟨rfl, hP, hK, hD0, hE⟩ := hv
  have hx := Bd.exec
  have hb := Bd.bytes
  have hr := Bd.returns
  have hts := atoms_spec (ws := Cond.code yX4_coreAsWeighed cX4_coreAsWeighed 4 (some .int) :: tb_L) Bd.pre
  have htb : ∀ w ∈ tb_L, w.before [.ref (q 18), .ref (q 1)].toArray s = true := fun w h => hts w (List.mem_cons_of_mem _ h)
  have hown : s.vm.findClass RX4 = some m.cls := findClass_of_methodNamed Bd.named
  have hlocks := Bd.notSynchronized
  have hS : va_S (wdA 36 q) s.heap s.heap [] := va_S.rf
  have hD := hD0
  have L4 : ∀ (K34 : Int32 → Int32 → hsS → Prop) (n : Nat) (y2 : Int32) (y3 : Int32) (σ : hsS) (H : Heap) (locs : List Loc) (ls : Array Slot), wX4_coreAsWeighed_L4 18 1 K34 post n y2 y3 σ → (∀ (y2 : Int32) (y3 : Int32) (σ : hsS) (H : Heap) (locs : List Loc) (ls : Array Slot), K34 y2 y3 σ → va_P D vwCl (xw c q σ) H → va_S (wdA 36 q) s.heap H locs → lv_has ls 4 [(0, .ref (q 18)), (1, .ref (q 1)), (2, .int y2), (3, .int y3)] → W p l e (headSpec (Cond.code yX4_coreAsWeighed cX4_coreAsWeighed 4 (some .int) :: tb_L) { frames := 3, cells := 0, slots := 0, locals := 76 }).room s m [.ref (q 18), .ref (q 1)].toArray below meth c₀ H locs 0 0 (MQ below (va_Qi post (wdB D (xw c q)) (wdA 36 q)) [.ref (q 18), .ref (q 1)].toArray s 0 0 (wdA 36 q)) (F0 m 34 ls [])) → va_P D vwCl (xw c q σ) H → va_S (wdA 36 q) s.heap H locs → lv_has ls 4 [(0, .ref (q 18)), (1, .ref (q 1)), (2, .int y2), (3, .int y3)] → W p l e (headSpec (Cond.code yX4_coreAsWeighed cX4_coreAsWeighed 4 (some .int) :: tb_L) { frames := 3, cells := 0, slots := 0, locals := 76 }).room s m [.ref (q 18), .ref (q 1)].toArray below meth c₀ H locs 0 0 (MQ below (va_Qi post (wdB D (xw c q)) (wdA 36 q)) [.ref (q 18), .ref (q 1)].toArray s 0 0 (wdA 36 q)) (F0 m 4 ls []) := by
    intro K34 n
    induction n with
    | zero =>
      intro y2 y3 σ H locs ls hw hk34 hP hS hl
      exact (show False from hw).elim
    | succ n ih =>
      intro y2 y3 σ H locs ls hw hk34 hP hS hl
      rw [wX4_coreAsWeighed_L4] at hw
      have hD : va_D (wdA 36 q) (xw c q σ) := xw_D hD0
      refine lv_iload_n hx hb dX4_coreAsWeighed_4 rfl (lv_at hl 3 rfl) ?_
      refine lv_aload_n hx hb dX4_coreAsWeighed_5 rfl (lv_at hl 1 rfl) ?_
      refine va_getN (D := D) (ci := 1) (C := RX1) (T := TX1) (N := 12) hx hb htb inX1 hown hK hP 1 (xw_1 c q σ) rfl 0 (by decide) (htb _ tb_127) (fun _ h9 => h9) rfl dX4_coreAsWeighed_6 ?_
      refine lv_icmp_ge (tgt := 34) hx hb dX4_coreAsWeighed_9 (by decide) (fun c1 => ?_) (fun c1 => ?_)
      · have hw := hw.1 c1
        exact hk34 y2 y3 σ _ _ _ hw hP hS (lv_sub hl [0, 1, 2, 3] rfl)
      · have hw := hw.2 c1
        refine lv_aload_n hx hb dX4_coreAsWeighed_12 rfl (lv_at hl 0 rfl) ?_
        refine lv_aload_n hx hb dX4_coreAsWeighed_13 rfl (lv_at hl 1 rfl) ?_
        refine lv_iload_n hx hb dX4_coreAsWeighed_14 rfl (lv_at hl 3 rfl) ?_
        refine lv_iconst (v := (1 : Int32)) hx hb dX4_coreAsWeighed_15 (by decide) ?_
        refine va_calli (va_runV (As := [.ref (q 1), .int y3, .int (1 : Int32)]) (rest := []) ⟨hx, hb, hml, hown, htb⟩ (kcX4_strikerOf_18_1 l D c q ev hev σ y3 (1 : Int32) _ hw) (tb_CW htb kX4_strikerOf tb_433 tb_434 tb_435 ⟨Nat.le_of_ble_eq_true rfl, Nat.le_of_ble_eq_true rfl⟩) (wd_preV (wd := xw c q) (k := 18) hev hK hP hD hE hS (xw_18 c q σ) rfl) rfl rfl hl.1 rfl (lv_room (Nat.le_of_ble_eq_true rfl)) dX4_coreAsWeighed_16 ⟨Nat.zero_le _, Nat.zero_le _⟩) hS (fun q _ h => h) (fun q h => h) (fun r2 σ3 t H1 locs1 ht hvm hw hB hz1 hk1 hS => ?_)
        have hP : va_P D vwCl (xw c q σ3) H1 := ht ▸ hB
        have hD : va_D (wdA 36 q) (xw c q σ3) := xw_D hD0
        refine lv_if_ne (tgt := 28) hx hb dX4_coreAsWeighed_19 (by decide) (fun c4 => ?_) (fun c4 => ?_)
        · have hw := hw.2 c4
          obtain ⟨v7, ev7⟩ : ∃ z : Int32, z = y3 + (1 : Int32) := ⟨_, rfl⟩
          have hw := hw v7 ev7
          refine lv_iinc (v := v7) (lv' := [(3, .int v7), (0, .ref (q 18)), (1, .ref (q 1)), (2, .int y2)]) hx hb dX4_coreAsWeighed_28 hl (k := 3) rfl (by rw [ev7]; rfl) (by decide) rfl (fun ls hl => ?_)
          refine lv_goto (tgt := 4) hx hb dX4_coreAsWeighed_31 (by decide) ?_
          exact ih y2 v7 σ3 _ _ _ hw hk34 hP hS (lv_sub hl [1, 2, 3, 0] rfl)
        · have hw := hw.1 c4
          refine lv_iload_n hx hb dX4_coreAsWeighed_22 rfl (lv_at hl 2 rfl) ?_
          refine lv_iconst (v := (1 : Int32)) hx hb dX4_coreAsWeighed_23 (by decide) ?_
          refine lv_iload_n hx hb dX4_coreAsWeighed_24 rfl (lv_at hl 3 rfl) ?_
          refine lv_ishl hx hb dX4_coreAsWeighed_25 ?_
          refine lv_ior hx hb dX4_coreAsWeighed_26 ?_
          refine lv_topi (fun v5 ev5 => ?_)
          have hw := hw v5 ev5
          refine lv_istore_n (lv' := [(2, .int v5), (0, .ref (q 18)), (1, .ref (q 1)), (3, .int y3)]) hx hb dX4_coreAsWeighed_27 rfl hl (by decide) rfl (fun ls hl => ?_)
          obtain ⟨v6, ev6⟩ : ∃ z : Int32, z = y3 + (1 : Int32) := ⟨_, rfl⟩
          have hw := hw v6 ev6
          refine lv_iinc (v := v6) (lv' := [(3, .int v6), (2, .int v5), (0, .ref (q 18)), (1, .ref (q 1))]) hx hb dX4_coreAsWeighed_28 hl (k := 3) rfl (by rw [ev6]; rfl) (by decide) rfl (fun ls hl => ?_)
          refine lv_goto (tgt := 4) hx hb dX4_coreAsWeighed_31 (by decide) ?_
          exact ih v5 v6 σ3 _ _ _ hw hk34 hP hS (lv_sub hl [2, 3, 1, 0] rfl)
  have hl := lv_entry ([.ref (q 18), .ref (q 1)]) (n := 4) (Nat.le_of_ble_eq_true rfl)
  rw [lg_entry_eq]
  generalize (lg_sl ([.ref (q 18), .ref (q 1)]) ++ List.replicate (4 - (lg_sl ([.ref (q 18), .ref (q 1)])).length) Slot.unset).toArray = ls at hl ⊢
  have hl : lv_has ls 4 [(0, .ref (q 18)), (1, .ref (q 1))] := hl
  unfold wX4_coreAsWeighed at hw
  refine lv_iconst (v := (0 : Int32)) hx hb dX4_coreAsWeighed_0 (by decide) ?_
  refine lv_istore_n (lv' := [(2, .int (0 : Int32)), (0, .ref (q 18)), (1, .ref (q 1))]) hx hb dX4_coreAsWeighed_1 rfl hl (by decide) rfl (fun ls hl => ?_)
  refine lv_iconst (v := (0 : Int32)) hx hb dX4_coreAsWeighed_2 (by decide) ?_
  refine lv_istore_n (lv' := [(3, .int (0 : Int32)), (2, .int (0 : Int32)), (0, .ref (q 18)), (1, .ref (q 1))]) hx hb dX4_coreAsWeighed_3 rfl hl (by decide) rfl (fun ls hl => ?_)
  obtain ⟨n8, hw⟩ := hw
  refine L4 _ n8 (0 : Int32) (0 : Int32) σ _ _ _ hw ?_ hP hS (lv_sub hl [2, 3, 1, 0] rfl)
  intro v9 v10 σ11 H locs ls hw hP hS hl
  have hD : va_D (wdA 36 q) (xw c q σ11) := xw_D hD0
  refine lv_iload_n hx hb dX4_coreAsWeighed_34 rfl (lv_at hl 2 rfl) ?_
  exact W.iret hx hb hr (fun t ht hW => ⟨⟨_, σ11, rfl, hw, by unfold wdB; rw [ht]; exact hP⟩, hS.F ht⟩) hS.2.2 dX4_coreAsWeighed_35
