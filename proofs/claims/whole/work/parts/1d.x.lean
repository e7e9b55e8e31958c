theorem kX4_coreOf : tbM yX4_coreOf cX4_coreOf 2 (some .int) 1 := ⟨tb_422, tb_93, by decide +kernel, by decide +kernel⟩
theorem kX7_core : tbM yX7_core cX7_core 1 (some .int) 0 := ⟨tb_418, tb_90, by decide +kernel, by decide +kernel⟩
theorem kX7_personInRow : tbM yX7_personInRow cX7_personInRow 2 (some .int) 2 := ⟨tb_968, tb_90, by decide +kernel, by decide +kernel⟩
theorem kX7_needWholeRow : tbM yX7_needWholeRow cX7_needWholeRow 5 none 1 := ⟨tb_965, tb_90, by decide +kernel, by decide +kernel⟩
theorem kX1_plainStrike : tbM yX1_plainStrike cX1_plainStrike 5 (some .int) 2 := ⟨tb_469, tb_91, by decide +kernel, by decide +kernel⟩
theorem kX1_strikePlainly : tbM yX1_strikePlainly cX1_strikePlainly 3 (some .int) 2 := ⟨tb_465, tb_91, by decide +kernel, by decide +kernel⟩
theorem kX1_strikeOften : tbM yX1_strikeOften cX1_strikeOften 6 (some .int) 3 := ⟨tb_973, tb_91, by decide +kernel, by decide +kernel⟩
theorem kX7_some : tbM yX7_some cX7_some 5 (some .int) 1 := ⟨tb_961, tb_90, by decide +kernel, by decide +kernel⟩
theorem kX1_plainEnd : tbM yX1_plainEnd cX1_plainEnd 3 (some .int) 0 := ⟨tb_460, tb_91, by decide +kernel, by decide +kernel⟩
theorem kX7_plain : tbM yX7_plain cX7_plain 1 (some .int) 0 := ⟨tb_456, tb_90, by decide +kernel, by decide +kernel⟩
theorem kJ7_fill_d0a16 : tbM yJ7_fill_d0a16 cJ7_fill_d0a16 5 none 2 := ⟨tb_991, tb_98, by decide +kernel, by decide +kernel⟩
theorem kX6_mark : tbM yX6_mark cX6_mark 4 none 2 := ⟨tb_996, tb_95, by decide +kernel, by decide +kernel⟩
theorem kX6_takeEachTurn : tbM yX6_takeEachTurn cX6_takeEachTurn 7 none 3 := ⟨tb_1005, tb_95, by decide +kernel, by decide +kernel⟩
theorem kX6_goOnFrom : tbM yX6_goOnFrom cX6_goOnFrom 7 none 3 := ⟨tb_1001, tb_95, by decide +kernel, by decide +kernel⟩
theorem kX6_learn : tbM yX6_learn cX6_learn 5 none 1 := ⟨tb_988, tb_95, by decide +kernel, by decide +kernel⟩
theorem kX6_leftBehindSome : tbM yX6_leftBehindSome cX6_leftBehindSome 2 (some .int) 1 := ⟨tb_984, tb_95, by decide +kernel, by decide +kernel⟩
theorem kX6_leftBehindAll : tbM yX6_leftBehindAll cX6_leftBehindAll 2 (some .int) 1 := ⟨tb_1010, tb_95, by decide +kernel, by decide +kernel⟩
theorem kX7_factorial : tbM yX7_factorial cX7_factorial 1 (some .int) 1 := ⟨tb_559, tb_90, by decide +kernel, by decide +kernel⟩
theorem kX6_rowsOf : tbM yX6_rowsOf cX6_rowsOf 5 (some .int) 1 := ⟨tb_1013, tb_95, by decide +kernel, by decide +kernel⟩
theorem kX7_rows : tbM yX7_rows cX7_rows 2 (some .int) 1 := ⟨tb_980, tb_90, by decide +kernel, by decide +kernel⟩
theorem kX1_greatestPlace : tbM yX1_greatestPlace cX1_greatestPlace 5 (some .int) 2 := ⟨tb_493, tb_91, by decide +kernel, by decide +kernel⟩
theorem kX1_sumOfPlaces : tbM yX1_sumOfPlaces cX1_sumOfPlaces 5 (some .int) 2 := ⟨tb_500, tb_91, by decide +kernel, by decide +kernel⟩
def wX4_coreOf (b0 : Nat) (b1 : Nat) (post : Int32 → hsS → Prop) (σ : hsS) : Prop := wX4_weigh b0 b1 (fun σ2 => wX4_coreAsWeighed b0 b1 (fun r3 σ4 => post r3 σ4) σ2) σ
set_option maxHeartbeats 4000000 in
set_option maxRecDepth 100000 in
theorem kcX4_coreOf_18_1 (l : Launch) (D : va_G) (c : Nat → ClassId) (q : Nat → Nat) (ev : State → Heap → Prop) (hev : evOK (wdA 36 q) ev) (σ : hsS)  (post : Int32 → hsS → Prop) (hw : wX4_coreOf 18 1 post σ) : Met l yX4_coreOf (Cond.code yX4_coreOf cX4_coreOf 2 (some .int) :: tb_L) { frames := 4, cells := 0, slots := 0, locals := 106 } (wdPc D (xw c q) (xwT c) (wdA 36 q) ev σ [.ref (q 18), .ref (q 1)]) (va_Qi post (wdB D (xw c q)) (wdA 36 q)) 0 0 (wdA 36 q) := by
  refine Met.ofW (cc := cX4_coreOf) (maxL := 2) (ret := (some .int)) (by decide) rfl ?_
  intro p e s m args below meth c₀ s₁ Bd hml hv
  obtain ⟨rfl, hP, hK, hD0, hE⟩ := hv
  have hx := Bd.exec
  have hb := Bd.bytes
  have hr := Bd.returns
  have hts := atoms_spec (ws := Cond.code yX4_coreOf cX4_coreOf 2 (some .int) :: tb_L) Bd.pre
  have htb : ∀ w ∈ tb_L, w.before [.ref (q 18), .ref (q 1)].toArray s = true := fun w h => hts w (List.mem_cons_of_mem _ h)
  have hown : s.vm.findClass RX4 = some m.cls := findClass_of_methodNamed Bd.named
  have hlocks := Bd.notSynchronized
  have hS : va_S (wdA 36 q) s.heap s.heap [] := va_S.rf
  have hD := hD0
  have hl := lv_entry ([.ref (q 18), .ref (q 1)]) (n := 2) (Nat.le_of_ble_eq_true rfl)
  rw [lg_entry_eq]
  generalize (lg_sl ([.ref (q 18), .ref (q 1)]) ++ List.replicate (2 - (lg_sl ([.ref (q 18), .ref (q 1)])).length) Slot.unset).toArray = ls at hl ⊢
  have hl : lv_has ls 2 [(0, .ref (q 18)), (1, .ref (q 1))] := hl
  unfold wX4_coreOf at hw
  refine lv_aload_n hx hb dX4_coreOf_0 rfl (lv_at hl 0 rfl) ?_
  refine lv_aload_n hx hb dX4_coreOf_1 rfl (lv_at hl 1 rfl) ?_
  refine va_callv (va_runV (As := [.ref (q 1)]) (rest := []) ⟨hx, hb, hml, hown, htb⟩ (kcX4_weigh_18_1 l D c q ev hev σ  _ hw) (tb_CW htb kX4_weigh tb_423 tb_424 tb_425 ⟨Nat.le_of_ble_eq_true rfl, Nat.le_of_ble_eq_true rfl⟩) (wd_preV (wd := xw c q) (k := 18) hev hK hP hD hE hS (xw_18 c q σ) rfl) rfl rfl hl.1 rfl (lv_room (Nat.le_of_ble_eq_true rfl)) dX4_coreOf_2 ⟨Nat.zero_le _, Nat.zero_le _⟩) hS (fun q _ h => h) (fun q h => h) (fun σ2 t H1 locs1 ht hvm hw hB hz1 hk1 hS => ?_)
  have hP : va_P D vwCl (xw c q σ2) H1 := ht ▸ hB
  have hD : va_D (wdA 36 q) (xw c q σ2) := xw_D hD0
  refine lv_aload_n hx hb dX4_coreOf_5 rfl (lv_at hl 0 rfl) ?_
  refine lv_aload_n hx hb dX4_coreOf_6 rfl (lv_at hl 1 rfl) ?_
  refine va_calli (va_runV (As := [.ref (q 1)]) (rest := []) ⟨hx, hb, hml, hown, htb⟩ (kcX4_coreAsWeighed_18_1 l D c q ev hev σ2  _ hw) (tb_CW htb kX4_coreAsWeighed tb_429 tb_430 tb_431 ⟨Nat.le_of_ble_eq_true rfl, Nat.le_of_ble_eq_true rfl⟩) (wd_preV (wd := xw c q) (k := 18) hev hK hP hD hE hS (xw_18 c q σ2) rfl) rfl rfl hl.1 rfl (lv_room (Nat.le_of_ble_eq_true rfl)) dX4_coreOf_7 ⟨Nat.zero_le _, Nat.zero_le _⟩) hS (fun q _ h => h) (fun q h => h) (fun r3 σ4 t H1 locs1 ht hvm hw hB hz1 hk1 hS => ?_)
  have hP : va_P D vwCl (xw c q σ4) H1 := ht ▸ hB
  have hD : va_D (wdA 36 q) (xw c q σ4) := xw_D hD0
  exact W.iret hx hb hr (fun t ht hW => ⟨⟨_, σ4, rfl, hw, by unfold wdB; rw [ht]; exact hP⟩, hS.F ht⟩) hS.2.2 dX4_coreOf_10
def wX7_core  (post : Int32 → hsS → Prop) (σ : hsS) : Prop := wX4_coreOf 18 1 (fun r1 σ2 => post r1 σ2) σ
set_option maxHeartbeats 4000000 in
set_option maxRecDepth 100000 in
theorem kcX7_core (l : Launch) (D : va_G) (c : Nat → ClassId) (q : Nat → Nat) (ev : State → Heap → Prop) (hev : evOK (wdA 36 q) ev) (σ : hsS)  (post : Int32 → hsS → Prop) (hw : wX7_core  post σ) : Met l yX7_core (Cond.code yX7_core cX7_core 1 (some .int) :: tb_L) { frames := 5, cells := 0, slots := 0, locals := 127 } (wdPc D (xw c q) (xwT c) (wdA 36 q) ev σ [.ref (q 0)]) (va_Qi post (wdB D (xw c q)) (wdA 36 q)) 0 0 (wdA 36 q) := by
  refine Met.ofW (cc := cX7_core) (maxL := 1) (ret := (some .int)) (by decide) rfl ?_
  intro p e s m args below meth c₀ s₁ Bd hml hv
  obtain ⟨rfl, hP, hK, hD0, hE⟩ := hv
  have hx := Bd.exec
  have hb := Bd.bytes
  have hr := Bd.returns
  have hts := atoms_spec (ws := Cond.code yX7_core cX7_core 1 (some .int) :: tb_L) Bd.pre
  have htb : ∀ w ∈ tb_L, w.before [.ref (q 0)].toArray s = true := fun w h => hts w (List.mem_cons_of_mem _ h)
  have hown : s.vm.findClass RX7 = some m.cls := findClass_of_methodNamed Bd.named
  have hlocks := Bd.notSynchronized
  have hS : va_S (wdA 36 q) s.heap s.heap [] := va_S.rf
  have hD := hD0
  have hl := lv_entry ([.ref (q 0)]) (n := 1) (Nat.le_of_ble_eq_true rfl)
  rw [lg_entry_eq]
  generalize (lg_sl ([.ref (q 0)]) ++ List.replicate (1 - (lg_sl ([.ref (q 0)])).length) Slot.unset).toArray = ls at hl ⊢
  have hl : lv_has ls 1 [(0, .ref (q 0))] := hl
  unfold wX7_core at hw
  refine lv_aload_n hx hb dX7_core_0 rfl (lv_at hl 0 rfl) ?_
  refine va_get (D := D) (ci := 7) (C := RX7) (T := TX7) (N := 9) hx hb htb inX7 hown hK hP 0 (xw_0 c q σ) rfl 3 (by decide) (htb _ tb_345) (fun _ h9 => h9) rfl dX7_core_1 ?_
  refine lv_aload_n hx hb dX7_core_4 rfl (lv_at hl 0 rfl) ?_
  refine va_get (D := D) (ci := 7) (C := RX7) (T := TX7) (N := 9) hx hb htb inX7 hown hK hP 0 (xw_0 c q σ) rfl 0 (by decide) (htb _ tb_342) (fun _ h9 => h9) rfl dX7_core_5 ?_
  refine va_calli (va_runV (As := [.ref (q 1)]) (rest := []) ⟨hx, hb, hml, hown, htb⟩ (kcX4_coreOf_18_1 l D c q ev hev σ  _ hw) (tb_CW htb kX4_coreOf tb_419 tb_420 tb_421 ⟨Nat.le_of_ble_eq_true rfl, Nat.le_of_ble_eq_true rfl⟩) (wd_preV (wd := xw c q) (k := 18) hev hK hP hD hE hS (xw_18 c q σ) rfl) rfl rfl hl.1 rfl (lv_room (Nat.le_of_ble_eq_true rfl)) dX7_core_8 ⟨Nat.zero_le _, Nat.zero_le _⟩) hS (fun q _ h => h) (fun q h => h) (fun r1 σ2 t H1 locs1 ht hvm hw hB hz1 hk1 hS => ?_)
  have hP : va_P D vwCl (xw c q σ2) H1 := ht ▸ hB
  have hD : va_D (wdA 36 q) (xw c q σ2) := xw_D hD0
  exact W.iret hx hb hr (fun t ht hW => ⟨⟨_, σ2, rfl, hw, by unfold wdB; rw [ht]; exact hP⟩, hS.F ht⟩) hS.2.2 dX7_core_11
def wX7_personInRow (x0 : Int32) (x1 : Int32) (post : Int32 → hsS → Prop) (σ : hsS) : Prop := post ((x0 >>> (((3 : Int32) * x1) &&& 31)) &&& (7 : Int32)) σ
set_option maxHeartbeats 4000000 in
set_option maxRecDepth 100000 in
theorem kcX7_personInRow_x (l : Launch) (D : va_G) (c : Nat → ClassId) (q : Nat → Nat) (ev : State → Heap → Prop) (hev : evOK (wdA 36 q) ev) (σ : hsS) (x0 : Int32) (x1 : Int32) (post : Int32 → hsS → Prop) (hw : wX7_personInRow x0 x1 post σ) : Met l yX7_personInRow (Cond.code yX7_personInRow cX7_personInRow 2 (some .int) :: tb_L) { frames := 0, cells := 0, slots := 0, locals := 0 } (wdPc D (xw c q) (xwT c) (wdA 36 q) ev σ [.int x0, .int x1]) (va_Qi post (wdB D (xw c q)) (wdA 36 q)) 0 0 (wdA 36 q) := by
  refine Met.ofW (cc := cX7_personInRow) (maxL := 2) (ret := (some .int)) (by decide) rfl ?_
  intro p e s m args below meth c₀ s₁ Bd hml hv
  obtain ⟨rfl, hP, hK, hD0, hE⟩ := hv
  have hx := Bd.exec
  have hb := Bd.bytes
  have hr := Bd.returns
  have hts := atoms_spec (ws := Cond.code yX7_personInRow cX7_personInRow 2 (some .int) :: tb_L) Bd.pre
  have htb : ∀ w ∈ tb_L, w.before [.int x0, .int x1].toArray s = true := fun w h => hts w (List.mem_cons_of_mem _ h)
  have hown : s.vm.findClass RX7 = some m.cls := findClass_of_methodNamed Bd.named
  have hlocks := Bd.notSynchronized
  have hS : va_S (wdA 36 q) s.heap s.heap [] := va_S.rf
  have hD := hD0
  have hl := lv_entry ([.int x0, .int x1]) (n := 2) (Nat.le_of_ble_eq_true rfl)
  rw [lg_entry_eq]
  generalize (lg_sl ([.int x0, .int x1]) ++ List.replicate (2 - (lg_sl ([.int x0, .int x1])).length) Slot.unset).toArray = ls at hl ⊢
  have hl : lv_has ls 2 [(0, .int x0), (1, .int x1)] := hl
  unfold wX7_personInRow at hw
  refine lv_iload_n hx hb dX7_personInRow_0 rfl (lv_at hl 0 rfl) ?_
  refine lv_iconst (v := (3 : Int32)) hx hb dX7_personInRow_1 (by decide) ?_
  refine lv_iload_n hx hb dX7_personInRow_2 rfl (lv_at hl 1 rfl) ?_
  refine lv_imul hx hb dX7_personInRow_3 ?_
  refine lv_ishr hx hb dX7_personInRow_4 ?_
  refine lv_bipush (v := (7 : Int32)) hx hb dX7_personInRow_5 (by decide) ?_
  refine lv_iand hx hb dX7_personInRow_7 ?_
  exact W.iret hx hb hr (fun t ht hW => ⟨⟨_, σ, rfl, hw, by unfold wdB; rw [ht]; exact hP⟩, hS.F ht⟩) hS.2.2 dX7_personInRow_8
def wX7_needWholeRow_L4 (z1 : Int32) (K38 : Int32 → Int32 → hsS → Prop) (K61 : Int32 → Int32 → hsS → Prop) (post : hsS → Prop) (px : hsS → Prop) : Nat → Int32 → Int32 → hsS → Prop
  | 0, _, _, _ => False
  | n + 1, y2, y3, σ => (((σ.1 65) ≤ y3 → K61 y2 y3 σ) ∧ (¬ (σ.1 65) ≤ y3 → wX7_personInRow z1 y3 (fun r2 σ3 => wX7_needPerson r2 (fun σ5 => ((((y2 >>> (r2 &&& 31)) &&& (1 : Int32)) = (1 : Int32) → K38 y2 y3 σ5) ∧ (¬ ((y2 >>> (r2 &&& 31)) &&& (1 : Int32)) = (1 : Int32) → ∀ v7 : Int32, v7 = y2 ||| ((1 : Int32) <<< (r2 &&& 31)) → ∀ v8 : Int32, v8 = y3 + (1 : Int32) → wX7_needWholeRow_L4 z1 K38 K61 post px n v7 v8 σ5))) px σ3) σ))
def wX7_needWholeRow (x1 : Int32) (post : hsS → Prop) (px : hsS → Prop) (σ : hsS) : Prop := ∃ n9, n9 ≤ 9 ∧ wX7_needWholeRow_L4 x1 (fun v10 v11 σ12 => px σ12) (fun v13 v14 σ15 => post σ15) post px n9 (0 : Int32) (0 : Int32) σ
set_option maxHeartbeats 4000000 in
set_option maxRecDepth 100000 in
theorem kcX7_needWholeRow (l : Launch) (D : va_G) (c : Nat → ClassId) (q : Nat → Nat) (ev : State → Heap → Prop) (hev : evOK (wdA 36 q) ev) (hst : l.stackTraces = false) (hX : ∀ (U : State) (H : Heap), ev U H → evT (wdA 36 q) U H) (σ : hsS) (x1 : Int32) (post : hsS → Prop) (px : hsS → Prop) (hw : wX7_needWholeRow x1 post px σ) : vx_Met l yX7_needWholeRow (Cond.code yX7_needWholeRow cX7_needWholeRow 5 none :: tb_L) { frames := 9, cells := 10, slots := 60, locals := 149 } (wdPc D (xw c q) (xwT c) (wdA 36 q) ev σ [.ref (q 0), .int x1]) (va_Qv post (wdB D (xw c q)) (wdA 36 q)) (vx_X px (xpB D (xw c q) "java/util/NoSuchElementException") (wdA 36 q)) 10 60 (wdA 36 q) := by
  refine vx_ofW (cc := cX7_needWholeRow) (maxL := 5) (ret := none) (by decide) rfl ?_
  intro p e s m args below meth c₀ s₁ Bd hml htab hv
  obtain ⟨rfl, hP, hK, hD0, hE⟩ := hv
  have hx := Bd.exec
  have hb := Bd.bytes
  have hr := Bd.returns
  have hts := atoms_spec (ws := Cond.code yX7_needWholeRow cX7_needWholeRow 5 none :: tb_L) Bd.pre
  have htb : ∀ w ∈ tb_L, w.before [.ref (q 0), .int x1].toArray s = true := fun w h => hts w (List.mem_cons_of_mem _ h)
  have hown : s.vm.findClass RX7 = some m.cls := findClass_of_methodNamed Bd.named
  have hlocks := Bd.notSynchronized
  have hS : va_S (wdA 36 q) s.heap s.heap [] := va_S.rf
  have hD := hD0
  have L4 : ∀ (K38 : Int32 → Int32 → hsS → Prop) (K61 : Int32 → Int32 → hsS → Prop) (z1 : Int32) (n k : Nat) (y2 : Int32) (y3 : Int32) (σ : hsS) (H : Heap) (locs : List Loc) (ls : Array Slot), k + n ≤ 9 → wX7_needWholeRow_L4 z1 K38 K61 post px n y2 y3 σ → (∀ (k : Nat) (y2 : Int32) (y3 : Int32) (σ : hsS) (H : Heap) (locs : List Loc) (ls : Array Slot), k ≤ 9 → K38 y2 y3 σ → va_P D vwCl (xw c q σ) H → va_S (wdA 36 q) s.heap H locs → lv_has ls 5 [(0, .ref (q 0)), (1, .int z1), (2, .int y2), (3, .int y3)] → W p l e (headSpec (Cond.code yX7_needWholeRow cX7_needWholeRow 5 none :: tb_L) { frames := 9, cells := 10, slots := 60, locals := 149 }).room s m [.ref (q 0), .int x1].toArray below meth c₀ H locs k (6 * k) (vx_MQ below (va_Qv post (wdB D (xw c q)) (wdA 36 q)) (vx_X px (xpB D (xw c q) "java/util/NoSuchElementException") (wdA 36 q)) [.ref (q 0), .int x1].toArray s 10 60 (wdA 36 q)) (F0 m 38 ls [])) → (∀ (k : Nat) (y2 : Int32) (y3 : Int32) (σ : hsS) (H : Heap) (locs : List Loc) (ls : Array Slot), k ≤ 9 → K61 y2 y3 σ → va_P D vwCl (xw c q σ) H → va_S (wdA 36 q) s.heap H locs → lv_has ls 5 [(0, .ref (q 0)), (1, .int z1), (2, .int y2), (3, .int y3)] → W p l e (headSpec (Cond.code yX7_needWholeRow cX7_needWholeRow 5 none :: tb_L) { frames := 9, cells := 10, slots := 60, locals := 149 }).room s m [.ref (q 0), .int x1].toArray below meth c₀ H locs k (6 * k) (vx_MQ below (va_Qv post (wdB D (xw c q)) (wdA 36 q)) (vx_X px (xpB D (xw c q) "java/util/NoSuchElementException") (wdA 36 q)) [.ref (q 0), .int x1].toArray s 10 60 (wdA 36 q)) (F0 m 61 ls [])) → va_P D vwCl (xw c q σ) H → va_S (wdA 36 q) s.heap H locs → lv_has ls 5 [(0, .ref (q 0)), (1, .int z1), (2, .int y2), (3, .int y3)] → W p l e (headSpec (Cond.code yX7_needWholeRow cX7_needWholeRow 5 none :: tb_L) { frames := 9, cells := 10, slots := 60, locals := 149 }).room s m [.ref (q 0), .int x1].toArray below meth c₀ H locs k (6 * k) (vx_MQ below (va_Qv post (wdB D (xw c q)) (wdA 36 q)) (vx_X px (xpB D (xw c q) "java/util/NoSuchElementException") (wdA 36 q)) [.ref (q 0), .int x1].toArray s 10 60 (wdA 36 q)) (F0 m 4 ls []) := by
    intro K38 K61 z1 n
    induction n with
    | zero =>
      intro k y2 y3 σ H locs ls hkn hw hk38 hk61 hP hS hl
      exact (show False from hw).elim
    | succ n ih =>
      intro k y2 y3 σ H locs ls hkn hw hk38 hk61 hP hS hl
      rw [wX7_needWholeRow_L4] at hw
      have hD : va_D (wdA 36 q) (xw c q σ) := xw_D hD0
      refine lv_iload_n hx hb dX7_needWholeRow_4 rfl (lv_at hl 3 rfl) ?_
      refine lv_aload_n hx hb dX7_needWholeRow_5 rfl (lv_at hl 0 rfl) ?_
      refine va_get (D := D) (ci := 7) (C := RX7) (T := TX7) (N := 9) hx hb htb inX7 hown hK hP 0 (xw_0 c q σ) rfl 0 (by decide) (htb _ tb_342) (fun _ h9 => h9) rfl dX7_needWholeRow_6 ?_
      refine va_getN (D := D) (ci := 1) (C := RX1) (T := TX1) (N := 12) hx hb htb inX1 hown hK hP 1 (xw_1 c q σ) rfl 1 (by decide) (htb _ tb_136) (fun _ h9 => h9) rfl dX7_needWholeRow_9 ?_
      refine lv_icmp_ge (tgt := 61) hx hb dX7_needWholeRow_12 (by decide) (fun c1 => ?_) (fun c1 => ?_)
      · have hw := hw.1 c1
        exact hk61 k y2 y3 σ _ _ _ (by omega) hw hP hS (lv_sub hl [0, 1, 2, 3] rfl)
      · have hw := hw.2 c1
        refine lv_iload_n hx hb dX7_needWholeRow_15 rfl (lv_at hl 1 rfl) ?_
        refine lv_iload_n hx hb dX7_needWholeRow_16 rfl (lv_at hl 3 rfl) ?_
        refine va_calli (va_runS (As := [.int z1, .int y3]) (rest := []) ⟨hx, hb, hml, hown, htb⟩ (kcX7_personInRow_x l D c q ev hev σ z1 y3 _ hw) (tb_CS htb kX7_personInRow tb_966 tb_967 ⟨Nat.le_of_ble_eq_true rfl, Nat.le_of_ble_eq_true rfl⟩) (wd_preS (wd := xw c q) hev hK hP hD hE hS) rfl rfl hl.1 rfl (lv_room (Nat.le_of_ble_eq_true rfl)) dX7_needWholeRow_17 ⟨by show k + 0 ≤ 10; omega, by show 6 * k + 0 ≤ 60; omega⟩) hS (fun q _ h => h) (fun q h => h) (fun r2 σ3 t H1 locs1 ht hvm hw hB hz1 hk1 hS => ?_)
        have hP : va_P D vwCl (xw c q σ3) H1 := ht ▸ hB
        have hD : va_D (wdA 36 q) (xw c q σ3) := xw_D hD0
        refine lv_istore (lv' := [(4, .int r2), (0, .ref (q 0)), (1, .int z1), (2, .int y2), (3, .int y3)]) hx hb dX7_needWholeRow_20 hl (by decide) rfl (fun ls hl => ?_)
        refine lv_aload_n hx hb dX7_needWholeRow_22 rfl (lv_at hl 1 rfl) ?_
        refine lv_iload hx hb dX7_needWholeRow_23 (lv_at hl 0 rfl) ?_
        refine vx_callv (vx_runV (As := [.int r2]) (rest := []) ⟨hx, hb, hml, hown, htb⟩ (kcX7_needPerson l D c q ev hev hst hX σ3 r2 _ px hw) (tb_CW htb kX7_needPerson tb_906 tb_908 tb_32 ⟨Nat.le_of_ble_eq_true rfl, Nat.le_of_ble_eq_true rfl⟩) (wd_preV (wd := xw c q) (k := 0) hev hK hP hD hE hS (xw_0 c q σ3) rfl) rfl rfl hl.1 rfl (lv_room (Nat.le_of_ble_eq_true rfl)) dX7_needWholeRow_25 ⟨by show k + 0 + 1 ≤ 10; omega, by show 6 * k + 0 + 6 ≤ 60; omega⟩) hS (fun q _ h => h) (fun q h => h) (fun q _ h => h) (fun E9 ce9 q9 σx t H1 locs1 ht hvm hpx hBX hz1 hk1 hS hce hcv hcl => vx_out (fun x h => (htab x h).elim) hlocks hce hcv hcl (fun t2 ht2 _ => ⟨σx, hpx, ⟨hBX.1, by rw [ht2, ← ht]; exact hBX.2⟩, hS.F ht2⟩) hS.2.2 (by show k + 0 + 1 ≤ 10; omega) (by show 6 * k + 0 + 6 ≤ 60; omega)) (fun σ5 t H1 locs1 ht hvm hw hB hz1 hk1 hS => ?_)
        have hP : va_P D vwCl (xw c q σ5) H1 := ht ▸ hB
        have hD : va_D (wdA 36 q) (xw c q σ5) := xw_D hD0
        refine lv_iload_n hx hb dX7_needWholeRow_28 rfl (lv_at hl 3 rfl) ?_
        refine lv_iload hx hb dX7_needWholeRow_29 (lv_at hl 0 rfl) ?_
        refine lv_ishr hx hb dX7_needWholeRow_31 ?_
        refine lv_iconst (v := (1 : Int32)) hx hb dX7_needWholeRow_32 (by decide) ?_
        refine lv_iand hx hb dX7_needWholeRow_33 ?_
        refine lv_iconst (v := (1 : Int32)) hx hb dX7_needWholeRow_34 (by decide) ?_
        refine lv_icmp_ne (tgt := 48) hx hb dX7_needWholeRow_35 (by decide) (fun c6 => ?_) (fun c6 => ?_)
        · have hw := hw.2 c6
          refine lv_iload_n hx hb dX7_needWholeRow_48 rfl (lv_at hl 3 rfl) ?_
          refine lv_iconst (v := (1 : Int32)) hx hb dX7_needWholeRow_49 (by decide) ?_
          refine lv_iload hx hb dX7_needWholeRow_50 (lv_at hl 0 rfl) ?_
          refine lv_ishl hx hb dX7_needWholeRow_52 ?_
          refine lv_ior hx hb dX7_needWholeRow_53 ?_
          refine lv_topi (fun v7 ev7 => ?_)
          have hw := hw v7 ev7
          refine lv_istore_n (lv' := [(2, .int v7), (4, .int r2), (0, .ref (q 0)), (1, .int z1), (3, .int y3)]) hx hb dX7_needWholeRow_54 rfl hl (by decide) rfl (fun ls hl => ?_)
          obtain ⟨v8, ev8⟩ : ∃ z : Int32, z = y3 + (1 : Int32) := ⟨_, rfl⟩
          have hw := hw v8 ev8
          refine lv_iinc (v := v8) (lv' := [(3, .int v8), (2, .int v7), (4, .int r2), (0, .ref (q 0)), (1, .int z1)]) hx hb dX7_needWholeRow_55 hl (k := 4) rfl (by rw [ev8]; rfl) (by decide) rfl (fun ls hl => ?_)
          refine lv_goto (tgt := 4) hx hb dX7_needWholeRow_58 (by decide) ?_
          exact ih (k + 1) v7 v8 σ5 _ _ _ (by omega) hw hk38 hk61 hP hS (lv_sub hl [3, 4, 1, 0] rfl)
        · have hw := hw.1 c6
          exact hk38 (k + 1) y2 y3 σ5 _ _ _ (by omega) hw hP hS (lv_sub hl [1, 2, 3, 4] rfl)
  have hl := lv_entry ([.ref (q 0), .int x1]) (n := 5) (Nat.le_of_ble_eq_true rfl)
  rw [lg_entry_eq]
  generalize (lg_sl ([.ref (q 0), .int x1]) ++ List.replicate (5 - (lg_sl ([.ref (q 0), .int x1])).length) Slot.unset).toArray = ls at hl ⊢
  have hl : lv_has ls 5 [(0, .ref (q 0)), (1, .int x1)] := hl
  unfold wX7_needWholeRow at hw
  refine lv_iconst (v := (0 : Int32)) hx hb dX7_needWholeRow_0 (by decide) ?_
  refine lv_istore_n (lv' := [(2, .int (0 : Int32)), (0, .ref (q 0)), (1, .int x1)]) hx hb dX7_needWholeRow_1 rfl hl (by decide) rfl (fun ls hl => ?_)
  refine lv_iconst (v := (0 : Int32)) hx hb dX7_needWholeRow_2 (by decide) ?_
  refine lv_istore_n (lv' := [(3, .int (0 : Int32)), (2, .int (0 : Int32)), (0, .ref (q 0)), (1, .int x1)]) hx hb dX7_needWholeRow_3 rfl hl (by decide) rfl (fun ls hl => ?_)
  obtain ⟨n9, hn9, hw⟩ := hw
  refine L4 _ _ x1 n9 0 (0 : Int32) (0 : Int32) σ _ _ _ (by omega) hw ?_ ?_ hP hS (lv_sub hl [2, 3, 1, 0] rfl)
  · intro k v10 v11 σ12 H locs ls hk9 hw hP hS hl
    have hD : va_D (wdA 36 q) (xw c q σ12) := xw_D hD0
    obtain ⟨hU9, hN9, hF9, hR9⟩ := hX s s.heap hE
    obtain ⟨sa9, hsa9⟩ := hR9 (185, "told twice") (by decide)
    exact xt_throwS hx hb hst (own := "StrikeHall") (cls := "java/util/NoSuchElementException") (text := "told twice") (names := ["java/lang/Exception"]) (ix := 13) (rx := xt_rx) (Yc := "java/lang/RuntimeException") hown (by decide) (by decide) (by decide +kernel) (by decide +kernel) (by decide +kernel) (by decide +kernel) (by decide) (htb _ tb_883) (htb _ tb_111) hsa9 (hat_NSE htb hF9) hot_NSE hU9 hN9 hS (hl.1.trans hml.symm) dX7_needWholeRow_38 dX7_needWholeRow_41 dX7_needWholeRow_42 dX7_needWholeRow_44 dX7_needWholeRow_47 (fun x h => (htab x h).elim) (Nat.le_of_ble_eq_true rfl) (Nat.le_of_ble_eq_true rfl) (by show k + 1 ≤ 10; omega) (by show 6 * k + 6 ≤ 60; omega) hlocks (fun t hvm hsz hk => ⟨σ12, hw, ⟨rfl, wd_grow hP hk⟩, wd_F hS hsz hk⟩) hS.2.2 (by omega) (by omega)
  · intro k v13 v14 σ15 H locs ls hk9 hw hP hS hl
    have hD : va_D (wdA 36 q) (xw c q σ15) := xw_D hD0
    exact vx_ret (W.widen (k := 10) (n := 60) (by omega) (by omega) (W.vret hx hb hr (fun t ht hW => ⟨⟨σ15, rfl, hw, by unfold wdB; rw [ht]; exact hP⟩, hS.F ht⟩) hS.2.2 dX7_needWholeRow_61))
def wX1_plainStrike_L5 (b0 : Nat) (z1 : Int32) (z2 : Int32) (K54 : Int32 → Int32 → hsS → Prop) (post : Int32 → hsS → Prop) : Nat → Int32 → Int32 → hsS → Prop
  | 0, _, _, _ => False
  | n + 1, y3, y4, σ => (((σ.1 (64 * b0 + 0)) ≤ y4 → K54 y3 y4 σ) ∧ (¬ (σ.1 (64 * b0 + 0)) ≤ y4 → ((((z2 >>> (y4 &&& 31)) &&& (1 : Int32)) = (1 : Int32) → ((y3 = (-1 : Int32) → ∀ v4 : Int32, v4 = y4 + (1 : Int32) → wX1_plainStrike_L5 b0 z1 z2 K54 post n y4 v4 σ) ∧ (¬ y3 = (-1 : Int32) → wX1_placeOf b0 z1 y4 (fun r5 σ6 => wX1_placeOf b0 z1 y3 (fun r7 σ8 => ((r5 < r7 → ∀ v10 : Int32, v10 = y4 + (1 : Int32) → wX1_plainStrike_L5 b0 z1 z2 K54 post n y3 v10 σ8) ∧ (¬ r5 < r7 → ∀ v11 : Int32, v11 = y4 + (1 : Int32) → wX1_plainStrike_L5 b0 z1 z2 K54 post n y4 v11 σ8))) σ6) σ))) ∧ (¬ ((z2 >>> (y4 &&& 31)) &&& (1 : Int32)) = (1 : Int32) → ∀ v12 : Int32, v12 = y4 + (1 : Int32) → wX1_plainStrike_L5 b0 z1 z2 K54 post n y3 v12 σ))))
def wX1_plainStrike (b0 : Nat) (x1 : Int32) (x2 : Int32) (post : Int32 → hsS → Prop) (σ : hsS) : Prop := ∃ n13, wX1_plainStrike_L5 b0 x1 x2 (fun v14 v15 σ16 => post v14 σ16) post n13 (-1 : Int32) (0 : Int32) σ
set_option maxHeartbeats 4000000 in
set_option maxRecDepth 100000 in
theorem kcX1_plainStrike_1 (l : Launch) (D : va_G) (c : Nat → ClassId) (q : Nat → Nat) (ev : State → Heap → Prop) (hev : evOK (wdA 36 q) ev) (σ : hsS) (x1 : Int32) (x2 : Int32) (post : Int32 → hsS → Prop) (hw : wX1_plainStrike 1 x1 x2 post σ) : Met l yX1_plainStrike (Cond.code yX1_plainStrike cX1_plainStrike 5 (some .int) :: tb_L) { frames := 1, cells := 0, slots := 0, locals := 22 } (wdPc D (xw c q) (xwT c) (wdA 36 q) ev σ [.ref (q 1), .int x1, .int x2]) (va_Qi post (wdB D (xw c q)) (wdA 36 q)) 0 0 (wdA 36 q) := by
  refine Met.ofW (cc := cX1_plainStrike) (maxL := 5) (ret := (some .int)) (by decide) rfl ?_
  intro p e s m args below meth c₀ s₁ Bd hml hv
  obtain ⟨rfl, hP, hK, hD0, hE⟩ := hv
  have hx := Bd.exec
  have hb := Bd.bytes
  have hr := Bd.returns
  have hts := atoms_spec (ws := Cond.code yX1_plainStrike cX1_plainStrike 5 (some .int) :: tb_L) Bd.pre
  have htb : ∀ w ∈ tb_L, w.before [.ref (q 1), .int x1, .int x2].toArray s = true := fun w h => hts w (List.mem_cons_of_mem _ h)
  have hown : s.vm.findClass RX1 = some m.cls := findClass_of_methodNamed Bd.named
  have hlocks := Bd.notSynchronized
  have hS : va_S (wdA 36 q) s.heap s.heap [] := va_S.rf
  have hD := hD0
  have L5 : ∀ (K54 : Int32 → Int32 → hsS → Prop) (z1 : Int32) (z2 : Int32) (n : Nat) (y3 : Int32) (y4 : Int32) (σ : hsS) (H : Heap) (locs : List Loc) (ls : Array Slot), wX1_plainStrike_L5 1 z1 z2 K54 post n y3 y4 σ → (∀ (y3 : Int32) (y4 : Int32) (σ : hsS) (H : Heap) (locs : List Loc) (ls : Array Slot), K54 y3 y4 σ → va_P D vwCl (xw c q σ) H → va_S (wdA 36 q) s.heap H locs → lv_has ls 5 [(0, .ref (q 1)), (1, .int z1), (2, .int z2), (3, .int y3), (4, .int y4)] → W p l e (headSpec (Cond.code yX1_plainStrike cX1_plainStrike 5 (some .int) :: tb_L) { frames := 1, cells := 0, slots := 0, locals := 22 }).room s m [.ref (q 1), .int x1, .int x2].toArray below meth c₀ H locs 0 0 (MQ below (va_Qi post (wdB D (xw c q)) (wdA 36 q)) [.ref (q 1), .int x1, .int x2].toArray s 0 0 (wdA 36 q)) (F0 m 54 ls [])) → va_P D vwCl (xw c q σ) H → va_S (wdA 36 q) s.heap H locs → lv_has ls 5 [(0, .ref (q 1)), (1, .int z1), (2, .int z2), (3, .int y3), (4, .int y4)] → W p l e (headSpec (Cond.code yX1_plainStrike cX1_plainStrike 5 (some .int) :: tb_L) { frames := 1, cells := 0, slots := 0, locals := 22 }).room s m [.ref (q 1), .int x1, .int x2].toArray below meth c₀ H locs 0 0 (MQ below (va_Qi post (wdB D (xw c q)) (wdA 36 q)) [.ref (q 1), .int x1, .int x2].toArray s 0 0 (wdA 36 q)) (F0 m 5 ls []) := by
    intro K54 z1 z2 n
    induction n with
    | zero =>
      intro y3 y4 σ H locs ls hw hk54 hP hS hl
      exact (show False from hw).elim
    | succ n ih =>
      intro y3 y4 σ H locs ls hw hk54 hP hS hl
      rw [wX1_plainStrike_L5] at hw
      have hD : va_D (wdA 36 q) (xw c q σ) := xw_D hD0
      refine lv_iload hx hb dX1_plainStrike_5 (lv_at hl 4 rfl) ?_
      refine lv_aload_n hx hb dX1_plainStrike_7 rfl (lv_at hl 0 rfl) ?_
      refine va_get (D := D) (ci := 1) (C := RX1) (T := TX1) (N := 12) hx hb htb inX1 hown hK hP 1 (xw_1 c q σ) rfl 0 (by decide) (htb _ tb_126) (fun _ h9 => h9) rfl dX1_plainStrike_8 ?_
      refine lv_icmp_ge (tgt := 54) hx hb dX1_plainStrike_11 (by decide) (fun c1 => ?_) (fun c1 => ?_)
      · have hw := hw.1 c1
        exact hk54 y3 y4 σ _ _ _ hw hP hS (lv_sub hl [0, 1, 2, 3, 4] rfl)
      · have hw := hw.2 c1
        refine lv_iload_n hx hb dX1_plainStrike_14 rfl (lv_at hl 2 rfl) ?_
        refine lv_iload hx hb dX1_plainStrike_15 (lv_at hl 4 rfl) ?_
        refine lv_ishr hx hb dX1_plainStrike_17 ?_
        refine lv_iconst (v := (1 : Int32)) hx hb dX1_plainStrike_18 (by decide) ?_
        refine lv_iand hx hb dX1_plainStrike_19 ?_
        refine lv_iconst (v := (1 : Int32)) hx hb dX1_plainStrike_20 (by decide) ?_
        refine lv_icmp_ne (tgt := 48) hx hb dX1_plainStrike_21 (by decide) (fun c2 => ?_) (fun c2 => ?_)
        · have hw := hw.2 c2
          obtain ⟨v12, ev12⟩ : ∃ z : Int32, z = y4 + (1 : Int32) := ⟨_, rfl⟩
          have hw := hw v12 ev12
          refine lv_iinc (v := v12) (lv' := [(4, .int v12), (0, .ref (q 1)), (1, .int z1), (2, .int z2), (3, .int y3)]) hx hb dX1_plainStrike_48 hl (k := 4) rfl (by rw [ev12]; rfl) (by decide) rfl (fun ls hl => ?_)
          refine lv_goto (tgt := 5) hx hb dX1_plainStrike_51 (by decide) ?_
          exact ih y3 v12 σ _ _ _ hw hk54 hP hS (lv_sub hl [1, 2, 3, 4, 0] rfl)
        · have hw := hw.1 c2
          refine lv_iload_n hx hb dX1_plainStrike_24 rfl (lv_at hl 3 rfl) ?_
          refine lv_iconst (v := (-1 : Int32)) hx hb dX1_plainStrike_25 (by decide) ?_
          refine lv_icmp_eq (tgt := 45) hx hb dX1_plainStrike_26 (by decide) (fun c3 => ?_) (fun c3 => ?_)
          · have hw := hw.1 c3
            refine lv_iload hx hb dX1_plainStrike_45 (lv_at hl 4 rfl) ?_
            refine lv_istore_n (lv' := [(3, .int y4), (0, .ref (q 1)), (1, .int z1), (2, .int z2), (4, .int y4)]) hx hb dX1_plainStrike_47 rfl hl (by decide) rfl (fun ls hl => ?_)
            obtain ⟨v4, ev4⟩ : ∃ z : Int32, z = y4 + (1 : Int32) := ⟨_, rfl⟩
            have hw := hw v4 ev4
            refine lv_iinc (v := v4) (lv' := [(4, .int v4), (3, .int y4), (0, .ref (q 1)), (1, .int z1), (2, .int z2)]) hx hb dX1_plainStrike_48 hl (k := 4) rfl (by rw [ev4]; rfl) (by decide) rfl (fun ls hl => ?_)
            refine lv_goto (tgt := 5) hx hb dX1_plainStrike_51 (by decide) ?_
            exact ih y4 v4 σ _ _ _ hw hk54 hP hS (lv_sub hl [2, 3, 4, 1, 0] rfl)
          · have hw := hw.2 c3
            refine lv_aload_n hx hb dX1_plainStrike_29 rfl (lv_at hl 0 rfl) ?_
            refine lv_iload_n hx hb dX1_plainStrike_30 rfl (lv_at hl 1 rfl) ?_
            refine lv_iload hx hb dX1_plainStrike_31 (lv_at hl 4 rfl) ?_
            refine va_calli (va_runV (As := [.int z1, .int y4]) (rest := []) ⟨hx, hb, hml, hown, htb⟩ (kcX1_placeOf_1 l D c q ev hev σ z1 y4 _ hw) (tb_CW htb kX1_placeOf tb_445 tb_446 tb_447 ⟨Nat.le_of_ble_eq_true rfl, Nat.le_of_ble_eq_true rfl⟩) (wd_preV (wd := xw c q) (k := 1) hev hK hP hD hE hS (xw_1 c q σ) rfl) rfl rfl hl.1 rfl (lv_room (Nat.le_of_ble_eq_true rfl)) dX1_plainStrike_33 ⟨Nat.zero_le _, Nat.zero_le _⟩) hS (fun q _ h => h) (fun q h => h) (fun r5 σ6 t H1 locs1 ht hvm hw hB hz1 hk1 hS => ?_)
            have hP : va_P D vwCl (xw c q σ6) H1 := ht ▸ hB
            have hD : va_D (wdA 36 q) (xw c q σ6) := xw_D hD0
            refine lv_aload_n hx hb dX1_plainStrike_36 rfl (lv_at hl 0 rfl) ?_
            refine lv_iload_n hx hb dX1_plainStrike_37 rfl (lv_at hl 1 rfl) ?_
            refine lv_iload_n hx hb dX1_plainStrike_38 rfl (lv_at hl 3 rfl) ?_
            refine va_calli (va_runV (As := [.int z1, .int y3]) (rest := [.int r5]) ⟨hx, hb, hml, hown, htb⟩ (kcX1_placeOf_1 l D c q ev hev σ6 z1 y3 _ hw) (tb_CW htb kX1_placeOf tb_445 tb_446 tb_447 ⟨Nat.le_of_ble_eq_true rfl, Nat.le_of_ble_eq_true rfl⟩) (wd_preV (wd := xw c q) (k := 1) hev hK hP hD hE hS (xw_1 c q σ6) rfl) rfl rfl hl.1 rfl (lv_room (Nat.le_of_ble_eq_true rfl)) dX1_plainStrike_39 ⟨Nat.zero_le _, Nat.zero_le _⟩) hS (fun q _ h => h) (fun q h => h) (fun r7 σ8 t H1 locs1 ht hvm hw hB hz1 hk1 hS => ?_)
            have hP : va_P D vwCl (xw c q σ8) H1 := ht ▸ hB
            have hD : va_D (wdA 36 q) (xw c q σ8) := xw_D hD0
            refine lv_icmp_lt (tgt := 48) hx hb dX1_plainStrike_42 (by decide) (fun c9 => ?_) (fun c9 => ?_)
            · have hw := hw.1 c9
              obtain ⟨v10, ev10⟩ : ∃ z : Int32, z = y4 + (1 : Int32) := ⟨_, rfl⟩
              have hw := hw v10 ev10
              refine lv_iinc (v := v10) (lv' := [(4, .int v10), (0, .ref (q 1)), (1, .int z1), (2, .int z2), (3, .int y3)]) hx hb dX1_plainStrike_48 hl (k := 4) rfl (by rw [ev10]; rfl) (by decide) rfl (fun ls hl => ?_)
              refine lv_goto (tgt := 5) hx hb dX1_plainStrike_51 (by decide) ?_
              exact ih y3 v10 σ8 _ _ _ hw hk54 hP hS (lv_sub hl [1, 2, 3, 4, 0] rfl)
            · have hw := hw.2 c9
              refine lv_iload hx hb dX1_plainStrike_45 (lv_at hl 4 rfl) ?_
              refine lv_istore_n (lv' := [(3, .int y4), (0, .ref (q 1)), (1, .int z1), (2, .int z2), (4, .int y4)]) hx hb dX1_plainStrike_47 rfl hl (by decide) rfl (fun ls hl => ?_)
              obtain ⟨v11, ev11⟩ : ∃ z : Int32, z = y4 + (1 : Int32) := ⟨_, rfl⟩
              have hw := hw v11 ev11
              refine lv_iinc (v := v11) (lv' := [(4, .int v11), (3, .int y4), (0, .ref (q 1)), (1, .int z1), (2, .int z2)]) hx hb dX1_plainStrike_48 hl (k := 4) rfl (by rw [ev11]; rfl) (by decide) rfl (fun ls hl => ?_)
              refine lv_goto (tgt := 5) hx hb dX1_plainStrike_51 (by decide) ?_
              exact ih y4 v11 σ8 _ _ _ hw hk54 hP hS (lv_sub hl [2, 3, 4, 1, 0] rfl)
  have hl := lv_entry ([.ref (q 1), .int x1, .int x2]) (n := 5) (Nat.le_of_ble_eq_true rfl)
  rw [lg_entry_eq]
  generalize (lg_sl ([.ref (q 1), .int x1, .int x2]) ++ List.replicate (5 - (lg_sl ([.ref (q 1), .int x1, .int x2])).length) Slot.unset).toArray = ls at hl ⊢
  have hl : lv_has ls 5 [(0, .ref (q 1)), (1, .int x1), (2, .int x2)] := hl
  unfold wX1_plainStrike at hw
  refine lv_iconst (v := (-1 : Int32)) hx hb dX1_plainStrike_0 (by decide) ?_
  refine lv_istore_n (lv' := [(3, .int (-1 : Int32)), (0, .ref (q 1)), (1, .int x1), (2, .int x2)]) hx hb dX1_plainStrike_1 rfl hl (by decide) rfl (fun ls hl => ?_)
  refine lv_iconst (v := (0 : Int32)) hx hb dX1_plainStrike_2 (by decide) ?_
  refine lv_istore (lv' := [(4, .int (0 : Int32)), (3, .int (-1 : Int32)), (0, .ref (q 1)), (1, .int x1), (2, .int x2)]) hx hb dX1_plainStrike_3 hl (by decide) rfl (fun ls hl => ?_)
  obtain ⟨n13, hw⟩ := hw
  refine L5 _ x1 x2 n13 (-1 : Int32) (0 : Int32) σ _ _ _ hw ?_ hP hS (lv_sub hl [2, 3, 4, 1, 0] rfl)
  intro v14 v15 σ16 H locs ls hw hP hS hl
  have hD : va_D (wdA 36 q) (xw c q σ16) := xw_D hD0
  refine lv_iload_n hx hb dX1_plainStrike_54 rfl (lv_at hl 3 rfl) ?_
  exact W.iret hx hb hr (fun t ht hW => ⟨⟨_, σ16, rfl, hw, by unfold wdB; rw [ht]; exact hP⟩, hS.F ht⟩) hS.2.2 dX1_plainStrike_55
def wX1_strikePlainly (b0 : Nat) (x1 : Int32) (x2 : Int32) (post : Int32 → hsS → Prop) (σ : hsS) : Prop := wJ6_bitCount_0f7a4 x2 (fun r1 σ2 => (((2 : Int32) ≤ r1 → wX1_plainStrike b0 x1 x2 (fun r4 σ5 => post (x2 &&& (((1 : Int32) <<< (r4 &&& 31)) ^^^ (-1 : Int32))) σ5) σ2) ∧ (¬ (2 : Int32) ≤ r1 → post x2 σ2))) σ
set_option maxHeartbeats 4000000 in
set_option maxRecDepth 100000 in
theorem kcX1_strikePlainly_1 (l : Launch) (D : va_G) (c : Nat → ClassId) (q : Nat → Nat) (ev : State → Heap → Prop) (hev : evOK (wdA 36 q) ev) (σ : hsS) (x1 : Int32) (x2 : Int32) (post : Int32 → hsS → Prop) (hw : wX1_strikePlainly 1 x1 x2 post σ) : Met l yX1_strikePlainly (Cond.code yX1_strikePlainly cX1_strikePlainly 3 (some .int) :: tb_L) { frames := 2, cells := 0, slots := 0, locals := 46 } (wdPc D (xw c q) (xwT c) (wdA 36 q) ev σ [.ref (q 1), .int x1, .int x2]) (va_Qi post (wdB D (xw c q)) (wdA 36 q)) 0 0 (wdA 36 q) := by
  refine Met.ofW (cc := cX1_strikePlainly) (maxL := 3) (ret := (some .int)) (by decide) rfl ?_
  intro p e s m args below meth c₀ s₁ Bd hml hv
  obtain ⟨rfl, hP, hK, hD0, hE⟩ := hv
  have hx := Bd.exec
  have hb := Bd.bytes
  have hr := Bd.returns
  have hts := atoms_spec (ws := Cond.code yX1_strikePlainly cX1_strikePlainly 3 (some .int) :: tb_L) Bd.pre
  have htb : ∀ w ∈ tb_L, w.before [.ref (q 1), .int x1, .int x2].toArray s = true := fun w h => hts w (List.mem_cons_of_mem _ h)
  have hown : s.vm.findClass RX1 = some m.cls := findClass_of_methodNamed Bd.named
  have hlocks := Bd.notSynchronized
  have hS : va_S (wdA 36 q) s.heap s.heap [] := va_S.rf
  have hD := hD0
  have hl := lv_entry ([.ref (q 1), .int x1, .int x2]) (n := 3) (Nat.le_of_ble_eq_true rfl)
  rw [lg_entry_eq]
  generalize (lg_sl ([.ref (q 1), .int x1, .int x2]) ++ List.replicate (3 - (lg_sl ([.ref (q 1), .int x1, .int x2])).length) Slot.unset).toArray = ls at hl ⊢
  have hl : lv_has ls 3 [(0, .ref (q 1)), (1, .int x1), (2, .int x2)] := hl
  unfold wX1_strikePlainly at hw
  refine lv_iload_n hx hb dX1_strikePlainly_0 rfl (lv_at hl 2 rfl) ?_
  refine va_calli (va_runS (As := [.int x2]) (rest := []) ⟨hx, hb, hml, hown, htb⟩ (kcJ6_bitCount_0f7a4_x l D c q ev hev σ x2 _ hw) (tb_CS htb kJ6_bitCount_0f7a4 tb_406 tb_407 ⟨Nat.le_of_ble_eq_true rfl, Nat.le_of_ble_eq_true rfl⟩) (wd_preS (wd := xw c q) hev hK hP hD hE hS) rfl rfl hl.1 rfl (lv_room (Nat.le_of_ble_eq_true rfl)) dX1_strikePlainly_1 ⟨Nat.zero_le _, Nat.zero_le _⟩) hS (fun q _ h => h) (fun q h => h) (fun r1 σ2 t H1 locs1 ht hvm hw hB hz1 hk1 hS => ?_)
  have hP : va_P D vwCl (xw c q σ2) H1 := ht ▸ hB
  have hD : va_D (wdA 36 q) (xw c q σ2) := xw_D hD0
  refine lv_iconst (v := (2 : Int32)) hx hb dX1_strikePlainly_4 (by decide) ?_
  refine lv_icmp_ge (tgt := 10) hx hb dX1_strikePlainly_5 (by decide) (fun c3 => ?_) (fun c3 => ?_)
  · have hw := hw.1 c3
    refine lv_iload_n hx hb dX1_strikePlainly_10 rfl (lv_at hl 2 rfl) ?_
    refine lv_iconst (v := (1 : Int32)) hx hb dX1_strikePlainly_11 (by decide) ?_
    refine lv_aload_n hx hb dX1_strikePlainly_12 rfl (lv_at hl 0 rfl) ?_
    refine lv_iload_n hx hb dX1_strikePlainly_13 rfl (lv_at hl 1 rfl) ?_
    refine lv_iload_n hx hb dX1_strikePlainly_14 rfl (lv_at hl 2 rfl) ?_
    refine va_calli (va_runV (As := [.int x1, .int x2]) (rest := [.int (1 : Int32), .int x2]) ⟨hx, hb, hml, hown, htb⟩ (kcX1_plainStrike_1 l D c q ev hev σ2 x1 x2 _ hw) (tb_CW htb kX1_plainStrike tb_466 tb_467 tb_468 ⟨Nat.le_of_ble_eq_true rfl, Nat.le_of_ble_eq_true rfl⟩) (wd_preV (wd := xw c q) (k := 1) hev hK hP hD hE hS (xw_1 c q σ2) rfl) rfl rfl hl.1 rfl (lv_room (Nat.le_of_ble_eq_true rfl)) dX1_strikePlainly_15 ⟨Nat.zero_le _, Nat.zero_le _⟩) hS (fun q _ h => h) (fun q h => h) (fun r4 σ5 t H1 locs1 ht hvm hw hB hz1 hk1 hS => ?_)
    have hP : va_P D vwCl (xw c q σ5) H1 := ht ▸ hB
    have hD : va_D (wdA 36 q) (xw c q σ5) := xw_D hD0
    refine lv_ishl hx hb dX1_strikePlainly_18 ?_
    refine lv_iconst (v := (-1 : Int32)) hx hb dX1_strikePlainly_19 (by decide) ?_
    refine lv_ixor hx hb dX1_strikePlainly_20 ?_
    refine lv_iand hx hb dX1_strikePlainly_21 ?_
    exact W.iret hx hb hr (fun t ht hW => ⟨⟨_, σ5, rfl, hw, by unfold wdB; rw [ht]; exact hP⟩, hS.F ht⟩) hS.2.2 dX1_strikePlainly_22
  · have hw := hw.2 c3
    refine lv_iload_n hx hb dX1_strikePlainly_8 rfl (lv_at hl 2 rfl) ?_
    exact W.iret hx hb hr (fun t ht hW => ⟨⟨_, σ2, rfl, hw, by unfold wdB; rw [ht]; exact hP⟩, hS.F ht⟩) hS.2.2 dX1_strikePlainly_9
def wX1_strikeOften_L6 (b0 : Nat) (z1 : Int32) (z2 : Int32) (z3 : Int32) (K27 : Int32 → Int32 → hsS → Prop) (post : Int32 → hsS → Prop) : Nat → Int32 → Int32 → hsS → Prop
  | 0, _, _, _ => False
  | n + 1, y4, y5, σ => ((z3 ≤ y5 → K27 y4 y5 σ) ∧ (¬ z3 ≤ y5 → wX1_strikePlainly b0 z1 y4 (fun r2 σ3 => ∀ v4 : Int32, v4 = y5 + (1 : Int32) → wX1_strikeOften_L6 b0 z1 z2 z3 K27 post n r2 v4 σ3) σ))
def wX1_strikeOften (b0 : Nat) (x1 : Int32) (x2 : Int32) (x3 : Int32) (post : Int32 → hsS → Prop) (σ : hsS) : Prop := ∃ n5, wX1_strikeOften_L6 b0 x1 x2 x3 (fun v6 v7 σ8 => post v6 σ8) post n5 x2 (0 : Int32) σ
set_option maxHeartbeats 4000000 in
set_option maxRecDepth 100000 in
theorem kcX1_strikeOften_1 (l : Launch) (D : va_G) (c : Nat → ClassId) (q : Nat → Nat) (ev : State → Heap → Prop) (hev : evOK (wdA 36 q) ev) (σ : hsS) (x1 : Int32) (x2 : Int32) (x3 : Int32) (post : Int32 → hsS → Prop) (hw : wX1_strikeOften 1 x1 x2 x3 post σ) : Met l yX1_strikeOften (Cond.code yX1_strikeOften cX1_strikeOften 6 (some .int) :: tb_L) { frames := 3, cells := 0, slots := 0, locals := 68 } (wdPc D (xw c q) (xwT c) (wdA 36 q) ev σ [.ref (q 1), .int x1, .int x2, .int x3]) (va_Qi post (wdB D (xw c q)) (wdA 36 q)) 0 0 (wdA 36 q) := by
  refine Met.ofW (cc := cX1_strikeOften) (maxL := 6) (ret := (some .int)) (by decide) rfl ?_
  intro p e s m args below meth c₀ s₁ Bd hml hv
  obtain ⟨rfl, hP, hK, hD0, hE⟩ := hv
  have hx := Bd.exec
  have hb := Bd.bytes
  have hr := Bd.returns
  have hts := atoms_spec (ws := Cond.code yX1_strikeOften cX1_strikeOften 6 (some .int) :: tb_L) Bd.pre
  have htb : ∀ w ∈ tb_L, w.before [.ref (q 1), .int x1, .int x2, .int x3].toArray s = true := fun w h => hts w (List.mem_cons_of_mem _ h)
  have hown : s.vm.findClass RX1 = some m.cls := findClass_of_methodNamed Bd.named
  have hlocks := Bd.notSynchronized
  have hS : va_S (wdA 36 q) s.heap s.heap [] := va_S.rf
  have hD := hD0
  have L6 : ∀ (K27 : Int32 → Int32 → hsS → Prop) (z1 : Int32) (z2 : Int32) (z3 : Int32) (n : Nat) (y4 : Int32) (y5 : Int32) (σ : hsS) (H : Heap) (locs : List Loc) (ls : Array Slot), wX1_strikeOften_L6 1 z1 z2 z3 K27 post n y4 y5 σ → (∀ (y4 : Int32) (y5 : Int32) (σ : hsS) (H : Heap) (locs : List Loc) (ls : Array Slot), K27 y4 y5 σ → va_P D vwCl (xw c q σ) H → va_S (wdA 36 q) s.heap H locs → lv_has ls 6 [(0, .ref (q 1)), (1, .int z1), (2, .int z2), (3, .int z3), (4, .int y4), (5, .int y5)] → W p l e (headSpec (Cond.code yX1_strikeOften cX1_strikeOften 6 (some .int) :: tb_L) { frames := 3, cells := 0, slots := 0, locals := 68 }).room s m [.ref (q 1), .int x1, .int x2, .int x3].toArray below meth c₀ H locs 0 0 (MQ below (va_Qi post (wdB D (xw c q)) (wdA 36 q)) [.ref (q 1), .int x1, .int x2, .int x3].toArray s 0 0 (wdA 36 q)) (F0 m 27 ls [])) → va_P D vwCl (xw c q σ) H → va_S (wdA 36 q) s.heap H locs → lv_has ls 6 [(0, .ref (q 1)), (1, .int z1), (2, .int z2), (3, .int z3), (4, .int y4), (5, .int y5)] → W p l e (headSpec (Cond.code yX1_strikeOften cX1_strikeOften 6 (some .int) :: tb_L) { frames := 3, cells := 0, slots := 0, locals := 68 }).room s m [.ref (q 1), .int x1, .int x2, .int x3].toArray below meth c₀ H locs 0 0 (MQ below (va_Qi post (wdB D (xw c q)) (wdA 36 q)) [.ref (q 1), .int x1, .int x2, .int x3].toArray s 0 0 (wdA 36 q)) (F0 m 6 ls []) := by
    intro K27 z1 z2 z3 n
    induction n with
    | zero =>
      intro y4 y5 σ H locs ls hw hk27 hP hS hl
      exact (show False from hw).elim
    | succ n ih =>
      intro y4 y5 σ H locs ls hw hk27 hP hS hl
      rw [wX1_strikeOften_L6] at hw
      have hD : va_D (wdA 36 q) (xw c q σ) := xw_D hD0
      refine lv_iload hx hb dX1_strikeOften_6 (lv_at hl 5 rfl) ?_
      refine lv_iload_n hx hb dX1_strikeOften_8 rfl (lv_at hl 3 rfl) ?_
      refine lv_icmp_ge (tgt := 27) hx hb dX1_strikeOften_9 (by decide) (fun c1 => ?_) (fun c1 => ?_)
      · have hw := hw.1 c1
        exact hk27 y4 y5 σ _ _ _ hw hP hS (lv_sub hl [0, 1, 2, 3, 4, 5] rfl)
      · have hw := hw.2 c1
        refine lv_aload_n hx hb dX1_strikeOften_12 rfl (lv_at hl 0 rfl) ?_
        refine lv_iload_n hx hb dX1_strikeOften_13 rfl (lv_at hl 1 rfl) ?_
        refine lv_iload hx hb dX1_strikeOften_14 (lv_at hl 4 rfl) ?_
        refine va_calli (va_runV (As := [.int z1, .int y4]) (rest := []) ⟨hx, hb, hml, hown, htb⟩ (kcX1_strikePlainly_1 l D c q ev hev σ z1 y4 _ hw) (tb_CW htb kX1_strikePlainly tb_462 tb_463 tb_464 ⟨Nat.le_of_ble_eq_true rfl, Nat.le_of_ble_eq_true rfl⟩) (wd_preV (wd := xw c q) (k := 1) hev hK hP hD hE hS (xw_1 c q σ) rfl) rfl rfl hl.1 rfl (lv_room (Nat.le_of_ble_eq_true rfl)) dX1_strikeOften_16 ⟨Nat.zero_le _, Nat.zero_le _⟩) hS (fun q _ h => h) (fun q h => h) (fun r2 σ3 t H1 locs1 ht hvm hw hB hz1 hk1 hS => ?_)
        have hP : va_P D vwCl (xw c q σ3) H1 := ht ▸ hB
        have hD : va_D (wdA 36 q) (xw c q σ3) := xw_D hD0
        refine lv_istore (lv' := [(4, .int r2), (0, .ref (q 1)), (1, .int z1), (2, .int z2), (3, .int z3), (5, .int y5)]) hx hb dX1_strikeOften_19 hl (by decide) rfl (fun ls hl => ?_)
        obtain ⟨v4, ev4⟩ : ∃ z : Int32, z = y5 + (1 : Int32) := ⟨_, rfl⟩
        have hw := hw v4 ev4
        refine lv_iinc (v := v4) (lv' := [(5, .int v4), (4, .int r2), (0, .ref (q 1)), (1, .int z1), (2, .int z2), (3, .int z3)]) hx hb dX1_strikeOften_21 hl (k := 5) rfl (by rw [ev4]; rfl) (by decide) rfl (fun ls hl => ?_)
        refine lv_goto (tgt := 6) hx hb dX1_strikeOften_24 (by decide) ?_
        exact ih r2 v4 σ3 _ _ _ hw hk27 hP hS (lv_sub hl [2, 3, 4, 5, 1, 0] rfl)
  have hl := lv_entry ([.ref (q 1), .int x1, .int x2, .int x3]) (n := 6) (Nat.le_of_ble_eq_true rfl)
  rw [lg_entry_eq]
  generalize (lg_sl ([.ref (q 1), .int x1, .int x2, .int x3]) ++ List.replicate (6 - (lg_sl ([.ref (q 1), .int x1, .int x2, .int x3])).length) Slot.unset).toArray = ls at hl ⊢
  have hl : lv_has ls 6 [(0, .ref (q 1)), (1, .int x1), (2, .int x2), (3, .int x3)] := hl
  unfold wX1_strikeOften at hw
  refine lv_iload_n hx hb dX1_strikeOften_0 rfl (lv_at hl 2 rfl) ?_
  refine lv_istore (lv' := [(4, .int x2), (0, .ref (q 1)), (1, .int x1), (2, .int x2), (3, .int x3)]) hx hb dX1_strikeOften_1 hl (by decide) rfl (fun ls hl => ?_)
  refine lv_iconst (v := (0 : Int32)) hx hb dX1_strikeOften_3 (by decide) ?_
  refine lv_istore (lv' := [(5, .int (0 : Int32)), (4, .int x2), (0, .ref (q 1)), (1, .int x1), (2, .int x2), (3, .int x3)]) hx hb dX1_strikeOften_4 hl (by decide) rfl (fun ls hl => ?_)
  obtain ⟨n5, hw⟩ := hw
  refine L6 _ x1 x2 x3 n5 x2 (0 : Int32) σ _ _ _ hw ?_ hP hS (lv_sub hl [2, 3, 4, 5, 1, 0] rfl)
  intro v6 v7 σ8 H locs ls hw hP hS hl
  have hD : va_D (wdA 36 q) (xw c q σ8) := xw_D hD0
  refine lv_iload hx hb dX1_strikeOften_27 (lv_at hl 4 rfl) ?_
  exact W.iret hx hb hr (fun t ht hW => ⟨⟨_, σ8, rfl, hw, by unfold wdB; rw [ht]; exact hP⟩, hS.F ht⟩) hS.2.2 dX1_strikeOften_29
def wX7_some_L15 (z1 : Int32) (K61 : Int32 → Int32 → hsS → Prop) (post : Int32 → hsS → Prop) (px : hsS → Prop) : Nat → Int32 → Int32 → hsS → Prop
  | 0, _, _, _ => False
  | n + 1, y2, y3, σ => (((σ.1 65) ≤ y3 → K61 y2 y3 σ) ∧ (¬ (σ.1 65) ≤ y3 → wX7_personInRow z1 y3 (fun r6 σ7 => wX1_mayStrike 1 ((1 : Int32) <<< (r6 &&& 31)) (fun r8 σ9 => wX1_strikeOften 1 r6 y2 r8 (fun r10 σ11 => ∀ v12 : Int32, v12 = y3 + (1 : Int32) → wX7_some_L15 z1 K61 post px n r10 v12 σ11) σ9) σ7) σ))
def wX7_some (x1 : Int32) (post : Int32 → hsS → Prop) (px : hsS → Prop) (σ : hsS) : Prop := wX7_needWholeRow x1 (fun σ2 => wX1_allThings 1 (fun r3 σ4 => ∃ n13, wX7_some_L15 x1 (fun v14 v15 σ16 => post v14 σ16) post px n13 r3 (0 : Int32) σ4) σ2) px σ
set_option maxHeartbeats 4000000 in
set_option maxRecDepth 100000 in
theorem kcX7_some (l : Launch) (D : va_G) (c : Nat → ClassId) (q : Nat → Nat) (ev : State → Heap → Prop) (hev : evOK (wdA 36 q) ev) (hst : l.stackTraces = false) (hX : ∀ (U : State) (H : Heap), ev U H → evT (wdA 36 q) U H) (σ : hsS) (x1 : Int32) (post : Int32 → hsS → Prop) (px : hsS → Prop) (hw : wX7_some x1 post px σ) : vx_Met l yX7_some (Cond.code yX7_some cX7_some 5 (some .int) :: tb_L) { frames := 10, cells := 10, slots := 60, locals := 173 } (wdPc D (xw c q) (xwT c) (wdA 36 q) ev σ [.ref (q 0), .int x1]) (va_Qi post (wdB D (xw c q)) (wdA 36 q)) (vx_X px (xpB D (xw c q) "java/util/NoSuchElementException") (wdA 36 q)) 10 60 (wdA 36 q) := by
  refine vx_ofW (cc := cX7_some) (maxL := 5) (ret := (some .int)) (by decide) rfl ?_
  intro p e s m args below meth c₀ s₁ Bd hml htab hv
  obtain ⟨rfl, hP, hK, hD0, hE⟩ := hv
  have hx := Bd.exec
  have hb := Bd.bytes
  have hr := Bd.returns
  have hts := atoms_spec (ws := Cond.code yX7_some cX7_some 5 (some .int) :: tb_L) Bd.pre
  have htb : ∀ w ∈ tb_L, w.before [.ref (q 0), .int x1].toArray s = true := fun w h => hts w (List.mem_cons_of_mem _ h)
  have hown : s.vm.findClass RX7 = some m.cls := findClass_of_methodNamed Bd.named
  have hlocks := Bd.notSynchronized
  have hS : va_S (wdA 36 q) s.heap s.heap [] := va_S.rf
  have hD := hD0
  have L15 : ∀ (K61 : Int32 → Int32 → hsS → Prop) (z1 : Int32) (n : Nat) (y2 : Int32) (y3 : Int32) (σ : hsS) (H : Heap) (locs : List Loc) (ls : Array Slot), wX7_some_L15 z1 K61 post px n y2 y3 σ → (∀ (y2 : Int32) (y3 : Int32) (σ : hsS) (H : Heap) (locs : List Loc) (ls : Array Slot), K61 y2 y3 σ → va_P D vwCl (xw c q σ) H → va_S (wdA 36 q) s.heap H locs → lv_has ls 5 [(0, .ref (q 0)), (1, .int z1), (2, .int y2), (3, .int y3)] → W p l e (headSpec (Cond.code yX7_some cX7_some 5 (some .int) :: tb_L) { frames := 10, cells := 10, slots := 60, locals := 173 }).room s m [.ref (q 0), .int x1].toArray below meth c₀ H locs 10 60 (vx_MQ below (va_Qi post (wdB D (xw c q)) (wdA 36 q)) (vx_X px (xpB D (xw c q) "java/util/NoSuchElementException") (wdA 36 q)) [.ref (q 0), .int x1].toArray s 10 60 (wdA 36 q)) (F0 m 61 ls [])) → va_P D vwCl (xw c q σ) H → va_S (wdA 36 q) s.heap H locs → lv_has ls 5 [(0, .ref (q 0)), (1, .int z1), (2, .int y2), (3, .int y3)] → W p l e (headSpec (Cond.code yX7_some cX7_some 5 (some .int) :: tb_L) { frames := 10, cells := 10, slots := 60, locals := 173 }).room s m [.ref (q 0), .int x1].toArray below meth c₀ H locs 10 60 (vx_MQ below (va_Qi post (wdB D (xw c q)) (wdA 36 q)) (vx_X px (xpB D (xw c q) "java/util/NoSuchElementException") (wdA 36 q)) [.ref (q 0), .int x1].toArray s 10 60 (wdA 36 q)) (F0 m 15 ls []) := by
    intro K61 z1 n
    induction n with
    | zero =>
      intro y2 y3 σ H locs ls hw hk61 hP hS hl
      exact (show False from hw).elim
    | succ n ih =>
      intro y2 y3 σ H locs ls hw hk61 hP hS hl
      rw [wX7_some_L15] at hw
      have hD : va_D (wdA 36 q) (xw c q σ) := xw_D hD0
      refine lv_iload_n hx hb dX7_some_15 rfl (lv_at hl 3 rfl) ?_
      refine lv_aload_n hx hb dX7_some_16 rfl (lv_at hl 0 rfl) ?_
      refine va_get (D := D) (ci := 7) (C := RX7) (T := TX7) (N := 9) hx hb htb inX7 hown hK hP 0 (xw_0 c q σ) rfl 0 (by decide) (htb _ tb_342) (fun _ h9 => h9) rfl dX7_some_17 ?_
      refine va_getN (D := D) (ci := 1) (C := RX1) (T := TX1) (N := 12) hx hb htb inX1 hown hK hP 1 (xw_1 c q σ) rfl 1 (by decide) (htb _ tb_136) (fun _ h9 => h9) rfl dX7_some_20 ?_
      refine lv_icmp_ge (tgt := 61) hx hb dX7_some_23 (by decide) (fun c5 => ?_) (fun c5 => ?_)
      · have hw := hw.1 c5
        exact hk61 y2 y3 σ _ _ _ hw hP hS (lv_sub hl [0, 1, 2, 3] rfl)
      · have hw := hw.2 c5
        refine lv_iload_n hx hb dX7_some_26 rfl (lv_at hl 1 rfl) ?_
        refine lv_iload_n hx hb dX7_some_27 rfl (lv_at hl 3 rfl) ?_
        refine va_calli (va_runS (As := [.int z1, .int y3]) (rest := []) ⟨hx, hb, hml, hown, htb⟩ (kcX7_personInRow_x l D c q ev hev σ z1 y3 _ hw) (tb_CS htb kX7_personInRow tb_966 tb_967 ⟨Nat.le_of_ble_eq_true rfl, Nat.le_of_ble_eq_true rfl⟩) (wd_preS (wd := xw c q) hev hK hP hD hE hS) rfl rfl hl.1 rfl (lv_room (Nat.le_of_ble_eq_true rfl)) dX7_some_28 ⟨Nat.le_of_ble_eq_true rfl, Nat.le_of_ble_eq_true rfl⟩) hS (fun q _ h => h) (fun q h => h) (fun r6 σ7 t H1 locs1 ht hvm hw hB hz1 hk1 hS => ?_)
        have hP : va_P D vwCl (xw c q σ7) H1 := ht ▸ hB
        have hD : va_D (wdA 36 q) (xw c q σ7) := xw_D hD0
        refine lv_istore (lv' := [(4, .int r6), (0, .ref (q 0)), (1, .int z1), (2, .int y2), (3, .int y3)]) hx hb dX7_some_31 hl (by decide) rfl (fun ls hl => ?_)
        refine lv_aload_n hx hb dX7_some_33 rfl (lv_at hl 1 rfl) ?_
        refine va_get (D := D) (ci := 7) (C := RX7) (T := TX7) (N := 9) hx hb htb inX7 hown hK hP 0 (xw_0 c q σ7) rfl 0 (by decide) (htb _ tb_342) (fun _ h9 => h9) rfl dX7_some_34 ?_
        refine lv_iload hx hb dX7_some_37 (lv_at hl 0 rfl) ?_
        refine lv_iload_n hx hb dX7_some_39 rfl (lv_at hl 3 rfl) ?_
        refine lv_aload_n hx hb dX7_some_40 rfl (lv_at hl 1 rfl) ?_
        refine va_get (D := D) (ci := 7) (C := RX7) (T := TX7) (N := 9) hx hb htb inX7 hown hK hP 0 (xw_0 c q σ7) rfl 0 (by decide) (htb _ tb_342) (fun _ h9 => h9) rfl dX7_some_41 ?_
        refine lv_iconst (v := (1 : Int32)) hx hb dX7_some_44 (by decide) ?_
        refine lv_iload hx hb dX7_some_45 (lv_at hl 0 rfl) ?_
        refine lv_ishl hx hb dX7_some_47 ?_
        refine va_calli (va_runV (As := [.int ((1 : Int32) <<< (r6 &&& 31))]) (rest := [.int y2, .int r6, .ref (q 1)]) ⟨hx, hb, hml, hown, htb⟩ (kcX1_mayStrike_1 l D c q ev hev σ7 ((1 : Int32) <<< (r6 &&& 31)) _ hw) (tb_CW htb kX1_mayStrike tb_390 tb_391 tb_392 ⟨Nat.le_of_ble_eq_true rfl, Nat.le_of_ble_eq_true rfl⟩) (wd_preV (wd := xw c q) (k := 1) hev hK hP hD hE hS (xw_1 c q σ7) rfl) rfl rfl hl.1 rfl (lv_room (Nat.le_of_ble_eq_true rfl)) dX7_some_48 ⟨Nat.le_of_ble_eq_true rfl, Nat.le_of_ble_eq_true rfl⟩) hS (fun q _ h => h) (fun q h => h) (fun r8 σ9 t H1 locs1 ht hvm hw hB hz1 hk1 hS => ?_)
        have hP : va_P D vwCl (xw c q σ9) H1 := ht ▸ hB
        have hD : va_D (wdA 36 q) (xw c q σ9) := xw_D hD0
        refine va_calli (va_runV (As := [.int r6, .int y2, .int r8]) (rest := []) ⟨hx, hb, hml, hown, htb⟩ (kcX1_strikeOften_1 l D c q ev hev σ9 r6 y2 r8 _ hw) (tb_CW htb kX1_strikeOften tb_970 tb_971 tb_972 ⟨Nat.le_of_ble_eq_true rfl, Nat.le_of_ble_eq_true rfl⟩) (wd_preV (wd := xw c q) (k := 1) hev hK hP hD hE hS (xw_1 c q σ9) rfl) rfl rfl hl.1 rfl (lv_room (Nat.le_of_ble_eq_true rfl)) dX7_some_51 ⟨Nat.le_of_ble_eq_true rfl, Nat.le_of_ble_eq_true rfl⟩) hS (fun q _ h => h) (fun q h => h) (fun r10 σ11 t H1 locs1 ht hvm hw hB hz1 hk1 hS => ?_)
        have hP : va_P D vwCl (xw c q σ11) H1 := ht ▸ hB
        have hD : va_D (wdA 36 q) (xw c q σ11) := xw_D hD0
        refine lv_istore_n (lv' := [(2, .int r10), (4, .int r6), (0, .ref (q 0)), (1, .int z1), (3, .int y3)]) hx hb dX7_some_54 rfl hl (by decide) rfl (fun ls hl => ?_)
        obtain ⟨v12, ev12⟩ : ∃ z : Int32, z = y3 + (1 : Int32) := ⟨_, rfl⟩
        have hw := hw v12 ev12
        refine lv_iinc (v := v12) (lv' := [(3, .int v12), (2, .int r10), (4, .int r6), (0, .ref (q 0)), (1, .int z1)]) hx hb dX7_some_55 hl (k := 4) rfl (by rw [ev12]; rfl) (by decide) rfl (fun ls hl => ?_)
        refine lv_goto (tgt := 15) hx hb dX7_some_58 (by decide) ?_
        exact ih r10 v12 σ11 _ _ _ hw hk61 hP hS (lv_sub hl [3, 4, 1, 0] rfl)
  have hl := lv_entry ([.ref (q 0), .int x1]) (n := 5) (Nat.le_of_ble_eq_true rfl)
  rw [lg_entry_eq]
  generalize (lg_sl ([.ref (q 0), .int x1]) ++ List.replicate (5 - (lg_sl ([.ref (q 0), .int x1])).length) Slot.unset).toArray = ls at hl ⊢
  have hl : lv_has ls 5 [(0, .ref (q 0)), (1, .int x1)] := hl
  unfold wX7_some at hw
  refine lv_aload_n hx hb dX7_some_0 rfl (lv_at hl 0 rfl) ?_
  refine lv_iload_n hx hb dX7_some_1 rfl (lv_at hl 1 rfl) ?_
  refine vx_callv (vx_runV (As := [.int x1]) (rest := []) ⟨hx, hb, hml, hown, htb⟩ (kcX7_needWholeRow l D c q ev hev hst hX σ x1 _ px hw) (tb_CW htb kX7_needWholeRow tb_962 tb_964 tb_34 ⟨Nat.le_of_ble_eq_true rfl, Nat.le_of_ble_eq_true rfl⟩) (wd_preV (wd := xw c q) (k := 0) hev hK hP hD hE hS (xw_0 c q σ) rfl) rfl rfl hl.1 rfl (lv_room (Nat.le_of_ble_eq_true rfl)) dX7_some_2 ⟨Nat.le_of_ble_eq_true rfl, Nat.le_of_ble_eq_true rfl⟩) hS (fun q _ h => h) (fun q h => h) (fun q _ h => h) (fun E9 ce9 q9 σx t H1 locs1 ht hvm hpx hBX hz1 hk1 hS hce hcv hcl => vx_out (fun x h => (htab x h).elim) hlocks hce hcv hcl (fun t2 ht2 _ => ⟨σx, hpx, ⟨hBX.1, by rw [ht2, ← ht]; exact hBX.2⟩, hS.F ht2⟩) hS.2.2 (Nat.le_of_ble_eq_true rfl) (Nat.le_of_ble_eq_true rfl)) (fun σ2 t H1 locs1 ht hvm hw hB hz1 hk1 hS => ?_)
  have hP : va_P D vwCl (xw c q σ2) H1 := ht ▸ hB
  have hD : va_D (wdA 36 q) (xw c q σ2) := xw_D hD0
  refine lv_aload_n hx hb dX7_some_5 rfl (lv_at hl 0 rfl) ?_
  refine va_get (D := D) (ci := 7) (C := RX7) (T := TX7) (N := 9) hx hb htb inX7 hown hK hP 0 (xw_0 c q σ2) rfl 0 (by decide) (htb _ tb_342) (fun _ h9 => h9) rfl dX7_some_6 ?_
  refine va_calli (va_runV (As := []) (rest := []) ⟨hx, hb, hml, hown, htb⟩ (kcX1_allThings_1 l D c q ev hev σ2  _ hw) (tb_CW htb kX1_allThings tb_525 tb_438 tb_439 ⟨Nat.le_of_ble_eq_true rfl, Nat.le_of_ble_eq_true rfl⟩) (wd_preV (wd := xw c q) (k := 1) hev hK hP hD hE hS (xw_1 c q σ2) rfl) rfl rfl hl.1 rfl (lv_room (Nat.le_of_ble_eq_true rfl)) dX7_some_9 ⟨Nat.le_of_ble_eq_true rfl, Nat.le_of_ble_eq_true rfl⟩) hS (fun q _ h => h) (fun q h => h) (fun r3 σ4 t H1 locs1 ht hvm hw hB hz1 hk1 hS => ?_)
  have hP : va_P D vwCl (xw c q σ4) H1 := ht ▸ hB
  have hD : va_D (wdA 36 q) (xw c q σ4) := xw_D hD0
  refine lv_istore_n (lv' := [(2, .int r3), (0, .ref (q 0)), (1, .int x1)]) hx hb dX7_some_12 rfl hl (by decide) rfl (fun ls hl => ?_)
  refine lv_iconst (v := (0 : Int32)) hx hb dX7_some_13 (by decide) ?_
  refine lv_istore_n (lv' := [(3, .int (0 : Int32)), (2, .int r3), (0, .ref (q 0)), (1, .int x1)]) hx hb dX7_some_14 rfl hl (by decide) rfl (fun ls hl => ?_)
  obtain ⟨n13, hw⟩ := hw
  refine L15 _ x1 n13 r3 (0 : Int32) σ4 _ _ _ hw ?_ hP hS (lv_sub hl [2, 3, 1, 0] rfl)
  intro v14 v15 σ16 H locs ls hw hP hS hl
  have hD : va_D (wdA 36 q) (xw c q σ16) := xw_D hD0
  refine lv_iload_n hx hb dX7_some_61 rfl (lv_at hl 2 rfl) ?_
  exact vx_ret (W.widen (k := 10) (n := 60) (Nat.le_of_ble_eq_true rfl) (Nat.le_of_ble_eq_true rfl) (W.iret hx hb hr (fun t ht hW => ⟨⟨_, σ16, rfl, hw, by unfold wdB; rw [ht]; exact hP⟩, hS.F ht⟩) hS.2.2 dX7_some_62))
def wX1_plainEnd_L7 (b0 : Nat) (K33 : Int32 → Int32 → hsS → Prop) (post : Int32 → hsS → Prop) : Nat → Int32 → Int32 → hsS → Prop
  | 0, _, _, _ => False
  | n + 1, y1, y2, σ => (((σ.1 (64 * b0 + 6)) ≤ y2 → K33 y1 y2 σ) ∧ (¬ (σ.1 (64 * b0 + 6)) ≤ y2 → vp_in y2 8 ∧ wX1_strikePlainly b0 (σ.2.1 (b0 + 4) y2.toNatClampNeg) y1 (fun r4 σ5 => ∀ v6 : Int32, v6 = y2 + (1 : Int32) → wX1_plainEnd_L7 b0 K33 post n r4 v6 σ5) σ))
def wX1_plainEnd (b0 : Nat) (post : Int32 → hsS → Prop) (σ : hsS) : Prop := wX1_allThings b0 (fun r1 σ2 => ∃ n7, wX1_plainEnd_L7 b0 (fun v8 v9 σ10 => post v8 σ10) post n7 r1 (0 : Int32) σ2) σ
set_option maxHeartbeats 4000000 in
set_option maxRecDepth 100000 in
theorem kcX1_plainEnd_1 (l : Launch) (D : va_G) (c : Nat → ClassId) (q : Nat → Nat) (ev : State → Heap → Prop) (hev : evOK (wdA 36 q) ev) (σ : hsS)  (post : Int32 → hsS → Prop) (hw : wX1_plainEnd 1 post σ) : Met l yX1_plainEnd (Cond.code yX1_plainEnd cX1_plainEnd 3 (some .int) :: tb_L) { frames := 3, cells := 0, slots := 0, locals := 68 } (wdPc D (xw c q) (xwT c) (wdA 36 q) ev σ [.ref (q 1)]) (va_Qi post (wdB D (xw c q)) (wdA 36 q)) 0 0 (wdA 36 q) := by
  refine Met.ofW (cc := cX1_plainEnd) (maxL := 3) (ret := (some .int)) (by decide) rfl ?_
  intro p e s m args below meth c₀ s₁ Bd hml hv
  obtain ⟨rfl, hP, hK, hD0, hE⟩ := hv
  have hx := Bd.exec
  have hb := Bd.bytes
  have hr := Bd.returns
  have hts := atoms_spec (ws := Cond.code yX1_plainEnd cX1_plainEnd 3 (some .int) :: tb_L) Bd.pre
  have htb : ∀ w ∈ tb_L, w.before [.ref (q 1)].toArray s = true := fun w h => hts w (List.mem_cons_of_mem _ h)
  have hown : s.vm.findClass RX1 = some m.cls := findClass_of_methodNamed Bd.named
  have hlocks := Bd.notSynchronized
  have hS : va_S (wdA 36 q) s.heap s.heap [] := va_S.rf
  have hD := hD0
  have L7 : ∀ (K33 : Int32 → Int32 → hsS → Prop) (n : Nat) (y1 : Int32) (y2 : Int32) (σ : hsS) (H : Heap) (locs : List Loc) (ls : Array Slot), wX1_plainEnd_L7 1 K33 post n y1 y2 σ → (∀ (y1 : Int32) (y2 : Int32) (σ : hsS) (H : Heap) (locs : List Loc) (ls : Array Slot), K33 y1 y2 σ → va_P D vwCl (xw c q σ) H → va_S (wdA 36 q) s.heap H locs → lv_has ls 3 [(0, .ref (q 1)), (1, .int y1), (2, .int y2)] → W p l e (headSpec (Cond.code yX1_plainEnd cX1_plainEnd 3 (some .int) :: tb_L) { frames := 3, cells := 0, slots := 0, locals := 68 }).room s m [.ref (q 1)].toArray below meth c₀ H locs 0 0 (MQ below (va_Qi post (wdB D (xw c q)) (wdA 36 q)) [.ref (q 1)].toArray s 0 0 (wdA 36 q)) (F0 m 33 ls [])) → va_P D vwCl (xw c q σ) H → va_S (wdA 36 q) s.heap H locs → lv_has ls 3 [(0, .ref (q 1)), (1, .int y1), (2, .int y2)] → W p l e (headSpec (Cond.code yX1_plainEnd cX1_plainEnd 3 (some .int) :: tb_L) { frames := 3, cells := 0, slots := 0, locals := 68 }).room s m [.ref (q 1)].toArray below meth c₀ H locs 0 0 (MQ below (va_Qi post (wdB D (xw c q)) (wdA 36 q)) [.ref (q 1)].toArray s 0 0 (wdA 36 q)) (F0 m 7 ls []) := by
    intro K33 n
    induction n with
    | zero =>
      intro y1 y2 σ H locs ls hw hk33 hP hS hl
      exact (show False from hw).elim
    | succ n ih =>
      intro y1 y2 σ H locs ls hw hk33 hP hS hl
      rw [wX1_plainEnd_L7] at hw
      have hD : va_D (wdA 36 q) (xw c q σ) := xw_D hD0
      refine lv_iload_n hx hb dX1_plainEnd_7 rfl (lv_at hl 2 rfl) ?_
      refine lv_aload_n hx hb dX1_plainEnd_8 rfl (lv_at hl 0 rfl) ?_
      refine va_get (D := D) (ci := 1) (C := RX1) (T := TX1) (N := 12) hx hb htb inX1 hown hK hP 1 (xw_1 c q σ) rfl 6 (by decide) (htb _ tb_148) (fun _ h9 => h9) rfl dX1_plainEnd_9 ?_
      refine lv_icmp_ge (tgt := 33) hx hb dX1_plainEnd_12 (by decide) (fun c3 => ?_) (fun c3 => ?_)
      · have hw := hw.1 c3
        exact hk33 y1 y2 σ _ _ _ hw hP hS (lv_sub hl [0, 1, 2] rfl)
      · have hw := hw.2 c3
        refine lv_aload_n hx hb dX1_plainEnd_15 rfl (lv_at hl 0 rfl) ?_
        refine lv_aload_n hx hb dX1_plainEnd_16 rfl (lv_at hl 0 rfl) ?_
        refine va_get (D := D) (ci := 1) (C := RX1) (T := TX1) (N := 12) hx hb htb inX1 hown hK hP 1 (xw_1 c q σ) rfl 11 (by decide) (htb _ tb_161) (fun _ h9 => h9) rfl dX1_plainEnd_17 ?_
        refine lv_iload_n hx hb dX1_plainEnd_20 rfl (lv_at hl 2 rfl) ?_
        refine va_iald hx hb hK hP 5 3 (xw_5 c q σ) rfl hw.1 dX1_plainEnd_21 ?_
        have hw := hw.2
        refine lv_iload_n hx hb dX1_plainEnd_22 rfl (lv_at hl 1 rfl) ?_
        refine va_calli (va_runV (As := [.int (σ.2.1 5 y2.toNatClampNeg), .int y1]) (rest := []) ⟨hx, hb, hml, hown, htb⟩ (kcX1_strikePlainly_1 l D c q ev hev σ (σ.2.1 5 y2.toNatClampNeg) y1 _ hw) (tb_CW htb kX1_strikePlainly tb_462 tb_463 tb_464 ⟨Nat.le_of_ble_eq_true rfl, Nat.le_of_ble_eq_true rfl⟩) (wd_preV (wd := xw c q) (k := 1) hev hK hP hD hE hS (xw_1 c q σ) rfl) rfl rfl hl.1 rfl (lv_room (Nat.le_of_ble_eq_true rfl)) dX1_plainEnd_23 ⟨Nat.zero_le _, Nat.zero_le _⟩) hS (fun q _ h => h) (fun q h => h) (fun r4 σ5 t H1 locs1 ht hvm hw hB hz1 hk1 hS => ?_)
        have hP : va_P D vwCl (xw c q σ5) H1 := ht ▸ hB
        have hD : va_D (wdA 36 q) (xw c q σ5) := xw_D hD0
        refine lv_istore_n (lv' := [(1, .int r4), (0, .ref (q 1)), (2, .int y2)]) hx hb dX1_plainEnd_26 rfl hl (by decide) rfl (fun ls hl => ?_)
        obtain ⟨v6, ev6⟩ : ∃ z : Int32, z = y2 + (1 : Int32) := ⟨_, rfl⟩
        have hw := hw v6 ev6
        refine lv_iinc (v := v6) (lv' := [(2, .int v6), (1, .int r4), (0, .ref (q 1))]) hx hb dX1_plainEnd_27 hl (k := 2) rfl (by rw [ev6]; rfl) (by decide) rfl (fun ls hl => ?_)
        refine lv_goto (tgt := 7) hx hb dX1_plainEnd_30 (by decide) ?_
        exact ih r4 v6 σ5 _ _ _ hw hk33 hP hS (lv_sub hl [2, 1, 0] rfl)
  have hl := lv_entry ([.ref (q 1)]) (n := 3) (Nat.le_of_ble_eq_true rfl)
  rw [lg_entry_eq]
  generalize (lg_sl ([.ref (q 1)]) ++ List.replicate (3 - (lg_sl ([.ref (q 1)])).length) Slot.unset).toArray = ls at hl ⊢
  have hl : lv_has ls 3 [(0, .ref (q 1))] := hl
  unfold wX1_plainEnd at hw
  refine lv_aload_n hx hb dX1_plainEnd_0 rfl (lv_at hl 0 rfl) ?_
  refine va_calli (va_runV (As := []) (rest := []) ⟨hx, hb, hml, hown, htb⟩ (kcX1_allThings_1 l D c q ev hev σ  _ hw) (tb_CW htb kX1_allThings tb_461 tb_438 tb_439 ⟨Nat.le_of_ble_eq_true rfl, Nat.le_of_ble_eq_true rfl⟩) (wd_preV (wd := xw c q) (k := 1) hev hK hP hD hE hS (xw_1 c q σ) rfl) rfl rfl hl.1 rfl (lv_room (Nat.le_of_ble_eq_true rfl)) dX1_plainEnd_1 ⟨Nat.zero_le _, Nat.zero_le _⟩) hS (fun q _ h => h) (fun q h => h) (fun r1 σ2 t H1 locs1 ht hvm hw hB hz1 hk1 hS => ?_)
  have hP : va_P D vwCl (xw c q σ2) H1 := ht ▸ hB
  have hD : va_D (wdA 36 q) (xw c q σ2) := xw_D hD0
  refine lv_istore_n (lv' := [(1, .int r1), (0, .ref (q 1))]) hx hb dX1_plainEnd_4 rfl hl (by decide) rfl (fun ls hl => ?_)
  refine lv_iconst (v := (0 : Int32)) hx hb dX1_plainEnd_5 (by decide) ?_
  refine lv_istore_n (lv' := [(2, .int (0 : Int32)), (1, .int r1), (0, .ref (q 1))]) hx hb dX1_plainEnd_6 rfl hl (by decide) rfl (fun ls hl => ?_)
  obtain ⟨n7, hw⟩ := hw
  refine L7 _ n7 r1 (0 : Int32) σ2 _ _ _ hw ?_ hP hS (lv_sub hl [2, 1, 0] rfl)
  intro v8 v9 σ10 H locs ls hw hP hS hl
  have hD : va_D (wdA 36 q) (xw c q σ10) := xw_D hD0
  refine lv_iload_n hx hb dX1_plainEnd_33 rfl (lv_at hl 1 rfl) ?_
  exact W.iret hx hb hr (fun t ht hW => ⟨⟨_, σ10, rfl, hw, by unfold wdB; rw [ht]; exact hP⟩, hS.F ht⟩) hS.2.2 dX1_plainEnd_34
def wX7_plain  (post : Int32 → hsS → Prop) (σ : hsS) : Prop := wX1_plainEnd 1 (fun r1 σ2 => post r1 σ2) σ
set_option maxHeartbeats 4000000 in
set_option maxRecDepth 100000 in
theorem kcX7_plain (l : Launch) (D : va_G) (c : Nat → ClassId) (q : Nat → Nat) (ev : State → Heap → Prop) (hev : evOK (wdA 36 q) ev) (σ : hsS)  (post : Int32 → hsS → Prop) (hw : wX7_plain  post σ) : Met l yX7_plain (Cond.code yX7_plain cX7_plain 1 (some .int) :: tb_L) { frames := 4, cells := 0, slots := 0, locals := 90 } (wdPc D (xw c q) (xwT c) (wdA 36 q) ev σ [.ref (q 0)]) (va_Qi post (wdB D (xw c q)) (wdA 36 q)) 0 0 (wdA 36 q) := by
  refine Met.ofW (cc := cX7_plain) (maxL := 1) (ret := (some .int)) (by decide) rfl ?_
  intro p e s m args below meth c₀ s₁ Bd hml hv
  obtain ⟨rfl, hP, hK, hD0, hE⟩ := hv
  have hx := Bd.exec
  have hb := Bd.bytes
  have hr := Bd.returns
  have hts := atoms_spec (ws := Cond.code yX7_plain cX7_plain 1 (some .int) :: tb_L) Bd.pre
  have htb : ∀ w ∈ tb_L, w.before [.ref (q 0)].toArray s = true := fun w h => hts w (List.mem_cons_of_mem _ h)
  have hown : s.vm.findClass RX7 = some m.cls := findClass_of_methodNamed Bd.named
  have hlocks := Bd.notSynchronized
  have hS : va_S (wdA 36 q) s.heap s.heap [] := va_S.rf
  have hD := hD0
  have hl := lv_entry ([.ref (q 0)]) (n := 1) (Nat.le_of_ble_eq_true rfl)
  rw [lg_entry_eq]
  generalize (lg_sl ([.ref (q 0)]) ++ List.replicate (1 - (lg_sl ([.ref (q 0)])).length) Slot.unset).toArray = ls at hl ⊢
  have hl : lv_has ls 1 [(0, .ref (q 0))] := hl
  unfold wX7_plain at hw
  refine lv_aload_n hx hb dX7_plain_0 rfl (lv_at hl 0 rfl) ?_
  refine va_get (D := D) (ci := 7) (C := RX7) (T := TX7) (N := 9) hx hb htb inX7 hown hK hP 0 (xw_0 c q σ) rfl 0 (by decide) (htb _ tb_342) (fun _ h9 => h9) rfl dX7_plain_1 ?_
  refine va_calli (va_runV (As := []) (rest := []) ⟨hx, hb, hml, hown, htb⟩ (kcX1_plainEnd_1 l D c q ev hev σ  _ hw) (tb_CW htb kX1_plainEnd tb_457 tb_458 tb_459 ⟨Nat.le_of_ble_eq_true rfl, Nat.le_of_ble_eq_true rfl⟩) (wd_preV (wd := xw c q) (k := 1) hev hK hP hD hE hS (xw_1 c q σ) rfl) rfl rfl hl.1 rfl (lv_room (Nat.le_of_ble_eq_true rfl)) dX7_plain_4 ⟨Nat.zero_le _, Nat.zero_le _⟩) hS (fun q _ h => h) (fun q h => h) (fun r1 σ2 t H1 locs1 ht hvm hw hB hz1 hk1 hS => ?_)
  have hP : va_P D vwCl (xw c q σ2) H1 := ht ▸ hB
  have hD : va_D (wdA 36 q) (xw c q σ2) := xw_D hD0
  exact W.iret hx hb hr (fun t ht hW => ⟨⟨_, σ2, rfl, hw, by unfold wdB; rw [ht]; exact hP⟩, hS.F ht⟩) hS.2.2 dX7_plain_7
def wJ7_fill_d0a16_L6 (b0 : Nat) (z1 : Int64) (z4 : Int32) (K22 : Int32 → hsS → Prop) (post : hsS → Prop) : Nat → Int32 → hsS → Prop
  | 0, _, _ => False
  | n + 1, y3, σ => ((z4 ≤ y3 → K22 y3 σ) ∧ (¬ z4 ≤ y3 → vp_in y3 2048 ∧ ∀ σ2 : hsS, σ2 = hsL σ b0 (vp_updL (σ.2.2 b0) y3.toNatClampNeg z1) → ∀ v3 : Int32, v3 = y3 + (1 : Int32) → wJ7_fill_d0a16_L6 b0 z1 z4 K22 post n v3 σ2))
def wJ7_fill_d0a16 (b0 : Nat) (x1 : Int64) (post : hsS → Prop) (σ : hsS) : Prop := ∃ n4, wJ7_fill_d0a16_L6 b0 x1 (2048 : Int32) (fun v5 σ6 => post σ6) post n4 (0 : Int32) σ
set_option maxHeartbeats 4000000 in
set_option maxRecDepth 100000 in
theorem kcJ7_fill_d0a16_24 (l : Launch) (D : va_G) (c : Nat → ClassId) (q : Nat → Nat) (ev : State → Heap → Prop) (hev : evOK (wdA 36 q) ev) (σ : hsS) (x1 : Int64) (post : hsS → Prop) (hw : wJ7_fill_d0a16 24 x1 post σ) : Met l yJ7_fill_d0a16 (Cond.code yJ7_fill_d0a16 cJ7_fill_d0a16 5 none :: tb_L) { frames := 0, cells := 0, slots := 0, locals := 0 } (wdPc D (xw c q) (xwT c) (wdA 36 q) ev σ [.ref (q 24), .long x1]) (va_Qv post (wdB D (xw c q)) (wdA 36 q)) 0 0 (wdA 36 q) := by
  refine Met.ofW (cc := cJ7_fill_d0a16) (maxL := 5) (ret := none) (by decide) rfl ?_
  intro p e s m args below meth c₀ s₁ Bd hml hv
  obtain ⟨rfl, hP, hK, hD0, hE⟩ := hv
  have hx := Bd.exec
  have hb := Bd.bytes
  have hr := Bd.returns
  have hts := atoms_spec (ws := Cond.code yJ7_fill_d0a16 cJ7_fill_d0a16 5 none :: tb_L) Bd.pre
  have htb : ∀ w ∈ tb_L, w.before [.ref (q 24), .long x1].toArray s = true := fun w h => hts w (List.mem_cons_of_mem _ h)
  have hown : s.vm.findClass RJ7 = some m.cls := findClass_of_methodNamed Bd.named
  have hlocks := Bd.notSynchronized
  have hS : va_S (wdA 36 q) s.heap s.heap [] := va_S.rf
  have hD := hD0
  have L6 : ∀ (K22 : Int32 → hsS → Prop) (z1 : Int64) (z4 : Int32) (n : Nat) (y3 : Int32) (σ : hsS) (H : Heap) (locs : List Loc) (ls : Array Slot), wJ7_fill_d0a16_L6 24 z1 z4 K22 post n y3 σ → (∀ (y3 : Int32) (σ : hsS) (H : Heap) (locs : List Loc) (ls : Array Slot), K22 y3 σ → va_P D vwCl (xw c q σ) H → va_S (wdA 36 q) s.heap H locs → lv_has ls 5 [(0, .ref (q 24)), (1, .long z1), (3, .int y3), (4, .int z4)] → W p l e (headSpec (Cond.code yJ7_fill_d0a16 cJ7_fill_d0a16 5 none :: tb_L) { frames := 0, cells := 0, slots := 0, locals := 0 }).room s m [.ref (q 24), .long x1].toArray below meth c₀ H locs 0 0 (MQ below (va_Qv post (wdB D (xw c q)) (wdA 36 q)) [.ref (q 24), .long x1].toArray s 0 0 (wdA 36 q)) (F0 m 22 ls [])) → va_P D vwCl (xw c q σ) H → va_S (wdA 36 q) s.heap H locs → lv_has ls 5 [(0, .ref (q 24)), (1, .long z1), (3, .int y3), (4, .int z4)] → W p l e (headSpec (Cond.code yJ7_fill_d0a16 cJ7_fill_d0a16 5 none :: tb_L) { frames := 0, cells := 0, slots := 0, locals := 0 }).room s m [.ref (q 24), .long x1].toArray below meth c₀ H locs 0 0 (MQ below (va_Qv post (wdB D (xw c q)) (wdA 36 q)) [.ref (q 24), .long x1].toArray s 0 0 (wdA 36 q)) (F0 m 6 ls []) := by
    intro K22 z1 z4 n
    induction n with
    | zero =>
      intro y3 σ H locs ls hw hk22 hP hS hl
      exact (show False from hw).elim
    | succ n ih =>
      intro y3 σ H locs ls hw hk22 hP hS hl
      rw [wJ7_fill_d0a16_L6] at hw
      have hD : va_D (wdA 36 q) (xw c q σ) := xw_D hD0
      refine lv_iload_n hx hb dJ7_fill_d0a16_6 rfl (lv_at hl 2 rfl) ?_
      refine lv_iload hx hb dJ7_fill_d0a16_7 (lv_at hl 3 rfl) ?_
      refine lv_icmp_ge (tgt := 22) hx hb dJ7_fill_d0a16_9 (by decide) (fun c1 => ?_) (fun c1 => ?_)
      · have hw := hw.1 c1
        exact hk22 y3 σ _ _ _ hw hP hS (lv_sub hl [0, 1, 2, 3] rfl)
      · have hw := hw.2 c1
        refine lv_aload_n hx hb dJ7_fill_d0a16_12 rfl (lv_at hl 0 rfl) ?_
        refine lv_iload_n hx hb dJ7_fill_d0a16_13 rfl (lv_at hl 2 rfl) ?_
        refine lv_lload_n hx hb dJ7_fill_d0a16_14 rfl (lv_at hl 1 rfl) ?_
        refine va_last hx hb hK hP hD hS 24 16 (xw_24 c q σ) rfl hw.1 dJ7_fill_d0a16_15 (fun H locs hP hD hS => ?_)
        have hw := hw.2
        have hP : va_P D vwCl (xw c q (hsL σ 24 (vp_updL (σ.2.2 24) y3.toNatClampNeg z1))) H := hP
        obtain ⟨σ2, eσ2⟩ : ∃ z : hsS, z = hsL σ 24 (vp_updL (σ.2.2 24) y3.toNatClampNeg z1) := ⟨_, rfl⟩
        rw [← eσ2] at hP
        have hD : va_D (wdA 36 q) (xw c q σ2) := xw_D hD0
        have hw := hw σ2 eσ2
        obtain ⟨v3, ev3⟩ : ∃ z : Int32, z = y3 + (1 : Int32) := ⟨_, rfl⟩
        have hw := hw v3 ev3
        refine lv_iinc (v := v3) (lv' := [(3, .int v3), (0, .ref (q 24)), (1, .long z1), (4, .int z4)]) hx hb dJ7_fill_d0a16_16 hl (k := 2) rfl (by rw [ev3]; rfl) (by decide) rfl (fun ls hl => ?_)
        refine lv_goto (tgt := 6) hx hb dJ7_fill_d0a16_19 (by decide) ?_
        exact ih v3 σ2 _ _ _ hw hk22 hP hS (lv_sub hl [1, 2, 0, 3] rfl)
  have hl := lv_entry ([.ref (q 24), .long x1]) (n := 5) (Nat.le_of_ble_eq_true rfl)
  rw [lg_entry_eq]
  generalize (lg_sl ([.ref (q 24), .long x1]) ++ List.replicate (5 - (lg_sl ([.ref (q 24), .long x1])).length) Slot.unset).toArray = ls at hl ⊢
  have hl : lv_has ls 5 [(0, .ref (q 24)), (1, .long x1)] := hl
  unfold wJ7_fill_d0a16 at hw
  refine lv_iconst (v := (0 : Int32)) hx hb dJ7_fill_d0a16_0 (by decide) ?_
  refine lv_istore_n (lv' := [(3, .int (0 : Int32)), (0, .ref (q 24)), (1, .long x1)]) hx hb dJ7_fill_d0a16_1 rfl hl (by decide) rfl (fun ls hl => ?_)
  refine lv_aload_n hx hb dJ7_fill_d0a16_2 rfl (lv_at hl 1 rfl) ?_
  refine va_alen (v := 2048) (ty := .long) hx hb hK hP 24 16 (xw_24 c q σ) rfl rfl dJ7_fill_d0a16_3 ?_
  refine lv_istore (lv' := [(4, .int (2048 : Int32)), (3, .int (0 : Int32)), (0, .ref (q 24)), (1, .long x1)]) hx hb dJ7_fill_d0a16_4 hl (by decide) rfl (fun ls hl => ?_)
  obtain ⟨n4, hw⟩ := hw
  refine L6 _ x1 (2048 : Int32) n4 (0 : Int32) σ _ _ _ hw ?_ hP hS (lv_sub hl [2, 3, 1, 0] rfl)
  intro v5 σ6 H locs ls hw hP hS hl
  have hD : va_D (wdA 36 q) (xw c q σ6) := xw_D hD0
  exact W.vret hx hb hr (fun t ht hW => ⟨⟨σ6, rfl, hw, by unfold wdB; rw [ht]; exact hP⟩, hS.F ht⟩) hS.2.2 dJ7_fill_d0a16_22
def wX6_mark (b0 : Nat) (x1 : Int32) (x2 : Int32) (post : hsS → Prop) (σ : hsS) : Prop := ∀ v1 : Int32, v1 = (x1 * (8 : Int32)) + (x2 >>> ((6 : Int32) &&& 31)) → ((v1 < (0 : Int32) → post σ) ∧ (¬ v1 < (0 : Int32) → (((2048 : Int32) ≤ v1 → post σ) ∧ (¬ (2048 : Int32) ≤ v1 → vp_in v1 2048 ∧ vp_in v1 2048 ∧ ∀ σ4 : hsS, σ4 = hsL σ (b0 + 1) (vp_updL (σ.2.2 (b0 + 1)) v1.toNatClampNeg ((σ.2.2 (b0 + 1) v1.toNatClampNeg) ||| ((1 : Int64) <<< ((x2 &&& (63 : Int32)).toInt64 &&& 63)))) → post σ4))))
set_option maxHeartbeats 4000000 in
set_option maxRecDepth 100000 in
theorem kcX6_mark_23 (l : Launch) (D : va_G) (c : Nat → ClassId) (q : Nat → Nat) (ev : State → Heap → Prop) (hev : evOK (wdA 36 q) ev) (σ : hsS) (x1 : Int32) (x2 : Int32) (post : hsS → Prop) (hw : wX6_mark 23 x1 x2 post σ) : Met l yX6_mark (Cond.code yX6_mark cX6_mark 4 none :: tb_L) { frames := 0, cells := 0, slots := 0, locals := 0 } (wdPc D (xw c q) (xwT c) (wdA 36 q) ev σ [.ref (q 23), .int x1, .int x2]) (va_Qv post (wdB D (xw c q)) (wdA 36 q)) 0 0 (wdA 36 q) := by
  refine Met.ofW (cc := cX6_mark) (maxL := 4) (ret := none) (by decide) rfl ?_
  intro p e s m args below meth c₀ s₁ Bd hml hv
  obtain ⟨rfl, hP, hK, hD0, hE⟩ := hv
  have hx := Bd.exec
  have hb := Bd.bytes
  have hr := Bd.returns
  have hts := atoms_spec (ws := Cond.code yX6_mark cX6_mark 4 none :: tb_L) Bd.pre
  have htb : ∀ w ∈ tb_L, w.before [.ref (q 23), .int x1, .int x2].toArray s = true := fun w h => hts w (List.mem_cons_of_mem _ h)
  have hown : s.vm.findClass RX6 = some m.cls := findClass_of_methodNamed Bd.named
  have hlocks := Bd.notSynchronized
  have hS : va_S (wdA 36 q) s.heap s.heap [] := va_S.rf
  have hD := hD0
  have hl := lv_entry ([.ref (q 23), .int x1, .int x2]) (n := 4) (Nat.le_of_ble_eq_true rfl)
  rw [lg_entry_eq]
  generalize (lg_sl ([.ref (q 23), .int x1, .int x2]) ++ List.replicate (4 - (lg_sl ([.ref (q 23), .int x1, .int x2])).length) Slot.unset).toArray = ls at hl ⊢
  have hl : lv_has ls 4 [(0, .ref (q 23)), (1, .int x1), (2, .int x2)] := hl
  unfold wX6_mark at hw
  refine lv_iload_n hx hb dX6_mark_0 rfl (lv_at hl 1 rfl) ?_
  refine lv_bipush (v := (8 : Int32)) hx hb dX6_mark_1 (by decide) ?_
  refine lv_imul hx hb dX6_mark_3 ?_
  refine lv_iload_n hx hb dX6_mark_4 rfl (lv_at hl 2 rfl) ?_
  refine lv_bipush (v := (6 : Int32)) hx hb dX6_mark_5 (by decide) ?_
  refine lv_ishr hx hb dX6_mark_7 ?_
  refine lv_iadd hx hb dX6_mark_8 ?_
  refine lv_topi (fun v1 ev1 => ?_)
  have hw := hw v1 ev1
  refine lv_istore_n (lv' := [(3, .int v1), (0, .ref (q 23)), (1, .int x1), (2, .int x2)]) hx hb dX6_mark_9 rfl hl (by decide) rfl (fun ls hl => ?_)
  refine lv_iload_n hx hb dX6_mark_10 rfl (lv_at hl 0 rfl) ?_
  refine lv_if_lt (tgt := 38) hx hb dX6_mark_11 (by decide) (fun c2 => ?_) (fun c2 => ?_)
  · have hw := hw.1 c2
    exact W.vret hx hb hr (fun t ht hW => ⟨⟨σ, rfl, hw, by unfold wdB; rw [ht]; exact hP⟩, hS.F ht⟩) hS.2.2 dX6_mark_38
  · have hw := hw.2 c2
    refine lv_iload_n hx hb dX6_mark_14 rfl (lv_at hl 0 rfl) ?_
    refine lv_aload_n hx hb dX6_mark_15 rfl (lv_at hl 1 rfl) ?_
    refine va_get (D := D) (ci := 6) (C := RX6) (T := TX6) (N := 4) hx hb htb inX6 hown hK hP 23 (xw_23 c q σ) rfl 0 (by decide) (htb _ tb_265) (fun _ h9 => h9) rfl dX6_mark_16 ?_
    refine va_alen (v := 2048) (ty := .long) hx hb hK hP 24 16 (xw_24 c q σ) rfl rfl dX6_mark_19 ?_
    refine lv_icmp_ge (tgt := 38) hx hb dX6_mark_20 (by decide) (fun c3 => ?_) (fun c3 => ?_)
    · have hw := hw.1 c3
      exact W.vret hx hb hr (fun t ht hW => ⟨⟨σ, rfl, hw, by unfold wdB; rw [ht]; exact hP⟩, hS.F ht⟩) hS.2.2 dX6_mark_38
    · have hw := hw.2 c3
      refine lv_aload_n hx hb dX6_mark_23 rfl (lv_at hl 1 rfl) ?_
      refine va_get (D := D) (ci := 6) (C := RX6) (T := TX6) (N := 4) hx hb htb inX6 hown hK hP 23 (xw_23 c q σ) rfl 0 (by decide) (htb _ tb_265) (fun _ h9 => h9) rfl dX6_mark_24 ?_
      refine lv_iload_n hx hb dX6_mark_27 rfl (lv_at hl 0 rfl) ?_
      refine lv_dup2_11 hx hb dX6_mark_28 rfl rfl ?_
      refine va_lald hx hb hK hP 24 16 (xw_24 c q σ) rfl hw.1 dX6_mark_29 ?_
      have hw := hw.2
      refine lv_lconst (v := 1) hx hb dX6_mark_30 (by decide) ?_
      refine lv_iload_n hx hb dX6_mark_31 rfl (lv_at hl 3 rfl) ?_
      refine lv_bipush (v := (63 : Int32)) hx hb dX6_mark_32 (by decide) ?_
      refine lv_iand hx hb dX6_mark_34 ?_
      refine lv_lshl hx hb dX6_mark_35 rfl ?_
      refine lv_lor hx hb dX6_mark_36 ?_
      refine va_last hx hb hK hP hD hS 24 16 (xw_24 c q σ) rfl hw.1 dX6_mark_37 (fun H locs hP hD hS => ?_)
      have hw := hw.2
      have hP : va_P D vwCl (xw c q (hsL σ 24 (vp_updL (σ.2.2 24) v1.toNatClampNeg ((σ.2.2 24 v1.toNatClampNeg) ||| ((1 : Int64) <<< ((x2 &&& (63 : Int32)).toInt64 &&& 63)))))) H := hP
      obtain ⟨σ4, eσ4⟩ : ∃ z : hsS, z = hsL σ 24 (vp_updL (σ.2.2 24) v1.toNatClampNeg ((σ.2.2 24 v1.toNatClampNeg) ||| ((1 : Int64) <<< ((x2 &&& (63 : Int32)).toInt64 &&& 63)))) := ⟨_, rfl⟩
      rw [← eσ4] at hP
      have hD : va_D (wdA 36 q) (xw c q σ4) := xw_D hD0
      have hw := hw σ4 eσ4
      exact W.vret hx hb hr (fun t ht hW => ⟨⟨σ4, rfl, hw, by unfold wdB; rw [ht]; exact hP⟩, hS.F ht⟩) hS.2.2 dX6_mark_38
def wX6_takeEachTurn_L39 (b0 : Nat) (b1 : Nat) (z2 : Int32) (z3 : Int32) (K108 : Int32 → Int32 → hsS → Prop) (post : hsS → Prop) : Nat → Int32 → Int32 → hsS → Prop
  | 0, _, _, _ => False
  | n + 1, y4, y5, σ => (((σ.1 (64 * b1 + 6)) ≤ y5 → K108 y4 y5 σ) ∧ (¬ (σ.1 (64 * b1 + 6)) ≤ y5 → vp_in y5 8 ∧ ∀ v5 : Int32, v5 = σ.2.1 (b1 + 4) y5.toNatClampNeg → ((((z2 >>> (y5 &&& 31)) &&& (1 : Int32)) = (0 : Int32) → ((((y4 >>> (v5 &&& 31)) &&& (1 : Int32)) = (0 : Int32) → ∀ v8 : Int32, v8 = y4 ||| ((1 : Int32) <<< (v5 &&& 31)) → wX1_strikePlainly b1 v5 z3 (fun r9 σ10 => wX6_mark b0 (z2 ||| ((1 : Int32) <<< (y5 &&& 31))) r9 (fun σ12 => ∀ v13 : Int32, v13 = y5 + (1 : Int32) → wX6_takeEachTurn_L39 b0 b1 z2 z3 K108 post n v8 v13 σ12) σ10) σ) ∧ (¬ ((y4 >>> (v5 &&& 31)) &&& (1 : Int32)) = (0 : Int32) → ∀ v14 : Int32, v14 = y5 + (1 : Int32) → wX6_takeEachTurn_L39 b0 b1 z2 z3 K108 post n y4 v14 σ))) ∧ (¬ ((z2 >>> (y5 &&& 31)) &&& (1 : Int32)) = (0 : Int32) → ∀ v15 : Int32, v15 = y5 + (1 : Int32) → wX6_takeEachTurn_L39 b0 b1 z2 z3 K108 post n y4 v15 σ))))
def wX6_takeEachTurn (b0 : Nat) (b1 : Nat) (x2 : Int32) (x3 : Int32) (post : hsS → Prop) (σ : hsS) : Prop := ((x2 = (((1 : Int32) <<< ((σ.1 (64 * b1 + 6)) &&& 31)) - (1 : Int32)) → ∀ σ2 : hsS, σ2 = hsI σ (64 * b0 + 2) ((σ.1 (64 * b0 + 2)) ||| x3) → ∀ σ3 : hsS, σ3 = hsI σ2 (64 * b0 + 3) ((σ2.1 (64 * b0 + 3)) &&& x3) → post σ3) ∧ (¬ x2 = (((1 : Int32) <<< ((σ.1 (64 * b1 + 6)) &&& 31)) - (1 : Int32)) → ∃ n16, wX6_takeEachTurn_L39 b0 b1 x2 x3 (fun v17 v18 σ19 => post σ19) post n16 (0 : Int32) (0 : Int32) σ))
set_option maxHeartbeats 4000000 in
set_option maxRecDepth 100000 in
theorem kcX6_takeEachTurn_23_1 (l : Launch) (D : va_G) (c : Nat → ClassId) (q : Nat → Nat) (ev : State → Heap → Prop) (hev : evOK (wdA 36 q) ev) (σ : hsS) (x2 : Int32) (x3 : Int32) (post : hsS → Prop) (hw : wX6_takeEachTurn 23 1 x2 x3 post σ) : Met l yX6_takeEachTurn (Cond.code yX6_takeEachTurn cX6_takeEachTurn 7 none :: tb_L) { frames := 3, cells := 0, slots := 0, locals := 68 } (wdPc D (xw c q) (xwT c) (wdA 36 q) ev σ [.ref (q 23), .ref (q 1), .int x2, .int x3]) (va_Qv post (wdB D (xw c q)) (wdA 36 q)) 0 0 (wdA 36 q) := by
  refine Met.ofW (cc := cX6_takeEachTurn) (maxL := 7) (ret := none) (by decide) rfl ?_
  intro p e s m args below meth c₀ s₁ Bd hml hv
  obtain ⟨rfl, hP, hK, hD0, hE⟩ := hv
  have hx := Bd.exec
  have hb := Bd.bytes
  have hr := Bd.returns
  have hts := atoms_spec (ws := Cond.code yX6_takeEachTurn cX6_takeEachTurn 7 none :: tb_L) Bd.pre
  have htb : ∀ w ∈ tb_L, w.before [.ref (q 23), .ref (q 1), .int x2, .int x3].toArray s = true := fun w h => hts w (List.mem_cons_of_mem _ h)
  have hown : s.vm.findClass RX6 = some m.cls := findClass_of_methodNamed Bd.named
  have hlocks := Bd.notSynchronized
  have hS : va_S (wdA 36 q) s.heap s.heap [] := va_S.rf
  have hD := hD0
  have L39 : ∀ (K108 : Int32 → Int32 → hsS → Prop) (z2 : Int32) (z3 : Int32) (n : Nat) (y4 : Int32) (y5 : Int32) (σ : hsS) (H : Heap) (locs : List Loc) (ls : Array Slot), wX6_takeEachTurn_L39 23 1 z2 z3 K108 post n y4 y5 σ → (∀ (y4 : Int32) (y5 : Int32) (σ : hsS) (H : Heap) (locs : List Loc) (ls : Array Slot), K108 y4 y5 σ → va_P D vwCl (xw c q σ) H → va_S (wdA 36 q) s.heap H locs → lv_has ls 7 [(0, .ref (q 23)), (1, .ref (q 1)), (2, .int z2), (3, .int z3), (4, .int y4), (5, .int y5)] → W p l e (headSpec (Cond.code yX6_takeEachTurn cX6_takeEachTurn 7 none :: tb_L) { frames := 3, cells := 0, slots := 0, locals := 68 }).room s m [.ref (q 23), .ref (q 1), .int x2, .int x3].toArray below meth c₀ H locs 0 0 (MQ below (va_Qv post (wdB D (xw c q)) (wdA 36 q)) [.ref (q 23), .ref (q 1), .int x2, .int x3].toArray s 0 0 (wdA 36 q)) (F0 m 108 ls [])) → va_P D vwCl (xw c q σ) H → va_S (wdA 36 q) s.heap H locs → lv_has ls 7 [(0, .ref (q 23)), (1, .ref (q 1)), (2, .int z2), (3, .int z3), (4, .int y4), (5, .int y5)] → W p l e (headSpec (Cond.code yX6_takeEachTurn cX6_takeEachTurn 7 none :: tb_L) { frames := 3, cells := 0, slots := 0, locals := 68 }).room s m [.ref (q 23), .ref (q 1), .int x2, .int x3].toArray below meth c₀ H locs 0 0 (MQ below (va_Qv post (wdB D (xw c q)) (wdA 36 q)) [.ref (q 23), .ref (q 1), .int x2, .int x3].toArray s 0 0 (wdA 36 q)) (F0 m 39 ls []) := by
    intro K108 z2 z3 n
    induction n with
    | zero =>
      intro y4 y5 σ H locs ls hw hk108 hP hS hl
      exact (show False from hw).elim
    | succ n ih =>
      intro y4 y5 σ H locs ls hw hk108 hP hS hl
      rw [wX6_takeEachTurn_L39] at hw
      have hD : va_D (wdA 36 q) (xw c q σ) := xw_D hD0
      refine lv_iload hx hb dX6_takeEachTurn_39 (lv_at hl 5 rfl) ?_
      refine lv_aload_n hx hb dX6_takeEachTurn_41 rfl (lv_at hl 1 rfl) ?_
      refine va_getN (D := D) (ci := 1) (C := RX1) (T := TX1) (N := 12) hx hb htb inX1 hown hK hP 1 (xw_1 c q σ) rfl 6 (by decide) (htb _ tb_150) (fun _ h9 => h9) rfl dX6_takeEachTurn_42 ?_
      refine lv_icmp_ge (tgt := 108) hx hb dX6_takeEachTurn_45 (by decide) (fun c4 => ?_) (fun c4 => ?_)
      · have hw := hw.1 c4
        exact hk108 y4 y5 σ _ _ _ hw hP hS (lv_sub hl [0, 1, 2, 3, 4, 5] rfl)
      · have hw := hw.2 c4
        refine lv_aload_n hx hb dX6_takeEachTurn_48 rfl (lv_at hl 1 rfl) ?_
        refine va_getN (D := D) (ci := 1) (C := RX1) (T := TX1) (N := 12) hx hb htb inX1 hown hK hP 1 (xw_1 c q σ) rfl 11 (by decide) (htb _ tb_163) (fun _ h9 => h9) rfl dX6_takeEachTurn_49 ?_
        refine lv_iload hx hb dX6_takeEachTurn_52 (lv_at hl 5 rfl) ?_
        refine va_iald hx hb hK hP 5 3 (xw_5 c q σ) rfl hw.1 dX6_takeEachTurn_54 ?_
        have hw := hw.2
        refine lv_topi (fun v5 ev5 => ?_)
        have hw := hw v5 ev5
        refine lv_istore (lv' := [(6, .int v5), (0, .ref (q 23)), (1, .ref (q 1)), (2, .int z2), (3, .int z3), (4, .int y4), (5, .int y5)]) hx hb dX6_takeEachTurn_55 hl (by decide) rfl (fun ls hl => ?_)
        refine lv_iload_n hx hb dX6_takeEachTurn_57 rfl (lv_at hl 3 rfl) ?_
        refine lv_iload hx hb dX6_takeEachTurn_58 (lv_at hl 6 rfl) ?_
        refine lv_ishr hx hb dX6_takeEachTurn_60 ?_
        refine lv_iconst (v := (1 : Int32)) hx hb dX6_takeEachTurn_61 (by decide) ?_
        refine lv_iand hx hb dX6_takeEachTurn_62 ?_
        refine lv_if_ne (tgt := 102) hx hb dX6_takeEachTurn_63 (by decide) (fun c6 => ?_) (fun c6 => ?_)
        · have hw := hw.2 c6
          obtain ⟨v15, ev15⟩ : ∃ z : Int32, z = y5 + (1 : Int32) := ⟨_, rfl⟩
          have hw := hw v15 ev15
          refine lv_iinc (v := v15) (lv' := [(5, .int v15), (6, .int v5), (0, .ref (q 23)), (1, .ref (q 1)), (2, .int z2), (3, .int z3), (4, .int y4)]) hx hb dX6_takeEachTurn_102 hl (k := 6) rfl (by rw [ev15]; rfl) (by decide) rfl (fun ls hl => ?_)
          refine lv_goto (tgt := 39) hx hb dX6_takeEachTurn_105 (by decide) ?_
          exact ih y4 v15 σ _ _ _ hw hk108 hP hS (lv_sub hl [2, 3, 4, 5, 6, 0] rfl)
        · have hw := hw.1 c6
          refine lv_iload hx hb dX6_takeEachTurn_66 (lv_at hl 5 rfl) ?_
          refine lv_iload hx hb dX6_takeEachTurn_68 (lv_at hl 0 rfl) ?_
          refine lv_ishr hx hb dX6_takeEachTurn_70 ?_
          refine lv_iconst (v := (1 : Int32)) hx hb dX6_takeEachTurn_71 (by decide) ?_
          refine lv_iand hx hb dX6_takeEachTurn_72 ?_
          refine lv_if_ne (tgt := 102) hx hb dX6_takeEachTurn_73 (by decide) (fun c7 => ?_) (fun c7 => ?_)
          · have hw := hw.2 c7
            obtain ⟨v14, ev14⟩ : ∃ z : Int32, z = y5 + (1 : Int32) := ⟨_, rfl⟩
            have hw := hw v14 ev14
            refine lv_iinc (v := v14) (lv' := [(5, .int v14), (6, .int v5), (0, .ref (q 23)), (1, .ref (q 1)), (2, .int z2), (3, .int z3), (4, .int y4)]) hx hb dX6_takeEachTurn_102 hl (k := 6) rfl (by rw [ev14]; rfl) (by decide) rfl (fun ls hl => ?_)
            refine lv_goto (tgt := 39) hx hb dX6_takeEachTurn_105 (by decide) ?_
            exact ih y4 v14 σ _ _ _ hw hk108 hP hS (lv_sub hl [2, 3, 4, 5, 6, 0] rfl)
          · have hw := hw.1 c7
            refine lv_iload hx hb dX6_takeEachTurn_76 (lv_at hl 5 rfl) ?_
            refine lv_iconst (v := (1 : Int32)) hx hb dX6_takeEachTurn_78 (by decide) ?_
            refine lv_iload hx hb dX6_takeEachTurn_79 (lv_at hl 0 rfl) ?_
            refine lv_ishl hx hb dX6_takeEachTurn_81 ?_
            refine lv_ior hx hb dX6_takeEachTurn_82 ?_
            refine lv_topi (fun v8 ev8 => ?_)
            have hw := hw v8 ev8
            refine lv_istore (lv' := [(4, .int v8), (6, .int v5), (0, .ref (q 23)), (1, .ref (q 1)), (2, .int z2), (3, .int z3), (5, .int y5)]) hx hb dX6_takeEachTurn_83 hl (by decide) rfl (fun ls hl => ?_)
            refine lv_aload_n hx hb dX6_takeEachTurn_85 rfl (lv_at hl 2 rfl) ?_
            refine lv_iload_n hx hb dX6_takeEachTurn_86 rfl (lv_at hl 4 rfl) ?_
            refine lv_iconst (v := (1 : Int32)) hx hb dX6_takeEachTurn_87 (by decide) ?_
            refine lv_iload hx hb dX6_takeEachTurn_88 (lv_at hl 6 rfl) ?_
            refine lv_ishl hx hb dX6_takeEachTurn_90 ?_
            refine lv_ior hx hb dX6_takeEachTurn_91 ?_
            refine lv_aload_n hx hb dX6_takeEachTurn_92 rfl (lv_at hl 3 rfl) ?_
            refine lv_iload hx hb dX6_takeEachTurn_93 (lv_at hl 1 rfl) ?_
            refine lv_iload_n hx hb dX6_takeEachTurn_95 rfl (lv_at hl 5 rfl) ?_
            refine va_calli (va_runV (As := [.int v5, .int z3]) (rest := [.int (z2 ||| ((1 : Int32) <<< (y5 &&& 31))), .ref (q 23)]) ⟨hx, hb, hml, hown, htb⟩ (kcX1_strikePlainly_1 l D c q ev hev σ v5 z3 _ hw) (tb_CW htb kX1_strikePlainly tb_1006 tb_463 tb_464 ⟨Nat.le_of_ble_eq_true rfl, Nat.le_of_ble_eq_true rfl⟩) (wd_preV (wd := xw c q) (k := 1) hev hK hP hD hE hS (xw_1 c q σ) rfl) rfl rfl hl.1 rfl (lv_room (Nat.le_of_ble_eq_true rfl)) dX6_takeEachTurn_96 ⟨Nat.zero_le _, Nat.zero_le _⟩) hS (fun q _ h => h) (fun q h => h) (fun r9 σ10 t H1 locs1 ht hvm hw hB hz1 hk1 hS => ?_)
            have hP : va_P D vwCl (xw c q σ10) H1 := ht ▸ hB
            have hD : va_D (wdA 36 q) (xw c q σ10) := xw_D hD0
            refine va_callv (va_runV (As := [.int (z2 ||| ((1 : Int32) <<< (y5 &&& 31))), .int r9]) (rest := []) ⟨hx, hb, hml, hown, htb⟩ (kcX6_mark_23 l D c q ev hev σ10 (z2 ||| ((1 : Int32) <<< (y5 &&& 31))) r9 _ hw) (tb_CW htb kX6_mark tb_993 tb_995 tb_36 ⟨Nat.le_of_ble_eq_true rfl, Nat.le_of_ble_eq_true rfl⟩) (wd_preV (wd := xw c q) (k := 23) hev hK hP hD hE hS (xw_23 c q σ10) rfl) rfl rfl hl.1 rfl (lv_room (Nat.le_of_ble_eq_true rfl)) dX6_takeEachTurn_99 ⟨Nat.zero_le _, Nat.zero_le _⟩) hS (fun q _ h => h) (fun q h => h) (fun σ12 t H1 locs1 ht hvm hw hB hz1 hk1 hS => ?_)
            have hP : va_P D vwCl (xw c q σ12) H1 := ht ▸ hB
            have hD : va_D (wdA 36 q) (xw c q σ12) := xw_D hD0
            obtain ⟨v13, ev13⟩ : ∃ z : Int32, z = y5 + (1 : Int32) := ⟨_, rfl⟩
            have hw := hw v13 ev13
            refine lv_iinc (v := v13) (lv' := [(5, .int v13), (4, .int v8), (6, .int v5), (0, .ref (q 23)), (1, .ref (q 1)), (2, .int z2), (3, .int z3)]) hx hb dX6_takeEachTurn_102 hl (k := 6) rfl (by rw [ev13]; rfl) (by decide) rfl (fun ls hl => ?_)
            refine lv_goto (tgt := 39) hx hb dX6_takeEachTurn_105 (by decide) ?_
            exact ih v8 v13 σ12 _ _ _ hw hk108 hP hS (lv_sub hl [3, 4, 5, 6, 1, 0] rfl)
  have hl := lv_entry ([.ref (q 23), .ref (q 1), .int x2, .int x3]) (n := 7) (Nat.le_of_ble_eq_true rfl)
  rw [lg_entry_eq]
  generalize (lg_sl ([.ref (q 23), .ref (q 1), .int x2, .int x3]) ++ List.replicate (7 - (lg_sl ([.ref (q 23), .ref (q 1), .int x2, .int x3])).length) Slot.unset).toArray = ls at hl ⊢
  have hl : lv_has ls 7 [(0, .ref (q 23)), (1, .ref (q 1)), (2, .int x2), (3, .int x3)] := hl
  unfold wX6_takeEachTurn at hw
  refine lv_iload_n hx hb dX6_takeEachTurn_0 rfl (lv_at hl 2 rfl) ?_
  refine lv_iconst (v := (1 : Int32)) hx hb dX6_takeEachTurn_1 (by decide) ?_
  refine lv_aload_n hx hb dX6_takeEachTurn_2 rfl (lv_at hl 1 rfl) ?_
  refine va_getN (D := D) (ci := 1) (C := RX1) (T := TX1) (N := 12) hx hb htb inX1 hown hK hP 1 (xw_1 c q σ) rfl 6 (by decide) (htb _ tb_150) (fun _ h9 => h9) rfl dX6_takeEachTurn_3 ?_
  refine lv_ishl hx hb dX6_takeEachTurn_6 ?_
  refine lv_iconst (v := (1 : Int32)) hx hb dX6_takeEachTurn_7 (by decide) ?_
  refine lv_isub hx hb dX6_takeEachTurn_8 ?_
  refine lv_icmp_ne (tgt := 33) hx hb dX6_takeEachTurn_9 (by decide) (fun c1 => ?_) (fun c1 => ?_)
  · have hw := hw.2 c1
    refine lv_iconst (v := (0 : Int32)) hx hb dX6_takeEachTurn_33 (by decide) ?_
    refine lv_istore (lv' := [(4, .int (0 : Int32)), (0, .ref (q 23)), (1, .ref (q 1)), (2, .int x2), (3, .int x3)]) hx hb dX6_takeEachTurn_34 hl (by decide) rfl (fun ls hl => ?_)
    refine lv_iconst (v := (0 : Int32)) hx hb dX6_takeEachTurn_36 (by decide) ?_
    refine lv_istore (lv' := [(5, .int (0 : Int32)), (4, .int (0 : Int32)), (0, .ref (q 23)), (1, .ref (q 1)), (2, .int x2), (3, .int x3)]) hx hb dX6_takeEachTurn_37 hl (by decide) rfl (fun ls hl => ?_)
    obtain ⟨n16, hw⟩ := hw
    refine L39 _ x2 x3 n16 (0 : Int32) (0 : Int32) σ _ _ _ hw ?_ hP hS (lv_sub hl [2, 3, 4, 5, 1, 0] rfl)
    intro v17 v18 σ19 H locs ls hw hP hS hl
    have hD : va_D (wdA 36 q) (xw c q σ19) := xw_D hD0
    exact W.vret hx hb hr (fun t ht hW => ⟨⟨σ19, rfl, hw, by unfold wdB; rw [ht]; exact hP⟩, hS.F ht⟩) hS.2.2 dX6_takeEachTurn_108
  · have hw := hw.1 c1
    refine lv_aload_n hx hb dX6_takeEachTurn_12 rfl (lv_at hl 0 rfl) ?_
    refine lv_dup hx hb dX6_takeEachTurn_13 rfl ?_
    refine va_get (D := D) (ci := 6) (C := RX6) (T := TX6) (N := 4) hx hb htb inX6 hown hK hP 23 (xw_23 c q σ) rfl 2 (by decide) (htb _ tb_267) (fun _ h9 => h9) rfl dX6_takeEachTurn_14 ?_
    refine lv_iload_n hx hb dX6_takeEachTurn_17 rfl (lv_at hl 3 rfl) ?_
    refine lv_ior hx hb dX6_takeEachTurn_18 ?_
    refine va_put (D := D) (ci := 6) (ty := .int) (C := RX6) (T := TX6) (N := 4) hx hb htb inX6 tyX6 tyX6_ok nmX6 hown hK hP hD hS 23 (xw_23 c q σ) rfl 2 (by decide) (htb _ tb_267) (fun _ h9 => h9) rfl (by decide +kernel) rfl rfl (Nat.le_of_ble_eq_true rfl) dX6_takeEachTurn_19 (fun H locs hP hD hS => ?_)
    have hP : va_P D vwCl (xw c q (hsI σ 1474 ((σ.1 1474) ||| x3))) H := hP
    obtain ⟨σ2, eσ2⟩ : ∃ z : hsS, z = hsI σ 1474 ((σ.1 1474) ||| x3) := ⟨_, rfl⟩
    rw [← eσ2] at hP
    have hD : va_D (wdA 36 q) (xw c q σ2) := xw_D hD0
    have hw := hw σ2 eσ2
    refine lv_aload_n hx hb dX6_takeEachTurn_22 rfl (lv_at hl 0 rfl) ?_
    refine lv_dup hx hb dX6_takeEachTurn_23 rfl ?_
    refine va_get (D := D) (ci := 6) (C := RX6) (T := TX6) (N := 4) hx hb htb inX6 hown hK hP 23 (xw_23 c q σ2) rfl 3 (by decide) (htb _ tb_268) (fun _ h9 => h9) rfl dX6_takeEachTurn_24 ?_
    refine lv_iload_n hx hb dX6_takeEachTurn_27 rfl (lv_at hl 3 rfl) ?_
    refine lv_iand hx hb dX6_takeEachTurn_28 ?_
    refine va_put (D := D) (ci := 6) (ty := .int) (C := RX6) (T := TX6) (N := 4) hx hb htb inX6 tyX6 tyX6_ok nmX6 hown hK hP hD hS 23 (xw_23 c q σ2) rfl 3 (by decide) (htb _ tb_268) (fun _ h9 => h9) rfl (by decide +kernel) rfl rfl (Nat.le_of_ble_eq_true rfl) dX6_takeEachTurn_29 (fun H locs hP hD hS => ?_)
    have hP : va_P D vwCl (xw c q (hsI σ2 1475 ((σ2.1 1475) &&& x3))) H := hP
    obtain ⟨σ3, eσ3⟩ : ∃ z : hsS, z = hsI σ2 1475 ((σ2.1 1475) &&& x3) := ⟨_, rfl⟩
    rw [← eσ3] at hP
    have hD : va_D (wdA 36 q) (xw c q σ3) := xw_D hD0
    have hw := hw σ3 eσ3
    exact W.vret hx hb hr (fun t ht hW => ⟨⟨σ3, rfl, hw, by unfold wdB; rw [ht]; exact hP⟩, hS.F ht⟩) hS.2.2 dX6_takeEachTurn_32
def wX6_goOnFrom_L16 (b0 : Nat) (b1 : Nat) (z2 : Int32) (z3 : Int32) (z4 : Int64) (K54 : Int32 → hsS → Prop) (post : hsS → Prop) : Nat → Int32 → hsS → Prop
  | 0, _, _ => False
  | n + 1, y6, σ => (((64 : Int32) ≤ y6 → K54 y6 σ) ∧ (¬ (64 : Int32) ≤ y6 → (((z4 >>> (y6.toInt64 &&& 63)) &&& (1 : Int64) = (1 : Int64) → wX6_takeEachTurn b0 b1 z2 ((z3 * (64 : Int32)) + y6) (fun σ4 => ∀ v5 : Int32, v5 = y6 + (1 : Int32) → wX6_goOnFrom_L16 b0 b1 z2 z3 z4 K54 post n v5 σ4) σ) ∧ (¬ (z4 >>> (y6.toInt64 &&& 63)) &&& (1 : Int64) = (1 : Int64) → ∀ v6 : Int32, v6 = y6 + (1 : Int32) → wX6_goOnFrom_L16 b0 b1 z2 z3 z4 K54 post n v6 σ))))
def wX6_goOnFrom (b0 : Nat) (b1 : Nat) (x2 : Int32) (x3 : Int32) (post : hsS → Prop) (σ : hsS) : Prop := vp_in ((x2 * (8 : Int32)) + x3) 2048 ∧ ∀ v1 : Int64, v1 = σ.2.2 (b0 + 1) ((x2 * (8 : Int32)) + x3).toNatClampNeg → ∃ n7, wX6_goOnFrom_L16 b0 b1 x2 x3 v1 (fun v8 σ9 => post σ9) post n7 (0 : Int32) σ
set_option maxHeartbeats 4000000 in
set_option maxRecDepth 100000 in
theorem kcX6_goOnFrom_23_1 (l : Launch) (D : va_G) (c : Nat → ClassId) (q : Nat → Nat) (ev : State → Heap → Prop) (hev : evOK (wdA 36 q) ev) (σ : hsS) (x2 : Int32) (x3 : Int32) (post : hsS → Prop) (hw : wX6_goOnFrom 23 1 x2 x3 post σ) : Met l yX6_goOnFrom (Cond.code yX6_goOnFrom cX6_goOnFrom 7 none :: tb_L) { frames := 4, cells := 0, slots := 0, locals := 94 } (wdPc D (xw c q) (xwT c) (wdA 36 q) ev σ [.ref (q 23), .ref (q 1), .int x2, .int x3]) (va_Qv post (wdB D (xw c q)) (wdA 36 q)) 0 0 (wdA 36 q) := by
  refine Met.ofW (cc := cX6_goOnFrom) (maxL := 7) (ret := none) (by decide) rfl ?_
  intro p e s m args below meth c₀ s₁ Bd hml hv
  obtain ⟨rfl, hP, hK, hD0, hE⟩ := hv
  have hx := Bd.exec
  have hb := Bd.bytes
  have hr := Bd.returns
  have hts := atoms_spec (ws := Cond.code yX6_goOnFrom cX6_goOnFrom 7 none :: tb_L) Bd.pre
  have htb : ∀ w ∈ tb_L, w.before [.ref (q 23), .ref (q 1), .int x2, .int x3].toArray s = true := fun w h => hts w (List.mem_cons_of_mem _ h)
  have hown : s.vm.findClass RX6 = some m.cls := findClass_of_methodNamed Bd.named
  have hlocks := Bd.notSynchronized
  have hS : va_S (wdA 36 q) s.heap s.heap [] := va_S.rf
  have hD := hD0
  have L16 : ∀ (K54 : Int32 → hsS → Prop) (z2 : Int32) (z3 : Int32) (z4 : Int64) (n : Nat) (y6 : Int32) (σ : hsS) (H : Heap) (locs : List Loc) (ls : Array Slot), wX6_goOnFrom_L16 23 1 z2 z3 z4 K54 post n y6 σ → (∀ (y6 : Int32) (σ : hsS) (H : Heap) (locs : List Loc) (ls : Array Slot), K54 y6 σ → va_P D vwCl (xw c q σ) H → va_S (wdA 36 q) s.heap H locs → lv_has ls 7 [(0, .ref (q 23)), (1, .ref (q 1)), (2, .int z2), (3, .int z3), (4, .long z4), (6, .int y6)] → W p l e (headSpec (Cond.code yX6_goOnFrom cX6_goOnFrom 7 none :: tb_L) { frames := 4, cells := 0, slots := 0, locals := 94 }).room s m [.ref (q 23), .ref (q 1), .int x2, .int x3].toArray below meth c₀ H locs 0 0 (MQ below (va_Qv post (wdB D (xw c q)) (wdA 36 q)) [.ref (q 23), .ref (q 1), .int x2, .int x3].toArray s 0 0 (wdA 36 q)) (F0 m 54 ls [])) → va_P D vwCl (xw c q σ) H → va_S (wdA 36 q) s.heap H locs → lv_has ls 7 [(0, .ref (q 23)), (1, .ref (q 1)), (2, .int z2), (3, .int z3), (4, .long z4), (6, .int y6)] → W p l e (headSpec (Cond.code yX6_goOnFrom cX6_goOnFrom 7 none :: tb_L) { frames := 4, cells := 0, slots := 0, locals := 94 }).room s m [.ref (q 23), .ref (q 1), .int x2, .int x3].toArray below meth c₀ H locs 0 0 (MQ below (va_Qv post (wdB D (xw c q)) (wdA 36 q)) [.ref (q 23), .ref (q 1), .int x2, .int x3].toArray s 0 0 (wdA 36 q)) (F0 m 16 ls []) := by
    intro K54 z2 z3 z4 n
    induction n with
    | zero =>
      intro y6 σ H locs ls hw hk54 hP hS hl
      exact (show False from hw).elim
    | succ n ih =>
      intro y6 σ H locs ls hw hk54 hP hS hl
      rw [wX6_goOnFrom_L16] at hw
      have hD : va_D (wdA 36 q) (xw c q σ) := xw_D hD0
      refine lv_iload hx hb dX6_goOnFrom_16 (lv_at hl 5 rfl) ?_
      refine lv_bipush (v := (64 : Int32)) hx hb dX6_goOnFrom_18 (by decide) ?_
      refine lv_icmp_ge (tgt := 54) hx hb dX6_goOnFrom_20 (by decide) (fun c2 => ?_) (fun c2 => ?_)
      · have hw := hw.1 c2
        exact hk54 y6 σ _ _ _ hw hP hS (lv_sub hl [0, 1, 2, 3, 4, 5] rfl)
      · have hw := hw.2 c2
        refine lv_lload hx hb dX6_goOnFrom_23 (lv_at hl 4 rfl) ?_
        refine lv_iload hx hb dX6_goOnFrom_25 (lv_at hl 5 rfl) ?_
        refine lv_lshr hx hb dX6_goOnFrom_27 rfl ?_
        refine lv_lconst (v := 1) hx hb dX6_goOnFrom_28 (by decide) ?_
        refine lv_land hx hb dX6_goOnFrom_29 ?_
        refine lv_lconst (v := 1) hx hb dX6_goOnFrom_30 (by decide) ?_
        refine W.lcmp hx hb dX6_goOnFrom_31 ?_
        refine lv_if_ne (tgt := 48) hx hb dX6_goOnFrom_32 (by decide) (fun cl => ?_) (fun cl => ?_)
        · have hw := hw.2 (fun h => cl (lcmp_eq.mpr h))
          obtain ⟨v6, ev6⟩ : ∃ z : Int32, z = y6 + (1 : Int32) := ⟨_, rfl⟩
          have hw := hw v6 ev6
          refine lv_iinc (v := v6) (lv' := [(6, .int v6), (0, .ref (q 23)), (1, .ref (q 1)), (2, .int z2), (3, .int z3), (4, .long z4)]) hx hb dX6_goOnFrom_48 hl (k := 5) rfl (by rw [ev6]; rfl) (by decide) rfl (fun ls hl => ?_)
          refine lv_goto (tgt := 16) hx hb dX6_goOnFrom_51 (by decide) ?_
          exact ih v6 σ _ _ _ hw hk54 hP hS (lv_sub hl [1, 2, 3, 4, 5, 0] rfl)
        · have hw := hw.1 (lcmp_eq.mp cl)
          refine lv_aload_n hx hb dX6_goOnFrom_35 rfl (lv_at hl 0 rfl) ?_
          refine lv_aload_n hx hb dX6_goOnFrom_36 rfl (lv_at hl 1 rfl) ?_
          refine lv_iload_n hx hb dX6_goOnFrom_37 rfl (lv_at hl 2 rfl) ?_
          refine lv_iload_n hx hb dX6_goOnFrom_38 rfl (lv_at hl 3 rfl) ?_
          refine lv_bipush (v := (64 : Int32)) hx hb dX6_goOnFrom_39 (by decide) ?_
          refine lv_imul hx hb dX6_goOnFrom_41 ?_
          refine lv_iload hx hb dX6_goOnFrom_42 (lv_at hl 5 rfl) ?_
          refine lv_iadd hx hb dX6_goOnFrom_44 ?_
          refine va_callv (va_runV (As := [.ref (q 1), .int z2, .int ((z3 * (64 : Int32)) + y6)]) (rest := []) ⟨hx, hb, hml, hown, htb⟩ (kcX6_takeEachTurn_23_1 l D c q ev hev σ z2 ((z3 * (64 : Int32)) + y6) _ hw) (tb_CW htb kX6_takeEachTurn tb_1002 tb_1004 tb_38 ⟨Nat.le_of_ble_eq_true rfl, Nat.le_of_ble_eq_true rfl⟩) (wd_preV (wd := xw c q) (k := 23) hev hK hP hD hE hS (xw_23 c q σ) rfl) rfl rfl hl.1 rfl (lv_room (Nat.le_of_ble_eq_true rfl)) dX6_goOnFrom_45 ⟨Nat.zero_le _, Nat.zero_le _⟩) hS (fun q _ h => h) (fun q h => h) (fun σ4 t H1 locs1 ht hvm hw hB hz1 hk1 hS => ?_)
          have hP : va_P D vwCl (xw c q σ4) H1 := ht ▸ hB
          have hD : va_D (wdA 36 q) (xw c q σ4) := xw_D hD0
          obtain ⟨v5, ev5⟩ : ∃ z : Int32, z = y6 + (1 : Int32) := ⟨_, rfl⟩
          have hw := hw v5 ev5
          refine lv_iinc (v := v5) (lv' := [(6, .int v5), (0, .ref (q 23)), (1, .ref (q 1)), (2, .int z2), (3, .int z3), (4, .long z4)]) hx hb dX6_goOnFrom_48 hl (k := 5) rfl (by rw [ev5]; rfl) (by decide) rfl (fun ls hl => ?_)
          refine lv_goto (tgt := 16) hx hb dX6_goOnFrom_51 (by decide) ?_
          exact ih v5 σ4 _ _ _ hw hk54 hP hS (lv_sub hl [1, 2, 3, 4, 5, 0] rfl)
  have hl := lv_entry ([.ref (q 23), .ref (q 1), .int x2, .int x3]) (n := 7) (Nat.le_of_ble_eq_true rfl)
  rw [lg_entry_eq]
  generalize (lg_sl ([.ref (q 23), .ref (q 1), .int x2, .int x3]) ++ List.replicate (7 - (lg_sl ([.ref (q 23), .ref (q 1), .int x2, .int x3])).length) Slot.unset).toArray = ls at hl ⊢
  have hl : lv_has ls 7 [(0, .ref (q 23)), (1, .ref (q 1)), (2, .int x2), (3, .int x3)] := hl
  unfold wX6_goOnFrom at hw
  refine lv_aload_n hx hb dX6_goOnFrom_0 rfl (lv_at hl 0 rfl) ?_
  refine va_get (D := D) (ci := 6) (C := RX6) (T := TX6) (N := 4) hx hb htb inX6 hown hK hP 23 (xw_23 c q σ) rfl 0 (by decide) (htb _ tb_265) (fun _ h9 => h9) rfl dX6_goOnFrom_1 ?_
  refine lv_iload_n hx hb dX6_goOnFrom_4 rfl (lv_at hl 2 rfl) ?_
  refine lv_bipush (v := (8 : Int32)) hx hb dX6_goOnFrom_5 (by decide) ?_
  refine lv_imul hx hb dX6_goOnFrom_7 ?_
  refine lv_iload_n hx hb dX6_goOnFrom_8 rfl (lv_at hl 3 rfl) ?_
  refine lv_iadd hx hb dX6_goOnFrom_9 ?_
  refine va_lald hx hb hK hP 24 16 (xw_24 c q σ) rfl hw.1 dX6_goOnFrom_10 ?_
  have hw := hw.2
  refine lv_topl (fun v1 ev1 => ?_)
  have hw := hw v1 ev1
  refine lv_lstore (lv' := [(4, .long v1), (0, .ref (q 23)), (1, .ref (q 1)), (2, .int x2), (3, .int x3)]) hx hb dX6_goOnFrom_11 hl (by decide) rfl (fun ls hl => ?_)
  refine lv_iconst (v := (0 : Int32)) hx hb dX6_goOnFrom_13 (by decide) ?_
  refine lv_istore (lv' := [(6, .int (0 : Int32)), (4, .long v1), (0, .ref (q 23)), (1, .ref (q 1)), (2, .int x2), (3, .int x3)]) hx hb dX6_goOnFrom_14 hl (by decide) rfl (fun ls hl => ?_)
  obtain ⟨n7, hw⟩ := hw
  refine L16 _ x2 x3 v1 n7 (0 : Int32) σ _ _ _ hw ?_ hP hS (lv_sub hl [2, 3, 4, 5, 1, 0] rfl)
  intro v8 σ9 H locs ls hw hP hS hl
  have hD : va_D (wdA 36 q) (xw c q σ9) := xw_D hD0
  exact W.vret hx hb hr (fun t ht hW => ⟨⟨σ9, rfl, hw, by unfold wdB; rw [ht]; exact hP⟩, hS.F ht⟩) hS.2.2 dX6_goOnFrom_54
def wX6_learn_L66 (b0 : Nat) (b1 : Nat) (z2 : Int32) (z3 : Int32) (K104 : Int32 → hsS → Prop) (post : hsS → Prop) : Nat → Int32 → hsS → Prop
  | 0, _, _ => False
  | n + 1, y4, σ => (((8 : Int32) ≤ y4 → K104 y4 σ) ∧ (¬ (8 : Int32) ≤ y4 → vp_in ((z3 * (8 : Int32)) + y4) 2048 ∧ ((σ.2.2 (b0 + 1) ((z3 * (8 : Int32)) + y4).toNatClampNeg = (0 : Int64) → ∀ v16 : Int32, v16 = y4 + (1 : Int32) → wX6_learn_L66 b0 b1 z2 z3 K104 post n v16 σ) ∧ (¬ σ.2.2 (b0 + 1) ((z3 * (8 : Int32)) + y4).toNatClampNeg = (0 : Int64) → wX6_goOnFrom b0 b1 z3 y4 (fun σ18 => ∀ v19 : Int32, v19 = y4 + (1 : Int32) → wX6_learn_L66 b0 b1 z2 z3 K104 post n v19 σ18) σ))))
def wX6_learn_L58 (b0 : Nat) (b1 : Nat) (z2 : Int32) (K110 : Int32 → hsS → Prop) (post : hsS → Prop) : Nat → Int32 → hsS → Prop
  | 0, _, _ => False
  | n + 1, y3, σ => ((z2 ≤ y3 → K110 y3 σ) ∧ (¬ z2 ≤ y3 → ∃ n20, wX6_learn_L66 b0 b1 z2 y3 (fun v21 σ22 => ∀ v23 : Int32, v23 = y3 + (1 : Int32) → wX6_learn_L58 b0 b1 z2 K110 post n v23 σ22) post n20 (0 : Int32) σ))
def wX6_learn (b0 : Nat) (b1 : Nat) (post : hsS → Prop) (σ : hsS) : Prop := (((σ.1 (64 * b0 + 1)) = (0 : Int32) → ∀ σ2 : hsS, σ2 = hsI σ (64 * b0 + 1) (1 : Int32) → wJ7_fill_d0a16 (b0 + 1) (0 : Int64) (fun σ4 => wX1_allThings b1 (fun r5 σ6 => wX6_mark b0 (0 : Int32) r5 (fun σ8 => ∀ σ9 : hsS, σ9 = hsI σ8 (64 * b0 + 2) (0 : Int32) → wX1_allThings b1 (fun r10 σ11 => ∀ σ12 : hsS, σ12 = hsI σ11 (64 * b0 + 3) r10 → ∀ v13 : Int32, v13 = (if (256 : Int32) < ((1 : Int32) <<< ((σ12.1 (64 * b1 + 6)) &&& 31)) then (256 : Int32) else ((1 : Int32) <<< ((σ12.1 (64 * b1 + 6)) &&& 31))) → ∃ n24, wX6_learn_L58 b0 b1 v13 (fun v25 σ26 => post σ26) post n24 (0 : Int32) σ12) σ9) σ6) σ4) σ2) ∧ (¬ (σ.1 (64 * b0 + 1)) = (0 : Int32) → post σ))
set_option maxHeartbeats 4000000 in
set_option maxRecDepth 100000 in
theorem kcX6_learn_23_1 (l : Launch) (D : va_G) (c : Nat → ClassId) (q : Nat → Nat) (ev : State → Heap → Prop) (hev : evOK (wdA 36 q) ev) (σ : hsS)  (post : hsS → Prop) (hw : wX6_learn 23 1 post σ) : Met l yX6_learn (Cond.code yX6_learn cX6_learn 5 none :: tb_L) { frames := 5, cells := 0, slots := 0, locals := 120 } (wdPc D (xw c q) (xwT c) (wdA 36 q) ev σ [.ref (q 23), .ref (q 1)]) (va_Qv post (wdB D (xw c q)) (wdA 36 q)) 0 0 (wdA 36 q) := by
  refine Met.ofW (cc := cX6_learn) (maxL := 5) (ret := none) (by decide) rfl ?_
  intro p e s m args below meth c₀ s₁ Bd hml hv
  obtain ⟨rfl, hP, hK, hD0, hE⟩ := hv
  have hx := Bd.exec
  have hb := Bd.bytes
  have hr := Bd.returns
  have hts := atoms_spec (ws := Cond.code yX6_learn cX6_learn 5 none :: tb_L) Bd.pre
  have htb : ∀ w ∈ tb_L, w.before [.ref (q 23), .ref (q 1)].toArray s = true := fun w h => hts w (List.mem_cons_of_mem _ h)
  have hown : s.vm.findClass RX6 = some m.cls := findClass_of_methodNamed Bd.named
  have hlocks := Bd.notSynchronized
  have hS : va_S (wdA 36 q) s.heap s.heap [] := va_S.rf
  have hD := hD0
  have L66 : ∀ (K104 : Int32 → hsS → Prop) (z2 : Int32) (z3 : Int32) (n : Nat) (y4 : Int32) (σ : hsS) (H : Heap) (locs : List Loc) (ls : Array Slot), wX6_learn_L66 23 1 z2 z3 K104 post n y4 σ → (∀ (y4 : Int32) (σ : hsS) (H : Heap) (locs : List Loc) (ls : Array Slot), K104 y4 σ → va_P D vwCl (xw c q σ) H → va_S (wdA 36 q) s.heap H locs → lv_has ls 5 [(0, .ref (q 23)), (1, .ref (q 1)), (2, .int z2), (3, .int z3), (4, .int y4)] → W p l e (headSpec (Cond.code yX6_learn cX6_learn 5 none :: tb_L) { frames := 5, cells := 0, slots := 0, locals := 120 }).room s m [.ref (q 23), .ref (q 1)].toArray below meth c₀ H locs 0 0 (MQ below (va_Qv post (wdB D (xw c q)) (wdA 36 q)) [.ref (q 23), .ref (q 1)].toArray s 0 0 (wdA 36 q)) (F0 m 104 ls [])) → va_P D vwCl (xw c q σ) H → va_S (wdA 36 q) s.heap H locs → lv_has ls 5 [(0, .ref (q 23)), (1, .ref (q 1)), (2, .int z2), (3, .int z3), (4, .int y4)] → W p l e (headSpec (Cond.code yX6_learn cX6_learn 5 none :: tb_L) { frames := 5, cells := 0, slots := 0, locals := 120 }).room s m [.ref (q 23), .ref (q 1)].toArray below meth c₀ H locs 0 0 (MQ below (va_Qv post (wdB D (xw c q)) (wdA 36 q)) [.ref (q 23), .ref (q 1)].toArray s 0 0 (wdA 36 q)) (F0 m 66 ls []) := by
    intro K104 z2 z3 n
    induction n with
    | zero =>
      intro y4 σ H locs ls hw hk104 hP hS hl
      exact (show False from hw).elim
    | succ n ih =>
      intro y4 σ H locs ls hw hk104 hP hS hl
      rw [wX6_learn_L66] at hw
      have hD : va_D (wdA 36 q) (xw c q σ) := xw_D hD0
      refine lv_iload hx hb dX6_learn_66 (lv_at hl 4 rfl) ?_
      refine lv_bipush (v := (8 : Int32)) hx hb dX6_learn_68 (by decide) ?_
      refine lv_icmp_ge (tgt := 104) hx hb dX6_learn_70 (by decide) (fun c15 => ?_) (fun c15 => ?_)
      · have hw := hw.1 c15
        exact hk104 y4 σ _ _ _ hw hP hS (lv_sub hl [0, 1, 2, 3, 4] rfl)
      · have hw := hw.2 c15
        refine lv_aload_n hx hb dX6_learn_73 rfl (lv_at hl 0 rfl) ?_
        refine va_get (D := D) (ci := 6) (C := RX6) (T := TX6) (N := 4) hx hb htb inX6 hown hK hP 23 (xw_23 c q σ) rfl 0 (by decide) (htb _ tb_265) (fun _ h9 => h9) rfl dX6_learn_74 ?_
        refine lv_iload_n hx hb dX6_learn_77 rfl (lv_at hl 3 rfl) ?_
        refine lv_bipush (v := (8 : Int32)) hx hb dX6_learn_78 (by decide) ?_
        refine lv_imul hx hb dX6_learn_80 ?_
        refine lv_iload hx hb dX6_learn_81 (lv_at hl 4 rfl) ?_
        refine lv_iadd hx hb dX6_learn_83 ?_
        refine va_lald hx hb hK hP 24 16 (xw_24 c q σ) rfl hw.1 dX6_learn_84 ?_
        have hw := hw.2
        refine lv_lconst (v := 0) hx hb dX6_learn_85 (by decide) ?_
        refine W.lcmp hx hb dX6_learn_86 ?_
        refine lv_if_eq (tgt := 98) hx hb dX6_learn_87 (by decide) (fun cl => ?_) (fun cl => ?_)
        · have hw := hw.1 (lcmp_eq.mp cl)
          obtain ⟨v16, ev16⟩ : ∃ z : Int32, z = y4 + (1 : Int32) := ⟨_, rfl⟩
          have hw := hw v16 ev16
          refine lv_iinc (v := v16) (lv' := [(4, .int v16), (0, .ref (q 23)), (1, .ref (q 1)), (2, .int z2), (3, .int z3)]) hx hb dX6_learn_98 hl (k := 4) rfl (by rw [ev16]; rfl) (by decide) rfl (fun ls hl => ?_)
          refine lv_goto (tgt := 66) hx hb dX6_learn_101 (by decide) ?_
          exact ih v16 σ _ _ _ hw hk104 hP hS (lv_sub hl [1, 2, 3, 4, 0] rfl)
        · have hw := hw.2 (fun h => cl (lcmp_eq.mpr h))
          refine lv_aload_n hx hb dX6_learn_90 rfl (lv_at hl 0 rfl) ?_
          refine lv_aload_n hx hb dX6_learn_91 rfl (lv_at hl 1 rfl) ?_
          refine lv_iload_n hx hb dX6_learn_92 rfl (lv_at hl 3 rfl) ?_
          refine lv_iload hx hb dX6_learn_93 (lv_at hl 4 rfl) ?_
          refine va_callv (va_runV (As := [.ref (q 1), .int z3, .int y4]) (rest := []) ⟨hx, hb, hml, hown, htb⟩ (kcX6_goOnFrom_23_1 l D c q ev hev σ z3 y4 _ hw) (tb_CW htb kX6_goOnFrom tb_998 tb_1000 tb_37 ⟨Nat.le_of_ble_eq_true rfl, Nat.le_of_ble_eq_true rfl⟩) (wd_preV (wd := xw c q) (k := 23) hev hK hP hD hE hS (xw_23 c q σ) rfl) rfl rfl hl.1 rfl (lv_room (Nat.le_of_ble_eq_true rfl)) dX6_learn_95 ⟨Nat.zero_le _, Nat.zero_le _⟩) hS (fun q _ h => h) (fun q h => h) (fun σ18 t H1 locs1 ht hvm hw hB hz1 hk1 hS => ?_)
          have hP : va_P D vwCl (xw c q σ18) H1 := ht ▸ hB
          have hD : va_D (wdA 36 q) (xw c q σ18) := xw_D hD0
          obtain ⟨v19, ev19⟩ : ∃ z : Int32, z = y4 + (1 : Int32) := ⟨_, rfl⟩
          have hw := hw v19 ev19
          refine lv_iinc (v := v19) (lv' := [(4, .int v19), (0, .ref (q 23)), (1, .ref (q 1)), (2, .int z2), (3, .int z3)]) hx hb dX6_learn_98 hl (k := 4) rfl (by rw [ev19]; rfl) (by decide) rfl (fun ls hl => ?_)
          refine lv_goto (tgt := 66) hx hb dX6_learn_101 (by decide) ?_
          exact ih v19 σ18 _ _ _ hw hk104 hP hS (lv_sub hl [1, 2, 3, 4, 0] rfl)
  have L58 : ∀ (K110 : Int32 → hsS → Prop) (z2 : Int32) (n : Nat) (y3 : Int32) (σ : hsS) (H : Heap) (locs : List Loc) (ls : Array Slot), wX6_learn_L58 23 1 z2 K110 post n y3 σ → (∀ (y3 : Int32) (σ : hsS) (H : Heap) (locs : List Loc) (ls : Array Slot), K110 y3 σ → va_P D vwCl (xw c q σ) H → va_S (wdA 36 q) s.heap H locs → lv_has ls 5 [(0, .ref (q 23)), (1, .ref (q 1)), (2, .int z2), (3, .int y3)] → W p l e (headSpec (Cond.code yX6_learn cX6_learn 5 none :: tb_L) { frames := 5, cells := 0, slots := 0, locals := 120 }).room s m [.ref (q 23), .ref (q 1)].toArray below meth c₀ H locs 0 0 (MQ below (va_Qv post (wdB D (xw c q)) (wdA 36 q)) [.ref (q 23), .ref (q 1)].toArray s 0 0 (wdA 36 q)) (F0 m 110 ls [])) → va_P D vwCl (xw c q σ) H → va_S (wdA 36 q) s.heap H locs → lv_has ls 5 [(0, .ref (q 23)), (1, .ref (q 1)), (2, .int z2), (3, .int y3)] → W p l e (headSpec (Cond.code yX6_learn cX6_learn 5 none :: tb_L) { frames := 5, cells := 0, slots := 0, locals := 120 }).room s m [.ref (q 23), .ref (q 1)].toArray below meth c₀ H locs 0 0 (MQ below (va_Qv post (wdB D (xw c q)) (wdA 36 q)) [.ref (q 23), .ref (q 1)].toArray s 0 0 (wdA 36 q)) (F0 m 58 ls []) := by
    intro K110 z2 n
    induction n with
    | zero =>
      intro y3 σ H locs ls hw hk110 hP hS hl
      exact (show False from hw).elim
    | succ n ih =>
      intro y3 σ H locs ls hw hk110 hP hS hl
      rw [wX6_learn_L58] at hw
      have hD : va_D (wdA 36 q) (xw c q σ) := xw_D hD0
      refine lv_iload_n hx hb dX6_learn_58 rfl (lv_at hl 3 rfl) ?_
      refine lv_iload_n hx hb dX6_learn_59 rfl (lv_at hl 2 rfl) ?_
      refine lv_icmp_ge (tgt := 110) hx hb dX6_learn_60 (by decide) (fun c14 => ?_) (fun c14 => ?_)
      · have hw := hw.1 c14
        exact hk110 y3 σ _ _ _ hw hP hS (lv_sub hl [0, 1, 2, 3] rfl)
      · have hw := hw.2 c14
        refine lv_iconst (v := (0 : Int32)) hx hb dX6_learn_63 (by decide) ?_
        refine lv_istore (lv' := [(4, .int (0 : Int32)), (0, .ref (q 23)), (1, .ref (q 1)), (2, .int z2), (3, .int y3)]) hx hb dX6_learn_64 hl (by decide) rfl (fun ls hl => ?_)
        obtain ⟨n20, hw⟩ := hw
        refine L66 _ z2 y3 n20 (0 : Int32) σ _ _ _ hw ?_ hP hS (lv_sub hl [1, 2, 3, 4, 0] rfl)
        intro v21 σ22 H locs ls hw hP hS hl
        have hD : va_D (wdA 36 q) (xw c q σ22) := xw_D hD0
        obtain ⟨v23, ev23⟩ : ∃ z : Int32, z = y3 + (1 : Int32) := ⟨_, rfl⟩
        have hw := hw v23 ev23
        refine lv_iinc (v := v23) (lv' := [(3, .int v23), (0, .ref (q 23)), (1, .ref (q 1)), (2, .int z2), (4, .int v21)]) hx hb dX6_learn_104 hl (k := 3) rfl (by rw [ev23]; rfl) (by decide) rfl (fun ls hl => ?_)
        refine lv_goto (tgt := 58) hx hb dX6_learn_107 (by decide) ?_
        exact ih v23 σ22 _ _ _ hw hk110 hP hS (lv_sub hl [1, 2, 3, 0] rfl)
  have hl := lv_entry ([.ref (q 23), .ref (q 1)]) (n := 5) (Nat.le_of_ble_eq_true rfl)
  rw [lg_entry_eq]
  generalize (lg_sl ([.ref (q 23), .ref (q 1)]) ++ List.replicate (5 - (lg_sl ([.ref (q 23), .ref (q 1)])).length) Slot.unset).toArray = ls at hl ⊢
  have hl : lv_has ls 5 [(0, .ref (q 23)), (1, .ref (q 1))] := hl
  unfold wX6_learn at hw
  refine lv_aload_n hx hb dX6_learn_0 rfl (lv_at hl 0 rfl) ?_
  refine va_get (D := D) (ci := 6) (C := RX6) (T := TX6) (N := 4) hx hb htb inX6 hown hK hP 23 (xw_23 c q σ) rfl 1 (by decide) (htb _ tb_266) (fun _ h9 => h9) rfl dX6_learn_1 ?_
  refine lv_if_eq (tgt := 8) hx hb dX6_learn_4 (by decide) (fun c1 => ?_) (fun c1 => ?_)
  · have hw := hw.1 c1
    refine lv_aload_n hx hb dX6_learn_8 rfl (lv_at hl 0 rfl) ?_
    refine lv_iconst (v := (1 : Int32)) hx hb dX6_learn_9 (by decide) ?_
    refine va_put (D := D) (ci := 6) (ty := .boolean) (C := RX6) (T := TX6) (N := 4) hx hb htb inX6 tyX6 tyX6_ok nmX6 hown hK hP hD hS 23 (xw_23 c q σ) rfl 1 (by decide) (htb _ tb_266) (fun _ h9 => h9) rfl (by decide +kernel) rfl rfl (Nat.le_of_ble_eq_true rfl) dX6_learn_10 (fun H locs hP hD hS => ?_)
    have hP : va_P D vwCl (xw c q (hsI σ 1473 (1 : Int32))) H := hP
    obtain ⟨σ2, eσ2⟩ : ∃ z : hsS, z = hsI σ 1473 (1 : Int32) := ⟨_, rfl⟩
    rw [← eσ2] at hP
    have hD : va_D (wdA 36 q) (xw c q σ2) := xw_D hD0
    have hw := hw σ2 eσ2
    refine lv_aload_n hx hb dX6_learn_13 rfl (lv_at hl 0 rfl) ?_
    refine va_get (D := D) (ci := 6) (C := RX6) (T := TX6) (N := 4) hx hb htb inX6 hown hK hP 23 (xw_23 c q σ2) rfl 0 (by decide) (htb _ tb_265) (fun _ h9 => h9) rfl dX6_learn_14 ?_
    refine lv_lconst (v := 0) hx hb dX6_learn_17 (by decide) ?_
    refine va_callv (va_runS (As := [.ref (q 24), .long (0 : Int64)]) (rest := []) ⟨hx, hb, hml, hown, htb⟩ (kcJ7_fill_d0a16_24 l D c q ev hev σ2 (0 : Int64) _ hw) (tb_CS htb kJ7_fill_d0a16 tb_989 tb_990 ⟨Nat.le_of_ble_eq_true rfl, Nat.le_of_ble_eq_true rfl⟩) (wd_preS (wd := xw c q) hev hK hP hD hE hS) rfl rfl hl.1 rfl (lv_room (Nat.le_of_ble_eq_true rfl)) dX6_learn_18 ⟨Nat.zero_le _, Nat.zero_le _⟩) hS (fun q _ h => h) (fun q h => h) (fun σ4 t H1 locs1 ht hvm hw hB hz1 hk1 hS => ?_)
    have hP : va_P D vwCl (xw c q σ4) H1 := ht ▸ hB
    have hD : va_D (wdA 36 q) (xw c q σ4) := xw_D hD0
    refine lv_aload_n hx hb dX6_learn_21 rfl (lv_at hl 0 rfl) ?_
    refine lv_iconst (v := (0 : Int32)) hx hb dX6_learn_22 (by decide) ?_
    refine lv_aload_n hx hb dX6_learn_23 rfl (lv_at hl 1 rfl) ?_
    refine va_calli (va_runV (As := []) (rest := [.int (0 : Int32), .ref (q 23)]) ⟨hx, hb, hml, hown, htb⟩ (kcX1_allThings_1 l D c q ev hev σ4  _ hw) (tb_CW htb kX1_allThings tb_992 tb_438 tb_439 ⟨Nat.le_of_ble_eq_true rfl, Nat.le_of_ble_eq_true rfl⟩) (wd_preV (wd := xw c q) (k := 1) hev hK hP hD hE hS (xw_1 c q σ4) rfl) rfl rfl hl.1 rfl (lv_room (Nat.le_of_ble_eq_true rfl)) dX6_learn_24 ⟨Nat.zero_le _, Nat.zero_le _⟩) hS (fun q _ h => h) (fun q h => h) (fun r5 σ6 t H1 locs1 ht hvm hw hB hz1 hk1 hS => ?_)
    have hP : va_P D vwCl (xw c q σ6) H1 := ht ▸ hB
    have hD : va_D (wdA 36 q) (xw c q σ6) := xw_D hD0
    refine va_callv (va_runV (As := [.int (0 : Int32), .int r5]) (rest := []) ⟨hx, hb, hml, hown, htb⟩ (kcX6_mark_23 l D c q ev hev σ6 (0 : Int32) r5 _ hw) (tb_CW htb kX6_mark tb_993 tb_995 tb_36 ⟨Nat.le_of_ble_eq_true rfl, Nat.le_of_ble_eq_true rfl⟩) (wd_preV (wd := xw c q) (k := 23) hev hK hP hD hE hS (xw_23 c q σ6) rfl) rfl rfl hl.1 rfl (lv_room (Nat.le_of_ble_eq_true rfl)) dX6_learn_27 ⟨Nat.zero_le _, Nat.zero_le _⟩) hS (fun q _ h => h) (fun q h => h) (fun σ8 t H1 locs1 ht hvm hw hB hz1 hk1 hS => ?_)
    have hP : va_P D vwCl (xw c q σ8) H1 := ht ▸ hB
    have hD : va_D (wdA 36 q) (xw c q σ8) := xw_D hD0
    refine lv_aload_n hx hb dX6_learn_30 rfl (lv_at hl 0 rfl) ?_
    refine lv_iconst (v := (0 : Int32)) hx hb dX6_learn_31 (by decide) ?_
    refine va_put (D := D) (ci := 6) (ty := .int) (C := RX6) (T := TX6) (N := 4) hx hb htb inX6 tyX6 tyX6_ok nmX6 hown hK hP hD hS 23 (xw_23 c q σ8) rfl 2 (by decide) (htb _ tb_267) (fun _ h9 => h9) rfl (by decide +kernel) rfl rfl (Nat.le_of_ble_eq_true rfl) dX6_learn_32 (fun H locs hP hD hS => ?_)
    have hP : va_P D vwCl (xw c q (hsI σ8 1474 (0 : Int32))) H := hP
    obtain ⟨σ9, eσ9⟩ : ∃ z : hsS, z = hsI σ8 1474 (0 : Int32) := ⟨_, rfl⟩
    rw [← eσ9] at hP
    have hD : va_D (wdA 36 q) (xw c q σ9) := xw_D hD0
    have hw := hw σ9 eσ9
    refine lv_aload_n hx hb dX6_learn_35 rfl (lv_at hl 0 rfl) ?_
    refine lv_aload_n hx hb dX6_learn_36 rfl (lv_at hl 1 rfl) ?_
    refine va_calli (va_runV (As := []) (rest := [.ref (q 23)]) ⟨hx, hb, hml, hown, htb⟩ (kcX1_allThings_1 l D c q ev hev σ9  _ hw) (tb_CW htb kX1_allThings tb_992 tb_438 tb_439 ⟨Nat.le_of_ble_eq_true rfl, Nat.le_of_ble_eq_true rfl⟩) (wd_preV (wd := xw c q) (k := 1) hev hK hP hD hE hS (xw_1 c q σ9) rfl) rfl rfl hl.1 rfl (lv_room (Nat.le_of_ble_eq_true rfl)) dX6_learn_37 ⟨Nat.zero_le _, Nat.zero_le _⟩) hS (fun q _ h => h) (fun q h => h) (fun r10 σ11 t H1 locs1 ht hvm hw hB hz1 hk1 hS => ?_)
    have hP : va_P D vwCl (xw c q σ11) H1 := ht ▸ hB
    have hD : va_D (wdA 36 q) (xw c q σ11) := xw_D hD0
    refine va_put (D := D) (ci := 6) (ty := .int) (C := RX6) (T := TX6) (N := 4) hx hb htb inX6 tyX6 tyX6_ok nmX6 hown hK hP hD hS 23 (xw_23 c q σ11) rfl 3 (by decide) (htb _ tb_268) (fun _ h9 => h9) rfl (by decide +kernel) rfl rfl (Nat.le_of_ble_eq_true rfl) dX6_learn_40 (fun H locs hP hD hS => ?_)
    have hP : va_P D vwCl (xw c q (hsI σ11 1475 r10)) H := hP
    obtain ⟨σ12, eσ12⟩ : ∃ z : hsS, z = hsI σ11 1475 r10 := ⟨_, rfl⟩
    rw [← eσ12] at hP
    have hD : va_D (wdA 36 q) (xw c q σ12) := xw_D hD0
    have hw := hw σ12 eσ12
    refine lv_iconst (v := (1 : Int32)) hx hb dX6_learn_43 (by decide) ?_
    refine lv_aload_n hx hb dX6_learn_44 rfl (lv_at hl 1 rfl) ?_
    refine va_getN (D := D) (ci := 1) (C := RX1) (T := TX1) (N := 12) hx hb htb inX1 hown hK hP 1 (xw_1 c q σ12) rfl 6 (by decide) (htb _ tb_150) (fun _ h9 => h9) rfl dX6_learn_45 ?_
    refine lv_ishl hx hb dX6_learn_48 ?_
    refine lv_sipush (v := (256 : Int32)) hx hb dX6_learn_49 (by decide) ?_
    refine va_mmin hx hb (hml.trans hl.1.symm) hown (htb _ tb_997) (htb _ tb_413) (htb _ tb_104) (htb _ tb_414) (Nat.le_of_ble_eq_true rfl) (Nat.le_of_ble_eq_true rfl) (Nat.zero_le _) (Nat.zero_le _) dX6_learn_52 ?_
    refine lv_topi (fun v13 ev13 => ?_)
    have hw := hw v13 ev13
    refine lv_istore_n (lv' := [(2, .int v13), (0, .ref (q 23)), (1, .ref (q 1))]) hx hb dX6_learn_55 rfl hl (by decide) rfl (fun ls hl => ?_)
    refine lv_iconst (v := (0 : Int32)) hx hb dX6_learn_56 (by decide) ?_
    refine lv_istore_n (lv' := [(3, .int (0 : Int32)), (2, .int v13), (0, .ref (q 23)), (1, .ref (q 1))]) hx hb dX6_learn_57 rfl hl (by decide) rfl (fun ls hl => ?_)
    obtain ⟨n24, hw⟩ := hw
    refine L58 _ v13 n24 (0 : Int32) σ12 _ _ _ hw ?_ hP hS (lv_sub hl [2, 3, 1, 0] rfl)
    intro v25 σ26 H locs ls hw hP hS hl
    have hD : va_D (wdA 36 q) (xw c q σ26) := xw_D hD0
    exact W.vret hx hb hr (fun t ht hW => ⟨⟨σ26, rfl, hw, by unfold wdB; rw [ht]; exact hP⟩, hS.F ht⟩) hS.2.2 dX6_learn_110
  · have hw := hw.2 c1
    exact W.vret hx hb hr (fun t ht hW => ⟨⟨σ, rfl, hw, by unfold wdB; rw [ht]; exact hP⟩, hS.F ht⟩) hS.2.2 dX6_learn_7
def wX6_leftBehindSome (b0 : Nat) (b1 : Nat) (post : Int32 → hsS → Prop) (σ : hsS) : Prop := wX6_learn b0 b1 (fun σ2 => post (σ2.1 (64 * b0 + 2)) σ2) σ
set_option maxHeartbeats 4000000 in
set_option maxRecDepth 100000 in
theorem kcX6_leftBehindSome_23_1 (l : Launch) (D : va_G) (c : Nat → ClassId) (q : Nat → Nat) (ev : State → Heap → Prop) (hev : evOK (wdA 36 q) ev) (σ : hsS)  (post : Int32 → hsS → Prop) (hw : wX6_leftBehindSome 23 1 post σ) : Met l yX6_leftBehindSome (Cond.code yX6_leftBehindSome cX6_leftBehindSome 2 (some .int) :: tb_L) { frames := 6, cells := 0, slots := 0, locals := 144 } (wdPc D (xw c q) (xwT c) (wdA 36 q) ev σ [.ref (q 23), .ref (q 1)]) (va_Qi post (wdB D (xw c q)) (wdA 36 q)) 0 0 (wdA 36 q) := by
  refine Met.ofW (cc := cX6_leftBehindSome) (maxL := 2) (ret := (some .int)) (by decide) rfl ?_
  intro p e s m args below meth c₀ s₁ Bd hml hv
  obtain ⟨rfl, hP, hK, hD0, hE⟩ := hv
  have hx := Bd.exec
  have hb := Bd.bytes
  have hr := Bd.returns
  have hts := atoms_spec (ws := Cond.code yX6_leftBehindSome cX6_leftBehindSome 2 (some .int) :: tb_L) Bd.pre
  have htb : ∀ w ∈ tb_L, w.before [.ref (q 23), .ref (q 1)].toArray s = true := fun w h => hts w (List.mem_cons_of_mem _ h)
  have hown : s.vm.findClass RX6 = some m.cls := findClass_of_methodNamed Bd.named
  have hlocks := Bd.notSynchronized
  have hS : va_S (wdA 36 q) s.heap s.heap [] := va_S.rf
  have hD := hD0
  have hl := lv_entry ([.ref (q 23), .ref (q 1)]) (n := 2) (Nat.le_of_ble_eq_true rfl)
  rw [lg_entry_eq]
  generalize (lg_sl ([.ref (q 23), .ref (q 1)]) ++ List.replicate (2 - (lg_sl ([.ref (q 23), .ref (q 1)])).length) Slot.unset).toArray = ls at hl ⊢
  have hl : lv_has ls 2 [(0, .ref (q 23)), (1, .ref (q 1))] := hl
  unfold wX6_leftBehindSome at hw
  refine lv_aload_n hx hb dX6_leftBehindSome_0 rfl (lv_at hl 0 rfl) ?_
  refine lv_aload_n hx hb dX6_leftBehindSome_1 rfl (lv_at hl 1 rfl) ?_
  refine va_callv (va_runV (As := [.ref (q 1)]) (rest := []) ⟨hx, hb, hml, hown, htb⟩ (kcX6_learn_23_1 l D c q ev hev σ  _ hw) (tb_CW htb kX6_learn tb_985 tb_987 tb_35 ⟨Nat.le_of_ble_eq_true rfl, Nat.le_of_ble_eq_true rfl⟩) (wd_preV (wd := xw c q) (k := 23) hev hK hP hD hE hS (xw_23 c q σ) rfl) rfl rfl hl.1 rfl (lv_room (Nat.le_of_ble_eq_true rfl)) dX6_leftBehindSome_2 ⟨Nat.zero_le _, Nat.zero_le _⟩) hS (fun q _ h => h) (fun q h => h) (fun σ2 t H1 locs1 ht hvm hw hB hz1 hk1 hS => ?_)
  have hP : va_P D vwCl (xw c q σ2) H1 := ht ▸ hB
  have hD : va_D (wdA 36 q) (xw c q σ2) := xw_D hD0
  refine lv_aload_n hx hb dX6_leftBehindSome_5 rfl (lv_at hl 0 rfl) ?_
  refine va_get (D := D) (ci := 6) (C := RX6) (T := TX6) (N := 4) hx hb htb inX6 hown hK hP 23 (xw_23 c q σ2) rfl 2 (by decide) (htb _ tb_267) (fun _ h9 => h9) rfl dX6_leftBehindSome_6 ?_
  exact W.iret hx hb hr (fun t ht hW => ⟨⟨_, σ2, rfl, hw, by unfold wdB; rw [ht]; exact hP⟩, hS.F ht⟩) hS.2.2 dX6_leftBehindSome_9
def wX6_leftBehindAll (b0 : Nat) (b1 : Nat) (post : Int32 → hsS → Prop) (σ : hsS) : Prop := wX6_learn b0 b1 (fun σ2 => post (σ2.1 (64 * b0 + 3)) σ2) σ
set_option maxHeartbeats 4000000 in
set_option maxRecDepth 100000 in
theorem kcX6_leftBehindAll_23_1 (l : Launch) (D : va_G) (c : Nat → ClassId) (q : Nat → Nat) (ev : State → Heap → Prop) (hev : evOK (wdA 36 q) ev) (σ : hsS)  (post : Int32 → hsS → Prop) (hw : wX6_leftBehindAll 23 1 post σ) : Met l yX6_leftBehindAll (Cond.code yX6_leftBehindAll cX6_leftBehindAll 2 (some .int) :: tb_L) { frames := 6, cells := 0, slots := 0, locals := 144 } (wdPc D (xw c q) (xwT c) (wdA 36 q) ev σ [.ref (q 23), .ref (q 1)]) (va_Qi post (wdB D (xw c q)) (wdA 36 q)) 0 0 (wdA 36 q) := by
  refine Met.ofW (cc := cX6_leftBehindAll) (maxL := 2) (ret := (some .int)) (by decide) rfl ?_
  intro p e s m args below meth c₀ s₁ Bd hml hv
  obtain ⟨rfl, hP, hK, hD0, hE⟩ := hv
  have hx := Bd.exec
  have hb := Bd.bytes
  have hr := Bd.returns
  have hts := atoms_spec (ws := Cond.code yX6_leftBehindAll cX6_leftBehindAll 2 (some .int) :: tb_L) Bd.pre
  have htb : ∀ w ∈ tb_L, w.before [.ref (q 23), .ref (q 1)].toArray s = true := fun w h => hts w (List.mem_cons_of_mem _ h)
  have hown : s.vm.findClass RX6 = some m.cls := findClass_of_methodNamed Bd.named
  have hlocks := Bd.notSynchronized
  have hS : va_S (wdA 36 q) s.heap s.heap [] := va_S.rf
  have hD := hD0
  have hl := lv_entry ([.ref (q 23), .ref (q 1)]) (n := 2) (Nat.le_of_ble_eq_true rfl)
  rw [lg_entry_eq]
  generalize (lg_sl ([.ref (q 23), .ref (q 1)]) ++ List.replicate (2 - (lg_sl ([.ref (q 23), .ref (q 1)])).length) Slot.unset).toArray = ls at hl ⊢
  have hl : lv_has ls 2 [(0, .ref (q 23)), (1, .ref (q 1))] := hl
  unfold wX6_leftBehindAll at hw
  refine lv_aload_n hx hb dX6_leftBehindAll_0 rfl (lv_at hl 0 rfl) ?_
  refine lv_aload_n hx hb dX6_leftBehindAll_1 rfl (lv_at hl 1 rfl) ?_
  refine va_callv (va_runV (As := [.ref (q 1)]) (rest := []) ⟨hx, hb, hml, hown, htb⟩ (kcX6_learn_23_1 l D c q ev hev σ  _ hw) (tb_CW htb kX6_learn tb_985 tb_987 tb_35 ⟨Nat.le_of_ble_eq_true rfl, Nat.le_of_ble_eq_true rfl⟩) (wd_preV (wd := xw c q) (k := 23) hev hK hP hD hE hS (xw_23 c q σ) rfl) rfl rfl hl.1 rfl (lv_room (Nat.le_of_ble_eq_true rfl)) dX6_leftBehindAll_2 ⟨Nat.zero_le _, Nat.zero_le _⟩) hS (fun q _ h => h) (fun q h => h) (fun σ2 t H1 locs1 ht hvm hw hB hz1 hk1 hS => ?_)
  have hP : va_P D vwCl (xw c q σ2) H1 := ht ▸ hB
  have hD : va_D (wdA 36 q) (xw c q σ2) := xw_D hD0
  refine lv_aload_n hx hb dX6_leftBehindAll_5 rfl (lv_at hl 0 rfl) ?_
  refine va_get (D := D) (ci := 6) (C := RX6) (T := TX6) (N := 4) hx hb htb inX6 hown hK hP 23 (xw_23 c q σ2) rfl 3 (by decide) (htb _ tb_268) (fun _ h9 => h9) rfl dX6_leftBehindAll_6 ?_
  exact W.iret hx hb hr (fun t ht hW => ⟨⟨_, σ2, rfl, hw, by unfold wdB; rw [ht]; exact hP⟩, hS.F ht⟩) hS.2.2 dX6_leftBehindAll_9
def wX7_factorial (x0 : Int32) (post : Int32 → hsS → Prop) (σ : hsS) : Prop := ((x0 < (0 : Int32) → post (1 : Int32) σ) ∧ (¬ x0 < (0 : Int32) → (((10 : Int32) ≤ x0 → post (1 : Int32) σ) ∧ (¬ (10 : Int32) ≤ x0 → vp_in x0 10 ∧ post (if (1 : Int32) < (xfact x0.toNatClampNeg) then (xfact x0.toNatClampNeg) else (1 : Int32)) σ))))
set_option maxHeartbeats 4000000 in
set_option maxRecDepth 100000 in
theorem kcX7_factorial_x (l : Launch) (D : va_G) (c : Nat → ClassId) (q : Nat → Nat) (ev : State → Heap → Prop) (hev : evOK (wdA 36 q) ev) (tF : Nat) (hF : ∀ (U : State) (H : Heap), ev U H → va_Z "StrikeHall" "FACTORIALS" "[I" (.ref tF) (wdA 36 q) U H ∧ va_T .int tF 10 (fun j => .int (xfact j)) (wdA 36 q) U H) (σ : hsS) (x0 : Int32) (post : Int32 → hsS → Prop) (hw : wX7_factorial x0 post σ) : Met l yX7_factorial (Cond.code yX7_factorial cX7_factorial 1 (some .int) :: tb_L) { frames := 1, cells := 0, slots := 0, locals := 40 } (wdPc D (xw c q) (xwT c) (wdA 36 q) ev σ [.int x0]) (va_Qi post (wdB D (xw c q)) (wdA 36 q)) 0 0 (wdA 36 q) := by
  refine Met.ofW (cc := cX7_factorial) (maxL := 1) (ret := (some .int)) (by decide) rfl ?_
  intro p e s m args below meth c₀ s₁ Bd hml hv
  obtain ⟨rfl, hP, hK, hD0, hE⟩ := hv
  have hx := Bd.exec
  have hb := Bd.bytes
  have hr := Bd.returns
  have hts := atoms_spec (ws := Cond.code yX7_factorial cX7_factorial 1 (some .int) :: tb_L) Bd.pre
  have htb : ∀ w ∈ tb_L, w.before [.int x0].toArray s = true := fun w h => hts w (List.mem_cons_of_mem _ h)
  have hown : s.vm.findClass RX7 = some m.cls := findClass_of_methodNamed Bd.named
  have hlocks := Bd.notSynchronized
  have hS : va_S (wdA 36 q) s.heap s.heap [] := va_S.rf
  have hD := hD0
  have hl := lv_entry ([.int x0]) (n := 1) (Nat.le_of_ble_eq_true rfl)
  rw [lg_entry_eq]
  generalize (lg_sl ([.int x0]) ++ List.replicate (1 - (lg_sl ([.int x0])).length) Slot.unset).toArray = ls at hl ⊢
  have hl : lv_has ls 1 [(0, .int x0)] := hl
  unfold wX7_factorial at hw
  refine lv_iload_n hx hb dX7_factorial_0 rfl (lv_at hl 0 rfl) ?_
  refine lv_if_lt (tgt := 24) hx hb dX7_factorial_1 (by decide) (fun c1 => ?_) (fun c1 => ?_)
  · have hw := hw.1 c1
    refine lv_iconst (v := (1 : Int32)) hx hb dX7_factorial_24 (by decide) ?_
    exact W.iret hx hb hr (fun t ht hW => ⟨⟨_, σ, rfl, hw, by unfold wdB; rw [ht]; exact hP⟩, hS.F ht⟩) hS.2.2 dX7_factorial_25
  · have hw := hw.2 c1
    refine lv_iload_n hx hb dX7_factorial_4 rfl (lv_at hl 0 rfl) ?_
    refine va_gets hx hb (hF s s.heap hE).1 hS hown (htb _ tb_560) (fun _ h9 => h9) dX7_factorial_5 ?_
    refine va_tlen (v := 10) hx hb (hF s s.heap hE).2 hS (by decide) dX7_factorial_8 ?_
    refine lv_icmp_ge (tgt := 24) hx hb dX7_factorial_9 (by decide) (fun c2 => ?_) (fun c2 => ?_)
    · have hw := hw.1 c2
      refine lv_iconst (v := (1 : Int32)) hx hb dX7_factorial_24 (by decide) ?_
      exact W.iret hx hb hr (fun t ht hW => ⟨⟨_, σ, rfl, hw, by unfold wdB; rw [ht]; exact hP⟩, hS.F ht⟩) hS.2.2 dX7_factorial_25
    · have hw := hw.2 c2
      refine lv_iconst (v := (1 : Int32)) hx hb dX7_factorial_12 (by decide) ?_
      refine va_gets hx hb (hF s s.heap hE).1 hS hown (htb _ tb_560) (fun _ h9 => h9) dX7_factorial_13 ?_
      refine lv_iload_n hx hb dX7_factorial_16 rfl (lv_at hl 0 rfl) ?_
      refine va_ti hx hb (hF s s.heap hE).2 hS hw.1 rfl dX7_factorial_17 ?_
      have hw := hw.2
      refine va_mmax hx hb (hml.trans hl.1.symm) hown (htb _ tb_562) (htb _ tb_495) (htb _ tb_104) (htb _ tb_496) (Nat.le_of_ble_eq_true rfl) (Nat.le_of_ble_eq_true rfl) (Nat.zero_le _) (Nat.zero_le _) dX7_factorial_18 ?_
      refine lv_goto (tgt := 25) hx hb dX7_factorial_21 (by decide) ?_
      exact W.iret hx hb hr (fun t ht hW => ⟨⟨_, σ, rfl, hw, by unfold wdB; rw [ht]; exact hP⟩, hS.F ht⟩) hS.2.2 dX7_factorial_25
def wX6_rowsOf_L23 (b0 : Nat) (z1 : Int32) (z2 : Int32) (K52 : Int32 → Int32 → hsS → Prop) (post : Int32 → hsS → Prop) : Nat → Int32 → Int32 → hsS → Prop
  | 0, _, _, _ => False
  | n + 1, y3, y4, σ => (((σ.1 (64 * b0 + 6)) ≤ y4 → K52 y3 y4 σ) ∧ (¬ (σ.1 (64 * b0 + 6)) ≤ y4 → vp_in y4 8 ∧ (((σ.2.1 (b0 + 4) y4.toNatClampNeg) = z2 → ∀ v6 : Int32, v6 = y3 + (1 : Int32) → ∀ v7 : Int32, v7 = y4 + (1 : Int32) → wX6_rowsOf_L23 b0 z1 z2 K52 post n v6 v7 σ) ∧ (¬ (σ.2.1 (b0 + 4) y4.toNatClampNeg) = z2 → ∀ v8 : Int32, v8 = y4 + (1 : Int32) → wX6_rowsOf_L23 b0 z1 z2 K52 post n y3 v8 σ))))
def wX6_rowsOf_L10 (b0 : Nat) (K65 : Int32 → Int32 → hsS → Prop) (post : Int32 → hsS → Prop) : Nat → Int32 → Int32 → hsS → Prop
  | 0, _, _, _ => False
  | n + 1, y1, y2, σ => (((σ.1 (64 * b0 + 1)) ≤ y2 → K65 y1 y2 σ) ∧ (¬ (σ.1 (64 * b0 + 1)) ≤ y2 → ∃ n9, wX6_rowsOf_L23 b0 y1 y2 (fun v10 v11 σ12 => wX7_factorial v10 (fun r13 σ14 => ¬ r13 = 0 ∧ ∀ v15 : Int32, v15 = y1 / r13 → ∀ v16 : Int32, v16 = y2 + (1 : Int32) → wX6_rowsOf_L10 b0 K65 post n v15 v16 σ14) σ12) post n9 (0 : Int32) (0 : Int32) σ))
def wX6_rowsOf (b0 : Nat) (post : Int32 → hsS → Prop) (σ : hsS) : Prop := wX7_factorial (σ.1 (64 * b0 + 6)) (fun r1 σ2 => ∃ n17, wX6_rowsOf_L10 b0 (fun v18 v19 σ20 => post v18 σ20) post n17 r1 (0 : Int32) σ2) σ
set_option maxHeartbeats 4000000 in
set_option maxRecDepth 100000 in
theorem kcX6_rowsOf_1 (l : Launch) (D : va_G) (c : Nat → ClassId) (q : Nat → Nat) (ev : State → Heap → Prop) (hev : evOK (wdA 36 q) ev) (tF : Nat) (hF : ∀ (U : State) (H : Heap), ev U H → va_Z "StrikeHall" "FACTORIALS" "[I" (.ref tF) (wdA 36 q) U H ∧ va_T .int tF 10 (fun j => .int (xfact j)) (wdA 36 q) U H) (σ : hsS)  (post : Int32 → hsS → Prop) (hw : wX6_rowsOf 1 post σ) : Met l yX6_rowsOf (Cond.code yX6_rowsOf cX6_rowsOf 5 (some .int) :: tb_L) { frames := 2, cells := 0, slots := 0, locals := 60 } (wdPc D (xw c q) (xwT c) (wdA 36 q) ev σ [.ref (q 1)]) (va_Qi post (wdB D (xw c q)) (wdA 36 q)) 0 0 (wdA 36 q) := by
  refine Met.ofW (cc := cX6_rowsOf) (maxL := 5) (ret := (some .int)) (by decide) rfl ?_
  intro p e s m args below meth c₀ s₁ Bd hml hv
  obtain ⟨rfl, hP, hK, hD0, hE⟩ := hv
  have hx := Bd.exec
  have hb := Bd.bytes
  have hr := Bd.returns
  have hts := atoms_spec (ws := Cond.code yX6_rowsOf cX6_rowsOf 5 (some .int) :: tb_L) Bd.pre
  have htb : ∀ w ∈ tb_L, w.before [.ref (q 1)].toArray s = true := fun w h => hts w (List.mem_cons_of_mem _ h)
  have hown : s.vm.findClass RX6 = some m.cls := findClass_of_methodNamed Bd.named
  have hlocks := Bd.notSynchronized
  have hS : va_S (wdA 36 q) s.heap s.heap [] := va_S.rf
  have hD := hD0
  have L23 : ∀ (K52 : Int32 → Int32 → hsS → Prop) (z1 : Int32) (z2 : Int32) (n : Nat) (y3 : Int32) (y4 : Int32) (σ : hsS) (H : Heap) (locs : List Loc) (ls : Array Slot), wX6_rowsOf_L23 1 z1 z2 K52 post n y3 y4 σ → (∀ (y3 : Int32) (y4 : Int32) (σ : hsS) (H : Heap) (locs : List Loc) (ls : Array Slot), K52 y3 y4 σ → va_P D vwCl (xw c q σ) H → va_S (wdA 36 q) s.heap H locs → lv_has ls 5 [(0, .ref (q 1)), (1, .int z1), (2, .int z2), (3, .int y3), (4, .int y4)] → W p l e (headSpec (Cond.code yX6_rowsOf cX6_rowsOf 5 (some .int) :: tb_L) { frames := 2, cells := 0, slots := 0, locals := 60 }).room s m [.ref (q 1)].toArray below meth c₀ H locs 0 0 (MQ below (va_Qi post (wdB D (xw c q)) (wdA 36 q)) [.ref (q 1)].toArray s 0 0 (wdA 36 q)) (F0 m 52 ls [])) → va_P D vwCl (xw c q σ) H → va_S (wdA 36 q) s.heap H locs → lv_has ls 5 [(0, .ref (q 1)), (1, .int z1), (2, .int z2), (3, .int y3), (4, .int y4)] → W p l e (headSpec (Cond.code yX6_rowsOf cX6_rowsOf 5 (some .int) :: tb_L) { frames := 2, cells := 0, slots := 0, locals := 60 }).room s m [.ref (q 1)].toArray below meth c₀ H locs 0 0 (MQ below (va_Qi post (wdB D (xw c q)) (wdA 36 q)) [.ref (q 1)].toArray s 0 0 (wdA 36 q)) (F0 m 23 ls []) := by
    intro K52 z1 z2 n
    induction n with
    | zero =>
      intro y3 y4 σ H locs ls hw hk52 hP hS hl
      exact (show False from hw).elim
    | succ n ih =>
      intro y3 y4 σ H locs ls hw hk52 hP hS hl
      rw [wX6_rowsOf_L23] at hw
      have hD : va_D (wdA 36 q) (xw c q σ) := xw_D hD0
      refine lv_iload hx hb dX6_rowsOf_23 (lv_at hl 4 rfl) ?_
      refine lv_aload_n hx hb dX6_rowsOf_25 rfl (lv_at hl 0 rfl) ?_
      refine va_getN (D := D) (ci := 1) (C := RX1) (T := TX1) (N := 12) hx hb htb inX1 hown hK hP 1 (xw_1 c q σ) rfl 6 (by decide) (htb _ tb_150) (fun _ h9 => h9) rfl dX6_rowsOf_26 ?_
      refine lv_icmp_ge (tgt := 52) hx hb dX6_rowsOf_29 (by decide) (fun c4 => ?_) (fun c4 => ?_)
      · have hw := hw.1 c4
        exact hk52 y3 y4 σ _ _ _ hw hP hS (lv_sub hl [0, 1, 2, 3, 4] rfl)
      · have hw := hw.2 c4
        refine lv_aload_n hx hb dX6_rowsOf_32 rfl (lv_at hl 0 rfl) ?_
        refine va_getN (D := D) (ci := 1) (C := RX1) (T := TX1) (N := 12) hx hb htb inX1 hown hK hP 1 (xw_1 c q σ) rfl 11 (by decide) (htb _ tb_163) (fun _ h9 => h9) rfl dX6_rowsOf_33 ?_
        refine lv_iload hx hb dX6_rowsOf_36 (lv_at hl 4 rfl) ?_
        refine va_iald hx hb hK hP 5 3 (xw_5 c q σ) rfl hw.1 dX6_rowsOf_38 ?_
        have hw := hw.2
        refine lv_iload_n hx hb dX6_rowsOf_39 rfl (lv_at hl 2 rfl) ?_
        refine lv_icmp_ne (tgt := 46) hx hb dX6_rowsOf_40 (by decide) (fun c5 => ?_) (fun c5 => ?_)
        · have hw := hw.2 c5
          obtain ⟨v8, ev8⟩ : ∃ z : Int32, z = y4 + (1 : Int32) := ⟨_, rfl⟩
          have hw := hw v8 ev8
          refine lv_iinc (v := v8) (lv' := [(4, .int v8), (0, .ref (q 1)), (1, .int z1), (2, .int z2), (3, .int y3)]) hx hb dX6_rowsOf_46 hl (k := 4) rfl (by rw [ev8]; rfl) (by decide) rfl (fun ls hl => ?_)
          refine lv_goto (tgt := 23) hx hb dX6_rowsOf_49 (by decide) ?_
          exact ih y3 v8 σ _ _ _ hw hk52 hP hS (lv_sub hl [1, 2, 3, 4, 0] rfl)
        · have hw := hw.1 c5
          obtain ⟨v6, ev6⟩ : ∃ z : Int32, z = y3 + (1 : Int32) := ⟨_, rfl⟩
          have hw := hw v6 ev6
          refine lv_iinc (v := v6) (lv' := [(3, .int v6), (0, .ref (q 1)), (1, .int z1), (2, .int z2), (4, .int y4)]) hx hb dX6_rowsOf_43 hl (k := 3) rfl (by rw [ev6]; rfl) (by decide) rfl (fun ls hl => ?_)
          obtain ⟨v7, ev7⟩ : ∃ z : Int32, z = y4 + (1 : Int32) := ⟨_, rfl⟩
          have hw := hw v7 ev7
          refine lv_iinc (v := v7) (lv' := [(4, .int v7), (3, .int v6), (0, .ref (q 1)), (1, .int z1), (2, .int z2)]) hx hb dX6_rowsOf_46 hl (k := 4) rfl (by rw [ev7]; rfl) (by decide) rfl (fun ls hl => ?_)
          refine lv_goto (tgt := 23) hx hb dX6_rowsOf_49 (by decide) ?_
          exact ih v6 v7 σ _ _ _ hw hk52 hP hS (lv_sub hl [2, 3, 4, 1, 0] rfl)
  have L10 : ∀ (K65 : Int32 → Int32 → hsS → Prop) (n : Nat) (y1 : Int32) (y2 : Int32) (σ : hsS) (H : Heap) (locs : List Loc) (ls : Array Slot), wX6_rowsOf_L10 1 K65 post n y1 y2 σ → (∀ (y1 : Int32) (y2 : Int32) (σ : hsS) (H : Heap) (locs : List Loc) (ls : Array Slot), K65 y1 y2 σ → va_P D vwCl (xw c q σ) H → va_S (wdA 36 q) s.heap H locs → lv_has ls 5 [(0, .ref (q 1)), (1, .int y1), (2, .int y2)] → W p l e (headSpec (Cond.code yX6_rowsOf cX6_rowsOf 5 (some .int) :: tb_L) { frames := 2, cells := 0, slots := 0, locals := 60 }).room s m [.ref (q 1)].toArray below meth c₀ H locs 0 0 (MQ below (va_Qi post (wdB D (xw c q)) (wdA 36 q)) [.ref (q 1)].toArray s 0 0 (wdA 36 q)) (F0 m 65 ls [])) → va_P D vwCl (xw c q σ) H → va_S (wdA 36 q) s.heap H locs → lv_has ls 5 [(0, .ref (q 1)), (1, .int y1), (2, .int y2)] → W p l e (headSpec (Cond.code yX6_rowsOf cX6_rowsOf 5 (some .int) :: tb_L) { frames := 2, cells := 0, slots := 0, locals := 60 }).room s m [.ref (q 1)].toArray below meth c₀ H locs 0 0 (MQ below (va_Qi post (wdB D (xw c q)) (wdA 36 q)) [.ref (q 1)].toArray s 0 0 (wdA 36 q)) (F0 m 10 ls []) := by
    intro K65 n
    induction n with
    | zero =>
      intro y1 y2 σ H locs ls hw hk65 hP hS hl
      exact (show False from hw).elim
    | succ n ih =>
      intro y1 y2 σ H locs ls hw hk65 hP hS hl
      rw [wX6_rowsOf_L10] at hw
      have hD : va_D (wdA 36 q) (xw c q σ) := xw_D hD0
      refine lv_iload_n hx hb dX6_rowsOf_10 rfl (lv_at hl 2 rfl) ?_
      refine lv_aload_n hx hb dX6_rowsOf_11 rfl (lv_at hl 0 rfl) ?_
      refine va_getN (D := D) (ci := 1) (C := RX1) (T := TX1) (N := 12) hx hb htb inX1 hown hK hP 1 (xw_1 c q σ) rfl 1 (by decide) (htb _ tb_135) (fun _ h9 => h9) rfl dX6_rowsOf_12 ?_
      refine lv_icmp_ge (tgt := 65) hx hb dX6_rowsOf_15 (by decide) (fun c3 => ?_) (fun c3 => ?_)
      · have hw := hw.1 c3
        exact hk65 y1 y2 σ _ _ _ hw hP hS (lv_sub hl [0, 1, 2] rfl)
      · have hw := hw.2 c3
        refine lv_iconst (v := (0 : Int32)) hx hb dX6_rowsOf_18 (by decide) ?_
        refine lv_istore_n (lv' := [(3, .int (0 : Int32)), (0, .ref (q 1)), (1, .int y1), (2, .int y2)]) hx hb dX6_rowsOf_19 rfl hl (by decide) rfl (fun ls hl => ?_)
        refine lv_iconst (v := (0 : Int32)) hx hb dX6_rowsOf_20 (by decide) ?_
        refine lv_istore (lv' := [(4, .int (0 : Int32)), (3, .int (0 : Int32)), (0, .ref (q 1)), (1, .int y1), (2, .int y2)]) hx hb dX6_rowsOf_21 hl (by decide) rfl (fun ls hl => ?_)
        obtain ⟨n9, hw⟩ := hw
        refine L23 _ y1 y2 n9 (0 : Int32) (0 : Int32) σ _ _ _ hw ?_ hP hS (lv_sub hl [2, 3, 4, 1, 0] rfl)
        intro v10 v11 σ12 H locs ls hw hP hS hl
        have hD : va_D (wdA 36 q) (xw c q σ12) := xw_D hD0
        refine lv_iload_n hx hb dX6_rowsOf_52 rfl (lv_at hl 1 rfl) ?_
        refine lv_iload_n hx hb dX6_rowsOf_53 rfl (lv_at hl 3 rfl) ?_
        refine va_calli (va_runSN (As := [.int v10]) (rest := [.int y1]) ⟨hx, hb, hml, hown, htb⟩ (kcX7_factorial_x l D c q ev hev tF hF σ12 v10 _ hw) (⟨tb_CN htb kX7_factorial tb_1014 ⟨Nat.le_of_ble_eq_true rfl, Nat.le_of_ble_eq_true rfl⟩, htb _ tb_558, trivial⟩) (wd_preS (wd := xw c q) hev hK hP hD hE hS) rfl rfl hl.1 rfl (lv_room (Nat.le_of_ble_eq_true rfl)) dX6_rowsOf_54 ⟨Nat.zero_le _, Nat.zero_le _⟩) hS (fun q _ h => h) (fun q h => h) (fun r13 σ14 t H1 locs1 ht hvm hw hB hz1 hk1 hS => ?_)
        have hP : va_P D vwCl (xw c q σ14) H1 := ht ▸ hB
        have hD : va_D (wdA 36 q) (xw c q σ14) := xw_D hD0
        refine lv_idiv hx hb dX6_rowsOf_57 hw.1 ?_
        have hw := hw.2
        refine lv_topi (fun v15 ev15 => ?_)
        have hw := hw v15 ev15
        refine lv_istore_n (lv' := [(1, .int v15), (0, .ref (q 1)), (2, .int y2), (3, .int v10), (4, .int v11)]) hx hb dX6_rowsOf_58 rfl hl (by decide) rfl (fun ls hl => ?_)
        obtain ⟨v16, ev16⟩ : ∃ z : Int32, z = y2 + (1 : Int32) := ⟨_, rfl⟩
        have hw := hw v16 ev16
        refine lv_iinc (v := v16) (lv' := [(2, .int v16), (1, .int v15), (0, .ref (q 1)), (3, .int v10), (4, .int v11)]) hx hb dX6_rowsOf_59 hl (k := 2) rfl (by rw [ev16]; rfl) (by decide) rfl (fun ls hl => ?_)
        refine lv_goto (tgt := 10) hx hb dX6_rowsOf_62 (by decide) ?_
        exact ih v15 v16 σ14 _ _ _ hw hk65 hP hS (lv_sub hl [2, 1, 0] rfl)
  have hl := lv_entry ([.ref (q 1)]) (n := 5) (Nat.le_of_ble_eq_true rfl)
  rw [lg_entry_eq]
  generalize (lg_sl ([.ref (q 1)]) ++ List.replicate (5 - (lg_sl ([.ref (q 1)])).length) Slot.unset).toArray = ls at hl ⊢
  have hl : lv_has ls 5 [(0, .ref (q 1))] := hl
  unfold wX6_rowsOf at hw
  refine lv_aload_n hx hb dX6_rowsOf_0 rfl (lv_at hl 0 rfl) ?_
  refine va_getN (D := D) (ci := 1) (C := RX1) (T := TX1) (N := 12) hx hb htb inX1 hown hK hP 1 (xw_1 c q σ) rfl 6 (by decide) (htb _ tb_150) (fun _ h9 => h9) rfl dX6_rowsOf_1 ?_
  refine va_calli (va_runSN (As := [.int (σ.1 70)]) (rest := []) ⟨hx, hb, hml, hown, htb⟩ (kcX7_factorial_x l D c q ev hev tF hF σ (σ.1 70) _ hw) (⟨tb_CN htb kX7_factorial tb_1014 ⟨Nat.le_of_ble_eq_true rfl, Nat.le_of_ble_eq_true rfl⟩, htb _ tb_558, trivial⟩) (wd_preS (wd := xw c q) hev hK hP hD hE hS) rfl rfl hl.1 rfl (lv_room (Nat.le_of_ble_eq_true rfl)) dX6_rowsOf_4 ⟨Nat.zero_le _, Nat.zero_le _⟩) hS (fun q _ h => h) (fun q h => h) (fun r1 σ2 t H1 locs1 ht hvm hw hB hz1 hk1 hS => ?_)
  have hP : va_P D vwCl (xw c q σ2) H1 := ht ▸ hB
  have hD : va_D (wdA 36 q) (xw c q σ2) := xw_D hD0
  refine lv_istore_n (lv' := [(1, .int r1), (0, .ref (q 1))]) hx hb dX6_rowsOf_7 rfl hl (by decide) rfl (fun ls hl => ?_)
  refine lv_iconst (v := (0 : Int32)) hx hb dX6_rowsOf_8 (by decide) ?_
  refine lv_istore_n (lv' := [(2, .int (0 : Int32)), (1, .int r1), (0, .ref (q 1))]) hx hb dX6_rowsOf_9 rfl hl (by decide) rfl (fun ls hl => ?_)
  obtain ⟨n17, hw⟩ := hw
  refine L10 _ n17 r1 (0 : Int32) σ2 _ _ _ hw ?_ hP hS (lv_sub hl [2, 1, 0] rfl)
  intro v18 v19 σ20 H locs ls hw hP hS hl
  have hD : va_D (wdA 36 q) (xw c q σ20) := xw_D hD0
  refine lv_iload_n hx hb dX6_rowsOf_65 rfl (lv_at hl 1 rfl) ?_
  exact W.iret hx hb hr (fun t ht hW => ⟨⟨_, σ20, rfl, hw, by unfold wdB; rw [ht]; exact hP⟩, hS.F ht⟩) hS.2.2 dX6_rowsOf_66
def wX7_rows (x1 : Int32) (post : Int32 → hsS → Prop) (px : hsS → Prop) (σ : hsS) : Prop := ((x1 = (0 : Int32) → wX6_leftBehindSome 23 1 (fun r1 σ2 => post r1 σ2) σ) ∧ (¬ x1 = (0 : Int32) → ((x1 = (1 : Int32) → wX6_leftBehindAll 23 1 (fun r4 σ5 => post r4 σ5) σ) ∧ (¬ x1 = (1 : Int32) → ((x1 = (2 : Int32) → wX6_rowsOf 1 (fun r7 σ8 => post r7 σ8) σ) ∧ (¬ x1 = (2 : Int32) → px σ))))))
set_option maxHeartbeats 4000000 in
set_option maxRecDepth 100000 in
theorem kcX7_rows (l : Launch) (D : va_G) (c : Nat → ClassId) (q : Nat → Nat) (ev : State → Heap → Prop) (hev : evOK (wdA 36 q) ev) (tF : Nat) (hF : ∀ (U : State) (H : Heap), ev U H → va_Z "StrikeHall" "FACTORIALS" "[I" (.ref tF) (wdA 36 q) U H ∧ va_T .int tF 10 (fun j => .int (xfact j)) (wdA 36 q) U H) (hst : l.stackTraces = false) (hX : ∀ (U : State) (H : Heap), ev U H → evT (wdA 36 q) U H) (σ : hsS) (x1 : Int32) (post : Int32 → hsS → Prop) (px : hsS → Prop) (hw : wX7_rows x1 post px σ) : vx_Met l yX7_rows (Cond.code yX7_rows cX7_rows 2 (some .int) :: tb_L) { frames := 8, cells := 1, slots := 6, locals := 165 } (wdPc D (xw c q) (xwT c) (wdA 36 q) ev σ [.ref (q 0), .int x1]) (va_Qi post (wdB D (xw c q)) (wdA 36 q)) (vx_X px (xpB D (xw c q) "java/util/NoSuchElementException") (wdA 36 q)) 1 6 (wdA 36 q) := by
  refine vx_ofW (cc := cX7_rows) (maxL := 2) (ret := (some .int)) (by decide) rfl ?_
  intro p e s m args below meth c₀ s₁ Bd hml htab hv
  obtain ⟨rfl, hP, hK, hD0, hE⟩ := hv
  have hx := Bd.exec
  have hb := Bd.bytes
  have hr := Bd.returns
  have hts := atoms_spec (ws := Cond.code yX7_rows cX7_rows 2 (some .int) :: tb_L) Bd.pre
  have htb : ∀ w ∈ tb_L, w.before [.ref (q 0), .int x1].toArray s = true := fun w h => hts w (List.mem_cons_of_mem _ h)
  have hown : s.vm.findClass RX7 = some m.cls := findClass_of_methodNamed Bd.named
  have hlocks := Bd.notSynchronized
  have hS : va_S (wdA 36 q) s.heap s.heap [] := va_S.rf
  have hD := hD0
  have hl := lv_entry ([.ref (q 0), .int x1]) (n := 2) (Nat.le_of_ble_eq_true rfl)
  rw [lg_entry_eq]
  generalize (lg_sl ([.ref (q 0), .int x1]) ++ List.replicate (2 - (lg_sl ([.ref (q 0), .int x1])).length) Slot.unset).toArray = ls at hl ⊢
  have hl : lv_has ls 2 [(0, .ref (q 0)), (1, .int x1)] := hl
  unfold wX7_rows at hw
  refine lv_iload_n hx hb dX7_rows_0 rfl (lv_at hl 1 rfl) ?_
  by_cases c3 : x1 = (0 : Int32)
  · have hw := hw.1 c3
    refine lv_tableIn (off := 27) (tgt := 28) hx hb dX7_rows_1 (by rw [c3]; decide) (by rw [c3]; decide) (by rw [c3]; rfl) (by decide) ?_
    refine lv_aload_n hx hb dX7_rows_28 rfl (lv_at hl 0 rfl) ?_
    refine va_get (D := D) (ci := 7) (C := RX7) (T := TX7) (N := 9) hx hb htb inX7 hown hK hP 0 (xw_0 c q σ) rfl 5 (by decide) (htb _ tb_347) (fun _ h9 => h9) rfl dX7_rows_29 ?_
    refine lv_aload_n hx hb dX7_rows_32 rfl (lv_at hl 0 rfl) ?_
    refine va_get (D := D) (ci := 7) (C := RX7) (T := TX7) (N := 9) hx hb htb inX7 hown hK hP 0 (xw_0 c q σ) rfl 0 (by decide) (htb _ tb_342) (fun _ h9 => h9) rfl dX7_rows_33 ?_
    refine va_calli (va_runV (As := [.ref (q 1)]) (rest := []) ⟨hx, hb, hml, hown, htb⟩ (kcX6_leftBehindSome_23_1 l D c q ev hev σ  _ hw) (tb_CW htb kX6_leftBehindSome tb_981 tb_982 tb_983 ⟨Nat.le_of_ble_eq_true rfl, Nat.le_of_ble_eq_true rfl⟩) (wd_preV (wd := xw c q) (k := 23) hev hK hP hD hE hS (xw_23 c q σ) rfl) rfl rfl hl.1 rfl (lv_room (Nat.le_of_ble_eq_true rfl)) dX7_rows_36 ⟨Nat.le_of_ble_eq_true rfl, Nat.le_of_ble_eq_true rfl⟩) hS (fun q _ h => h) (fun q h => h) (fun r1 σ2 t H1 locs1 ht hvm hw hB hz1 hk1 hS => ?_)
    have hP : va_P D vwCl (xw c q σ2) H1 := ht ▸ hB
    have hD : va_D (wdA 36 q) (xw c q σ2) := xw_D hD0
    exact vx_ret (W.widen (k := 1) (n := 6) (Nat.le_of_ble_eq_true rfl) (Nat.le_of_ble_eq_true rfl) (W.iret hx hb hr (fun t ht hW => ⟨⟨_, σ2, rfl, hw, by unfold wdB; rw [ht]; exact hP⟩, hS.F ht⟩) hS.2.2 dX7_rows_39))
  · have hw := hw.2 c3
    by_cases c6 : x1 = (1 : Int32)
    · have hw := hw.1 c6
      refine lv_tableIn (off := 39) (tgt := 40) hx hb dX7_rows_1 (by rw [c6]; decide) (by rw [c6]; decide) (by rw [c6]; rfl) (by decide) ?_
      refine lv_aload_n hx hb dX7_rows_40 rfl (lv_at hl 0 rfl) ?_
      refine va_get (D := D) (ci := 7) (C := RX7) (T := TX7) (N := 9) hx hb htb inX7 hown hK hP 0 (xw_0 c q σ) rfl 5 (by decide) (htb _ tb_347) (fun _ h9 => h9) rfl dX7_rows_41 ?_
      refine lv_aload_n hx hb dX7_rows_44 rfl (lv_at hl 0 rfl) ?_
      refine va_get (D := D) (ci := 7) (C := RX7) (T := TX7) (N := 9) hx hb htb inX7 hown hK hP 0 (xw_0 c q σ) rfl 0 (by decide) (htb _ tb_342) (fun _ h9 => h9) rfl dX7_rows_45 ?_
      refine va_calli (va_runV (As := [.ref (q 1)]) (rest := []) ⟨hx, hb, hml, hown, htb⟩ (kcX6_leftBehindAll_23_1 l D c q ev hev σ  _ hw) (tb_CW htb kX6_leftBehindAll tb_1007 tb_1008 tb_1009 ⟨Nat.le_of_ble_eq_true rfl, Nat.le_of_ble_eq_true rfl⟩) (wd_preV (wd := xw c q) (k := 23) hev hK hP hD hE hS (xw_23 c q σ) rfl) rfl rfl hl.1 rfl (lv_room (Nat.le_of_ble_eq_true rfl)) dX7_rows_48 ⟨Nat.le_of_ble_eq_true rfl, Nat.le_of_ble_eq_true rfl⟩) hS (fun q _ h => h) (fun q h => h) (fun r4 σ5 t H1 locs1 ht hvm hw hB hz1 hk1 hS => ?_)
      have hP : va_P D vwCl (xw c q σ5) H1 := ht ▸ hB
      have hD : va_D (wdA 36 q) (xw c q σ5) := xw_D hD0
      exact vx_ret (W.widen (k := 1) (n := 6) (Nat.le_of_ble_eq_true rfl) (Nat.le_of_ble_eq_true rfl) (W.iret hx hb hr (fun t ht hW => ⟨⟨_, σ5, rfl, hw, by unfold wdB; rw [ht]; exact hP⟩, hS.F ht⟩) hS.2.2 dX7_rows_51))
    · have hw := hw.2 c6
      by_cases c9 : x1 = (2 : Int32)
      · have hw := hw.1 c9
        refine lv_tableIn (off := 51) (tgt := 52) hx hb dX7_rows_1 (by rw [c9]; decide) (by rw [c9]; decide) (by rw [c9]; rfl) (by decide) ?_
        refine lv_aload_n hx hb dX7_rows_52 rfl (lv_at hl 0 rfl) ?_
        refine va_get (D := D) (ci := 7) (C := RX7) (T := TX7) (N := 9) hx hb htb inX7 hown hK hP 0 (xw_0 c q σ) rfl 0 (by decide) (htb _ tb_342) (fun _ h9 => h9) rfl dX7_rows_53 ?_
        refine va_calli (va_runS (As := [.ref (q 1)]) (rest := []) ⟨hx, hb, hml, hown, htb⟩ (kcX6_rowsOf_1 l D c q ev hev tF hF σ  _ hw) (tb_CS htb kX6_rowsOf tb_1011 tb_1012 ⟨Nat.le_of_ble_eq_true rfl, Nat.le_of_ble_eq_true rfl⟩) (wd_preS (wd := xw c q) hev hK hP hD hE hS) rfl rfl hl.1 rfl (lv_room (Nat.le_of_ble_eq_true rfl)) dX7_rows_56 ⟨Nat.le_of_ble_eq_true rfl, Nat.le_of_ble_eq_true rfl⟩) hS (fun q _ h => h) (fun q h => h) (fun r7 σ8 t H1 locs1 ht hvm hw hB hz1 hk1 hS => ?_)
        have hP : va_P D vwCl (xw c q σ8) H1 := ht ▸ hB
        have hD : va_D (wdA 36 q) (xw c q σ8) := xw_D hD0
        exact vx_ret (W.widen (k := 1) (n := 6) (Nat.le_of_ble_eq_true rfl) (Nat.le_of_ble_eq_true rfl) (W.iret hx hb hr (fun t ht hW => ⟨⟨_, σ8, rfl, hw, by unfold wdB; rw [ht]; exact hP⟩, hS.F ht⟩) hS.2.2 dX7_rows_59))
      · have hw := hw.2 c9
        have hz : ¬ (x1).toInt = 0 ∧ ¬ (x1).toInt = 1 ∧ ¬ (x1).toInt = 2 := by
          exact ⟨lv_neT (a := 0) c3 rfl, lv_neT (a := 1) c6 rfl, lv_neT (a := 2) c9 rfl⟩
        refine lv_tableOut (tgt := 60) hx hb dX7_rows_1 (by omega) (by decide) ?_
        obtain ⟨hU9, hN9, hF9, hR9⟩ := hX s s.heap hE
        obtain ⟨sa9, hsa9⟩ := hR9 (199, "no such answer about rows") (by decide)
        exact xt_throwS hx hb hst (own := "StrikeHall") (cls := "java/util/NoSuchElementException") (text := "no such answer about rows") (names := ["java/lang/Exception"]) (ix := 13) (rx := xt_rx) (Yc := "java/lang/RuntimeException") hown (by decide) (by decide) (by decide +kernel) (by decide +kernel) (by decide +kernel) (by decide +kernel) (by decide) (htb _ tb_883) (htb _ tb_111) hsa9 (hat_NSE htb hF9) hot_NSE hU9 hN9 hS (hl.1.trans hml.symm) dX7_rows_60 dX7_rows_63 dX7_rows_64 dX7_rows_66 dX7_rows_69 (fun x h => (htab x h).elim) (Nat.le_of_ble_eq_true rfl) (Nat.le_of_ble_eq_true rfl) (Nat.le_of_ble_eq_true rfl) (Nat.le_of_ble_eq_true rfl) hlocks (fun t hvm hsz hk => ⟨σ, hw, ⟨rfl, wd_grow hP hk⟩, wd_F hS hsz hk⟩) hS.2.2 (Nat.le_of_ble_eq_true rfl) (Nat.le_of_ble_eq_true rfl)
def wX1_greatestPlace_L5 (b0 : Nat) (z1 : Int32) (z2 : Int32) (K42 : Int32 → Int32 → hsS → Prop) (post : Int32 → hsS → Prop) : Nat → Int32 → Int32 → hsS → Prop
  | 0, _, _, _ => False
  | n + 1, y3, y4, σ => (((σ.1 (64 * b0 + 0)) ≤ y4 → K42 y3 y4 σ) ∧ (¬ (σ.1 (64 * b0 + 0)) ≤ y4 → ((((z2 >>> (y4 &&& 31)) &&& (1 : Int32)) = (1 : Int32) → wX1_placeOf b0 z1 y4 (fun r3 σ4 => ∀ v5 : Int32, v5 = (if y3 < r3 then r3 else y3) → ∀ v6 : Int32, v6 = y4 + (1 : Int32) → wX1_greatestPlace_L5 b0 z1 z2 K42 post n v5 v6 σ4) σ) ∧ (¬ ((z2 >>> (y4 &&& 31)) &&& (1 : Int32)) = (1 : Int32) → ∀ v7 : Int32, v7 = y4 + (1 : Int32) → wX1_greatestPlace_L5 b0 z1 z2 K42 post n y3 v7 σ))))
def wX1_greatestPlace (b0 : Nat) (x1 : Int32) (x2 : Int32) (post : Int32 → hsS → Prop) (σ : hsS) : Prop := ∃ n8, wX1_greatestPlace_L5 b0 x1 x2 (fun v9 v10 σ11 => post v9 σ11) post n8 (0 : Int32) (0 : Int32) σ
set_option maxHeartbeats 4000000 in
set_option maxRecDepth 100000 in
theorem kcX1_greatestPlace_1 (l : Launch) (D : va_G) (c : Nat → ClassId) (q : Nat → Nat) (ev : State → Heap → Prop) (hev : evOK (wdA 36 q) ev) (σ : hsS) (x1 : Int32) (x2 : Int32) (post : Int32 → hsS → Prop) (hw : wX1_greatestPlace 1 x1 x2 post σ) : Met l yX1_greatestPlace (Cond.code yX1_greatestPlace cX1_greatestPlace 5 (some .int) :: tb_L) { frames := 1, cells := 0, slots := 0, locals := 40 } (wdPc D (xw c q) (xwT c) (wdA 36 q) ev σ [.ref (q 1), .int x1, .int x2]) (va_Qi post (wdB D (xw c q)) (wdA 36 q)) 0 0 (wdA 36 q) := by
  refine Met.ofW (cc := cX1_greatestPlace) (maxL := 5) (ret := (some .int)) (by decide) rfl ?_
  intro p e s m args below meth c₀ s₁ Bd hml hv
  obtain ⟨rfl, hP, hK, hD0, hE⟩ := hv
  have hx := Bd.exec
  have hb := Bd.bytes
  have hr := Bd.returns
  have hts := atoms_spec (ws := Cond.code yX1_greatestPlace cX1_greatestPlace 5 (some .int) :: tb_L) Bd.pre
  have htb : ∀ w ∈ tb_L, w.before [.ref (q 1), .int x1, .int x2].toArray s = true := fun w h => hts w (List.mem_cons_of_mem _ h)
  have hown : s.vm.findClass RX1 = some m.cls := findClass_of_methodNamed Bd.named
  have hlocks := Bd.notSynchronized
  have hS : va_S (wdA 36 q) s.heap s.heap [] := va_S.rf
  have hD := hD0
  have L5 : ∀ (K42 : Int32 → Int32 → hsS → Prop) (z1 : Int32) (z2 : Int32) (n : Nat) (y3 : Int32) (y4 : Int32) (σ : hsS) (H : Heap) (locs : List Loc) (ls : Array Slot), wX1_greatestPlace_L5 1 z1 z2 K42 post n y3 y4 σ → (∀ (y3 : Int32) (y4 : Int32) (σ : hsS) (H : Heap) (locs : List Loc) (ls : Array Slot), K42 y3 y4 σ → va_P D vwCl (xw c q σ) H → va_S (wdA 36 q) s.heap H locs → lv_has ls 5 [(0, .ref (q 1)), (1, .int z1), (2, .int z2), (3, .int y3), (4, .int y4)] → W p l e (headSpec (Cond.code yX1_greatestPlace cX1_greatestPlace 5 (some .int) :: tb_L) { frames := 1, cells := 0, slots := 0, locals := 40 }).room s m [.ref (q 1), .int x1, .int x2].toArray below meth c₀ H locs 0 0 (MQ below (va_Qi post (wdB D (xw c q)) (wdA 36 q)) [.ref (q 1), .int x1, .int x2].toArray s 0 0 (wdA 36 q)) (F0 m 42 ls [])) → va_P D vwCl (xw c q σ) H → va_S (wdA 36 q) s.heap H locs → lv_has ls 5 [(0, .ref (q 1)), (1, .int z1), (2, .int z2), (3, .int y3), (4, .int y4)] → W p l e (headSpec (Cond.code yX1_greatestPlace cX1_greatestPlace 5 (some .int) :: tb_L) { frames := 1, cells := 0, slots := 0, locals := 40 }).room s m [.ref (q 1), .int x1, .int x2].toArray below meth c₀ H locs 0 0 (MQ below (va_Qi post (wdB D (xw c q)) (wdA 36 q)) [.ref (q 1), .int x1, .int x2].toArray s 0 0 (wdA 36 q)) (F0 m 5 ls []) := by
    intro K42 z1 z2 n
    induction n with
    | zero =>
      intro y3 y4 σ H locs ls hw hk42 hP hS hl
      exact (show False from hw).elim
    | succ n ih =>
      intro y3 y4 σ H locs ls hw hk42 hP hS hl
      rw [wX1_greatestPlace_L5] at hw
      have hD : va_D (wdA 36 q) (xw c q σ) := xw_D hD0
      refine lv_iload hx hb dX1_greatestPlace_5 (lv_at hl 4 rfl) ?_
      refine lv_aload_n hx hb dX1_greatestPlace_7 rfl (lv_at hl 0 rfl) ?_
      refine va_get (D := D) (ci := 1) (C := RX1) (T := TX1) (N := 12) hx hb htb inX1 hown hK hP 1 (xw_1 c q σ) rfl 0 (by decide) (htb _ tb_126) (fun _ h9 => h9) rfl dX1_greatestPlace_8 ?_
      refine lv_icmp_ge (tgt := 42) hx hb dX1_greatestPlace_11 (by decide) (fun c1 => ?_) (fun c1 => ?_)
      · have hw := hw.1 c1
        exact hk42 y3 y4 σ _ _ _ hw hP hS (lv_sub hl [0, 1, 2, 3, 4] rfl)
      · have hw := hw.2 c1
        refine lv_iload_n hx hb dX1_greatestPlace_14 rfl (lv_at hl 2 rfl) ?_
        refine lv_iload hx hb dX1_greatestPlace_15 (lv_at hl 4 rfl) ?_
        refine lv_ishr hx hb dX1_greatestPlace_17 ?_
        refine lv_iconst (v := (1 : Int32)) hx hb dX1_greatestPlace_18 (by decide) ?_
        refine lv_iand hx hb dX1_greatestPlace_19 ?_
        refine lv_iconst (v := (1 : Int32)) hx hb dX1_greatestPlace_20 (by decide) ?_
        refine lv_icmp_ne (tgt := 36) hx hb dX1_greatestPlace_21 (by decide) (fun c2 => ?_) (fun c2 => ?_)
        · have hw := hw.2 c2
          obtain ⟨v7, ev7⟩ : ∃ z : Int32, z = y4 + (1 : Int32) := ⟨_, rfl⟩
          have hw := hw v7 ev7
          refine lv_iinc (v := v7) (lv' := [(4, .int v7), (0, .ref (q 1)), (1, .int z1), (2, .int z2), (3, .int y3)]) hx hb dX1_greatestPlace_36 hl (k := 4) rfl (by rw [ev7]; rfl) (by decide) rfl (fun ls hl => ?_)
          refine lv_goto (tgt := 5) hx hb dX1_greatestPlace_39 (by decide) ?_
          exact ih y3 v7 σ _ _ _ hw hk42 hP hS (lv_sub hl [1, 2, 3, 4, 0] rfl)
        · have hw := hw.1 c2
          refine lv_iload_n hx hb dX1_greatestPlace_24 rfl (lv_at hl 3 rfl) ?_
          refine lv_aload_n hx hb dX1_greatestPlace_25 rfl (lv_at hl 0 rfl) ?_
          refine lv_iload_n hx hb dX1_greatestPlace_26 rfl (lv_at hl 1 rfl) ?_
          refine lv_iload hx hb dX1_greatestPlace_27 (lv_at hl 4 rfl) ?_
          refine va_calli (va_runV (As := [.int z1, .int y4]) (rest := [.int y3]) ⟨hx, hb, hml, hown, htb⟩ (kcX1_placeOf_1 l D c q ev hev σ z1 y4 _ hw) (tb_CW htb kX1_placeOf tb_445 tb_446 tb_447 ⟨Nat.le_of_ble_eq_true rfl, Nat.le_of_ble_eq_true rfl⟩) (wd_preV (wd := xw c q) (k := 1) hev hK hP hD hE hS (xw_1 c q σ) rfl) rfl rfl hl.1 rfl (lv_room (Nat.le_of_ble_eq_true rfl)) dX1_greatestPlace_29 ⟨Nat.zero_le _, Nat.zero_le _⟩) hS (fun q _ h => h) (fun q h => h) (fun r3 σ4 t H1 locs1 ht hvm hw hB hz1 hk1 hS => ?_)
          have hP : va_P D vwCl (xw c q σ4) H1 := ht ▸ hB
          have hD : va_D (wdA 36 q) (xw c q σ4) := xw_D hD0
          refine va_mmax hx hb (hml.trans hl.1.symm) hown (htb _ tb_494) (htb _ tb_495) (htb _ tb_104) (htb _ tb_496) (Nat.le_of_ble_eq_true rfl) (Nat.le_of_ble_eq_true rfl) (Nat.zero_le _) (Nat.zero_le _) dX1_greatestPlace_32 ?_
          refine lv_topi (fun v5 ev5 => ?_)
          have hw := hw v5 ev5
          refine lv_istore_n (lv' := [(3, .int v5), (0, .ref (q 1)), (1, .int z1), (2, .int z2), (4, .int y4)]) hx hb dX1_greatestPlace_35 rfl hl (by decide) rfl (fun ls hl => ?_)
          obtain ⟨v6, ev6⟩ : ∃ z : Int32, z = y4 + (1 : Int32) := ⟨_, rfl⟩
          have hw := hw v6 ev6
          refine lv_iinc (v := v6) (lv' := [(4, .int v6), (3, .int v5), (0, .ref (q 1)), (1, .int z1), (2, .int z2)]) hx hb dX1_greatestPlace_36 hl (k := 4) rfl (by rw [ev6]; rfl) (by decide) rfl (fun ls hl => ?_)
          refine lv_goto (tgt := 5) hx hb dX1_greatestPlace_39 (by decide) ?_
          exact ih v5 v6 σ4 _ _ _ hw hk42 hP hS (lv_sub hl [2, 3, 4, 1, 0] rfl)
  have hl := lv_entry ([.ref (q 1), .int x1, .int x2]) (n := 5) (Nat.le_of_ble_eq_true rfl)
  rw [lg_entry_eq]
  generalize (lg_sl ([.ref (q 1), .int x1, .int x2]) ++ List.replicate (5 - (lg_sl ([.ref (q 1), .int x1, .int x2])).length) Slot.unset).toArray = ls at hl ⊢
  have hl : lv_has ls 5 [(0, .ref (q 1)), (1, .int x1), (2, .int x2)] := hl
  unfold wX1_greatestPlace at hw
  refine lv_iconst (v := (0 : Int32)) hx hb dX1_greatestPlace_0 (by decide) ?_
  refine lv_istore_n (lv' := [(3, .int (0 : Int32)), (0, .ref (q 1)), (1, .int x1), (2, .int x2)]) hx hb dX1_greatestPlace_1 rfl hl (by decide) rfl (fun ls hl => ?_)
  refine lv_iconst (v := (0 : Int32)) hx hb dX1_greatestPlace_2 (by decide) ?_
  refine lv_istore (lv' := [(4, .int (0 : Int32)), (3, .int (0 : Int32)), (0, .ref (q 1)), (1, .int x1), (2, .int x2)]) hx hb dX1_greatestPlace_3 hl (by decide) rfl (fun ls hl => ?_)
  obtain ⟨n8, hw⟩ := hw
  refine L5 _ x1 x2 n8 (0 : Int32) (0 : Int32) σ _ _ _ hw ?_ hP hS (lv_sub hl [2, 3, 4, 1, 0] rfl)
  intro v9 v10 σ11 H locs ls hw hP hS hl
  have hD : va_D (wdA 36 q) (xw c q σ11) := xw_D hD0
  refine lv_iload_n hx hb dX1_greatestPlace_42 rfl (lv_at hl 3 rfl) ?_
  exact W.iret hx hb hr (fun t ht hW => ⟨⟨_, σ11, rfl, hw, by unfold wdB; rw [ht]; exact hP⟩, hS.F ht⟩) hS.2.2 dX1_greatestPlace_43
def wX1_sumOfPlaces_L5 (b0 : Nat) (z1 : Int32) (z2 : Int32) (K40 : Int32 → Int32 → hsS → Prop) (post : Int32 → hsS → Prop) : Nat → Int32 → Int32 → hsS → Prop
  | 0, _, _, _ => False
  | n + 1, y3, y4, σ => (((σ.1 (64 * b0 + 0)) ≤ y4 → K40 y3 y4 σ) ∧ (¬ (σ.1 (64 * b0 + 0)) ≤ y4 → ((((z2 >>> (y4 &&& 31)) &&& (1 : Int32)) = (1 : Int32) → wX1_placeOf b0 z1 y4 (fun r3 σ4 => ∀ v5 : Int32, v5 = y3 + r3 → ∀ v6 : Int32, v6 = y4 + (1 : Int32) → wX1_sumOfPlaces_L5 b0 z1 z2 K40 post n v5 v6 σ4) σ) ∧ (¬ ((z2 >>> (y4 &&& 31)) &&& (1 : Int32)) = (1 : Int32) → ∀ v7 : Int32, v7 = y4 + (1 : Int32) → wX1_sumOfPlaces_L5 b0 z1 z2 K40 post n y3 v7 σ))))
def wX1_sumOfPlaces (b0 : Nat) (x1 : Int32) (x2 : Int32) (post : Int32 → hsS → Prop) (σ : hsS) : Prop := ∃ n8, wX1_sumOfPlaces_L5 b0 x1 x2 (fun v9 v10 σ11 => post v9 σ11) post n8 (0 : Int32) (0 : Int32) σ
set_option maxHeartbeats 4000000 in
set_option maxRecDepth 100000 in
theorem kcX1_sumOfPlaces_1 (l : Launch) (D : va_G) (c : Nat → ClassId) (q : Nat → Nat) (ev : State → Heap → Prop) (hev : evOK (wdA 36 q) ev) (σ : hsS) (x1 : Int32) (x2 : Int32) (post : Int32 → hsS → Prop) (hw : wX1_sumOfPlaces 1 x1 x2 post σ) : Met l yX1_sumOfPlaces (Cond.code yX1_sumOfPlaces cX1_sumOfPlaces 5 (some .int) :: tb_L) { frames := 1, cells := 0, slots := 0, locals := 22 } (wdPc D (xw c q) (xwT c) (wdA 36 q) ev σ [.ref (q 1), .int x1, .int x2]) (va_Qi post (wdB D (xw c q)) (wdA 36 q)) 0 0 (wdA 36 q) := by
  refine Met.ofW (cc := cX1_sumOfPlaces) (maxL := 5) (ret := (some .int)) (by decide) rfl ?_
  intro p e s m args below meth c₀ s₁ Bd hml hv
  obtain ⟨rfl, hP, hK, hD0, hE⟩ := hv
  have hx := Bd.exec
  have hb := Bd.bytes
  have hr := Bd.returns
  have hts := atoms_spec (ws := Cond.code yX1_sumOfPlaces cX1_sumOfPlaces 5 (some .int) :: tb_L) Bd.pre
  have htb : ∀ w ∈ tb_L, w.before [.ref (q 1), .int x1, .int x2].toArray s = true := fun w h => hts w (List.mem_cons_of_mem _ h)
  have hown : s.vm.findClass RX1 = some m.cls := findClass_of_methodNamed Bd.named
  have hlocks := Bd.notSynchronized
  have hS : va_S (wdA 36 q) s.heap s.heap [] := va_S.rf
  have hD := hD0
  have L5 : ∀ (K40 : Int32 → Int32 → hsS → Prop) (z1 : Int32) (z2 : Int32) (n : Nat) (y3 : Int32) (y4 : Int32) (σ : hsS) (H : Heap) (locs : List Loc) (ls : Array Slot), wX1_sumOfPlaces_L5 1 z1 z2 K40 post n y3 y4 σ → (∀ (y3 : Int32) (y4 : Int32) (σ : hsS) (H : Heap) (locs : List Loc) (ls : Array Slot), K40 y3 y4 σ → va_P D vwCl (xw c q σ) H → va_S (wdA 36 q) s.heap H locs → lv_has ls 5 [(0, .ref (q 1)), (1, .int z1), (2, .int z2), (3, .int y3), (4, .int y4)] → W p l e (headSpec (Cond.code yX1_sumOfPlaces cX1_sumOfPlaces 5 (some .int) :: tb_L) { frames := 1, cells := 0, slots := 0, locals := 22 }).room s m [.ref (q 1), .int x1, .int x2].toArray below meth c₀ H locs 0 0 (MQ below (va_Qi post (wdB D (xw c q)) (wdA 36 q)) [.ref (q 1), .int x1, .int x2].toArray s 0 0 (wdA 36 q)) (F0 m 40 ls [])) → va_P D vwCl (xw c q σ) H → va_S (wdA 36 q) s.heap H locs → lv_has ls 5 [(0, .ref (q 1)), (1, .int z1), (2, .int z2), (3, .int y3), (4, .int y4)] → W p l e (headSpec (Cond.code yX1_sumOfPlaces cX1_sumOfPlaces 5 (some .int) :: tb_L) { frames := 1, cells := 0, slots := 0, locals := 22 }).room s m [.ref (q 1), .int x1, .int x2].toArray below meth c₀ H locs 0 0 (MQ below (va_Qi post (wdB D (xw c q)) (wdA 36 q)) [.ref (q 1), .int x1, .int x2].toArray s 0 0 (wdA 36 q)) (F0 m 5 ls []) := by
    intro K40 z1 z2 n
    induction n with
    | zero =>
      intro y3 y4 σ H locs ls hw hk40 hP hS hl
      exact (show False from hw).elim
    | succ n ih =>
      intro y3 y4 σ H locs ls hw hk40 hP hS hl
      rw [wX1_sumOfPlaces_L5] at hw
      have hD : va_D (wdA 36 q) (xw c q σ) := xw_D hD0
      refine lv_iload hx hb dX1_sumOfPlaces_5 (lv_at hl 4 rfl) ?_
      refine lv_aload_n hx hb dX1_sumOfPlaces_7 rfl (lv_at hl 0 rfl) ?_
      refine va_get (D := D) (ci := 1) (C := RX1) (T := TX1) (N := 12) hx hb htb inX1 hown hK hP 1 (xw_1 c q σ) rfl 0 (by decide) (htb _ tb_126) (fun _ h9 => h9) rfl dX1_sumOfPlaces_8 ?_
      refine lv_icmp_ge (tgt := 40) hx hb dX1_sumOfPlaces_11 (by decide) (fun c1 => ?_) (fun c1 => ?_)
      · have hw := hw.1 c1
        exact hk40 y3 y4 σ _ _ _ hw hP hS (lv_sub hl [0, 1, 2, 3, 4] rfl)
      · have hw := hw.2 c1
        refine lv_iload_n hx hb dX1_sumOfPlaces_14 rfl (lv_at hl 2 rfl) ?_
        refine lv_iload hx hb dX1_sumOfPlaces_15 (lv_at hl 4 rfl) ?_
        refine lv_ishr hx hb dX1_sumOfPlaces_17 ?_
        refine lv_iconst (v := (1 : Int32)) hx hb dX1_sumOfPlaces_18 (by decide) ?_
        refine lv_iand hx hb dX1_sumOfPlaces_19 ?_
        refine lv_iconst (v := (1 : Int32)) hx hb dX1_sumOfPlaces_20 (by decide) ?_
        refine lv_icmp_ne (tgt := 34) hx hb dX1_sumOfPlaces_21 (by decide) (fun c2 => ?_) (fun c2 => ?_)
        · have hw := hw.2 c2
          obtain ⟨v7, ev7⟩ : ∃ z : Int32, z = y4 + (1 : Int32) := ⟨_, rfl⟩
          have hw := hw v7 ev7
          refine lv_iinc (v := v7) (lv' := [(4, .int v7), (0, .ref (q 1)), (1, .int z1), (2, .int z2), (3, .int y3)]) hx hb dX1_sumOfPlaces_34 hl (k := 4) rfl (by rw [ev7]; rfl) (by decide) rfl (fun ls hl => ?_)
          refine lv_goto (tgt := 5) hx hb dX1_sumOfPlaces_37 (by decide) ?_
          exact ih y3 v7 σ _ _ _ hw hk40 hP hS (lv_sub hl [1, 2, 3, 4, 0] rfl)
        · have hw := hw.1 c2
          refine lv_iload_n hx hb dX1_sumOfPlaces_24 rfl (lv_at hl 3 rfl) ?_
          refine lv_aload_n hx hb dX1_sumOfPlaces_25 rfl (lv_at hl 0 rfl) ?_
          refine lv_iload_n hx hb dX1_sumOfPlaces_26 rfl (lv_at hl 1 rfl) ?_
          refine lv_iload hx hb dX1_sumOfPlaces_27 (lv_at hl 4 rfl) ?_
          refine va_calli (va_runV (As := [.int z1, .int y4]) (rest := [.int y3]) ⟨hx, hb, hml, hown, htb⟩ (kcX1_placeOf_1 l D c q ev hev σ z1 y4 _ hw) (tb_CW htb kX1_placeOf tb_445 tb_446 tb_447 ⟨Nat.le_of_ble_eq_true rfl, Nat.le_of_ble_eq_true rfl⟩) (wd_preV (wd := xw c q) (k := 1) hev hK hP hD hE hS (xw_1 c q σ) rfl) rfl rfl hl.1 rfl (lv_room (Nat.le_of_ble_eq_true rfl)) dX1_sumOfPlaces_29 ⟨Nat.zero_le _, Nat.zero_le _⟩) hS (fun q _ h => h) (fun q h => h) (fun r3 σ4 t H1 locs1 ht hvm hw hB hz1 hk1 hS => ?_)
          have hP : va_P D vwCl (xw c q σ4) H1 := ht ▸ hB
          have hD : va_D (wdA 36 q) (xw c q σ4) := xw_D hD0
          refine lv_iadd hx hb dX1_sumOfPlaces_32 ?_
          refine lv_topi (fun v5 ev5 => ?_)
          have hw := hw v5 ev5
          refine lv_istore_n (lv' := [(3, .int v5), (0, .ref (q 1)), (1, .int z1), (2, .int z2), (4, .int y4)]) hx hb dX1_sumOfPlaces_33 rfl hl (by decide) rfl (fun ls hl => ?_)
          obtain ⟨v6, ev6⟩ : ∃ z : Int32, z = y4 + (1 : Int32) := ⟨_, rfl⟩
          have hw := hw v6 ev6
          refine lv_iinc (v := v6) (lv' := [(4, .int v6), (3, .int v5), (0, .ref (q 1)), (1, .int z1), (2, .int z2)]) hx hb dX1_sumOfPlaces_34 hl (k := 4) rfl (by rw [ev6]; rfl) (by decide) rfl (fun ls hl => ?_)
          refine lv_goto (tgt := 5) hx hb dX1_sumOfPlaces_37 (by decide) ?_
          exact ih v5 v6 σ4 _ _ _ hw hk40 hP hS (lv_sub hl [2, 3, 4, 1, 0] rfl)
  have hl := lv_entry ([.ref (q 1), .int x1, .int x2]) (n := 5) (Nat.le_of_ble_eq_true rfl)
  rw [lg_entry_eq]
  generalize (lg_sl ([.ref (q 1), .int x1, .int x2]) ++ List.replicate (5 - (lg_sl ([.ref (q 1), .int x1, .int x2])).length) Slot.unset).toArray = ls at hl ⊢
  have hl : lv_has ls 5 [(0, .ref (q 1)), (1, .int x1), (2, .int x2)] := hl
  unfold wX1_sumOfPlaces at hw
  refine lv_iconst (v := (0 : Int32)) hx hb dX1_sumOfPlaces_0 (by decide) ?_
  refine lv_istore_n (lv' := [(3, .int (0 : Int32)), (0, .ref (q 1)), (1, .int x1), (2, .int x2)]) hx hb dX1_sumOfPlaces_1 rfl hl (by decide) rfl (fun ls hl => ?_)
  refine lv_iconst (v := (0 : Int32)) hx hb dX1_sumOfPlaces_2 (by decide) ?_
  refine lv_istore (lv' := [(4, .int (0 : Int32)), (3, .int (0 : Int32)), (0, .ref (q 1)), (1, .int x1), (2, .int x2)]) hx hb dX1_sumOfPlaces_3 hl (by decide) rfl (fun ls hl => ?_)
  obtain ⟨n8, hw⟩ := hw
  refine L5 _ x1 x2 n8 (0 : Int32) (0 : Int32) σ _ _ _ hw ?_ hP hS (lv_sub hl [2, 3, 4, 1, 0] rfl)
  intro v9 v10 σ11 H locs ls hw hP hS hl
  have hD : va_D (wdA 36 q) (xw c q σ11) := xw_D hD0
  refine lv_iload_n hx hb dX1_sumOfPlaces_40 rfl (lv_at hl 3 rfl) ?_
  exact W.iret hx hb hr (fun t ht hW => ⟨⟨_, σ11, rfl, hw, by unfold wdB; rw [ht]; exact hP⟩, hS.F ht⟩) hS.2.2 dX1_sumOfPlaces_41
