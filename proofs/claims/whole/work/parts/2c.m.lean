theorem kX8_better : tbM yX8_better cX8_better 5 (some .int) 2 := ⟨tb_1511, tb_99, by decide +kernel, by decide +kernel⟩
theorem kX8_keepOf : tbM yX8_keepOf cX8_keepOf 5 (some .int) 2 := ⟨tb_1507, tb_99, by decide +kernel, by decide +kernel⟩
theorem kX8_keep : tbM yX8_keep cX8_keep 3 (some .int) 2 := ⟨tb_1499, tb_99, by decide +kernel, by decide +kernel⟩
theorem kX8_strikesOf : tbM yX8_strikesOf cX8_strikesOf 3 (some .boolean) 2 := ⟨tb_1523, tb_99, by decide +kernel, by decide +kernel⟩
theorem kX8_strikes : tbM yX8_strikes cX8_strikes 3 (some .boolean) 2 := ⟨tb_1515, tb_99, by decide +kernel, by decide +kernel⟩
theorem kX8_isBefore : tbM yX8_isBefore cX8_isBefore 5 (some .boolean) 2 := ⟨tb_1530, tb_99, by decide +kernel, by decide +kernel⟩
theorem kX8_striker : tbM yX8_striker cX8_striker 4 (some .int) 1 := ⟨tb_1527, tb_99, by decide +kernel, by decide +kernel⟩
theorem kX8_tellMays : tbM yX8_tellMays cX8_tellMays 3 none 1 := ⟨tb_1542, tb_99, by decide +kernel, by decide +kernel⟩
theorem kX8_coreOf : tbM yX8_coreOf cX8_coreOf 8 (some .int) 1 := ⟨tb_1538, tb_99, by decide +kernel, by decide +kernel⟩
theorem kX8_core : tbM yX8_core cX8_core 1 (some .int) 0 := ⟨tb_1534, tb_99, by decide +kernel, by decide +kernel⟩
theorem kX8_copy : tbM yX8_copy cX8_copy 2 (some .int) 1 := ⟨tb_1546, tb_99, by decide +kernel, by decide +kernel⟩
theorem kX8_without : tbM yX8_without cX8_without 2 (some .int) 1 := ⟨tb_1554, tb_99, by decide +kernel, by decide +kernel⟩
theorem kX8_add : tbM yX8_add cX8_add 7 (some .int) 1 := ⟨tb_1558, tb_99, by decide +kernel, by decide +kernel⟩
theorem kX8_plainly : tbM yX8_plainly cX8_plainly 5 (some .int) 2 := ⟨tb_1566, tb_99, by decide +kernel, by decide +kernel⟩
theorem kX8_plainEnd : tbM yX8_plainEnd cX8_plainEnd 5 (some .int) 1 := ⟨tb_1578, tb_99, by decide +kernel, by decide +kernel⟩
theorem kX8_takeTurns : tbM yX8_takeTurns cX8_takeTurns 2 none 0 := ⟨tb_1574, tb_99, by decide +kernel, by decide +kernel⟩
theorem kX8_some : tbM yX8_some cX8_some 10 (some .int) 1 := ⟨tb_1562, tb_99, by decide +kernel, by decide +kernel⟩
theorem kX8_plain : tbM yX8_plain cX8_plain 1 (some .int) 0 := ⟨tb_1570, tb_99, by decide +kernel, by decide +kernel⟩
theorem kX8_back : tbM yX8_back cX8_back 3 (some .int) 0 := ⟨tb_1582, tb_99, by decide +kernel, by decide +kernel⟩
theorem kX8_go : tbM yX8_go cX8_go 5 none 2 := ⟨tb_1590, tb_99, by decide +kernel, by decide +kernel⟩
theorem kX8_rows : tbM yX8_rows cX8_rows 3 (some .int) 1 := ⟨tb_1586, tb_99, by decide +kernel, by decide +kernel⟩
theorem kX8_worst : tbM yX8_worst cX8_worst 5 (some .int) 2 := ⟨tb_1602, tb_99, by decide +kernel, by decide +kernel⟩
def wX8_better_L5 (z1 : Int32) (z2 : Int32) (K57 : Int32 → Int32 → hsS → Prop) (post : Int32 → hsS → Prop) : Nat → Int32 → Int32 → hsS → Prop
  | 0, _, _, _ => False
  | n + 1, y3, y4, σ => (((σ.1 25) ≤ y4 → K57 y3 y4 σ) ∧ (¬ (σ.1 25) ≤ y4 → vp_in ((z1 * (10 : Int32)) + y4) 80 ∧ vp_in ((z1 * (10 : Int32)) + z2) 80 ∧ (((σ.2.1 13 ((z1 * (10 : Int32)) + z2).toNatClampNeg) ≤ (σ.2.1 13 ((z1 * (10 : Int32)) + y4).toNatClampNeg) → ∀ v3 : Int32, v3 = y3 ||| (0 : Int32) → ∀ v4 : Int32, v4 = y4 + (1 : Int32) → wX8_better_L5 z1 z2 K57 post n v3 v4 σ) ∧ (¬ (σ.2.1 13 ((z1 * (10 : Int32)) + z2).toNatClampNeg) ≤ (σ.2.1 13 ((z1 * (10 : Int32)) + y4).toNatClampNeg) → ∀ v5 : Int32, v5 = y3 ||| ((1 : Int32) <<< (y4 &&& 31)) → ∀ v6 : Int32, v6 = y4 + (1 : Int32) → wX8_better_L5 z1 z2 K57 post n v5 v6 σ))))
def wX8_better (x1 : Int32) (x2 : Int32) (post : Int32 → hsS → Prop) (σ : hsS) : Prop := ∃ n7, wX8_better_L5 x1 x2 (fun v8 v9 σ10 => post v8 σ10) post n7 (0 : Int32) (0 : Int32) σ
set_option maxHeartbeats 4000000 in
set_option maxRecDepth 100000 in
theorem kcX8_better (l : Launch) (D : va_G) (c : Nat → ClassId) (q : Nat → Nat) (ev : State → Heap → Prop) (hev : evOK (wdA 31 q) ev) (σ : hsS) (x1 : Int32) (x2 : Int32) (post : Int32 → hsS → Prop) (hw : wX8_better x1 x2 post σ) : Met l yX8_better (Cond.code yX8_better cX8_better 5 (some .int) :: tb_L) { frames := 0, cells := 0, slots := 0, locals := 0 } (wdPc D (mw c q) (mwT c) (wdA 31 q) ev σ [.ref (q 0), .int x1, .int x2]) (va_Qi post (wdB D (mw c q)) (wdA 31 q)) 0 0 (wdA 31 q) := by
  refine Met.ofW (cc := cX8_better) (maxL := 5) (ret := (some .int)) (by decide) rfl ?_
  intro p e s m args below meth c₀ s₁ Bd hml hv
  obtain ⟨rfl, hP, hK, hD0, hE⟩ := hv
  have hx := Bd.exec
  have hb := Bd.bytes
  have hr := Bd.returns
  have hts := atoms_spec (ws := Cond.code yX8_better cX8_better 5 (some .int) :: tb_L) Bd.pre
  have htb : ∀ w ∈ tb_L, w.before [.ref (q 0), .int x1, .int x2].toArray s = true := fun w h => hts w (List.mem_cons_of_mem _ h)
  have hown : s.vm.findClass RX8 = some m.cls := findClass_of_methodNamed Bd.named
  have hlocks := Bd.notSynchronized
  have hS : va_S (wdA 31 q) s.heap s.heap [] := va_S.rf
  have hD := hD0
  have L5 : ∀ (K57 : Int32 → Int32 → hsS → Prop) (z1 : Int32) (z2 : Int32) (n : Nat) (y3 : Int32) (y4 : Int32) (σ : hsS) (H : Heap) (locs : List Loc) (ls : Array Slot), wX8_better_L5 z1 z2 K57 post n y3 y4 σ → (∀ (y3 : Int32) (y4 : Int32) (σ : hsS) (H : Heap) (locs : List Loc) (ls : Array Slot), K57 y3 y4 σ → va_P D vwCl (mw c q σ) H → va_S (wdA 31 q) s.heap H locs → lv_has ls 5 [(0, .ref (q 0)), (1, .int z1), (2, .int z2), (3, .int y3), (4, .int y4)] → W p l e (headSpec (Cond.code yX8_better cX8_better 5 (some .int) :: tb_L) { frames := 0, cells := 0, slots := 0, locals := 0 }).room s m [.ref (q 0), .int x1, .int x2].toArray below meth c₀ H locs 0 0 (MQ below (va_Qi post (wdB D (mw c q)) (wdA 31 q)) [.ref (q 0), .int x1, .int x2].toArray s 0 0 (wdA 31 q)) (F0 m 57 ls [])) → va_P D vwCl (mw c q σ) H → va_S (wdA 31 q) s.heap H locs → lv_has ls 5 [(0, .ref (q 0)), (1, .int z1), (2, .int z2), (3, .int y3), (4, .int y4)] → W p l e (headSpec (Cond.code yX8_better cX8_better 5 (some .int) :: tb_L) { frames := 0, cells := 0, slots := 0, locals := 0 }).room s m [.ref (q 0), .int x1, .int x2].toArray below meth c₀ H locs 0 0 (MQ below (va_Qi post (wdB D (mw c q)) (wdA 31 q)) [.ref (q 0), .int x1, .int x2].toArray s 0 0 (wdA 31 q)) (F0 m 5 ls []) := by
    intro K57 z1 z2 n
    induction n with
    | zero =>
      intro y3 y4 σ H locs ls hw hk57 hP hS hl
      exact (show False from hw).elim
    | succ n ih =>
      intro y3 y4 σ H locs ls hw hk57 hP hS hl
      rw [wX8_better_L5] at hw
      have hD : va_D (wdA 31 q) (mw c q σ) := mw_D hD0
      refine lv_iload hx hb dX8_better_5 (lv_at hl 4 rfl) ?_
      refine lv_aload_n hx hb dX8_better_7 rfl (lv_at hl 0 rfl) ?_
      refine va_get (D := D) (ci := 8) (C := RX8) (T := TX8) (N := 57) hx hb htb inX8 hown hK hP 0 (mw_0 c q σ) rfl 25 (by decide) (htb _ tb_1206) (fun _ h9 => h9) rfl dX8_better_8 ?_
      refine lv_icmp_ge (tgt := 57) hx hb dX8_better_11 (by decide) (fun c1 => ?_) (fun c1 => ?_)
      · have hw := hw.1 c1
        exact hk57 y3 y4 σ _ _ _ hw hP hS (lv_sub hl [0, 1, 2, 3, 4] rfl)
      · have hw := hw.2 c1
        refine lv_iload_n hx hb dX8_better_14 rfl (lv_at hl 3 rfl) ?_
        refine lv_aload_n hx hb dX8_better_15 rfl (lv_at hl 0 rfl) ?_
        refine va_get (D := D) (ci := 8) (C := RX8) (T := TX8) (N := 57) hx hb htb inX8 hown hK hP 0 (mw_0 c q σ) rfl 24 (by decide) (htb _ tb_1205) (fun _ h9 => h9) rfl dX8_better_16 ?_
        refine lv_iload_n hx hb dX8_better_19 rfl (lv_at hl 1 rfl) ?_
        refine lv_bipush (v := (10 : Int32)) hx hb dX8_better_20 (by decide) ?_
        refine lv_imul hx hb dX8_better_22 ?_
        refine lv_iload hx hb dX8_better_23 (lv_at hl 4 rfl) ?_
        refine lv_iadd hx hb dX8_better_25 ?_
        refine va_iald hx hb hK hP 13 12 (mw_13 c q σ) rfl hw.1 dX8_better_26 ?_
        have hw := hw.2
        refine lv_aload_n hx hb dX8_better_27 rfl (lv_at hl 0 rfl) ?_
        refine va_get (D := D) (ci := 8) (C := RX8) (T := TX8) (N := 57) hx hb htb inX8 hown hK hP 0 (mw_0 c q σ) rfl 24 (by decide) (htb _ tb_1205) (fun _ h9 => h9) rfl dX8_better_28 ?_
        refine lv_iload_n hx hb dX8_better_31 rfl (lv_at hl 1 rfl) ?_
        refine lv_bipush (v := (10 : Int32)) hx hb dX8_better_32 (by decide) ?_
        refine lv_imul hx hb dX8_better_34 ?_
        refine lv_iload_n hx hb dX8_better_35 rfl (lv_at hl 2 rfl) ?_
        refine lv_iadd hx hb dX8_better_36 ?_
        refine va_iald hx hb hK hP 13 12 (mw_13 c q σ) rfl hw.1 dX8_better_37 ?_
        have hw := hw.2
        refine lv_icmp_ge (tgt := 48) hx hb dX8_better_38 (by decide) (fun c2 => ?_) (fun c2 => ?_)
        · have hw := hw.1 c2
          refine lv_iconst (v := (0 : Int32)) hx hb dX8_better_48 (by decide) ?_
          refine lv_ior hx hb dX8_better_49 ?_
          refine lv_topi (fun v3 ev3 => ?_)
          have hw := hw v3 ev3
          refine lv_istore_n (lv' := [(3, .int v3), (0, .ref (q 0)), (1, .int z1), (2, .int z2), (4, .int y4)]) hx hb dX8_better_50 rfl hl (by decide) rfl (fun ls hl => ?_)
          obtain ⟨v4, ev4⟩ : ∃ z : Int32, z = y4 + (1 : Int32) := ⟨_, rfl⟩
          have hw := hw v4 ev4
          refine lv_iinc (v := v4) (lv' := [(4, .int v4), (3, .int v3), (0, .ref (q 0)), (1, .int z1), (2, .int z2)]) hx hb dX8_better_51 hl (k := 4) rfl (by rw [ev4]; rfl) (by decide) rfl (fun ls hl => ?_)
          refine lv_goto (tgt := 5) hx hb dX8_better_54 (by decide) ?_
          exact ih v3 v4 σ _ _ _ hw hk57 hP hS (lv_sub hl [2, 3, 4, 1, 0] rfl)
        · have hw := hw.2 c2
          refine lv_iconst (v := (1 : Int32)) hx hb dX8_better_41 (by decide) ?_
          refine lv_iload hx hb dX8_better_42 (lv_at hl 4 rfl) ?_
          refine lv_ishl hx hb dX8_better_44 ?_
          refine lv_goto (tgt := 49) hx hb dX8_better_45 (by decide) ?_
          refine lv_ior hx hb dX8_better_49 ?_
          refine lv_topi (fun v5 ev5 => ?_)
          have hw := hw v5 ev5
          refine lv_istore_n (lv' := [(3, .int v5), (0, .ref (q 0)), (1, .int z1), (2, .int z2), (4, .int y4)]) hx hb dX8_better_50 rfl hl (by decide) rfl (fun ls hl => ?_)
          obtain ⟨v6, ev6⟩ : ∃ z : Int32, z = y4 + (1 : Int32) := ⟨_, rfl⟩
          have hw := hw v6 ev6
          refine lv_iinc (v := v6) (lv' := [(4, .int v6), (3, .int v5), (0, .ref (q 0)), (1, .int z1), (2, .int z2)]) hx hb dX8_better_51 hl (k := 4) rfl (by rw [ev6]; rfl) (by decide) rfl (fun ls hl => ?_)
          refine lv_goto (tgt := 5) hx hb dX8_better_54 (by decide) ?_
          exact ih v5 v6 σ _ _ _ hw hk57 hP hS (lv_sub hl [2, 3, 4, 1, 0] rfl)
  have hl := lv_entry ([.ref (q 0), .int x1, .int x2]) (n := 5) (Nat.le_of_ble_eq_true rfl)
  rw [lg_entry_eq]
  generalize (lg_sl ([.ref (q 0), .int x1, .int x2]) ++ List.replicate (5 - (lg_sl ([.ref (q 0), .int x1, .int x2])).length) Slot.unset).toArray = ls at hl ⊢
  have hl : lv_has ls 5 [(0, .ref (q 0)), (1, .int x1), (2, .int x2)] := hl
  unfold wX8_better at hw
  refine lv_iconst (v := (0 : Int32)) hx hb dX8_better_0 (by decide) ?_
  refine lv_istore_n (lv' := [(3, .int (0 : Int32)), (0, .ref (q 0)), (1, .int x1), (2, .int x2)]) hx hb dX8_better_1 rfl hl (by decide) rfl (fun ls hl => ?_)
  refine lv_iconst (v := (0 : Int32)) hx hb dX8_better_2 (by decide) ?_
  refine lv_istore (lv' := [(4, .int (0 : Int32)), (3, .int (0 : Int32)), (0, .ref (q 0)), (1, .int x1), (2, .int x2)]) hx hb dX8_better_3 hl (by decide) rfl (fun ls hl => ?_)
  obtain ⟨n7, hw⟩ := hw
  refine L5 _ x1 x2 n7 (0 : Int32) (0 : Int32) σ _ _ _ hw ?_ hP hS (lv_sub hl [2, 3, 4, 1, 0] rfl)
  intro v8 v9 σ10 H locs ls hw hP hS hl
  have hD : va_D (wdA 31 q) (mw c q σ10) := mw_D hD0
  refine lv_iload_n hx hb dX8_better_57 rfl (lv_at hl 3 rfl) ?_
  exact W.iret hx hb hr (fun t ht hW => ⟨⟨_, σ10, rfl, hw, by unfold wdB; rw [ht]; exact hP⟩, hS.F ht⟩) hS.2.2 dX8_better_58
def wX8_keepOf_L12 (z1 : Int32) (z2 : Int32) (K49 : Int32 → Int32 → hsS → Prop) (post : Int32 → hsS → Prop) : Nat → Int32 → Int32 → hsS → Prop
  | 0, _, _, _ => False
  | n + 1, y3, y4, σ => (((σ.2.1 2 (0 : Int32).toNatClampNeg) ≤ y4 → K49 y3 y4 σ) ∧ (¬ (σ.2.1 2 (0 : Int32).toNatClampNeg) ≤ y4 → ((((z1 >>> (y4 &&& 31)) &&& (1 : Int32)) = (1 : Int32) → wX8_better y4 z2 (fun r4 σ5 => ∀ v6 : Int32, v6 = y3 &&& r4 → ∀ v7 : Int32, v7 = y4 + (1 : Int32) → wX8_keepOf_L12 z1 z2 K49 post n v6 v7 σ5) σ) ∧ (¬ ((z1 >>> (y4 &&& 31)) &&& (1 : Int32)) = (1 : Int32) → ∀ v8 : Int32, v8 = y4 + (1 : Int32) → wX8_keepOf_L12 z1 z2 K49 post n y3 v8 σ))))
def wX8_keepOf (x1 : Int32) (x2 : Int32) (post : Int32 → hsS → Prop) (σ : hsS) : Prop := ∀ v1 : Int32, v1 = ((1 : Int32) <<< ((σ.1 25) &&& 31)) - (1 : Int32) → ∃ n9, wX8_keepOf_L12 x1 x2 (fun v10 v11 σ12 => post v10 σ12) post n9 v1 (0 : Int32) σ
set_option maxHeartbeats 4000000 in
set_option maxRecDepth 100000 in
theorem kcX8_keepOf (l : Launch) (D : va_G) (c : Nat → ClassId) (q : Nat → Nat) (ev : State → Heap → Prop) (hev : evOK (wdA 31 q) ev) (σ : hsS) (x1 : Int32) (x2 : Int32) (post : Int32 → hsS → Prop) (hw : wX8_keepOf x1 x2 post σ) : Met l yX8_keepOf (Cond.code yX8_keepOf cX8_keepOf 5 (some .int) :: tb_L) { frames := 1, cells := 0, slots := 0, locals := 24 } (wdPc D (mw c q) (mwT c) (wdA 31 q) ev σ [.ref (q 0), .int x1, .int x2]) (va_Qi post (wdB D (mw c q)) (wdA 31 q)) 0 0 (wdA 31 q) := by
  refine Met.ofW (cc := cX8_keepOf) (maxL := 5) (ret := (some .int)) (by decide) rfl ?_
  intro p e s m args below meth c₀ s₁ Bd hml hv
  obtain ⟨rfl, hP, hK, hD0, hE⟩ := hv
  have hx := Bd.exec
  have hb := Bd.bytes
  have hr := Bd.returns
  have hts := atoms_spec (ws := Cond.code yX8_keepOf cX8_keepOf 5 (some .int) :: tb_L) Bd.pre
  have htb : ∀ w ∈ tb_L, w.before [.ref (q 0), .int x1, .int x2].toArray s = true := fun w h => hts w (List.mem_cons_of_mem _ h)
  have hown : s.vm.findClass RX8 = some m.cls := findClass_of_methodNamed Bd.named
  have hlocks := Bd.notSynchronized
  have hS : va_S (wdA 31 q) s.heap s.heap [] := va_S.rf
  have hD := hD0
  have L12 : ∀ (K49 : Int32 → Int32 → hsS → Prop) (z1 : Int32) (z2 : Int32) (n : Nat) (y3 : Int32) (y4 : Int32) (σ : hsS) (H : Heap) (locs : List Loc) (ls : Array Slot), wX8_keepOf_L12 z1 z2 K49 post n y3 y4 σ → (∀ (y3 : Int32) (y4 : Int32) (σ : hsS) (H : Heap) (locs : List Loc) (ls : Array Slot), K49 y3 y4 σ → va_P D vwCl (mw c q σ) H → va_S (wdA 31 q) s.heap H locs → lv_has ls 5 [(0, .ref (q 0)), (1, .int z1), (2, .int z2), (3, .int y3), (4, .int y4)] → W p l e (headSpec (Cond.code yX8_keepOf cX8_keepOf 5 (some .int) :: tb_L) { frames := 1, cells := 0, slots := 0, locals := 24 }).room s m [.ref (q 0), .int x1, .int x2].toArray below meth c₀ H locs 0 0 (MQ below (va_Qi post (wdB D (mw c q)) (wdA 31 q)) [.ref (q 0), .int x1, .int x2].toArray s 0 0 (wdA 31 q)) (F0 m 49 ls [])) → va_P D vwCl (mw c q σ) H → va_S (wdA 31 q) s.heap H locs → lv_has ls 5 [(0, .ref (q 0)), (1, .int z1), (2, .int z2), (3, .int y3), (4, .int y4)] → W p l e (headSpec (Cond.code yX8_keepOf cX8_keepOf 5 (some .int) :: tb_L) { frames := 1, cells := 0, slots := 0, locals := 24 }).room s m [.ref (q 0), .int x1, .int x2].toArray below meth c₀ H locs 0 0 (MQ below (va_Qi post (wdB D (mw c q)) (wdA 31 q)) [.ref (q 0), .int x1, .int x2].toArray s 0 0 (wdA 31 q)) (F0 m 12 ls []) := by
    intro K49 z1 z2 n
    induction n with
    | zero =>
      intro y3 y4 σ H locs ls hw hk49 hP hS hl
      exact (show False from hw).elim
    | succ n ih =>
      intro y3 y4 σ H locs ls hw hk49 hP hS hl
      rw [wX8_keepOf_L12] at hw
      have hD : va_D (wdA 31 q) (mw c q σ) := mw_D hD0
      refine lv_iload hx hb dX8_keepOf_12 (lv_at hl 4 rfl) ?_
      refine lv_aload_n hx hb dX8_keepOf_14 rfl (lv_at hl 0 rfl) ?_
      refine va_get (D := D) (ci := 8) (C := RX8) (T := TX8) (N := 57) hx hb htb inX8 hown hK hP 0 (mw_0 c q σ) rfl 2 (by decide) (htb _ tb_1183) (fun _ h9 => h9) rfl dX8_keepOf_15 ?_
      refine lv_iconst (v := (0 : Int32)) hx hb dX8_keepOf_18 (by decide) ?_
      refine va_iald hx hb hK hP 2 1 (mw_2 c q σ) rfl (by unfold vp_in; decide) dX8_keepOf_19 ?_
      refine lv_icmp_ge (tgt := 49) hx hb dX8_keepOf_20 (by decide) (fun c2 => ?_) (fun c2 => ?_)
      · have hw := hw.1 c2
        exact hk49 y3 y4 σ _ _ _ hw hP hS (lv_sub hl [0, 1, 2, 3, 4] rfl)
      · have hw := hw.2 c2
        refine lv_iload_n hx hb dX8_keepOf_23 rfl (lv_at hl 1 rfl) ?_
        refine lv_iload hx hb dX8_keepOf_24 (lv_at hl 4 rfl) ?_
        refine lv_ishr hx hb dX8_keepOf_26 ?_
        refine lv_iconst (v := (1 : Int32)) hx hb dX8_keepOf_27 (by decide) ?_
        refine lv_iand hx hb dX8_keepOf_28 ?_
        refine lv_iconst (v := (1 : Int32)) hx hb dX8_keepOf_29 (by decide) ?_
        refine lv_icmp_ne (tgt := 43) hx hb dX8_keepOf_30 (by decide) (fun c3 => ?_) (fun c3 => ?_)
        · have hw := hw.2 c3
          obtain ⟨v8, ev8⟩ : ∃ z : Int32, z = y4 + (1 : Int32) := ⟨_, rfl⟩
          have hw := hw v8 ev8
          refine lv_iinc (v := v8) (lv' := [(4, .int v8), (0, .ref (q 0)), (1, .int z1), (2, .int z2), (3, .int y3)]) hx hb dX8_keepOf_43 hl (k := 4) rfl (by rw [ev8]; rfl) (by decide) rfl (fun ls hl => ?_)
          refine lv_goto (tgt := 12) hx hb dX8_keepOf_46 (by decide) ?_
          exact ih y3 v8 σ _ _ _ hw hk49 hP hS (lv_sub hl [1, 2, 3, 4, 0] rfl)
        · have hw := hw.1 c3
          refine lv_iload_n hx hb dX8_keepOf_33 rfl (lv_at hl 3 rfl) ?_
          refine lv_aload_n hx hb dX8_keepOf_34 rfl (lv_at hl 0 rfl) ?_
          refine lv_iload hx hb dX8_keepOf_35 (lv_at hl 4 rfl) ?_
          refine lv_iload_n hx hb dX8_keepOf_37 rfl (lv_at hl 2 rfl) ?_
          refine va_calli (va_runV (As := [.int y4, .int z2]) (rest := [.int y3]) ⟨hx, hb, hml, hown, htb⟩ (kcX8_better l D c q ev hev σ y4 z2 _ hw) (tb_CW htb kX8_better tb_1508 tb_1510 tb_65 ⟨Nat.le_of_ble_eq_true rfl, Nat.le_of_ble_eq_true rfl⟩) (wd_preV (wd := mw c q) (k := 0) hev hK hP hD hE hS (mw_0 c q σ) rfl) rfl rfl hl.1 rfl (lv_room (Nat.le_of_ble_eq_true rfl)) dX8_keepOf_38 ⟨Nat.zero_le _, Nat.zero_le _⟩) hS (fun q _ h => h) (fun q h => h) (fun r4 σ5 t H1 locs1 ht hvm hw hB hz1 hk1 hS => ?_)
          have hP : va_P D vwCl (mw c q σ5) H1 := ht ▸ hB
          have hD : va_D (wdA 31 q) (mw c q σ5) := mw_D hD0
          refine lv_iand hx hb dX8_keepOf_41 ?_
          refine lv_topi (fun v6 ev6 => ?_)
          have hw := hw v6 ev6
          refine lv_istore_n (lv' := [(3, .int v6), (0, .ref (q 0)), (1, .int z1), (2, .int z2), (4, .int y4)]) hx hb dX8_keepOf_42 rfl hl (by decide) rfl (fun ls hl => ?_)
          obtain ⟨v7, ev7⟩ : ∃ z : Int32, z = y4 + (1 : Int32) := ⟨_, rfl⟩
          have hw := hw v7 ev7
          refine lv_iinc (v := v7) (lv' := [(4, .int v7), (3, .int v6), (0, .ref (q 0)), (1, .int z1), (2, .int z2)]) hx hb dX8_keepOf_43 hl (k := 4) rfl (by rw [ev7]; rfl) (by decide) rfl (fun ls hl => ?_)
          refine lv_goto (tgt := 12) hx hb dX8_keepOf_46 (by decide) ?_
          exact ih v6 v7 σ5 _ _ _ hw hk49 hP hS (lv_sub hl [2, 3, 4, 1, 0] rfl)
  have hl := lv_entry ([.ref (q 0), .int x1, .int x2]) (n := 5) (Nat.le_of_ble_eq_true rfl)
  rw [lg_entry_eq]
  generalize (lg_sl ([.ref (q 0), .int x1, .int x2]) ++ List.replicate (5 - (lg_sl ([.ref (q 0), .int x1, .int x2])).length) Slot.unset).toArray = ls at hl ⊢
  have hl : lv_has ls 5 [(0, .ref (q 0)), (1, .int x1), (2, .int x2)] := hl
  unfold wX8_keepOf at hw
  refine lv_iconst (v := (1 : Int32)) hx hb dX8_keepOf_0 (by decide) ?_
  refine lv_aload_n hx hb dX8_keepOf_1 rfl (lv_at hl 0 rfl) ?_
  refine va_get (D := D) (ci := 8) (C := RX8) (T := TX8) (N := 57) hx hb htb inX8 hown hK hP 0 (mw_0 c q σ) rfl 25 (by decide) (htb _ tb_1206) (fun _ h9 => h9) rfl dX8_keepOf_2 ?_
  refine lv_ishl hx hb dX8_keepOf_5 ?_
  refine lv_iconst (v := (1 : Int32)) hx hb dX8_keepOf_6 (by decide) ?_
  refine lv_isub hx hb dX8_keepOf_7 ?_
  refine lv_topi (fun v1 ev1 => ?_)
  have hw := hw v1 ev1
  refine lv_istore_n (lv' := [(3, .int v1), (0, .ref (q 0)), (1, .int x1), (2, .int x2)]) hx hb dX8_keepOf_8 rfl hl (by decide) rfl (fun ls hl => ?_)
  refine lv_iconst (v := (0 : Int32)) hx hb dX8_keepOf_9 (by decide) ?_
  refine lv_istore (lv' := [(4, .int (0 : Int32)), (3, .int v1), (0, .ref (q 0)), (1, .int x1), (2, .int x2)]) hx hb dX8_keepOf_10 hl (by decide) rfl (fun ls hl => ?_)
  obtain ⟨n9, hw⟩ := hw
  refine L12 _ x1 x2 n9 v1 (0 : Int32) σ _ _ _ hw ?_ hP hS (lv_sub hl [2, 3, 4, 1, 0] rfl)
  intro v10 v11 σ12 H locs ls hw hP hS hl
  have hD : va_D (wdA 31 q) (mw c q σ12) := mw_D hD0
  refine lv_iload_n hx hb dX8_keepOf_49 rfl (lv_at hl 3 rfl) ?_
  exact W.iret hx hb hr (fun t ht hW => ⟨⟨_, σ12, rfl, hw, by unfold wdB; rw [ht]; exact hP⟩, hS.F ht⟩) hS.2.2 dX8_keepOf_50
def wX8_keep (x1 : Int32) (x2 : Int32) (post : Int32 → hsS → Prop) (σ : hsS) : Prop := ∀ σ1 : hsS, σ1 = hsI σ 0 (0 : Int32) → wX8_isThing x2 (fun r2 σ3 => ((r2 = (0 : Int32) → wX8_fail (1 : Int32) (fun r5 σ6 => post r5 σ6) σ3) ∧ (¬ r2 = (0 : Int32) → wX8_look  (fun σ8 => wX8_keepOf x1 x2 (fun r9 σ10 => post r9 σ10) σ8) σ3))) σ1
set_option maxHeartbeats 4000000 in
set_option maxRecDepth 100000 in
theorem kcX8_keep (l : Launch) (D : va_G) (c : Nat → ClassId) (q : Nat → Nat) (ev : State → Heap → Prop) (hev : evOK (wdA 31 q) ev) (σ : hsS) (x1 : Int32) (x2 : Int32) (post : Int32 → hsS → Prop) (hw : wX8_keep x1 x2 post σ) : Met l yX8_keep (Cond.code yX8_keep cX8_keep 3 (some .int) :: tb_L) { frames := 2, cells := 0, slots := 0, locals := 48 } (wdPc D (mw c q) (mwT c) (wdA 31 q) ev σ [.ref (q 0), .int x1, .int x2]) (va_Qi post (wdB D (mw c q)) (wdA 31 q)) 0 0 (wdA 31 q) := by
  refine Met.ofW (cc := cX8_keep) (maxL := 3) (ret := (some .int)) (by decide) rfl ?_
  intro p e s m args below meth c₀ s₁ Bd hml hv
  obtain ⟨rfl, hP, hK, hD0, hE⟩ := hv
  have hx := Bd.exec
  have hb := Bd.bytes
  have hr := Bd.returns
  have hts := atoms_spec (ws := Cond.code yX8_keep cX8_keep 3 (some .int) :: tb_L) Bd.pre
  have htb : ∀ w ∈ tb_L, w.before [.ref (q 0), .int x1, .int x2].toArray s = true := fun w h => hts w (List.mem_cons_of_mem _ h)
  have hown : s.vm.findClass RX8 = some m.cls := findClass_of_methodNamed Bd.named
  have hlocks := Bd.notSynchronized
  have hS : va_S (wdA 31 q) s.heap s.heap [] := va_S.rf
  have hD := hD0
  have hl := lv_entry ([.ref (q 0), .int x1, .int x2]) (n := 3) (Nat.le_of_ble_eq_true rfl)
  rw [lg_entry_eq]
  generalize (lg_sl ([.ref (q 0), .int x1, .int x2]) ++ List.replicate (3 - (lg_sl ([.ref (q 0), .int x1, .int x2])).length) Slot.unset).toArray = ls at hl ⊢
  have hl : lv_has ls 3 [(0, .ref (q 0)), (1, .int x1), (2, .int x2)] := hl
  unfold wX8_keep at hw
  refine lv_aload_n hx hb dX8_keep_0 rfl (lv_at hl 0 rfl) ?_
  refine lv_iconst (v := (0 : Int32)) hx hb dX8_keep_1 (by decide) ?_
  refine va_put (D := D) (ci := 8) (ty := .int) (C := RX8) (T := TX8) (N := 57) hx hb htb inX8 tyX8 tyX8_ok nmX8 hown hK hP hD hS 0 (mw_0 c q σ) rfl 0 (by decide) (htb _ tb_1181) (fun _ h9 => h9) rfl (by decide +kernel) rfl rfl (Nat.le_of_ble_eq_true rfl) dX8_keep_2 (fun H locs hP hD hS => ?_)
  have hP : va_P D vwCl (mw c q (hsI σ 0 (0 : Int32))) H := hP
  obtain ⟨σ1, eσ1⟩ : ∃ z : hsS, z = hsI σ 0 (0 : Int32) := ⟨_, rfl⟩
  rw [← eσ1] at hP
  have hD : va_D (wdA 31 q) (mw c q σ1) := mw_D hD0
  have hw := hw σ1 eσ1
  refine lv_aload_n hx hb dX8_keep_5 rfl (lv_at hl 0 rfl) ?_
  refine lv_iload_n hx hb dX8_keep_6 rfl (lv_at hl 2 rfl) ?_
  refine va_calli (va_runV (As := [.int x2]) (rest := []) ⟨hx, hb, hml, hown, htb⟩ (kcX8_isThing l D c q ev hev σ1 x2 _ hw) (tb_CW htb kX8_isThing tb_1473 tb_1475 tb_59 ⟨Nat.le_of_ble_eq_true rfl, Nat.le_of_ble_eq_true rfl⟩) (wd_preV (wd := mw c q) (k := 0) hev hK hP hD hE hS (mw_0 c q σ1) rfl) rfl rfl hl.1 rfl (lv_room (Nat.le_of_ble_eq_true rfl)) dX8_keep_7 ⟨Nat.zero_le _, Nat.zero_le _⟩) hS (fun q _ h => h) (fun q h => h) (fun r2 σ3 t H1 locs1 ht hvm hw hB hz1 hk1 hS => ?_)
  have hP : va_P D vwCl (mw c q σ3) H1 := ht ▸ hB
  have hD : va_D (wdA 31 q) (mw c q σ3) := mw_D hD0
  refine lv_if_ne (tgt := 19) hx hb dX8_keep_10 (by decide) (fun c4 => ?_) (fun c4 => ?_)
  · have hw := hw.2 c4
    refine lv_aload_n hx hb dX8_keep_19 rfl (lv_at hl 0 rfl) ?_
    refine va_callv (va_runV (As := []) (rest := []) ⟨hx, hb, hml, hown, htb⟩ (kcX8_look l D c q ev hev σ3  _ hw) (tb_CW htb kX8_look tb_1500 tb_1502 tb_63 ⟨Nat.le_of_ble_eq_true rfl, Nat.le_of_ble_eq_true rfl⟩) (wd_preV (wd := mw c q) (k := 0) hev hK hP hD hE hS (mw_0 c q σ3) rfl) rfl rfl hl.1 rfl (lv_room (Nat.le_of_ble_eq_true rfl)) dX8_keep_20 ⟨Nat.zero_le _, Nat.zero_le _⟩) hS (fun q _ h => h) (fun q h => h) (fun σ8 t H1 locs1 ht hvm hw hB hz1 hk1 hS => ?_)
    have hP : va_P D vwCl (mw c q σ8) H1 := ht ▸ hB
    have hD : va_D (wdA 31 q) (mw c q σ8) := mw_D hD0
    refine lv_aload_n hx hb dX8_keep_23 rfl (lv_at hl 0 rfl) ?_
    refine lv_iload_n hx hb dX8_keep_24 rfl (lv_at hl 1 rfl) ?_
    refine lv_iload_n hx hb dX8_keep_25 rfl (lv_at hl 2 rfl) ?_
    refine va_calli (va_runV (As := [.int x1, .int x2]) (rest := []) ⟨hx, hb, hml, hown, htb⟩ (kcX8_keepOf l D c q ev hev σ8 x1 x2 _ hw) (tb_CW htb kX8_keepOf tb_1504 tb_1506 tb_64 ⟨Nat.le_of_ble_eq_true rfl, Nat.le_of_ble_eq_true rfl⟩) (wd_preV (wd := mw c q) (k := 0) hev hK hP hD hE hS (mw_0 c q σ8) rfl) rfl rfl hl.1 rfl (lv_room (Nat.le_of_ble_eq_true rfl)) dX8_keep_26 ⟨Nat.zero_le _, Nat.zero_le _⟩) hS (fun q _ h => h) (fun q h => h) (fun r9 σ10 t H1 locs1 ht hvm hw hB hz1 hk1 hS => ?_)
    have hP : va_P D vwCl (mw c q σ10) H1 := ht ▸ hB
    have hD : va_D (wdA 31 q) (mw c q σ10) := mw_D hD0
    exact W.iret hx hb hr (fun t ht hW => ⟨⟨_, σ10, rfl, hw, by unfold wdB; rw [ht]; exact hP⟩, hS.F ht⟩) hS.2.2 dX8_keep_29
  · have hw := hw.1 c4
    refine lv_aload_n hx hb dX8_keep_13 rfl (lv_at hl 0 rfl) ?_
    refine lv_iconst (v := (1 : Int32)) hx hb dX8_keep_14 (by decide) ?_
    refine va_calli (va_runV (As := [.int (1 : Int32)]) (rest := []) ⟨hx, hb, hml, hown, htb⟩ (kcX8_fail l D c q ev hev σ3 (1 : Int32) _ hw) (tb_CW htb kX8_fail tb_1366 tb_1368 tb_42 ⟨Nat.le_of_ble_eq_true rfl, Nat.le_of_ble_eq_true rfl⟩) (wd_preV (wd := mw c q) (k := 0) hev hK hP hD hE hS (mw_0 c q σ3) rfl) rfl rfl hl.1 rfl (lv_room (Nat.le_of_ble_eq_true rfl)) dX8_keep_15 ⟨Nat.zero_le _, Nat.zero_le _⟩) hS (fun q _ h => h) (fun q h => h) (fun r5 σ6 t H1 locs1 ht hvm hw hB hz1 hk1 hS => ?_)
    have hP : va_P D vwCl (mw c q σ6) H1 := ht ▸ hB
    have hD : va_D (wdA 31 q) (mw c q σ6) := mw_D hD0
    exact W.iret hx hb hr (fun t ht hW => ⟨⟨_, σ6, rfl, hw, by unfold wdB; rw [ht]; exact hP⟩, hS.F ht⟩) hS.2.2 dX8_keep_18
def wX8_strikesOf (x1 : Int32) (x2 : Int32) (post : Int32 → hsS → Prop) (σ : hsS) : Prop := ((x1 = (0 : Int32) → post (0 : Int32) σ) ∧ (¬ x1 = (0 : Int32) → wX8_keepOf x1 x2 (fun r2 σ3 => wX8_sizeOf r2 (fun r4 σ5 => wX8_everybody  (fun r6 σ7 => wX8_mayOf x1 r6 (σ7.1 25) (fun r8 σ9 => ((r4 < ((σ5.1 25) - r8) → post (0 : Int32) σ9) ∧ (¬ r4 < ((σ5.1 25) - r8) → post (1 : Int32) σ9))) σ7) σ5) σ3) σ))
set_option maxHeartbeats 4000000 in
set_option maxRecDepth 100000 in
theorem kcX8_strikesOf (l : Launch) (D : va_G) (c : Nat → ClassId) (q : Nat → Nat) (ev : State → Heap → Prop) (hev : evOK (wdA 31 q) ev) (σ : hsS) (x1 : Int32) (x2 : Int32) (post : Int32 → hsS → Prop) (hw : wX8_strikesOf x1 x2 post σ) : Met l yX8_strikesOf (Cond.code yX8_strikesOf cX8_strikesOf 3 (some .boolean) :: tb_L) { frames := 2, cells := 0, slots := 0, locals := 65 } (wdPc D (mw c q) (mwT c) (wdA 31 q) ev σ [.ref (q 0), .int x1, .int x2]) (va_Qi post (wdB D (mw c q)) (wdA 31 q)) 0 0 (wdA 31 q) := by
  refine Met.ofW (cc := cX8_strikesOf) (maxL := 3) (ret := (some .boolean)) (by decide) rfl ?_
  intro p e s m args below meth c₀ s₁ Bd hml hv
  obtain ⟨rfl, hP, hK, hD0, hE⟩ := hv
  have hx := Bd.exec
  have hb := Bd.bytes
  have hr := Bd.returns
  have hts := atoms_spec (ws := Cond.code yX8_strikesOf cX8_strikesOf 3 (some .boolean) :: tb_L) Bd.pre
  have htb : ∀ w ∈ tb_L, w.before [.ref (q 0), .int x1, .int x2].toArray s = true := fun w h => hts w (List.mem_cons_of_mem _ h)
  have hown : s.vm.findClass RX8 = some m.cls := findClass_of_methodNamed Bd.named
  have hlocks := Bd.notSynchronized
  have hS : va_S (wdA 31 q) s.heap s.heap [] := va_S.rf
  have hD := hD0
  have hl := lv_entry ([.ref (q 0), .int x1, .int x2]) (n := 3) (Nat.le_of_ble_eq_true rfl)
  rw [lg_entry_eq]
  generalize (lg_sl ([.ref (q 0), .int x1, .int x2]) ++ List.replicate (3 - (lg_sl ([.ref (q 0), .int x1, .int x2])).length) Slot.unset).toArray = ls at hl ⊢
  have hl : lv_has ls 3 [(0, .ref (q 0)), (1, .int x1), (2, .int x2)] := hl
  unfold wX8_strikesOf at hw
  refine lv_iload_n hx hb dX8_strikesOf_0 rfl (lv_at hl 1 rfl) ?_
  refine lv_if_eq (tgt := 38) hx hb dX8_strikesOf_1 (by decide) (fun c1 => ?_) (fun c1 => ?_)
  · have hw := hw.1 c1
    refine lv_iconst (v := (0 : Int32)) hx hb dX8_strikesOf_38 (by decide) ?_
    exact W.zret hx hb hr rfl (fun t ht hW => ⟨⟨_, σ, rfl, hw, by unfold wdB; rw [ht]; exact hP⟩, hS.F ht⟩) hS.2.2 dX8_strikesOf_39
  · have hw := hw.2 c1
    refine lv_aload_n hx hb dX8_strikesOf_4 rfl (lv_at hl 0 rfl) ?_
    refine lv_iload_n hx hb dX8_strikesOf_5 rfl (lv_at hl 1 rfl) ?_
    refine lv_iload_n hx hb dX8_strikesOf_6 rfl (lv_at hl 2 rfl) ?_
    refine va_calli (va_runV (As := [.int x1, .int x2]) (rest := []) ⟨hx, hb, hml, hown, htb⟩ (kcX8_keepOf l D c q ev hev σ x1 x2 _ hw) (tb_CW htb kX8_keepOf tb_1504 tb_1506 tb_64 ⟨Nat.le_of_ble_eq_true rfl, Nat.le_of_ble_eq_true rfl⟩) (wd_preV (wd := mw c q) (k := 0) hev hK hP hD hE hS (mw_0 c q σ) rfl) rfl rfl hl.1 rfl (lv_room (Nat.le_of_ble_eq_true rfl)) dX8_strikesOf_7 ⟨Nat.zero_le _, Nat.zero_le _⟩) hS (fun q _ h => h) (fun q h => h) (fun r2 σ3 t H1 locs1 ht hvm hw hB hz1 hk1 hS => ?_)
    have hP : va_P D vwCl (mw c q σ3) H1 := ht ▸ hB
    have hD : va_D (wdA 31 q) (mw c q σ3) := mw_D hD0
    refine va_calli (va_runS (As := [.int r2]) (rest := []) ⟨hx, hb, hml, hown, htb⟩ (kcX8_sizeOf_m l D c q ev hev σ3 r2 _ hw) (tb_CS htb kX8_sizeOf tb_1493 tb_1494 ⟨Nat.le_of_ble_eq_true rfl, Nat.le_of_ble_eq_true rfl⟩) (wd_preS (wd := mw c q) hev hK hP hD hE hS) rfl rfl hl.1 rfl (lv_room (Nat.le_of_ble_eq_true rfl)) dX8_strikesOf_10 ⟨Nat.zero_le _, Nat.zero_le _⟩) hS (fun q _ h => h) (fun q h => h) (fun r4 σ5 t H1 locs1 ht hvm hw hB hz1 hk1 hS => ?_)
    have hP : va_P D vwCl (mw c q σ5) H1 := ht ▸ hB
    have hD : va_D (wdA 31 q) (mw c q σ5) := mw_D hD0
    refine lv_aload_n hx hb dX8_strikesOf_13 rfl (lv_at hl 0 rfl) ?_
    refine va_get (D := D) (ci := 8) (C := RX8) (T := TX8) (N := 57) hx hb htb inX8 hown hK hP 0 (mw_0 c q σ5) rfl 25 (by decide) (htb _ tb_1206) (fun _ h9 => h9) rfl dX8_strikesOf_14 ?_
    refine lv_aload_n hx hb dX8_strikesOf_17 rfl (lv_at hl 0 rfl) ?_
    refine lv_iload_n hx hb dX8_strikesOf_18 rfl (lv_at hl 1 rfl) ?_
    refine lv_aload_n hx hb dX8_strikesOf_19 rfl (lv_at hl 0 rfl) ?_
    refine va_calli (va_runV (As := []) (rest := [.int x1, .ref (q 0), .int (σ5.1 25), .int r4]) ⟨hx, hb, hml, hown, htb⟩ (kcX8_everybody l D c q ev hev σ5  _ hw) (tb_CW htb kX8_everybody tb_1485 tb_1487 tb_61 ⟨Nat.le_of_ble_eq_true rfl, Nat.le_of_ble_eq_true rfl⟩) (wd_preV (wd := mw c q) (k := 0) hev hK hP hD hE hS (mw_0 c q σ5) rfl) rfl rfl hl.1 rfl (lv_room (Nat.le_of_ble_eq_true rfl)) dX8_strikesOf_20 ⟨Nat.zero_le _, Nat.zero_le _⟩) hS (fun q _ h => h) (fun q h => h) (fun r6 σ7 t H1 locs1 ht hvm hw hB hz1 hk1 hS => ?_)
    have hP : va_P D vwCl (mw c q σ7) H1 := ht ▸ hB
    have hD : va_D (wdA 31 q) (mw c q σ7) := mw_D hD0
    refine lv_aload_n hx hb dX8_strikesOf_23 rfl (lv_at hl 0 rfl) ?_
    refine va_get (D := D) (ci := 8) (C := RX8) (T := TX8) (N := 57) hx hb htb inX8 hown hK hP 0 (mw_0 c q σ7) rfl 25 (by decide) (htb _ tb_1206) (fun _ h9 => h9) rfl dX8_strikesOf_24 ?_
    refine va_calli (va_runV (As := [.int x1, .int r6, .int (σ7.1 25)]) (rest := [.int (σ5.1 25), .int r4]) ⟨hx, hb, hml, hown, htb⟩ (kcX8_mayOf l D c q ev hev σ7 x1 r6 (σ7.1 25) _ hw) (tb_CW htb kX8_mayOf tb_1489 tb_1491 tb_62 ⟨Nat.le_of_ble_eq_true rfl, Nat.le_of_ble_eq_true rfl⟩) (wd_preV (wd := mw c q) (k := 0) hev hK hP hD hE hS (mw_0 c q σ7) rfl) rfl rfl hl.1 rfl (lv_room (Nat.le_of_ble_eq_true rfl)) dX8_strikesOf_27 ⟨Nat.zero_le _, Nat.zero_le _⟩) hS (fun q _ h => h) (fun q h => h) (fun r8 σ9 t H1 locs1 ht hvm hw hB hz1 hk1 hS => ?_)
    have hP : va_P D vwCl (mw c q σ9) H1 := ht ▸ hB
    have hD : va_D (wdA 31 q) (mw c q σ9) := mw_D hD0
    refine lv_isub hx hb dX8_strikesOf_30 ?_
    refine lv_icmp_lt (tgt := 38) hx hb dX8_strikesOf_31 (by decide) (fun c10 => ?_) (fun c10 => ?_)
    · have hw := hw.1 c10
      refine lv_iconst (v := (0 : Int32)) hx hb dX8_strikesOf_38 (by decide) ?_
      exact W.zret hx hb hr rfl (fun t ht hW => ⟨⟨_, σ9, rfl, hw, by unfold wdB; rw [ht]; exact hP⟩, hS.F ht⟩) hS.2.2 dX8_strikesOf_39
    · have hw := hw.2 c10
      refine lv_iconst (v := (1 : Int32)) hx hb dX8_strikesOf_34 (by decide) ?_
      refine lv_goto (tgt := 39) hx hb dX8_strikesOf_35 (by decide) ?_
      exact W.zret hx hb hr rfl (fun t ht hW => ⟨⟨_, σ9, rfl, hw, by unfold wdB; rw [ht]; exact hP⟩, hS.F ht⟩) hS.2.2 dX8_strikesOf_39
def wX8_strikes (x1 : Int32) (x2 : Int32) (post : Int32 → hsS → Prop) (σ : hsS) : Prop := ∀ σ1 : hsS, σ1 = hsI σ 0 (0 : Int32) → wX8_isThing x2 (fun r2 σ3 => ((r2 = (0 : Int32) → wX8_refuse (1 : Int32) (fun r5 σ6 => (r5 = 0 ∨ r5 = 1) ∧ post r5 σ6) σ3) ∧ (¬ r2 = (0 : Int32) → wX8_look  (fun σ8 => wX8_everybody  (fun r9 σ10 => wX8_strikesOf (x1 &&& r9) x2 (fun r11 σ12 => (r11 = 0 ∨ r11 = 1) ∧ post r11 σ12) σ10) σ8) σ3))) σ1
set_option maxHeartbeats 4000000 in
set_option maxRecDepth 100000 in
theorem kcX8_strikes (l : Launch) (D : va_G) (c : Nat → ClassId) (q : Nat → Nat) (ev : State → Heap → Prop) (hev : evOK (wdA 31 q) ev) (σ : hsS) (x1 : Int32) (x2 : Int32) (post : Int32 → hsS → Prop) (hw : wX8_strikes x1 x2 post σ) : Met l yX8_strikes (Cond.code yX8_strikes cX8_strikes 3 (some .boolean) :: tb_L) { frames := 3, cells := 0, slots := 0, locals := 87 } (wdPc D (mw c q) (mwT c) (wdA 31 q) ev σ [.ref (q 0), .int x1, .int x2]) (va_Qi post (wdB D (mw c q)) (wdA 31 q)) 0 0 (wdA 31 q) := by
  refine Met.ofW (cc := cX8_strikes) (maxL := 3) (ret := (some .boolean)) (by decide) rfl ?_
  intro p e s m args below meth c₀ s₁ Bd hml hv
  obtain ⟨rfl, hP, hK, hD0, hE⟩ := hv
  have hx := Bd.exec
  have hb := Bd.bytes
  have hr := Bd.returns
  have hts := atoms_spec (ws := Cond.code yX8_strikes cX8_strikes 3 (some .boolean) :: tb_L) Bd.pre
  have htb : ∀ w ∈ tb_L, w.before [.ref (q 0), .int x1, .int x2].toArray s = true := fun w h => hts w (List.mem_cons_of_mem _ h)
  have hown : s.vm.findClass RX8 = some m.cls := findClass_of_methodNamed Bd.named
  have hlocks := Bd.notSynchronized
  have hS : va_S (wdA 31 q) s.heap s.heap [] := va_S.rf
  have hD := hD0
  have hl := lv_entry ([.ref (q 0), .int x1, .int x2]) (n := 3) (Nat.le_of_ble_eq_true rfl)
  rw [lg_entry_eq]
  generalize (lg_sl ([.ref (q 0), .int x1, .int x2]) ++ List.replicate (3 - (lg_sl ([.ref (q 0), .int x1, .int x2])).length) Slot.unset).toArray = ls at hl ⊢
  have hl : lv_has ls 3 [(0, .ref (q 0)), (1, .int x1), (2, .int x2)] := hl
  unfold wX8_strikes at hw
  refine lv_aload_n hx hb dX8_strikes_0 rfl (lv_at hl 0 rfl) ?_
  refine lv_iconst (v := (0 : Int32)) hx hb dX8_strikes_1 (by decide) ?_
  refine va_put (D := D) (ci := 8) (ty := .int) (C := RX8) (T := TX8) (N := 57) hx hb htb inX8 tyX8 tyX8_ok nmX8 hown hK hP hD hS 0 (mw_0 c q σ) rfl 0 (by decide) (htb _ tb_1181) (fun _ h9 => h9) rfl (by decide +kernel) rfl rfl (Nat.le_of_ble_eq_true rfl) dX8_strikes_2 (fun H locs hP hD hS => ?_)
  have hP : va_P D vwCl (mw c q (hsI σ 0 (0 : Int32))) H := hP
  obtain ⟨σ1, eσ1⟩ : ∃ z : hsS, z = hsI σ 0 (0 : Int32) := ⟨_, rfl⟩
  rw [← eσ1] at hP
  have hD : va_D (wdA 31 q) (mw c q σ1) := mw_D hD0
  have hw := hw σ1 eσ1
  refine lv_aload_n hx hb dX8_strikes_5 rfl (lv_at hl 0 rfl) ?_
  refine lv_iload_n hx hb dX8_strikes_6 rfl (lv_at hl 2 rfl) ?_
  refine va_calli (va_runV (As := [.int x2]) (rest := []) ⟨hx, hb, hml, hown, htb⟩ (kcX8_isThing l D c q ev hev σ1 x2 _ hw) (tb_CW htb kX8_isThing tb_1473 tb_1475 tb_59 ⟨Nat.le_of_ble_eq_true rfl, Nat.le_of_ble_eq_true rfl⟩) (wd_preV (wd := mw c q) (k := 0) hev hK hP hD hE hS (mw_0 c q σ1) rfl) rfl rfl hl.1 rfl (lv_room (Nat.le_of_ble_eq_true rfl)) dX8_strikes_7 ⟨Nat.zero_le _, Nat.zero_le _⟩) hS (fun q _ h => h) (fun q h => h) (fun r2 σ3 t H1 locs1 ht hvm hw hB hz1 hk1 hS => ?_)
  have hP : va_P D vwCl (mw c q σ3) H1 := ht ▸ hB
  have hD : va_D (wdA 31 q) (mw c q σ3) := mw_D hD0
  refine lv_if_ne (tgt := 19) hx hb dX8_strikes_10 (by decide) (fun c4 => ?_) (fun c4 => ?_)
  · have hw := hw.2 c4
    refine lv_aload_n hx hb dX8_strikes_19 rfl (lv_at hl 0 rfl) ?_
    refine va_callv (va_runV (As := []) (rest := []) ⟨hx, hb, hml, hown, htb⟩ (kcX8_look l D c q ev hev σ3  _ hw) (tb_CW htb kX8_look tb_1500 tb_1502 tb_63 ⟨Nat.le_of_ble_eq_true rfl, Nat.le_of_ble_eq_true rfl⟩) (wd_preV (wd := mw c q) (k := 0) hev hK hP hD hE hS (mw_0 c q σ3) rfl) rfl rfl hl.1 rfl (lv_room (Nat.le_of_ble_eq_true rfl)) dX8_strikes_20 ⟨Nat.zero_le _, Nat.zero_le _⟩) hS (fun q _ h => h) (fun q h => h) (fun σ8 t H1 locs1 ht hvm hw hB hz1 hk1 hS => ?_)
    have hP : va_P D vwCl (mw c q σ8) H1 := ht ▸ hB
    have hD : va_D (wdA 31 q) (mw c q σ8) := mw_D hD0
    refine lv_aload_n hx hb dX8_strikes_23 rfl (lv_at hl 0 rfl) ?_
    refine lv_iload_n hx hb dX8_strikes_24 rfl (lv_at hl 1 rfl) ?_
    refine lv_aload_n hx hb dX8_strikes_25 rfl (lv_at hl 0 rfl) ?_
    refine va_calli (va_runV (As := []) (rest := [.int x1, .ref (q 0)]) ⟨hx, hb, hml, hown, htb⟩ (kcX8_everybody l D c q ev hev σ8  _ hw) (tb_CW htb kX8_everybody tb_1485 tb_1487 tb_61 ⟨Nat.le_of_ble_eq_true rfl, Nat.le_of_ble_eq_true rfl⟩) (wd_preV (wd := mw c q) (k := 0) hev hK hP hD hE hS (mw_0 c q σ8) rfl) rfl rfl hl.1 rfl (lv_room (Nat.le_of_ble_eq_true rfl)) dX8_strikes_26 ⟨Nat.zero_le _, Nat.zero_le _⟩) hS (fun q _ h => h) (fun q h => h) (fun r9 σ10 t H1 locs1 ht hvm hw hB hz1 hk1 hS => ?_)
    have hP : va_P D vwCl (mw c q σ10) H1 := ht ▸ hB
    have hD : va_D (wdA 31 q) (mw c q σ10) := mw_D hD0
    refine lv_iand hx hb dX8_strikes_29 ?_
    refine lv_iload_n hx hb dX8_strikes_30 rfl (lv_at hl 2 rfl) ?_
    refine va_calli (va_runV (As := [.int (x1 &&& r9), .int x2]) (rest := []) ⟨hx, hb, hml, hown, htb⟩ (kcX8_strikesOf l D c q ev hev σ10 (x1 &&& r9) x2 _ hw) (tb_CW htb kX8_strikesOf tb_1520 tb_1522 tb_67 ⟨Nat.le_of_ble_eq_true rfl, Nat.le_of_ble_eq_true rfl⟩) (wd_preV (wd := mw c q) (k := 0) hev hK hP hD hE hS (mw_0 c q σ10) rfl) rfl rfl hl.1 rfl (lv_room (Nat.le_of_ble_eq_true rfl)) dX8_strikes_31 ⟨Nat.zero_le _, Nat.zero_le _⟩) hS (fun q _ h => h) (fun q h => h) (fun r11 σ12 t H1 locs1 ht hvm hw hB hz1 hk1 hS => ?_)
    have hP : va_P D vwCl (mw c q σ12) H1 := ht ▸ hB
    have hD : va_D (wdA 31 q) (mw c q σ12) := mw_D hD0
    have hq := hw.2
    exact W.zret hx hb hr (nar_b hw.1) (fun t ht hW => ⟨⟨_, σ12, rfl, hq, by unfold wdB; rw [ht]; exact hP⟩, hS.F ht⟩) hS.2.2 dX8_strikes_34
  · have hw := hw.1 c4
    refine lv_aload_n hx hb dX8_strikes_13 rfl (lv_at hl 0 rfl) ?_
    refine lv_iconst (v := (1 : Int32)) hx hb dX8_strikes_14 (by decide) ?_
    refine va_calli (va_runV (As := [.int (1 : Int32)]) (rest := []) ⟨hx, hb, hml, hown, htb⟩ (kcX8_refuse l D c q ev hev σ3 (1 : Int32) _ hw) (tb_CW htb kX8_refuse tb_1516 tb_1518 tb_66 ⟨Nat.le_of_ble_eq_true rfl, Nat.le_of_ble_eq_true rfl⟩) (wd_preV (wd := mw c q) (k := 0) hev hK hP hD hE hS (mw_0 c q σ3) rfl) rfl rfl hl.1 rfl (lv_room (Nat.le_of_ble_eq_true rfl)) dX8_strikes_15 ⟨Nat.zero_le _, Nat.zero_le _⟩) hS (fun q _ h => h) (fun q h => h) (fun r5 σ6 t H1 locs1 ht hvm hw hB hz1 hk1 hS => ?_)
    have hP : va_P D vwCl (mw c q σ6) H1 := ht ▸ hB
    have hD : va_D (wdA 31 q) (mw c q σ6) := mw_D hD0
    have hq := hw.2
    exact W.zret hx hb hr (nar_b hw.1) (fun t ht hW => ⟨⟨_, σ6, rfl, hq, by unfold wdB; rw [ht]; exact hP⟩, hS.F ht⟩) hS.2.2 dX8_strikes_18
def wX8_isBefore_L29 (z0 : Int32) (z1 : Int32) (z2 : Int32) (z3 : Int32) (K57 : Int32 → hsS → Prop) (post : Int32 → hsS → Prop) : Nat → Int32 → hsS → Prop
  | 0, _, _ => False
  | n + 1, y4, σ => (((12 : Int32) ≤ y4 → K57 y4 σ) ∧ (¬ (12 : Int32) ≤ y4 → ((((z0 >>> (y4 &&& 31)) &&& (1 : Int32)) = ((z1 >>> (y4 &&& 31)) &&& (1 : Int32)) → ∀ v8 : Int32, v8 = y4 + (1 : Int32) → wX8_isBefore_L29 z0 z1 z2 z3 K57 post n v8 σ) ∧ (¬ ((z0 >>> (y4 &&& 31)) &&& (1 : Int32)) = ((z1 >>> (y4 &&& 31)) &&& (1 : Int32)) → K57 y4 σ))))
def wX8_isBefore (x0 : Int32) (x1 : Int32) (post : Int32 → hsS → Prop) (σ : hsS) : Prop := wX8_sizeOf x0 (fun r1 σ2 => wX8_sizeOf x1 (fun r3 σ4 => ((r1 = r3 → ∃ n9, wX8_isBefore_L29 x0 x1 r1 r3 (fun v10 σ11 => (((12 : Int32) ≤ v10 → post (0 : Int32) σ11) ∧ (¬ (12 : Int32) ≤ v10 → ((((x0 >>> (v10 &&& 31)) &&& (1 : Int32)) = (1 : Int32) → post (1 : Int32) σ11) ∧ (¬ ((x0 >>> (v10 &&& 31)) &&& (1 : Int32)) = (1 : Int32) → post (0 : Int32) σ11))))) post n9 (0 : Int32) σ4) ∧ (¬ r1 = r3 → ((r3 ≤ r1 → post (0 : Int32) σ4) ∧ (¬ r3 ≤ r1 → post (1 : Int32) σ4))))) σ2) σ
set_option maxHeartbeats 4000000 in
set_option maxRecDepth 100000 in
theorem kcX8_isBefore_m (l : Launch) (D : va_G) (c : Nat → ClassId) (q : Nat → Nat) (ev : State → Heap → Prop) (hev : evOK (wdA 31 q) ev) (σ : hsS) (x0 : Int32) (x1 : Int32) (post : Int32 → hsS → Prop) (hw : wX8_isBefore x0 x1 post σ) : Met l yX8_isBefore (Cond.code yX8_isBefore cX8_isBefore 5 (some .boolean) :: tb_L) { frames := 1, cells := 0, slots := 0, locals := 22 } (wdPc D (mw c q) (mwT c) (wdA 31 q) ev σ [.int x0, .int x1]) (va_Qi post (wdB D (mw c q)) (wdA 31 q)) 0 0 (wdA 31 q) := by
  refine Met.ofW (cc := cX8_isBefore) (maxL := 5) (ret := (some .boolean)) (by decide) rfl ?_
  intro p e s m args below meth c₀ s₁ Bd hml hv
  obtain ⟨rfl, hP, hK, hD0, hE⟩ := hv
  have hx := Bd.exec
  have hb := Bd.bytes
  have hr := Bd.returns
  have hts := atoms_spec (ws := Cond.code yX8_isBefore cX8_isBefore 5 (some .boolean) :: tb_L) Bd.pre
  have htb : ∀ w ∈ tb_L, w.before [.int x0, .int x1].toArray s = true := fun w h => hts w (List.mem_cons_of_mem _ h)
  have hown : s.vm.findClass RX8 = some m.cls := findClass_of_methodNamed Bd.named
  have hlocks := Bd.notSynchronized
  have hS : va_S (wdA 31 q) s.heap s.heap [] := va_S.rf
  have hD := hD0
  have L29 : ∀ (K57 : Int32 → hsS → Prop) (z0 : Int32) (z1 : Int32) (z2 : Int32) (z3 : Int32) (n : Nat) (y4 : Int32) (σ : hsS) (H : Heap) (locs : List Loc) (ls : Array Slot), wX8_isBefore_L29 z0 z1 z2 z3 K57 post n y4 σ → (∀ (y4 : Int32) (σ : hsS) (H : Heap) (locs : List Loc) (ls : Array Slot), K57 y4 σ → va_P D vwCl (mw c q σ) H → va_S (wdA 31 q) s.heap H locs → lv_has ls 5 [(0, .int z0), (1, .int z1), (2, .int z2), (3, .int z3), (4, .int y4)] → W p l e (headSpec (Cond.code yX8_isBefore cX8_isBefore 5 (some .boolean) :: tb_L) { frames := 1, cells := 0, slots := 0, locals := 22 }).room s m [.int x0, .int x1].toArray below meth c₀ H locs 0 0 (MQ below (va_Qi post (wdB D (mw c q)) (wdA 31 q)) [.int x0, .int x1].toArray s 0 0 (wdA 31 q)) (F0 m 57 ls [])) → va_P D vwCl (mw c q σ) H → va_S (wdA 31 q) s.heap H locs → lv_has ls 5 [(0, .int z0), (1, .int z1), (2, .int z2), (3, .int z3), (4, .int y4)] → W p l e (headSpec (Cond.code yX8_isBefore cX8_isBefore 5 (some .boolean) :: tb_L) { frames := 1, cells := 0, slots := 0, locals := 22 }).room s m [.int x0, .int x1].toArray below meth c₀ H locs 0 0 (MQ below (va_Qi post (wdB D (mw c q)) (wdA 31 q)) [.int x0, .int x1].toArray s 0 0 (wdA 31 q)) (F0 m 29 ls []) := by
    intro K57 z0 z1 z2 z3 n
    induction n with
    | zero =>
      intro y4 σ H locs ls hw hk57 hP hS hl
      exact (show False from hw).elim
    | succ n ih =>
      intro y4 σ H locs ls hw hk57 hP hS hl
      rw [wX8_isBefore_L29] at hw
      have hD : va_D (wdA 31 q) (mw c q σ) := mw_D hD0
      refine lv_iload hx hb dX8_isBefore_29 (lv_at hl 4 rfl) ?_
      refine lv_bipush (v := (12 : Int32)) hx hb dX8_isBefore_31 (by decide) ?_
      refine lv_icmp_ge (tgt := 57) hx hb dX8_isBefore_33 (by decide) (fun c6 => ?_) (fun c6 => ?_)
      · have hw := hw.1 c6
        exact hk57 y4 σ _ _ _ hw hP hS (lv_sub hl [0, 1, 2, 3, 4] rfl)
      · have hw := hw.2 c6
        refine lv_iload_n hx hb dX8_isBefore_36 rfl (lv_at hl 0 rfl) ?_
        refine lv_iload hx hb dX8_isBefore_37 (lv_at hl 4 rfl) ?_
        refine lv_ishr hx hb dX8_isBefore_39 ?_
        refine lv_iconst (v := (1 : Int32)) hx hb dX8_isBefore_40 (by decide) ?_
        refine lv_iand hx hb dX8_isBefore_41 ?_
        refine lv_iload_n hx hb dX8_isBefore_42 rfl (lv_at hl 1 rfl) ?_
        refine lv_iload hx hb dX8_isBefore_43 (lv_at hl 4 rfl) ?_
        refine lv_ishr hx hb dX8_isBefore_45 ?_
        refine lv_iconst (v := (1 : Int32)) hx hb dX8_isBefore_46 (by decide) ?_
        refine lv_iand hx hb dX8_isBefore_47 ?_
        refine lv_icmp_ne (tgt := 57) hx hb dX8_isBefore_48 (by decide) (fun c7 => ?_) (fun c7 => ?_)
        · have hw := hw.2 c7
          exact hk57 y4 σ _ _ _ hw hP hS (lv_sub hl [0, 1, 2, 3, 4] rfl)
        · have hw := hw.1 c7
          obtain ⟨v8, ev8⟩ : ∃ z : Int32, z = y4 + (1 : Int32) := ⟨_, rfl⟩
          have hw := hw v8 ev8
          refine lv_iinc (v := v8) (lv' := [(4, .int v8), (0, .int z0), (1, .int z1), (2, .int z2), (3, .int z3)]) hx hb dX8_isBefore_51 hl (k := 4) rfl (by rw [ev8]; rfl) (by decide) rfl (fun ls hl => ?_)
          refine lv_goto (tgt := 29) hx hb dX8_isBefore_54 (by decide) ?_
          exact ih v8 σ _ _ _ hw hk57 hP hS (lv_sub hl [1, 2, 3, 4, 0] rfl)
  have hl := lv_entry ([.int x0, .int x1]) (n := 5) (Nat.le_of_ble_eq_true rfl)
  rw [lg_entry_eq]
  generalize (lg_sl ([.int x0, .int x1]) ++ List.replicate (5 - (lg_sl ([.int x0, .int x1])).length) Slot.unset).toArray = ls at hl ⊢
  have hl : lv_has ls 5 [(0, .int x0), (1, .int x1)] := hl
  unfold wX8_isBefore at hw
  refine lv_iload_n hx hb dX8_isBefore_0 rfl (lv_at hl 0 rfl) ?_
  refine va_calli (va_runS (As := [.int x0]) (rest := []) ⟨hx, hb, hml, hown, htb⟩ (kcX8_sizeOf_m l D c q ev hev σ x0 _ hw) (tb_CS htb kX8_sizeOf tb_1493 tb_1494 ⟨Nat.le_of_ble_eq_true rfl, Nat.le_of_ble_eq_true rfl⟩) (wd_preS (wd := mw c q) hev hK hP hD hE hS) rfl rfl hl.1 rfl (lv_room (Nat.le_of_ble_eq_true rfl)) dX8_isBefore_1 ⟨Nat.zero_le _, Nat.zero_le _⟩) hS (fun q _ h => h) (fun q h => h) (fun r1 σ2 t H1 locs1 ht hvm hw hB hz1 hk1 hS => ?_)
  have hP : va_P D vwCl (mw c q σ2) H1 := ht ▸ hB
  have hD : va_D (wdA 31 q) (mw c q σ2) := mw_D hD0
  refine lv_istore_n (lv' := [(2, .int r1), (0, .int x0), (1, .int x1)]) hx hb dX8_isBefore_4 rfl hl (by decide) rfl (fun ls hl => ?_)
  refine lv_iload_n hx hb dX8_isBefore_5 rfl (lv_at hl 2 rfl) ?_
  refine va_calli (va_runS (As := [.int x1]) (rest := []) ⟨hx, hb, hml, hown, htb⟩ (kcX8_sizeOf_m l D c q ev hev σ2 x1 _ hw) (tb_CS htb kX8_sizeOf tb_1493 tb_1494 ⟨Nat.le_of_ble_eq_true rfl, Nat.le_of_ble_eq_true rfl⟩) (wd_preS (wd := mw c q) hev hK hP hD hE hS) rfl rfl hl.1 rfl (lv_room (Nat.le_of_ble_eq_true rfl)) dX8_isBefore_6 ⟨Nat.zero_le _, Nat.zero_le _⟩) hS (fun q _ h => h) (fun q h => h) (fun r3 σ4 t H1 locs1 ht hvm hw hB hz1 hk1 hS => ?_)
  have hP : va_P D vwCl (mw c q σ4) H1 := ht ▸ hB
  have hD : va_D (wdA 31 q) (mw c q σ4) := mw_D hD0
  refine lv_istore_n (lv' := [(3, .int r3), (2, .int r1), (0, .int x0), (1, .int x1)]) hx hb dX8_isBefore_9 rfl hl (by decide) rfl (fun ls hl => ?_)
  refine lv_iload_n hx hb dX8_isBefore_10 rfl (lv_at hl 1 rfl) ?_
  refine lv_iload_n hx hb dX8_isBefore_11 rfl (lv_at hl 0 rfl) ?_
  refine lv_icmp_eq (tgt := 26) hx hb dX8_isBefore_12 (by decide) (fun c5 => ?_) (fun c5 => ?_)
  · have hw := hw.1 c5
    refine lv_iconst (v := (0 : Int32)) hx hb dX8_isBefore_26 (by decide) ?_
    refine lv_istore (lv' := [(4, .int (0 : Int32)), (3, .int r3), (2, .int r1), (0, .int x0), (1, .int x1)]) hx hb dX8_isBefore_27 hl (by decide) rfl (fun ls hl => ?_)
    obtain ⟨n9, hw⟩ := hw
    refine L29 _ x0 x1 r1 r3 n9 (0 : Int32) σ4 _ _ _ hw ?_ hP hS (lv_sub hl [3, 4, 2, 1, 0] rfl)
    intro v10 σ11 H locs ls hw hP hS hl
    have hD : va_D (wdA 31 q) (mw c q σ11) := mw_D hD0
    refine lv_iload hx hb dX8_isBefore_57 (lv_at hl 4 rfl) ?_
    refine lv_bipush (v := (12 : Int32)) hx hb dX8_isBefore_59 (by decide) ?_
    refine lv_icmp_ge (tgt := 78) hx hb dX8_isBefore_61 (by decide) (fun c12 => ?_) (fun c12 => ?_)
    · have hw := hw.1 c12
      refine lv_iconst (v := (0 : Int32)) hx hb dX8_isBefore_78 (by decide) ?_
      exact W.zret hx hb hr rfl (fun t ht hW => ⟨⟨_, σ11, rfl, hw, by unfold wdB; rw [ht]; exact hP⟩, hS.F ht⟩) hS.2.2 dX8_isBefore_79
    · have hw := hw.2 c12
      refine lv_iload_n hx hb dX8_isBefore_64 rfl (lv_at hl 0 rfl) ?_
      refine lv_iload hx hb dX8_isBefore_65 (lv_at hl 4 rfl) ?_
      refine lv_ishr hx hb dX8_isBefore_67 ?_
      refine lv_iconst (v := (1 : Int32)) hx hb dX8_isBefore_68 (by decide) ?_
      refine lv_iand hx hb dX8_isBefore_69 ?_
      refine lv_iconst (v := (1 : Int32)) hx hb dX8_isBefore_70 (by decide) ?_
      refine lv_icmp_ne (tgt := 78) hx hb dX8_isBefore_71 (by decide) (fun c13 => ?_) (fun c13 => ?_)
      · have hw := hw.2 c13
        refine lv_iconst (v := (0 : Int32)) hx hb dX8_isBefore_78 (by decide) ?_
        exact W.zret hx hb hr rfl (fun t ht hW => ⟨⟨_, σ11, rfl, hw, by unfold wdB; rw [ht]; exact hP⟩, hS.F ht⟩) hS.2.2 dX8_isBefore_79
      · have hw := hw.1 c13
        refine lv_iconst (v := (1 : Int32)) hx hb dX8_isBefore_74 (by decide) ?_
        refine lv_goto (tgt := 79) hx hb dX8_isBefore_75 (by decide) ?_
        exact W.zret hx hb hr rfl (fun t ht hW => ⟨⟨_, σ11, rfl, hw, by unfold wdB; rw [ht]; exact hP⟩, hS.F ht⟩) hS.2.2 dX8_isBefore_79
  · have hw := hw.2 c5
    refine lv_iload_n hx hb dX8_isBefore_15 rfl (lv_at hl 1 rfl) ?_
    refine lv_iload_n hx hb dX8_isBefore_16 rfl (lv_at hl 0 rfl) ?_
    refine lv_icmp_ge (tgt := 24) hx hb dX8_isBefore_17 (by decide) (fun c14 => ?_) (fun c14 => ?_)
    · have hw := hw.1 c14
      refine lv_iconst (v := (0 : Int32)) hx hb dX8_isBefore_24 (by decide) ?_
      exact W.zret hx hb hr rfl (fun t ht hW => ⟨⟨_, σ4, rfl, hw, by unfold wdB; rw [ht]; exact hP⟩, hS.F ht⟩) hS.2.2 dX8_isBefore_25
    · have hw := hw.2 c14
      refine lv_iconst (v := (1 : Int32)) hx hb dX8_isBefore_20 (by decide) ?_
      refine lv_goto (tgt := 25) hx hb dX8_isBefore_21 (by decide) ?_
      exact W.zret hx hb hr rfl (fun t ht hW => ⟨⟨_, σ4, rfl, hw, by unfold wdB; rw [ht]; exact hP⟩, hS.F ht⟩) hS.2.2 dX8_isBefore_25
def wX8_striker_L27 (z1 : Int32) (K64 : Int32 → Int32 → hsS → Prop) (post : Int32 → hsS → Prop) : Nat → Int32 → Int32 → hsS → Prop
  | 0, _, _, _ => False
  | n + 1, y2, y3, σ => wX8_everybody  (fun r9 σ10 => ((r9 < y3 → K64 y2 y3 σ10) ∧ (¬ r9 < y3 → wX8_strikesOf y3 z1 (fun r12 σ13 => ((r12 = (0 : Int32) → ∀ v15 : Int32, v15 = y3 + (1 : Int32) → wX8_striker_L27 z1 K64 post n y2 v15 σ13) ∧ (¬ r12 = (0 : Int32) → ((y2 = (0 : Int32) → ∀ v17 : Int32, v17 = y3 + (1 : Int32) → wX8_striker_L27 z1 K64 post n y3 v17 σ13) ∧ (¬ y2 = (0 : Int32) → wX8_isBefore y3 y2 (fun r18 σ19 => ((r18 = (0 : Int32) → ∀ v21 : Int32, v21 = y3 + (1 : Int32) → wX8_striker_L27 z1 K64 post n y2 v21 σ19) ∧ (¬ r18 = (0 : Int32) → ∀ v22 : Int32, v22 = y3 + (1 : Int32) → wX8_striker_L27 z1 K64 post n y3 v22 σ19))) σ13))))) σ10))) σ
def wX8_striker (x1 : Int32) (post : Int32 → hsS → Prop) (σ : hsS) : Prop := ∀ σ1 : hsS, σ1 = hsI σ 0 (0 : Int32) → wX8_isThing x1 (fun r2 σ3 => ((r2 = (0 : Int32) → wX8_fail (1 : Int32) (fun r5 σ6 => post r5 σ6) σ3) ∧ (¬ r2 = (0 : Int32) → wX8_look  (fun σ8 => ∃ n23, wX8_striker_L27 x1 (fun v24 v25 σ26 => post v24 σ26) post n23 (0 : Int32) (1 : Int32) σ8) σ3))) σ1
set_option maxHeartbeats 4000000 in
set_option maxRecDepth 100000 in
theorem kcX8_striker (l : Launch) (D : va_G) (c : Nat → ClassId) (q : Nat → Nat) (ev : State → Heap → Prop) (hev : evOK (wdA 31 q) ev) (σ : hsS) (x1 : Int32) (post : Int32 → hsS → Prop) (hw : wX8_striker x1 post σ) : Met l yX8_striker (Cond.code yX8_striker cX8_striker 4 (some .int) :: tb_L) { frames := 3, cells := 0, slots := 0, locals := 87 } (wdPc D (mw c q) (mwT c) (wdA 31 q) ev σ [.ref (q 0), .int x1]) (va_Qi post (wdB D (mw c q)) (wdA 31 q)) 0 0 (wdA 31 q) := by
  refine Met.ofW (cc := cX8_striker) (maxL := 4) (ret := (some .int)) (by decide) rfl ?_
  intro p e s m args below meth c₀ s₁ Bd hml hv
  obtain ⟨rfl, hP, hK, hD0, hE⟩ := hv
  have hx := Bd.exec
  have hb := Bd.bytes
  have hr := Bd.returns
  have hts := atoms_spec (ws := Cond.code yX8_striker cX8_striker 4 (some .int) :: tb_L) Bd.pre
  have htb : ∀ w ∈ tb_L, w.before [.ref (q 0), .int x1].toArray s = true := fun w h => hts w (List.mem_cons_of_mem _ h)
  have hown : s.vm.findClass RX8 = some m.cls := findClass_of_methodNamed Bd.named
  have hlocks := Bd.notSynchronized
  have hS : va_S (wdA 31 q) s.heap s.heap [] := va_S.rf
  have hD := hD0
  have L27 : ∀ (K64 : Int32 → Int32 → hsS → Prop) (z1 : Int32) (n : Nat) (y2 : Int32) (y3 : Int32) (σ : hsS) (H : Heap) (locs : List Loc) (ls : Array Slot), wX8_striker_L27 z1 K64 post n y2 y3 σ → (∀ (y2 : Int32) (y3 : Int32) (σ : hsS) (H : Heap) (locs : List Loc) (ls : Array Slot), K64 y2 y3 σ → va_P D vwCl (mw c q σ) H → va_S (wdA 31 q) s.heap H locs → lv_has ls 4 [(0, .ref (q 0)), (1, .int z1), (2, .int y2), (3, .int y3)] → W p l e (headSpec (Cond.code yX8_striker cX8_striker 4 (some .int) :: tb_L) { frames := 3, cells := 0, slots := 0, locals := 87 }).room s m [.ref (q 0), .int x1].toArray below meth c₀ H locs 0 0 (MQ below (va_Qi post (wdB D (mw c q)) (wdA 31 q)) [.ref (q 0), .int x1].toArray s 0 0 (wdA 31 q)) (F0 m 64 ls [])) → va_P D vwCl (mw c q σ) H → va_S (wdA 31 q) s.heap H locs → lv_has ls 4 [(0, .ref (q 0)), (1, .int z1), (2, .int y2), (3, .int y3)] → W p l e (headSpec (Cond.code yX8_striker cX8_striker 4 (some .int) :: tb_L) { frames := 3, cells := 0, slots := 0, locals := 87 }).room s m [.ref (q 0), .int x1].toArray below meth c₀ H locs 0 0 (MQ below (va_Qi post (wdB D (mw c q)) (wdA 31 q)) [.ref (q 0), .int x1].toArray s 0 0 (wdA 31 q)) (F0 m 27 ls []) := by
    intro K64 z1 n
    induction n with
    | zero =>
      intro y2 y3 σ H locs ls hw hk64 hP hS hl
      exact (show False from hw).elim
    | succ n ih =>
      intro y2 y3 σ H locs ls hw hk64 hP hS hl
      rw [wX8_striker_L27] at hw
      have hD : va_D (wdA 31 q) (mw c q σ) := mw_D hD0
      refine lv_iload_n hx hb dX8_striker_27 rfl (lv_at hl 3 rfl) ?_
      refine lv_aload_n hx hb dX8_striker_28 rfl (lv_at hl 0 rfl) ?_
      refine va_calli (va_runV (As := []) (rest := [.int y3]) ⟨hx, hb, hml, hown, htb⟩ (kcX8_everybody l D c q ev hev σ  _ hw) (tb_CW htb kX8_everybody tb_1485 tb_1487 tb_61 ⟨Nat.le_of_ble_eq_true rfl, Nat.le_of_ble_eq_true rfl⟩) (wd_preV (wd := mw c q) (k := 0) hev hK hP hD hE hS (mw_0 c q σ) rfl) rfl rfl hl.1 rfl (lv_room (Nat.le_of_ble_eq_true rfl)) dX8_striker_29 ⟨Nat.zero_le _, Nat.zero_le _⟩) hS (fun q _ h => h) (fun q h => h) (fun r9 σ10 t H1 locs1 ht hvm hw hB hz1 hk1 hS => ?_)
      have hP : va_P D vwCl (mw c q σ10) H1 := ht ▸ hB
      have hD : va_D (wdA 31 q) (mw c q σ10) := mw_D hD0
      refine lv_icmp_gt (tgt := 64) hx hb dX8_striker_32 (by decide) (fun c11 => ?_) (fun c11 => ?_)
      · have hw := hw.1 c11
        exact hk64 y2 y3 σ10 _ _ _ hw hP hS (lv_sub hl [0, 1, 2, 3] rfl)
      · have hw := hw.2 c11
        refine lv_aload_n hx hb dX8_striker_35 rfl (lv_at hl 0 rfl) ?_
        refine lv_iload_n hx hb dX8_striker_36 rfl (lv_at hl 3 rfl) ?_
        refine lv_iload_n hx hb dX8_striker_37 rfl (lv_at hl 1 rfl) ?_
        refine va_calli (va_runV (As := [.int y3, .int z1]) (rest := []) ⟨hx, hb, hml, hown, htb⟩ (kcX8_strikesOf l D c q ev hev σ10 y3 z1 _ hw) (tb_CW htb kX8_strikesOf tb_1520 tb_1522 tb_67 ⟨Nat.le_of_ble_eq_true rfl, Nat.le_of_ble_eq_true rfl⟩) (wd_preV (wd := mw c q) (k := 0) hev hK hP hD hE hS (mw_0 c q σ10) rfl) rfl rfl hl.1 rfl (lv_room (Nat.le_of_ble_eq_true rfl)) dX8_striker_38 ⟨Nat.zero_le _, Nat.zero_le _⟩) hS (fun q _ h => h) (fun q h => h) (fun r12 σ13 t H1 locs1 ht hvm hw hB hz1 hk1 hS => ?_)
        have hP : va_P D vwCl (mw c q σ13) H1 := ht ▸ hB
        have hD : va_D (wdA 31 q) (mw c q σ13) := mw_D hD0
        refine lv_if_eq (tgt := 58) hx hb dX8_striker_41 (by decide) (fun c14 => ?_) (fun c14 => ?_)
        · have hw := hw.1 c14
          obtain ⟨v15, ev15⟩ : ∃ z : Int32, z = y3 + (1 : Int32) := ⟨_, rfl⟩
          have hw := hw v15 ev15
          refine lv_iinc (v := v15) (lv' := [(3, .int v15), (0, .ref (q 0)), (1, .int z1), (2, .int y2)]) hx hb dX8_striker_58 hl (k := 3) rfl (by rw [ev15]; rfl) (by decide) rfl (fun ls hl => ?_)
          refine lv_goto (tgt := 27) hx hb dX8_striker_61 (by decide) ?_
          exact ih y2 v15 σ13 _ _ _ hw hk64 hP hS (lv_sub hl [1, 2, 3, 0] rfl)
        · have hw := hw.2 c14
          refine lv_iload_n hx hb dX8_striker_44 rfl (lv_at hl 2 rfl) ?_
          refine lv_if_eq (tgt := 56) hx hb dX8_striker_45 (by decide) (fun c16 => ?_) (fun c16 => ?_)
          · have hw := hw.1 c16
            refine lv_iload_n hx hb dX8_striker_56 rfl (lv_at hl 3 rfl) ?_
            refine lv_istore_n (lv' := [(2, .int y3), (0, .ref (q 0)), (1, .int z1), (3, .int y3)]) hx hb dX8_striker_57 rfl hl (by decide) rfl (fun ls hl => ?_)
            obtain ⟨v17, ev17⟩ : ∃ z : Int32, z = y3 + (1 : Int32) := ⟨_, rfl⟩
            have hw := hw v17 ev17
            refine lv_iinc (v := v17) (lv' := [(3, .int v17), (2, .int y3), (0, .ref (q 0)), (1, .int z1)]) hx hb dX8_striker_58 hl (k := 3) rfl (by rw [ev17]; rfl) (by decide) rfl (fun ls hl => ?_)
            refine lv_goto (tgt := 27) hx hb dX8_striker_61 (by decide) ?_
            exact ih y3 v17 σ13 _ _ _ hw hk64 hP hS (lv_sub hl [2, 3, 1, 0] rfl)
          · have hw := hw.2 c16
            refine lv_iload_n hx hb dX8_striker_48 rfl (lv_at hl 3 rfl) ?_
            refine lv_iload_n hx hb dX8_striker_49 rfl (lv_at hl 2 rfl) ?_
            refine va_calli (va_runS (As := [.int y3, .int y2]) (rest := []) ⟨hx, hb, hml, hown, htb⟩ (kcX8_isBefore_m l D c q ev hev σ13 y3 y2 _ hw) (tb_CS htb kX8_isBefore tb_1528 tb_1529 ⟨Nat.le_of_ble_eq_true rfl, Nat.le_of_ble_eq_true rfl⟩) (wd_preS (wd := mw c q) hev hK hP hD hE hS) rfl rfl hl.1 rfl (lv_room (Nat.le_of_ble_eq_true rfl)) dX8_striker_50 ⟨Nat.zero_le _, Nat.zero_le _⟩) hS (fun q _ h => h) (fun q h => h) (fun r18 σ19 t H1 locs1 ht hvm hw hB hz1 hk1 hS => ?_)
            have hP : va_P D vwCl (mw c q σ19) H1 := ht ▸ hB
            have hD : va_D (wdA 31 q) (mw c q σ19) := mw_D hD0
            refine lv_if_eq (tgt := 58) hx hb dX8_striker_53 (by decide) (fun c20 => ?_) (fun c20 => ?_)
            · have hw := hw.1 c20
              obtain ⟨v21, ev21⟩ : ∃ z : Int32, z = y3 + (1 : Int32) := ⟨_, rfl⟩
              have hw := hw v21 ev21
              refine lv_iinc (v := v21) (lv' := [(3, .int v21), (0, .ref (q 0)), (1, .int z1), (2, .int y2)]) hx hb dX8_striker_58 hl (k := 3) rfl (by rw [ev21]; rfl) (by decide) rfl (fun ls hl => ?_)
              refine lv_goto (tgt := 27) hx hb dX8_striker_61 (by decide) ?_
              exact ih y2 v21 σ19 _ _ _ hw hk64 hP hS (lv_sub hl [1, 2, 3, 0] rfl)
            · have hw := hw.2 c20
              refine lv_iload_n hx hb dX8_striker_56 rfl (lv_at hl 3 rfl) ?_
              refine lv_istore_n (lv' := [(2, .int y3), (0, .ref (q 0)), (1, .int z1), (3, .int y3)]) hx hb dX8_striker_57 rfl hl (by decide) rfl (fun ls hl => ?_)
              obtain ⟨v22, ev22⟩ : ∃ z : Int32, z = y3 + (1 : Int32) := ⟨_, rfl⟩
              have hw := hw v22 ev22
              refine lv_iinc (v := v22) (lv' := [(3, .int v22), (2, .int y3), (0, .ref (q 0)), (1, .int z1)]) hx hb dX8_striker_58 hl (k := 3) rfl (by rw [ev22]; rfl) (by decide) rfl (fun ls hl => ?_)
              refine lv_goto (tgt := 27) hx hb dX8_striker_61 (by decide) ?_
              exact ih y3 v22 σ19 _ _ _ hw hk64 hP hS (lv_sub hl [2, 3, 1, 0] rfl)
  have hl := lv_entry ([.ref (q 0), .int x1]) (n := 4) (Nat.le_of_ble_eq_true rfl)
  rw [lg_entry_eq]
  generalize (lg_sl ([.ref (q 0), .int x1]) ++ List.replicate (4 - (lg_sl ([.ref (q 0), .int x1])).length) Slot.unset).toArray = ls at hl ⊢
  have hl : lv_has ls 4 [(0, .ref (q 0)), (1, .int x1)] := hl
  unfold wX8_striker at hw
  refine lv_aload_n hx hb dX8_striker_0 rfl (lv_at hl 0 rfl) ?_
  refine lv_iconst (v := (0 : Int32)) hx hb dX8_striker_1 (by decide) ?_
  refine va_put (D := D) (ci := 8) (ty := .int) (C := RX8) (T := TX8) (N := 57) hx hb htb inX8 tyX8 tyX8_ok nmX8 hown hK hP hD hS 0 (mw_0 c q σ) rfl 0 (by decide) (htb _ tb_1181) (fun _ h9 => h9) rfl (by decide +kernel) rfl rfl (Nat.le_of_ble_eq_true rfl) dX8_striker_2 (fun H locs hP hD hS => ?_)
  have hP : va_P D vwCl (mw c q (hsI σ 0 (0 : Int32))) H := hP
  obtain ⟨σ1, eσ1⟩ : ∃ z : hsS, z = hsI σ 0 (0 : Int32) := ⟨_, rfl⟩
  rw [← eσ1] at hP
  have hD : va_D (wdA 31 q) (mw c q σ1) := mw_D hD0
  have hw := hw σ1 eσ1
  refine lv_aload_n hx hb dX8_striker_5 rfl (lv_at hl 0 rfl) ?_
  refine lv_iload_n hx hb dX8_striker_6 rfl (lv_at hl 1 rfl) ?_
  refine va_calli (va_runV (As := [.int x1]) (rest := []) ⟨hx, hb, hml, hown, htb⟩ (kcX8_isThing l D c q ev hev σ1 x1 _ hw) (tb_CW htb kX8_isThing tb_1473 tb_1475 tb_59 ⟨Nat.le_of_ble_eq_true rfl, Nat.le_of_ble_eq_true rfl⟩) (wd_preV (wd := mw c q) (k := 0) hev hK hP hD hE hS (mw_0 c q σ1) rfl) rfl rfl hl.1 rfl (lv_room (Nat.le_of_ble_eq_true rfl)) dX8_striker_7 ⟨Nat.zero_le _, Nat.zero_le _⟩) hS (fun q _ h => h) (fun q h => h) (fun r2 σ3 t H1 locs1 ht hvm hw hB hz1 hk1 hS => ?_)
  have hP : va_P D vwCl (mw c q σ3) H1 := ht ▸ hB
  have hD : va_D (wdA 31 q) (mw c q σ3) := mw_D hD0
  refine lv_if_ne (tgt := 19) hx hb dX8_striker_10 (by decide) (fun c4 => ?_) (fun c4 => ?_)
  · have hw := hw.2 c4
    refine lv_aload_n hx hb dX8_striker_19 rfl (lv_at hl 0 rfl) ?_
    refine va_callv (va_runV (As := []) (rest := []) ⟨hx, hb, hml, hown, htb⟩ (kcX8_look l D c q ev hev σ3  _ hw) (tb_CW htb kX8_look tb_1500 tb_1502 tb_63 ⟨Nat.le_of_ble_eq_true rfl, Nat.le_of_ble_eq_true rfl⟩) (wd_preV (wd := mw c q) (k := 0) hev hK hP hD hE hS (mw_0 c q σ3) rfl) rfl rfl hl.1 rfl (lv_room (Nat.le_of_ble_eq_true rfl)) dX8_striker_20 ⟨Nat.zero_le _, Nat.zero_le _⟩) hS (fun q _ h => h) (fun q h => h) (fun σ8 t H1 locs1 ht hvm hw hB hz1 hk1 hS => ?_)
    have hP : va_P D vwCl (mw c q σ8) H1 := ht ▸ hB
    have hD : va_D (wdA 31 q) (mw c q σ8) := mw_D hD0
    refine lv_iconst (v := (0 : Int32)) hx hb dX8_striker_23 (by decide) ?_
    refine lv_istore_n (lv' := [(2, .int (0 : Int32)), (0, .ref (q 0)), (1, .int x1)]) hx hb dX8_striker_24 rfl hl (by decide) rfl (fun ls hl => ?_)
    refine lv_iconst (v := (1 : Int32)) hx hb dX8_striker_25 (by decide) ?_
    refine lv_istore_n (lv' := [(3, .int (1 : Int32)), (2, .int (0 : Int32)), (0, .ref (q 0)), (1, .int x1)]) hx hb dX8_striker_26 rfl hl (by decide) rfl (fun ls hl => ?_)
    obtain ⟨n23, hw⟩ := hw
    refine L27 _ x1 n23 (0 : Int32) (1 : Int32) σ8 _ _ _ hw ?_ hP hS (lv_sub hl [2, 3, 1, 0] rfl)
    intro v24 v25 σ26 H locs ls hw hP hS hl
    have hD : va_D (wdA 31 q) (mw c q σ26) := mw_D hD0
    refine lv_iload_n hx hb dX8_striker_64 rfl (lv_at hl 2 rfl) ?_
    exact W.iret hx hb hr (fun t ht hW => ⟨⟨_, σ26, rfl, hw, by unfold wdB; rw [ht]; exact hP⟩, hS.F ht⟩) hS.2.2 dX8_striker_65
  · have hw := hw.1 c4
    refine lv_aload_n hx hb dX8_striker_13 rfl (lv_at hl 0 rfl) ?_
    refine lv_iconst (v := (1 : Int32)) hx hb dX8_striker_14 (by decide) ?_
    refine va_calli (va_runV (As := [.int (1 : Int32)]) (rest := []) ⟨hx, hb, hml, hown, htb⟩ (kcX8_fail l D c q ev hev σ3 (1 : Int32) _ hw) (tb_CW htb kX8_fail tb_1366 tb_1368 tb_42 ⟨Nat.le_of_ble_eq_true rfl, Nat.le_of_ble_eq_true rfl⟩) (wd_preV (wd := mw c q) (k := 0) hev hK hP hD hE hS (mw_0 c q σ3) rfl) rfl rfl hl.1 rfl (lv_room (Nat.le_of_ble_eq_true rfl)) dX8_striker_15 ⟨Nat.zero_le _, Nat.zero_le _⟩) hS (fun q _ h => h) (fun q h => h) (fun r5 σ6 t H1 locs1 ht hvm hw hB hz1 hk1 hS => ?_)
    have hP : va_P D vwCl (mw c q σ6) H1 := ht ▸ hB
    have hD : va_D (wdA 31 q) (mw c q σ6) := mw_D hD0
    exact W.iret hx hb hr (fun t ht hW => ⟨⟨_, σ6, rfl, hw, by unfold wdB; rw [ht]; exact hP⟩, hS.F ht⟩) hS.2.2 dX8_striker_18
def wX8_tellMays_L54 (z1 : Int32) (K91 : Int32 → hsS → Prop) (post : hsS → Prop) : Nat → Int32 → hsS → Prop
  | 0, _, _ => False
  | n + 1, y2, σ => (((256 : Int32) ≤ y2 → K91 y2 σ) ∧ (¬ (256 : Int32) ≤ y2 → (((y2 &&& (z1 ^^^ (-1 : Int32))) = (0 : Int32) → wX8_mayOf y2 z1 (σ.1 25) (fun r9 σ10 => vp_in y2 256 ∧ ∀ σ11 : hsS, σ11 = hsA σ10 14 (upd (σ10.2.1 14) y2.toNatClampNeg r9) → ∀ v12 : Int32, v12 = y2 + (1 : Int32) → wX8_tellMays_L54 z1 K91 post n v12 σ11) σ) ∧ (¬ (y2 &&& (z1 ^^^ (-1 : Int32))) = (0 : Int32) → ∀ v13 : Int32, v13 = y2 + (1 : Int32) → wX8_tellMays_L54 z1 K91 post n v13 σ))))
def wX8_tellMays (x1 : Int32) (post : hsS → Prop) (σ : hsS) : Prop := (((σ.1 28) = (σ.1 12) → (((σ.1 29) = x1 → (((σ.1 30) = (σ.1 25) → post σ) ∧ (¬ (σ.1 30) = (σ.1 25) → ∀ σ4 : hsS, σ4 = hsI σ 28 (σ.1 12) → ∀ σ5 : hsS, σ5 = hsI σ4 29 x1 → ∀ σ6 : hsS, σ6 = hsI σ5 30 (σ5.1 25) → ∃ n14, wX8_tellMays_L54 x1 (fun v15 σ16 => post σ16) post n14 (0 : Int32) σ6))) ∧ (¬ (σ.1 29) = x1 → ∀ σ17 : hsS, σ17 = hsI σ 28 (σ.1 12) → ∀ σ18 : hsS, σ18 = hsI σ17 29 x1 → ∀ σ19 : hsS, σ19 = hsI σ18 30 (σ18.1 25) → ∃ n20, wX8_tellMays_L54 x1 (fun v21 σ22 => post σ22) post n20 (0 : Int32) σ19))) ∧ (¬ (σ.1 28) = (σ.1 12) → ∀ σ23 : hsS, σ23 = hsI σ 28 (σ.1 12) → ∀ σ24 : hsS, σ24 = hsI σ23 29 x1 → ∀ σ25 : hsS, σ25 = hsI σ24 30 (σ24.1 25) → ∃ n26, wX8_tellMays_L54 x1 (fun v27 σ28 => post σ28) post n26 (0 : Int32) σ25))
set_option maxHeartbeats 4000000 in
set_option maxRecDepth 100000 in
theorem kcX8_tellMays (l : Launch) (D : va_G) (c : Nat → ClassId) (q : Nat → Nat) (ev : State → Heap → Prop) (hev : evOK (wdA 31 q) ev) (σ : hsS) (x1 : Int32) (post : hsS → Prop) (hw : wX8_tellMays x1 post σ) : Met l yX8_tellMays (Cond.code yX8_tellMays cX8_tellMays 3 none :: tb_L) { frames := 2, cells := 0, slots := 0, locals := 65 } (wdPc D (mw c q) (mwT c) (wdA 31 q) ev σ [.ref (q 0), .int x1]) (va_Qv post (wdB D (mw c q)) (wdA 31 q)) 0 0 (wdA 31 q) := by
  refine Met.ofW (cc := cX8_tellMays) (maxL := 3) (ret := none) (by decide) rfl ?_
  intro p e s m args below meth c₀ s₁ Bd hml hv
  obtain ⟨rfl, hP, hK, hD0, hE⟩ := hv
  have hx := Bd.exec
  have hb := Bd.bytes
  have hr := Bd.returns
  have hts := atoms_spec (ws := Cond.code yX8_tellMays cX8_tellMays 3 none :: tb_L) Bd.pre
  have htb : ∀ w ∈ tb_L, w.before [.ref (q 0), .int x1].toArray s = true := fun w h => hts w (List.mem_cons_of_mem _ h)
  have hown : s.vm.findClass RX8 = some m.cls := findClass_of_methodNamed Bd.named
  have hlocks := Bd.notSynchronized
  have hS : va_S (wdA 31 q) s.heap s.heap [] := va_S.rf
  have hD := hD0
  have L54 : ∀ (K91 : Int32 → hsS → Prop) (z1 : Int32) (n : Nat) (y2 : Int32) (σ : hsS) (H : Heap) (locs : List Loc) (ls : Array Slot), wX8_tellMays_L54 z1 K91 post n y2 σ → (∀ (y2 : Int32) (σ : hsS) (H : Heap) (locs : List Loc) (ls : Array Slot), K91 y2 σ → va_P D vwCl (mw c q σ) H → va_S (wdA 31 q) s.heap H locs → lv_has ls 3 [(0, .ref (q 0)), (1, .int z1), (2, .int y2)] → W p l e (headSpec (Cond.code yX8_tellMays cX8_tellMays 3 none :: tb_L) { frames := 2, cells := 0, slots := 0, locals := 65 }).room s m [.ref (q 0), .int x1].toArray below meth c₀ H locs 0 0 (MQ below (va_Qv post (wdB D (mw c q)) (wdA 31 q)) [.ref (q 0), .int x1].toArray s 0 0 (wdA 31 q)) (F0 m 91 ls [])) → va_P D vwCl (mw c q σ) H → va_S (wdA 31 q) s.heap H locs → lv_has ls 3 [(0, .ref (q 0)), (1, .int z1), (2, .int y2)] → W p l e (headSpec (Cond.code yX8_tellMays cX8_tellMays 3 none :: tb_L) { frames := 2, cells := 0, slots := 0, locals := 65 }).room s m [.ref (q 0), .int x1].toArray below meth c₀ H locs 0 0 (MQ below (va_Qv post (wdB D (mw c q)) (wdA 31 q)) [.ref (q 0), .int x1].toArray s 0 0 (wdA 31 q)) (F0 m 54 ls []) := by
    intro K91 z1 n
    induction n with
    | zero =>
      intro y2 σ H locs ls hw hk91 hP hS hl
      exact (show False from hw).elim
    | succ n ih =>
      intro y2 σ H locs ls hw hk91 hP hS hl
      rw [wX8_tellMays_L54] at hw
      have hD : va_D (wdA 31 q) (mw c q σ) := mw_D hD0
      refine lv_iload_n hx hb dX8_tellMays_54 rfl (lv_at hl 2 rfl) ?_
      refine lv_sipush (v := (256 : Int32)) hx hb dX8_tellMays_55 (by decide) ?_
      refine lv_icmp_ge (tgt := 91) hx hb dX8_tellMays_58 (by decide) (fun c7 => ?_) (fun c7 => ?_)
      · have hw := hw.1 c7
        exact hk91 y2 σ _ _ _ hw hP hS (lv_sub hl [0, 1, 2] rfl)
      · have hw := hw.2 c7
        refine lv_iload_n hx hb dX8_tellMays_61 rfl (lv_at hl 2 rfl) ?_
        refine lv_iload_n hx hb dX8_tellMays_62 rfl (lv_at hl 1 rfl) ?_
        refine lv_iconst (v := (-1 : Int32)) hx hb dX8_tellMays_63 (by decide) ?_
        refine lv_ixor hx hb dX8_tellMays_64 ?_
        refine lv_iand hx hb dX8_tellMays_65 ?_
        refine lv_if_ne (tgt := 85) hx hb dX8_tellMays_66 (by decide) (fun c8 => ?_) (fun c8 => ?_)
        · have hw := hw.2 c8
          obtain ⟨v13, ev13⟩ : ∃ z : Int32, z = y2 + (1 : Int32) := ⟨_, rfl⟩
          have hw := hw v13 ev13
          refine lv_iinc (v := v13) (lv' := [(2, .int v13), (0, .ref (q 0)), (1, .int z1)]) hx hb dX8_tellMays_85 hl (k := 2) rfl (by rw [ev13]; rfl) (by decide) rfl (fun ls hl => ?_)
          refine lv_goto (tgt := 54) hx hb dX8_tellMays_88 (by decide) ?_
          exact ih v13 σ _ _ _ hw hk91 hP hS (lv_sub hl [1, 2, 0] rfl)
        · have hw := hw.1 c8
          refine lv_aload_n hx hb dX8_tellMays_69 rfl (lv_at hl 0 rfl) ?_
          refine va_get (D := D) (ci := 8) (C := RX8) (T := TX8) (N := 57) hx hb htb inX8 hown hK hP 0 (mw_0 c q σ) rfl 26 (by decide) (htb _ tb_1207) (fun _ h9 => h9) rfl dX8_tellMays_70 ?_
          refine lv_iload_n hx hb dX8_tellMays_73 rfl (lv_at hl 2 rfl) ?_
          refine lv_aload_n hx hb dX8_tellMays_74 rfl (lv_at hl 0 rfl) ?_
          refine lv_iload_n hx hb dX8_tellMays_75 rfl (lv_at hl 2 rfl) ?_
          refine lv_iload_n hx hb dX8_tellMays_76 rfl (lv_at hl 1 rfl) ?_
          refine lv_aload_n hx hb dX8_tellMays_77 rfl (lv_at hl 0 rfl) ?_
          refine va_get (D := D) (ci := 8) (C := RX8) (T := TX8) (N := 57) hx hb htb inX8 hown hK hP 0 (mw_0 c q σ) rfl 25 (by decide) (htb _ tb_1206) (fun _ h9 => h9) rfl dX8_tellMays_78 ?_
          refine va_calli (va_runV (As := [.int y2, .int z1, .int (σ.1 25)]) (rest := [.int y2, .ref (q 14)]) ⟨hx, hb, hml, hown, htb⟩ (kcX8_mayOf l D c q ev hev σ y2 z1 (σ.1 25) _ hw) (tb_CW htb kX8_mayOf tb_1489 tb_1491 tb_62 ⟨Nat.le_of_ble_eq_true rfl, Nat.le_of_ble_eq_true rfl⟩) (wd_preV (wd := mw c q) (k := 0) hev hK hP hD hE hS (mw_0 c q σ) rfl) rfl rfl hl.1 rfl (lv_room (Nat.le_of_ble_eq_true rfl)) dX8_tellMays_81 ⟨Nat.zero_le _, Nat.zero_le _⟩) hS (fun q _ h => h) (fun q h => h) (fun r9 σ10 t H1 locs1 ht hvm hw hB hz1 hk1 hS => ?_)
          have hP : va_P D vwCl (mw c q σ10) H1 := ht ▸ hB
          have hD : va_D (wdA 31 q) (mw c q σ10) := mw_D hD0
          refine va_iast hx hb hK hP hD hS 14 13 (mw_14 c q σ10) rfl hw.1 dX8_tellMays_84 (fun H locs hP hD hS => ?_)
          have hw := hw.2
          have hP : va_P D vwCl (mw c q (hsA σ10 14 (upd (σ10.2.1 14) y2.toNatClampNeg r9))) H := hP
          obtain ⟨σ11, eσ11⟩ : ∃ z : hsS, z = hsA σ10 14 (upd (σ10.2.1 14) y2.toNatClampNeg r9) := ⟨_, rfl⟩
          rw [← eσ11] at hP
          have hD : va_D (wdA 31 q) (mw c q σ11) := mw_D hD0
          have hw := hw σ11 eσ11
          obtain ⟨v12, ev12⟩ : ∃ z : Int32, z = y2 + (1 : Int32) := ⟨_, rfl⟩
          have hw := hw v12 ev12
          refine lv_iinc (v := v12) (lv' := [(2, .int v12), (0, .ref (q 0)), (1, .int z1)]) hx hb dX8_tellMays_85 hl (k := 2) rfl (by rw [ev12]; rfl) (by decide) rfl (fun ls hl => ?_)
          refine lv_goto (tgt := 54) hx hb dX8_tellMays_88 (by decide) ?_
          exact ih v12 σ11 _ _ _ hw hk91 hP hS (lv_sub hl [1, 2, 0] rfl)
  have hl := lv_entry ([.ref (q 0), .int x1]) (n := 3) (Nat.le_of_ble_eq_true rfl)
  rw [lg_entry_eq]
  generalize (lg_sl ([.ref (q 0), .int x1]) ++ List.replicate (3 - (lg_sl ([.ref (q 0), .int x1])).length) Slot.unset).toArray = ls at hl ⊢
  have hl : lv_has ls 3 [(0, .ref (q 0)), (1, .int x1)] := hl
  unfold wX8_tellMays at hw
  refine lv_aload_n hx hb dX8_tellMays_0 rfl (lv_at hl 0 rfl) ?_
  refine va_get (D := D) (ci := 8) (C := RX8) (T := TX8) (N := 57) hx hb htb inX8 hown hK hP 0 (mw_0 c q σ) rfl 28 (by decide) (htb _ tb_1209) (fun _ h9 => h9) rfl dX8_tellMays_1 ?_
  refine lv_aload_n hx hb dX8_tellMays_4 rfl (lv_at hl 0 rfl) ?_
  refine va_get (D := D) (ci := 8) (C := RX8) (T := TX8) (N := 57) hx hb htb inX8 hown hK hP 0 (mw_0 c q σ) rfl 12 (by decide) (htb _ tb_1193) (fun _ h9 => h9) rfl dX8_tellMays_5 ?_
  refine lv_icmp_ne (tgt := 31) hx hb dX8_tellMays_8 (by decide) (fun c1 => ?_) (fun c1 => ?_)
  · have hw := hw.2 c1
    refine lv_aload_n hx hb dX8_tellMays_31 rfl (lv_at hl 0 rfl) ?_
    refine lv_aload_n hx hb dX8_tellMays_32 rfl (lv_at hl 0 rfl) ?_
    refine va_get (D := D) (ci := 8) (C := RX8) (T := TX8) (N := 57) hx hb htb inX8 hown hK hP 0 (mw_0 c q σ) rfl 12 (by decide) (htb _ tb_1193) (fun _ h9 => h9) rfl dX8_tellMays_33 ?_
    refine va_put (D := D) (ci := 8) (ty := .int) (C := RX8) (T := TX8) (N := 57) hx hb htb inX8 tyX8 tyX8_ok nmX8 hown hK hP hD hS 0 (mw_0 c q σ) rfl 28 (by decide) (htb _ tb_1209) (fun _ h9 => h9) rfl (by decide +kernel) rfl rfl (Nat.le_of_ble_eq_true rfl) dX8_tellMays_36 (fun H locs hP hD hS => ?_)
    have hP : va_P D vwCl (mw c q (hsI σ 28 (σ.1 12))) H := hP
    obtain ⟨σ23, eσ23⟩ : ∃ z : hsS, z = hsI σ 28 (σ.1 12) := ⟨_, rfl⟩
    rw [← eσ23] at hP
    have hD : va_D (wdA 31 q) (mw c q σ23) := mw_D hD0
    have hw := hw σ23 eσ23
    refine lv_aload_n hx hb dX8_tellMays_39 rfl (lv_at hl 0 rfl) ?_
    refine lv_iload_n hx hb dX8_tellMays_40 rfl (lv_at hl 1 rfl) ?_
    refine va_put (D := D) (ci := 8) (ty := .int) (C := RX8) (T := TX8) (N := 57) hx hb htb inX8 tyX8 tyX8_ok nmX8 hown hK hP hD hS 0 (mw_0 c q σ23) rfl 29 (by decide) (htb _ tb_1210) (fun _ h9 => h9) rfl (by decide +kernel) rfl rfl (Nat.le_of_ble_eq_true rfl) dX8_tellMays_41 (fun H locs hP hD hS => ?_)
    have hP : va_P D vwCl (mw c q (hsI σ23 29 x1)) H := hP
    obtain ⟨σ24, eσ24⟩ : ∃ z : hsS, z = hsI σ23 29 x1 := ⟨_, rfl⟩
    rw [← eσ24] at hP
    have hD : va_D (wdA 31 q) (mw c q σ24) := mw_D hD0
    have hw := hw σ24 eσ24
    refine lv_aload_n hx hb dX8_tellMays_44 rfl (lv_at hl 0 rfl) ?_
    refine lv_aload_n hx hb dX8_tellMays_45 rfl (lv_at hl 0 rfl) ?_
    refine va_get (D := D) (ci := 8) (C := RX8) (T := TX8) (N := 57) hx hb htb inX8 hown hK hP 0 (mw_0 c q σ24) rfl 25 (by decide) (htb _ tb_1206) (fun _ h9 => h9) rfl dX8_tellMays_46 ?_
    refine va_put (D := D) (ci := 8) (ty := .int) (C := RX8) (T := TX8) (N := 57) hx hb htb inX8 tyX8 tyX8_ok nmX8 hown hK hP hD hS 0 (mw_0 c q σ24) rfl 30 (by decide) (htb _ tb_1211) (fun _ h9 => h9) rfl (by decide +kernel) rfl rfl (Nat.le_of_ble_eq_true rfl) dX8_tellMays_49 (fun H locs hP hD hS => ?_)
    have hP : va_P D vwCl (mw c q (hsI σ24 30 (σ24.1 25))) H := hP
    obtain ⟨σ25, eσ25⟩ : ∃ z : hsS, z = hsI σ24 30 (σ24.1 25) := ⟨_, rfl⟩
    rw [← eσ25] at hP
    have hD : va_D (wdA 31 q) (mw c q σ25) := mw_D hD0
    have hw := hw σ25 eσ25
    refine lv_iconst (v := (0 : Int32)) hx hb dX8_tellMays_52 (by decide) ?_
    refine lv_istore_n (lv' := [(2, .int (0 : Int32)), (0, .ref (q 0)), (1, .int x1)]) hx hb dX8_tellMays_53 rfl hl (by decide) rfl (fun ls hl => ?_)
    obtain ⟨n26, hw⟩ := hw
    refine L54 _ x1 n26 (0 : Int32) σ25 _ _ _ hw ?_ hP hS (lv_sub hl [1, 2, 0] rfl)
    intro v27 σ28 H locs ls hw hP hS hl
    have hD : va_D (wdA 31 q) (mw c q σ28) := mw_D hD0
    exact W.vret hx hb hr (fun t ht hW => ⟨⟨σ28, rfl, hw, by unfold wdB; rw [ht]; exact hP⟩, hS.F ht⟩) hS.2.2 dX8_tellMays_91
  · have hw := hw.1 c1
    refine lv_aload_n hx hb dX8_tellMays_11 rfl (lv_at hl 0 rfl) ?_
    refine va_get (D := D) (ci := 8) (C := RX8) (T := TX8) (N := 57) hx hb htb inX8 hown hK hP 0 (mw_0 c q σ) rfl 29 (by decide) (htb _ tb_1210) (fun _ h9 => h9) rfl dX8_tellMays_12 ?_
    refine lv_iload_n hx hb dX8_tellMays_15 rfl (lv_at hl 1 rfl) ?_
    refine lv_icmp_ne (tgt := 31) hx hb dX8_tellMays_16 (by decide) (fun c2 => ?_) (fun c2 => ?_)
    · have hw := hw.2 c2
      refine lv_aload_n hx hb dX8_tellMays_31 rfl (lv_at hl 0 rfl) ?_
      refine lv_aload_n hx hb dX8_tellMays_32 rfl (lv_at hl 0 rfl) ?_
      refine va_get (D := D) (ci := 8) (C := RX8) (T := TX8) (N := 57) hx hb htb inX8 hown hK hP 0 (mw_0 c q σ) rfl 12 (by decide) (htb _ tb_1193) (fun _ h9 => h9) rfl dX8_tellMays_33 ?_
      refine va_put (D := D) (ci := 8) (ty := .int) (C := RX8) (T := TX8) (N := 57) hx hb htb inX8 tyX8 tyX8_ok nmX8 hown hK hP hD hS 0 (mw_0 c q σ) rfl 28 (by decide) (htb _ tb_1209) (fun _ h9 => h9) rfl (by decide +kernel) rfl rfl (Nat.le_of_ble_eq_true rfl) dX8_tellMays_36 (fun H locs hP hD hS => ?_)
      have hP : va_P D vwCl (mw c q (hsI σ 28 (σ.1 12))) H := hP
      obtain ⟨σ17, eσ17⟩ : ∃ z : hsS, z = hsI σ 28 (σ.1 12) := ⟨_, rfl⟩
      rw [← eσ17] at hP
      have hD : va_D (wdA 31 q) (mw c q σ17) := mw_D hD0
      have hw := hw σ17 eσ17
      refine lv_aload_n hx hb dX8_tellMays_39 rfl (lv_at hl 0 rfl) ?_
      refine lv_iload_n hx hb dX8_tellMays_40 rfl (lv_at hl 1 rfl) ?_
      refine va_put (D := D) (ci := 8) (ty := .int) (C := RX8) (T := TX8) (N := 57) hx hb htb inX8 tyX8 tyX8_ok nmX8 hown hK hP hD hS 0 (mw_0 c q σ17) rfl 29 (by decide) (htb _ tb_1210) (fun _ h9 => h9) rfl (by decide +kernel) rfl rfl (Nat.le_of_ble_eq_true rfl) dX8_tellMays_41 (fun H locs hP hD hS => ?_)
      have hP : va_P D vwCl (mw c q (hsI σ17 29 x1)) H := hP
      obtain ⟨σ18, eσ18⟩ : ∃ z : hsS, z = hsI σ17 29 x1 := ⟨_, rfl⟩
      rw [← eσ18] at hP
      have hD : va_D (wdA 31 q) (mw c q σ18) := mw_D hD0
      have hw := hw σ18 eσ18
      refine lv_aload_n hx hb dX8_tellMays_44 rfl (lv_at hl 0 rfl) ?_
      refine lv_aload_n hx hb dX8_tellMays_45 rfl (lv_at hl 0 rfl) ?_
      refine va_get (D := D) (ci := 8) (C := RX8) (T := TX8) (N := 57) hx hb htb inX8 hown hK hP 0 (mw_0 c q σ18) rfl 25 (by decide) (htb _ tb_1206) (fun _ h9 => h9) rfl dX8_tellMays_46 ?_
      refine va_put (D := D) (ci := 8) (ty := .int) (C := RX8) (T := TX8) (N := 57) hx hb htb inX8 tyX8 tyX8_ok nmX8 hown hK hP hD hS 0 (mw_0 c q σ18) rfl 30 (by decide) (htb _ tb_1211) (fun _ h9 => h9) rfl (by decide +kernel) rfl rfl (Nat.le_of_ble_eq_true rfl) dX8_tellMays_49 (fun H locs hP hD hS => ?_)
      have hP : va_P D vwCl (mw c q (hsI σ18 30 (σ18.1 25))) H := hP
      obtain ⟨σ19, eσ19⟩ : ∃ z : hsS, z = hsI σ18 30 (σ18.1 25) := ⟨_, rfl⟩
      rw [← eσ19] at hP
      have hD : va_D (wdA 31 q) (mw c q σ19) := mw_D hD0
      have hw := hw σ19 eσ19
      refine lv_iconst (v := (0 : Int32)) hx hb dX8_tellMays_52 (by decide) ?_
      refine lv_istore_n (lv' := [(2, .int (0 : Int32)), (0, .ref (q 0)), (1, .int x1)]) hx hb dX8_tellMays_53 rfl hl (by decide) rfl (fun ls hl => ?_)
      obtain ⟨n20, hw⟩ := hw
      refine L54 _ x1 n20 (0 : Int32) σ19 _ _ _ hw ?_ hP hS (lv_sub hl [1, 2, 0] rfl)
      intro v21 σ22 H locs ls hw hP hS hl
      have hD : va_D (wdA 31 q) (mw c q σ22) := mw_D hD0
      exact W.vret hx hb hr (fun t ht hW => ⟨⟨σ22, rfl, hw, by unfold wdB; rw [ht]; exact hP⟩, hS.F ht⟩) hS.2.2 dX8_tellMays_91
    · have hw := hw.1 c2
      refine lv_aload_n hx hb dX8_tellMays_19 rfl (lv_at hl 0 rfl) ?_
      refine va_get (D := D) (ci := 8) (C := RX8) (T := TX8) (N := 57) hx hb htb inX8 hown hK hP 0 (mw_0 c q σ) rfl 30 (by decide) (htb _ tb_1211) (fun _ h9 => h9) rfl dX8_tellMays_20 ?_
      refine lv_aload_n hx hb dX8_tellMays_23 rfl (lv_at hl 0 rfl) ?_
      refine va_get (D := D) (ci := 8) (C := RX8) (T := TX8) (N := 57) hx hb htb inX8 hown hK hP 0 (mw_0 c q σ) rfl 25 (by decide) (htb _ tb_1206) (fun _ h9 => h9) rfl dX8_tellMays_24 ?_
      refine lv_icmp_ne (tgt := 31) hx hb dX8_tellMays_27 (by decide) (fun c3 => ?_) (fun c3 => ?_)
      · have hw := hw.2 c3
        refine lv_aload_n hx hb dX8_tellMays_31 rfl (lv_at hl 0 rfl) ?_
        refine lv_aload_n hx hb dX8_tellMays_32 rfl (lv_at hl 0 rfl) ?_
        refine va_get (D := D) (ci := 8) (C := RX8) (T := TX8) (N := 57) hx hb htb inX8 hown hK hP 0 (mw_0 c q σ) rfl 12 (by decide) (htb _ tb_1193) (fun _ h9 => h9) rfl dX8_tellMays_33 ?_
        refine va_put (D := D) (ci := 8) (ty := .int) (C := RX8) (T := TX8) (N := 57) hx hb htb inX8 tyX8 tyX8_ok nmX8 hown hK hP hD hS 0 (mw_0 c q σ) rfl 28 (by decide) (htb _ tb_1209) (fun _ h9 => h9) rfl (by decide +kernel) rfl rfl (Nat.le_of_ble_eq_true rfl) dX8_tellMays_36 (fun H locs hP hD hS => ?_)
        have hP : va_P D vwCl (mw c q (hsI σ 28 (σ.1 12))) H := hP
        obtain ⟨σ4, eσ4⟩ : ∃ z : hsS, z = hsI σ 28 (σ.1 12) := ⟨_, rfl⟩
        rw [← eσ4] at hP
        have hD : va_D (wdA 31 q) (mw c q σ4) := mw_D hD0
        have hw := hw σ4 eσ4
        refine lv_aload_n hx hb dX8_tellMays_39 rfl (lv_at hl 0 rfl) ?_
        refine lv_iload_n hx hb dX8_tellMays_40 rfl (lv_at hl 1 rfl) ?_
        refine va_put (D := D) (ci := 8) (ty := .int) (C := RX8) (T := TX8) (N := 57) hx hb htb inX8 tyX8 tyX8_ok nmX8 hown hK hP hD hS 0 (mw_0 c q σ4) rfl 29 (by decide) (htb _ tb_1210) (fun _ h9 => h9) rfl (by decide +kernel) rfl rfl (Nat.le_of_ble_eq_true rfl) dX8_tellMays_41 (fun H locs hP hD hS => ?_)
        have hP : va_P D vwCl (mw c q (hsI σ4 29 x1)) H := hP
        obtain ⟨σ5, eσ5⟩ : ∃ z : hsS, z = hsI σ4 29 x1 := ⟨_, rfl⟩
        rw [← eσ5] at hP
        have hD : va_D (wdA 31 q) (mw c q σ5) := mw_D hD0
        have hw := hw σ5 eσ5
        refine lv_aload_n hx hb dX8_tellMays_44 rfl (lv_at hl 0 rfl) ?_
        refine lv_aload_n hx hb dX8_tellMays_45 rfl (lv_at hl 0 rfl) ?_
        refine va_get (D := D) (ci := 8) (C := RX8) (T := TX8) (N := 57) hx hb htb inX8 hown hK hP 0 (mw_0 c q σ5) rfl 25 (by decide) (htb _ tb_1206) (fun _ h9 => h9) rfl dX8_tellMays_46 ?_
        refine va_put (D := D) (ci := 8) (ty := .int) (C := RX8) (T := TX8) (N := 57) hx hb htb inX8 tyX8 tyX8_ok nmX8 hown hK hP hD hS 0 (mw_0 c q σ5) rfl 30 (by decide) (htb _ tb_1211) (fun _ h9 => h9) rfl (by decide +kernel) rfl rfl (Nat.le_of_ble_eq_true rfl) dX8_tellMays_49 (fun H locs hP hD hS => ?_)
        have hP : va_P D vwCl (mw c q (hsI σ5 30 (σ5.1 25))) H := hP
        obtain ⟨σ6, eσ6⟩ : ∃ z : hsS, z = hsI σ5 30 (σ5.1 25) := ⟨_, rfl⟩
        rw [← eσ6] at hP
        have hD : va_D (wdA 31 q) (mw c q σ6) := mw_D hD0
        have hw := hw σ6 eσ6
        refine lv_iconst (v := (0 : Int32)) hx hb dX8_tellMays_52 (by decide) ?_
        refine lv_istore_n (lv' := [(2, .int (0 : Int32)), (0, .ref (q 0)), (1, .int x1)]) hx hb dX8_tellMays_53 rfl hl (by decide) rfl (fun ls hl => ?_)
        obtain ⟨n14, hw⟩ := hw
        refine L54 _ x1 n14 (0 : Int32) σ6 _ _ _ hw ?_ hP hS (lv_sub hl [1, 2, 0] rfl)
        intro v15 σ16 H locs ls hw hP hS hl
        have hD : va_D (wdA 31 q) (mw c q σ16) := mw_D hD0
        exact W.vret hx hb hr (fun t ht hW => ⟨⟨σ16, rfl, hw, by unfold wdB; rw [ht]; exact hP⟩, hS.F ht⟩) hS.2.2 dX8_tellMays_91
      · have hw := hw.1 c3
        exact W.vret hx hb hr (fun t ht hW => ⟨⟨σ, rfl, hw, by unfold wdB; rw [ht]; exact hP⟩, hS.F ht⟩) hS.2.2 dX8_tellMays_30
def wX8_coreOf_L63 (z1 : Int32) (z2 : Int32) (z3 : Int32) (z4 : Int32) (z5 : Int32) (K79 : Int32 → hsS → Prop) (post : Int32 → hsS → Prop) : Nat → Int32 → hsS → Prop
  | 0, _, _ => False
  | n + 1, y6, σ => ((((z5 >>> (y6 &&& 31)) &&& (1 : Int32)) = (0 : Int32) → ∀ v9 : Int32, v9 = y6 + (1 : Int32) → wX8_coreOf_L63 z1 z2 z3 z4 z5 K79 post n v9 σ) ∧ (¬ ((z5 >>> (y6 &&& 31)) &&& (1 : Int32)) = (0 : Int32) → K79 y6 σ))
def wX8_coreOf_L37 (z1 : Int32) (z2 : Int32) (z3 : Int32) (K167 : Int32 → Int32 → hsS → Prop) (post : Int32 → hsS → Prop) : Nat → Int32 → Int32 → hsS → Prop
  | 0, _, _, _ => False
  | n + 1, y4, y5, σ => ((z1 < y5 → K167 y4 y5 σ) ∧ (¬ z1 < y5 → ((y4 = (0 : Int32) → K167 y4 y5 σ) ∧ (¬ y4 = (0 : Int32) → (((y5 &&& (z1 ^^^ (-1 : Int32))) = (0 : Int32) → ∃ n10, wX8_coreOf_L63 z1 z2 z3 y4 y5 (fun v11 σ12 => ∀ v13 : Int32, v13 = y5 &&& (((1 : Int32) <<< (v11 &&& 31)) ^^^ (-1 : Int32)) → ((v13 = (0 : Int32) → wX8_better v11 z3 (fun r15 σ16 => vp_in y5 256 ∧ ∀ σ17 : hsS, σ17 = hsA σ16 15 (upd (σ16.2.1 15) y5.toNatClampNeg r15) → vp_in y5 256 ∧ wX8_sizeOf (σ17.2.1 15 y5.toNatClampNeg) (fun r18 σ19 => vp_in y5 256 ∧ ((((σ19.1 25) - (σ19.2.1 14 y5.toNatClampNeg)) ≤ r18 → ∀ v21 : Int32, v21 = y5 + (1 : Int32) → wX8_coreOf_L37 z1 z2 z3 K167 post n (0 : Int32) v21 σ19) ∧ (¬ ((σ19.1 25) - (σ19.2.1 14 y5.toNatClampNeg)) ≤ r18 → ∀ v22 : Int32, v22 = y5 + (1 : Int32) → wX8_coreOf_L37 z1 z2 z3 K167 post n (1 : Int32) v22 σ19))) σ17) σ12) ∧ (¬ v13 = (0 : Int32) → vp_in v13 256 ∧ vp_in ((1 : Int32) <<< (v11 &&& 31)) 256 ∧ vp_in y5 256 ∧ ∀ σ23 : hsS, σ23 = hsA σ12 15 (upd (σ12.2.1 15) y5.toNatClampNeg ((σ12.2.1 15 v13.toNatClampNeg) &&& (σ12.2.1 15 ((1 : Int32) <<< (v11 &&& 31)).toNatClampNeg))) → vp_in y5 256 ∧ wX8_sizeOf (σ23.2.1 15 y5.toNatClampNeg) (fun r24 σ25 => vp_in y5 256 ∧ ((((σ25.1 25) - (σ25.2.1 14 y5.toNatClampNeg)) ≤ r24 → ∀ v27 : Int32, v27 = y5 + (1 : Int32) → wX8_coreOf_L37 z1 z2 z3 K167 post n (0 : Int32) v27 σ25) ∧ (¬ ((σ25.1 25) - (σ25.2.1 14 y5.toNatClampNeg)) ≤ r24 → ∀ v28 : Int32, v28 = y5 + (1 : Int32) → wX8_coreOf_L37 z1 z2 z3 K167 post n (1 : Int32) v28 σ25))) σ23))) post n10 (0 : Int32) σ) ∧ (¬ (y5 &&& (z1 ^^^ (-1 : Int32))) = (0 : Int32) → ∀ v29 : Int32, v29 = y5 + (1 : Int32) → wX8_coreOf_L37 z1 z2 z3 K167 post n y4 v29 σ))))))
def wX8_coreOf_L9 (z1 : Int32) (K188 : Int32 → Int32 → hsS → Prop) (post : Int32 → hsS → Prop) : Nat → Int32 → Int32 → hsS → Prop
  | 0, _, _, _ => False
  | n + 1, y2, y3, σ => (((σ.1 25) ≤ y3 → K188 y2 y3 σ) ∧ (¬ (σ.1 25) ≤ y3 → ∀ σ4 : hsS, σ4 = hsA σ 15 (upd (σ.2.1 15) (0 : Int32).toNatClampNeg (((1 : Int32) <<< ((σ.1 25) &&& 31)) - (1 : Int32))) → ∃ n30, wX8_coreOf_L37 z1 y2 y3 (fun v31 v32 σ33 => ((v31 = (0 : Int32) → ∀ v35 : Int32, v35 = y2 ||| (0 : Int32) → ∀ v36 : Int32, v36 = y3 + (1 : Int32) → wX8_coreOf_L9 z1 K188 post n v35 v36 σ33) ∧ (¬ v31 = (0 : Int32) → ∀ v37 : Int32, v37 = y2 ||| ((1 : Int32) <<< (y3 &&& 31)) → ∀ v38 : Int32, v38 = y3 + (1 : Int32) → wX8_coreOf_L9 z1 K188 post n v37 v38 σ33))) post n30 (1 : Int32) (1 : Int32) σ4))
def wX8_coreOf (x1 : Int32) (post : Int32 → hsS → Prop) (σ : hsS) : Prop := wX8_tellMays x1 (fun σ2 => ∃ n39, wX8_coreOf_L9 x1 (fun v40 v41 σ42 => post v40 σ42) post n39 (0 : Int32) (0 : Int32) σ2) σ
set_option maxHeartbeats 4000000 in
set_option maxRecDepth 100000 in
theorem kcX8_coreOf (l : Launch) (D : va_G) (c : Nat → ClassId) (q : Nat → Nat) (ev : State → Heap → Prop) (hev : evOK (wdA 31 q) ev) (σ : hsS) (x1 : Int32) (post : Int32 → hsS → Prop) (hw : wX8_coreOf x1 post σ) : Met l yX8_coreOf (Cond.code yX8_coreOf cX8_coreOf 8 (some .int) :: tb_L) { frames := 3, cells := 0, slots := 0, locals := 87 } (wdPc D (mw c q) (mwT c) (wdA 31 q) ev σ [.ref (q 0), .int x1]) (va_Qi post (wdB D (mw c q)) (wdA 31 q)) 0 0 (wdA 31 q) := by
  refine Met.ofW (cc := cX8_coreOf) (maxL := 8) (ret := (some .int)) (by decide) rfl ?_
  intro p e s m args below meth c₀ s₁ Bd hml hv
  obtain ⟨rfl, hP, hK, hD0, hE⟩ := hv
  have hx := Bd.exec
  have hb := Bd.bytes
  have hr := Bd.returns
  have hts := atoms_spec (ws := Cond.code yX8_coreOf cX8_coreOf 8 (some .int) :: tb_L) Bd.pre
  have htb : ∀ w ∈ tb_L, w.before [.ref (q 0), .int x1].toArray s = true := fun w h => hts w (List.mem_cons_of_mem _ h)
  have hown : s.vm.findClass RX8 = some m.cls := findClass_of_methodNamed Bd.named
  have hlocks := Bd.notSynchronized
  have hS : va_S (wdA 31 q) s.heap s.heap [] := va_S.rf
  have hD := hD0
  have L63 : ∀ (K79 : Int32 → hsS → Prop) (z1 : Int32) (z2 : Int32) (z3 : Int32) (z4 : Int32) (z5 : Int32) (n : Nat) (y6 : Int32) (σ : hsS) (H : Heap) (locs : List Loc) (ls : Array Slot), wX8_coreOf_L63 z1 z2 z3 z4 z5 K79 post n y6 σ → (∀ (y6 : Int32) (σ : hsS) (H : Heap) (locs : List Loc) (ls : Array Slot), K79 y6 σ → va_P D vwCl (mw c q σ) H → va_S (wdA 31 q) s.heap H locs → lv_has ls 8 [(0, .ref (q 0)), (1, .int z1), (2, .int z2), (3, .int z3), (4, .int z4), (5, .int z5), (6, .int y6)] → W p l e (headSpec (Cond.code yX8_coreOf cX8_coreOf 8 (some .int) :: tb_L) { frames := 3, cells := 0, slots := 0, locals := 87 }).room s m [.ref (q 0), .int x1].toArray below meth c₀ H locs 0 0 (MQ below (va_Qi post (wdB D (mw c q)) (wdA 31 q)) [.ref (q 0), .int x1].toArray s 0 0 (wdA 31 q)) (F0 m 79 ls [])) → va_P D vwCl (mw c q σ) H → va_S (wdA 31 q) s.heap H locs → lv_has ls 8 [(0, .ref (q 0)), (1, .int z1), (2, .int z2), (3, .int z3), (4, .int z4), (5, .int z5), (6, .int y6)] → W p l e (headSpec (Cond.code yX8_coreOf cX8_coreOf 8 (some .int) :: tb_L) { frames := 3, cells := 0, slots := 0, locals := 87 }).room s m [.ref (q 0), .int x1].toArray below meth c₀ H locs 0 0 (MQ below (va_Qi post (wdB D (mw c q)) (wdA 31 q)) [.ref (q 0), .int x1].toArray s 0 0 (wdA 31 q)) (F0 m 63 ls []) := by
    intro K79 z1 z2 z3 z4 z5 n
    induction n with
    | zero =>
      intro y6 σ H locs ls hw hk79 hP hS hl
      exact (show False from hw).elim
    | succ n ih =>
      intro y6 σ H locs ls hw hk79 hP hS hl
      rw [wX8_coreOf_L63] at hw
      have hD : va_D (wdA 31 q) (mw c q σ) := mw_D hD0
      refine lv_iload hx hb dX8_coreOf_63 (lv_at hl 5 rfl) ?_
      refine lv_iload hx hb dX8_coreOf_65 (lv_at hl 6 rfl) ?_
      refine lv_ishr hx hb dX8_coreOf_67 ?_
      refine lv_iconst (v := (1 : Int32)) hx hb dX8_coreOf_68 (by decide) ?_
      refine lv_iand hx hb dX8_coreOf_69 ?_
      refine lv_if_ne (tgt := 79) hx hb dX8_coreOf_70 (by decide) (fun c8 => ?_) (fun c8 => ?_)
      · have hw := hw.2 c8
        exact hk79 y6 σ _ _ _ hw hP hS (lv_sub hl [0, 1, 2, 3, 4, 5, 6] rfl)
      · have hw := hw.1 c8
        obtain ⟨v9, ev9⟩ : ∃ z : Int32, z = y6 + (1 : Int32) := ⟨_, rfl⟩
        have hw := hw v9 ev9
        refine lv_iinc (v := v9) (lv' := [(6, .int v9), (0, .ref (q 0)), (1, .int z1), (2, .int z2), (3, .int z3), (4, .int z4), (5, .int z5)]) hx hb dX8_coreOf_73 hl (k := 6) rfl (by rw [ev9]; rfl) (by decide) rfl (fun ls hl => ?_)
        refine lv_goto (tgt := 63) hx hb dX8_coreOf_76 (by decide) ?_
        exact ih v9 σ _ _ _ hw hk79 hP hS (lv_sub hl [1, 2, 3, 4, 5, 6, 0] rfl)
  have L37 : ∀ (K167 : Int32 → Int32 → hsS → Prop) (z1 : Int32) (z2 : Int32) (z3 : Int32) (n : Nat) (y4 : Int32) (y5 : Int32) (σ : hsS) (H : Heap) (locs : List Loc) (ls : Array Slot), wX8_coreOf_L37 z1 z2 z3 K167 post n y4 y5 σ → (∀ (y4 : Int32) (y5 : Int32) (σ : hsS) (H : Heap) (locs : List Loc) (ls : Array Slot), K167 y4 y5 σ → va_P D vwCl (mw c q σ) H → va_S (wdA 31 q) s.heap H locs → lv_has ls 8 [(0, .ref (q 0)), (1, .int z1), (2, .int z2), (3, .int z3), (4, .int y4), (5, .int y5)] → W p l e (headSpec (Cond.code yX8_coreOf cX8_coreOf 8 (some .int) :: tb_L) { frames := 3, cells := 0, slots := 0, locals := 87 }).room s m [.ref (q 0), .int x1].toArray below meth c₀ H locs 0 0 (MQ below (va_Qi post (wdB D (mw c q)) (wdA 31 q)) [.ref (q 0), .int x1].toArray s 0 0 (wdA 31 q)) (F0 m 167 ls [])) → va_P D vwCl (mw c q σ) H → va_S (wdA 31 q) s.heap H locs → lv_has ls 8 [(0, .ref (q 0)), (1, .int z1), (2, .int z2), (3, .int z3), (4, .int y4), (5, .int y5)] → W p l e (headSpec (Cond.code yX8_coreOf cX8_coreOf 8 (some .int) :: tb_L) { frames := 3, cells := 0, slots := 0, locals := 87 }).room s m [.ref (q 0), .int x1].toArray below meth c₀ H locs 0 0 (MQ below (va_Qi post (wdB D (mw c q)) (wdA 31 q)) [.ref (q 0), .int x1].toArray s 0 0 (wdA 31 q)) (F0 m 37 ls []) := by
    intro K167 z1 z2 z3 n
    induction n with
    | zero =>
      intro y4 y5 σ H locs ls hw hk167 hP hS hl
      exact (show False from hw).elim
    | succ n ih =>
      intro y4 y5 σ H locs ls hw hk167 hP hS hl
      rw [wX8_coreOf_L37] at hw
      have hD : va_D (wdA 31 q) (mw c q σ) := mw_D hD0
      refine lv_iload hx hb dX8_coreOf_37 (lv_at hl 5 rfl) ?_
      refine lv_iload_n hx hb dX8_coreOf_39 rfl (lv_at hl 1 rfl) ?_
      refine lv_icmp_gt (tgt := 167) hx hb dX8_coreOf_40 (by decide) (fun c5 => ?_) (fun c5 => ?_)
      · have hw := hw.1 c5
        exact hk167 y4 y5 σ _ _ _ hw hP hS (lv_sub hl [0, 1, 2, 3, 4, 5] rfl)
      · have hw := hw.2 c5
        refine lv_iload hx hb dX8_coreOf_43 (lv_at hl 4 rfl) ?_
        refine lv_if_eq (tgt := 167) hx hb dX8_coreOf_45 (by decide) (fun c6 => ?_) (fun c6 => ?_)
        · have hw := hw.1 c6
          exact hk167 y4 y5 σ _ _ _ hw hP hS (lv_sub hl [0, 1, 2, 3, 4, 5] rfl)
        · have hw := hw.2 c6
          refine lv_iload hx hb dX8_coreOf_48 (lv_at hl 5 rfl) ?_
          refine lv_iload_n hx hb dX8_coreOf_50 rfl (lv_at hl 1 rfl) ?_
          refine lv_iconst (v := (-1 : Int32)) hx hb dX8_coreOf_51 (by decide) ?_
          refine lv_ixor hx hb dX8_coreOf_52 ?_
          refine lv_iand hx hb dX8_coreOf_53 ?_
          refine lv_if_eq (tgt := 60) hx hb dX8_coreOf_54 (by decide) (fun c7 => ?_) (fun c7 => ?_)
          · have hw := hw.1 c7
            refine lv_iconst (v := (0 : Int32)) hx hb dX8_coreOf_60 (by decide) ?_
            refine lv_istore (lv' := [(6, .int (0 : Int32)), (0, .ref (q 0)), (1, .int z1), (2, .int z2), (3, .int z3), (4, .int y4), (5, .int y5)]) hx hb dX8_coreOf_61 hl (by decide) rfl (fun ls hl => ?_)
            obtain ⟨n10, hw⟩ := hw
            refine L63 _ z1 z2 z3 y4 y5 n10 (0 : Int32) σ _ _ _ hw ?_ hP hS (lv_sub hl [1, 2, 3, 4, 5, 6, 0] rfl)
            intro v11 σ12 H locs ls hw hP hS hl
            have hD : va_D (wdA 31 q) (mw c q σ12) := mw_D hD0
            refine lv_iload hx hb dX8_coreOf_79 (lv_at hl 5 rfl) ?_
            refine lv_iconst (v := (1 : Int32)) hx hb dX8_coreOf_81 (by decide) ?_
            refine lv_iload hx hb dX8_coreOf_82 (lv_at hl 6 rfl) ?_
            refine lv_ishl hx hb dX8_coreOf_84 ?_
            refine lv_iconst (v := (-1 : Int32)) hx hb dX8_coreOf_85 (by decide) ?_
            refine lv_ixor hx hb dX8_coreOf_86 ?_
            refine lv_iand hx hb dX8_coreOf_87 ?_
            refine lv_topi (fun v13 ev13 => ?_)
            have hw := hw v13 ev13
            refine lv_istore (lv' := [(7, .int v13), (0, .ref (q 0)), (1, .int z1), (2, .int z2), (3, .int z3), (4, .int y4), (5, .int y5), (6, .int v11)]) hx hb dX8_coreOf_88 hl (by decide) rfl (fun ls hl => ?_)
            refine lv_aload_n hx hb dX8_coreOf_90 rfl (lv_at hl 1 rfl) ?_
            refine va_get (D := D) (ci := 8) (C := RX8) (T := TX8) (N := 57) hx hb htb inX8 hown hK hP 0 (mw_0 c q σ12) rfl 27 (by decide) (htb _ tb_1208) (fun _ h9 => h9) rfl dX8_coreOf_91 ?_
            refine lv_iload hx hb dX8_coreOf_94 (lv_at hl 6 rfl) ?_
            refine lv_iload hx hb dX8_coreOf_96 (lv_at hl 0 rfl) ?_
            refine lv_if_ne (tgt := 111) hx hb dX8_coreOf_98 (by decide) (fun c14 => ?_) (fun c14 => ?_)
            · have hw := hw.2 c14
              refine lv_aload_n hx hb dX8_coreOf_111 rfl (lv_at hl 1 rfl) ?_
              refine va_get (D := D) (ci := 8) (C := RX8) (T := TX8) (N := 57) hx hb htb inX8 hown hK hP 0 (mw_0 c q σ12) rfl 27 (by decide) (htb _ tb_1208) (fun _ h9 => h9) rfl dX8_coreOf_112 ?_
              refine lv_iload hx hb dX8_coreOf_115 (lv_at hl 0 rfl) ?_
              refine va_iald hx hb hK hP 15 14 (mw_15 c q σ12) rfl hw.1 dX8_coreOf_117 ?_
              have hw := hw.2
              refine lv_aload_n hx hb dX8_coreOf_118 rfl (lv_at hl 1 rfl) ?_
              refine va_get (D := D) (ci := 8) (C := RX8) (T := TX8) (N := 57) hx hb htb inX8 hown hK hP 0 (mw_0 c q σ12) rfl 27 (by decide) (htb _ tb_1208) (fun _ h9 => h9) rfl dX8_coreOf_119 ?_
              refine lv_iconst (v := (1 : Int32)) hx hb dX8_coreOf_122 (by decide) ?_
              refine lv_iload hx hb dX8_coreOf_123 (lv_at hl 7 rfl) ?_
              refine lv_ishl hx hb dX8_coreOf_125 ?_
              refine va_iald hx hb hK hP 15 14 (mw_15 c q σ12) rfl hw.1 dX8_coreOf_126 ?_
              have hw := hw.2
              refine lv_iand hx hb dX8_coreOf_127 ?_
              refine va_iast hx hb hK hP hD hS 15 14 (mw_15 c q σ12) rfl hw.1 dX8_coreOf_128 (fun H locs hP hD hS => ?_)
              have hw := hw.2
              have hP : va_P D vwCl (mw c q (hsA σ12 15 (upd (σ12.2.1 15) y5.toNatClampNeg ((σ12.2.1 15 v13.toNatClampNeg) &&& (σ12.2.1 15 ((1 : Int32) <<< (v11 &&& 31)).toNatClampNeg))))) H := hP
              obtain ⟨σ23, eσ23⟩ : ∃ z : hsS, z = hsA σ12 15 (upd (σ12.2.1 15) y5.toNatClampNeg ((σ12.2.1 15 v13.toNatClampNeg) &&& (σ12.2.1 15 ((1 : Int32) <<< (v11 &&& 31)).toNatClampNeg))) := ⟨_, rfl⟩
              rw [← eσ23] at hP
              have hD : va_D (wdA 31 q) (mw c q σ23) := mw_D hD0
              have hw := hw σ23 eσ23
              refine lv_aload_n hx hb dX8_coreOf_129 rfl (lv_at hl 1 rfl) ?_
              refine va_get (D := D) (ci := 8) (C := RX8) (T := TX8) (N := 57) hx hb htb inX8 hown hK hP 0 (mw_0 c q σ23) rfl 27 (by decide) (htb _ tb_1208) (fun _ h9 => h9) rfl dX8_coreOf_130 ?_
              refine lv_iload hx hb dX8_coreOf_133 (lv_at hl 6 rfl) ?_
              refine va_iald hx hb hK hP 15 14 (mw_15 c q σ23) rfl hw.1 dX8_coreOf_135 ?_
              have hw := hw.2
              refine va_calli (va_runS (As := [.int (σ23.2.1 15 y5.toNatClampNeg)]) (rest := []) ⟨hx, hb, hml, hown, htb⟩ (kcX8_sizeOf_m l D c q ev hev σ23 (σ23.2.1 15 y5.toNatClampNeg) _ hw) (tb_CS htb kX8_sizeOf tb_1493 tb_1494 ⟨Nat.le_of_ble_eq_true rfl, Nat.le_of_ble_eq_true rfl⟩) (wd_preS (wd := mw c q) hev hK hP hD hE hS) rfl rfl hl.1 rfl (lv_room (Nat.le_of_ble_eq_true rfl)) dX8_coreOf_136 ⟨Nat.zero_le _, Nat.zero_le _⟩) hS (fun q _ h => h) (fun q h => h) (fun r24 σ25 t H1 locs1 ht hvm hw hB hz1 hk1 hS => ?_)
              have hP : va_P D vwCl (mw c q σ25) H1 := ht ▸ hB
              have hD : va_D (wdA 31 q) (mw c q σ25) := mw_D hD0
              refine lv_aload_n hx hb dX8_coreOf_139 rfl (lv_at hl 1 rfl) ?_
              refine va_get (D := D) (ci := 8) (C := RX8) (T := TX8) (N := 57) hx hb htb inX8 hown hK hP 0 (mw_0 c q σ25) rfl 25 (by decide) (htb _ tb_1206) (fun _ h9 => h9) rfl dX8_coreOf_140 ?_
              refine lv_aload_n hx hb dX8_coreOf_143 rfl (lv_at hl 1 rfl) ?_
              refine va_get (D := D) (ci := 8) (C := RX8) (T := TX8) (N := 57) hx hb htb inX8 hown hK hP 0 (mw_0 c q σ25) rfl 26 (by decide) (htb _ tb_1207) (fun _ h9 => h9) rfl dX8_coreOf_144 ?_
              refine lv_iload hx hb dX8_coreOf_147 (lv_at hl 6 rfl) ?_
              refine va_iald hx hb hK hP 14 13 (mw_14 c q σ25) rfl hw.1 dX8_coreOf_149 ?_
              have hw := hw.2
              refine lv_isub hx hb dX8_coreOf_150 ?_
              refine lv_icmp_ge (tgt := 158) hx hb dX8_coreOf_151 (by decide) (fun c26 => ?_) (fun c26 => ?_)
              · have hw := hw.1 c26
                refine lv_iconst (v := (0 : Int32)) hx hb dX8_coreOf_158 (by decide) ?_
                refine lv_istore (lv' := [(4, .int (0 : Int32)), (7, .int v13), (0, .ref (q 0)), (1, .int z1), (2, .int z2), (3, .int z3), (5, .int y5), (6, .int v11)]) hx hb dX8_coreOf_159 hl (by decide) rfl (fun ls hl => ?_)
                obtain ⟨v27, ev27⟩ : ∃ z : Int32, z = y5 + (1 : Int32) := ⟨_, rfl⟩
                have hw := hw v27 ev27
                refine lv_iinc (v := v27) (lv' := [(5, .int v27), (4, .int (0 : Int32)), (7, .int v13), (0, .ref (q 0)), (1, .int z1), (2, .int z2), (3, .int z3), (6, .int v11)]) hx hb dX8_coreOf_161 hl (k := 6) rfl (by rw [ev27]; rfl) (by decide) rfl (fun ls hl => ?_)
                refine lv_goto (tgt := 37) hx hb dX8_coreOf_164 (by decide) ?_
                exact ih (0 : Int32) v27 σ25 _ _ _ hw hk167 hP hS (lv_sub hl [3, 4, 5, 6, 1, 0] rfl)
              · have hw := hw.2 c26
                refine lv_iconst (v := (1 : Int32)) hx hb dX8_coreOf_154 (by decide) ?_
                refine lv_goto (tgt := 159) hx hb dX8_coreOf_155 (by decide) ?_
                refine lv_istore (lv' := [(4, .int (1 : Int32)), (7, .int v13), (0, .ref (q 0)), (1, .int z1), (2, .int z2), (3, .int z3), (5, .int y5), (6, .int v11)]) hx hb dX8_coreOf_159 hl (by decide) rfl (fun ls hl => ?_)
                obtain ⟨v28, ev28⟩ : ∃ z : Int32, z = y5 + (1 : Int32) := ⟨_, rfl⟩
                have hw := hw v28 ev28
                refine lv_iinc (v := v28) (lv' := [(5, .int v28), (4, .int (1 : Int32)), (7, .int v13), (0, .ref (q 0)), (1, .int z1), (2, .int z2), (3, .int z3), (6, .int v11)]) hx hb dX8_coreOf_161 hl (k := 6) rfl (by rw [ev28]; rfl) (by decide) rfl (fun ls hl => ?_)
                refine lv_goto (tgt := 37) hx hb dX8_coreOf_164 (by decide) ?_
                exact ih (1 : Int32) v28 σ25 _ _ _ hw hk167 hP hS (lv_sub hl [3, 4, 5, 6, 1, 0] rfl)
            · have hw := hw.1 c14
              refine lv_aload_n hx hb dX8_coreOf_101 rfl (lv_at hl 1 rfl) ?_
              refine lv_iload hx hb dX8_coreOf_102 (lv_at hl 7 rfl) ?_
              refine lv_iload_n hx hb dX8_coreOf_104 rfl (lv_at hl 4 rfl) ?_
              refine va_calli (va_runV (As := [.int v11, .int z3]) (rest := [.int y5, .ref (q 15)]) ⟨hx, hb, hml, hown, htb⟩ (kcX8_better l D c q ev hev σ12 v11 z3 _ hw) (tb_CW htb kX8_better tb_1508 tb_1510 tb_65 ⟨Nat.le_of_ble_eq_true rfl, Nat.le_of_ble_eq_true rfl⟩) (wd_preV (wd := mw c q) (k := 0) hev hK hP hD hE hS (mw_0 c q σ12) rfl) rfl rfl hl.1 rfl (lv_room (Nat.le_of_ble_eq_true rfl)) dX8_coreOf_105 ⟨Nat.zero_le _, Nat.zero_le _⟩) hS (fun q _ h => h) (fun q h => h) (fun r15 σ16 t H1 locs1 ht hvm hw hB hz1 hk1 hS => ?_)
              have hP : va_P D vwCl (mw c q σ16) H1 := ht ▸ hB
              have hD : va_D (wdA 31 q) (mw c q σ16) := mw_D hD0
              refine lv_goto (tgt := 128) hx hb dX8_coreOf_108 (by decide) ?_
              refine va_iast hx hb hK hP hD hS 15 14 (mw_15 c q σ16) rfl hw.1 dX8_coreOf_128 (fun H locs hP hD hS => ?_)
              have hw := hw.2
              have hP : va_P D vwCl (mw c q (hsA σ16 15 (upd (σ16.2.1 15) y5.toNatClampNeg r15))) H := hP
              obtain ⟨σ17, eσ17⟩ : ∃ z : hsS, z = hsA σ16 15 (upd (σ16.2.1 15) y5.toNatClampNeg r15) := ⟨_, rfl⟩
              rw [← eσ17] at hP
              have hD : va_D (wdA 31 q) (mw c q σ17) := mw_D hD0
              have hw := hw σ17 eσ17
              refine lv_aload_n hx hb dX8_coreOf_129 rfl (lv_at hl 1 rfl) ?_
              refine va_get (D := D) (ci := 8) (C := RX8) (T := TX8) (N := 57) hx hb htb inX8 hown hK hP 0 (mw_0 c q σ17) rfl 27 (by decide) (htb _ tb_1208) (fun _ h9 => h9) rfl dX8_coreOf_130 ?_
              refine lv_iload hx hb dX8_coreOf_133 (lv_at hl 6 rfl) ?_
              refine va_iald hx hb hK hP 15 14 (mw_15 c q σ17) rfl hw.1 dX8_coreOf_135 ?_
              have hw := hw.2
              refine va_calli (va_runS (As := [.int (σ17.2.1 15 y5.toNatClampNeg)]) (rest := []) ⟨hx, hb, hml, hown, htb⟩ (kcX8_sizeOf_m l D c q ev hev σ17 (σ17.2.1 15 y5.toNatClampNeg) _ hw) (tb_CS htb kX8_sizeOf tb_1493 tb_1494 ⟨Nat.le_of_ble_eq_true rfl, Nat.le_of_ble_eq_true rfl⟩) (wd_preS (wd := mw c q) hev hK hP hD hE hS) rfl rfl hl.1 rfl (lv_room (Nat.le_of_ble_eq_true rfl)) dX8_coreOf_136 ⟨Nat.zero_le _, Nat.zero_le _⟩) hS (fun q _ h => h) (fun q h => h) (fun r18 σ19 t H1 locs1 ht hvm hw hB hz1 hk1 hS => ?_)
              have hP : va_P D vwCl (mw c q σ19) H1 := ht ▸ hB
              have hD : va_D (wdA 31 q) (mw c q σ19) := mw_D hD0
              refine lv_aload_n hx hb dX8_coreOf_139 rfl (lv_at hl 1 rfl) ?_
              refine va_get (D := D) (ci := 8) (C := RX8) (T := TX8) (N := 57) hx hb htb inX8 hown hK hP 0 (mw_0 c q σ19) rfl 25 (by decide) (htb _ tb_1206) (fun _ h9 => h9) rfl dX8_coreOf_140 ?_
              refine lv_aload_n hx hb dX8_coreOf_143 rfl (lv_at hl 1 rfl) ?_
              refine va_get (D := D) (ci := 8) (C := RX8) (T := TX8) (N := 57) hx hb htb inX8 hown hK hP 0 (mw_0 c q σ19) rfl 26 (by decide) (htb _ tb_1207) (fun _ h9 => h9) rfl dX8_coreOf_144 ?_
              refine lv_iload hx hb dX8_coreOf_147 (lv_at hl 6 rfl) ?_
              refine va_iald hx hb hK hP 14 13 (mw_14 c q σ19) rfl hw.1 dX8_coreOf_149 ?_
              have hw := hw.2
              refine lv_isub hx hb dX8_coreOf_150 ?_
              refine lv_icmp_ge (tgt := 158) hx hb dX8_coreOf_151 (by decide) (fun c20 => ?_) (fun c20 => ?_)
              · have hw := hw.1 c20
                refine lv_iconst (v := (0 : Int32)) hx hb dX8_coreOf_158 (by decide) ?_
                refine lv_istore (lv' := [(4, .int (0 : Int32)), (7, .int v13), (0, .ref (q 0)), (1, .int z1), (2, .int z2), (3, .int z3), (5, .int y5), (6, .int v11)]) hx hb dX8_coreOf_159 hl (by decide) rfl (fun ls hl => ?_)
                obtain ⟨v21, ev21⟩ : ∃ z : Int32, z = y5 + (1 : Int32) := ⟨_, rfl⟩
                have hw := hw v21 ev21
                refine lv_iinc (v := v21) (lv' := [(5, .int v21), (4, .int (0 : Int32)), (7, .int v13), (0, .ref (q 0)), (1, .int z1), (2, .int z2), (3, .int z3), (6, .int v11)]) hx hb dX8_coreOf_161 hl (k := 6) rfl (by rw [ev21]; rfl) (by decide) rfl (fun ls hl => ?_)
                refine lv_goto (tgt := 37) hx hb dX8_coreOf_164 (by decide) ?_
                exact ih (0 : Int32) v21 σ19 _ _ _ hw hk167 hP hS (lv_sub hl [3, 4, 5, 6, 1, 0] rfl)
              · have hw := hw.2 c20
                refine lv_iconst (v := (1 : Int32)) hx hb dX8_coreOf_154 (by decide) ?_
                refine lv_goto (tgt := 159) hx hb dX8_coreOf_155 (by decide) ?_
                refine lv_istore (lv' := [(4, .int (1 : Int32)), (7, .int v13), (0, .ref (q 0)), (1, .int z1), (2, .int z2), (3, .int z3), (5, .int y5), (6, .int v11)]) hx hb dX8_coreOf_159 hl (by decide) rfl (fun ls hl => ?_)
                obtain ⟨v22, ev22⟩ : ∃ z : Int32, z = y5 + (1 : Int32) := ⟨_, rfl⟩
                have hw := hw v22 ev22
                refine lv_iinc (v := v22) (lv' := [(5, .int v22), (4, .int (1 : Int32)), (7, .int v13), (0, .ref (q 0)), (1, .int z1), (2, .int z2), (3, .int z3), (6, .int v11)]) hx hb dX8_coreOf_161 hl (k := 6) rfl (by rw [ev22]; rfl) (by decide) rfl (fun ls hl => ?_)
                refine lv_goto (tgt := 37) hx hb dX8_coreOf_164 (by decide) ?_
                exact ih (1 : Int32) v22 σ19 _ _ _ hw hk167 hP hS (lv_sub hl [3, 4, 5, 6, 1, 0] rfl)
          · have hw := hw.2 c7
            refine lv_goto (tgt := 161) hx hb dX8_coreOf_57 (by decide) ?_
            obtain ⟨v29, ev29⟩ : ∃ z : Int32, z = y5 + (1 : Int32) := ⟨_, rfl⟩
            have hw := hw v29 ev29
            refine lv_iinc (v := v29) (lv' := [(5, .int v29), (0, .ref (q 0)), (1, .int z1), (2, .int z2), (3, .int z3), (4, .int y4)]) hx hb dX8_coreOf_161 hl (k := 5) rfl (by rw [ev29]; rfl) (by decide) rfl (fun ls hl => ?_)
            refine lv_goto (tgt := 37) hx hb dX8_coreOf_164 (by decide) ?_
            exact ih y4 v29 σ _ _ _ hw hk167 hP hS (lv_sub hl [1, 2, 3, 4, 5, 0] rfl)
  have L9 : ∀ (K188 : Int32 → Int32 → hsS → Prop) (z1 : Int32) (n : Nat) (y2 : Int32) (y3 : Int32) (σ : hsS) (H : Heap) (locs : List Loc) (ls : Array Slot), wX8_coreOf_L9 z1 K188 post n y2 y3 σ → (∀ (y2 : Int32) (y3 : Int32) (σ : hsS) (H : Heap) (locs : List Loc) (ls : Array Slot), K188 y2 y3 σ → va_P D vwCl (mw c q σ) H → va_S (wdA 31 q) s.heap H locs → lv_has ls 8 [(0, .ref (q 0)), (1, .int z1), (2, .int y2), (3, .int y3)] → W p l e (headSpec (Cond.code yX8_coreOf cX8_coreOf 8 (some .int) :: tb_L) { frames := 3, cells := 0, slots := 0, locals := 87 }).room s m [.ref (q 0), .int x1].toArray below meth c₀ H locs 0 0 (MQ below (va_Qi post (wdB D (mw c q)) (wdA 31 q)) [.ref (q 0), .int x1].toArray s 0 0 (wdA 31 q)) (F0 m 188 ls [])) → va_P D vwCl (mw c q σ) H → va_S (wdA 31 q) s.heap H locs → lv_has ls 8 [(0, .ref (q 0)), (1, .int z1), (2, .int y2), (3, .int y3)] → W p l e (headSpec (Cond.code yX8_coreOf cX8_coreOf 8 (some .int) :: tb_L) { frames := 3, cells := 0, slots := 0, locals := 87 }).room s m [.ref (q 0), .int x1].toArray below meth c₀ H locs 0 0 (MQ below (va_Qi post (wdB D (mw c q)) (wdA 31 q)) [.ref (q 0), .int x1].toArray s 0 0 (wdA 31 q)) (F0 m 9 ls []) := by
    intro K188 z1 n
    induction n with
    | zero =>
      intro y2 y3 σ H locs ls hw hk188 hP hS hl
      exact (show False from hw).elim
    | succ n ih =>
      intro y2 y3 σ H locs ls hw hk188 hP hS hl
      rw [wX8_coreOf_L9] at hw
      have hD : va_D (wdA 31 q) (mw c q σ) := mw_D hD0
      refine lv_iload_n hx hb dX8_coreOf_9 rfl (lv_at hl 3 rfl) ?_
      refine lv_aload_n hx hb dX8_coreOf_10 rfl (lv_at hl 0 rfl) ?_
      refine va_get (D := D) (ci := 8) (C := RX8) (T := TX8) (N := 57) hx hb htb inX8 hown hK hP 0 (mw_0 c q σ) rfl 25 (by decide) (htb _ tb_1206) (fun _ h9 => h9) rfl dX8_coreOf_11 ?_
      refine lv_icmp_ge (tgt := 188) hx hb dX8_coreOf_14 (by decide) (fun c3 => ?_) (fun c3 => ?_)
      · have hw := hw.1 c3
        exact hk188 y2 y3 σ _ _ _ hw hP hS (lv_sub hl [0, 1, 2, 3] rfl)
      · have hw := hw.2 c3
        refine lv_iconst (v := (1 : Int32)) hx hb dX8_coreOf_17 (by decide) ?_
        refine lv_istore (lv' := [(4, .int (1 : Int32)), (0, .ref (q 0)), (1, .int z1), (2, .int y2), (3, .int y3)]) hx hb dX8_coreOf_18 hl (by decide) rfl (fun ls hl => ?_)
        refine lv_aload_n hx hb dX8_coreOf_20 rfl (lv_at hl 1 rfl) ?_
        refine va_get (D := D) (ci := 8) (C := RX8) (T := TX8) (N := 57) hx hb htb inX8 hown hK hP 0 (mw_0 c q σ) rfl 27 (by decide) (htb _ tb_1208) (fun _ h9 => h9) rfl dX8_coreOf_21 ?_
        refine lv_iconst (v := (0 : Int32)) hx hb dX8_coreOf_24 (by decide) ?_
        refine lv_iconst (v := (1 : Int32)) hx hb dX8_coreOf_25 (by decide) ?_
        refine lv_aload_n hx hb dX8_coreOf_26 rfl (lv_at hl 1 rfl) ?_
        refine va_get (D := D) (ci := 8) (C := RX8) (T := TX8) (N := 57) hx hb htb inX8 hown hK hP 0 (mw_0 c q σ) rfl 25 (by decide) (htb _ tb_1206) (fun _ h9 => h9) rfl dX8_coreOf_27 ?_
        refine lv_ishl hx hb dX8_coreOf_30 ?_
        refine lv_iconst (v := (1 : Int32)) hx hb dX8_coreOf_31 (by decide) ?_
        refine lv_isub hx hb dX8_coreOf_32 ?_
        refine va_iast hx hb hK hP hD hS 15 14 (mw_15 c q σ) rfl (by unfold vp_in; decide) dX8_coreOf_33 (fun H locs hP hD hS => ?_)
        have hP : va_P D vwCl (mw c q (hsA σ 15 (upd (σ.2.1 15) (0 : Int32).toNatClampNeg (((1 : Int32) <<< ((σ.1 25) &&& 31)) - (1 : Int32))))) H := hP
        obtain ⟨σ4, eσ4⟩ : ∃ z : hsS, z = hsA σ 15 (upd (σ.2.1 15) (0 : Int32).toNatClampNeg (((1 : Int32) <<< ((σ.1 25) &&& 31)) - (1 : Int32))) := ⟨_, rfl⟩
        rw [← eσ4] at hP
        have hD : va_D (wdA 31 q) (mw c q σ4) := mw_D hD0
        have hw := hw σ4 eσ4
        refine lv_iconst (v := (1 : Int32)) hx hb dX8_coreOf_34 (by decide) ?_
        refine lv_istore (lv' := [(5, .int (1 : Int32)), (4, .int (1 : Int32)), (0, .ref (q 0)), (1, .int z1), (2, .int y2), (3, .int y3)]) hx hb dX8_coreOf_35 hl (by decide) rfl (fun ls hl => ?_)
        obtain ⟨n30, hw⟩ := hw
        refine L37 _ z1 y2 y3 n30 (1 : Int32) (1 : Int32) σ4 _ _ _ hw ?_ hP hS (lv_sub hl [2, 3, 4, 5, 1, 0] rfl)
        intro v31 v32 σ33 H locs ls hw hP hS hl
        have hD : va_D (wdA 31 q) (mw c q σ33) := mw_D hD0
        refine lv_iload_n hx hb dX8_coreOf_167 rfl (lv_at hl 2 rfl) ?_
        refine lv_iload hx hb dX8_coreOf_168 (lv_at hl 4 rfl) ?_
        refine lv_if_eq (tgt := 179) hx hb dX8_coreOf_170 (by decide) (fun c34 => ?_) (fun c34 => ?_)
        · have hw := hw.1 c34
          refine lv_iconst (v := (0 : Int32)) hx hb dX8_coreOf_179 (by decide) ?_
          refine lv_ior hx hb dX8_coreOf_180 ?_
          refine lv_topi (fun v35 ev35 => ?_)
          have hw := hw v35 ev35
          refine lv_istore_n (lv' := [(2, .int v35), (0, .ref (q 0)), (1, .int z1), (3, .int y3), (4, .int v31), (5, .int v32)]) hx hb dX8_coreOf_181 rfl hl (by decide) rfl (fun ls hl => ?_)
          obtain ⟨v36, ev36⟩ : ∃ z : Int32, z = y3 + (1 : Int32) := ⟨_, rfl⟩
          have hw := hw v36 ev36
          refine lv_iinc (v := v36) (lv' := [(3, .int v36), (2, .int v35), (0, .ref (q 0)), (1, .int z1), (4, .int v31), (5, .int v32)]) hx hb dX8_coreOf_182 hl (k := 3) rfl (by rw [ev36]; rfl) (by decide) rfl (fun ls hl => ?_)
          refine lv_goto (tgt := 9) hx hb dX8_coreOf_185 (by decide) ?_
          exact ih v35 v36 σ33 _ _ _ hw hk188 hP hS (lv_sub hl [2, 3, 1, 0] rfl)
        · have hw := hw.2 c34
          refine lv_iconst (v := (1 : Int32)) hx hb dX8_coreOf_173 (by decide) ?_
          refine lv_iload_n hx hb dX8_coreOf_174 rfl (lv_at hl 3 rfl) ?_
          refine lv_ishl hx hb dX8_coreOf_175 ?_
          refine lv_goto (tgt := 180) hx hb dX8_coreOf_176 (by decide) ?_
          refine lv_ior hx hb dX8_coreOf_180 ?_
          refine lv_topi (fun v37 ev37 => ?_)
          have hw := hw v37 ev37
          refine lv_istore_n (lv' := [(2, .int v37), (0, .ref (q 0)), (1, .int z1), (3, .int y3), (4, .int v31), (5, .int v32)]) hx hb dX8_coreOf_181 rfl hl (by decide) rfl (fun ls hl => ?_)
          obtain ⟨v38, ev38⟩ : ∃ z : Int32, z = y3 + (1 : Int32) := ⟨_, rfl⟩
          have hw := hw v38 ev38
          refine lv_iinc (v := v38) (lv' := [(3, .int v38), (2, .int v37), (0, .ref (q 0)), (1, .int z1), (4, .int v31), (5, .int v32)]) hx hb dX8_coreOf_182 hl (k := 3) rfl (by rw [ev38]; rfl) (by decide) rfl (fun ls hl => ?_)
          refine lv_goto (tgt := 9) hx hb dX8_coreOf_185 (by decide) ?_
          exact ih v37 v38 σ33 _ _ _ hw hk188 hP hS (lv_sub hl [2, 3, 1, 0] rfl)
  have hl := lv_entry ([.ref (q 0), .int x1]) (n := 8) (Nat.le_of_ble_eq_true rfl)
  rw [lg_entry_eq]
  generalize (lg_sl ([.ref (q 0), .int x1]) ++ List.replicate (8 - (lg_sl ([.ref (q 0), .int x1])).length) Slot.unset).toArray = ls at hl ⊢
  have hl : lv_has ls 8 [(0, .ref (q 0)), (1, .int x1)] := hl
  unfold wX8_coreOf at hw
  refine lv_aload_n hx hb dX8_coreOf_0 rfl (lv_at hl 0 rfl) ?_
  refine lv_iload_n hx hb dX8_coreOf_1 rfl (lv_at hl 1 rfl) ?_
  refine va_callv (va_runV (As := [.int x1]) (rest := []) ⟨hx, hb, hml, hown, htb⟩ (kcX8_tellMays l D c q ev hev σ x1 _ hw) (tb_CW htb kX8_tellMays tb_1539 tb_1541 tb_69 ⟨Nat.le_of_ble_eq_true rfl, Nat.le_of_ble_eq_true rfl⟩) (wd_preV (wd := mw c q) (k := 0) hev hK hP hD hE hS (mw_0 c q σ) rfl) rfl rfl hl.1 rfl (lv_room (Nat.le_of_ble_eq_true rfl)) dX8_coreOf_2 ⟨Nat.zero_le _, Nat.zero_le _⟩) hS (fun q _ h => h) (fun q h => h) (fun σ2 t H1 locs1 ht hvm hw hB hz1 hk1 hS => ?_)
  have hP : va_P D vwCl (mw c q σ2) H1 := ht ▸ hB
  have hD : va_D (wdA 31 q) (mw c q σ2) := mw_D hD0
  refine lv_iconst (v := (0 : Int32)) hx hb dX8_coreOf_5 (by decide) ?_
  refine lv_istore_n (lv' := [(2, .int (0 : Int32)), (0, .ref (q 0)), (1, .int x1)]) hx hb dX8_coreOf_6 rfl hl (by decide) rfl (fun ls hl => ?_)
  refine lv_iconst (v := (0 : Int32)) hx hb dX8_coreOf_7 (by decide) ?_
  refine lv_istore_n (lv' := [(3, .int (0 : Int32)), (2, .int (0 : Int32)), (0, .ref (q 0)), (1, .int x1)]) hx hb dX8_coreOf_8 rfl hl (by decide) rfl (fun ls hl => ?_)
  obtain ⟨n39, hw⟩ := hw
  refine L9 _ x1 n39 (0 : Int32) (0 : Int32) σ2 _ _ _ hw ?_ hP hS (lv_sub hl [2, 3, 1, 0] rfl)
  intro v40 v41 σ42 H locs ls hw hP hS hl
  have hD : va_D (wdA 31 q) (mw c q σ42) := mw_D hD0
  refine lv_iload_n hx hb dX8_coreOf_188 rfl (lv_at hl 2 rfl) ?_
  exact W.iret hx hb hr (fun t ht hW => ⟨⟨_, σ42, rfl, hw, by unfold wdB; rw [ht]; exact hP⟩, hS.F ht⟩) hS.2.2 dX8_coreOf_189
def wX8_core  (post : Int32 → hsS → Prop) (σ : hsS) : Prop := ∀ σ1 : hsS, σ1 = hsI σ 0 (0 : Int32) → wX8_look  (fun σ3 => wX8_everybody  (fun r4 σ5 => wX8_coreOf r4 (fun r6 σ7 => post r6 σ7) σ5) σ3) σ1
set_option maxHeartbeats 4000000 in
set_option maxRecDepth 100000 in
theorem kcX8_core (l : Launch) (D : va_G) (c : Nat → ClassId) (q : Nat → Nat) (ev : State → Heap → Prop) (hev : evOK (wdA 31 q) ev) (σ : hsS)  (post : Int32 → hsS → Prop) (hw : wX8_core  post σ) : Met l yX8_core (Cond.code yX8_core cX8_core 1 (some .int) :: tb_L) { frames := 4, cells := 0, slots := 0, locals := 114 } (wdPc D (mw c q) (mwT c) (wdA 31 q) ev σ [.ref (q 0)]) (va_Qi post (wdB D (mw c q)) (wdA 31 q)) 0 0 (wdA 31 q) := by
  refine Met.ofW (cc := cX8_core) (maxL := 1) (ret := (some .int)) (by decide) rfl ?_
  intro p e s m args below meth c₀ s₁ Bd hml hv
  obtain ⟨rfl, hP, hK, hD0, hE⟩ := hv
  have hx := Bd.exec
  have hb := Bd.bytes
  have hr := Bd.returns
  have hts := atoms_spec (ws := Cond.code yX8_core cX8_core 1 (some .int) :: tb_L) Bd.pre
  have htb : ∀ w ∈ tb_L, w.before [.ref (q 0)].toArray s = true := fun w h => hts w (List.mem_cons_of_mem _ h)
  have hown : s.vm.findClass RX8 = some m.cls := findClass_of_methodNamed Bd.named
  have hlocks := Bd.notSynchronized
  have hS : va_S (wdA 31 q) s.heap s.heap [] := va_S.rf
  have hD := hD0
  have hl := lv_entry ([.ref (q 0)]) (n := 1) (Nat.le_of_ble_eq_true rfl)
  rw [lg_entry_eq]
  generalize (lg_sl ([.ref (q 0)]) ++ List.replicate (1 - (lg_sl ([.ref (q 0)])).length) Slot.unset).toArray = ls at hl ⊢
  have hl : lv_has ls 1 [(0, .ref (q 0))] := hl
  unfold wX8_core at hw
  refine lv_aload_n hx hb dX8_core_0 rfl (lv_at hl 0 rfl) ?_
  refine lv_iconst (v := (0 : Int32)) hx hb dX8_core_1 (by decide) ?_
  refine va_put (D := D) (ci := 8) (ty := .int) (C := RX8) (T := TX8) (N := 57) hx hb htb inX8 tyX8 tyX8_ok nmX8 hown hK hP hD hS 0 (mw_0 c q σ) rfl 0 (by decide) (htb _ tb_1181) (fun _ h9 => h9) rfl (by decide +kernel) rfl rfl (Nat.le_of_ble_eq_true rfl) dX8_core_2 (fun H locs hP hD hS => ?_)
  have hP : va_P D vwCl (mw c q (hsI σ 0 (0 : Int32))) H := hP
  obtain ⟨σ1, eσ1⟩ : ∃ z : hsS, z = hsI σ 0 (0 : Int32) := ⟨_, rfl⟩
  rw [← eσ1] at hP
  have hD : va_D (wdA 31 q) (mw c q σ1) := mw_D hD0
  have hw := hw σ1 eσ1
  refine lv_aload_n hx hb dX8_core_5 rfl (lv_at hl 0 rfl) ?_
  refine va_callv (va_runV (As := []) (rest := []) ⟨hx, hb, hml, hown, htb⟩ (kcX8_look l D c q ev hev σ1  _ hw) (tb_CW htb kX8_look tb_1500 tb_1502 tb_63 ⟨Nat.le_of_ble_eq_true rfl, Nat.le_of_ble_eq_true rfl⟩) (wd_preV (wd := mw c q) (k := 0) hev hK hP hD hE hS (mw_0 c q σ1) rfl) rfl rfl hl.1 rfl (lv_room (Nat.le_of_ble_eq_true rfl)) dX8_core_6 ⟨Nat.zero_le _, Nat.zero_le _⟩) hS (fun q _ h => h) (fun q h => h) (fun σ3 t H1 locs1 ht hvm hw hB hz1 hk1 hS => ?_)
  have hP : va_P D vwCl (mw c q σ3) H1 := ht ▸ hB
  have hD : va_D (wdA 31 q) (mw c q σ3) := mw_D hD0
  refine lv_aload_n hx hb dX8_core_9 rfl (lv_at hl 0 rfl) ?_
  refine lv_aload_n hx hb dX8_core_10 rfl (lv_at hl 0 rfl) ?_
  refine va_calli (va_runV (As := []) (rest := [.ref (q 0)]) ⟨hx, hb, hml, hown, htb⟩ (kcX8_everybody l D c q ev hev σ3  _ hw) (tb_CW htb kX8_everybody tb_1485 tb_1487 tb_61 ⟨Nat.le_of_ble_eq_true rfl, Nat.le_of_ble_eq_true rfl⟩) (wd_preV (wd := mw c q) (k := 0) hev hK hP hD hE hS (mw_0 c q σ3) rfl) rfl rfl hl.1 rfl (lv_room (Nat.le_of_ble_eq_true rfl)) dX8_core_11 ⟨Nat.zero_le _, Nat.zero_le _⟩) hS (fun q _ h => h) (fun q h => h) (fun r4 σ5 t H1 locs1 ht hvm hw hB hz1 hk1 hS => ?_)
  have hP : va_P D vwCl (mw c q σ5) H1 := ht ▸ hB
  have hD : va_D (wdA 31 q) (mw c q σ5) := mw_D hD0
  refine va_calli (va_runV (As := [.int r4]) (rest := []) ⟨hx, hb, hml, hown, htb⟩ (kcX8_coreOf l D c q ev hev σ5 r4 _ hw) (tb_CW htb kX8_coreOf tb_1535 tb_1537 tb_68 ⟨Nat.le_of_ble_eq_true rfl, Nat.le_of_ble_eq_true rfl⟩) (wd_preV (wd := mw c q) (k := 0) hev hK hP hD hE hS (mw_0 c q σ5) rfl) rfl rfl hl.1 rfl (lv_room (Nat.le_of_ble_eq_true rfl)) dX8_core_14 ⟨Nat.zero_le _, Nat.zero_le _⟩) hS (fun q _ h => h) (fun q h => h) (fun r6 σ7 t H1 locs1 ht hvm hw hB hz1 hk1 hS => ?_)
  have hP : va_P D vwCl (mw c q σ7) H1 := ht ▸ hB
  have hD : va_D (wdA 31 q) (mw c q σ7) := mw_D hD0
  exact W.iret hx hb hr (fun t ht hW => ⟨⟨_, σ7, rfl, hw, by unfold wdB; rw [ht]; exact hP⟩, hS.F ht⟩) hS.2.2 dX8_core_17
def wX8_copy (x1 : Int32) (post : Int32 → hsS → Prop) (σ : hsS) : Prop := ∀ σ1 : hsS, σ1 = hsI σ 0 (0 : Int32) → wX8_isThing x1 (fun r2 σ3 => ((r2 = (0 : Int32) → wX8_fail (1 : Int32) (fun r5 σ6 => post r5 σ6) σ3) ∧ (¬ r2 = (0 : Int32) → (((σ3.2.1 1 (0 : Int32).toNatClampNeg) = (9 : Int32) → post (-1 : Int32) σ3) ∧ (¬ (σ3.2.1 1 (0 : Int32).toNatClampNeg) = (9 : Int32) → wX8_lookWith x1 (fun σ9 => wX8_everybody  (fun r10 σ11 => wX8_coreOf r10 (fun r12 σ13 => post r12 σ13) σ11) σ9) σ3))))) σ1
set_option maxHeartbeats 4000000 in
set_option maxRecDepth 100000 in
theorem kcX8_copy (l : Launch) (D : va_G) (c : Nat → ClassId) (q : Nat → Nat) (ev : State → Heap → Prop) (hev : evOK (wdA 31 q) ev) (σ : hsS) (x1 : Int32) (post : Int32 → hsS → Prop) (hw : wX8_copy x1 post σ) : Met l yX8_copy (Cond.code yX8_copy cX8_copy 2 (some .int) :: tb_L) { frames := 4, cells := 0, slots := 0, locals := 114 } (wdPc D (mw c q) (mwT c) (wdA 31 q) ev σ [.ref (q 0), .int x1]) (va_Qi post (wdB D (mw c q)) (wdA 31 q)) 0 0 (wdA 31 q) := by
  refine Met.ofW (cc := cX8_copy) (maxL := 2) (ret := (some .int)) (by decide) rfl ?_
  intro p e s m args below meth c₀ s₁ Bd hml hv
  obtain ⟨rfl, hP, hK, hD0, hE⟩ := hv
  have hx := Bd.exec
  have hb := Bd.bytes
  have hr := Bd.returns
  have hts := atoms_spec (ws := Cond.code yX8_copy cX8_copy 2 (some .int) :: tb_L) Bd.pre
  have htb : ∀ w ∈ tb_L, w.before [.ref (q 0), .int x1].toArray s = true := fun w h => hts w (List.mem_cons_of_mem _ h)
  have hown : s.vm.findClass RX8 = some m.cls := findClass_of_methodNamed Bd.named
  have hlocks := Bd.notSynchronized
  have hS : va_S (wdA 31 q) s.heap s.heap [] := va_S.rf
  have hD := hD0
  have hl := lv_entry ([.ref (q 0), .int x1]) (n := 2) (Nat.le_of_ble_eq_true rfl)
  rw [lg_entry_eq]
  generalize (lg_sl ([.ref (q 0), .int x1]) ++ List.replicate (2 - (lg_sl ([.ref (q 0), .int x1])).length) Slot.unset).toArray = ls at hl ⊢
  have hl : lv_has ls 2 [(0, .ref (q 0)), (1, .int x1)] := hl
  unfold wX8_copy at hw
  refine lv_aload_n hx hb dX8_copy_0 rfl (lv_at hl 0 rfl) ?_
  refine lv_iconst (v := (0 : Int32)) hx hb dX8_copy_1 (by decide) ?_
  refine va_put (D := D) (ci := 8) (ty := .int) (C := RX8) (T := TX8) (N := 57) hx hb htb inX8 tyX8 tyX8_ok nmX8 hown hK hP hD hS 0 (mw_0 c q σ) rfl 0 (by decide) (htb _ tb_1181) (fun _ h9 => h9) rfl (by decide +kernel) rfl rfl (Nat.le_of_ble_eq_true rfl) dX8_copy_2 (fun H locs hP hD hS => ?_)
  have hP : va_P D vwCl (mw c q (hsI σ 0 (0 : Int32))) H := hP
  obtain ⟨σ1, eσ1⟩ : ∃ z : hsS, z = hsI σ 0 (0 : Int32) := ⟨_, rfl⟩
  rw [← eσ1] at hP
  have hD : va_D (wdA 31 q) (mw c q σ1) := mw_D hD0
  have hw := hw σ1 eσ1
  refine lv_aload_n hx hb dX8_copy_5 rfl (lv_at hl 0 rfl) ?_
  refine lv_iload_n hx hb dX8_copy_6 rfl (lv_at hl 1 rfl) ?_
  refine va_calli (va_runV (As := [.int x1]) (rest := []) ⟨hx, hb, hml, hown, htb⟩ (kcX8_isThing l D c q ev hev σ1 x1 _ hw) (tb_CW htb kX8_isThing tb_1473 tb_1475 tb_59 ⟨Nat.le_of_ble_eq_true rfl, Nat.le_of_ble_eq_true rfl⟩) (wd_preV (wd := mw c q) (k := 0) hev hK hP hD hE hS (mw_0 c q σ1) rfl) rfl rfl hl.1 rfl (lv_room (Nat.le_of_ble_eq_true rfl)) dX8_copy_7 ⟨Nat.zero_le _, Nat.zero_le _⟩) hS (fun q _ h => h) (fun q h => h) (fun r2 σ3 t H1 locs1 ht hvm hw hB hz1 hk1 hS => ?_)
  have hP : va_P D vwCl (mw c q σ3) H1 := ht ▸ hB
  have hD : va_D (wdA 31 q) (mw c q σ3) := mw_D hD0
  refine lv_if_ne (tgt := 19) hx hb dX8_copy_10 (by decide) (fun c4 => ?_) (fun c4 => ?_)
  · have hw := hw.2 c4
    refine lv_aload_n hx hb dX8_copy_19 rfl (lv_at hl 0 rfl) ?_
    refine va_get (D := D) (ci := 8) (C := RX8) (T := TX8) (N := 57) hx hb htb inX8 hown hK hP 0 (mw_0 c q σ3) rfl 1 (by decide) (htb _ tb_1182) (fun _ h9 => h9) rfl dX8_copy_20 ?_
    refine lv_iconst (v := (0 : Int32)) hx hb dX8_copy_23 (by decide) ?_
    refine va_iald hx hb hK hP 1 0 (mw_1 c q σ3) rfl (by unfold vp_in; decide) dX8_copy_24 ?_
    refine lv_bipush (v := (9 : Int32)) hx hb dX8_copy_25 (by decide) ?_
    refine lv_icmp_ne (tgt := 32) hx hb dX8_copy_27 (by decide) (fun c7 => ?_) (fun c7 => ?_)
    · have hw := hw.2 c7
      refine lv_aload_n hx hb dX8_copy_32 rfl (lv_at hl 0 rfl) ?_
      refine lv_iload_n hx hb dX8_copy_33 rfl (lv_at hl 1 rfl) ?_
      refine va_callv (va_runV (As := [.int x1]) (rest := []) ⟨hx, hb, hml, hown, htb⟩ (kcX8_lookWith l D c q ev hev σ3 x1 _ hw) (tb_CW htb kX8_lookWith tb_1547 tb_1549 tb_70 ⟨Nat.le_of_ble_eq_true rfl, Nat.le_of_ble_eq_true rfl⟩) (wd_preV (wd := mw c q) (k := 0) hev hK hP hD hE hS (mw_0 c q σ3) rfl) rfl rfl hl.1 rfl (lv_room (Nat.le_of_ble_eq_true rfl)) dX8_copy_34 ⟨Nat.zero_le _, Nat.zero_le _⟩) hS (fun q _ h => h) (fun q h => h) (fun σ9 t H1 locs1 ht hvm hw hB hz1 hk1 hS => ?_)
      have hP : va_P D vwCl (mw c q σ9) H1 := ht ▸ hB
      have hD : va_D (wdA 31 q) (mw c q σ9) := mw_D hD0
      refine lv_aload_n hx hb dX8_copy_37 rfl (lv_at hl 0 rfl) ?_
      refine lv_aload_n hx hb dX8_copy_38 rfl (lv_at hl 0 rfl) ?_
      refine va_calli (va_runV (As := []) (rest := [.ref (q 0)]) ⟨hx, hb, hml, hown, htb⟩ (kcX8_everybody l D c q ev hev σ9  _ hw) (tb_CW htb kX8_everybody tb_1485 tb_1487 tb_61 ⟨Nat.le_of_ble_eq_true rfl, Nat.le_of_ble_eq_true rfl⟩) (wd_preV (wd := mw c q) (k := 0) hev hK hP hD hE hS (mw_0 c q σ9) rfl) rfl rfl hl.1 rfl (lv_room (Nat.le_of_ble_eq_true rfl)) dX8_copy_39 ⟨Nat.zero_le _, Nat.zero_le _⟩) hS (fun q _ h => h) (fun q h => h) (fun r10 σ11 t H1 locs1 ht hvm hw hB hz1 hk1 hS => ?_)
      have hP : va_P D vwCl (mw c q σ11) H1 := ht ▸ hB
      have hD : va_D (wdA 31 q) (mw c q σ11) := mw_D hD0
      refine va_calli (va_runV (As := [.int r10]) (rest := []) ⟨hx, hb, hml, hown, htb⟩ (kcX8_coreOf l D c q ev hev σ11 r10 _ hw) (tb_CW htb kX8_coreOf tb_1535 tb_1537 tb_68 ⟨Nat.le_of_ble_eq_true rfl, Nat.le_of_ble_eq_true rfl⟩) (wd_preV (wd := mw c q) (k := 0) hev hK hP hD hE hS (mw_0 c q σ11) rfl) rfl rfl hl.1 rfl (lv_room (Nat.le_of_ble_eq_true rfl)) dX8_copy_42 ⟨Nat.zero_le _, Nat.zero_le _⟩) hS (fun q _ h => h) (fun q h => h) (fun r12 σ13 t H1 locs1 ht hvm hw hB hz1 hk1 hS => ?_)
      have hP : va_P D vwCl (mw c q σ13) H1 := ht ▸ hB
      have hD : va_D (wdA 31 q) (mw c q σ13) := mw_D hD0
      exact W.iret hx hb hr (fun t ht hW => ⟨⟨_, σ13, rfl, hw, by unfold wdB; rw [ht]; exact hP⟩, hS.F ht⟩) hS.2.2 dX8_copy_45
    · have hw := hw.1 c7
      refine lv_iconst (v := (-1 : Int32)) hx hb dX8_copy_30 (by decide) ?_
      exact W.iret hx hb hr (fun t ht hW => ⟨⟨_, σ3, rfl, hw, by unfold wdB; rw [ht]; exact hP⟩, hS.F ht⟩) hS.2.2 dX8_copy_31
  · have hw := hw.1 c4
    refine lv_aload_n hx hb dX8_copy_13 rfl (lv_at hl 0 rfl) ?_
    refine lv_iconst (v := (1 : Int32)) hx hb dX8_copy_14 (by decide) ?_
    refine va_calli (va_runV (As := [.int (1 : Int32)]) (rest := []) ⟨hx, hb, hml, hown, htb⟩ (kcX8_fail l D c q ev hev σ3 (1 : Int32) _ hw) (tb_CW htb kX8_fail tb_1366 tb_1368 tb_42 ⟨Nat.le_of_ble_eq_true rfl, Nat.le_of_ble_eq_true rfl⟩) (wd_preV (wd := mw c q) (k := 0) hev hK hP hD hE hS (mw_0 c q σ3) rfl) rfl rfl hl.1 rfl (lv_room (Nat.le_of_ble_eq_true rfl)) dX8_copy_15 ⟨Nat.zero_le _, Nat.zero_le _⟩) hS (fun q _ h => h) (fun q h => h) (fun r5 σ6 t H1 locs1 ht hvm hw hB hz1 hk1 hS => ?_)
    have hP : va_P D vwCl (mw c q σ6) H1 := ht ▸ hB
    have hD : va_D (wdA 31 q) (mw c q σ6) := mw_D hD0
    exact W.iret hx hb hr (fun t ht hW => ⟨⟨_, σ6, rfl, hw, by unfold wdB; rw [ht]; exact hP⟩, hS.F ht⟩) hS.2.2 dX8_copy_18
def wX8_without (x1 : Int32) (post : Int32 → hsS → Prop) (σ : hsS) : Prop := ∀ σ1 : hsS, σ1 = hsI σ 0 (0 : Int32) → wX8_isOne x1 (fun r2 σ3 => ((r2 = (0 : Int32) → wX8_fail (1 : Int32) (fun r5 σ6 => post r5 σ6) σ3) ∧ (¬ r2 = (0 : Int32) → wX8_look  (fun σ8 => wX8_everybody  (fun r9 σ10 => wX8_coreOf (r9 &&& (((1 : Int32) <<< (x1 &&& 31)) ^^^ (-1 : Int32))) (fun r11 σ12 => post r11 σ12) σ10) σ8) σ3))) σ1
set_option maxHeartbeats 4000000 in
set_option maxRecDepth 100000 in
theorem kcX8_without (l : Launch) (D : va_G) (c : Nat → ClassId) (q : Nat → Nat) (ev : State → Heap → Prop) (hev : evOK (wdA 31 q) ev) (σ : hsS) (x1 : Int32) (post : Int32 → hsS → Prop) (hw : wX8_without x1 post σ) : Met l yX8_without (Cond.code yX8_without cX8_without 2 (some .int) :: tb_L) { frames := 4, cells := 0, slots := 0, locals := 114 } (wdPc D (mw c q) (mwT c) (wdA 31 q) ev σ [.ref (q 0), .int x1]) (va_Qi post (wdB D (mw c q)) (wdA 31 q)) 0 0 (wdA 31 q) := by
  refine Met.ofW (cc := cX8_without) (maxL := 2) (ret := (some .int)) (by decide) rfl ?_
  intro p e s m args below meth c₀ s₁ Bd hml hv
  obtain ⟨rfl, hP, hK, hD0, hE⟩ := hv
  have hx := Bd.exec
  have hb := Bd.bytes
  have hr := Bd.returns
  have hts := atoms_spec (ws := Cond.code yX8_without cX8_without 2 (some .int) :: tb_L) Bd.pre
  have htb : ∀ w ∈ tb_L, w.before [.ref (q 0), .int x1].toArray s = true := fun w h => hts w (List.mem_cons_of_mem _ h)
  have hown : s.vm.findClass RX8 = some m.cls := findClass_of_methodNamed Bd.named
  have hlocks := Bd.notSynchronized
  have hS : va_S (wdA 31 q) s.heap s.heap [] := va_S.rf
  have hD := hD0
  have hl := lv_entry ([.ref (q 0), .int x1]) (n := 2) (Nat.le_of_ble_eq_true rfl)
  rw [lg_entry_eq]
  generalize (lg_sl ([.ref (q 0), .int x1]) ++ List.replicate (2 - (lg_sl ([.ref (q 0), .int x1])).length) Slot.unset).toArray = ls at hl ⊢
  have hl : lv_has ls 2 [(0, .ref (q 0)), (1, .int x1)] := hl
  unfold wX8_without at hw
  refine lv_aload_n hx hb dX8_without_0 rfl (lv_at hl 0 rfl) ?_
  refine lv_iconst (v := (0 : Int32)) hx hb dX8_without_1 (by decide) ?_
  refine va_put (D := D) (ci := 8) (ty := .int) (C := RX8) (T := TX8) (N := 57) hx hb htb inX8 tyX8 tyX8_ok nmX8 hown hK hP hD hS 0 (mw_0 c q σ) rfl 0 (by decide) (htb _ tb_1181) (fun _ h9 => h9) rfl (by decide +kernel) rfl rfl (Nat.le_of_ble_eq_true rfl) dX8_without_2 (fun H locs hP hD hS => ?_)
  have hP : va_P D vwCl (mw c q (hsI σ 0 (0 : Int32))) H := hP
  obtain ⟨σ1, eσ1⟩ : ∃ z : hsS, z = hsI σ 0 (0 : Int32) := ⟨_, rfl⟩
  rw [← eσ1] at hP
  have hD : va_D (wdA 31 q) (mw c q σ1) := mw_D hD0
  have hw := hw σ1 eσ1
  refine lv_aload_n hx hb dX8_without_5 rfl (lv_at hl 0 rfl) ?_
  refine lv_iload_n hx hb dX8_without_6 rfl (lv_at hl 1 rfl) ?_
  refine va_calli (va_runV (As := [.int x1]) (rest := []) ⟨hx, hb, hml, hown, htb⟩ (kcX8_isOne l D c q ev hev σ1 x1 _ hw) (tb_CW htb kX8_isOne tb_1469 tb_1471 tb_58 ⟨Nat.le_of_ble_eq_true rfl, Nat.le_of_ble_eq_true rfl⟩) (wd_preV (wd := mw c q) (k := 0) hev hK hP hD hE hS (mw_0 c q σ1) rfl) rfl rfl hl.1 rfl (lv_room (Nat.le_of_ble_eq_true rfl)) dX8_without_7 ⟨Nat.zero_le _, Nat.zero_le _⟩) hS (fun q _ h => h) (fun q h => h) (fun r2 σ3 t H1 locs1 ht hvm hw hB hz1 hk1 hS => ?_)
  have hP : va_P D vwCl (mw c q σ3) H1 := ht ▸ hB
  have hD : va_D (wdA 31 q) (mw c q σ3) := mw_D hD0
  refine lv_if_ne (tgt := 19) hx hb dX8_without_10 (by decide) (fun c4 => ?_) (fun c4 => ?_)
  · have hw := hw.2 c4
    refine lv_aload_n hx hb dX8_without_19 rfl (lv_at hl 0 rfl) ?_
    refine va_callv (va_runV (As := []) (rest := []) ⟨hx, hb, hml, hown, htb⟩ (kcX8_look l D c q ev hev σ3  _ hw) (tb_CW htb kX8_look tb_1500 tb_1502 tb_63 ⟨Nat.le_of_ble_eq_true rfl, Nat.le_of_ble_eq_true rfl⟩) (wd_preV (wd := mw c q) (k := 0) hev hK hP hD hE hS (mw_0 c q σ3) rfl) rfl rfl hl.1 rfl (lv_room (Nat.le_of_ble_eq_true rfl)) dX8_without_20 ⟨Nat.zero_le _, Nat.zero_le _⟩) hS (fun q _ h => h) (fun q h => h) (fun σ8 t H1 locs1 ht hvm hw hB hz1 hk1 hS => ?_)
    have hP : va_P D vwCl (mw c q σ8) H1 := ht ▸ hB
    have hD : va_D (wdA 31 q) (mw c q σ8) := mw_D hD0
    refine lv_aload_n hx hb dX8_without_23 rfl (lv_at hl 0 rfl) ?_
    refine lv_aload_n hx hb dX8_without_24 rfl (lv_at hl 0 rfl) ?_
    refine va_calli (va_runV (As := []) (rest := [.ref (q 0)]) ⟨hx, hb, hml, hown, htb⟩ (kcX8_everybody l D c q ev hev σ8  _ hw) (tb_CW htb kX8_everybody tb_1485 tb_1487 tb_61 ⟨Nat.le_of_ble_eq_true rfl, Nat.le_of_ble_eq_true rfl⟩) (wd_preV (wd := mw c q) (k := 0) hev hK hP hD hE hS (mw_0 c q σ8) rfl) rfl rfl hl.1 rfl (lv_room (Nat.le_of_ble_eq_true rfl)) dX8_without_25 ⟨Nat.zero_le _, Nat.zero_le _⟩) hS (fun q _ h => h) (fun q h => h) (fun r9 σ10 t H1 locs1 ht hvm hw hB hz1 hk1 hS => ?_)
    have hP : va_P D vwCl (mw c q σ10) H1 := ht ▸ hB
    have hD : va_D (wdA 31 q) (mw c q σ10) := mw_D hD0
    refine lv_iconst (v := (1 : Int32)) hx hb dX8_without_28 (by decide) ?_
    refine lv_iload_n hx hb dX8_without_29 rfl (lv_at hl 1 rfl) ?_
    refine lv_ishl hx hb dX8_without_30 ?_
    refine lv_iconst (v := (-1 : Int32)) hx hb dX8_without_31 (by decide) ?_
    refine lv_ixor hx hb dX8_without_32 ?_
    refine lv_iand hx hb dX8_without_33 ?_
    refine va_calli (va_runV (As := [.int (r9 &&& (((1 : Int32) <<< (x1 &&& 31)) ^^^ (-1 : Int32)))]) (rest := []) ⟨hx, hb, hml, hown, htb⟩ (kcX8_coreOf l D c q ev hev σ10 (r9 &&& (((1 : Int32) <<< (x1 &&& 31)) ^^^ (-1 : Int32))) _ hw) (tb_CW htb kX8_coreOf tb_1535 tb_1537 tb_68 ⟨Nat.le_of_ble_eq_true rfl, Nat.le_of_ble_eq_true rfl⟩) (wd_preV (wd := mw c q) (k := 0) hev hK hP hD hE hS (mw_0 c q σ10) rfl) rfl rfl hl.1 rfl (lv_room (Nat.le_of_ble_eq_true rfl)) dX8_without_34 ⟨Nat.zero_le _, Nat.zero_le _⟩) hS (fun q _ h => h) (fun q h => h) (fun r11 σ12 t H1 locs1 ht hvm hw hB hz1 hk1 hS => ?_)
    have hP : va_P D vwCl (mw c q σ12) H1 := ht ▸ hB
    have hD : va_D (wdA 31 q) (mw c q σ12) := mw_D hD0
    exact W.iret hx hb hr (fun t ht hW => ⟨⟨_, σ12, rfl, hw, by unfold wdB; rw [ht]; exact hP⟩, hS.F ht⟩) hS.2.2 dX8_without_37
  · have hw := hw.1 c4
    refine lv_aload_n hx hb dX8_without_13 rfl (lv_at hl 0 rfl) ?_
    refine lv_iconst (v := (1 : Int32)) hx hb dX8_without_14 (by decide) ?_
    refine va_calli (va_runV (As := [.int (1 : Int32)]) (rest := []) ⟨hx, hb, hml, hown, htb⟩ (kcX8_fail l D c q ev hev σ3 (1 : Int32) _ hw) (tb_CW htb kX8_fail tb_1366 tb_1368 tb_42 ⟨Nat.le_of_ble_eq_true rfl, Nat.le_of_ble_eq_true rfl⟩) (wd_preV (wd := mw c q) (k := 0) hev hK hP hD hE hS (mw_0 c q σ3) rfl) rfl rfl hl.1 rfl (lv_room (Nat.le_of_ble_eq_true rfl)) dX8_without_15 ⟨Nat.zero_le _, Nat.zero_le _⟩) hS (fun q _ h => h) (fun q h => h) (fun r5 σ6 t H1 locs1 ht hvm hw hB hz1 hk1 hS => ?_)
    have hP : va_P D vwCl (mw c q σ6) H1 := ht ▸ hB
    have hD : va_D (wdA 31 q) (mw c q σ6) := mw_D hD0
    exact W.iret hx hb hr (fun t ht hW => ⟨⟨_, σ6, rfl, hw, by unfold wdB; rw [ht]; exact hP⟩, hS.F ht⟩) hS.2.2 dX8_without_18
def wX8_add_L71 (z1 : Int32) (z2 : Int32) (z3 : Int32) (z4 : Int32) (z5 : Int32) (K116 : Int32 → hsS → Prop) (post : Int32 → hsS → Prop) : Nat → Int32 → hsS → Prop
  | 0, _, _ => False
  | n + 1, y6, σ => ((z2 ≤ y6 → K116 y6 σ) ∧ (¬ z2 ≤ y6 → vp_in (z4 + y6) 160 ∧ vp_in (z4 + y6) 160 ∧ (((σ.2.1 8 (z4 + y6).toNatClampNeg) ≤ z5 → vp_in (z4 + y6) 160 ∧ ∀ σ14 : hsS, σ14 = hsA σ 8 (upd (σ.2.1 8) (z4 + y6).toNatClampNeg ((σ.2.1 8 (z4 + y6).toNatClampNeg) + (0 : Int32))) → ∀ v15 : Int32, v15 = y6 + (1 : Int32) → wX8_add_L71 z1 z2 z3 z4 z5 K116 post n v15 σ14) ∧ (¬ (σ.2.1 8 (z4 + y6).toNatClampNeg) ≤ z5 → vp_in (z4 + y6) 160 ∧ ∀ σ16 : hsS, σ16 = hsA σ 8 (upd (σ.2.1 8) (z4 + y6).toNatClampNeg ((σ.2.1 8 (z4 + y6).toNatClampNeg) + (1 : Int32))) → ∀ v17 : Int32, v17 = y6 + (1 : Int32) → wX8_add_L71 z1 z2 z3 z4 z5 K116 post n v17 σ16))))
def wX8_add_L41 (z1 : Int32) (z2 : Int32) (K135 : Int32 → hsS → Prop) (post : Int32 → hsS → Prop) : Nat → Int32 → hsS → Prop
  | 0, _, _ => False
  | n + 1, y3, σ => (((σ.2.1 2 (0 : Int32).toNatClampNeg) ≤ y3 → K135 y3 σ) ∧ (¬ (σ.2.1 2 (0 : Int32).toNatClampNeg) ≤ y3 → ∀ v10 : Int32, v10 = y3 * (10 : Int32) → vp_in (v10 + z1) 160 ∧ ∀ v11 : Int32, v11 = σ.2.1 8 (v10 + z1).toNatClampNeg → ∃ n18, wX8_add_L71 z1 z2 y3 v10 v11 (fun v19 σ20 => vp_in (v10 + z2) 160 ∧ ∀ σ21 : hsS, σ21 = hsA σ20 8 (upd (σ20.2.1 8) (v10 + z2).toNatClampNeg (v11 + (1 : Int32))) → ∀ v22 : Int32, v22 = y3 + (1 : Int32) → wX8_add_L41 z1 z2 K135 post n v22 σ21) post n18 (0 : Int32) σ))
def wX8_add (x1 : Int32) (post : Int32 → hsS → Prop) (σ : hsS) : Prop := ∀ σ1 : hsS, σ1 = hsI σ 0 (0 : Int32) → wX8_isThing x1 (fun r2 σ3 => ((r2 = (0 : Int32) → wX8_fail (1 : Int32) (fun r5 σ6 => post r5 σ6) σ3) ∧ (¬ r2 = (0 : Int32) → (((σ3.2.1 1 (0 : Int32).toNatClampNeg) = (9 : Int32) → post (-1 : Int32) σ3) ∧ (¬ (σ3.2.1 1 (0 : Int32).toNatClampNeg) = (9 : Int32) → ∀ v8 : Int32, v8 = σ3.2.1 1 (0 : Int32).toNatClampNeg → ∃ n23, wX8_add_L41 x1 v8 (fun v24 σ25 => ∀ σ26 : hsS, σ26 = hsA σ25 1 (upd (σ25.2.1 1) (0 : Int32).toNatClampNeg (v8 + (1 : Int32))) → wX8_renew  (fun σ28 => post v8 σ28) σ26) post n23 (0 : Int32) σ3))))) σ1
set_option maxHeartbeats 4000000 in
set_option maxRecDepth 100000 in
theorem kcX8_add (l : Launch) (D : va_G) (c : Nat → ClassId) (q : Nat → Nat) (ev : State → Heap → Prop) (hev : evOK (wdA 31 q) ev) (σ : hsS) (x1 : Int32) (post : Int32 → hsS → Prop) (hw : wX8_add x1 post σ) : Met l yX8_add (Cond.code yX8_add cX8_add 7 (some .int) :: tb_L) { frames := 2, cells := 0, slots := 0, locals := 43 } (wdPc D (mw c q) (mwT c) (wdA 31 q) ev σ [.ref (q 0), .int x1]) (va_Qi post (wdB D (mw c q)) (wdA 31 q)) 0 0 (wdA 31 q) := by
  refine Met.ofW (cc := cX8_add) (maxL := 7) (ret := (some .int)) (by decide) rfl ?_
  intro p e s m args below meth c₀ s₁ Bd hml hv
  obtain ⟨rfl, hP, hK, hD0, hE⟩ := hv
  have hx := Bd.exec
  have hb := Bd.bytes
  have hr := Bd.returns
  have hts := atoms_spec (ws := Cond.code yX8_add cX8_add 7 (some .int) :: tb_L) Bd.pre
  have htb : ∀ w ∈ tb_L, w.before [.ref (q 0), .int x1].toArray s = true := fun w h => hts w (List.mem_cons_of_mem _ h)
  have hown : s.vm.findClass RX8 = some m.cls := findClass_of_methodNamed Bd.named
  have hlocks := Bd.notSynchronized
  have hS : va_S (wdA 31 q) s.heap s.heap [] := va_S.rf
  have hD := hD0
  have L71 : ∀ (K116 : Int32 → hsS → Prop) (z1 : Int32) (z2 : Int32) (z3 : Int32) (z4 : Int32) (z5 : Int32) (n : Nat) (y6 : Int32) (σ : hsS) (H : Heap) (locs : List Loc) (ls : Array Slot), wX8_add_L71 z1 z2 z3 z4 z5 K116 post n y6 σ → (∀ (y6 : Int32) (σ : hsS) (H : Heap) (locs : List Loc) (ls : Array Slot), K116 y6 σ → va_P D vwCl (mw c q σ) H → va_S (wdA 31 q) s.heap H locs → lv_has ls 7 [(0, .ref (q 0)), (1, .int z1), (2, .int z2), (3, .int z3), (4, .int z4), (5, .int z5), (6, .int y6)] → W p l e (headSpec (Cond.code yX8_add cX8_add 7 (some .int) :: tb_L) { frames := 2, cells := 0, slots := 0, locals := 43 }).room s m [.ref (q 0), .int x1].toArray below meth c₀ H locs 0 0 (MQ below (va_Qi post (wdB D (mw c q)) (wdA 31 q)) [.ref (q 0), .int x1].toArray s 0 0 (wdA 31 q)) (F0 m 116 ls [])) → va_P D vwCl (mw c q σ) H → va_S (wdA 31 q) s.heap H locs → lv_has ls 7 [(0, .ref (q 0)), (1, .int z1), (2, .int z2), (3, .int z3), (4, .int z4), (5, .int z5), (6, .int y6)] → W p l e (headSpec (Cond.code yX8_add cX8_add 7 (some .int) :: tb_L) { frames := 2, cells := 0, slots := 0, locals := 43 }).room s m [.ref (q 0), .int x1].toArray below meth c₀ H locs 0 0 (MQ below (va_Qi post (wdB D (mw c q)) (wdA 31 q)) [.ref (q 0), .int x1].toArray s 0 0 (wdA 31 q)) (F0 m 71 ls []) := by
    intro K116 z1 z2 z3 z4 z5 n
    induction n with
    | zero =>
      intro y6 σ H locs ls hw hk116 hP hS hl
      exact (show False from hw).elim
    | succ n ih =>
      intro y6 σ H locs ls hw hk116 hP hS hl
      rw [wX8_add_L71] at hw
      have hD : va_D (wdA 31 q) (mw c q σ) := mw_D hD0
      refine lv_iload hx hb dX8_add_71 (lv_at hl 6 rfl) ?_
      refine lv_iload_n hx hb dX8_add_73 rfl (lv_at hl 2 rfl) ?_
      refine lv_icmp_ge (tgt := 116) hx hb dX8_add_74 (by decide) (fun c12 => ?_) (fun c12 => ?_)
      · have hw := hw.1 c12
        exact hk116 y6 σ _ _ _ hw hP hS (lv_sub hl [0, 1, 2, 3, 4, 5, 6] rfl)
      · have hw := hw.2 c12
        refine lv_aload_n hx hb dX8_add_77 rfl (lv_at hl 0 rfl) ?_
        refine va_get (D := D) (ci := 8) (C := RX8) (T := TX8) (N := 57) hx hb htb inX8 hown hK hP 0 (mw_0 c q σ) rfl 8 (by decide) (htb _ tb_1189) (fun _ h9 => h9) rfl dX8_add_78 ?_
        refine lv_iload hx hb dX8_add_81 (lv_at hl 4 rfl) ?_
        refine lv_iload hx hb dX8_add_83 (lv_at hl 6 rfl) ?_
        refine lv_iadd hx hb dX8_add_85 ?_
        refine lv_dup2_11 hx hb dX8_add_86 rfl rfl ?_
        refine va_iald hx hb hK hP 8 7 (mw_8 c q σ) rfl hw.1 dX8_add_87 ?_
        have hw := hw.2
        refine lv_aload_n hx hb dX8_add_88 rfl (lv_at hl 0 rfl) ?_
        refine va_get (D := D) (ci := 8) (C := RX8) (T := TX8) (N := 57) hx hb htb inX8 hown hK hP 0 (mw_0 c q σ) rfl 8 (by decide) (htb _ tb_1189) (fun _ h9 => h9) rfl dX8_add_89 ?_
        refine lv_iload hx hb dX8_add_92 (lv_at hl 4 rfl) ?_
        refine lv_iload hx hb dX8_add_94 (lv_at hl 6 rfl) ?_
        refine lv_iadd hx hb dX8_add_96 ?_
        refine va_iald hx hb hK hP 8 7 (mw_8 c q σ) rfl hw.1 dX8_add_97 ?_
        have hw := hw.2
        refine lv_iload hx hb dX8_add_98 (lv_at hl 5 rfl) ?_
        refine lv_icmp_le (tgt := 107) hx hb dX8_add_100 (by decide) (fun c13 => ?_) (fun c13 => ?_)
        · have hw := hw.1 c13
          refine lv_iconst (v := (0 : Int32)) hx hb dX8_add_107 (by decide) ?_
          refine lv_iadd hx hb dX8_add_108 ?_
          refine va_iast hx hb hK hP hD hS 8 7 (mw_8 c q σ) rfl hw.1 dX8_add_109 (fun H locs hP hD hS => ?_)
          have hw := hw.2
          have hP : va_P D vwCl (mw c q (hsA σ 8 (upd (σ.2.1 8) (z4 + y6).toNatClampNeg ((σ.2.1 8 (z4 + y6).toNatClampNeg) + (0 : Int32))))) H := hP
          obtain ⟨σ14, eσ14⟩ : ∃ z : hsS, z = hsA σ 8 (upd (σ.2.1 8) (z4 + y6).toNatClampNeg ((σ.2.1 8 (z4 + y6).toNatClampNeg) + (0 : Int32))) := ⟨_, rfl⟩
          rw [← eσ14] at hP
          have hD : va_D (wdA 31 q) (mw c q σ14) := mw_D hD0
          have hw := hw σ14 eσ14
          obtain ⟨v15, ev15⟩ : ∃ z : Int32, z = y6 + (1 : Int32) := ⟨_, rfl⟩
          have hw := hw v15 ev15
          refine lv_iinc (v := v15) (lv' := [(6, .int v15), (0, .ref (q 0)), (1, .int z1), (2, .int z2), (3, .int z3), (4, .int z4), (5, .int z5)]) hx hb dX8_add_110 hl (k := 6) rfl (by rw [ev15]; rfl) (by decide) rfl (fun ls hl => ?_)
          refine lv_goto (tgt := 71) hx hb dX8_add_113 (by decide) ?_
          exact ih v15 σ14 _ _ _ hw hk116 hP hS (lv_sub hl [1, 2, 3, 4, 5, 6, 0] rfl)
        · have hw := hw.2 c13
          refine lv_iconst (v := (1 : Int32)) hx hb dX8_add_103 (by decide) ?_
          refine lv_goto (tgt := 108) hx hb dX8_add_104 (by decide) ?_
          refine lv_iadd hx hb dX8_add_108 ?_
          refine va_iast hx hb hK hP hD hS 8 7 (mw_8 c q σ) rfl hw.1 dX8_add_109 (fun H locs hP hD hS => ?_)
          have hw := hw.2
          have hP : va_P D vwCl (mw c q (hsA σ 8 (upd (σ.2.1 8) (z4 + y6).toNatClampNeg ((σ.2.1 8 (z4 + y6).toNatClampNeg) + (1 : Int32))))) H := hP
          obtain ⟨σ16, eσ16⟩ : ∃ z : hsS, z = hsA σ 8 (upd (σ.2.1 8) (z4 + y6).toNatClampNeg ((σ.2.1 8 (z4 + y6).toNatClampNeg) + (1 : Int32))) := ⟨_, rfl⟩
          rw [← eσ16] at hP
          have hD : va_D (wdA 31 q) (mw c q σ16) := mw_D hD0
          have hw := hw σ16 eσ16
          obtain ⟨v17, ev17⟩ : ∃ z : Int32, z = y6 + (1 : Int32) := ⟨_, rfl⟩
          have hw := hw v17 ev17
          refine lv_iinc (v := v17) (lv' := [(6, .int v17), (0, .ref (q 0)), (1, .int z1), (2, .int z2), (3, .int z3), (4, .int z4), (5, .int z5)]) hx hb dX8_add_110 hl (k := 6) rfl (by rw [ev17]; rfl) (by decide) rfl (fun ls hl => ?_)
          refine lv_goto (tgt := 71) hx hb dX8_add_113 (by decide) ?_
          exact ih v17 σ16 _ _ _ hw hk116 hP hS (lv_sub hl [1, 2, 3, 4, 5, 6, 0] rfl)
  have L41 : ∀ (K135 : Int32 → hsS → Prop) (z1 : Int32) (z2 : Int32) (n : Nat) (y3 : Int32) (σ : hsS) (H : Heap) (locs : List Loc) (ls : Array Slot), wX8_add_L41 z1 z2 K135 post n y3 σ → (∀ (y3 : Int32) (σ : hsS) (H : Heap) (locs : List Loc) (ls : Array Slot), K135 y3 σ → va_P D vwCl (mw c q σ) H → va_S (wdA 31 q) s.heap H locs → lv_has ls 7 [(0, .ref (q 0)), (1, .int z1), (2, .int z2), (3, .int y3)] → W p l e (headSpec (Cond.code yX8_add cX8_add 7 (some .int) :: tb_L) { frames := 2, cells := 0, slots := 0, locals := 43 }).room s m [.ref (q 0), .int x1].toArray below meth c₀ H locs 0 0 (MQ below (va_Qi post (wdB D (mw c q)) (wdA 31 q)) [.ref (q 0), .int x1].toArray s 0 0 (wdA 31 q)) (F0 m 135 ls [])) → va_P D vwCl (mw c q σ) H → va_S (wdA 31 q) s.heap H locs → lv_has ls 7 [(0, .ref (q 0)), (1, .int z1), (2, .int z2), (3, .int y3)] → W p l e (headSpec (Cond.code yX8_add cX8_add 7 (some .int) :: tb_L) { frames := 2, cells := 0, slots := 0, locals := 43 }).room s m [.ref (q 0), .int x1].toArray below meth c₀ H locs 0 0 (MQ below (va_Qi post (wdB D (mw c q)) (wdA 31 q)) [.ref (q 0), .int x1].toArray s 0 0 (wdA 31 q)) (F0 m 41 ls []) := by
    intro K135 z1 z2 n
    induction n with
    | zero =>
      intro y3 σ H locs ls hw hk135 hP hS hl
      exact (show False from hw).elim
    | succ n ih =>
      intro y3 σ H locs ls hw hk135 hP hS hl
      rw [wX8_add_L41] at hw
      have hD : va_D (wdA 31 q) (mw c q σ) := mw_D hD0
      refine lv_iload_n hx hb dX8_add_41 rfl (lv_at hl 3 rfl) ?_
      refine lv_aload_n hx hb dX8_add_42 rfl (lv_at hl 0 rfl) ?_
      refine va_get (D := D) (ci := 8) (C := RX8) (T := TX8) (N := 57) hx hb htb inX8 hown hK hP 0 (mw_0 c q σ) rfl 2 (by decide) (htb _ tb_1183) (fun _ h9 => h9) rfl dX8_add_43 ?_
      refine lv_iconst (v := (0 : Int32)) hx hb dX8_add_46 (by decide) ?_
      refine va_iald hx hb hK hP 2 1 (mw_2 c q σ) rfl (by unfold vp_in; decide) dX8_add_47 ?_
      refine lv_icmp_ge (tgt := 135) hx hb dX8_add_48 (by decide) (fun c9 => ?_) (fun c9 => ?_)
      · have hw := hw.1 c9
        exact hk135 y3 σ _ _ _ hw hP hS (lv_sub hl [0, 1, 2, 3] rfl)
      · have hw := hw.2 c9
        refine lv_iload_n hx hb dX8_add_51 rfl (lv_at hl 3 rfl) ?_
        refine lv_bipush (v := (10 : Int32)) hx hb dX8_add_52 (by decide) ?_
        refine lv_imul hx hb dX8_add_54 ?_
        refine lv_topi (fun v10 ev10 => ?_)
        have hw := hw v10 ev10
        refine lv_istore (lv' := [(4, .int v10), (0, .ref (q 0)), (1, .int z1), (2, .int z2), (3, .int y3)]) hx hb dX8_add_55 hl (by decide) rfl (fun ls hl => ?_)
        refine lv_aload_n hx hb dX8_add_57 rfl (lv_at hl 1 rfl) ?_
        refine va_get (D := D) (ci := 8) (C := RX8) (T := TX8) (N := 57) hx hb htb inX8 hown hK hP 0 (mw_0 c q σ) rfl 8 (by decide) (htb _ tb_1189) (fun _ h9 => h9) rfl dX8_add_58 ?_
        refine lv_iload hx hb dX8_add_61 (lv_at hl 0 rfl) ?_
        refine lv_iload_n hx hb dX8_add_63 rfl (lv_at hl 2 rfl) ?_
        refine lv_iadd hx hb dX8_add_64 ?_
        refine va_iald hx hb hK hP 8 7 (mw_8 c q σ) rfl hw.1 dX8_add_65 ?_
        have hw := hw.2
        refine lv_topi (fun v11 ev11 => ?_)
        have hw := hw v11 ev11
        refine lv_istore (lv' := [(5, .int v11), (4, .int v10), (0, .ref (q 0)), (1, .int z1), (2, .int z2), (3, .int y3)]) hx hb dX8_add_66 hl (by decide) rfl (fun ls hl => ?_)
        refine lv_iconst (v := (0 : Int32)) hx hb dX8_add_68 (by decide) ?_
        refine lv_istore (lv' := [(6, .int (0 : Int32)), (5, .int v11), (4, .int v10), (0, .ref (q 0)), (1, .int z1), (2, .int z2), (3, .int y3)]) hx hb dX8_add_69 hl (by decide) rfl (fun ls hl => ?_)
        obtain ⟨n18, hw⟩ := hw
        refine L71 _ z1 z2 y3 v10 v11 n18 (0 : Int32) σ _ _ _ hw ?_ hP hS (lv_sub hl [3, 4, 5, 6, 2, 1, 0] rfl)
        intro v19 σ20 H locs ls hw hP hS hl
        have hD : va_D (wdA 31 q) (mw c q σ20) := mw_D hD0
        refine lv_aload_n hx hb dX8_add_116 rfl (lv_at hl 0 rfl) ?_
        refine va_get (D := D) (ci := 8) (C := RX8) (T := TX8) (N := 57) hx hb htb inX8 hown hK hP 0 (mw_0 c q σ20) rfl 8 (by decide) (htb _ tb_1189) (fun _ h9 => h9) rfl dX8_add_117 ?_
        refine lv_iload hx hb dX8_add_120 (lv_at hl 4 rfl) ?_
        refine lv_iload_n hx hb dX8_add_122 rfl (lv_at hl 2 rfl) ?_
        refine lv_iadd hx hb dX8_add_123 ?_
        refine lv_iload hx hb dX8_add_124 (lv_at hl 5 rfl) ?_
        refine lv_iconst (v := (1 : Int32)) hx hb dX8_add_126 (by decide) ?_
        refine lv_iadd hx hb dX8_add_127 ?_
        refine va_iast hx hb hK hP hD hS 8 7 (mw_8 c q σ20) rfl hw.1 dX8_add_128 (fun H locs hP hD hS => ?_)
        have hw := hw.2
        have hP : va_P D vwCl (mw c q (hsA σ20 8 (upd (σ20.2.1 8) (v10 + z2).toNatClampNeg (v11 + (1 : Int32))))) H := hP
        obtain ⟨σ21, eσ21⟩ : ∃ z : hsS, z = hsA σ20 8 (upd (σ20.2.1 8) (v10 + z2).toNatClampNeg (v11 + (1 : Int32))) := ⟨_, rfl⟩
        rw [← eσ21] at hP
        have hD : va_D (wdA 31 q) (mw c q σ21) := mw_D hD0
        have hw := hw σ21 eσ21
        obtain ⟨v22, ev22⟩ : ∃ z : Int32, z = y3 + (1 : Int32) := ⟨_, rfl⟩
        have hw := hw v22 ev22
        refine lv_iinc (v := v22) (lv' := [(3, .int v22), (0, .ref (q 0)), (1, .int z1), (2, .int z2), (4, .int v10), (5, .int v11), (6, .int v19)]) hx hb dX8_add_129 hl (k := 3) rfl (by rw [ev22]; rfl) (by decide) rfl (fun ls hl => ?_)
        refine lv_goto (tgt := 41) hx hb dX8_add_132 (by decide) ?_
        exact ih v22 σ21 _ _ _ hw hk135 hP hS (lv_sub hl [1, 2, 3, 0] rfl)
  have hl := lv_entry ([.ref (q 0), .int x1]) (n := 7) (Nat.le_of_ble_eq_true rfl)
  rw [lg_entry_eq]
  generalize (lg_sl ([.ref (q 0), .int x1]) ++ List.replicate (7 - (lg_sl ([.ref (q 0), .int x1])).length) Slot.unset).toArray = ls at hl ⊢
  have hl : lv_has ls 7 [(0, .ref (q 0)), (1, .int x1)] := hl
  unfold wX8_add at hw
  refine lv_aload_n hx hb dX8_add_0 rfl (lv_at hl 0 rfl) ?_
  refine lv_iconst (v := (0 : Int32)) hx hb dX8_add_1 (by decide) ?_
  refine va_put (D := D) (ci := 8) (ty := .int) (C := RX8) (T := TX8) (N := 57) hx hb htb inX8 tyX8 tyX8_ok nmX8 hown hK hP hD hS 0 (mw_0 c q σ) rfl 0 (by decide) (htb _ tb_1181) (fun _ h9 => h9) rfl (by decide +kernel) rfl rfl (Nat.le_of_ble_eq_true rfl) dX8_add_2 (fun H locs hP hD hS => ?_)
  have hP : va_P D vwCl (mw c q (hsI σ 0 (0 : Int32))) H := hP
  obtain ⟨σ1, eσ1⟩ : ∃ z : hsS, z = hsI σ 0 (0 : Int32) := ⟨_, rfl⟩
  rw [← eσ1] at hP
  have hD : va_D (wdA 31 q) (mw c q σ1) := mw_D hD0
  have hw := hw σ1 eσ1
  refine lv_aload_n hx hb dX8_add_5 rfl (lv_at hl 0 rfl) ?_
  refine lv_iload_n hx hb dX8_add_6 rfl (lv_at hl 1 rfl) ?_
  refine va_calli (va_runV (As := [.int x1]) (rest := []) ⟨hx, hb, hml, hown, htb⟩ (kcX8_isThing l D c q ev hev σ1 x1 _ hw) (tb_CW htb kX8_isThing tb_1473 tb_1475 tb_59 ⟨Nat.le_of_ble_eq_true rfl, Nat.le_of_ble_eq_true rfl⟩) (wd_preV (wd := mw c q) (k := 0) hev hK hP hD hE hS (mw_0 c q σ1) rfl) rfl rfl hl.1 rfl (lv_room (Nat.le_of_ble_eq_true rfl)) dX8_add_7 ⟨Nat.zero_le _, Nat.zero_le _⟩) hS (fun q _ h => h) (fun q h => h) (fun r2 σ3 t H1 locs1 ht hvm hw hB hz1 hk1 hS => ?_)
  have hP : va_P D vwCl (mw c q σ3) H1 := ht ▸ hB
  have hD : va_D (wdA 31 q) (mw c q σ3) := mw_D hD0
  refine lv_if_ne (tgt := 19) hx hb dX8_add_10 (by decide) (fun c4 => ?_) (fun c4 => ?_)
  · have hw := hw.2 c4
    refine lv_aload_n hx hb dX8_add_19 rfl (lv_at hl 0 rfl) ?_
    refine va_get (D := D) (ci := 8) (C := RX8) (T := TX8) (N := 57) hx hb htb inX8 hown hK hP 0 (mw_0 c q σ3) rfl 1 (by decide) (htb _ tb_1182) (fun _ h9 => h9) rfl dX8_add_20 ?_
    refine lv_iconst (v := (0 : Int32)) hx hb dX8_add_23 (by decide) ?_
    refine va_iald hx hb hK hP 1 0 (mw_1 c q σ3) rfl (by unfold vp_in; decide) dX8_add_24 ?_
    refine lv_bipush (v := (9 : Int32)) hx hb dX8_add_25 (by decide) ?_
    refine lv_icmp_ne (tgt := 32) hx hb dX8_add_27 (by decide) (fun c7 => ?_) (fun c7 => ?_)
    · have hw := hw.2 c7
      refine lv_aload_n hx hb dX8_add_32 rfl (lv_at hl 0 rfl) ?_
      refine va_get (D := D) (ci := 8) (C := RX8) (T := TX8) (N := 57) hx hb htb inX8 hown hK hP 0 (mw_0 c q σ3) rfl 1 (by decide) (htb _ tb_1182) (fun _ h9 => h9) rfl dX8_add_33 ?_
      refine lv_iconst (v := (0 : Int32)) hx hb dX8_add_36 (by decide) ?_
      refine va_iald hx hb hK hP 1 0 (mw_1 c q σ3) rfl (by unfold vp_in; decide) dX8_add_37 ?_
      refine lv_topi (fun v8 ev8 => ?_)
      have hw := hw v8 ev8
      refine lv_istore_n (lv' := [(2, .int v8), (0, .ref (q 0)), (1, .int x1)]) hx hb dX8_add_38 rfl hl (by decide) rfl (fun ls hl => ?_)
      refine lv_iconst (v := (0 : Int32)) hx hb dX8_add_39 (by decide) ?_
      refine lv_istore_n (lv' := [(3, .int (0 : Int32)), (2, .int v8), (0, .ref (q 0)), (1, .int x1)]) hx hb dX8_add_40 rfl hl (by decide) rfl (fun ls hl => ?_)
      obtain ⟨n23, hw⟩ := hw
      refine L41 _ x1 v8 n23 (0 : Int32) σ3 _ _ _ hw ?_ hP hS (lv_sub hl [2, 3, 1, 0] rfl)
      intro v24 σ25 H locs ls hw hP hS hl
      have hD : va_D (wdA 31 q) (mw c q σ25) := mw_D hD0
      refine lv_aload_n hx hb dX8_add_135 rfl (lv_at hl 0 rfl) ?_
      refine va_get (D := D) (ci := 8) (C := RX8) (T := TX8) (N := 57) hx hb htb inX8 hown hK hP 0 (mw_0 c q σ25) rfl 1 (by decide) (htb _ tb_1182) (fun _ h9 => h9) rfl dX8_add_136 ?_
      refine lv_iconst (v := (0 : Int32)) hx hb dX8_add_139 (by decide) ?_
      refine lv_iload_n hx hb dX8_add_140 rfl (lv_at hl 2 rfl) ?_
      refine lv_iconst (v := (1 : Int32)) hx hb dX8_add_141 (by decide) ?_
      refine lv_iadd hx hb dX8_add_142 ?_
      refine va_iast hx hb hK hP hD hS 1 0 (mw_1 c q σ25) rfl (by unfold vp_in; decide) dX8_add_143 (fun H locs hP hD hS => ?_)
      have hP : va_P D vwCl (mw c q (hsA σ25 1 (upd (σ25.2.1 1) (0 : Int32).toNatClampNeg (v8 + (1 : Int32))))) H := hP
      obtain ⟨σ26, eσ26⟩ : ∃ z : hsS, z = hsA σ25 1 (upd (σ25.2.1 1) (0 : Int32).toNatClampNeg (v8 + (1 : Int32))) := ⟨_, rfl⟩
      rw [← eσ26] at hP
      have hD : va_D (wdA 31 q) (mw c q σ26) := mw_D hD0
      have hw := hw σ26 eσ26
      refine lv_aload_n hx hb dX8_add_144 rfl (lv_at hl 0 rfl) ?_
      refine va_callv (va_runV (As := []) (rest := []) ⟨hx, hb, hml, hown, htb⟩ (kcX8_renew l D c q ev hev σ26  _ hw) (tb_CW htb kX8_renew tb_1442 tb_1444 tb_56 ⟨Nat.le_of_ble_eq_true rfl, Nat.le_of_ble_eq_true rfl⟩) (wd_preV (wd := mw c q) (k := 0) hev hK hP hD hE hS (mw_0 c q σ26) rfl) rfl rfl hl.1 rfl (lv_room (Nat.le_of_ble_eq_true rfl)) dX8_add_145 ⟨Nat.zero_le _, Nat.zero_le _⟩) hS (fun q _ h => h) (fun q h => h) (fun σ28 t H1 locs1 ht hvm hw hB hz1 hk1 hS => ?_)
      have hP : va_P D vwCl (mw c q σ28) H1 := ht ▸ hB
      have hD : va_D (wdA 31 q) (mw c q σ28) := mw_D hD0
      refine lv_iload_n hx hb dX8_add_148 rfl (lv_at hl 2 rfl) ?_
      exact W.iret hx hb hr (fun t ht hW => ⟨⟨_, σ28, rfl, hw, by unfold wdB; rw [ht]; exact hP⟩, hS.F ht⟩) hS.2.2 dX8_add_149
    · have hw := hw.1 c7
      refine lv_iconst (v := (-1 : Int32)) hx hb dX8_add_30 (by decide) ?_
      exact W.iret hx hb hr (fun t ht hW => ⟨⟨_, σ3, rfl, hw, by unfold wdB; rw [ht]; exact hP⟩, hS.F ht⟩) hS.2.2 dX8_add_31
  · have hw := hw.1 c4
    refine lv_aload_n hx hb dX8_add_13 rfl (lv_at hl 0 rfl) ?_
    refine lv_iconst (v := (1 : Int32)) hx hb dX8_add_14 (by decide) ?_
    refine va_calli (va_runV (As := [.int (1 : Int32)]) (rest := []) ⟨hx, hb, hml, hown, htb⟩ (kcX8_fail l D c q ev hev σ3 (1 : Int32) _ hw) (tb_CW htb kX8_fail tb_1366 tb_1368 tb_42 ⟨Nat.le_of_ble_eq_true rfl, Nat.le_of_ble_eq_true rfl⟩) (wd_preV (wd := mw c q) (k := 0) hev hK hP hD hE hS (mw_0 c q σ3) rfl) rfl rfl hl.1 rfl (lv_room (Nat.le_of_ble_eq_true rfl)) dX8_add_15 ⟨Nat.zero_le _, Nat.zero_le _⟩) hS (fun q _ h => h) (fun q h => h) (fun r5 σ6 t H1 locs1 ht hvm hw hB hz1 hk1 hS => ?_)
    have hP : va_P D vwCl (mw c q σ6) H1 := ht ▸ hB
    have hD : va_D (wdA 31 q) (mw c q σ6) := mw_D hD0
    exact W.iret hx hb hr (fun t ht hW => ⟨⟨_, σ6, rfl, hw, by unfold wdB; rw [ht]; exact hP⟩, hS.F ht⟩) hS.2.2 dX8_add_18
def wX8_plainly_L5 (z1 : Int32) (z2 : Int32) (K64 : Int32 → Int32 → hsS → Prop) (post : Int32 → hsS → Prop) : Nat → Int32 → Int32 → hsS → Prop
  | 0, _, _, _ => False
  | n + 1, y3, y4, σ => (((σ.1 25) ≤ y4 → K64 y3 y4 σ) ∧ (¬ (σ.1 25) ≤ y4 → ((((z2 >>> (y4 &&& 31)) &&& (1 : Int32)) = (1 : Int32) → ((y3 = (-1 : Int32) → ∀ v4 : Int32, v4 = y4 + (1 : Int32) → wX8_plainly_L5 z1 z2 K64 post n y4 v4 σ) ∧ (¬ y3 = (-1 : Int32) → vp_in ((z1 * (10 : Int32)) + y4) 80 ∧ vp_in ((z1 * (10 : Int32)) + y3) 80 ∧ (((σ.2.1 13 ((z1 * (10 : Int32)) + y4).toNatClampNeg) < (σ.2.1 13 ((z1 * (10 : Int32)) + y3).toNatClampNeg) → ∀ v6 : Int32, v6 = y4 + (1 : Int32) → wX8_plainly_L5 z1 z2 K64 post n y3 v6 σ) ∧ (¬ (σ.2.1 13 ((z1 * (10 : Int32)) + y4).toNatClampNeg) < (σ.2.1 13 ((z1 * (10 : Int32)) + y3).toNatClampNeg) → ∀ v7 : Int32, v7 = y4 + (1 : Int32) → wX8_plainly_L5 z1 z2 K64 post n y4 v7 σ))))) ∧ (¬ ((z2 >>> (y4 &&& 31)) &&& (1 : Int32)) = (1 : Int32) → ∀ v8 : Int32, v8 = y4 + (1 : Int32) → wX8_plainly_L5 z1 z2 K64 post n y3 v8 σ))))
def wX8_plainly (x1 : Int32) (x2 : Int32) (post : Int32 → hsS → Prop) (σ : hsS) : Prop := ∃ n9, wX8_plainly_L5 x1 x2 (fun v10 v11 σ12 => post v10 σ12) post n9 (-1 : Int32) (0 : Int32) σ
set_option maxHeartbeats 4000000 in
set_option maxRecDepth 100000 in
theorem kcX8_plainly (l : Launch) (D : va_G) (c : Nat → ClassId) (q : Nat → Nat) (ev : State → Heap → Prop) (hev : evOK (wdA 31 q) ev) (σ : hsS) (x1 : Int32) (x2 : Int32) (post : Int32 → hsS → Prop) (hw : wX8_plainly x1 x2 post σ) : Met l yX8_plainly (Cond.code yX8_plainly cX8_plainly 5 (some .int) :: tb_L) { frames := 0, cells := 0, slots := 0, locals := 0 } (wdPc D (mw c q) (mwT c) (wdA 31 q) ev σ [.ref (q 0), .int x1, .int x2]) (va_Qi post (wdB D (mw c q)) (wdA 31 q)) 0 0 (wdA 31 q) := by
  refine Met.ofW (cc := cX8_plainly) (maxL := 5) (ret := (some .int)) (by decide) rfl ?_
  intro p e s m args below meth c₀ s₁ Bd hml hv
  obtain ⟨rfl, hP, hK, hD0, hE⟩ := hv
  have hx := Bd.exec
  have hb := Bd.bytes
  have hr := Bd.returns
  have hts := atoms_spec (ws := Cond.code yX8_plainly cX8_plainly 5 (some .int) :: tb_L) Bd.pre
  have htb : ∀ w ∈ tb_L, w.before [.ref (q 0), .int x1, .int x2].toArray s = true := fun w h => hts w (List.mem_cons_of_mem _ h)
  have hown : s.vm.findClass RX8 = some m.cls := findClass_of_methodNamed Bd.named
  have hlocks := Bd.notSynchronized
  have hS : va_S (wdA 31 q) s.heap s.heap [] := va_S.rf
  have hD := hD0
  have L5 : ∀ (K64 : Int32 → Int32 → hsS → Prop) (z1 : Int32) (z2 : Int32) (n : Nat) (y3 : Int32) (y4 : Int32) (σ : hsS) (H : Heap) (locs : List Loc) (ls : Array Slot), wX8_plainly_L5 z1 z2 K64 post n y3 y4 σ → (∀ (y3 : Int32) (y4 : Int32) (σ : hsS) (H : Heap) (locs : List Loc) (ls : Array Slot), K64 y3 y4 σ → va_P D vwCl (mw c q σ) H → va_S (wdA 31 q) s.heap H locs → lv_has ls 5 [(0, .ref (q 0)), (1, .int z1), (2, .int z2), (3, .int y3), (4, .int y4)] → W p l e (headSpec (Cond.code yX8_plainly cX8_plainly 5 (some .int) :: tb_L) { frames := 0, cells := 0, slots := 0, locals := 0 }).room s m [.ref (q 0), .int x1, .int x2].toArray below meth c₀ H locs 0 0 (MQ below (va_Qi post (wdB D (mw c q)) (wdA 31 q)) [.ref (q 0), .int x1, .int x2].toArray s 0 0 (wdA 31 q)) (F0 m 64 ls [])) → va_P D vwCl (mw c q σ) H → va_S (wdA 31 q) s.heap H locs → lv_has ls 5 [(0, .ref (q 0)), (1, .int z1), (2, .int z2), (3, .int y3), (4, .int y4)] → W p l e (headSpec (Cond.code yX8_plainly cX8_plainly 5 (some .int) :: tb_L) { frames := 0, cells := 0, slots := 0, locals := 0 }).room s m [.ref (q 0), .int x1, .int x2].toArray below meth c₀ H locs 0 0 (MQ below (va_Qi post (wdB D (mw c q)) (wdA 31 q)) [.ref (q 0), .int x1, .int x2].toArray s 0 0 (wdA 31 q)) (F0 m 5 ls []) := by
    intro K64 z1 z2 n
    induction n with
    | zero =>
      intro y3 y4 σ H locs ls hw hk64 hP hS hl
      exact (show False from hw).elim
    | succ n ih =>
      intro y3 y4 σ H locs ls hw hk64 hP hS hl
      rw [wX8_plainly_L5] at hw
      have hD : va_D (wdA 31 q) (mw c q σ) := mw_D hD0
      refine lv_iload hx hb dX8_plainly_5 (lv_at hl 4 rfl) ?_
      refine lv_aload_n hx hb dX8_plainly_7 rfl (lv_at hl 0 rfl) ?_
      refine va_get (D := D) (ci := 8) (C := RX8) (T := TX8) (N := 57) hx hb htb inX8 hown hK hP 0 (mw_0 c q σ) rfl 25 (by decide) (htb _ tb_1206) (fun _ h9 => h9) rfl dX8_plainly_8 ?_
      refine lv_icmp_ge (tgt := 64) hx hb dX8_plainly_11 (by decide) (fun c1 => ?_) (fun c1 => ?_)
      · have hw := hw.1 c1
        exact hk64 y3 y4 σ _ _ _ hw hP hS (lv_sub hl [0, 1, 2, 3, 4] rfl)
      · have hw := hw.2 c1
        refine lv_iload_n hx hb dX8_plainly_14 rfl (lv_at hl 2 rfl) ?_
        refine lv_iload hx hb dX8_plainly_15 (lv_at hl 4 rfl) ?_
        refine lv_ishr hx hb dX8_plainly_17 ?_
        refine lv_iconst (v := (1 : Int32)) hx hb dX8_plainly_18 (by decide) ?_
        refine lv_iand hx hb dX8_plainly_19 ?_
        refine lv_iconst (v := (1 : Int32)) hx hb dX8_plainly_20 (by decide) ?_
        refine lv_icmp_ne (tgt := 58) hx hb dX8_plainly_21 (by decide) (fun c2 => ?_) (fun c2 => ?_)
        · have hw := hw.2 c2
          obtain ⟨v8, ev8⟩ : ∃ z : Int32, z = y4 + (1 : Int32) := ⟨_, rfl⟩
          have hw := hw v8 ev8
          refine lv_iinc (v := v8) (lv' := [(4, .int v8), (0, .ref (q 0)), (1, .int z1), (2, .int z2), (3, .int y3)]) hx hb dX8_plainly_58 hl (k := 4) rfl (by rw [ev8]; rfl) (by decide) rfl (fun ls hl => ?_)
          refine lv_goto (tgt := 5) hx hb dX8_plainly_61 (by decide) ?_
          exact ih y3 v8 σ _ _ _ hw hk64 hP hS (lv_sub hl [1, 2, 3, 4, 0] rfl)
        · have hw := hw.1 c2
          refine lv_iload_n hx hb dX8_plainly_24 rfl (lv_at hl 3 rfl) ?_
          refine lv_iconst (v := (-1 : Int32)) hx hb dX8_plainly_25 (by decide) ?_
          refine lv_icmp_eq (tgt := 55) hx hb dX8_plainly_26 (by decide) (fun c3 => ?_) (fun c3 => ?_)
          · have hw := hw.1 c3
            refine lv_iload hx hb dX8_plainly_55 (lv_at hl 4 rfl) ?_
            refine lv_istore_n (lv' := [(3, .int y4), (0, .ref (q 0)), (1, .int z1), (2, .int z2), (4, .int y4)]) hx hb dX8_plainly_57 rfl hl (by decide) rfl (fun ls hl => ?_)
            obtain ⟨v4, ev4⟩ : ∃ z : Int32, z = y4 + (1 : Int32) := ⟨_, rfl⟩
            have hw := hw v4 ev4
            refine lv_iinc (v := v4) (lv' := [(4, .int v4), (3, .int y4), (0, .ref (q 0)), (1, .int z1), (2, .int z2)]) hx hb dX8_plainly_58 hl (k := 4) rfl (by rw [ev4]; rfl) (by decide) rfl (fun ls hl => ?_)
            refine lv_goto (tgt := 5) hx hb dX8_plainly_61 (by decide) ?_
            exact ih y4 v4 σ _ _ _ hw hk64 hP hS (lv_sub hl [2, 3, 4, 1, 0] rfl)
          · have hw := hw.2 c3
            refine lv_aload_n hx hb dX8_plainly_29 rfl (lv_at hl 0 rfl) ?_
            refine va_get (D := D) (ci := 8) (C := RX8) (T := TX8) (N := 57) hx hb htb inX8 hown hK hP 0 (mw_0 c q σ) rfl 24 (by decide) (htb _ tb_1205) (fun _ h9 => h9) rfl dX8_plainly_30 ?_
            refine lv_iload_n hx hb dX8_plainly_33 rfl (lv_at hl 1 rfl) ?_
            refine lv_bipush (v := (10 : Int32)) hx hb dX8_plainly_34 (by decide) ?_
            refine lv_imul hx hb dX8_plainly_36 ?_
            refine lv_iload hx hb dX8_plainly_37 (lv_at hl 4 rfl) ?_
            refine lv_iadd hx hb dX8_plainly_39 ?_
            refine va_iald hx hb hK hP 13 12 (mw_13 c q σ) rfl hw.1 dX8_plainly_40 ?_
            have hw := hw.2
            refine lv_aload_n hx hb dX8_plainly_41 rfl (lv_at hl 0 rfl) ?_
            refine va_get (D := D) (ci := 8) (C := RX8) (T := TX8) (N := 57) hx hb htb inX8 hown hK hP 0 (mw_0 c q σ) rfl 24 (by decide) (htb _ tb_1205) (fun _ h9 => h9) rfl dX8_plainly_42 ?_
            refine lv_iload_n hx hb dX8_plainly_45 rfl (lv_at hl 1 rfl) ?_
            refine lv_bipush (v := (10 : Int32)) hx hb dX8_plainly_46 (by decide) ?_
            refine lv_imul hx hb dX8_plainly_48 ?_
            refine lv_iload_n hx hb dX8_plainly_49 rfl (lv_at hl 3 rfl) ?_
            refine lv_iadd hx hb dX8_plainly_50 ?_
            refine va_iald hx hb hK hP 13 12 (mw_13 c q σ) rfl hw.1 dX8_plainly_51 ?_
            have hw := hw.2
            refine lv_icmp_lt (tgt := 58) hx hb dX8_plainly_52 (by decide) (fun c5 => ?_) (fun c5 => ?_)
            · have hw := hw.1 c5
              obtain ⟨v6, ev6⟩ : ∃ z : Int32, z = y4 + (1 : Int32) := ⟨_, rfl⟩
              have hw := hw v6 ev6
              refine lv_iinc (v := v6) (lv' := [(4, .int v6), (0, .ref (q 0)), (1, .int z1), (2, .int z2), (3, .int y3)]) hx hb dX8_plainly_58 hl (k := 4) rfl (by rw [ev6]; rfl) (by decide) rfl (fun ls hl => ?_)
              refine lv_goto (tgt := 5) hx hb dX8_plainly_61 (by decide) ?_
              exact ih y3 v6 σ _ _ _ hw hk64 hP hS (lv_sub hl [1, 2, 3, 4, 0] rfl)
            · have hw := hw.2 c5
              refine lv_iload hx hb dX8_plainly_55 (lv_at hl 4 rfl) ?_
              refine lv_istore_n (lv' := [(3, .int y4), (0, .ref (q 0)), (1, .int z1), (2, .int z2), (4, .int y4)]) hx hb dX8_plainly_57 rfl hl (by decide) rfl (fun ls hl => ?_)
              obtain ⟨v7, ev7⟩ : ∃ z : Int32, z = y4 + (1 : Int32) := ⟨_, rfl⟩
              have hw := hw v7 ev7
              refine lv_iinc (v := v7) (lv' := [(4, .int v7), (3, .int y4), (0, .ref (q 0)), (1, .int z1), (2, .int z2)]) hx hb dX8_plainly_58 hl (k := 4) rfl (by rw [ev7]; rfl) (by decide) rfl (fun ls hl => ?_)
              refine lv_goto (tgt := 5) hx hb dX8_plainly_61 (by decide) ?_
              exact ih y4 v7 σ _ _ _ hw hk64 hP hS (lv_sub hl [2, 3, 4, 1, 0] rfl)
  have hl := lv_entry ([.ref (q 0), .int x1, .int x2]) (n := 5) (Nat.le_of_ble_eq_true rfl)
  rw [lg_entry_eq]
  generalize (lg_sl ([.ref (q 0), .int x1, .int x2]) ++ List.replicate (5 - (lg_sl ([.ref (q 0), .int x1, .int x2])).length) Slot.unset).toArray = ls at hl ⊢
  have hl : lv_has ls 5 [(0, .ref (q 0)), (1, .int x1), (2, .int x2)] := hl
  unfold wX8_plainly at hw
  refine lv_iconst (v := (-1 : Int32)) hx hb dX8_plainly_0 (by decide) ?_
  refine lv_istore_n (lv' := [(3, .int (-1 : Int32)), (0, .ref (q 0)), (1, .int x1), (2, .int x2)]) hx hb dX8_plainly_1 rfl hl (by decide) rfl (fun ls hl => ?_)
  refine lv_iconst (v := (0 : Int32)) hx hb dX8_plainly_2 (by decide) ?_
  refine lv_istore (lv' := [(4, .int (0 : Int32)), (3, .int (-1 : Int32)), (0, .ref (q 0)), (1, .int x1), (2, .int x2)]) hx hb dX8_plainly_3 hl (by decide) rfl (fun ls hl => ?_)
  obtain ⟨n9, hw⟩ := hw
  refine L5 _ x1 x2 n9 (-1 : Int32) (0 : Int32) σ _ _ _ hw ?_ hP hS (lv_sub hl [2, 3, 4, 1, 0] rfl)
  intro v10 v11 σ12 H locs ls hw hP hS hl
  have hD : va_D (wdA 31 q) (mw c q σ12) := mw_D hD0
  refine lv_iload_n hx hb dX8_plainly_64 rfl (lv_at hl 3 rfl) ?_
  exact W.iret hx hb hr (fun t ht hW => ⟨⟨_, σ12, rfl, hw, by unfold wdB; rw [ht]; exact hP⟩, hS.F ht⟩) hS.2.2 dX8_plainly_65
def wX8_plainEnd_L11 (z1 : Int32) (K44 : Int32 → Int32 → hsS → Prop) (post : Int32 → hsS → Prop) : Nat → Int32 → Int32 → hsS → Prop
  | 0, _, _, _ => False
  | n + 1, y2, y3, σ => ((z1 ≤ y3 → K44 y2 y3 σ) ∧ (¬ z1 ≤ y3 → vp_in y3 9 ∧ wX8_plainly (σ.2.1 16 y3.toNatClampNeg) y2 (fun r3 σ4 => ∀ v5 : Int32, v5 = y2 &&& (((1 : Int32) <<< (r3 &&& 31)) ^^^ (-1 : Int32)) → ∀ v6 : Int32, v6 = y3 + (1 : Int32) → wX8_plainEnd_L11 z1 K44 post n v5 v6 σ4) σ))
def wX8_plainEnd (x1 : Int32) (post : Int32 → hsS → Prop) (σ : hsS) : Prop := ∀ v1 : Int32, v1 = ((1 : Int32) <<< ((σ.1 25) &&& 31)) - (1 : Int32) → ∃ n7, wX8_plainEnd_L11 x1 (fun v8 v9 σ10 => post v8 σ10) post n7 v1 (0 : Int32) σ
set_option maxHeartbeats 4000000 in
set_option maxRecDepth 100000 in
theorem kcX8_plainEnd (l : Launch) (D : va_G) (c : Nat → ClassId) (q : Nat → Nat) (ev : State → Heap → Prop) (hev : evOK (wdA 31 q) ev) (σ : hsS) (x1 : Int32) (post : Int32 → hsS → Prop) (hw : wX8_plainEnd x1 post σ) : Met l yX8_plainEnd (Cond.code yX8_plainEnd cX8_plainEnd 5 (some .int) :: tb_L) { frames := 1, cells := 0, slots := 0, locals := 24 } (wdPc D (mw c q) (mwT c) (wdA 31 q) ev σ [.ref (q 0), .int x1]) (va_Qi post (wdB D (mw c q)) (wdA 31 q)) 0 0 (wdA 31 q) := by
  refine Met.ofW (cc := cX8_plainEnd) (maxL := 5) (ret := (some .int)) (by decide) rfl ?_
  intro p e s m args below meth c₀ s₁ Bd hml hv
  obtain ⟨rfl, hP, hK, hD0, hE⟩ := hv
  have hx := Bd.exec
  have hb := Bd.bytes
  have hr := Bd.returns
  have hts := atoms_spec (ws := Cond.code yX8_plainEnd cX8_plainEnd 5 (some .int) :: tb_L) Bd.pre
  have htb : ∀ w ∈ tb_L, w.before [.ref (q 0), .int x1].toArray s = true := fun w h => hts w (List.mem_cons_of_mem _ h)
  have hown : s.vm.findClass RX8 = some m.cls := findClass_of_methodNamed Bd.named
  have hlocks := Bd.notSynchronized
  have hS : va_S (wdA 31 q) s.heap s.heap [] := va_S.rf
  have hD := hD0
  have L11 : ∀ (K44 : Int32 → Int32 → hsS → Prop) (z1 : Int32) (n : Nat) (y2 : Int32) (y3 : Int32) (σ : hsS) (H : Heap) (locs : List Loc) (ls : Array Slot), wX8_plainEnd_L11 z1 K44 post n y2 y3 σ → (∀ (y2 : Int32) (y3 : Int32) (σ : hsS) (H : Heap) (locs : List Loc) (ls : Array Slot), K44 y2 y3 σ → va_P D vwCl (mw c q σ) H → va_S (wdA 31 q) s.heap H locs → lv_has ls 5 [(0, .ref (q 0)), (1, .int z1), (2, .int y2), (3, .int y3)] → W p l e (headSpec (Cond.code yX8_plainEnd cX8_plainEnd 5 (some .int) :: tb_L) { frames := 1, cells := 0, slots := 0, locals := 24 }).room s m [.ref (q 0), .int x1].toArray below meth c₀ H locs 0 0 (MQ below (va_Qi post (wdB D (mw c q)) (wdA 31 q)) [.ref (q 0), .int x1].toArray s 0 0 (wdA 31 q)) (F0 m 44 ls [])) → va_P D vwCl (mw c q σ) H → va_S (wdA 31 q) s.heap H locs → lv_has ls 5 [(0, .ref (q 0)), (1, .int z1), (2, .int y2), (3, .int y3)] → W p l e (headSpec (Cond.code yX8_plainEnd cX8_plainEnd 5 (some .int) :: tb_L) { frames := 1, cells := 0, slots := 0, locals := 24 }).room s m [.ref (q 0), .int x1].toArray below meth c₀ H locs 0 0 (MQ below (va_Qi post (wdB D (mw c q)) (wdA 31 q)) [.ref (q 0), .int x1].toArray s 0 0 (wdA 31 q)) (F0 m 11 ls []) := by
    intro K44 z1 n
    induction n with
    | zero =>
      intro y2 y3 σ H locs ls hw hk44 hP hS hl
      exact (show False from hw).elim
    | succ n ih =>
      intro y2 y3 σ H locs ls hw hk44 hP hS hl
      rw [wX8_plainEnd_L11] at hw
      have hD : va_D (wdA 31 q) (mw c q σ) := mw_D hD0
      refine lv_iload_n hx hb dX8_plainEnd_11 rfl (lv_at hl 3 rfl) ?_
      refine lv_iload_n hx hb dX8_plainEnd_12 rfl (lv_at hl 1 rfl) ?_
      refine lv_icmp_ge (tgt := 44) hx hb dX8_plainEnd_13 (by decide) (fun c2 => ?_) (fun c2 => ?_)
      · have hw := hw.1 c2
        exact hk44 y2 y3 σ _ _ _ hw hP hS (lv_sub hl [0, 1, 2, 3] rfl)
      · have hw := hw.2 c2
        refine lv_aload_n hx hb dX8_plainEnd_16 rfl (lv_at hl 0 rfl) ?_
        refine lv_aload_n hx hb dX8_plainEnd_17 rfl (lv_at hl 0 rfl) ?_
        refine va_get (D := D) (ci := 8) (C := RX8) (T := TX8) (N := 57) hx hb htb inX8 hown hK hP 0 (mw_0 c q σ) rfl 31 (by decide) (htb _ tb_1212) (fun _ h9 => h9) rfl dX8_plainEnd_18 ?_
        refine lv_iload_n hx hb dX8_plainEnd_21 rfl (lv_at hl 3 rfl) ?_
        refine va_iald hx hb hK hP 16 15 (mw_16 c q σ) rfl hw.1 dX8_plainEnd_22 ?_
        have hw := hw.2
        refine lv_iload_n hx hb dX8_plainEnd_23 rfl (lv_at hl 2 rfl) ?_
        refine va_calli (va_runV (As := [.int (σ.2.1 16 y3.toNatClampNeg), .int y2]) (rest := []) ⟨hx, hb, hml, hown, htb⟩ (kcX8_plainly l D c q ev hev σ (σ.2.1 16 y3.toNatClampNeg) y2 _ hw) (tb_CW htb kX8_plainly tb_1563 tb_1565 tb_71 ⟨Nat.le_of_ble_eq_true rfl, Nat.le_of_ble_eq_true rfl⟩) (wd_preV (wd := mw c q) (k := 0) hev hK hP hD hE hS (mw_0 c q σ) rfl) rfl rfl hl.1 rfl (lv_room (Nat.le_of_ble_eq_true rfl)) dX8_plainEnd_24 ⟨Nat.zero_le _, Nat.zero_le _⟩) hS (fun q _ h => h) (fun q h => h) (fun r3 σ4 t H1 locs1 ht hvm hw hB hz1 hk1 hS => ?_)
        have hP : va_P D vwCl (mw c q σ4) H1 := ht ▸ hB
        have hD : va_D (wdA 31 q) (mw c q σ4) := mw_D hD0
        refine lv_istore (lv' := [(4, .int r3), (0, .ref (q 0)), (1, .int z1), (2, .int y2), (3, .int y3)]) hx hb dX8_plainEnd_27 hl (by decide) rfl (fun ls hl => ?_)
        refine lv_iload_n hx hb dX8_plainEnd_29 rfl (lv_at hl 3 rfl) ?_
        refine lv_iconst (v := (1 : Int32)) hx hb dX8_plainEnd_30 (by decide) ?_
        refine lv_iload hx hb dX8_plainEnd_31 (lv_at hl 0 rfl) ?_
        refine lv_ishl hx hb dX8_plainEnd_33 ?_
        refine lv_iconst (v := (-1 : Int32)) hx hb dX8_plainEnd_34 (by decide) ?_
        refine lv_ixor hx hb dX8_plainEnd_35 ?_
        refine lv_iand hx hb dX8_plainEnd_36 ?_
        refine lv_topi (fun v5 ev5 => ?_)
        have hw := hw v5 ev5
        refine lv_istore_n (lv' := [(2, .int v5), (4, .int r3), (0, .ref (q 0)), (1, .int z1), (3, .int y3)]) hx hb dX8_plainEnd_37 rfl hl (by decide) rfl (fun ls hl => ?_)
        obtain ⟨v6, ev6⟩ : ∃ z : Int32, z = y3 + (1 : Int32) := ⟨_, rfl⟩
        have hw := hw v6 ev6
        refine lv_iinc (v := v6) (lv' := [(3, .int v6), (2, .int v5), (4, .int r3), (0, .ref (q 0)), (1, .int z1)]) hx hb dX8_plainEnd_38 hl (k := 4) rfl (by rw [ev6]; rfl) (by decide) rfl (fun ls hl => ?_)
        refine lv_goto (tgt := 11) hx hb dX8_plainEnd_41 (by decide) ?_
        exact ih v5 v6 σ4 _ _ _ hw hk44 hP hS (lv_sub hl [3, 4, 1, 0] rfl)
  have hl := lv_entry ([.ref (q 0), .int x1]) (n := 5) (Nat.le_of_ble_eq_true rfl)
  rw [lg_entry_eq]
  generalize (lg_sl ([.ref (q 0), .int x1]) ++ List.replicate (5 - (lg_sl ([.ref (q 0), .int x1])).length) Slot.unset).toArray = ls at hl ⊢
  have hl : lv_has ls 5 [(0, .ref (q 0)), (1, .int x1)] := hl
  unfold wX8_plainEnd at hw
  refine lv_iconst (v := (1 : Int32)) hx hb dX8_plainEnd_0 (by decide) ?_
  refine lv_aload_n hx hb dX8_plainEnd_1 rfl (lv_at hl 0 rfl) ?_
  refine va_get (D := D) (ci := 8) (C := RX8) (T := TX8) (N := 57) hx hb htb inX8 hown hK hP 0 (mw_0 c q σ) rfl 25 (by decide) (htb _ tb_1206) (fun _ h9 => h9) rfl dX8_plainEnd_2 ?_
  refine lv_ishl hx hb dX8_plainEnd_5 ?_
  refine lv_iconst (v := (1 : Int32)) hx hb dX8_plainEnd_6 (by decide) ?_
  refine lv_isub hx hb dX8_plainEnd_7 ?_
  refine lv_topi (fun v1 ev1 => ?_)
  have hw := hw v1 ev1
  refine lv_istore_n (lv' := [(2, .int v1), (0, .ref (q 0)), (1, .int x1)]) hx hb dX8_plainEnd_8 rfl hl (by decide) rfl (fun ls hl => ?_)
  refine lv_iconst (v := (0 : Int32)) hx hb dX8_plainEnd_9 (by decide) ?_
  refine lv_istore_n (lv' := [(3, .int (0 : Int32)), (2, .int v1), (0, .ref (q 0)), (1, .int x1)]) hx hb dX8_plainEnd_10 rfl hl (by decide) rfl (fun ls hl => ?_)
  obtain ⟨n7, hw⟩ := hw
  refine L11 _ x1 n7 v1 (0 : Int32) σ _ _ _ hw ?_ hP hS (lv_sub hl [2, 3, 1, 0] rfl)
  intro v8 v9 σ10 H locs ls hw hP hS hl
  have hD : va_D (wdA 31 q) (mw c q σ10) := mw_D hD0
  refine lv_iload_n hx hb dX8_plainEnd_44 rfl (lv_at hl 2 rfl) ?_
  exact W.iret hx hb hr (fun t ht hW => ⟨⟨_, σ10, rfl, hw, by unfold wdB; rw [ht]; exact hP⟩, hS.F ht⟩) hS.2.2 dX8_plainEnd_45
def wX8_takeTurns_L6 (K34 : Int32 → hsS → Prop) (post : hsS → Prop) : Nat → Int32 → hsS → Prop
  | 0, _, _ => False
  | n + 1, y1, σ => (((σ.2.1 6 (0 : Int32).toNatClampNeg) ≤ y1 → K34 y1 σ) ∧ (¬ (σ.2.1 6 (0 : Int32).toNatClampNeg) ≤ y1 → vp_in y1 18 ∧ vp_in y1 9 ∧ ∀ σ4 : hsS, σ4 = hsA σ 16 (upd (σ.2.1 16) y1.toNatClampNeg (σ.2.1 10 y1.toNatClampNeg)) → ∀ v5 : Int32, v5 = y1 + (1 : Int32) → wX8_takeTurns_L6  K34 post n v5 σ4))
def wX8_takeTurns  (post : hsS → Prop) (σ : hsS) : Prop := wX8_look  (fun σ2 => ∃ n6, wX8_takeTurns_L6  (fun v7 σ8 => post σ8) post n6 (0 : Int32) σ2) σ
set_option maxHeartbeats 4000000 in
set_option maxRecDepth 100000 in
theorem kcX8_takeTurns (l : Launch) (D : va_G) (c : Nat → ClassId) (q : Nat → Nat) (ev : State → Heap → Prop) (hev : evOK (wdA 31 q) ev) (σ : hsS)  (post : hsS → Prop) (hw : wX8_takeTurns  post σ) : Met l yX8_takeTurns (Cond.code yX8_takeTurns cX8_takeTurns 2 none :: tb_L) { frames := 2, cells := 0, slots := 0, locals := 47 } (wdPc D (mw c q) (mwT c) (wdA 31 q) ev σ [.ref (q 0)]) (va_Qv post (wdB D (mw c q)) (wdA 31 q)) 0 0 (wdA 31 q) := by
  refine Met.ofW (cc := cX8_takeTurns) (maxL := 2) (ret := none) (by decide) rfl ?_
  intro p e s m args below meth c₀ s₁ Bd hml hv
  obtain ⟨rfl, hP, hK, hD0, hE⟩ := hv
  have hx := Bd.exec
  have hb := Bd.bytes
  have hr := Bd.returns
  have hts := atoms_spec (ws := Cond.code yX8_takeTurns cX8_takeTurns 2 none :: tb_L) Bd.pre
  have htb : ∀ w ∈ tb_L, w.before [.ref (q 0)].toArray s = true := fun w h => hts w (List.mem_cons_of_mem _ h)
  have hown : s.vm.findClass RX8 = some m.cls := findClass_of_methodNamed Bd.named
  have hlocks := Bd.notSynchronized
  have hS : va_S (wdA 31 q) s.heap s.heap [] := va_S.rf
  have hD := hD0
  have L6 : ∀ (K34 : Int32 → hsS → Prop) (n : Nat) (y1 : Int32) (σ : hsS) (H : Heap) (locs : List Loc) (ls : Array Slot), wX8_takeTurns_L6  K34 post n y1 σ → (∀ (y1 : Int32) (σ : hsS) (H : Heap) (locs : List Loc) (ls : Array Slot), K34 y1 σ → va_P D vwCl (mw c q σ) H → va_S (wdA 31 q) s.heap H locs → lv_has ls 2 [(0, .ref (q 0)), (1, .int y1)] → W p l e (headSpec (Cond.code yX8_takeTurns cX8_takeTurns 2 none :: tb_L) { frames := 2, cells := 0, slots := 0, locals := 47 }).room s m [.ref (q 0)].toArray below meth c₀ H locs 0 0 (MQ below (va_Qv post (wdB D (mw c q)) (wdA 31 q)) [.ref (q 0)].toArray s 0 0 (wdA 31 q)) (F0 m 34 ls [])) → va_P D vwCl (mw c q σ) H → va_S (wdA 31 q) s.heap H locs → lv_has ls 2 [(0, .ref (q 0)), (1, .int y1)] → W p l e (headSpec (Cond.code yX8_takeTurns cX8_takeTurns 2 none :: tb_L) { frames := 2, cells := 0, slots := 0, locals := 47 }).room s m [.ref (q 0)].toArray below meth c₀ H locs 0 0 (MQ below (va_Qv post (wdB D (mw c q)) (wdA 31 q)) [.ref (q 0)].toArray s 0 0 (wdA 31 q)) (F0 m 6 ls []) := by
    intro K34 n
    induction n with
    | zero =>
      intro y1 σ H locs ls hw hk34 hP hS hl
      exact (show False from hw).elim
    | succ n ih =>
      intro y1 σ H locs ls hw hk34 hP hS hl
      rw [wX8_takeTurns_L6] at hw
      have hD : va_D (wdA 31 q) (mw c q σ) := mw_D hD0
      refine lv_iload_n hx hb dX8_takeTurns_6 rfl (lv_at hl 1 rfl) ?_
      refine lv_aload_n hx hb dX8_takeTurns_7 rfl (lv_at hl 0 rfl) ?_
      refine va_get (D := D) (ci := 8) (C := RX8) (T := TX8) (N := 57) hx hb htb inX8 hown hK hP 0 (mw_0 c q σ) rfl 6 (by decide) (htb _ tb_1187) (fun _ h9 => h9) rfl dX8_takeTurns_8 ?_
      refine lv_iconst (v := (0 : Int32)) hx hb dX8_takeTurns_11 (by decide) ?_
      refine va_iald hx hb hK hP 6 5 (mw_6 c q σ) rfl (by unfold vp_in; decide) dX8_takeTurns_12 ?_
      refine lv_icmp_ge (tgt := 34) hx hb dX8_takeTurns_13 (by decide) (fun c3 => ?_) (fun c3 => ?_)
      · have hw := hw.1 c3
        exact hk34 y1 σ _ _ _ hw hP hS (lv_sub hl [0, 1] rfl)
      · have hw := hw.2 c3
        refine lv_aload_n hx hb dX8_takeTurns_16 rfl (lv_at hl 0 rfl) ?_
        refine va_get (D := D) (ci := 8) (C := RX8) (T := TX8) (N := 57) hx hb htb inX8 hown hK hP 0 (mw_0 c q σ) rfl 31 (by decide) (htb _ tb_1212) (fun _ h9 => h9) rfl dX8_takeTurns_17 ?_
        refine lv_iload_n hx hb dX8_takeTurns_20 rfl (lv_at hl 1 rfl) ?_
        refine lv_aload_n hx hb dX8_takeTurns_21 rfl (lv_at hl 0 rfl) ?_
        refine va_get (D := D) (ci := 8) (C := RX8) (T := TX8) (N := 57) hx hb htb inX8 hown hK hP 0 (mw_0 c q σ) rfl 10 (by decide) (htb _ tb_1191) (fun _ h9 => h9) rfl dX8_takeTurns_22 ?_
        refine lv_iload_n hx hb dX8_takeTurns_25 rfl (lv_at hl 1 rfl) ?_
        refine va_iald hx hb hK hP 10 9 (mw_10 c q σ) rfl hw.1 dX8_takeTurns_26 ?_
        have hw := hw.2
        refine va_iast hx hb hK hP hD hS 16 15 (mw_16 c q σ) rfl hw.1 dX8_takeTurns_27 (fun H locs hP hD hS => ?_)
        have hw := hw.2
        have hP : va_P D vwCl (mw c q (hsA σ 16 (upd (σ.2.1 16) y1.toNatClampNeg (σ.2.1 10 y1.toNatClampNeg)))) H := hP
        obtain ⟨σ4, eσ4⟩ : ∃ z : hsS, z = hsA σ 16 (upd (σ.2.1 16) y1.toNatClampNeg (σ.2.1 10 y1.toNatClampNeg)) := ⟨_, rfl⟩
        rw [← eσ4] at hP
        have hD : va_D (wdA 31 q) (mw c q σ4) := mw_D hD0
        have hw := hw σ4 eσ4
        obtain ⟨v5, ev5⟩ : ∃ z : Int32, z = y1 + (1 : Int32) := ⟨_, rfl⟩
        have hw := hw v5 ev5
        refine lv_iinc (v := v5) (lv' := [(1, .int v5), (0, .ref (q 0))]) hx hb dX8_takeTurns_28 hl (k := 1) rfl (by rw [ev5]; rfl) (by decide) rfl (fun ls hl => ?_)
        refine lv_goto (tgt := 6) hx hb dX8_takeTurns_31 (by decide) ?_
        exact ih v5 σ4 _ _ _ hw hk34 hP hS (lv_sub hl [1, 0] rfl)
  have hl := lv_entry ([.ref (q 0)]) (n := 2) (Nat.le_of_ble_eq_true rfl)
  rw [lg_entry_eq]
  generalize (lg_sl ([.ref (q 0)]) ++ List.replicate (2 - (lg_sl ([.ref (q 0)])).length) Slot.unset).toArray = ls at hl ⊢
  have hl : lv_has ls 2 [(0, .ref (q 0))] := hl
  unfold wX8_takeTurns at hw
  refine lv_aload_n hx hb dX8_takeTurns_0 rfl (lv_at hl 0 rfl) ?_
  refine va_callv (va_runV (As := []) (rest := []) ⟨hx, hb, hml, hown, htb⟩ (kcX8_look l D c q ev hev σ  _ hw) (tb_CW htb kX8_look tb_1500 tb_1502 tb_63 ⟨Nat.le_of_ble_eq_true rfl, Nat.le_of_ble_eq_true rfl⟩) (wd_preV (wd := mw c q) (k := 0) hev hK hP hD hE hS (mw_0 c q σ) rfl) rfl rfl hl.1 rfl (lv_room (Nat.le_of_ble_eq_true rfl)) dX8_takeTurns_1 ⟨Nat.zero_le _, Nat.zero_le _⟩) hS (fun q _ h => h) (fun q h => h) (fun σ2 t H1 locs1 ht hvm hw hB hz1 hk1 hS => ?_)
  have hP : va_P D vwCl (mw c q σ2) H1 := ht ▸ hB
  have hD : va_D (wdA 31 q) (mw c q σ2) := mw_D hD0
  refine lv_iconst (v := (0 : Int32)) hx hb dX8_takeTurns_4 (by decide) ?_
  refine lv_istore_n (lv' := [(1, .int (0 : Int32)), (0, .ref (q 0))]) hx hb dX8_takeTurns_5 rfl hl (by decide) rfl (fun ls hl => ?_)
  obtain ⟨n6, hw⟩ := hw
  refine L6 _ n6 (0 : Int32) σ2 _ _ _ hw ?_ hP hS (lv_sub hl [1, 0] rfl)
  intro v7 σ8 H locs ls hw hP hS hl
  have hD : va_D (wdA 31 q) (mw c q σ8) := mw_D hD0
  exact W.vret hx hb hr (fun t ht hW => ⟨⟨σ8, rfl, hw, by unfold wdB; rw [ht]; exact hP⟩, hS.F ht⟩) hS.2.2 dX8_takeTurns_34
def wX8_some_L17 (z1 : Int32) (z3 : Int32) (K50 : Int32 → Int32 → hsS → Prop) (K69 : Int32 → Int32 → hsS → Prop) (post : Int32 → hsS → Prop) : Nat → Int32 → Int32 → hsS → Prop
  | 0, _, _, _ => False
  | n + 1, y2, y4, σ => ((z3 ≤ y4 → K69 y2 y4 σ) ∧ (¬ z3 ≤ y4 → ∀ v4 : Int32, v4 = (z1 >>> (((3 : Int32) * y4) &&& 31)) &&& (7 : Int32) → ((z3 ≤ v4 → K50 y2 y4 σ) ∧ (¬ z3 ≤ v4 → ((((y2 >>> (v4 &&& 31)) &&& (1 : Int32)) = (1 : Int32) → K50 y2 y4 σ) ∧ (¬ ((y2 >>> (v4 &&& 31)) &&& (1 : Int32)) = (1 : Int32) → ∀ v7 : Int32, v7 = y2 ||| ((1 : Int32) <<< (v4 &&& 31)) → ∀ v8 : Int32, v8 = y4 + (1 : Int32) → wX8_some_L17 z1 z3 K50 K69 post n v7 v8 σ))))))
def wX8_some_L124 (z1 : Int32) (z2 : Int32) (z3 : Int32) (z5 : Int32) (z6 : Int32) (z7 : Int32) (K167 : Int32 → Int32 → hsS → Prop) (post : Int32 → hsS → Prop) : Nat → Int32 → Int32 → hsS → Prop
  | 0, _, _, _ => False
  | n + 1, y4, y8, σ => ((z7 ≤ y8 → K167 y4 y8 σ) ∧ (¬ z7 ≤ y8 → wX8_sizeOf y4 (fun r28 σ29 => ((r28 ≤ (1 : Int32) → K167 y4 y8 σ29) ∧ (¬ r28 ≤ (1 : Int32) → wX8_plainly z6 y4 (fun r31 σ32 => ∀ v33 : Int32, v33 = y4 &&& (((1 : Int32) <<< (r31 &&& 31)) ^^^ (-1 : Int32)) → ∀ v34 : Int32, v34 = y8 + (1 : Int32) → wX8_some_L124 z1 z2 z3 z5 z6 z7 K167 post n v33 v34 σ32) σ29))) σ))
def wX8_some_L86 (z1 : Int32) (z2 : Int32) (z3 : Int32) (K173 : Int32 → Int32 → hsS → Prop) (post : Int32 → hsS → Prop) : Nat → Int32 → Int32 → hsS → Prop
  | 0, _, _, _ => False
  | n + 1, y4, y5, σ => ((z3 ≤ y5 → K173 y4 y5 σ) ∧ (¬ z3 ≤ y5 → ∀ v22 : Int32, v22 = (z1 >>> (((3 : Int32) * y5) &&& 31)) &&& (7 : Int32) → wX8_everybody  (fun r23 σ24 => wX8_mayOf ((1 : Int32) <<< (v22 &&& 31)) r23 (σ24.1 25) (fun r25 σ26 => ∃ n35, wX8_some_L124 z1 z2 z3 y5 v22 r25 (fun v36 v37 σ38 => ∀ v39 : Int32, v39 = y5 + (1 : Int32) → wX8_some_L86 z1 z2 z3 K173 post n v36 v39 σ38) post n35 y4 (0 : Int32) σ26) σ24) σ))
def wX8_some (x1 : Int32) (post : Int32 → hsS → Prop) (σ : hsS) : Prop := ∀ σ1 : hsS, σ1 = hsI σ 0 (0 : Int32) → ∀ v2 : Int32, v2 = σ1.2.1 2 (0 : Int32).toNatClampNeg → ∃ n9, wX8_some_L17 x1 v2 (fun v10 v11 σ12 => wX8_fail (1 : Int32) (fun r13 σ14 => post r13 σ14) σ12) (fun v15 v16 σ17 => wX8_look  (fun σ19 => ∀ v20 : Int32, v20 = ((1 : Int32) <<< ((σ19.1 25) &&& 31)) - (1 : Int32) → ∃ n40, wX8_some_L86 x1 v15 v2 (fun v41 v42 σ43 => post v41 σ43) post n40 v20 (0 : Int32) σ19) σ17) post n9 (0 : Int32) (0 : Int32) σ1
set_option maxHeartbeats 4000000 in
set_option maxRecDepth 100000 in
theorem kcX8_some (l : Launch) (D : va_G) (c : Nat → ClassId) (q : Nat → Nat) (ev : State → Heap → Prop) (hev : evOK (wdA 31 q) ev) (σ : hsS) (x1 : Int32) (post : Int32 → hsS → Prop) (hw : wX8_some x1 post σ) : Met l yX8_some (Cond.code yX8_some cX8_some 10 (some .int) :: tb_L) { frames := 2, cells := 0, slots := 0, locals := 65 } (wdPc D (mw c q) (mwT c) (wdA 31 q) ev σ [.ref (q 0), .int x1]) (va_Qi post (wdB D (mw c q)) (wdA 31 q)) 0 0 (wdA 31 q) := by
  refine Met.ofW (cc := cX8_some) (maxL := 10) (ret := (some .int)) (by decide) rfl ?_
  intro p e s m args below meth c₀ s₁ Bd hml hv
  obtain ⟨rfl, hP, hK, hD0, hE⟩ := hv
  have hx := Bd.exec
  have hb := Bd.bytes
  have hr := Bd.returns
  have hts := atoms_spec (ws := Cond.code yX8_some cX8_some 10 (some .int) :: tb_L) Bd.pre
  have htb : ∀ w ∈ tb_L, w.before [.ref (q 0), .int x1].toArray s = true := fun w h => hts w (List.mem_cons_of_mem _ h)
  have hown : s.vm.findClass RX8 = some m.cls := findClass_of_methodNamed Bd.named
  have hlocks := Bd.notSynchronized
  have hS : va_S (wdA 31 q) s.heap s.heap [] := va_S.rf
  have hD := hD0
  have L17 : ∀ (K50 : Int32 → Int32 → hsS → Prop) (K69 : Int32 → Int32 → hsS → Prop) (z1 : Int32) (z3 : Int32) (n : Nat) (y2 : Int32) (y4 : Int32) (σ : hsS) (H : Heap) (locs : List Loc) (ls : Array Slot), wX8_some_L17 z1 z3 K50 K69 post n y2 y4 σ → (∀ (y2 : Int32) (y4 : Int32) (σ : hsS) (H : Heap) (locs : List Loc) (ls : Array Slot), K50 y2 y4 σ → va_P D vwCl (mw c q σ) H → va_S (wdA 31 q) s.heap H locs → lv_has ls 10 [(0, .ref (q 0)), (1, .int z1), (2, .int y2), (3, .int z3), (4, .int y4)] → W p l e (headSpec (Cond.code yX8_some cX8_some 10 (some .int) :: tb_L) { frames := 2, cells := 0, slots := 0, locals := 65 }).room s m [.ref (q 0), .int x1].toArray below meth c₀ H locs 0 0 (MQ below (va_Qi post (wdB D (mw c q)) (wdA 31 q)) [.ref (q 0), .int x1].toArray s 0 0 (wdA 31 q)) (F0 m 50 ls [])) → (∀ (y2 : Int32) (y4 : Int32) (σ : hsS) (H : Heap) (locs : List Loc) (ls : Array Slot), K69 y2 y4 σ → va_P D vwCl (mw c q σ) H → va_S (wdA 31 q) s.heap H locs → lv_has ls 10 [(0, .ref (q 0)), (1, .int z1), (2, .int y2), (3, .int z3), (4, .int y4)] → W p l e (headSpec (Cond.code yX8_some cX8_some 10 (some .int) :: tb_L) { frames := 2, cells := 0, slots := 0, locals := 65 }).room s m [.ref (q 0), .int x1].toArray below meth c₀ H locs 0 0 (MQ below (va_Qi post (wdB D (mw c q)) (wdA 31 q)) [.ref (q 0), .int x1].toArray s 0 0 (wdA 31 q)) (F0 m 69 ls [])) → va_P D vwCl (mw c q σ) H → va_S (wdA 31 q) s.heap H locs → lv_has ls 10 [(0, .ref (q 0)), (1, .int z1), (2, .int y2), (3, .int z3), (4, .int y4)] → W p l e (headSpec (Cond.code yX8_some cX8_some 10 (some .int) :: tb_L) { frames := 2, cells := 0, slots := 0, locals := 65 }).room s m [.ref (q 0), .int x1].toArray below meth c₀ H locs 0 0 (MQ below (va_Qi post (wdB D (mw c q)) (wdA 31 q)) [.ref (q 0), .int x1].toArray s 0 0 (wdA 31 q)) (F0 m 17 ls []) := by
    intro K50 K69 z1 z3 n
    induction n with
    | zero =>
      intro y2 y4 σ H locs ls hw hk50 hk69 hP hS hl
      exact (show False from hw).elim
    | succ n ih =>
      intro y2 y4 σ H locs ls hw hk50 hk69 hP hS hl
      rw [wX8_some_L17] at hw
      have hD : va_D (wdA 31 q) (mw c q σ) := mw_D hD0
      refine lv_iload hx hb dX8_some_17 (lv_at hl 4 rfl) ?_
      refine lv_iload_n hx hb dX8_some_19 rfl (lv_at hl 3 rfl) ?_
      refine lv_icmp_ge (tgt := 69) hx hb dX8_some_20 (by decide) (fun c3 => ?_) (fun c3 => ?_)
      · have hw := hw.1 c3
        exact hk69 y2 y4 σ _ _ _ hw hP hS (lv_sub hl [0, 1, 2, 3, 4] rfl)
      · have hw := hw.2 c3
        refine lv_iload_n hx hb dX8_some_23 rfl (lv_at hl 1 rfl) ?_
        refine lv_iconst (v := (3 : Int32)) hx hb dX8_some_24 (by decide) ?_
        refine lv_iload hx hb dX8_some_25 (lv_at hl 4 rfl) ?_
        refine lv_imul hx hb dX8_some_27 ?_
        refine lv_ishr hx hb dX8_some_28 ?_
        refine lv_bipush (v := (7 : Int32)) hx hb dX8_some_29 (by decide) ?_
        refine lv_iand hx hb dX8_some_31 ?_
        refine lv_topi (fun v4 ev4 => ?_)
        have hw := hw v4 ev4
        refine lv_istore (lv' := [(5, .int v4), (0, .ref (q 0)), (1, .int z1), (2, .int y2), (3, .int z3), (4, .int y4)]) hx hb dX8_some_32 hl (by decide) rfl (fun ls hl => ?_)
        refine lv_iload hx hb dX8_some_34 (lv_at hl 0 rfl) ?_
        refine lv_iload_n hx hb dX8_some_36 rfl (lv_at hl 4 rfl) ?_
        refine lv_icmp_ge (tgt := 50) hx hb dX8_some_37 (by decide) (fun c5 => ?_) (fun c5 => ?_)
        · have hw := hw.1 c5
          exact hk50 y2 y4 σ _ _ _ hw hP hS (lv_sub hl [1, 2, 3, 4, 5] rfl)
        · have hw := hw.2 c5
          refine lv_iload_n hx hb dX8_some_40 rfl (lv_at hl 3 rfl) ?_
          refine lv_iload hx hb dX8_some_41 (lv_at hl 0 rfl) ?_
          refine lv_ishr hx hb dX8_some_43 ?_
          refine lv_iconst (v := (1 : Int32)) hx hb dX8_some_44 (by decide) ?_
          refine lv_iand hx hb dX8_some_45 ?_
          refine lv_iconst (v := (1 : Int32)) hx hb dX8_some_46 (by decide) ?_
          refine lv_icmp_ne (tgt := 56) hx hb dX8_some_47 (by decide) (fun c6 => ?_) (fun c6 => ?_)
          · have hw := hw.2 c6
            refine lv_iload_n hx hb dX8_some_56 rfl (lv_at hl 3 rfl) ?_
            refine lv_iconst (v := (1 : Int32)) hx hb dX8_some_57 (by decide) ?_
            refine lv_iload hx hb dX8_some_58 (lv_at hl 0 rfl) ?_
            refine lv_ishl hx hb dX8_some_60 ?_
            refine lv_ior hx hb dX8_some_61 ?_
            refine lv_topi (fun v7 ev7 => ?_)
            have hw := hw v7 ev7
            refine lv_istore_n (lv' := [(2, .int v7), (5, .int v4), (0, .ref (q 0)), (1, .int z1), (3, .int z3), (4, .int y4)]) hx hb dX8_some_62 rfl hl (by decide) rfl (fun ls hl => ?_)
            obtain ⟨v8, ev8⟩ : ∃ z : Int32, z = y4 + (1 : Int32) := ⟨_, rfl⟩
            have hw := hw v8 ev8
            refine lv_iinc (v := v8) (lv' := [(4, .int v8), (2, .int v7), (5, .int v4), (0, .ref (q 0)), (1, .int z1), (3, .int z3)]) hx hb dX8_some_63 hl (k := 5) rfl (by rw [ev8]; rfl) (by decide) rfl (fun ls hl => ?_)
            refine lv_goto (tgt := 17) hx hb dX8_some_66 (by decide) ?_
            exact ih v7 v8 σ _ _ _ hw hk50 hk69 hP hS (lv_sub hl [3, 4, 1, 5, 0] rfl)
          · have hw := hw.1 c6
            exact hk50 y2 y4 σ _ _ _ hw hP hS (lv_sub hl [1, 2, 3, 4, 5] rfl)
  have L124 : ∀ (K167 : Int32 → Int32 → hsS → Prop) (z1 : Int32) (z2 : Int32) (z3 : Int32) (z5 : Int32) (z6 : Int32) (z7 : Int32) (n : Nat) (y4 : Int32) (y8 : Int32) (σ : hsS) (H : Heap) (locs : List Loc) (ls : Array Slot), wX8_some_L124 z1 z2 z3 z5 z6 z7 K167 post n y4 y8 σ → (∀ (y4 : Int32) (y8 : Int32) (σ : hsS) (H : Heap) (locs : List Loc) (ls : Array Slot), K167 y4 y8 σ → va_P D vwCl (mw c q σ) H → va_S (wdA 31 q) s.heap H locs → lv_has ls 10 [(0, .ref (q 0)), (1, .int z1), (2, .int z2), (3, .int z3), (4, .int y4), (5, .int z5), (6, .int z6), (7, .int z7), (8, .int y8)] → W p l e (headSpec (Cond.code yX8_some cX8_some 10 (some .int) :: tb_L) { frames := 2, cells := 0, slots := 0, locals := 65 }).room s m [.ref (q 0), .int x1].toArray below meth c₀ H locs 0 0 (MQ below (va_Qi post (wdB D (mw c q)) (wdA 31 q)) [.ref (q 0), .int x1].toArray s 0 0 (wdA 31 q)) (F0 m 167 ls [])) → va_P D vwCl (mw c q σ) H → va_S (wdA 31 q) s.heap H locs → lv_has ls 10 [(0, .ref (q 0)), (1, .int z1), (2, .int z2), (3, .int z3), (4, .int y4), (5, .int z5), (6, .int z6), (7, .int z7), (8, .int y8)] → W p l e (headSpec (Cond.code yX8_some cX8_some 10 (some .int) :: tb_L) { frames := 2, cells := 0, slots := 0, locals := 65 }).room s m [.ref (q 0), .int x1].toArray below meth c₀ H locs 0 0 (MQ below (va_Qi post (wdB D (mw c q)) (wdA 31 q)) [.ref (q 0), .int x1].toArray s 0 0 (wdA 31 q)) (F0 m 124 ls []) := by
    intro K167 z1 z2 z3 z5 z6 z7 n
    induction n with
    | zero =>
      intro y4 y8 σ H locs ls hw hk167 hP hS hl
      exact (show False from hw).elim
    | succ n ih =>
      intro y4 y8 σ H locs ls hw hk167 hP hS hl
      rw [wX8_some_L124] at hw
      have hD : va_D (wdA 31 q) (mw c q σ) := mw_D hD0
      refine lv_iload hx hb dX8_some_124 (lv_at hl 8 rfl) ?_
      refine lv_iload hx hb dX8_some_126 (lv_at hl 7 rfl) ?_
      refine lv_icmp_ge (tgt := 167) hx hb dX8_some_128 (by decide) (fun c27 => ?_) (fun c27 => ?_)
      · have hw := hw.1 c27
        exact hk167 y4 y8 σ _ _ _ hw hP hS (lv_sub hl [0, 1, 2, 3, 4, 5, 6, 7, 8] rfl)
      · have hw := hw.2 c27
        refine lv_iload hx hb dX8_some_131 (lv_at hl 4 rfl) ?_
        refine va_calli (va_runS (As := [.int y4]) (rest := []) ⟨hx, hb, hml, hown, htb⟩ (kcX8_sizeOf_m l D c q ev hev σ y4 _ hw) (tb_CS htb kX8_sizeOf tb_1493 tb_1494 ⟨Nat.le_of_ble_eq_true rfl, Nat.le_of_ble_eq_true rfl⟩) (wd_preS (wd := mw c q) hev hK hP hD hE hS) rfl rfl hl.1 rfl (lv_room (Nat.le_of_ble_eq_true rfl)) dX8_some_133 ⟨Nat.zero_le _, Nat.zero_le _⟩) hS (fun q _ h => h) (fun q h => h) (fun r28 σ29 t H1 locs1 ht hvm hw hB hz1 hk1 hS => ?_)
        have hP : va_P D vwCl (mw c q σ29) H1 := ht ▸ hB
        have hD : va_D (wdA 31 q) (mw c q σ29) := mw_D hD0
        refine lv_iconst (v := (1 : Int32)) hx hb dX8_some_136 (by decide) ?_
        refine lv_icmp_le (tgt := 167) hx hb dX8_some_137 (by decide) (fun c30 => ?_) (fun c30 => ?_)
        · have hw := hw.1 c30
          exact hk167 y4 y8 σ29 _ _ _ hw hP hS (lv_sub hl [0, 1, 2, 3, 4, 5, 6, 7, 8] rfl)
        · have hw := hw.2 c30
          refine lv_aload_n hx hb dX8_some_140 rfl (lv_at hl 0 rfl) ?_
          refine lv_iload hx hb dX8_some_141 (lv_at hl 6 rfl) ?_
          refine lv_iload hx hb dX8_some_143 (lv_at hl 4 rfl) ?_
          refine va_calli (va_runV (As := [.int z6, .int y4]) (rest := []) ⟨hx, hb, hml, hown, htb⟩ (kcX8_plainly l D c q ev hev σ29 z6 y4 _ hw) (tb_CW htb kX8_plainly tb_1563 tb_1565 tb_71 ⟨Nat.le_of_ble_eq_true rfl, Nat.le_of_ble_eq_true rfl⟩) (wd_preV (wd := mw c q) (k := 0) hev hK hP hD hE hS (mw_0 c q σ29) rfl) rfl rfl hl.1 rfl (lv_room (Nat.le_of_ble_eq_true rfl)) dX8_some_145 ⟨Nat.zero_le _, Nat.zero_le _⟩) hS (fun q _ h => h) (fun q h => h) (fun r31 σ32 t H1 locs1 ht hvm hw hB hz1 hk1 hS => ?_)
          have hP : va_P D vwCl (mw c q σ32) H1 := ht ▸ hB
          have hD : va_D (wdA 31 q) (mw c q σ32) := mw_D hD0
          refine lv_istore (lv' := [(9, .int r31), (0, .ref (q 0)), (1, .int z1), (2, .int z2), (3, .int z3), (4, .int y4), (5, .int z5), (6, .int z6), (7, .int z7), (8, .int y8)]) hx hb dX8_some_148 hl (by decide) rfl (fun ls hl => ?_)
          refine lv_iload hx hb dX8_some_150 (lv_at hl 5 rfl) ?_
          refine lv_iconst (v := (1 : Int32)) hx hb dX8_some_152 (by decide) ?_
          refine lv_iload hx hb dX8_some_153 (lv_at hl 0 rfl) ?_
          refine lv_ishl hx hb dX8_some_155 ?_
          refine lv_iconst (v := (-1 : Int32)) hx hb dX8_some_156 (by decide) ?_
          refine lv_ixor hx hb dX8_some_157 ?_
          refine lv_iand hx hb dX8_some_158 ?_
          refine lv_topi (fun v33 ev33 => ?_)
          have hw := hw v33 ev33
          refine lv_istore (lv' := [(4, .int v33), (9, .int r31), (0, .ref (q 0)), (1, .int z1), (2, .int z2), (3, .int z3), (5, .int z5), (6, .int z6), (7, .int z7), (8, .int y8)]) hx hb dX8_some_159 hl (by decide) rfl (fun ls hl => ?_)
          obtain ⟨v34, ev34⟩ : ∃ z : Int32, z = y8 + (1 : Int32) := ⟨_, rfl⟩
          have hw := hw v34 ev34
          refine lv_iinc (v := v34) (lv' := [(8, .int v34), (4, .int v33), (9, .int r31), (0, .ref (q 0)), (1, .int z1), (2, .int z2), (3, .int z3), (5, .int z5), (6, .int z6), (7, .int z7)]) hx hb dX8_some_161 hl (k := 9) rfl (by rw [ev34]; rfl) (by decide) rfl (fun ls hl => ?_)
          refine lv_goto (tgt := 124) hx hb dX8_some_164 (by decide) ?_
          exact ih v33 v34 σ32 _ _ _ hw hk167 hP hS (lv_sub hl [3, 4, 5, 6, 1, 7, 8, 9, 0] rfl)
  have L86 : ∀ (K173 : Int32 → Int32 → hsS → Prop) (z1 : Int32) (z2 : Int32) (z3 : Int32) (n : Nat) (y4 : Int32) (y5 : Int32) (σ : hsS) (H : Heap) (locs : List Loc) (ls : Array Slot), wX8_some_L86 z1 z2 z3 K173 post n y4 y5 σ → (∀ (y4 : Int32) (y5 : Int32) (σ : hsS) (H : Heap) (locs : List Loc) (ls : Array Slot), K173 y4 y5 σ → va_P D vwCl (mw c q σ) H → va_S (wdA 31 q) s.heap H locs → lv_has ls 10 [(0, .ref (q 0)), (1, .int z1), (2, .int z2), (3, .int z3), (4, .int y4), (5, .int y5)] → W p l e (headSpec (Cond.code yX8_some cX8_some 10 (some .int) :: tb_L) { frames := 2, cells := 0, slots := 0, locals := 65 }).room s m [.ref (q 0), .int x1].toArray below meth c₀ H locs 0 0 (MQ below (va_Qi post (wdB D (mw c q)) (wdA 31 q)) [.ref (q 0), .int x1].toArray s 0 0 (wdA 31 q)) (F0 m 173 ls [])) → va_P D vwCl (mw c q σ) H → va_S (wdA 31 q) s.heap H locs → lv_has ls 10 [(0, .ref (q 0)), (1, .int z1), (2, .int z2), (3, .int z3), (4, .int y4), (5, .int y5)] → W p l e (headSpec (Cond.code yX8_some cX8_some 10 (some .int) :: tb_L) { frames := 2, cells := 0, slots := 0, locals := 65 }).room s m [.ref (q 0), .int x1].toArray below meth c₀ H locs 0 0 (MQ below (va_Qi post (wdB D (mw c q)) (wdA 31 q)) [.ref (q 0), .int x1].toArray s 0 0 (wdA 31 q)) (F0 m 86 ls []) := by
    intro K173 z1 z2 z3 n
    induction n with
    | zero =>
      intro y4 y5 σ H locs ls hw hk173 hP hS hl
      exact (show False from hw).elim
    | succ n ih =>
      intro y4 y5 σ H locs ls hw hk173 hP hS hl
      rw [wX8_some_L86] at hw
      have hD : va_D (wdA 31 q) (mw c q σ) := mw_D hD0
      refine lv_iload hx hb dX8_some_86 (lv_at hl 5 rfl) ?_
      refine lv_iload_n hx hb dX8_some_88 rfl (lv_at hl 3 rfl) ?_
      refine lv_icmp_ge (tgt := 173) hx hb dX8_some_89 (by decide) (fun c21 => ?_) (fun c21 => ?_)
      · have hw := hw.1 c21
        exact hk173 y4 y5 σ _ _ _ hw hP hS (lv_sub hl [0, 1, 2, 3, 4, 5] rfl)
      · have hw := hw.2 c21
        refine lv_iload_n hx hb dX8_some_92 rfl (lv_at hl 1 rfl) ?_
        refine lv_iconst (v := (3 : Int32)) hx hb dX8_some_93 (by decide) ?_
        refine lv_iload hx hb dX8_some_94 (lv_at hl 5 rfl) ?_
        refine lv_imul hx hb dX8_some_96 ?_
        refine lv_ishr hx hb dX8_some_97 ?_
        refine lv_bipush (v := (7 : Int32)) hx hb dX8_some_98 (by decide) ?_
        refine lv_iand hx hb dX8_some_100 ?_
        refine lv_topi (fun v22 ev22 => ?_)
        have hw := hw v22 ev22
        refine lv_istore (lv' := [(6, .int v22), (0, .ref (q 0)), (1, .int z1), (2, .int z2), (3, .int z3), (4, .int y4), (5, .int y5)]) hx hb dX8_some_101 hl (by decide) rfl (fun ls hl => ?_)
        refine lv_aload_n hx hb dX8_some_103 rfl (lv_at hl 1 rfl) ?_
        refine lv_iconst (v := (1 : Int32)) hx hb dX8_some_104 (by decide) ?_
        refine lv_iload hx hb dX8_some_105 (lv_at hl 0 rfl) ?_
        refine lv_ishl hx hb dX8_some_107 ?_
        refine lv_aload_n hx hb dX8_some_108 rfl (lv_at hl 1 rfl) ?_
        refine va_calli (va_runV (As := []) (rest := [.int ((1 : Int32) <<< (v22 &&& 31)), .ref (q 0)]) ⟨hx, hb, hml, hown, htb⟩ (kcX8_everybody l D c q ev hev σ  _ hw) (tb_CW htb kX8_everybody tb_1485 tb_1487 tb_61 ⟨Nat.le_of_ble_eq_true rfl, Nat.le_of_ble_eq_true rfl⟩) (wd_preV (wd := mw c q) (k := 0) hev hK hP hD hE hS (mw_0 c q σ) rfl) rfl rfl hl.1 rfl (lv_room (Nat.le_of_ble_eq_true rfl)) dX8_some_109 ⟨Nat.zero_le _, Nat.zero_le _⟩) hS (fun q _ h => h) (fun q h => h) (fun r23 σ24 t H1 locs1 ht hvm hw hB hz1 hk1 hS => ?_)
        have hP : va_P D vwCl (mw c q σ24) H1 := ht ▸ hB
        have hD : va_D (wdA 31 q) (mw c q σ24) := mw_D hD0
        refine lv_aload_n hx hb dX8_some_112 rfl (lv_at hl 1 rfl) ?_
        refine va_get (D := D) (ci := 8) (C := RX8) (T := TX8) (N := 57) hx hb htb inX8 hown hK hP 0 (mw_0 c q σ24) rfl 25 (by decide) (htb _ tb_1206) (fun _ h9 => h9) rfl dX8_some_113 ?_
        refine va_calli (va_runV (As := [.int ((1 : Int32) <<< (v22 &&& 31)), .int r23, .int (σ24.1 25)]) (rest := []) ⟨hx, hb, hml, hown, htb⟩ (kcX8_mayOf l D c q ev hev σ24 ((1 : Int32) <<< (v22 &&& 31)) r23 (σ24.1 25) _ hw) (tb_CW htb kX8_mayOf tb_1489 tb_1491 tb_62 ⟨Nat.le_of_ble_eq_true rfl, Nat.le_of_ble_eq_true rfl⟩) (wd_preV (wd := mw c q) (k := 0) hev hK hP hD hE hS (mw_0 c q σ24) rfl) rfl rfl hl.1 rfl (lv_room (Nat.le_of_ble_eq_true rfl)) dX8_some_116 ⟨Nat.zero_le _, Nat.zero_le _⟩) hS (fun q _ h => h) (fun q h => h) (fun r25 σ26 t H1 locs1 ht hvm hw hB hz1 hk1 hS => ?_)
        have hP : va_P D vwCl (mw c q σ26) H1 := ht ▸ hB
        have hD : va_D (wdA 31 q) (mw c q σ26) := mw_D hD0
        refine lv_istore (lv' := [(7, .int r25), (6, .int v22), (0, .ref (q 0)), (1, .int z1), (2, .int z2), (3, .int z3), (4, .int y4), (5, .int y5)]) hx hb dX8_some_119 hl (by decide) rfl (fun ls hl => ?_)
        refine lv_iconst (v := (0 : Int32)) hx hb dX8_some_121 (by decide) ?_
        refine lv_istore (lv' := [(8, .int (0 : Int32)), (7, .int r25), (6, .int v22), (0, .ref (q 0)), (1, .int z1), (2, .int z2), (3, .int z3), (4, .int y4), (5, .int y5)]) hx hb dX8_some_122 hl (by decide) rfl (fun ls hl => ?_)
        obtain ⟨n35, hw⟩ := hw
        refine L124 _ z1 z2 z3 y5 v22 r25 n35 y4 (0 : Int32) σ26 _ _ _ hw ?_ hP hS (lv_sub hl [3, 4, 5, 6, 7, 8, 2, 1, 0] rfl)
        intro v36 v37 σ38 H locs ls hw hP hS hl
        have hD : va_D (wdA 31 q) (mw c q σ38) := mw_D hD0
        obtain ⟨v39, ev39⟩ : ∃ z : Int32, z = y5 + (1 : Int32) := ⟨_, rfl⟩
        have hw := hw v39 ev39
        refine lv_iinc (v := v39) (lv' := [(5, .int v39), (0, .ref (q 0)), (1, .int z1), (2, .int z2), (3, .int z3), (4, .int v36), (6, .int v22), (7, .int r25), (8, .int v37)]) hx hb dX8_some_167 hl (k := 5) rfl (by rw [ev39]; rfl) (by decide) rfl (fun ls hl => ?_)
        refine lv_goto (tgt := 86) hx hb dX8_some_170 (by decide) ?_
        exact ih v36 v39 σ38 _ _ _ hw hk173 hP hS (lv_sub hl [1, 2, 3, 4, 5, 0] rfl)
  have hl := lv_entry ([.ref (q 0), .int x1]) (n := 10) (Nat.le_of_ble_eq_true rfl)
  rw [lg_entry_eq]
  generalize (lg_sl ([.ref (q 0), .int x1]) ++ List.replicate (10 - (lg_sl ([.ref (q 0), .int x1])).length) Slot.unset).toArray = ls at hl ⊢
  have hl : lv_has ls 10 [(0, .ref (q 0)), (1, .int x1)] := hl
  unfold wX8_some at hw
  refine lv_aload_n hx hb dX8_some_0 rfl (lv_at hl 0 rfl) ?_
  refine lv_iconst (v := (0 : Int32)) hx hb dX8_some_1 (by decide) ?_
  refine va_put (D := D) (ci := 8) (ty := .int) (C := RX8) (T := TX8) (N := 57) hx hb htb inX8 tyX8 tyX8_ok nmX8 hown hK hP hD hS 0 (mw_0 c q σ) rfl 0 (by decide) (htb _ tb_1181) (fun _ h9 => h9) rfl (by decide +kernel) rfl rfl (Nat.le_of_ble_eq_true rfl) dX8_some_2 (fun H locs hP hD hS => ?_)
  have hP : va_P D vwCl (mw c q (hsI σ 0 (0 : Int32))) H := hP
  obtain ⟨σ1, eσ1⟩ : ∃ z : hsS, z = hsI σ 0 (0 : Int32) := ⟨_, rfl⟩
  rw [← eσ1] at hP
  have hD : va_D (wdA 31 q) (mw c q σ1) := mw_D hD0
  have hw := hw σ1 eσ1
  refine lv_iconst (v := (0 : Int32)) hx hb dX8_some_5 (by decide) ?_
  refine lv_istore_n (lv' := [(2, .int (0 : Int32)), (0, .ref (q 0)), (1, .int x1)]) hx hb dX8_some_6 rfl hl (by decide) rfl (fun ls hl => ?_)
  refine lv_aload_n hx hb dX8_some_7 rfl (lv_at hl 1 rfl) ?_
  refine va_get (D := D) (ci := 8) (C := RX8) (T := TX8) (N := 57) hx hb htb inX8 hown hK hP 0 (mw_0 c q σ1) rfl 2 (by decide) (htb _ tb_1183) (fun _ h9 => h9) rfl dX8_some_8 ?_
  refine lv_iconst (v := (0 : Int32)) hx hb dX8_some_11 (by decide) ?_
  refine va_iald hx hb hK hP 2 1 (mw_2 c q σ1) rfl (by unfold vp_in; decide) dX8_some_12 ?_
  refine lv_topi (fun v2 ev2 => ?_)
  have hw := hw v2 ev2
  refine lv_istore_n (lv' := [(3, .int v2), (2, .int (0 : Int32)), (0, .ref (q 0)), (1, .int x1)]) hx hb dX8_some_13 rfl hl (by decide) rfl (fun ls hl => ?_)
  refine lv_iconst (v := (0 : Int32)) hx hb dX8_some_14 (by decide) ?_
  refine lv_istore (lv' := [(4, .int (0 : Int32)), (3, .int v2), (2, .int (0 : Int32)), (0, .ref (q 0)), (1, .int x1)]) hx hb dX8_some_15 hl (by decide) rfl (fun ls hl => ?_)
  obtain ⟨n9, hw⟩ := hw
  refine L17 _ _ x1 v2 n9 (0 : Int32) (0 : Int32) σ1 _ _ _ hw ?_ ?_ hP hS (lv_sub hl [3, 4, 2, 1, 0] rfl)
  · intro v10 v11 σ12 H locs ls hw hP hS hl
    have hD : va_D (wdA 31 q) (mw c q σ12) := mw_D hD0
    refine lv_aload_n hx hb dX8_some_50 rfl (lv_at hl 0 rfl) ?_
    refine lv_iconst (v := (1 : Int32)) hx hb dX8_some_51 (by decide) ?_
    refine va_calli (va_runV (As := [.int (1 : Int32)]) (rest := []) ⟨hx, hb, hml, hown, htb⟩ (kcX8_fail l D c q ev hev σ12 (1 : Int32) _ hw) (tb_CW htb kX8_fail tb_1366 tb_1368 tb_42 ⟨Nat.le_of_ble_eq_true rfl, Nat.le_of_ble_eq_true rfl⟩) (wd_preV (wd := mw c q) (k := 0) hev hK hP hD hE hS (mw_0 c q σ12) rfl) rfl rfl hl.1 rfl (lv_room (Nat.le_of_ble_eq_true rfl)) dX8_some_52 ⟨Nat.zero_le _, Nat.zero_le _⟩) hS (fun q _ h => h) (fun q h => h) (fun r13 σ14 t H1 locs1 ht hvm hw hB hz1 hk1 hS => ?_)
    have hP : va_P D vwCl (mw c q σ14) H1 := ht ▸ hB
    have hD : va_D (wdA 31 q) (mw c q σ14) := mw_D hD0
    exact W.iret hx hb hr (fun t ht hW => ⟨⟨_, σ14, rfl, hw, by unfold wdB; rw [ht]; exact hP⟩, hS.F ht⟩) hS.2.2 dX8_some_55
  · intro v15 v16 σ17 H locs ls hw hP hS hl
    have hD : va_D (wdA 31 q) (mw c q σ17) := mw_D hD0
    refine lv_aload_n hx hb dX8_some_69 rfl (lv_at hl 0 rfl) ?_
    refine va_callv (va_runV (As := []) (rest := []) ⟨hx, hb, hml, hown, htb⟩ (kcX8_look l D c q ev hev σ17  _ hw) (tb_CW htb kX8_look tb_1500 tb_1502 tb_63 ⟨Nat.le_of_ble_eq_true rfl, Nat.le_of_ble_eq_true rfl⟩) (wd_preV (wd := mw c q) (k := 0) hev hK hP hD hE hS (mw_0 c q σ17) rfl) rfl rfl hl.1 rfl (lv_room (Nat.le_of_ble_eq_true rfl)) dX8_some_70 ⟨Nat.zero_le _, Nat.zero_le _⟩) hS (fun q _ h => h) (fun q h => h) (fun σ19 t H1 locs1 ht hvm hw hB hz1 hk1 hS => ?_)
    have hP : va_P D vwCl (mw c q σ19) H1 := ht ▸ hB
    have hD : va_D (wdA 31 q) (mw c q σ19) := mw_D hD0
    refine lv_iconst (v := (1 : Int32)) hx hb dX8_some_73 (by decide) ?_
    refine lv_aload_n hx hb dX8_some_74 rfl (lv_at hl 0 rfl) ?_
    refine va_get (D := D) (ci := 8) (C := RX8) (T := TX8) (N := 57) hx hb htb inX8 hown hK hP 0 (mw_0 c q σ19) rfl 25 (by decide) (htb _ tb_1206) (fun _ h9 => h9) rfl dX8_some_75 ?_
    refine lv_ishl hx hb dX8_some_78 ?_
    refine lv_iconst (v := (1 : Int32)) hx hb dX8_some_79 (by decide) ?_
    refine lv_isub hx hb dX8_some_80 ?_
    refine lv_topi (fun v20 ev20 => ?_)
    have hw := hw v20 ev20
    refine lv_istore (lv' := [(4, .int v20), (0, .ref (q 0)), (1, .int x1), (2, .int v15), (3, .int v2)]) hx hb dX8_some_81 hl (by decide) rfl (fun ls hl => ?_)
    refine lv_iconst (v := (0 : Int32)) hx hb dX8_some_83 (by decide) ?_
    refine lv_istore (lv' := [(5, .int (0 : Int32)), (4, .int v20), (0, .ref (q 0)), (1, .int x1), (2, .int v15), (3, .int v2)]) hx hb dX8_some_84 hl (by decide) rfl (fun ls hl => ?_)
    obtain ⟨n40, hw⟩ := hw
    refine L86 _ x1 v15 v2 n40 v20 (0 : Int32) σ19 _ _ _ hw ?_ hP hS (lv_sub hl [2, 3, 4, 5, 1, 0] rfl)
    intro v41 v42 σ43 H locs ls hw hP hS hl
    have hD : va_D (wdA 31 q) (mw c q σ43) := mw_D hD0
    refine lv_iload hx hb dX8_some_173 (lv_at hl 4 rfl) ?_
    exact W.iret hx hb hr (fun t ht hW => ⟨⟨_, σ43, rfl, hw, by unfold wdB; rw [ht]; exact hP⟩, hS.F ht⟩) hS.2.2 dX8_some_175
def wX8_plain  (post : Int32 → hsS → Prop) (σ : hsS) : Prop := ∀ σ1 : hsS, σ1 = hsI σ 0 (0 : Int32) → wX8_takeTurns  (fun σ3 => wX8_plainEnd (σ3.2.1 6 (0 : Int32).toNatClampNeg) (fun r4 σ5 => post r4 σ5) σ3) σ1
set_option maxHeartbeats 4000000 in
set_option maxRecDepth 100000 in
theorem kcX8_plain (l : Launch) (D : va_G) (c : Nat → ClassId) (q : Nat → Nat) (ev : State → Heap → Prop) (hev : evOK (wdA 31 q) ev) (σ : hsS)  (post : Int32 → hsS → Prop) (hw : wX8_plain  post σ) : Met l yX8_plain (Cond.code yX8_plain cX8_plain 1 (some .int) :: tb_L) { frames := 3, cells := 0, slots := 0, locals := 68 } (wdPc D (mw c q) (mwT c) (wdA 31 q) ev σ [.ref (q 0)]) (va_Qi post (wdB D (mw c q)) (wdA 31 q)) 0 0 (wdA 31 q) := by
  refine Met.ofW (cc := cX8_plain) (maxL := 1) (ret := (some .int)) (by decide) rfl ?_
  intro p e s m args below meth c₀ s₁ Bd hml hv
  obtain ⟨rfl, hP, hK, hD0, hE⟩ := hv
  have hx := Bd.exec
  have hb := Bd.bytes
  have hr := Bd.returns
  have hts := atoms_spec (ws := Cond.code yX8_plain cX8_plain 1 (some .int) :: tb_L) Bd.pre
  have htb : ∀ w ∈ tb_L, w.before [.ref (q 0)].toArray s = true := fun w h => hts w (List.mem_cons_of_mem _ h)
  have hown : s.vm.findClass RX8 = some m.cls := findClass_of_methodNamed Bd.named
  have hlocks := Bd.notSynchronized
  have hS : va_S (wdA 31 q) s.heap s.heap [] := va_S.rf
  have hD := hD0
  have hl := lv_entry ([.ref (q 0)]) (n := 1) (Nat.le_of_ble_eq_true rfl)
  rw [lg_entry_eq]
  generalize (lg_sl ([.ref (q 0)]) ++ List.replicate (1 - (lg_sl ([.ref (q 0)])).length) Slot.unset).toArray = ls at hl ⊢
  have hl : lv_has ls 1 [(0, .ref (q 0))] := hl
  unfold wX8_plain at hw
  refine lv_aload_n hx hb dX8_plain_0 rfl (lv_at hl 0 rfl) ?_
  refine lv_iconst (v := (0 : Int32)) hx hb dX8_plain_1 (by decide) ?_
  refine va_put (D := D) (ci := 8) (ty := .int) (C := RX8) (T := TX8) (N := 57) hx hb htb inX8 tyX8 tyX8_ok nmX8 hown hK hP hD hS 0 (mw_0 c q σ) rfl 0 (by decide) (htb _ tb_1181) (fun _ h9 => h9) rfl (by decide +kernel) rfl rfl (Nat.le_of_ble_eq_true rfl) dX8_plain_2 (fun H locs hP hD hS => ?_)
  have hP : va_P D vwCl (mw c q (hsI σ 0 (0 : Int32))) H := hP
  obtain ⟨σ1, eσ1⟩ : ∃ z : hsS, z = hsI σ 0 (0 : Int32) := ⟨_, rfl⟩
  rw [← eσ1] at hP
  have hD : va_D (wdA 31 q) (mw c q σ1) := mw_D hD0
  have hw := hw σ1 eσ1
  refine lv_aload_n hx hb dX8_plain_5 rfl (lv_at hl 0 rfl) ?_
  refine va_callv (va_runV (As := []) (rest := []) ⟨hx, hb, hml, hown, htb⟩ (kcX8_takeTurns l D c q ev hev σ1  _ hw) (tb_CW htb kX8_takeTurns tb_1571 tb_1573 tb_72 ⟨Nat.le_of_ble_eq_true rfl, Nat.le_of_ble_eq_true rfl⟩) (wd_preV (wd := mw c q) (k := 0) hev hK hP hD hE hS (mw_0 c q σ1) rfl) rfl rfl hl.1 rfl (lv_room (Nat.le_of_ble_eq_true rfl)) dX8_plain_6 ⟨Nat.zero_le _, Nat.zero_le _⟩) hS (fun q _ h => h) (fun q h => h) (fun σ3 t H1 locs1 ht hvm hw hB hz1 hk1 hS => ?_)
  have hP : va_P D vwCl (mw c q σ3) H1 := ht ▸ hB
  have hD : va_D (wdA 31 q) (mw c q σ3) := mw_D hD0
  refine lv_aload_n hx hb dX8_plain_9 rfl (lv_at hl 0 rfl) ?_
  refine lv_aload_n hx hb dX8_plain_10 rfl (lv_at hl 0 rfl) ?_
  refine va_get (D := D) (ci := 8) (C := RX8) (T := TX8) (N := 57) hx hb htb inX8 hown hK hP 0 (mw_0 c q σ3) rfl 6 (by decide) (htb _ tb_1187) (fun _ h9 => h9) rfl dX8_plain_11 ?_
  refine lv_iconst (v := (0 : Int32)) hx hb dX8_plain_14 (by decide) ?_
  refine va_iald hx hb hK hP 6 5 (mw_6 c q σ3) rfl (by unfold vp_in; decide) dX8_plain_15 ?_
  refine va_calli (va_runV (As := [.int (σ3.2.1 6 (0 : Int32).toNatClampNeg)]) (rest := []) ⟨hx, hb, hml, hown, htb⟩ (kcX8_plainEnd l D c q ev hev σ3 (σ3.2.1 6 (0 : Int32).toNatClampNeg) _ hw) (tb_CW htb kX8_plainEnd tb_1575 tb_1577 tb_73 ⟨Nat.le_of_ble_eq_true rfl, Nat.le_of_ble_eq_true rfl⟩) (wd_preV (wd := mw c q) (k := 0) hev hK hP hD hE hS (mw_0 c q σ3) rfl) rfl rfl hl.1 rfl (lv_room (Nat.le_of_ble_eq_true rfl)) dX8_plain_16 ⟨Nat.zero_le _, Nat.zero_le _⟩) hS (fun q _ h => h) (fun q h => h) (fun r4 σ5 t H1 locs1 ht hvm hw hB hz1 hk1 hS => ?_)
  have hP : va_P D vwCl (mw c q σ5) H1 := ht ▸ hB
  have hD : va_D (wdA 31 q) (mw c q σ5) := mw_D hD0
  exact W.iret hx hb hr (fun t ht hW => ⟨⟨_, σ5, rfl, hw, by unfold wdB; rw [ht]; exact hP⟩, hS.F ht⟩) hS.2.2 dX8_plain_19
def wX8_back_L18 (z1 : Int32) (K45 : Int32 → hsS → Prop) (post : Int32 → hsS → Prop) : Nat → Int32 → hsS → Prop
  | 0, _, _ => False
  | n + 1, y2, σ => ((z1 ≤ y2 → K45 y2 σ) ∧ (¬ z1 ≤ y2 → vp_in ((z1 - (1 : Int32)) - y2) 18 ∧ vp_in y2 9 ∧ ∀ σ6 : hsS, σ6 = hsA σ 16 (upd (σ.2.1 16) y2.toNatClampNeg (σ.2.1 10 ((z1 - (1 : Int32)) - y2).toNatClampNeg)) → ∀ v7 : Int32, v7 = y2 + (1 : Int32) → wX8_back_L18 z1 K45 post n v7 σ6))
def wX8_back  (post : Int32 → hsS → Prop) (σ : hsS) : Prop := ∀ σ1 : hsS, σ1 = hsI σ 0 (0 : Int32) → wX8_look  (fun σ3 => ∀ v4 : Int32, v4 = σ3.2.1 6 (0 : Int32).toNatClampNeg → ∃ n8, wX8_back_L18 v4 (fun v9 σ10 => wX8_plainEnd v4 (fun r11 σ12 => post r11 σ12) σ10) post n8 (0 : Int32) σ3) σ1
set_option maxHeartbeats 4000000 in
set_option maxRecDepth 100000 in
theorem kcX8_back (l : Launch) (D : va_G) (c : Nat → ClassId) (q : Nat → Nat) (ev : State → Heap → Prop) (hev : evOK (wdA 31 q) ev) (σ : hsS)  (post : Int32 → hsS → Prop) (hw : wX8_back  post σ) : Met l yX8_back (Cond.code yX8_back cX8_back 3 (some .int) :: tb_L) { frames := 2, cells := 0, slots := 0, locals := 48 } (wdPc D (mw c q) (mwT c) (wdA 31 q) ev σ [.ref (q 0)]) (va_Qi post (wdB D (mw c q)) (wdA 31 q)) 0 0 (wdA 31 q) := by
  refine Met.ofW (cc := cX8_back) (maxL := 3) (ret := (some .int)) (by decide) rfl ?_
  intro p e s m args below meth c₀ s₁ Bd hml hv
  obtain ⟨rfl, hP, hK, hD0, hE⟩ := hv
  have hx := Bd.exec
  have hb := Bd.bytes
  have hr := Bd.returns
  have hts := atoms_spec (ws := Cond.code yX8_back cX8_back 3 (some .int) :: tb_L) Bd.pre
  have htb : ∀ w ∈ tb_L, w.before [.ref (q 0)].toArray s = true := fun w h => hts w (List.mem_cons_of_mem _ h)
  have hown : s.vm.findClass RX8 = some m.cls := findClass_of_methodNamed Bd.named
  have hlocks := Bd.notSynchronized
  have hS : va_S (wdA 31 q) s.heap s.heap [] := va_S.rf
  have hD := hD0
  have L18 : ∀ (K45 : Int32 → hsS → Prop) (z1 : Int32) (n : Nat) (y2 : Int32) (σ : hsS) (H : Heap) (locs : List Loc) (ls : Array Slot), wX8_back_L18 z1 K45 post n y2 σ → (∀ (y2 : Int32) (σ : hsS) (H : Heap) (locs : List Loc) (ls : Array Slot), K45 y2 σ → va_P D vwCl (mw c q σ) H → va_S (wdA 31 q) s.heap H locs → lv_has ls 3 [(0, .ref (q 0)), (1, .int z1), (2, .int y2)] → W p l e (headSpec (Cond.code yX8_back cX8_back 3 (some .int) :: tb_L) { frames := 2, cells := 0, slots := 0, locals := 48 }).room s m [.ref (q 0)].toArray below meth c₀ H locs 0 0 (MQ below (va_Qi post (wdB D (mw c q)) (wdA 31 q)) [.ref (q 0)].toArray s 0 0 (wdA 31 q)) (F0 m 45 ls [])) → va_P D vwCl (mw c q σ) H → va_S (wdA 31 q) s.heap H locs → lv_has ls 3 [(0, .ref (q 0)), (1, .int z1), (2, .int y2)] → W p l e (headSpec (Cond.code yX8_back cX8_back 3 (some .int) :: tb_L) { frames := 2, cells := 0, slots := 0, locals := 48 }).room s m [.ref (q 0)].toArray below meth c₀ H locs 0 0 (MQ below (va_Qi post (wdB D (mw c q)) (wdA 31 q)) [.ref (q 0)].toArray s 0 0 (wdA 31 q)) (F0 m 18 ls []) := by
    intro K45 z1 n
    induction n with
    | zero =>
      intro y2 σ H locs ls hw hk45 hP hS hl
      exact (show False from hw).elim
    | succ n ih =>
      intro y2 σ H locs ls hw hk45 hP hS hl
      rw [wX8_back_L18] at hw
      have hD : va_D (wdA 31 q) (mw c q σ) := mw_D hD0
      refine lv_iload_n hx hb dX8_back_18 rfl (lv_at hl 2 rfl) ?_
      refine lv_iload_n hx hb dX8_back_19 rfl (lv_at hl 1 rfl) ?_
      refine lv_icmp_ge (tgt := 45) hx hb dX8_back_20 (by decide) (fun c5 => ?_) (fun c5 => ?_)
      · have hw := hw.1 c5
        exact hk45 y2 σ _ _ _ hw hP hS (lv_sub hl [0, 1, 2] rfl)
      · have hw := hw.2 c5
        refine lv_aload_n hx hb dX8_back_23 rfl (lv_at hl 0 rfl) ?_
        refine va_get (D := D) (ci := 8) (C := RX8) (T := TX8) (N := 57) hx hb htb inX8 hown hK hP 0 (mw_0 c q σ) rfl 31 (by decide) (htb _ tb_1212) (fun _ h9 => h9) rfl dX8_back_24 ?_
        refine lv_iload_n hx hb dX8_back_27 rfl (lv_at hl 2 rfl) ?_
        refine lv_aload_n hx hb dX8_back_28 rfl (lv_at hl 0 rfl) ?_
        refine va_get (D := D) (ci := 8) (C := RX8) (T := TX8) (N := 57) hx hb htb inX8 hown hK hP 0 (mw_0 c q σ) rfl 10 (by decide) (htb _ tb_1191) (fun _ h9 => h9) rfl dX8_back_29 ?_
        refine lv_iload_n hx hb dX8_back_32 rfl (lv_at hl 1 rfl) ?_
        refine lv_iconst (v := (1 : Int32)) hx hb dX8_back_33 (by decide) ?_
        refine lv_isub hx hb dX8_back_34 ?_
        refine lv_iload_n hx hb dX8_back_35 rfl (lv_at hl 2 rfl) ?_
        refine lv_isub hx hb dX8_back_36 ?_
        refine va_iald hx hb hK hP 10 9 (mw_10 c q σ) rfl hw.1 dX8_back_37 ?_
        have hw := hw.2
        refine va_iast hx hb hK hP hD hS 16 15 (mw_16 c q σ) rfl hw.1 dX8_back_38 (fun H locs hP hD hS => ?_)
        have hw := hw.2
        have hP : va_P D vwCl (mw c q (hsA σ 16 (upd (σ.2.1 16) y2.toNatClampNeg (σ.2.1 10 ((z1 - (1 : Int32)) - y2).toNatClampNeg)))) H := hP
        obtain ⟨σ6, eσ6⟩ : ∃ z : hsS, z = hsA σ 16 (upd (σ.2.1 16) y2.toNatClampNeg (σ.2.1 10 ((z1 - (1 : Int32)) - y2).toNatClampNeg)) := ⟨_, rfl⟩
        rw [← eσ6] at hP
        have hD : va_D (wdA 31 q) (mw c q σ6) := mw_D hD0
        have hw := hw σ6 eσ6
        obtain ⟨v7, ev7⟩ : ∃ z : Int32, z = y2 + (1 : Int32) := ⟨_, rfl⟩
        have hw := hw v7 ev7
        refine lv_iinc (v := v7) (lv' := [(2, .int v7), (0, .ref (q 0)), (1, .int z1)]) hx hb dX8_back_39 hl (k := 2) rfl (by rw [ev7]; rfl) (by decide) rfl (fun ls hl => ?_)
        refine lv_goto (tgt := 18) hx hb dX8_back_42 (by decide) ?_
        exact ih v7 σ6 _ _ _ hw hk45 hP hS (lv_sub hl [1, 2, 0] rfl)
  have hl := lv_entry ([.ref (q 0)]) (n := 3) (Nat.le_of_ble_eq_true rfl)
  rw [lg_entry_eq]
  generalize (lg_sl ([.ref (q 0)]) ++ List.replicate (3 - (lg_sl ([.ref (q 0)])).length) Slot.unset).toArray = ls at hl ⊢
  have hl : lv_has ls 3 [(0, .ref (q 0))] := hl
  unfold wX8_back at hw
  refine lv_aload_n hx hb dX8_back_0 rfl (lv_at hl 0 rfl) ?_
  refine lv_iconst (v := (0 : Int32)) hx hb dX8_back_1 (by decide) ?_
  refine va_put (D := D) (ci := 8) (ty := .int) (C := RX8) (T := TX8) (N := 57) hx hb htb inX8 tyX8 tyX8_ok nmX8 hown hK hP hD hS 0 (mw_0 c q σ) rfl 0 (by decide) (htb _ tb_1181) (fun _ h9 => h9) rfl (by decide +kernel) rfl rfl (Nat.le_of_ble_eq_true rfl) dX8_back_2 (fun H locs hP hD hS => ?_)
  have hP : va_P D vwCl (mw c q (hsI σ 0 (0 : Int32))) H := hP
  obtain ⟨σ1, eσ1⟩ : ∃ z : hsS, z = hsI σ 0 (0 : Int32) := ⟨_, rfl⟩
  rw [← eσ1] at hP
  have hD : va_D (wdA 31 q) (mw c q σ1) := mw_D hD0
  have hw := hw σ1 eσ1
  refine lv_aload_n hx hb dX8_back_5 rfl (lv_at hl 0 rfl) ?_
  refine va_callv (va_runV (As := []) (rest := []) ⟨hx, hb, hml, hown, htb⟩ (kcX8_look l D c q ev hev σ1  _ hw) (tb_CW htb kX8_look tb_1500 tb_1502 tb_63 ⟨Nat.le_of_ble_eq_true rfl, Nat.le_of_ble_eq_true rfl⟩) (wd_preV (wd := mw c q) (k := 0) hev hK hP hD hE hS (mw_0 c q σ1) rfl) rfl rfl hl.1 rfl (lv_room (Nat.le_of_ble_eq_true rfl)) dX8_back_6 ⟨Nat.zero_le _, Nat.zero_le _⟩) hS (fun q _ h => h) (fun q h => h) (fun σ3 t H1 locs1 ht hvm hw hB hz1 hk1 hS => ?_)
  have hP : va_P D vwCl (mw c q σ3) H1 := ht ▸ hB
  have hD : va_D (wdA 31 q) (mw c q σ3) := mw_D hD0
  refine lv_aload_n hx hb dX8_back_9 rfl (lv_at hl 0 rfl) ?_
  refine va_get (D := D) (ci := 8) (C := RX8) (T := TX8) (N := 57) hx hb htb inX8 hown hK hP 0 (mw_0 c q σ3) rfl 6 (by decide) (htb _ tb_1187) (fun _ h9 => h9) rfl dX8_back_10 ?_
  refine lv_iconst (v := (0 : Int32)) hx hb dX8_back_13 (by decide) ?_
  refine va_iald hx hb hK hP 6 5 (mw_6 c q σ3) rfl (by unfold vp_in; decide) dX8_back_14 ?_
  refine lv_topi (fun v4 ev4 => ?_)
  have hw := hw v4 ev4
  refine lv_istore_n (lv' := [(1, .int v4), (0, .ref (q 0))]) hx hb dX8_back_15 rfl hl (by decide) rfl (fun ls hl => ?_)
  refine lv_iconst (v := (0 : Int32)) hx hb dX8_back_16 (by decide) ?_
  refine lv_istore_n (lv' := [(2, .int (0 : Int32)), (1, .int v4), (0, .ref (q 0))]) hx hb dX8_back_17 rfl hl (by decide) rfl (fun ls hl => ?_)
  obtain ⟨n8, hw⟩ := hw
  refine L18 _ v4 n8 (0 : Int32) σ3 _ _ _ hw ?_ hP hS (lv_sub hl [2, 1, 0] rfl)
  intro v9 σ10 H locs ls hw hP hS hl
  have hD : va_D (wdA 31 q) (mw c q σ10) := mw_D hD0
  refine lv_aload_n hx hb dX8_back_45 rfl (lv_at hl 0 rfl) ?_
  refine lv_iload_n hx hb dX8_back_46 rfl (lv_at hl 1 rfl) ?_
  refine va_calli (va_runV (As := [.int v4]) (rest := []) ⟨hx, hb, hml, hown, htb⟩ (kcX8_plainEnd l D c q ev hev σ10 v4 _ hw) (tb_CW htb kX8_plainEnd tb_1575 tb_1577 tb_73 ⟨Nat.le_of_ble_eq_true rfl, Nat.le_of_ble_eq_true rfl⟩) (wd_preV (wd := mw c q) (k := 0) hev hK hP hD hE hS (mw_0 c q σ10) rfl) rfl rfl hl.1 rfl (lv_room (Nat.le_of_ble_eq_true rfl)) dX8_back_47 ⟨Nat.zero_le _, Nat.zero_le _⟩) hS (fun q _ h => h) (fun q h => h) (fun r11 σ12 t H1 locs1 ht hvm hw hB hz1 hk1 hS => ?_)
  have hP : va_P D vwCl (mw c q σ12) H1 := ht ▸ hB
  have hD : va_D (wdA 31 q) (mw c q σ12) := mw_D hD0
  exact W.iret hx hb hr (fun t ht hW => ⟨⟨_, σ12, rfl, hw, by unfold wdB; rw [ht]; exact hP⟩, hS.F ht⟩) hS.2.2 dX8_back_50
def wX8_go_L43 (z1 : Int32) (z2 : Int32) (K114 : Int32 → hsS → Prop) (post : hsS → Prop) (rec : Int32 → Int32 → (hsS → Prop) → hsS → Prop) : Nat → Int32 → hsS → Prop
  | 0, _, _ => False
  | n + 1, y3, σ => (((σ.2.1 2 (0 : Int32).toNatClampNeg) ≤ y3 → K114 y3 σ) ∧ (¬ (σ.2.1 2 (0 : Int32).toNatClampNeg) ≤ y3 → vp_in y3 8 ∧ (((σ.2.1 17 y3.toNatClampNeg) = (0 : Int32) → ∀ v7 : Int32, v7 = y3 + (1 : Int32) → wX8_go_L43 z1 z2 K114 post rec n v7 σ) ∧ (¬ (σ.2.1 17 y3.toNatClampNeg) = (0 : Int32) → vp_in y3 8 ∧ vp_in y3 8 ∧ ∀ σ8 : hsS, σ8 = hsA σ 17 (upd (σ.2.1 17) y3.toNatClampNeg ((σ.2.1 17 y3.toNatClampNeg) - (1 : Int32))) → wX8_plainly y3 z2 (fun r9 σ10 => rec (z1 + (1 : Int32)) (z2 &&& (((1 : Int32) <<< (r9 &&& 31)) ^^^ (-1 : Int32))) (fun σ12 => vp_in y3 8 ∧ vp_in y3 8 ∧ ∀ σ13 : hsS, σ13 = hsA σ12 17 (upd (σ12.2.1 17) y3.toNatClampNeg ((σ12.2.1 17 y3.toNatClampNeg) + (1 : Int32))) → ∀ v14 : Int32, v14 = y3 + (1 : Int32) → wX8_go_L43 z1 z2 K114 post rec n v14 σ13) σ10) σ8))))
def wX8_go : Nat → Int32 → Int32 → (hsS → Prop) → hsS → Prop
  | 0, _, _, _, _ => False
  | d + 1, x1, x2, post, σ => ((x1 = (σ.2.1 6 (0 : Int32).toNatClampNeg) → ∀ σ2 : hsS, σ2 = hsI σ 33 ((σ.1 33) ||| x2) → ∀ σ3 : hsS, σ3 = hsI σ2 34 ((σ2.1 34) &&& x2) → ∀ σ4 : hsS, σ4 = hsI σ3 35 ((σ3.1 35) + (1 : Int32)) → post σ4) ∧ (¬ x1 = (σ.2.1 6 (0 : Int32).toNatClampNeg) → ∃ n15, wX8_go_L43 x1 x2 (fun v16 σ17 => post σ17) post (wX8_go d) n15 (0 : Int32) σ))
def rmX8_go (d : Nat) : Room := { frames := d + 1, cells := 0, slots := 0, locals := d * 24 + 24 }
set_option maxHeartbeats 4000000 in
set_option maxRecDepth 100000 in
theorem kcX8_go (l : Launch) (D : va_G) (c : Nat → ClassId) (q : Nat → Nat) (ev : State → Heap → Prop) (hev : evOK (wdA 31 q) ev) : ∀ (d : Nat) (σ : hsS) (x1 : Int32) (x2 : Int32) (post : hsS → Prop), wX8_go d x1 x2 post σ → Met l yX8_go (Cond.code yX8_go cX8_go 5 none :: tb_L) (rmX8_go d) (wdPc D (mw c q) (mwT c) (wdA 31 q) ev σ [.ref (q 0), .int x1, .int x2]) (va_Qv post (wdB D (mw c q)) (wdA 31 q)) 0 0 (wdA 31 q) := by
  intro d
  induction d with
  | zero =>
    intro σ x1 x2 post hw
    exact (show False from hw).elim
  | succ d ihd =>
    intro σ x1 x2 post hw
    refine Met.ofW (cc := cX8_go) (maxL := 5) (ret := none) (by decide) rfl ?_
    intro p e s m args below meth c₀ s₁ Bd hml hv
    obtain ⟨rfl, hP, hK, hD0, hE⟩ := hv
    have hx := Bd.exec
    have hb := Bd.bytes
    have hr := Bd.returns
    have hts := atoms_spec (ws := Cond.code yX8_go cX8_go 5 none :: tb_L) Bd.pre
    have htb : ∀ w ∈ tb_L, w.before [.ref (q 0), .int x1, .int x2].toArray s = true := fun w h => hts w (List.mem_cons_of_mem _ h)
    have hown : s.vm.findClass RX8 = some m.cls := findClass_of_methodNamed Bd.named
    have hlocks := Bd.notSynchronized
    have hS : va_S (wdA 31 q) s.heap s.heap [] := va_S.rf
    have hD := hD0
    have L43 : ∀ (K114 : Int32 → hsS → Prop) (z1 : Int32) (z2 : Int32) (n : Nat) (y3 : Int32) (σ : hsS) (H : Heap) (locs : List Loc) (ls : Array Slot), wX8_go_L43 z1 z2 K114 post (wX8_go d) n y3 σ → (∀ (y3 : Int32) (σ : hsS) (H : Heap) (locs : List Loc) (ls : Array Slot), K114 y3 σ → va_P D vwCl (mw c q σ) H → va_S (wdA 31 q) s.heap H locs → lv_has ls 5 [(0, .ref (q 0)), (1, .int z1), (2, .int z2), (3, .int y3)] → W p l e (headSpec (Cond.code yX8_go cX8_go 5 none :: tb_L) (rmX8_go (d + 1))).room s m [.ref (q 0), .int x1, .int x2].toArray below meth c₀ H locs 0 0 (MQ below (va_Qv post (wdB D (mw c q)) (wdA 31 q)) [.ref (q 0), .int x1, .int x2].toArray s 0 0 (wdA 31 q)) (F0 m 114 ls [])) → va_P D vwCl (mw c q σ) H → va_S (wdA 31 q) s.heap H locs → lv_has ls 5 [(0, .ref (q 0)), (1, .int z1), (2, .int z2), (3, .int y3)] → W p l e (headSpec (Cond.code yX8_go cX8_go 5 none :: tb_L) (rmX8_go (d + 1))).room s m [.ref (q 0), .int x1, .int x2].toArray below meth c₀ H locs 0 0 (MQ below (va_Qv post (wdB D (mw c q)) (wdA 31 q)) [.ref (q 0), .int x1, .int x2].toArray s 0 0 (wdA 31 q)) (F0 m 43 ls []) := by
      intro K114 z1 z2 n
      induction n with
      | zero =>
        intro y3 σ H locs ls hw hk114 hP hS hl
        exact (show False from hw).elim
      | succ n ih =>
        intro y3 σ H locs ls hw hk114 hP hS hl
        rw [wX8_go_L43] at hw
        have hD : va_D (wdA 31 q) (mw c q σ) := mw_D hD0
        refine lv_iload_n hx hb dX8_go_43 rfl (lv_at hl 3 rfl) ?_
        refine lv_aload_n hx hb dX8_go_44 rfl (lv_at hl 0 rfl) ?_
        refine va_get (D := D) (ci := 8) (C := RX8) (T := TX8) (N := 57) hx hb htb inX8 hown hK hP 0 (mw_0 c q σ) rfl 2 (by decide) (htb _ tb_1183) (fun _ h9 => h9) rfl dX8_go_45 ?_
        refine lv_iconst (v := (0 : Int32)) hx hb dX8_go_48 (by decide) ?_
        refine va_iald hx hb hK hP 2 1 (mw_2 c q σ) rfl (by unfold vp_in; decide) dX8_go_49 ?_
        refine lv_icmp_ge (tgt := 114) hx hb dX8_go_50 (by decide) (fun c5 => ?_) (fun c5 => ?_)
        · have hw := hw.1 c5
          exact hk114 y3 σ _ _ _ hw hP hS (lv_sub hl [0, 1, 2, 3] rfl)
        · have hw := hw.2 c5
          refine lv_aload_n hx hb dX8_go_53 rfl (lv_at hl 0 rfl) ?_
          refine va_get (D := D) (ci := 8) (C := RX8) (T := TX8) (N := 57) hx hb htb inX8 hown hK hP 0 (mw_0 c q σ) rfl 32 (by decide) (htb _ tb_1213) (fun _ h9 => h9) rfl dX8_go_54 ?_
          refine lv_iload_n hx hb dX8_go_57 rfl (lv_at hl 3 rfl) ?_
          refine va_iald hx hb hK hP 17 16 (mw_17 c q σ) rfl hw.1 dX8_go_58 ?_
          have hw := hw.2
          refine lv_if_ne (tgt := 65) hx hb dX8_go_59 (by decide) (fun c6 => ?_) (fun c6 => ?_)
          · have hw := hw.2 c6
            refine lv_aload_n hx hb dX8_go_65 rfl (lv_at hl 0 rfl) ?_
            refine va_get (D := D) (ci := 8) (C := RX8) (T := TX8) (N := 57) hx hb htb inX8 hown hK hP 0 (mw_0 c q σ) rfl 32 (by decide) (htb _ tb_1213) (fun _ h9 => h9) rfl dX8_go_66 ?_
            refine lv_iload_n hx hb dX8_go_69 rfl (lv_at hl 3 rfl) ?_
            refine lv_dup2_11 hx hb dX8_go_70 rfl rfl ?_
            refine va_iald hx hb hK hP 17 16 (mw_17 c q σ) rfl hw.1 dX8_go_71 ?_
            have hw := hw.2
            refine lv_iconst (v := (1 : Int32)) hx hb dX8_go_72 (by decide) ?_
            refine lv_isub hx hb dX8_go_73 ?_
            refine va_iast hx hb hK hP hD hS 17 16 (mw_17 c q σ) rfl hw.1 dX8_go_74 (fun H locs hP hD hS => ?_)
            have hw := hw.2
            have hP : va_P D vwCl (mw c q (hsA σ 17 (upd (σ.2.1 17) y3.toNatClampNeg ((σ.2.1 17 y3.toNatClampNeg) - (1 : Int32))))) H := hP
            obtain ⟨σ8, eσ8⟩ : ∃ z : hsS, z = hsA σ 17 (upd (σ.2.1 17) y3.toNatClampNeg ((σ.2.1 17 y3.toNatClampNeg) - (1 : Int32))) := ⟨_, rfl⟩
            rw [← eσ8] at hP
            have hD : va_D (wdA 31 q) (mw c q σ8) := mw_D hD0
            have hw := hw σ8 eσ8
            refine lv_aload_n hx hb dX8_go_75 rfl (lv_at hl 0 rfl) ?_
            refine lv_iload_n hx hb dX8_go_76 rfl (lv_at hl 3 rfl) ?_
            refine lv_iload_n hx hb dX8_go_77 rfl (lv_at hl 2 rfl) ?_
            refine va_calli (va_runV (As := [.int y3, .int z2]) (rest := []) ⟨hx, hb, hml, hown, htb⟩ (kcX8_plainly l D c q ev hev σ8 y3 z2 _ hw) (tb_CW htb kX8_plainly tb_1563 tb_1565 tb_71 ⟨by show 0 + 1 ≤ (d + 1) + 1; omega, by show 8 + (5 + 11) + 0 ≤ (d + 1) * 24 + 24; omega⟩) (wd_preV (wd := mw c q) (k := 0) hev hK hP hD hE hS (mw_0 c q σ8) rfl) rfl rfl hl.1 rfl (lv_room (Nat.le_of_ble_eq_true rfl)) dX8_go_78 ⟨Nat.zero_le _, Nat.zero_le _⟩) hS (fun q _ h => h) (fun q h => h) (fun r9 σ10 t H1 locs1 ht hvm hw hB hz1 hk1 hS => ?_)
            have hP : va_P D vwCl (mw c q σ10) H1 := ht ▸ hB
            have hD : va_D (wdA 31 q) (mw c q σ10) := mw_D hD0
            refine lv_istore (lv' := [(4, .int r9), (0, .ref (q 0)), (1, .int z1), (2, .int z2), (3, .int y3)]) hx hb dX8_go_81 hl (by decide) rfl (fun ls hl => ?_)
            refine lv_aload_n hx hb dX8_go_83 rfl (lv_at hl 1 rfl) ?_
            refine lv_iload_n hx hb dX8_go_84 rfl (lv_at hl 2 rfl) ?_
            refine lv_iconst (v := (1 : Int32)) hx hb dX8_go_85 (by decide) ?_
            refine lv_iadd hx hb dX8_go_86 ?_
            refine lv_iload_n hx hb dX8_go_87 rfl (lv_at hl 3 rfl) ?_
            refine lv_iconst (v := (1 : Int32)) hx hb dX8_go_88 (by decide) ?_
            refine lv_iload hx hb dX8_go_89 (lv_at hl 0 rfl) ?_
            refine lv_ishl hx hb dX8_go_91 ?_
            refine lv_iconst (v := (-1 : Int32)) hx hb dX8_go_92 (by decide) ?_
            refine lv_ixor hx hb dX8_go_93 ?_
            refine lv_iand hx hb dX8_go_94 ?_
            refine va_callv (va_runV (As := [.int (z1 + (1 : Int32)), .int (z2 &&& (((1 : Int32) <<< (r9 &&& 31)) ^^^ (-1 : Int32)))]) (rest := []) ⟨hx, hb, hml, hown, htb⟩ (ihd σ10 (z1 + (1 : Int32)) (z2 &&& (((1 : Int32) <<< (r9 &&& 31)) ^^^ (-1 : Int32))) _ hw) (tb_CW htb kX8_go tb_1587 tb_1589 tb_74 ⟨by show (d + 1) + 1 ≤ (d + 1) + 1; omega, by show 8 + (5 + 11) + (d * 24 + 24) ≤ (d + 1) * 24 + 24; omega⟩) (wd_preV (wd := mw c q) (k := 0) hev hK hP hD hE hS (mw_0 c q σ10) rfl) rfl rfl hl.1 rfl (lv_room (Nat.le_of_ble_eq_true rfl)) dX8_go_95 ⟨Nat.zero_le _, Nat.zero_le _⟩) hS (fun q _ h => h) (fun q h => h) (fun σ12 t H1 locs1 ht hvm hw hB hz1 hk1 hS => ?_)
            have hP : va_P D vwCl (mw c q σ12) H1 := ht ▸ hB
            have hD : va_D (wdA 31 q) (mw c q σ12) := mw_D hD0
            refine lv_aload_n hx hb dX8_go_98 rfl (lv_at hl 1 rfl) ?_
            refine va_get (D := D) (ci := 8) (C := RX8) (T := TX8) (N := 57) hx hb htb inX8 hown hK hP 0 (mw_0 c q σ12) rfl 32 (by decide) (htb _ tb_1213) (fun _ h9 => h9) rfl dX8_go_99 ?_
            refine lv_iload_n hx hb dX8_go_102 rfl (lv_at hl 4 rfl) ?_
            refine lv_dup2_11 hx hb dX8_go_103 rfl rfl ?_
            refine va_iald hx hb hK hP 17 16 (mw_17 c q σ12) rfl hw.1 dX8_go_104 ?_
            have hw := hw.2
            refine lv_iconst (v := (1 : Int32)) hx hb dX8_go_105 (by decide) ?_
            refine lv_iadd hx hb dX8_go_106 ?_
            refine va_iast hx hb hK hP hD hS 17 16 (mw_17 c q σ12) rfl hw.1 dX8_go_107 (fun H locs hP hD hS => ?_)
            have hw := hw.2
            have hP : va_P D vwCl (mw c q (hsA σ12 17 (upd (σ12.2.1 17) y3.toNatClampNeg ((σ12.2.1 17 y3.toNatClampNeg) + (1 : Int32))))) H := hP
            obtain ⟨σ13, eσ13⟩ : ∃ z : hsS, z = hsA σ12 17 (upd (σ12.2.1 17) y3.toNatClampNeg ((σ12.2.1 17 y3.toNatClampNeg) + (1 : Int32))) := ⟨_, rfl⟩
            rw [← eσ13] at hP
            have hD : va_D (wdA 31 q) (mw c q σ13) := mw_D hD0
            have hw := hw σ13 eσ13
            obtain ⟨v14, ev14⟩ : ∃ z : Int32, z = y3 + (1 : Int32) := ⟨_, rfl⟩
            have hw := hw v14 ev14
            refine lv_iinc (v := v14) (lv' := [(3, .int v14), (4, .int r9), (0, .ref (q 0)), (1, .int z1), (2, .int z2)]) hx hb dX8_go_108 hl (k := 4) rfl (by rw [ev14]; rfl) (by decide) rfl (fun ls hl => ?_)
            refine lv_goto (tgt := 43) hx hb dX8_go_111 (by decide) ?_
            exact ih v14 σ13 _ _ _ hw hk114 hP hS (lv_sub hl [2, 3, 4, 0] rfl)
          · have hw := hw.1 c6
            refine lv_goto (tgt := 108) hx hb dX8_go_62 (by decide) ?_
            obtain ⟨v7, ev7⟩ : ∃ z : Int32, z = y3 + (1 : Int32) := ⟨_, rfl⟩
            have hw := hw v7 ev7
            refine lv_iinc (v := v7) (lv' := [(3, .int v7), (0, .ref (q 0)), (1, .int z1), (2, .int z2)]) hx hb dX8_go_108 hl (k := 3) rfl (by rw [ev7]; rfl) (by decide) rfl (fun ls hl => ?_)
            refine lv_goto (tgt := 43) hx hb dX8_go_111 (by decide) ?_
            exact ih v7 σ _ _ _ hw hk114 hP hS (lv_sub hl [1, 2, 3, 0] rfl)
    have hl := lv_entry ([.ref (q 0), .int x1, .int x2]) (n := 5) (Nat.le_of_ble_eq_true rfl)
    rw [lg_entry_eq]
    generalize (lg_sl ([.ref (q 0), .int x1, .int x2]) ++ List.replicate (5 - (lg_sl ([.ref (q 0), .int x1, .int x2])).length) Slot.unset).toArray = ls at hl ⊢
    have hl : lv_has ls 5 [(0, .ref (q 0)), (1, .int x1), (2, .int x2)] := hl
    rw [wX8_go] at hw
    refine lv_iload_n hx hb dX8_go_0 rfl (lv_at hl 1 rfl) ?_
    refine lv_aload_n hx hb dX8_go_1 rfl (lv_at hl 0 rfl) ?_
    refine va_get (D := D) (ci := 8) (C := RX8) (T := TX8) (N := 57) hx hb htb inX8 hown hK hP 0 (mw_0 c q σ) rfl 6 (by decide) (htb _ tb_1187) (fun _ h9 => h9) rfl dX8_go_2 ?_
    refine lv_iconst (v := (0 : Int32)) hx hb dX8_go_5 (by decide) ?_
    refine va_iald hx hb hK hP 6 5 (mw_6 c q σ) rfl (by unfold vp_in; decide) dX8_go_6 ?_
    refine lv_icmp_ne (tgt := 41) hx hb dX8_go_7 (by decide) (fun c1 => ?_) (fun c1 => ?_)
    · have hw := hw.2 c1
      refine lv_iconst (v := (0 : Int32)) hx hb dX8_go_41 (by decide) ?_
      refine lv_istore_n (lv' := [(3, .int (0 : Int32)), (0, .ref (q 0)), (1, .int x1), (2, .int x2)]) hx hb dX8_go_42 rfl hl (by decide) rfl (fun ls hl => ?_)
      obtain ⟨n15, hw⟩ := hw
      refine L43 _ x1 x2 n15 (0 : Int32) σ _ _ _ hw ?_ hP hS (lv_sub hl [1, 2, 3, 0] rfl)
      intro v16 σ17 H locs ls hw hP hS hl
      have hD : va_D (wdA 31 q) (mw c q σ17) := mw_D hD0
      exact W.vret hx hb hr (fun t ht hW => ⟨⟨σ17, rfl, hw, by unfold wdB; rw [ht]; exact hP⟩, hS.F ht⟩) hS.2.2 dX8_go_114
    · have hw := hw.1 c1
      refine lv_aload_n hx hb dX8_go_10 rfl (lv_at hl 0 rfl) ?_
      refine lv_dup hx hb dX8_go_11 rfl ?_
      refine va_get (D := D) (ci := 8) (C := RX8) (T := TX8) (N := 57) hx hb htb inX8 hown hK hP 0 (mw_0 c q σ) rfl 33 (by decide) (htb _ tb_1214) (fun _ h9 => h9) rfl dX8_go_12 ?_
      refine lv_iload_n hx hb dX8_go_15 rfl (lv_at hl 2 rfl) ?_
      refine lv_ior hx hb dX8_go_16 ?_
      refine va_put (D := D) (ci := 8) (ty := .int) (C := RX8) (T := TX8) (N := 57) hx hb htb inX8 tyX8 tyX8_ok nmX8 hown hK hP hD hS 0 (mw_0 c q σ) rfl 33 (by decide) (htb _ tb_1214) (fun _ h9 => h9) rfl (by decide +kernel) rfl rfl (Nat.le_of_ble_eq_true rfl) dX8_go_17 (fun H locs hP hD hS => ?_)
      have hP : va_P D vwCl (mw c q (hsI σ 33 ((σ.1 33) ||| x2))) H := hP
      obtain ⟨σ2, eσ2⟩ : ∃ z : hsS, z = hsI σ 33 ((σ.1 33) ||| x2) := ⟨_, rfl⟩
      rw [← eσ2] at hP
      have hD : va_D (wdA 31 q) (mw c q σ2) := mw_D hD0
      have hw := hw σ2 eσ2
      refine lv_aload_n hx hb dX8_go_20 rfl (lv_at hl 0 rfl) ?_
      refine lv_dup hx hb dX8_go_21 rfl ?_
      refine va_get (D := D) (ci := 8) (C := RX8) (T := TX8) (N := 57) hx hb htb inX8 hown hK hP 0 (mw_0 c q σ2) rfl 34 (by decide) (htb _ tb_1215) (fun _ h9 => h9) rfl dX8_go_22 ?_
      refine lv_iload_n hx hb dX8_go_25 rfl (lv_at hl 2 rfl) ?_
      refine lv_iand hx hb dX8_go_26 ?_
      refine va_put (D := D) (ci := 8) (ty := .int) (C := RX8) (T := TX8) (N := 57) hx hb htb inX8 tyX8 tyX8_ok nmX8 hown hK hP hD hS 0 (mw_0 c q σ2) rfl 34 (by decide) (htb _ tb_1215) (fun _ h9 => h9) rfl (by decide +kernel) rfl rfl (Nat.le_of_ble_eq_true rfl) dX8_go_27 (fun H locs hP hD hS => ?_)
      have hP : va_P D vwCl (mw c q (hsI σ2 34 ((σ2.1 34) &&& x2))) H := hP
      obtain ⟨σ3, eσ3⟩ : ∃ z : hsS, z = hsI σ2 34 ((σ2.1 34) &&& x2) := ⟨_, rfl⟩
      rw [← eσ3] at hP
      have hD : va_D (wdA 31 q) (mw c q σ3) := mw_D hD0
      have hw := hw σ3 eσ3
      refine lv_aload_n hx hb dX8_go_30 rfl (lv_at hl 0 rfl) ?_
      refine lv_dup hx hb dX8_go_31 rfl ?_
      refine va_get (D := D) (ci := 8) (C := RX8) (T := TX8) (N := 57) hx hb htb inX8 hown hK hP 0 (mw_0 c q σ3) rfl 35 (by decide) (htb _ tb_1216) (fun _ h9 => h9) rfl dX8_go_32 ?_
      refine lv_iconst (v := (1 : Int32)) hx hb dX8_go_35 (by decide) ?_
      refine lv_iadd hx hb dX8_go_36 ?_
      refine va_put (D := D) (ci := 8) (ty := .int) (C := RX8) (T := TX8) (N := 57) hx hb htb inX8 tyX8 tyX8_ok nmX8 hown hK hP hD hS 0 (mw_0 c q σ3) rfl 35 (by decide) (htb _ tb_1216) (fun _ h9 => h9) rfl (by decide +kernel) rfl rfl (Nat.le_of_ble_eq_true rfl) dX8_go_37 (fun H locs hP hD hS => ?_)
      have hP : va_P D vwCl (mw c q (hsI σ3 35 ((σ3.1 35) + (1 : Int32)))) H := hP
      obtain ⟨σ4, eσ4⟩ : ∃ z : hsS, z = hsI σ3 35 ((σ3.1 35) + (1 : Int32)) := ⟨_, rfl⟩
      rw [← eσ4] at hP
      have hD : va_D (wdA 31 q) (mw c q σ4) := mw_D hD0
      have hw := hw σ4 eσ4
      exact W.vret hx hb hr (fun t ht hW => ⟨⟨σ4, rfl, hw, by unfold wdB; rw [ht]; exact hP⟩, hS.F ht⟩) hS.2.2 dX8_go_40
def wX8_rows_L45 (z1 : Int32) (K64 : Int32 → hsS → Prop) (post : Int32 → hsS → Prop) : Nat → Int32 → hsS → Prop
  | 0, _, _ => False
  | n + 1, y2, σ => (((8 : Int32) ≤ y2 → K64 y2 σ) ∧ (¬ (8 : Int32) ≤ y2 → vp_in y2 8 ∧ ∀ σ13 : hsS, σ13 = hsA σ 17 (upd (σ.2.1 17) y2.toNatClampNeg (0 : Int32)) → ∀ v14 : Int32, v14 = y2 + (1 : Int32) → wX8_rows_L45 z1 K64 post n v14 σ13))
def wX8_rows_L66 (z1 : Int32) (K97 : Int32 → hsS → Prop) (post : Int32 → hsS → Prop) : Nat → Int32 → hsS → Prop
  | 0, _, _ => False
  | n + 1, y2, σ => (((σ.2.1 6 (0 : Int32).toNatClampNeg) ≤ y2 → K97 y2 σ) ∧ (¬ (σ.2.1 6 (0 : Int32).toNatClampNeg) ≤ y2 → vp_in y2 18 ∧ vp_in (σ.2.1 10 y2.toNatClampNeg) 8 ∧ vp_in (σ.2.1 10 y2.toNatClampNeg) 8 ∧ ∀ σ19 : hsS, σ19 = hsA σ 17 (upd (σ.2.1 17) (σ.2.1 10 y2.toNatClampNeg).toNatClampNeg ((σ.2.1 17 (σ.2.1 10 y2.toNatClampNeg).toNatClampNeg) + (1 : Int32))) → ∀ v20 : Int32, v20 = y2 + (1 : Int32) → wX8_rows_L66 z1 K97 post n v20 σ19))
def wX8_rows (x1 : Int32) (post : Int32 → hsS → Prop) (σ : hsS) : Prop := ∀ σ1 : hsS, σ1 = hsI σ 0 (0 : Int32) → ((x1 < (0 : Int32) → wX8_fail (1 : Int32) (fun r3 σ4 => post r3 σ4) σ1) ∧ (¬ x1 < (0 : Int32) → ((x1 ≤ (2 : Int32) → (((σ1.1 36) = (σ1.1 12) → ((x1 = (0 : Int32) → post (σ1.1 33) σ1) ∧ (¬ x1 = (0 : Int32) → ((x1 = (1 : Int32) → post (σ1.1 34) σ1) ∧ (¬ x1 = (1 : Int32) → post (σ1.1 35) σ1))))) ∧ (¬ (σ1.1 36) = (σ1.1 12) → ∀ σ9 : hsS, σ9 = hsI σ1 36 (σ1.1 12) → wX8_look  (fun σ11 => ∃ n15, wX8_rows_L45 x1 (fun v16 σ17 => ∃ n21, wX8_rows_L66 x1 (fun v22 σ23 => ∀ σ24 : hsS, σ24 = hsI σ23 33 (0 : Int32) → ∀ σ25 : hsS, σ25 = hsI σ24 34 (((1 : Int32) <<< ((σ24.1 25) &&& 31)) - (1 : Int32)) → ∀ σ26 : hsS, σ26 = hsI σ25 35 (0 : Int32) → wX8_go 12 (0 : Int32) (σ26.1 34) (fun σ28 => ((x1 = (0 : Int32) → post (σ28.1 33) σ28) ∧ (¬ x1 = (0 : Int32) → ((x1 = (1 : Int32) → post (σ28.1 34) σ28) ∧ (¬ x1 = (1 : Int32) → post (σ28.1 35) σ28))))) σ26) post n21 (0 : Int32) σ17) post n15 (0 : Int32) σ11) σ9))) ∧ (¬ x1 ≤ (2 : Int32) → wX8_fail (1 : Int32) (fun r31 σ32 => post r31 σ32) σ1))))
set_option maxHeartbeats 4000000 in
set_option maxRecDepth 100000 in
theorem kcX8_rows (l : Launch) (D : va_G) (c : Nat → ClassId) (q : Nat → Nat) (ev : State → Heap → Prop) (hev : evOK (wdA 31 q) ev) (σ : hsS) (x1 : Int32) (post : Int32 → hsS → Prop) (hw : wX8_rows x1 post σ) : Met l yX8_rows (Cond.code yX8_rows cX8_rows 3 (some .int) :: tb_L) { frames := 14, cells := 0, slots := 0, locals := 336 } (wdPc D (mw c q) (mwT c) (wdA 31 q) ev σ [.ref (q 0), .int x1]) (va_Qi post (wdB D (mw c q)) (wdA 31 q)) 0 0 (wdA 31 q) := by
  refine Met.ofW (cc := cX8_rows) (maxL := 3) (ret := (some .int)) (by decide) rfl ?_
  intro p e s m args below meth c₀ s₁ Bd hml hv
  obtain ⟨rfl, hP, hK, hD0, hE⟩ := hv
  have hx := Bd.exec
  have hb := Bd.bytes
  have hr := Bd.returns
  have hts := atoms_spec (ws := Cond.code yX8_rows cX8_rows 3 (some .int) :: tb_L) Bd.pre
  have htb : ∀ w ∈ tb_L, w.before [.ref (q 0), .int x1].toArray s = true := fun w h => hts w (List.mem_cons_of_mem _ h)
  have hown : s.vm.findClass RX8 = some m.cls := findClass_of_methodNamed Bd.named
  have hlocks := Bd.notSynchronized
  have hS : va_S (wdA 31 q) s.heap s.heap [] := va_S.rf
  have hD := hD0
  have L45 : ∀ (K64 : Int32 → hsS → Prop) (z1 : Int32) (n : Nat) (y2 : Int32) (σ : hsS) (H : Heap) (locs : List Loc) (ls : Array Slot), wX8_rows_L45 z1 K64 post n y2 σ → (∀ (y2 : Int32) (σ : hsS) (H : Heap) (locs : List Loc) (ls : Array Slot), K64 y2 σ → va_P D vwCl (mw c q σ) H → va_S (wdA 31 q) s.heap H locs → lv_has ls 3 [(0, .ref (q 0)), (1, .int z1), (2, .int y2)] → W p l e (headSpec (Cond.code yX8_rows cX8_rows 3 (some .int) :: tb_L) { frames := 14, cells := 0, slots := 0, locals := 336 }).room s m [.ref (q 0), .int x1].toArray below meth c₀ H locs 0 0 (MQ below (va_Qi post (wdB D (mw c q)) (wdA 31 q)) [.ref (q 0), .int x1].toArray s 0 0 (wdA 31 q)) (F0 m 64 ls [])) → va_P D vwCl (mw c q σ) H → va_S (wdA 31 q) s.heap H locs → lv_has ls 3 [(0, .ref (q 0)), (1, .int z1), (2, .int y2)] → W p l e (headSpec (Cond.code yX8_rows cX8_rows 3 (some .int) :: tb_L) { frames := 14, cells := 0, slots := 0, locals := 336 }).room s m [.ref (q 0), .int x1].toArray below meth c₀ H locs 0 0 (MQ below (va_Qi post (wdB D (mw c q)) (wdA 31 q)) [.ref (q 0), .int x1].toArray s 0 0 (wdA 31 q)) (F0 m 45 ls []) := by
    intro K64 z1 n
    induction n with
    | zero =>
      intro y2 σ H locs ls hw hk64 hP hS hl
      exact (show False from hw).elim
    | succ n ih =>
      intro y2 σ H locs ls hw hk64 hP hS hl
      rw [wX8_rows_L45] at hw
      have hD : va_D (wdA 31 q) (mw c q σ) := mw_D hD0
      refine lv_iload_n hx hb dX8_rows_45 rfl (lv_at hl 2 rfl) ?_
      refine lv_bipush (v := (8 : Int32)) hx hb dX8_rows_46 (by decide) ?_
      refine lv_icmp_ge (tgt := 64) hx hb dX8_rows_48 (by decide) (fun c12 => ?_) (fun c12 => ?_)
      · have hw := hw.1 c12
        exact hk64 y2 σ _ _ _ hw hP hS (lv_sub hl [0, 1, 2] rfl)
      · have hw := hw.2 c12
        refine lv_aload_n hx hb dX8_rows_51 rfl (lv_at hl 0 rfl) ?_
        refine va_get (D := D) (ci := 8) (C := RX8) (T := TX8) (N := 57) hx hb htb inX8 hown hK hP 0 (mw_0 c q σ) rfl 32 (by decide) (htb _ tb_1213) (fun _ h9 => h9) rfl dX8_rows_52 ?_
        refine lv_iload_n hx hb dX8_rows_55 rfl (lv_at hl 2 rfl) ?_
        refine lv_iconst (v := (0 : Int32)) hx hb dX8_rows_56 (by decide) ?_
        refine va_iast hx hb hK hP hD hS 17 16 (mw_17 c q σ) rfl hw.1 dX8_rows_57 (fun H locs hP hD hS => ?_)
        have hw := hw.2
        have hP : va_P D vwCl (mw c q (hsA σ 17 (upd (σ.2.1 17) y2.toNatClampNeg (0 : Int32)))) H := hP
        obtain ⟨σ13, eσ13⟩ : ∃ z : hsS, z = hsA σ 17 (upd (σ.2.1 17) y2.toNatClampNeg (0 : Int32)) := ⟨_, rfl⟩
        rw [← eσ13] at hP
        have hD : va_D (wdA 31 q) (mw c q σ13) := mw_D hD0
        have hw := hw σ13 eσ13
        obtain ⟨v14, ev14⟩ : ∃ z : Int32, z = y2 + (1 : Int32) := ⟨_, rfl⟩
        have hw := hw v14 ev14
        refine lv_iinc (v := v14) (lv' := [(2, .int v14), (0, .ref (q 0)), (1, .int z1)]) hx hb dX8_rows_58 hl (k := 2) rfl (by rw [ev14]; rfl) (by decide) rfl (fun ls hl => ?_)
        refine lv_goto (tgt := 45) hx hb dX8_rows_61 (by decide) ?_
        exact ih v14 σ13 _ _ _ hw hk64 hP hS (lv_sub hl [1, 2, 0] rfl)
  have L66 : ∀ (K97 : Int32 → hsS → Prop) (z1 : Int32) (n : Nat) (y2 : Int32) (σ : hsS) (H : Heap) (locs : List Loc) (ls : Array Slot), wX8_rows_L66 z1 K97 post n y2 σ → (∀ (y2 : Int32) (σ : hsS) (H : Heap) (locs : List Loc) (ls : Array Slot), K97 y2 σ → va_P D vwCl (mw c q σ) H → va_S (wdA 31 q) s.heap H locs → lv_has ls 3 [(0, .ref (q 0)), (1, .int z1), (2, .int y2)] → W p l e (headSpec (Cond.code yX8_rows cX8_rows 3 (some .int) :: tb_L) { frames := 14, cells := 0, slots := 0, locals := 336 }).room s m [.ref (q 0), .int x1].toArray below meth c₀ H locs 0 0 (MQ below (va_Qi post (wdB D (mw c q)) (wdA 31 q)) [.ref (q 0), .int x1].toArray s 0 0 (wdA 31 q)) (F0 m 97 ls [])) → va_P D vwCl (mw c q σ) H → va_S (wdA 31 q) s.heap H locs → lv_has ls 3 [(0, .ref (q 0)), (1, .int z1), (2, .int y2)] → W p l e (headSpec (Cond.code yX8_rows cX8_rows 3 (some .int) :: tb_L) { frames := 14, cells := 0, slots := 0, locals := 336 }).room s m [.ref (q 0), .int x1].toArray below meth c₀ H locs 0 0 (MQ below (va_Qi post (wdB D (mw c q)) (wdA 31 q)) [.ref (q 0), .int x1].toArray s 0 0 (wdA 31 q)) (F0 m 66 ls []) := by
    intro K97 z1 n
    induction n with
    | zero =>
      intro y2 σ H locs ls hw hk97 hP hS hl
      exact (show False from hw).elim
    | succ n ih =>
      intro y2 σ H locs ls hw hk97 hP hS hl
      rw [wX8_rows_L66] at hw
      have hD : va_D (wdA 31 q) (mw c q σ) := mw_D hD0
      refine lv_iload_n hx hb dX8_rows_66 rfl (lv_at hl 2 rfl) ?_
      refine lv_aload_n hx hb dX8_rows_67 rfl (lv_at hl 0 rfl) ?_
      refine va_get (D := D) (ci := 8) (C := RX8) (T := TX8) (N := 57) hx hb htb inX8 hown hK hP 0 (mw_0 c q σ) rfl 6 (by decide) (htb _ tb_1187) (fun _ h9 => h9) rfl dX8_rows_68 ?_
      refine lv_iconst (v := (0 : Int32)) hx hb dX8_rows_71 (by decide) ?_
      refine va_iald hx hb hK hP 6 5 (mw_6 c q σ) rfl (by unfold vp_in; decide) dX8_rows_72 ?_
      refine lv_icmp_ge (tgt := 97) hx hb dX8_rows_73 (by decide) (fun c18 => ?_) (fun c18 => ?_)
      · have hw := hw.1 c18
        exact hk97 y2 σ _ _ _ hw hP hS (lv_sub hl [0, 1, 2] rfl)
      · have hw := hw.2 c18
        refine lv_aload_n hx hb dX8_rows_76 rfl (lv_at hl 0 rfl) ?_
        refine va_get (D := D) (ci := 8) (C := RX8) (T := TX8) (N := 57) hx hb htb inX8 hown hK hP 0 (mw_0 c q σ) rfl 32 (by decide) (htb _ tb_1213) (fun _ h9 => h9) rfl dX8_rows_77 ?_
        refine lv_aload_n hx hb dX8_rows_80 rfl (lv_at hl 0 rfl) ?_
        refine va_get (D := D) (ci := 8) (C := RX8) (T := TX8) (N := 57) hx hb htb inX8 hown hK hP 0 (mw_0 c q σ) rfl 10 (by decide) (htb _ tb_1191) (fun _ h9 => h9) rfl dX8_rows_81 ?_
        refine lv_iload_n hx hb dX8_rows_84 rfl (lv_at hl 2 rfl) ?_
        refine va_iald hx hb hK hP 10 9 (mw_10 c q σ) rfl hw.1 dX8_rows_85 ?_
        have hw := hw.2
        refine lv_dup2_11 hx hb dX8_rows_86 rfl rfl ?_
        refine va_iald hx hb hK hP 17 16 (mw_17 c q σ) rfl hw.1 dX8_rows_87 ?_
        have hw := hw.2
        refine lv_iconst (v := (1 : Int32)) hx hb dX8_rows_88 (by decide) ?_
        refine lv_iadd hx hb dX8_rows_89 ?_
        refine va_iast hx hb hK hP hD hS 17 16 (mw_17 c q σ) rfl hw.1 dX8_rows_90 (fun H locs hP hD hS => ?_)
        have hw := hw.2
        have hP : va_P D vwCl (mw c q (hsA σ 17 (upd (σ.2.1 17) (σ.2.1 10 y2.toNatClampNeg).toNatClampNeg ((σ.2.1 17 (σ.2.1 10 y2.toNatClampNeg).toNatClampNeg) + (1 : Int32))))) H := hP
        obtain ⟨σ19, eσ19⟩ : ∃ z : hsS, z = hsA σ 17 (upd (σ.2.1 17) (σ.2.1 10 y2.toNatClampNeg).toNatClampNeg ((σ.2.1 17 (σ.2.1 10 y2.toNatClampNeg).toNatClampNeg) + (1 : Int32))) := ⟨_, rfl⟩
        rw [← eσ19] at hP
        have hD : va_D (wdA 31 q) (mw c q σ19) := mw_D hD0
        have hw := hw σ19 eσ19
        obtain ⟨v20, ev20⟩ : ∃ z : Int32, z = y2 + (1 : Int32) := ⟨_, rfl⟩
        have hw := hw v20 ev20
        refine lv_iinc (v := v20) (lv' := [(2, .int v20), (0, .ref (q 0)), (1, .int z1)]) hx hb dX8_rows_91 hl (k := 2) rfl (by rw [ev20]; rfl) (by decide) rfl (fun ls hl => ?_)
        refine lv_goto (tgt := 66) hx hb dX8_rows_94 (by decide) ?_
        exact ih v20 σ19 _ _ _ hw hk97 hP hS (lv_sub hl [1, 2, 0] rfl)
  have hl := lv_entry ([.ref (q 0), .int x1]) (n := 3) (Nat.le_of_ble_eq_true rfl)
  rw [lg_entry_eq]
  generalize (lg_sl ([.ref (q 0), .int x1]) ++ List.replicate (3 - (lg_sl ([.ref (q 0), .int x1])).length) Slot.unset).toArray = ls at hl ⊢
  have hl : lv_has ls 3 [(0, .ref (q 0)), (1, .int x1)] := hl
  unfold wX8_rows at hw
  refine lv_aload_n hx hb dX8_rows_0 rfl (lv_at hl 0 rfl) ?_
  refine lv_iconst (v := (0 : Int32)) hx hb dX8_rows_1 (by decide) ?_
  refine va_put (D := D) (ci := 8) (ty := .int) (C := RX8) (T := TX8) (N := 57) hx hb htb inX8 tyX8 tyX8_ok nmX8 hown hK hP hD hS 0 (mw_0 c q σ) rfl 0 (by decide) (htb _ tb_1181) (fun _ h9 => h9) rfl (by decide +kernel) rfl rfl (Nat.le_of_ble_eq_true rfl) dX8_rows_2 (fun H locs hP hD hS => ?_)
  have hP : va_P D vwCl (mw c q (hsI σ 0 (0 : Int32))) H := hP
  obtain ⟨σ1, eσ1⟩ : ∃ z : hsS, z = hsI σ 0 (0 : Int32) := ⟨_, rfl⟩
  rw [← eσ1] at hP
  have hD : va_D (wdA 31 q) (mw c q σ1) := mw_D hD0
  have hw := hw σ1 eσ1
  refine lv_iload_n hx hb dX8_rows_5 rfl (lv_at hl 1 rfl) ?_
  refine lv_if_lt (tgt := 14) hx hb dX8_rows_6 (by decide) (fun c2 => ?_) (fun c2 => ?_)
  · have hw := hw.1 c2
    refine lv_aload_n hx hb dX8_rows_14 rfl (lv_at hl 0 rfl) ?_
    refine lv_iconst (v := (1 : Int32)) hx hb dX8_rows_15 (by decide) ?_
    refine va_calli (va_runV (As := [.int (1 : Int32)]) (rest := []) ⟨hx, hb, hml, hown, htb⟩ (kcX8_fail l D c q ev hev σ1 (1 : Int32) _ hw) (tb_CW htb kX8_fail tb_1366 tb_1368 tb_42 ⟨Nat.le_of_ble_eq_true rfl, Nat.le_of_ble_eq_true rfl⟩) (wd_preV (wd := mw c q) (k := 0) hev hK hP hD hE hS (mw_0 c q σ1) rfl) rfl rfl hl.1 rfl (lv_room (Nat.le_of_ble_eq_true rfl)) dX8_rows_16 ⟨Nat.zero_le _, Nat.zero_le _⟩) hS (fun q _ h => h) (fun q h => h) (fun r3 σ4 t H1 locs1 ht hvm hw hB hz1 hk1 hS => ?_)
    have hP : va_P D vwCl (mw c q σ4) H1 := ht ▸ hB
    have hD : va_D (wdA 31 q) (mw c q σ4) := mw_D hD0
    exact W.iret hx hb hr (fun t ht hW => ⟨⟨_, σ4, rfl, hw, by unfold wdB; rw [ht]; exact hP⟩, hS.F ht⟩) hS.2.2 dX8_rows_19
  · have hw := hw.2 c2
    refine lv_iload_n hx hb dX8_rows_9 rfl (lv_at hl 1 rfl) ?_
    refine lv_iconst (v := (2 : Int32)) hx hb dX8_rows_10 (by decide) ?_
    refine lv_icmp_le (tgt := 20) hx hb dX8_rows_11 (by decide) (fun c5 => ?_) (fun c5 => ?_)
    · have hw := hw.1 c5
      refine lv_aload_n hx hb dX8_rows_20 rfl (lv_at hl 0 rfl) ?_
      refine va_get (D := D) (ci := 8) (C := RX8) (T := TX8) (N := 57) hx hb htb inX8 hown hK hP 0 (mw_0 c q σ1) rfl 36 (by decide) (htb _ tb_1217) (fun _ h9 => h9) rfl dX8_rows_21 ?_
      refine lv_aload_n hx hb dX8_rows_24 rfl (lv_at hl 0 rfl) ?_
      refine va_get (D := D) (ci := 8) (C := RX8) (T := TX8) (N := 57) hx hb htb inX8 hown hK hP 0 (mw_0 c q σ1) rfl 12 (by decide) (htb _ tb_1193) (fun _ h9 => h9) rfl dX8_rows_25 ?_
      refine lv_icmp_eq (tgt := 128) hx hb dX8_rows_28 (by decide) (fun c6 => ?_) (fun c6 => ?_)
      · have hw := hw.1 c6
        refine lv_iload_n hx hb dX8_rows_128 rfl (lv_at hl 1 rfl) ?_
        refine lv_if_ne (tgt := 139) hx hb dX8_rows_129 (by decide) (fun c7 => ?_) (fun c7 => ?_)
        · have hw := hw.2 c7
          refine lv_iload_n hx hb dX8_rows_139 rfl (lv_at hl 1 rfl) ?_
          refine lv_iconst (v := (1 : Int32)) hx hb dX8_rows_140 (by decide) ?_
          refine lv_icmp_ne (tgt := 151) hx hb dX8_rows_141 (by decide) (fun c8 => ?_) (fun c8 => ?_)
          · have hw := hw.2 c8
            refine lv_aload_n hx hb dX8_rows_151 rfl (lv_at hl 0 rfl) ?_
            refine va_get (D := D) (ci := 8) (C := RX8) (T := TX8) (N := 57) hx hb htb inX8 hown hK hP 0 (mw_0 c q σ1) rfl 35 (by decide) (htb _ tb_1216) (fun _ h9 => h9) rfl dX8_rows_152 ?_
            exact W.iret hx hb hr (fun t ht hW => ⟨⟨_, σ1, rfl, hw, by unfold wdB; rw [ht]; exact hP⟩, hS.F ht⟩) hS.2.2 dX8_rows_155
          · have hw := hw.1 c8
            refine lv_aload_n hx hb dX8_rows_144 rfl (lv_at hl 0 rfl) ?_
            refine va_get (D := D) (ci := 8) (C := RX8) (T := TX8) (N := 57) hx hb htb inX8 hown hK hP 0 (mw_0 c q σ1) rfl 34 (by decide) (htb _ tb_1215) (fun _ h9 => h9) rfl dX8_rows_145 ?_
            refine lv_goto (tgt := 155) hx hb dX8_rows_148 (by decide) ?_
            exact W.iret hx hb hr (fun t ht hW => ⟨⟨_, σ1, rfl, hw, by unfold wdB; rw [ht]; exact hP⟩, hS.F ht⟩) hS.2.2 dX8_rows_155
        · have hw := hw.1 c7
          refine lv_aload_n hx hb dX8_rows_132 rfl (lv_at hl 0 rfl) ?_
          refine va_get (D := D) (ci := 8) (C := RX8) (T := TX8) (N := 57) hx hb htb inX8 hown hK hP 0 (mw_0 c q σ1) rfl 33 (by decide) (htb _ tb_1214) (fun _ h9 => h9) rfl dX8_rows_133 ?_
          refine lv_goto (tgt := 155) hx hb dX8_rows_136 (by decide) ?_
          exact W.iret hx hb hr (fun t ht hW => ⟨⟨_, σ1, rfl, hw, by unfold wdB; rw [ht]; exact hP⟩, hS.F ht⟩) hS.2.2 dX8_rows_155
      · have hw := hw.2 c6
        refine lv_aload_n hx hb dX8_rows_31 rfl (lv_at hl 0 rfl) ?_
        refine lv_aload_n hx hb dX8_rows_32 rfl (lv_at hl 0 rfl) ?_
        refine va_get (D := D) (ci := 8) (C := RX8) (T := TX8) (N := 57) hx hb htb inX8 hown hK hP 0 (mw_0 c q σ1) rfl 12 (by decide) (htb _ tb_1193) (fun _ h9 => h9) rfl dX8_rows_33 ?_
        refine va_put (D := D) (ci := 8) (ty := .int) (C := RX8) (T := TX8) (N := 57) hx hb htb inX8 tyX8 tyX8_ok nmX8 hown hK hP hD hS 0 (mw_0 c q σ1) rfl 36 (by decide) (htb _ tb_1217) (fun _ h9 => h9) rfl (by decide +kernel) rfl rfl (Nat.le_of_ble_eq_true rfl) dX8_rows_36 (fun H locs hP hD hS => ?_)
        have hP : va_P D vwCl (mw c q (hsI σ1 36 (σ1.1 12))) H := hP
        obtain ⟨σ9, eσ9⟩ : ∃ z : hsS, z = hsI σ1 36 (σ1.1 12) := ⟨_, rfl⟩
        rw [← eσ9] at hP
        have hD : va_D (wdA 31 q) (mw c q σ9) := mw_D hD0
        have hw := hw σ9 eσ9
        refine lv_aload_n hx hb dX8_rows_39 rfl (lv_at hl 0 rfl) ?_
        refine va_callv (va_runV (As := []) (rest := []) ⟨hx, hb, hml, hown, htb⟩ (kcX8_look l D c q ev hev σ9  _ hw) (tb_CW htb kX8_look tb_1500 tb_1502 tb_63 ⟨Nat.le_of_ble_eq_true rfl, Nat.le_of_ble_eq_true rfl⟩) (wd_preV (wd := mw c q) (k := 0) hev hK hP hD hE hS (mw_0 c q σ9) rfl) rfl rfl hl.1 rfl (lv_room (Nat.le_of_ble_eq_true rfl)) dX8_rows_40 ⟨Nat.zero_le _, Nat.zero_le _⟩) hS (fun q _ h => h) (fun q h => h) (fun σ11 t H1 locs1 ht hvm hw hB hz1 hk1 hS => ?_)
        have hP : va_P D vwCl (mw c q σ11) H1 := ht ▸ hB
        have hD : va_D (wdA 31 q) (mw c q σ11) := mw_D hD0
        refine lv_iconst (v := (0 : Int32)) hx hb dX8_rows_43 (by decide) ?_
        refine lv_istore_n (lv' := [(2, .int (0 : Int32)), (0, .ref (q 0)), (1, .int x1)]) hx hb dX8_rows_44 rfl hl (by decide) rfl (fun ls hl => ?_)
        obtain ⟨n15, hw⟩ := hw
        refine L45 _ x1 n15 (0 : Int32) σ11 _ _ _ hw ?_ hP hS (lv_sub hl [1, 2, 0] rfl)
        intro v16 σ17 H locs ls hw hP hS hl
        have hD : va_D (wdA 31 q) (mw c q σ17) := mw_D hD0
        refine lv_iconst (v := (0 : Int32)) hx hb dX8_rows_64 (by decide) ?_
        refine lv_istore_n (lv' := [(2, .int (0 : Int32)), (0, .ref (q 0)), (1, .int x1)]) hx hb dX8_rows_65 rfl hl (by decide) rfl (fun ls hl => ?_)
        obtain ⟨n21, hw⟩ := hw
        refine L66 _ x1 n21 (0 : Int32) σ17 _ _ _ hw ?_ hP hS (lv_sub hl [1, 2, 0] rfl)
        intro v22 σ23 H locs ls hw hP hS hl
        have hD : va_D (wdA 31 q) (mw c q σ23) := mw_D hD0
        refine lv_aload_n hx hb dX8_rows_97 rfl (lv_at hl 0 rfl) ?_
        refine lv_iconst (v := (0 : Int32)) hx hb dX8_rows_98 (by decide) ?_
        refine va_put (D := D) (ci := 8) (ty := .int) (C := RX8) (T := TX8) (N := 57) hx hb htb inX8 tyX8 tyX8_ok nmX8 hown hK hP hD hS 0 (mw_0 c q σ23) rfl 33 (by decide) (htb _ tb_1214) (fun _ h9 => h9) rfl (by decide +kernel) rfl rfl (Nat.le_of_ble_eq_true rfl) dX8_rows_99 (fun H locs hP hD hS => ?_)
        have hP : va_P D vwCl (mw c q (hsI σ23 33 (0 : Int32))) H := hP
        obtain ⟨σ24, eσ24⟩ : ∃ z : hsS, z = hsI σ23 33 (0 : Int32) := ⟨_, rfl⟩
        rw [← eσ24] at hP
        have hD : va_D (wdA 31 q) (mw c q σ24) := mw_D hD0
        have hw := hw σ24 eσ24
        refine lv_aload_n hx hb dX8_rows_102 rfl (lv_at hl 0 rfl) ?_
        refine lv_iconst (v := (1 : Int32)) hx hb dX8_rows_103 (by decide) ?_
        refine lv_aload_n hx hb dX8_rows_104 rfl (lv_at hl 0 rfl) ?_
        refine va_get (D := D) (ci := 8) (C := RX8) (T := TX8) (N := 57) hx hb htb inX8 hown hK hP 0 (mw_0 c q σ24) rfl 25 (by decide) (htb _ tb_1206) (fun _ h9 => h9) rfl dX8_rows_105 ?_
        refine lv_ishl hx hb dX8_rows_108 ?_
        refine lv_iconst (v := (1 : Int32)) hx hb dX8_rows_109 (by decide) ?_
        refine lv_isub hx hb dX8_rows_110 ?_
        refine va_put (D := D) (ci := 8) (ty := .int) (C := RX8) (T := TX8) (N := 57) hx hb htb inX8 tyX8 tyX8_ok nmX8 hown hK hP hD hS 0 (mw_0 c q σ24) rfl 34 (by decide) (htb _ tb_1215) (fun _ h9 => h9) rfl (by decide +kernel) rfl rfl (Nat.le_of_ble_eq_true rfl) dX8_rows_111 (fun H locs hP hD hS => ?_)
        have hP : va_P D vwCl (mw c q (hsI σ24 34 (((1 : Int32) <<< ((σ24.1 25) &&& 31)) - (1 : Int32)))) H := hP
        obtain ⟨σ25, eσ25⟩ : ∃ z : hsS, z = hsI σ24 34 (((1 : Int32) <<< ((σ24.1 25) &&& 31)) - (1 : Int32)) := ⟨_, rfl⟩
        rw [← eσ25] at hP
        have hD : va_D (wdA 31 q) (mw c q σ25) := mw_D hD0
        have hw := hw σ25 eσ25
        refine lv_aload_n hx hb dX8_rows_114 rfl (lv_at hl 0 rfl) ?_
        refine lv_iconst (v := (0 : Int32)) hx hb dX8_rows_115 (by decide) ?_
        refine va_put (D := D) (ci := 8) (ty := .int) (C := RX8) (T := TX8) (N := 57) hx hb htb inX8 tyX8 tyX8_ok nmX8 hown hK hP hD hS 0 (mw_0 c q σ25) rfl 35 (by decide) (htb _ tb_1216) (fun _ h9 => h9) rfl (by decide +kernel) rfl rfl (Nat.le_of_ble_eq_true rfl) dX8_rows_116 (fun H locs hP hD hS => ?_)
        have hP : va_P D vwCl (mw c q (hsI σ25 35 (0 : Int32))) H := hP
        obtain ⟨σ26, eσ26⟩ : ∃ z : hsS, z = hsI σ25 35 (0 : Int32) := ⟨_, rfl⟩
        rw [← eσ26] at hP
        have hD : va_D (wdA 31 q) (mw c q σ26) := mw_D hD0
        have hw := hw σ26 eσ26
        refine lv_aload_n hx hb dX8_rows_119 rfl (lv_at hl 0 rfl) ?_
        refine lv_iconst (v := (0 : Int32)) hx hb dX8_rows_120 (by decide) ?_
        refine lv_aload_n hx hb dX8_rows_121 rfl (lv_at hl 0 rfl) ?_
        refine va_get (D := D) (ci := 8) (C := RX8) (T := TX8) (N := 57) hx hb htb inX8 hown hK hP 0 (mw_0 c q σ26) rfl 34 (by decide) (htb _ tb_1215) (fun _ h9 => h9) rfl dX8_rows_122 ?_
        refine va_callv (va_runV (As := [.int (0 : Int32), .int (σ26.1 34)]) (rest := []) ⟨hx, hb, hml, hown, htb⟩ (kcX8_go l D c q ev hev 12 σ26 (0 : Int32) (σ26.1 34) _ hw) (tb_CW htb kX8_go tb_1587 tb_1589 tb_74 ⟨Nat.le_of_ble_eq_true rfl, Nat.le_of_ble_eq_true rfl⟩) (wd_preV (wd := mw c q) (k := 0) hev hK hP hD hE hS (mw_0 c q σ26) rfl) rfl rfl hl.1 rfl (lv_room (Nat.le_of_ble_eq_true rfl)) dX8_rows_125 ⟨Nat.zero_le _, Nat.zero_le _⟩) hS (fun q _ h => h) (fun q h => h) (fun σ28 t H1 locs1 ht hvm hw hB hz1 hk1 hS => ?_)
        have hP : va_P D vwCl (mw c q σ28) H1 := ht ▸ hB
        have hD : va_D (wdA 31 q) (mw c q σ28) := mw_D hD0
        refine lv_iload_n hx hb dX8_rows_128 rfl (lv_at hl 1 rfl) ?_
        refine lv_if_ne (tgt := 139) hx hb dX8_rows_129 (by decide) (fun c29 => ?_) (fun c29 => ?_)
        · have hw := hw.2 c29
          refine lv_iload_n hx hb dX8_rows_139 rfl (lv_at hl 1 rfl) ?_
          refine lv_iconst (v := (1 : Int32)) hx hb dX8_rows_140 (by decide) ?_
          refine lv_icmp_ne (tgt := 151) hx hb dX8_rows_141 (by decide) (fun c30 => ?_) (fun c30 => ?_)
          · have hw := hw.2 c30
            refine lv_aload_n hx hb dX8_rows_151 rfl (lv_at hl 0 rfl) ?_
            refine va_get (D := D) (ci := 8) (C := RX8) (T := TX8) (N := 57) hx hb htb inX8 hown hK hP 0 (mw_0 c q σ28) rfl 35 (by decide) (htb _ tb_1216) (fun _ h9 => h9) rfl dX8_rows_152 ?_
            exact W.iret hx hb hr (fun t ht hW => ⟨⟨_, σ28, rfl, hw, by unfold wdB; rw [ht]; exact hP⟩, hS.F ht⟩) hS.2.2 dX8_rows_155
          · have hw := hw.1 c30
            refine lv_aload_n hx hb dX8_rows_144 rfl (lv_at hl 0 rfl) ?_
            refine va_get (D := D) (ci := 8) (C := RX8) (T := TX8) (N := 57) hx hb htb inX8 hown hK hP 0 (mw_0 c q σ28) rfl 34 (by decide) (htb _ tb_1215) (fun _ h9 => h9) rfl dX8_rows_145 ?_
            refine lv_goto (tgt := 155) hx hb dX8_rows_148 (by decide) ?_
            exact W.iret hx hb hr (fun t ht hW => ⟨⟨_, σ28, rfl, hw, by unfold wdB; rw [ht]; exact hP⟩, hS.F ht⟩) hS.2.2 dX8_rows_155
        · have hw := hw.1 c29
          refine lv_aload_n hx hb dX8_rows_132 rfl (lv_at hl 0 rfl) ?_
          refine va_get (D := D) (ci := 8) (C := RX8) (T := TX8) (N := 57) hx hb htb inX8 hown hK hP 0 (mw_0 c q σ28) rfl 33 (by decide) (htb _ tb_1214) (fun _ h9 => h9) rfl dX8_rows_133 ?_
          refine lv_goto (tgt := 155) hx hb dX8_rows_136 (by decide) ?_
          exact W.iret hx hb hr (fun t ht hW => ⟨⟨_, σ28, rfl, hw, by unfold wdB; rw [ht]; exact hP⟩, hS.F ht⟩) hS.2.2 dX8_rows_155
    · have hw := hw.2 c5
      refine lv_aload_n hx hb dX8_rows_14 rfl (lv_at hl 0 rfl) ?_
      refine lv_iconst (v := (1 : Int32)) hx hb dX8_rows_15 (by decide) ?_
      refine va_calli (va_runV (As := [.int (1 : Int32)]) (rest := []) ⟨hx, hb, hml, hown, htb⟩ (kcX8_fail l D c q ev hev σ1 (1 : Int32) _ hw) (tb_CW htb kX8_fail tb_1366 tb_1368 tb_42 ⟨Nat.le_of_ble_eq_true rfl, Nat.le_of_ble_eq_true rfl⟩) (wd_preV (wd := mw c q) (k := 0) hev hK hP hD hE hS (mw_0 c q σ1) rfl) rfl rfl hl.1 rfl (lv_room (Nat.le_of_ble_eq_true rfl)) dX8_rows_16 ⟨Nat.zero_le _, Nat.zero_le _⟩) hS (fun q _ h => h) (fun q h => h) (fun r31 σ32 t H1 locs1 ht hvm hw hB hz1 hk1 hS => ?_)
      have hP : va_P D vwCl (mw c q σ32) H1 := ht ▸ hB
      have hD : va_D (wdA 31 q) (mw c q σ32) := mw_D hD0
      exact W.iret hx hb hr (fun t ht hW => ⟨⟨_, σ32, rfl, hw, by unfold wdB; rw [ht]; exact hP⟩, hS.F ht⟩) hS.2.2 dX8_rows_19
def wX8_worst_L5 (z1 : Int32) (z2 : Int32) (K47 : Int32 → Int32 → hsS → Prop) (post : Int32 → hsS → Prop) : Nat → Int32 → Int32 → hsS → Prop
  | 0, _, _, _ => False
  | n + 1, y3, y4, σ => (((σ.1 25) ≤ y4 → K47 y3 y4 σ) ∧ (¬ (σ.1 25) ≤ y4 → ((((z2 >>> (y4 &&& 31)) &&& (1 : Int32)) = (1 : Int32) → vp_in ((z1 * (10 : Int32)) + y4) 80 ∧ ∀ v3 : Int32, v3 = (if y3 < (σ.2.1 13 ((z1 * (10 : Int32)) + y4).toNatClampNeg) then (σ.2.1 13 ((z1 * (10 : Int32)) + y4).toNatClampNeg) else y3) → ∀ v4 : Int32, v4 = y4 + (1 : Int32) → wX8_worst_L5 z1 z2 K47 post n v3 v4 σ) ∧ (¬ ((z2 >>> (y4 &&& 31)) &&& (1 : Int32)) = (1 : Int32) → ∀ v5 : Int32, v5 = y4 + (1 : Int32) → wX8_worst_L5 z1 z2 K47 post n y3 v5 σ))))
def wX8_worst (x1 : Int32) (x2 : Int32) (post : Int32 → hsS → Prop) (σ : hsS) : Prop := ∃ n6, wX8_worst_L5 x1 x2 (fun v7 v8 σ9 => post v7 σ9) post n6 (0 : Int32) (0 : Int32) σ
set_option maxHeartbeats 4000000 in
set_option maxRecDepth 100000 in
theorem kcX8_worst (l : Launch) (D : va_G) (c : Nat → ClassId) (q : Nat → Nat) (ev : State → Heap → Prop) (hev : evOK (wdA 31 q) ev) (σ : hsS) (x1 : Int32) (x2 : Int32) (post : Int32 → hsS → Prop) (hw : wX8_worst x1 x2 post σ) : Met l yX8_worst (Cond.code yX8_worst cX8_worst 5 (some .int) :: tb_L) { frames := 1, cells := 0, slots := 0, locals := 40 } (wdPc D (mw c q) (mwT c) (wdA 31 q) ev σ [.ref (q 0), .int x1, .int x2]) (va_Qi post (wdB D (mw c q)) (wdA 31 q)) 0 0 (wdA 31 q) := by
  refine Met.ofW (cc := cX8_worst) (maxL := 5) (ret := (some .int)) (by decide) rfl ?_
  intro p e s m args below meth c₀ s₁ Bd hml hv
  obtain ⟨rfl, hP, hK, hD0, hE⟩ := hv
  have hx := Bd.exec
  have hb := Bd.bytes
  have hr := Bd.returns
  have hts := atoms_spec (ws := Cond.code yX8_worst cX8_worst 5 (some .int) :: tb_L) Bd.pre
  have htb : ∀ w ∈ tb_L, w.before [.ref (q 0), .int x1, .int x2].toArray s = true := fun w h => hts w (List.mem_cons_of_mem _ h)
  have hown : s.vm.findClass RX8 = some m.cls := findClass_of_methodNamed Bd.named
  have hlocks := Bd.notSynchronized
  have hS : va_S (wdA 31 q) s.heap s.heap [] := va_S.rf
  have hD := hD0
  have L5 : ∀ (K47 : Int32 → Int32 → hsS → Prop) (z1 : Int32) (z2 : Int32) (n : Nat) (y3 : Int32) (y4 : Int32) (σ : hsS) (H : Heap) (locs : List Loc) (ls : Array Slot), wX8_worst_L5 z1 z2 K47 post n y3 y4 σ → (∀ (y3 : Int32) (y4 : Int32) (σ : hsS) (H : Heap) (locs : List Loc) (ls : Array Slot), K47 y3 y4 σ → va_P D vwCl (mw c q σ) H → va_S (wdA 31 q) s.heap H locs → lv_has ls 5 [(0, .ref (q 0)), (1, .int z1), (2, .int z2), (3, .int y3), (4, .int y4)] → W p l e (headSpec (Cond.code yX8_worst cX8_worst 5 (some .int) :: tb_L) { frames := 1, cells := 0, slots := 0, locals := 40 }).room s m [.ref (q 0), .int x1, .int x2].toArray below meth c₀ H locs 0 0 (MQ below (va_Qi post (wdB D (mw c q)) (wdA 31 q)) [.ref (q 0), .int x1, .int x2].toArray s 0 0 (wdA 31 q)) (F0 m 47 ls [])) → va_P D vwCl (mw c q σ) H → va_S (wdA 31 q) s.heap H locs → lv_has ls 5 [(0, .ref (q 0)), (1, .int z1), (2, .int z2), (3, .int y3), (4, .int y4)] → W p l e (headSpec (Cond.code yX8_worst cX8_worst 5 (some .int) :: tb_L) { frames := 1, cells := 0, slots := 0, locals := 40 }).room s m [.ref (q 0), .int x1, .int x2].toArray below meth c₀ H locs 0 0 (MQ below (va_Qi post (wdB D (mw c q)) (wdA 31 q)) [.ref (q 0), .int x1, .int x2].toArray s 0 0 (wdA 31 q)) (F0 m 5 ls []) := by
    intro K47 z1 z2 n
    induction n with
    | zero =>
      intro y3 y4 σ H locs ls hw hk47 hP hS hl
      exact (show False from hw).elim
    | succ n ih =>
      intro y3 y4 σ H locs ls hw hk47 hP hS hl
      rw [wX8_worst_L5] at hw
      have hD : va_D (wdA 31 q) (mw c q σ) := mw_D hD0
      refine lv_iload hx hb dX8_worst_5 (lv_at hl 4 rfl) ?_
      refine lv_aload_n hx hb dX8_worst_7 rfl (lv_at hl 0 rfl) ?_
      refine va_get (D := D) (ci := 8) (C := RX8) (T := TX8) (N := 57) hx hb htb inX8 hown hK hP 0 (mw_0 c q σ) rfl 25 (by decide) (htb _ tb_1206) (fun _ h9 => h9) rfl dX8_worst_8 ?_
      refine lv_icmp_ge (tgt := 47) hx hb dX8_worst_11 (by decide) (fun c1 => ?_) (fun c1 => ?_)
      · have hw := hw.1 c1
        exact hk47 y3 y4 σ _ _ _ hw hP hS (lv_sub hl [0, 1, 2, 3, 4] rfl)
      · have hw := hw.2 c1
        refine lv_iload_n hx hb dX8_worst_14 rfl (lv_at hl 2 rfl) ?_
        refine lv_iload hx hb dX8_worst_15 (lv_at hl 4 rfl) ?_
        refine lv_ishr hx hb dX8_worst_17 ?_
        refine lv_iconst (v := (1 : Int32)) hx hb dX8_worst_18 (by decide) ?_
        refine lv_iand hx hb dX8_worst_19 ?_
        refine lv_iconst (v := (1 : Int32)) hx hb dX8_worst_20 (by decide) ?_
        refine lv_icmp_ne (tgt := 41) hx hb dX8_worst_21 (by decide) (fun c2 => ?_) (fun c2 => ?_)
        · have hw := hw.2 c2
          obtain ⟨v5, ev5⟩ : ∃ z : Int32, z = y4 + (1 : Int32) := ⟨_, rfl⟩
          have hw := hw v5 ev5
          refine lv_iinc (v := v5) (lv' := [(4, .int v5), (0, .ref (q 0)), (1, .int z1), (2, .int z2), (3, .int y3)]) hx hb dX8_worst_41 hl (k := 4) rfl (by rw [ev5]; rfl) (by decide) rfl (fun ls hl => ?_)
          refine lv_goto (tgt := 5) hx hb dX8_worst_44 (by decide) ?_
          exact ih y3 v5 σ _ _ _ hw hk47 hP hS (lv_sub hl [1, 2, 3, 4, 0] rfl)
        · have hw := hw.1 c2
          refine lv_iload_n hx hb dX8_worst_24 rfl (lv_at hl 3 rfl) ?_
          refine lv_aload_n hx hb dX8_worst_25 rfl (lv_at hl 0 rfl) ?_
          refine va_get (D := D) (ci := 8) (C := RX8) (T := TX8) (N := 57) hx hb htb inX8 hown hK hP 0 (mw_0 c q σ) rfl 24 (by decide) (htb _ tb_1205) (fun _ h9 => h9) rfl dX8_worst_26 ?_
          refine lv_iload_n hx hb dX8_worst_29 rfl (lv_at hl 1 rfl) ?_
          refine lv_bipush (v := (10 : Int32)) hx hb dX8_worst_30 (by decide) ?_
          refine lv_imul hx hb dX8_worst_32 ?_
          refine lv_iload hx hb dX8_worst_33 (lv_at hl 4 rfl) ?_
          refine lv_iadd hx hb dX8_worst_35 ?_
          refine va_iald hx hb hK hP 13 12 (mw_13 c q σ) rfl hw.1 dX8_worst_36 ?_
          have hw := hw.2
          refine va_mmax hx hb (hml.trans hl.1.symm) hown (htb _ tb_1603) (htb _ tb_495) (htb _ tb_104) (htb _ tb_496) (Nat.le_of_ble_eq_true rfl) (Nat.le_of_ble_eq_true rfl) (Nat.zero_le _) (Nat.zero_le _) dX8_worst_37 ?_
          refine lv_topi (fun v3 ev3 => ?_)
          have hw := hw v3 ev3
          refine lv_istore_n (lv' := [(3, .int v3), (0, .ref (q 0)), (1, .int z1), (2, .int z2), (4, .int y4)]) hx hb dX8_worst_40 rfl hl (by decide) rfl (fun ls hl => ?_)
          obtain ⟨v4, ev4⟩ : ∃ z : Int32, z = y4 + (1 : Int32) := ⟨_, rfl⟩
          have hw := hw v4 ev4
          refine lv_iinc (v := v4) (lv' := [(4, .int v4), (3, .int v3), (0, .ref (q 0)), (1, .int z1), (2, .int z2)]) hx hb dX8_worst_41 hl (k := 4) rfl (by rw [ev4]; rfl) (by decide) rfl (fun ls hl => ?_)
          refine lv_goto (tgt := 5) hx hb dX8_worst_44 (by decide) ?_
          exact ih v3 v4 σ _ _ _ hw hk47 hP hS (lv_sub hl [2, 3, 4, 1, 0] rfl)
  have hl := lv_entry ([.ref (q 0), .int x1, .int x2]) (n := 5) (Nat.le_of_ble_eq_true rfl)
  rw [lg_entry_eq]
  generalize (lg_sl ([.ref (q 0), .int x1, .int x2]) ++ List.replicate (5 - (lg_sl ([.ref (q 0), .int x1, .int x2])).length) Slot.unset).toArray = ls at hl ⊢
  have hl : lv_has ls 5 [(0, .ref (q 0)), (1, .int x1), (2, .int x2)] := hl
  unfold wX8_worst at hw
  refine lv_iconst (v := (0 : Int32)) hx hb dX8_worst_0 (by decide) ?_
  refine lv_istore_n (lv' := [(3, .int (0 : Int32)), (0, .ref (q 0)), (1, .int x1), (2, .int x2)]) hx hb dX8_worst_1 rfl hl (by decide) rfl (fun ls hl => ?_)
  refine lv_iconst (v := (0 : Int32)) hx hb dX8_worst_2 (by decide) ?_
  refine lv_istore (lv' := [(4, .int (0 : Int32)), (3, .int (0 : Int32)), (0, .ref (q 0)), (1, .int x1), (2, .int x2)]) hx hb dX8_worst_3 hl (by decide) rfl (fun ls hl => ?_)
  obtain ⟨n6, hw⟩ := hw
  refine L5 _ x1 x2 n6 (0 : Int32) (0 : Int32) σ _ _ _ hw ?_ hP hS (lv_sub hl [2, 3, 4, 1, 0] rfl)
  intro v7 v8 σ9 H locs ls hw hP hS hl
  have hD : va_D (wdA 31 q) (mw c q σ9) := mw_D hD0
  refine lv_iload_n hx hb dX8_worst_47 rfl (lv_at hl 3 rfl) ?_
  exact W.iret hx hb hr (fun t ht hW => ⟨⟨_, σ9, rfl, hw, by unfold wdB; rw [ht]; exact hP⟩, hS.F ht⟩) hS.2.2 dX8_worst_48
