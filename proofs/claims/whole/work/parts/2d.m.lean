theorem kX8_sum : tbM yX8_sum cX8_sum 5 (some .int) 2 := ⟨tb_1607, tb_99, by decide +kernel, by decide +kernel⟩
theorem kX8_tellDeep : tbM yX8_tellDeep cX8_tellDeep 8 none 0 := ⟨tb_1598, tb_99, by decide +kernel, by decide +kernel⟩
theorem kX8_deep : tbM yX8_deep cX8_deep 1 (some .int) 0 := ⟨tb_1594, tb_99, by decide +kernel, by decide +kernel⟩
theorem kX8_first : tbM yX8_first cX8_first 1 (some .int) 0 := ⟨tb_1611, tb_99, by decide +kernel, by decide +kernel⟩
theorem kX8_nextOrder : tbM yX8_nextOrder cX8_nextOrder 7 (some .boolean) 1 := ⟨tb_1619, tb_99, by decide +kernel, by decide +kernel⟩
theorem kX8_lie : tbM yX8_lie cX8_lie 9 (some .int) 1 := ⟨tb_1615, tb_99, by decide +kernel, by decide +kernel⟩
theorem kX8_trades : tbM yX8_trades cX8_trades 8 (some .int) 1 := ⟨tb_1623, tb_99, by decide +kernel, by decide +kernel⟩
theorem kX8_greatest : tbM yX8_greatest cX8_greatest 4 (some .int) 1 := ⟨tb_1631, tb_99, by decide +kernel, by decide +kernel⟩
theorem kX8_weighed : tbM yX8_weighed cX8_weighed 4 (some .int) 1 := ⟨tb_1635, tb_99, by decide +kernel, by decide +kernel⟩
theorem kX8_grumble : tbM yX8_grumble cX8_grumble 3 (some .int) 2 := ⟨tb_1627, tb_99, by decide +kernel, by decide +kernel⟩
theorem kX8_leastOf : tbM yX8_leastOf cX8_leastOf 5 (some .int) 0 := ⟨tb_1643, tb_99, by decide +kernel, by decide +kernel⟩
theorem kX8_least : tbM yX8_least cX8_least 1 (some .int) 0 := ⟨tb_1639, tb_99, by decide +kernel, by decide +kernel⟩
theorem kX8_headsOf : tbM yX8_headsOf cX8_headsOf 4 (some .int) 1 := ⟨tb_1651, tb_99, by decide +kernel, by decide +kernel⟩
theorem kX8_heads : tbM yX8_heads cX8_heads 2 (some .int) 1 := ⟨tb_1647, tb_99, by decide +kernel, by decide +kernel⟩
theorem kX8_head : tbM yX8_head cX8_head 5 (some .int) 1 := ⟨tb_1655, tb_99, by decide +kernel, by decide +kernel⟩
theorem kX8_ordersOf : tbM yX8_ordersOf cX8_ordersOf 6 (some .int) 1 := ⟨tb_1667, tb_99, by decide +kernel, by decide +kernel⟩
theorem kX8_lookOrder : tbM yX8_lookOrder cX8_lookOrder 11 none 2 := ⟨tb_1671, tb_99, by decide +kernel, by decide +kernel⟩
theorem kX8_tellTies : tbM yX8_tellTies cX8_tellTies 6 (some .boolean) 0 := ⟨tb_1663, tb_99, by decide +kernel, by decide +kernel⟩
theorem kX8_ties : tbM yX8_ties cX8_ties 2 (some .int) 1 := ⟨tb_1659, tb_99, by decide +kernel, by decide +kernel⟩
theorem kX8_ask : tbM yX8_ask cX8_ask 6 (some .int) 0 := ⟨tb_1675, tb_99, by decide +kernel, by decide +kernel⟩
theorem kX8_row : tbM yX8_row cX8_row 6 (some .int) 2 := ⟨tb_1679, tb_99, by decide +kernel, by decide +kernel⟩
theorem kX8_isRow : tbM yX8_isRow cX8_isRow 2 (some .boolean) 1 := ⟨tb_1687, tb_99, by decide +kernel, by decide +kernel⟩
def wX8_sum_L5 (z1 : Int32) (z2 : Int32) (K49 : Int32 → Int32 → hsS → Prop) (post : Int32 → hsS → Prop) : Nat → Int32 → Int32 → hsS → Prop
  | 0, _, _, _ => False
  | n + 1, y3, y4, σ => (((σ.1 25) ≤ y4 → K49 y3 y4 σ) ∧ (¬ (σ.1 25) ≤ y4 → ((((z2 >>> (y4 &&& 31)) &&& (1 : Int32)) = (1 : Int32) → vp_in ((z1 * (10 : Int32)) + y4) 80 ∧ ∀ v3 : Int32, v3 = y3 + (σ.2.1 13 ((z1 * (10 : Int32)) + y4).toNatClampNeg) → ∀ v4 : Int32, v4 = y4 + (1 : Int32) → wX8_sum_L5 z1 z2 K49 post n v3 v4 σ) ∧ (¬ ((z2 >>> (y4 &&& 31)) &&& (1 : Int32)) = (1 : Int32) → ∀ v5 : Int32, v5 = y3 + (0 : Int32) → ∀ v6 : Int32, v6 = y4 + (1 : Int32) → wX8_sum_L5 z1 z2 K49 post n v5 v6 σ))))
def wX8_sum (x1 : Int32) (x2 : Int32) (post : Int32 → hsS → Prop) (σ : hsS) : Prop := ∃ n7, wX8_sum_L5 x1 x2 (fun v8 v9 σ10 => post v8 σ10) post n7 (0 : Int32) (0 : Int32) σ
set_option maxHeartbeats 4000000 in
set_option maxRecDepth 100000 in
theorem kcX8_sum (l : Launch) (D : va_G) (c : Nat → ClassId) (q : Nat → Nat) (ev : State → Heap → Prop) (hev : evOK (wdA 31 q) ev) (σ : hsS) (x1 : Int32) (x2 : Int32) (post : Int32 → hsS → Prop) (hw : wX8_sum x1 x2 post σ) : Met l yX8_sum (Cond.code yX8_sum cX8_sum 5 (some .int) :: tb_L) { frames := 0, cells := 0, slots := 0, locals := 0 } (wdPc D (mw c q) (mwT c) (wdA 31 q) ev σ [.ref (q 0), .int x1, .int x2]) (va_Qi post (wdB D (mw c q)) (wdA 31 q)) 0 0 (wdA 31 q) := by
  refine Met.ofW (cc := cX8_sum) (maxL := 5) (ret := (some .int)) (by decide) rfl ?_
  intro p e s m args below meth c₀ s₁ Bd hml hv
  obtain ⟨rfl, hP, hK, hD0, hE⟩ := hv
  have hx := Bd.exec
  have hb := Bd.bytes
  have hr := Bd.returns
  have hts := atoms_spec (ws := Cond.code yX8_sum cX8_sum 5 (some .int) :: tb_L) Bd.pre
  have htb : ∀ w ∈ tb_L, w.before [.ref (q 0), .int x1, .int x2].toArray s = true := fun w h => hts w (List.mem_cons_of_mem _ h)
  have hown : s.vm.findClass RX8 = some m.cls := findClass_of_methodNamed Bd.named
  have hlocks := Bd.notSynchronized
  have hS : va_S (wdA 31 q) s.heap s.heap [] := va_S.rf
  have hD := hD0
  have L5 : ∀ (K49 : Int32 → Int32 → hsS → Prop) (z1 : Int32) (z2 : Int32) (n : Nat) (y3 : Int32) (y4 : Int32) (σ : hsS) (H : Heap) (locs : List Loc) (ls : Array Slot), wX8_sum_L5 z1 z2 K49 post n y3 y4 σ → (∀ (y3 : Int32) (y4 : Int32) (σ : hsS) (H : Heap) (locs : List Loc) (ls : Array Slot), K49 y3 y4 σ → va_P D vwCl (mw c q σ) H → va_S (wdA 31 q) s.heap H locs → lv_has ls 5 [(0, .ref (q 0)), (1, .int z1), (2, .int z2), (3, .int y3), (4, .int y4)] → W p l e (headSpec (Cond.code yX8_sum cX8_sum 5 (some .int) :: tb_L) { frames := 0, cells := 0, slots := 0, locals := 0 }).room s m [.ref (q 0), .int x1, .int x2].toArray below meth c₀ H locs 0 0 (MQ below (va_Qi post (wdB D (mw c q)) (wdA 31 q)) [.ref (q 0), .int x1, .int x2].toArray s 0 0 (wdA 31 q)) (F0 m 49 ls [])) → va_P D vwCl (mw c q σ) H → va_S (wdA 31 q) s.heap H locs → lv_has ls 5 [(0, .ref (q 0)), (1, .int z1), (2, .int z2), (3, .int y3), (4, .int y4)] → W p l e (headSpec (Cond.code yX8_sum cX8_sum 5 (some .int) :: tb_L) { frames := 0, cells := 0, slots := 0, locals := 0 }).room s m [.ref (q 0), .int x1, .int x2].toArray below meth c₀ H locs 0 0 (MQ below (va_Qi post (wdB D (mw c q)) (wdA 31 q)) [.ref (q 0), .int x1, .int x2].toArray s 0 0 (wdA 31 q)) (F0 m 5 ls []) := by
    intro K49 z1 z2 n
    induction n with
    | zero =>
      intro y3 y4 σ H locs ls hw hk49 hP hS hl
      exact (show False from hw).elim
    | succ n ih =>
      intro y3 y4 σ H locs ls hw hk49 hP hS hl
      rw [wX8_sum_L5] at hw
      have hD : va_D (wdA 31 q) (mw c q σ) := mw_D hD0
      refine lv_iload hx hb dX8_sum_5 (lv_at hl 4 rfl) ?_
      refine lv_aload_n hx hb dX8_sum_7 rfl (lv_at hl 0 rfl) ?_
      refine va_get (D := D) (ci := 8) (C := RX8) (T := TX8) (N := 57) hx hb htb inX8 hown hK hP 0 (mw_0 c q σ) rfl 25 (by decide) (htb _ tb_1206) (fun _ h9 => h9) rfl dX8_sum_8 ?_
      refine lv_icmp_ge (tgt := 49) hx hb dX8_sum_11 (by decide) (fun c1 => ?_) (fun c1 => ?_)
      · have hw := hw.1 c1
        exact hk49 y3 y4 σ _ _ _ hw hP hS (lv_sub hl [0, 1, 2, 3, 4] rfl)
      · have hw := hw.2 c1
        refine lv_iload_n hx hb dX8_sum_14 rfl (lv_at hl 3 rfl) ?_
        refine lv_iload_n hx hb dX8_sum_15 rfl (lv_at hl 2 rfl) ?_
        refine lv_iload hx hb dX8_sum_16 (lv_at hl 4 rfl) ?_
        refine lv_ishr hx hb dX8_sum_18 ?_
        refine lv_iconst (v := (1 : Int32)) hx hb dX8_sum_19 (by decide) ?_
        refine lv_iand hx hb dX8_sum_20 ?_
        refine lv_iconst (v := (1 : Int32)) hx hb dX8_sum_21 (by decide) ?_
        refine lv_icmp_ne (tgt := 40) hx hb dX8_sum_22 (by decide) (fun c2 => ?_) (fun c2 => ?_)
        · have hw := hw.2 c2
          refine lv_iconst (v := (0 : Int32)) hx hb dX8_sum_40 (by decide) ?_
          refine lv_iadd hx hb dX8_sum_41 ?_
          refine lv_topi (fun v5 ev5 => ?_)
          have hw := hw v5 ev5
          refine lv_istore_n (lv' := [(3, .int v5), (0, .ref (q 0)), (1, .int z1), (2, .int z2), (4, .int y4)]) hx hb dX8_sum_42 rfl hl (by decide) rfl (fun ls hl => ?_)
          obtain ⟨v6, ev6⟩ : ∃ z : Int32, z = y4 + (1 : Int32) := ⟨_, rfl⟩
          have hw := hw v6 ev6
          refine lv_iinc (v := v6) (lv' := [(4, .int v6), (3, .int v5), (0, .ref (q 0)), (1, .int z1), (2, .int z2)]) hx hb dX8_sum_43 hl (k := 4) rfl (by rw [ev6]; rfl) (by decide) rfl (fun ls hl => ?_)
          refine lv_goto (tgt := 5) hx hb dX8_sum_46 (by decide) ?_
          exact ih v5 v6 σ _ _ _ hw hk49 hP hS (lv_sub hl [2, 3, 4, 1, 0] rfl)
        · have hw := hw.1 c2
          refine lv_aload_n hx hb dX8_sum_25 rfl (lv_at hl 0 rfl) ?_
          refine va_get (D := D) (ci := 8) (C := RX8) (T := TX8) (N := 57) hx hb htb inX8 hown hK hP 0 (mw_0 c q σ) rfl 24 (by decide) (htb _ tb_1205) (fun _ h9 => h9) rfl dX8_sum_26 ?_
          refine lv_iload_n hx hb dX8_sum_29 rfl (lv_at hl 1 rfl) ?_
          refine lv_bipush (v := (10 : Int32)) hx hb dX8_sum_30 (by decide) ?_
          refine lv_imul hx hb dX8_sum_32 ?_
          refine lv_iload hx hb dX8_sum_33 (lv_at hl 4 rfl) ?_
          refine lv_iadd hx hb dX8_sum_35 ?_
          refine va_iald hx hb hK hP 13 12 (mw_13 c q σ) rfl hw.1 dX8_sum_36 ?_
          have hw := hw.2
          refine lv_goto (tgt := 41) hx hb dX8_sum_37 (by decide) ?_
          refine lv_iadd hx hb dX8_sum_41 ?_
          refine lv_topi (fun v3 ev3 => ?_)
          have hw := hw v3 ev3
          refine lv_istore_n (lv' := [(3, .int v3), (0, .ref (q 0)), (1, .int z1), (2, .int z2), (4, .int y4)]) hx hb dX8_sum_42 rfl hl (by decide) rfl (fun ls hl => ?_)
          obtain ⟨v4, ev4⟩ : ∃ z : Int32, z = y4 + (1 : Int32) := ⟨_, rfl⟩
          have hw := hw v4 ev4
          refine lv_iinc (v := v4) (lv' := [(4, .int v4), (3, .int v3), (0, .ref (q 0)), (1, .int z1), (2, .int z2)]) hx hb dX8_sum_43 hl (k := 4) rfl (by rw [ev4]; rfl) (by decide) rfl (fun ls hl => ?_)
          refine lv_goto (tgt := 5) hx hb dX8_sum_46 (by decide) ?_
          exact ih v3 v4 σ _ _ _ hw hk49 hP hS (lv_sub hl [2, 3, 4, 1, 0] rfl)
  have hl := lv_entry ([.ref (q 0), .int x1, .int x2]) (n := 5) (Nat.le_of_ble_eq_true rfl)
  rw [lg_entry_eq]
  generalize (lg_sl ([.ref (q 0), .int x1, .int x2]) ++ List.replicate (5 - (lg_sl ([.ref (q 0), .int x1, .int x2])).length) Slot.unset).toArray = ls at hl ⊢
  have hl : lv_has ls 5 [(0, .ref (q 0)), (1, .int x1), (2, .int x2)] := hl
  unfold wX8_sum at hw
  refine lv_iconst (v := (0 : Int32)) hx hb dX8_sum_0 (by decide) ?_
  refine lv_istore_n (lv' := [(3, .int (0 : Int32)), (0, .ref (q 0)), (1, .int x1), (2, .int x2)]) hx hb dX8_sum_1 rfl hl (by decide) rfl (fun ls hl => ?_)
  refine lv_iconst (v := (0 : Int32)) hx hb dX8_sum_2 (by decide) ?_
  refine lv_istore (lv' := [(4, .int (0 : Int32)), (3, .int (0 : Int32)), (0, .ref (q 0)), (1, .int x1), (2, .int x2)]) hx hb dX8_sum_3 hl (by decide) rfl (fun ls hl => ?_)
  obtain ⟨n7, hw⟩ := hw
  refine L5 _ x1 x2 n7 (0 : Int32) (0 : Int32) σ _ _ _ hw ?_ hP hS (lv_sub hl [2, 3, 4, 1, 0] rfl)
  intro v8 v9 σ10 H locs ls hw hP hS hl
  have hD : va_D (wdA 31 q) (mw c q σ10) := mw_D hD0
  refine lv_iload_n hx hb dX8_sum_49 rfl (lv_at hl 3 rfl) ?_
  exact W.iret hx hb hr (fun t ht hW => ⟨⟨_, σ10, rfl, hw, by unfold wdB; rw [ht]; exact hP⟩, hS.F ht⟩) hS.2.2 dX8_sum_50
def wX8_tellDeep_L83 (z1 : Int32) (z2 : Int32) (z3 : Int32) (K225 : Int32 → hsS → Prop) (post : hsS → Prop) : Nat → Int32 → hsS → Prop
  | 0, _, _ => False
  | n + 1, y4, σ => (((σ.1 25) ≤ y4 → K225 y4 σ) ∧ (¬ (σ.1 25) ≤ y4 → ((((z1 >>> (y4 &&& 31)) &&& (1 : Int32)) = (0 : Int32) → ∀ v15 : Int32, v15 = y4 + (1 : Int32) → wX8_tellDeep_L83 z1 z2 z3 K225 post n v15 σ) ∧ (¬ ((z1 >>> (y4 &&& 31)) &&& (1 : Int32)) = (0 : Int32) → vp_in (z1 &&& (((1 : Int32) <<< (y4 &&& 31)) ^^^ (-1 : Int32))) 1024 ∧ ∀ v16 : Int32, v16 = σ.2.1 18 (z1 &&& (((1 : Int32) <<< (y4 &&& 31)) ^^^ (-1 : Int32))).toNatClampNeg → vp_in z1 1024 ∧ ∀ v17 : Int32, v17 = σ.2.1 18 z1.toNatClampNeg → vp_in z1 1024 ∧ (((σ.2.1 19 z1.toNatClampNeg) = (-1 : Int32) → vp_in z1 1024 ∧ ∀ σ19 : hsS, σ19 = hsA σ 18 (upd (σ.2.1 18) z1.toNatClampNeg v16) → vp_in z1 1024 ∧ ∀ σ20 : hsS, σ20 = hsA σ19 19 (upd (σ19.2.1 19) z1.toNatClampNeg y4) → ∀ v21 : Int32, v21 = y4 + (1 : Int32) → wX8_tellDeep_L83 z1 z2 z3 K225 post n v21 σ20) ∧ (¬ (σ.2.1 19 z1.toNatClampNeg) = (-1 : Int32) → wX8_worst z3 v16 (fun r22 σ23 => wX8_worst z3 v17 (fun r24 σ25 => ((r22 < r24 → vp_in z1 1024 ∧ ∀ σ27 : hsS, σ27 = hsA σ25 18 (upd (σ25.2.1 18) z1.toNatClampNeg v16) → vp_in z1 1024 ∧ ∀ σ28 : hsS, σ28 = hsA σ27 19 (upd (σ27.2.1 19) z1.toNatClampNeg y4) → ∀ v29 : Int32, v29 = y4 + (1 : Int32) → wX8_tellDeep_L83 z1 z2 z3 K225 post n v29 σ28) ∧ (¬ r22 < r24 → wX8_worst z3 v16 (fun r30 σ31 => wX8_worst z3 v17 (fun r32 σ33 => ((r30 = r32 → wX8_sum z3 v16 (fun r35 σ36 => wX8_sum z3 v17 (fun r37 σ38 => ((r37 ≤ r35 → ∀ v40 : Int32, v40 = y4 + (1 : Int32) → wX8_tellDeep_L83 z1 z2 z3 K225 post n v40 σ38) ∧ (¬ r37 ≤ r35 → vp_in z1 1024 ∧ ∀ σ41 : hsS, σ41 = hsA σ38 18 (upd (σ38.2.1 18) z1.toNatClampNeg v16) → vp_in z1 1024 ∧ ∀ σ42 : hsS, σ42 = hsA σ41 19 (upd (σ41.2.1 19) z1.toNatClampNeg y4) → ∀ v43 : Int32, v43 = y4 + (1 : Int32) → wX8_tellDeep_L83 z1 z2 z3 K225 post n v43 σ42))) σ36) σ33) ∧ (¬ r30 = r32 → ∀ v44 : Int32, v44 = y4 + (1 : Int32) → wX8_tellDeep_L83 z1 z2 z3 K225 post n v44 σ33))) σ31) σ25))) σ23) σ))))))
def wX8_tellDeep_L26 (K231 : Int32 → hsS → Prop) (post : hsS → Prop) : Nat → Int32 → hsS → Prop
  | 0, _, _ => False
  | n + 1, y1, σ => ((((1 : Int32) <<< ((σ.1 25) &&& 31)) ≤ y1 → K231 y1 σ) ∧ (¬ ((1 : Int32) <<< ((σ.1 25) &&& 31)) ≤ y1 → wX8_sizeOf y1 (fun r6 σ7 => ∀ v8 : Int32, v8 = (σ.1 25) - r6 → vp_in y1 1024 ∧ ∀ σ9 : hsS, σ9 = hsA σ7 18 (upd (σ7.2.1 18) y1.toNatClampNeg y1) → vp_in y1 1024 ∧ ∀ σ10 : hsS, σ10 = hsA σ9 19 (upd (σ9.2.1 19) y1.toNatClampNeg (-1 : Int32)) → ((v8 < (σ10.2.1 6 (0 : Int32).toNatClampNeg) → vp_in v8 18 ∧ ∀ v12 : Int32, v12 = σ10.2.1 10 v8.toNatClampNeg → ∃ n45, wX8_tellDeep_L83 y1 v8 v12 (fun v46 σ47 => ∀ v48 : Int32, v48 = y1 + (1 : Int32) → wX8_tellDeep_L26  K231 post n v48 σ47) post n45 (0 : Int32) σ10) ∧ (¬ v8 < (σ10.2.1 6 (0 : Int32).toNatClampNeg) → ∀ v49 : Int32, v49 = y1 + (1 : Int32) → wX8_tellDeep_L26  K231 post n v49 σ10))) σ))
def wX8_tellDeep  (post : hsS → Prop) (σ : hsS) : Prop := wX8_look  (fun σ2 => (((σ2.1 39) = (σ2.1 12) → post σ2) ∧ (¬ (σ2.1 39) = (σ2.1 12) → ∀ σ4 : hsS, σ4 = hsI σ2 39 (σ2.1 12) → ∃ n50, wX8_tellDeep_L26  (fun v51 σ52 => post σ52) post n50 (0 : Int32) σ4))) σ
set_option maxHeartbeats 4000000 in
set_option maxRecDepth 100000 in
theorem kcX8_tellDeep (l : Launch) (D : va_G) (c : Nat → ClassId) (q : Nat → Nat) (ev : State → Heap → Prop) (hev : evOK (wdA 31 q) ev) (σ : hsS)  (post : hsS → Prop) (hw : wX8_tellDeep  post σ) : Met l yX8_tellDeep (Cond.code yX8_tellDeep cX8_tellDeep 8 none :: tb_L) { frames := 2, cells := 0, slots := 0, locals := 64 } (wdPc D (mw c q) (mwT c) (wdA 31 q) ev σ [.ref (q 0)]) (va_Qv post (wdB D (mw c q)) (wdA 31 q)) 0 0 (wdA 31 q) := by
  refine Met.ofW (cc := cX8_tellDeep) (maxL := 8) (ret := none) (by decide) rfl ?_
  intro p e s m args below meth c₀ s₁ Bd hml hv
  obtain ⟨rfl, hP, hK, hD0, hE⟩ := hv
  have hx := Bd.exec
  have hb := Bd.bytes
  have hr := Bd.returns
  have hts := atoms_spec (ws := Cond.code yX8_tellDeep cX8_tellDeep 8 none :: tb_L) Bd.pre
  have htb : ∀ w ∈ tb_L, w.before [.ref (q 0)].toArray s = true := fun w h => hts w (List.mem_cons_of_mem _ h)
  have hown : s.vm.findClass RX8 = some m.cls := findClass_of_methodNamed Bd.named
  have hlocks := Bd.notSynchronized
  have hS : va_S (wdA 31 q) s.heap s.heap [] := va_S.rf
  have hD := hD0
  have L83 : ∀ (K225 : Int32 → hsS → Prop) (z1 : Int32) (z2 : Int32) (z3 : Int32) (n : Nat) (y4 : Int32) (σ : hsS) (H : Heap) (locs : List Loc) (ls : Array Slot), wX8_tellDeep_L83 z1 z2 z3 K225 post n y4 σ → (∀ (y4 : Int32) (σ : hsS) (H : Heap) (locs : List Loc) (ls : Array Slot), K225 y4 σ → va_P D vwCl (mw c q σ) H → va_S (wdA 31 q) s.heap H locs → lv_has ls 8 [(0, .ref (q 0)), (1, .int z1), (2, .int z2), (3, .int z3), (4, .int y4)] → W p l e (headSpec (Cond.code yX8_tellDeep cX8_tellDeep 8 none :: tb_L) { frames := 2, cells := 0, slots := 0, locals := 64 }).room s m [.ref (q 0)].toArray below meth c₀ H locs 0 0 (MQ below (va_Qv post (wdB D (mw c q)) (wdA 31 q)) [.ref (q 0)].toArray s 0 0 (wdA 31 q)) (F0 m 225 ls [])) → va_P D vwCl (mw c q σ) H → va_S (wdA 31 q) s.heap H locs → lv_has ls 8 [(0, .ref (q 0)), (1, .int z1), (2, .int z2), (3, .int z3), (4, .int y4)] → W p l e (headSpec (Cond.code yX8_tellDeep cX8_tellDeep 8 none :: tb_L) { frames := 2, cells := 0, slots := 0, locals := 64 }).room s m [.ref (q 0)].toArray below meth c₀ H locs 0 0 (MQ below (va_Qv post (wdB D (mw c q)) (wdA 31 q)) [.ref (q 0)].toArray s 0 0 (wdA 31 q)) (F0 m 83 ls []) := by
    intro K225 z1 z2 z3 n
    induction n with
    | zero =>
      intro y4 σ H locs ls hw hk225 hP hS hl
      exact (show False from hw).elim
    | succ n ih =>
      intro y4 σ H locs ls hw hk225 hP hS hl
      rw [wX8_tellDeep_L83] at hw
      have hD : va_D (wdA 31 q) (mw c q σ) := mw_D hD0
      refine lv_iload hx hb dX8_tellDeep_83 (lv_at hl 4 rfl) ?_
      refine lv_aload_n hx hb dX8_tellDeep_85 rfl (lv_at hl 0 rfl) ?_
      refine va_get (D := D) (ci := 8) (C := RX8) (T := TX8) (N := 57) hx hb htb inX8 hown hK hP 0 (mw_0 c q σ) rfl 25 (by decide) (htb _ tb_1206) (fun _ h9 => h9) rfl dX8_tellDeep_86 ?_
      refine lv_icmp_ge (tgt := 225) hx hb dX8_tellDeep_89 (by decide) (fun c13 => ?_) (fun c13 => ?_)
      · have hw := hw.1 c13
        exact hk225 y4 σ _ _ _ hw hP hS (lv_sub hl [0, 1, 2, 3, 4] rfl)
      · have hw := hw.2 c13
        refine lv_iload_n hx hb dX8_tellDeep_92 rfl (lv_at hl 1 rfl) ?_
        refine lv_iload hx hb dX8_tellDeep_93 (lv_at hl 4 rfl) ?_
        refine lv_ishr hx hb dX8_tellDeep_95 ?_
        refine lv_iconst (v := (1 : Int32)) hx hb dX8_tellDeep_96 (by decide) ?_
        refine lv_iand hx hb dX8_tellDeep_97 ?_
        refine lv_if_ne (tgt := 104) hx hb dX8_tellDeep_98 (by decide) (fun c14 => ?_) (fun c14 => ?_)
        · have hw := hw.2 c14
          refine lv_aload_n hx hb dX8_tellDeep_104 rfl (lv_at hl 0 rfl) ?_
          refine va_get (D := D) (ci := 8) (C := RX8) (T := TX8) (N := 57) hx hb htb inX8 hown hK hP 0 (mw_0 c q σ) rfl 37 (by decide) (htb _ tb_1218) (fun _ h9 => h9) rfl dX8_tellDeep_105 ?_
          refine lv_iload_n hx hb dX8_tellDeep_108 rfl (lv_at hl 1 rfl) ?_
          refine lv_iconst (v := (1 : Int32)) hx hb dX8_tellDeep_109 (by decide) ?_
          refine lv_iload hx hb dX8_tellDeep_110 (lv_at hl 4 rfl) ?_
          refine lv_ishl hx hb dX8_tellDeep_112 ?_
          refine lv_iconst (v := (-1 : Int32)) hx hb dX8_tellDeep_113 (by decide) ?_
          refine lv_ixor hx hb dX8_tellDeep_114 ?_
          refine lv_iand hx hb dX8_tellDeep_115 ?_
          refine va_iald hx hb hK hP 18 17 (mw_18 c q σ) rfl hw.1 dX8_tellDeep_116 ?_
          have hw := hw.2
          refine lv_topi (fun v16 ev16 => ?_)
          have hw := hw v16 ev16
          refine lv_istore (lv' := [(5, .int v16), (0, .ref (q 0)), (1, .int z1), (2, .int z2), (3, .int z3), (4, .int y4)]) hx hb dX8_tellDeep_117 hl (by decide) rfl (fun ls hl => ?_)
          refine lv_aload_n hx hb dX8_tellDeep_119 rfl (lv_at hl 1 rfl) ?_
          refine va_get (D := D) (ci := 8) (C := RX8) (T := TX8) (N := 57) hx hb htb inX8 hown hK hP 0 (mw_0 c q σ) rfl 37 (by decide) (htb _ tb_1218) (fun _ h9 => h9) rfl dX8_tellDeep_120 ?_
          refine lv_iload_n hx hb dX8_tellDeep_123 rfl (lv_at hl 2 rfl) ?_
          refine va_iald hx hb hK hP 18 17 (mw_18 c q σ) rfl hw.1 dX8_tellDeep_124 ?_
          have hw := hw.2
          refine lv_topi (fun v17 ev17 => ?_)
          have hw := hw v17 ev17
          refine lv_istore (lv' := [(6, .int v17), (5, .int v16), (0, .ref (q 0)), (1, .int z1), (2, .int z2), (3, .int z3), (4, .int y4)]) hx hb dX8_tellDeep_125 hl (by decide) rfl (fun ls hl => ?_)
          refine lv_aload_n hx hb dX8_tellDeep_127 rfl (lv_at hl 2 rfl) ?_
          refine va_get (D := D) (ci := 8) (C := RX8) (T := TX8) (N := 57) hx hb htb inX8 hown hK hP 0 (mw_0 c q σ) rfl 38 (by decide) (htb _ tb_1219) (fun _ h9 => h9) rfl dX8_tellDeep_128 ?_
          refine lv_iload_n hx hb dX8_tellDeep_131 rfl (lv_at hl 3 rfl) ?_
          refine va_iald hx hb hK hP 19 18 (mw_19 c q σ) rfl hw.1 dX8_tellDeep_132 ?_
          have hw := hw.2
          refine lv_iconst (v := (-1 : Int32)) hx hb dX8_tellDeep_133 (by decide) ?_
          refine lv_icmp_eq (tgt := 188) hx hb dX8_tellDeep_134 (by decide) (fun c18 => ?_) (fun c18 => ?_)
          · have hw := hw.1 c18
            refine lv_iconst (v := (1 : Int32)) hx hb dX8_tellDeep_188 (by decide) ?_
            refine lv_goto (tgt := 193) hx hb dX8_tellDeep_189 (by decide) ?_
            refine lv_istore (lv' := [(7, .int (1 : Int32)), (6, .int v17), (5, .int v16), (0, .ref (q 0)), (1, .int z1), (2, .int z2), (3, .int z3), (4, .int y4)]) hx hb dX8_tellDeep_193 hl (by decide) rfl (fun ls hl => ?_)
            refine lv_iload hx hb dX8_tellDeep_195 (lv_at hl 0 rfl) ?_
            refine lv_if_ne (tgt := 203) hx hb dX8_tellDeep_197 (by decide) (fun _ => ?_) (fun h9 => absurd h9 (by decide))
            refine lv_aload_n hx hb dX8_tellDeep_203 rfl (lv_at hl 3 rfl) ?_
            refine va_get (D := D) (ci := 8) (C := RX8) (T := TX8) (N := 57) hx hb htb inX8 hown hK hP 0 (mw_0 c q σ) rfl 37 (by decide) (htb _ tb_1218) (fun _ h9 => h9) rfl dX8_tellDeep_204 ?_
            refine lv_iload_n hx hb dX8_tellDeep_207 rfl (lv_at hl 4 rfl) ?_
            refine lv_iload hx hb dX8_tellDeep_208 (lv_at hl 2 rfl) ?_
            refine va_iast hx hb hK hP hD hS 18 17 (mw_18 c q σ) rfl hw.1 dX8_tellDeep_210 (fun H locs hP hD hS => ?_)
            have hw := hw.2
            have hP : va_P D vwCl (mw c q (hsA σ 18 (upd (σ.2.1 18) z1.toNatClampNeg v16))) H := hP
            obtain ⟨σ19, eσ19⟩ : ∃ z : hsS, z = hsA σ 18 (upd (σ.2.1 18) z1.toNatClampNeg v16) := ⟨_, rfl⟩
            rw [← eσ19] at hP
            have hD : va_D (wdA 31 q) (mw c q σ19) := mw_D hD0
            have hw := hw σ19 eσ19
            refine lv_aload_n hx hb dX8_tellDeep_211 rfl (lv_at hl 3 rfl) ?_
            refine va_get (D := D) (ci := 8) (C := RX8) (T := TX8) (N := 57) hx hb htb inX8 hown hK hP 0 (mw_0 c q σ19) rfl 38 (by decide) (htb _ tb_1219) (fun _ h9 => h9) rfl dX8_tellDeep_212 ?_
            refine lv_iload_n hx hb dX8_tellDeep_215 rfl (lv_at hl 4 rfl) ?_
            refine lv_iload hx hb dX8_tellDeep_216 (lv_at hl 7 rfl) ?_
            refine va_iast hx hb hK hP hD hS 19 18 (mw_19 c q σ19) rfl hw.1 dX8_tellDeep_218 (fun H locs hP hD hS => ?_)
            have hw := hw.2
            have hP : va_P D vwCl (mw c q (hsA σ19 19 (upd (σ19.2.1 19) z1.toNatClampNeg y4))) H := hP
            obtain ⟨σ20, eσ20⟩ : ∃ z : hsS, z = hsA σ19 19 (upd (σ19.2.1 19) z1.toNatClampNeg y4) := ⟨_, rfl⟩
            rw [← eσ20] at hP
            have hD : va_D (wdA 31 q) (mw c q σ20) := mw_D hD0
            have hw := hw σ20 eσ20
            obtain ⟨v21, ev21⟩ : ∃ z : Int32, z = y4 + (1 : Int32) := ⟨_, rfl⟩
            have hw := hw v21 ev21
            refine lv_iinc (v := v21) (lv' := [(4, .int v21), (7, .int (1 : Int32)), (6, .int v17), (5, .int v16), (0, .ref (q 0)), (1, .int z1), (2, .int z2), (3, .int z3)]) hx hb dX8_tellDeep_219 hl (k := 7) rfl (by rw [ev21]; rfl) (by decide) rfl (fun ls hl => ?_)
            refine lv_goto (tgt := 83) hx hb dX8_tellDeep_222 (by decide) ?_
            exact ih v21 σ20 _ _ _ hw hk225 hP hS (lv_sub hl [4, 5, 6, 7, 0] rfl)
          · have hw := hw.2 c18
            refine lv_aload_n hx hb dX8_tellDeep_137 rfl (lv_at hl 2 rfl) ?_
            refine lv_iload_n hx hb dX8_tellDeep_138 rfl (lv_at hl 5 rfl) ?_
            refine lv_iload hx hb dX8_tellDeep_139 (lv_at hl 1 rfl) ?_
            refine va_calli (va_runV (As := [.int z3, .int v16]) (rest := []) ⟨hx, hb, hml, hown, htb⟩ (kcX8_worst l D c q ev hev σ z3 v16 _ hw) (tb_CW htb kX8_worst tb_1599 tb_1601 tb_76 ⟨Nat.le_of_ble_eq_true rfl, Nat.le_of_ble_eq_true rfl⟩) (wd_preV (wd := mw c q) (k := 0) hev hK hP hD hE hS (mw_0 c q σ) rfl) rfl rfl hl.1 rfl (lv_room (Nat.le_of_ble_eq_true rfl)) dX8_tellDeep_141 ⟨Nat.zero_le _, Nat.zero_le _⟩) hS (fun q _ h => h) (fun q h => h) (fun r22 σ23 t H1 locs1 ht hvm hw hB hz1 hk1 hS => ?_)
            have hP : va_P D vwCl (mw c q σ23) H1 := ht ▸ hB
            have hD : va_D (wdA 31 q) (mw c q σ23) := mw_D hD0
            refine lv_aload_n hx hb dX8_tellDeep_144 rfl (lv_at hl 2 rfl) ?_
            refine lv_iload_n hx hb dX8_tellDeep_145 rfl (lv_at hl 5 rfl) ?_
            refine lv_iload hx hb dX8_tellDeep_146 (lv_at hl 0 rfl) ?_
            refine va_calli (va_runV (As := [.int z3, .int v17]) (rest := [.int r22]) ⟨hx, hb, hml, hown, htb⟩ (kcX8_worst l D c q ev hev σ23 z3 v17 _ hw) (tb_CW htb kX8_worst tb_1599 tb_1601 tb_76 ⟨Nat.le_of_ble_eq_true rfl, Nat.le_of_ble_eq_true rfl⟩) (wd_preV (wd := mw c q) (k := 0) hev hK hP hD hE hS (mw_0 c q σ23) rfl) rfl rfl hl.1 rfl (lv_room (Nat.le_of_ble_eq_true rfl)) dX8_tellDeep_148 ⟨Nat.zero_le _, Nat.zero_le _⟩) hS (fun q _ h => h) (fun q h => h) (fun r24 σ25 t H1 locs1 ht hvm hw hB hz1 hk1 hS => ?_)
            have hP : va_P D vwCl (mw c q σ25) H1 := ht ▸ hB
            have hD : va_D (wdA 31 q) (mw c q σ25) := mw_D hD0
            refine lv_icmp_lt (tgt := 188) hx hb dX8_tellDeep_151 (by decide) (fun c26 => ?_) (fun c26 => ?_)
            · have hw := hw.1 c26
              refine lv_iconst (v := (1 : Int32)) hx hb dX8_tellDeep_188 (by decide) ?_
              refine lv_goto (tgt := 193) hx hb dX8_tellDeep_189 (by decide) ?_
              refine lv_istore (lv' := [(7, .int (1 : Int32)), (6, .int v17), (5, .int v16), (0, .ref (q 0)), (1, .int z1), (2, .int z2), (3, .int z3), (4, .int y4)]) hx hb dX8_tellDeep_193 hl (by decide) rfl (fun ls hl => ?_)
              refine lv_iload hx hb dX8_tellDeep_195 (lv_at hl 0 rfl) ?_
              refine lv_if_ne (tgt := 203) hx hb dX8_tellDeep_197 (by decide) (fun _ => ?_) (fun h9 => absurd h9 (by decide))
              refine lv_aload_n hx hb dX8_tellDeep_203 rfl (lv_at hl 3 rfl) ?_
              refine va_get (D := D) (ci := 8) (C := RX8) (T := TX8) (N := 57) hx hb htb inX8 hown hK hP 0 (mw_0 c q σ25) rfl 37 (by decide) (htb _ tb_1218) (fun _ h9 => h9) rfl dX8_tellDeep_204 ?_
              refine lv_iload_n hx hb dX8_tellDeep_207 rfl (lv_at hl 4 rfl) ?_
              refine lv_iload hx hb dX8_tellDeep_208 (lv_at hl 2 rfl) ?_
              refine va_iast hx hb hK hP hD hS 18 17 (mw_18 c q σ25) rfl hw.1 dX8_tellDeep_210 (fun H locs hP hD hS => ?_)
              have hw := hw.2
              have hP : va_P D vwCl (mw c q (hsA σ25 18 (upd (σ25.2.1 18) z1.toNatClampNeg v16))) H := hP
              obtain ⟨σ27, eσ27⟩ : ∃ z : hsS, z = hsA σ25 18 (upd (σ25.2.1 18) z1.toNatClampNeg v16) := ⟨_, rfl⟩
              rw [← eσ27] at hP
              have hD : va_D (wdA 31 q) (mw c q σ27) := mw_D hD0
              have hw := hw σ27 eσ27
              refine lv_aload_n hx hb dX8_tellDeep_211 rfl (lv_at hl 3 rfl) ?_
              refine va_get (D := D) (ci := 8) (C := RX8) (T := TX8) (N := 57) hx hb htb inX8 hown hK hP 0 (mw_0 c q σ27) rfl 38 (by decide) (htb _ tb_1219) (fun _ h9 => h9) rfl dX8_tellDeep_212 ?_
              refine lv_iload_n hx hb dX8_tellDeep_215 rfl (lv_at hl 4 rfl) ?_
              refine lv_iload hx hb dX8_tellDeep_216 (lv_at hl 7 rfl) ?_
              refine va_iast hx hb hK hP hD hS 19 18 (mw_19 c q σ27) rfl hw.1 dX8_tellDeep_218 (fun H locs hP hD hS => ?_)
              have hw := hw.2
              have hP : va_P D vwCl (mw c q (hsA σ27 19 (upd (σ27.2.1 19) z1.toNatClampNeg y4))) H := hP
              obtain ⟨σ28, eσ28⟩ : ∃ z : hsS, z = hsA σ27 19 (upd (σ27.2.1 19) z1.toNatClampNeg y4) := ⟨_, rfl⟩
              rw [← eσ28] at hP
              have hD : va_D (wdA 31 q) (mw c q σ28) := mw_D hD0
              have hw := hw σ28 eσ28
              obtain ⟨v29, ev29⟩ : ∃ z : Int32, z = y4 + (1 : Int32) := ⟨_, rfl⟩
              have hw := hw v29 ev29
              refine lv_iinc (v := v29) (lv' := [(4, .int v29), (7, .int (1 : Int32)), (6, .int v17), (5, .int v16), (0, .ref (q 0)), (1, .int z1), (2, .int z2), (3, .int z3)]) hx hb dX8_tellDeep_219 hl (k := 7) rfl (by rw [ev29]; rfl) (by decide) rfl (fun ls hl => ?_)
              refine lv_goto (tgt := 83) hx hb dX8_tellDeep_222 (by decide) ?_
              exact ih v29 σ28 _ _ _ hw hk225 hP hS (lv_sub hl [4, 5, 6, 7, 0] rfl)
            · have hw := hw.2 c26
              refine lv_aload_n hx hb dX8_tellDeep_154 rfl (lv_at hl 2 rfl) ?_
              refine lv_iload_n hx hb dX8_tellDeep_155 rfl (lv_at hl 5 rfl) ?_
              refine lv_iload hx hb dX8_tellDeep_156 (lv_at hl 1 rfl) ?_
              refine va_calli (va_runV (As := [.int z3, .int v16]) (rest := []) ⟨hx, hb, hml, hown, htb⟩ (kcX8_worst l D c q ev hev σ25 z3 v16 _ hw) (tb_CW htb kX8_worst tb_1599 tb_1601 tb_76 ⟨Nat.le_of_ble_eq_true rfl, Nat.le_of_ble_eq_true rfl⟩) (wd_preV (wd := mw c q) (k := 0) hev hK hP hD hE hS (mw_0 c q σ25) rfl) rfl rfl hl.1 rfl (lv_room (Nat.le_of_ble_eq_true rfl)) dX8_tellDeep_158 ⟨Nat.zero_le _, Nat.zero_le _⟩) hS (fun q _ h => h) (fun q h => h) (fun r30 σ31 t H1 locs1 ht hvm hw hB hz1 hk1 hS => ?_)
              have hP : va_P D vwCl (mw c q σ31) H1 := ht ▸ hB
              have hD : va_D (wdA 31 q) (mw c q σ31) := mw_D hD0
              refine lv_aload_n hx hb dX8_tellDeep_161 rfl (lv_at hl 2 rfl) ?_
              refine lv_iload_n hx hb dX8_tellDeep_162 rfl (lv_at hl 5 rfl) ?_
              refine lv_iload hx hb dX8_tellDeep_163 (lv_at hl 0 rfl) ?_
              refine va_calli (va_runV (As := [.int z3, .int v17]) (rest := [.int r30]) ⟨hx, hb, hml, hown, htb⟩ (kcX8_worst l D c q ev hev σ31 z3 v17 _ hw) (tb_CW htb kX8_worst tb_1599 tb_1601 tb_76 ⟨Nat.le_of_ble_eq_true rfl, Nat.le_of_ble_eq_true rfl⟩) (wd_preV (wd := mw c q) (k := 0) hev hK hP hD hE hS (mw_0 c q σ31) rfl) rfl rfl hl.1 rfl (lv_room (Nat.le_of_ble_eq_true rfl)) dX8_tellDeep_165 ⟨Nat.zero_le _, Nat.zero_le _⟩) hS (fun q _ h => h) (fun q h => h) (fun r32 σ33 t H1 locs1 ht hvm hw hB hz1 hk1 hS => ?_)
              have hP : va_P D vwCl (mw c q σ33) H1 := ht ▸ hB
              have hD : va_D (wdA 31 q) (mw c q σ33) := mw_D hD0
              refine lv_icmp_ne (tgt := 192) hx hb dX8_tellDeep_168 (by decide) (fun c34 => ?_) (fun c34 => ?_)
              · have hw := hw.2 c34
                refine lv_iconst (v := (0 : Int32)) hx hb dX8_tellDeep_192 (by decide) ?_
                refine lv_istore (lv' := [(7, .int (0 : Int32)), (6, .int v17), (5, .int v16), (0, .ref (q 0)), (1, .int z1), (2, .int z2), (3, .int z3), (4, .int y4)]) hx hb dX8_tellDeep_193 hl (by decide) rfl (fun ls hl => ?_)
                refine lv_iload hx hb dX8_tellDeep_195 (lv_at hl 0 rfl) ?_
                refine lv_if_ne (tgt := 203) hx hb dX8_tellDeep_197 (by decide) (fun h9 => absurd h9 (by decide)) (fun _ => ?_)
                refine lv_goto (tgt := 219) hx hb dX8_tellDeep_200 (by decide) ?_
                obtain ⟨v44, ev44⟩ : ∃ z : Int32, z = y4 + (1 : Int32) := ⟨_, rfl⟩
                have hw := hw v44 ev44
                refine lv_iinc (v := v44) (lv' := [(4, .int v44), (7, .int (0 : Int32)), (6, .int v17), (5, .int v16), (0, .ref (q 0)), (1, .int z1), (2, .int z2), (3, .int z3)]) hx hb dX8_tellDeep_219 hl (k := 7) rfl (by rw [ev44]; rfl) (by decide) rfl (fun ls hl => ?_)
                refine lv_goto (tgt := 83) hx hb dX8_tellDeep_222 (by decide) ?_
                exact ih v44 σ33 _ _ _ hw hk225 hP hS (lv_sub hl [4, 5, 6, 7, 0] rfl)
              · have hw := hw.1 c34
                refine lv_aload_n hx hb dX8_tellDeep_171 rfl (lv_at hl 2 rfl) ?_
                refine lv_iload_n hx hb dX8_tellDeep_172 rfl (lv_at hl 5 rfl) ?_
                refine lv_iload hx hb dX8_tellDeep_173 (lv_at hl 1 rfl) ?_
                refine va_calli (va_runV (As := [.int z3, .int v16]) (rest := []) ⟨hx, hb, hml, hown, htb⟩ (kcX8_sum l D c q ev hev σ33 z3 v16 _ hw) (tb_CW htb kX8_sum tb_1604 tb_1606 tb_77 ⟨Nat.le_of_ble_eq_true rfl, Nat.le_of_ble_eq_true rfl⟩) (wd_preV (wd := mw c q) (k := 0) hev hK hP hD hE hS (mw_0 c q σ33) rfl) rfl rfl hl.1 rfl (lv_room (Nat.le_of_ble_eq_true rfl)) dX8_tellDeep_175 ⟨Nat.zero_le _, Nat.zero_le _⟩) hS (fun q _ h => h) (fun q h => h) (fun r35 σ36 t H1 locs1 ht hvm hw hB hz1 hk1 hS => ?_)
                have hP : va_P D vwCl (mw c q σ36) H1 := ht ▸ hB
                have hD : va_D (wdA 31 q) (mw c q σ36) := mw_D hD0
                refine lv_aload_n hx hb dX8_tellDeep_178 rfl (lv_at hl 2 rfl) ?_
                refine lv_iload_n hx hb dX8_tellDeep_179 rfl (lv_at hl 5 rfl) ?_
                refine lv_iload hx hb dX8_tellDeep_180 (lv_at hl 0 rfl) ?_
                refine va_calli (va_runV (As := [.int z3, .int v17]) (rest := [.int r35]) ⟨hx, hb, hml, hown, htb⟩ (kcX8_sum l D c q ev hev σ36 z3 v17 _ hw) (tb_CW htb kX8_sum tb_1604 tb_1606 tb_77 ⟨Nat.le_of_ble_eq_true rfl, Nat.le_of_ble_eq_true rfl⟩) (wd_preV (wd := mw c q) (k := 0) hev hK hP hD hE hS (mw_0 c q σ36) rfl) rfl rfl hl.1 rfl (lv_room (Nat.le_of_ble_eq_true rfl)) dX8_tellDeep_182 ⟨Nat.zero_le _, Nat.zero_le _⟩) hS (fun q _ h => h) (fun q h => h) (fun r37 σ38 t H1 locs1 ht hvm hw hB hz1 hk1 hS => ?_)
                have hP : va_P D vwCl (mw c q σ38) H1 := ht ▸ hB
                have hD : va_D (wdA 31 q) (mw c q σ38) := mw_D hD0
                refine lv_icmp_ge (tgt := 192) hx hb dX8_tellDeep_185 (by decide) (fun c39 => ?_) (fun c39 => ?_)
                · have hw := hw.1 c39
                  refine lv_iconst (v := (0 : Int32)) hx hb dX8_tellDeep_192 (by decide) ?_
                  refine lv_istore (lv' := [(7, .int (0 : Int32)), (6, .int v17), (5, .int v16), (0, .ref (q 0)), (1, .int z1), (2, .int z2), (3, .int z3), (4, .int y4)]) hx hb dX8_tellDeep_193 hl (by decide) rfl (fun ls hl => ?_)
                  refine lv_iload hx hb dX8_tellDeep_195 (lv_at hl 0 rfl) ?_
                  refine lv_if_ne (tgt := 203) hx hb dX8_tellDeep_197 (by decide) (fun h9 => absurd h9 (by decide)) (fun _ => ?_)
                  refine lv_goto (tgt := 219) hx hb dX8_tellDeep_200 (by decide) ?_
                  obtain ⟨v40, ev40⟩ : ∃ z : Int32, z = y4 + (1 : Int32) := ⟨_, rfl⟩
                  have hw := hw v40 ev40
                  refine lv_iinc (v := v40) (lv' := [(4, .int v40), (7, .int (0 : Int32)), (6, .int v17), (5, .int v16), (0, .ref (q 0)), (1, .int z1), (2, .int z2), (3, .int z3)]) hx hb dX8_tellDeep_219 hl (k := 7) rfl (by rw [ev40]; rfl) (by decide) rfl (fun ls hl => ?_)
                  refine lv_goto (tgt := 83) hx hb dX8_tellDeep_222 (by decide) ?_
                  exact ih v40 σ38 _ _ _ hw hk225 hP hS (lv_sub hl [4, 5, 6, 7, 0] rfl)
                · have hw := hw.2 c39
                  refine lv_iconst (v := (1 : Int32)) hx hb dX8_tellDeep_188 (by decide) ?_
                  refine lv_goto (tgt := 193) hx hb dX8_tellDeep_189 (by decide) ?_
                  refine lv_istore (lv' := [(7, .int (1 : Int32)), (6, .int v17), (5, .int v16), (0, .ref (q 0)), (1, .int z1), (2, .int z2), (3, .int z3), (4, .int y4)]) hx hb dX8_tellDeep_193 hl (by decide) rfl (fun ls hl => ?_)
                  refine lv_iload hx hb dX8_tellDeep_195 (lv_at hl 0 rfl) ?_
                  refine lv_if_ne (tgt := 203) hx hb dX8_tellDeep_197 (by decide) (fun _ => ?_) (fun h9 => absurd h9 (by decide))
                  refine lv_aload_n hx hb dX8_tellDeep_203 rfl (lv_at hl 3 rfl) ?_
                  refine va_get (D := D) (ci := 8) (C := RX8) (T := TX8) (N := 57) hx hb htb inX8 hown hK hP 0 (mw_0 c q σ38) rfl 37 (by decide) (htb _ tb_1218) (fun _ h9 => h9) rfl dX8_tellDeep_204 ?_
                  refine lv_iload_n hx hb dX8_tellDeep_207 rfl (lv_at hl 4 rfl) ?_
                  refine lv_iload hx hb dX8_tellDeep_208 (lv_at hl 2 rfl) ?_
                  refine va_iast hx hb hK hP hD hS 18 17 (mw_18 c q σ38) rfl hw.1 dX8_tellDeep_210 (fun H locs hP hD hS => ?_)
                  have hw := hw.2
                  have hP : va_P D vwCl (mw c q (hsA σ38 18 (upd (σ38.2.1 18) z1.toNatClampNeg v16))) H := hP
                  obtain ⟨σ41, eσ41⟩ : ∃ z : hsS, z = hsA σ38 18 (upd (σ38.2.1 18) z1.toNatClampNeg v16) := ⟨_, rfl⟩
                  rw [← eσ41] at hP
                  have hD : va_D (wdA 31 q) (mw c q σ41) := mw_D hD0
                  have hw := hw σ41 eσ41
                  refine lv_aload_n hx hb dX8_tellDeep_211 rfl (lv_at hl 3 rfl) ?_
                  refine va_get (D := D) (ci := 8) (C := RX8) (T := TX8) (N := 57) hx hb htb inX8 hown hK hP 0 (mw_0 c q σ41) rfl 38 (by decide) (htb _ tb_1219) (fun _ h9 => h9) rfl dX8_tellDeep_212 ?_
                  refine lv_iload_n hx hb dX8_tellDeep_215 rfl (lv_at hl 4 rfl) ?_
                  refine lv_iload hx hb dX8_tellDeep_216 (lv_at hl 7 rfl) ?_
                  refine va_iast hx hb hK hP hD hS 19 18 (mw_19 c q σ41) rfl hw.1 dX8_tellDeep_218 (fun H locs hP hD hS => ?_)
                  have hw := hw.2
                  have hP : va_P D vwCl (mw c q (hsA σ41 19 (upd (σ41.2.1 19) z1.toNatClampNeg y4))) H := hP
                  obtain ⟨σ42, eσ42⟩ : ∃ z : hsS, z = hsA σ41 19 (upd (σ41.2.1 19) z1.toNatClampNeg y4) := ⟨_, rfl⟩
                  rw [← eσ42] at hP
                  have hD : va_D (wdA 31 q) (mw c q σ42) := mw_D hD0
                  have hw := hw σ42 eσ42
                  obtain ⟨v43, ev43⟩ : ∃ z : Int32, z = y4 + (1 : Int32) := ⟨_, rfl⟩
                  have hw := hw v43 ev43
                  refine lv_iinc (v := v43) (lv' := [(4, .int v43), (7, .int (1 : Int32)), (6, .int v17), (5, .int v16), (0, .ref (q 0)), (1, .int z1), (2, .int z2), (3, .int z3)]) hx hb dX8_tellDeep_219 hl (k := 7) rfl (by rw [ev43]; rfl) (by decide) rfl (fun ls hl => ?_)
                  refine lv_goto (tgt := 83) hx hb dX8_tellDeep_222 (by decide) ?_
                  exact ih v43 σ42 _ _ _ hw hk225 hP hS (lv_sub hl [4, 5, 6, 7, 0] rfl)
        · have hw := hw.1 c14
          refine lv_goto (tgt := 219) hx hb dX8_tellDeep_101 (by decide) ?_
          obtain ⟨v15, ev15⟩ : ∃ z : Int32, z = y4 + (1 : Int32) := ⟨_, rfl⟩
          have hw := hw v15 ev15
          refine lv_iinc (v := v15) (lv' := [(4, .int v15), (0, .ref (q 0)), (1, .int z1), (2, .int z2), (3, .int z3)]) hx hb dX8_tellDeep_219 hl (k := 4) rfl (by rw [ev15]; rfl) (by decide) rfl (fun ls hl => ?_)
          refine lv_goto (tgt := 83) hx hb dX8_tellDeep_222 (by decide) ?_
          exact ih v15 σ _ _ _ hw hk225 hP hS (lv_sub hl [1, 2, 3, 4, 0] rfl)
  have L26 : ∀ (K231 : Int32 → hsS → Prop) (n : Nat) (y1 : Int32) (σ : hsS) (H : Heap) (locs : List Loc) (ls : Array Slot), wX8_tellDeep_L26  K231 post n y1 σ → (∀ (y1 : Int32) (σ : hsS) (H : Heap) (locs : List Loc) (ls : Array Slot), K231 y1 σ → va_P D vwCl (mw c q σ) H → va_S (wdA 31 q) s.heap H locs → lv_has ls 8 [(0, .ref (q 0)), (1, .int y1)] → W p l e (headSpec (Cond.code yX8_tellDeep cX8_tellDeep 8 none :: tb_L) { frames := 2, cells := 0, slots := 0, locals := 64 }).room s m [.ref (q 0)].toArray below meth c₀ H locs 0 0 (MQ below (va_Qv post (wdB D (mw c q)) (wdA 31 q)) [.ref (q 0)].toArray s 0 0 (wdA 31 q)) (F0 m 231 ls [])) → va_P D vwCl (mw c q σ) H → va_S (wdA 31 q) s.heap H locs → lv_has ls 8 [(0, .ref (q 0)), (1, .int y1)] → W p l e (headSpec (Cond.code yX8_tellDeep cX8_tellDeep 8 none :: tb_L) { frames := 2, cells := 0, slots := 0, locals := 64 }).room s m [.ref (q 0)].toArray below meth c₀ H locs 0 0 (MQ below (va_Qv post (wdB D (mw c q)) (wdA 31 q)) [.ref (q 0)].toArray s 0 0 (wdA 31 q)) (F0 m 26 ls []) := by
    intro K231 n
    induction n with
    | zero =>
      intro y1 σ H locs ls hw hk231 hP hS hl
      exact (show False from hw).elim
    | succ n ih =>
      intro y1 σ H locs ls hw hk231 hP hS hl
      rw [wX8_tellDeep_L26] at hw
      have hD : va_D (wdA 31 q) (mw c q σ) := mw_D hD0
      refine lv_iload_n hx hb dX8_tellDeep_26 rfl (lv_at hl 1 rfl) ?_
      refine lv_iconst (v := (1 : Int32)) hx hb dX8_tellDeep_27 (by decide) ?_
      refine lv_aload_n hx hb dX8_tellDeep_28 rfl (lv_at hl 0 rfl) ?_
      refine va_get (D := D) (ci := 8) (C := RX8) (T := TX8) (N := 57) hx hb htb inX8 hown hK hP 0 (mw_0 c q σ) rfl 25 (by decide) (htb _ tb_1206) (fun _ h9 => h9) rfl dX8_tellDeep_29 ?_
      refine lv_ishl hx hb dX8_tellDeep_32 ?_
      refine lv_icmp_ge (tgt := 231) hx hb dX8_tellDeep_33 (by decide) (fun c5 => ?_) (fun c5 => ?_)
      · have hw := hw.1 c5
        exact hk231 y1 σ _ _ _ hw hP hS (lv_sub hl [0, 1] rfl)
      · have hw := hw.2 c5
        refine lv_aload_n hx hb dX8_tellDeep_36 rfl (lv_at hl 0 rfl) ?_
        refine va_get (D := D) (ci := 8) (C := RX8) (T := TX8) (N := 57) hx hb htb inX8 hown hK hP 0 (mw_0 c q σ) rfl 25 (by decide) (htb _ tb_1206) (fun _ h9 => h9) rfl dX8_tellDeep_37 ?_
        refine lv_iload_n hx hb dX8_tellDeep_40 rfl (lv_at hl 1 rfl) ?_
        refine va_calli (va_runS (As := [.int y1]) (rest := [.int (σ.1 25)]) ⟨hx, hb, hml, hown, htb⟩ (kcX8_sizeOf_m l D c q ev hev σ y1 _ hw) (tb_CS htb kX8_sizeOf tb_1493 tb_1494 ⟨Nat.le_of_ble_eq_true rfl, Nat.le_of_ble_eq_true rfl⟩) (wd_preS (wd := mw c q) hev hK hP hD hE hS) rfl rfl hl.1 rfl (lv_room (Nat.le_of_ble_eq_true rfl)) dX8_tellDeep_41 ⟨Nat.zero_le _, Nat.zero_le _⟩) hS (fun q _ h => h) (fun q h => h) (fun r6 σ7 t H1 locs1 ht hvm hw hB hz1 hk1 hS => ?_)
        have hP : va_P D vwCl (mw c q σ7) H1 := ht ▸ hB
        have hD : va_D (wdA 31 q) (mw c q σ7) := mw_D hD0
        refine lv_isub hx hb dX8_tellDeep_44 ?_
        refine lv_topi (fun v8 ev8 => ?_)
        have hw := hw v8 ev8
        refine lv_istore_n (lv' := [(2, .int v8), (0, .ref (q 0)), (1, .int y1)]) hx hb dX8_tellDeep_45 rfl hl (by decide) rfl (fun ls hl => ?_)
        refine lv_aload_n hx hb dX8_tellDeep_46 rfl (lv_at hl 1 rfl) ?_
        refine va_get (D := D) (ci := 8) (C := RX8) (T := TX8) (N := 57) hx hb htb inX8 hown hK hP 0 (mw_0 c q σ7) rfl 37 (by decide) (htb _ tb_1218) (fun _ h9 => h9) rfl dX8_tellDeep_47 ?_
        refine lv_iload_n hx hb dX8_tellDeep_50 rfl (lv_at hl 2 rfl) ?_
        refine lv_iload_n hx hb dX8_tellDeep_51 rfl (lv_at hl 2 rfl) ?_
        refine va_iast hx hb hK hP hD hS 18 17 (mw_18 c q σ7) rfl hw.1 dX8_tellDeep_52 (fun H locs hP hD hS => ?_)
        have hw := hw.2
        have hP : va_P D vwCl (mw c q (hsA σ7 18 (upd (σ7.2.1 18) y1.toNatClampNeg y1))) H := hP
        obtain ⟨σ9, eσ9⟩ : ∃ z : hsS, z = hsA σ7 18 (upd (σ7.2.1 18) y1.toNatClampNeg y1) := ⟨_, rfl⟩
        rw [← eσ9] at hP
        have hD : va_D (wdA 31 q) (mw c q σ9) := mw_D hD0
        have hw := hw σ9 eσ9
        refine lv_aload_n hx hb dX8_tellDeep_53 rfl (lv_at hl 1 rfl) ?_
        refine va_get (D := D) (ci := 8) (C := RX8) (T := TX8) (N := 57) hx hb htb inX8 hown hK hP 0 (mw_0 c q σ9) rfl 38 (by decide) (htb _ tb_1219) (fun _ h9 => h9) rfl dX8_tellDeep_54 ?_
        refine lv_iload_n hx hb dX8_tellDeep_57 rfl (lv_at hl 2 rfl) ?_
        refine lv_iconst (v := (-1 : Int32)) hx hb dX8_tellDeep_58 (by decide) ?_
        refine va_iast hx hb hK hP hD hS 19 18 (mw_19 c q σ9) rfl hw.1 dX8_tellDeep_59 (fun H locs hP hD hS => ?_)
        have hw := hw.2
        have hP : va_P D vwCl (mw c q (hsA σ9 19 (upd (σ9.2.1 19) y1.toNatClampNeg (-1 : Int32)))) H := hP
        obtain ⟨σ10, eσ10⟩ : ∃ z : hsS, z = hsA σ9 19 (upd (σ9.2.1 19) y1.toNatClampNeg (-1 : Int32)) := ⟨_, rfl⟩
        rw [← eσ10] at hP
        have hD : va_D (wdA 31 q) (mw c q σ10) := mw_D hD0
        have hw := hw σ10 eσ10
        refine lv_iload_n hx hb dX8_tellDeep_60 rfl (lv_at hl 0 rfl) ?_
        refine lv_aload_n hx hb dX8_tellDeep_61 rfl (lv_at hl 1 rfl) ?_
        refine va_get (D := D) (ci := 8) (C := RX8) (T := TX8) (N := 57) hx hb htb inX8 hown hK hP 0 (mw_0 c q σ10) rfl 6 (by decide) (htb _ tb_1187) (fun _ h9 => h9) rfl dX8_tellDeep_62 ?_
        refine lv_iconst (v := (0 : Int32)) hx hb dX8_tellDeep_65 (by decide) ?_
        refine va_iald hx hb hK hP 6 5 (mw_6 c q σ10) rfl (by unfold vp_in; decide) dX8_tellDeep_66 ?_
        refine lv_icmp_lt (tgt := 73) hx hb dX8_tellDeep_67 (by decide) (fun c11 => ?_) (fun c11 => ?_)
        · have hw := hw.1 c11
          refine lv_aload_n hx hb dX8_tellDeep_73 rfl (lv_at hl 1 rfl) ?_
          refine va_get (D := D) (ci := 8) (C := RX8) (T := TX8) (N := 57) hx hb htb inX8 hown hK hP 0 (mw_0 c q σ10) rfl 10 (by decide) (htb _ tb_1191) (fun _ h9 => h9) rfl dX8_tellDeep_74 ?_
          refine lv_iload_n hx hb dX8_tellDeep_77 rfl (lv_at hl 0 rfl) ?_
          refine va_iald hx hb hK hP 10 9 (mw_10 c q σ10) rfl hw.1 dX8_tellDeep_78 ?_
          have hw := hw.2
          refine lv_topi (fun v12 ev12 => ?_)
          have hw := hw v12 ev12
          refine lv_istore_n (lv' := [(3, .int v12), (2, .int v8), (0, .ref (q 0)), (1, .int y1)]) hx hb dX8_tellDeep_79 rfl hl (by decide) rfl (fun ls hl => ?_)
          refine lv_iconst (v := (0 : Int32)) hx hb dX8_tellDeep_80 (by decide) ?_
          refine lv_istore (lv' := [(4, .int (0 : Int32)), (3, .int v12), (2, .int v8), (0, .ref (q 0)), (1, .int y1)]) hx hb dX8_tellDeep_81 hl (by decide) rfl (fun ls hl => ?_)
          obtain ⟨n45, hw⟩ := hw
          refine L83 _ y1 v8 v12 n45 (0 : Int32) σ10 _ _ _ hw ?_ hP hS (lv_sub hl [3, 4, 2, 1, 0] rfl)
          intro v46 σ47 H locs ls hw hP hS hl
          have hD : va_D (wdA 31 q) (mw c q σ47) := mw_D hD0
          obtain ⟨v48, ev48⟩ : ∃ z : Int32, z = y1 + (1 : Int32) := ⟨_, rfl⟩
          have hw := hw v48 ev48
          refine lv_iinc (v := v48) (lv' := [(1, .int v48), (0, .ref (q 0)), (2, .int v8), (3, .int v12), (4, .int v46)]) hx hb dX8_tellDeep_225 hl (k := 1) rfl (by rw [ev48]; rfl) (by decide) rfl (fun ls hl => ?_)
          refine lv_goto (tgt := 26) hx hb dX8_tellDeep_228 (by decide) ?_
          exact ih v48 σ47 _ _ _ hw hk231 hP hS (lv_sub hl [1, 0] rfl)
        · have hw := hw.2 c11
          refine lv_goto (tgt := 225) hx hb dX8_tellDeep_70 (by decide) ?_
          obtain ⟨v49, ev49⟩ : ∃ z : Int32, z = y1 + (1 : Int32) := ⟨_, rfl⟩
          have hw := hw v49 ev49
          refine lv_iinc (v := v49) (lv' := [(1, .int v49), (2, .int v8), (0, .ref (q 0))]) hx hb dX8_tellDeep_225 hl (k := 2) rfl (by rw [ev49]; rfl) (by decide) rfl (fun ls hl => ?_)
          refine lv_goto (tgt := 26) hx hb dX8_tellDeep_228 (by decide) ?_
          exact ih v49 σ10 _ _ _ hw hk231 hP hS (lv_sub hl [2, 0] rfl)
  have hl := lv_entry ([.ref (q 0)]) (n := 8) (Nat.le_of_ble_eq_true rfl)
  rw [lg_entry_eq]
  generalize (lg_sl ([.ref (q 0)]) ++ List.replicate (8 - (lg_sl ([.ref (q 0)])).length) Slot.unset).toArray = ls at hl ⊢
  have hl : lv_has ls 8 [(0, .ref (q 0))] := hl
  unfold wX8_tellDeep at hw
  refine lv_aload_n hx hb dX8_tellDeep_0 rfl (lv_at hl 0 rfl) ?_
  refine va_callv (va_runV (As := []) (rest := []) ⟨hx, hb, hml, hown, htb⟩ (kcX8_look l D c q ev hev σ  _ hw) (tb_CW htb kX8_look tb_1500 tb_1502 tb_63 ⟨Nat.le_of_ble_eq_true rfl, Nat.le_of_ble_eq_true rfl⟩) (wd_preV (wd := mw c q) (k := 0) hev hK hP hD hE hS (mw_0 c q σ) rfl) rfl rfl hl.1 rfl (lv_room (Nat.le_of_ble_eq_true rfl)) dX8_tellDeep_1 ⟨Nat.zero_le _, Nat.zero_le _⟩) hS (fun q _ h => h) (fun q h => h) (fun σ2 t H1 locs1 ht hvm hw hB hz1 hk1 hS => ?_)
  have hP : va_P D vwCl (mw c q σ2) H1 := ht ▸ hB
  have hD : va_D (wdA 31 q) (mw c q σ2) := mw_D hD0
  refine lv_aload_n hx hb dX8_tellDeep_4 rfl (lv_at hl 0 rfl) ?_
  refine va_get (D := D) (ci := 8) (C := RX8) (T := TX8) (N := 57) hx hb htb inX8 hown hK hP 0 (mw_0 c q σ2) rfl 39 (by decide) (htb _ tb_1220) (fun _ h9 => h9) rfl dX8_tellDeep_5 ?_
  refine lv_aload_n hx hb dX8_tellDeep_8 rfl (lv_at hl 0 rfl) ?_
  refine va_get (D := D) (ci := 8) (C := RX8) (T := TX8) (N := 57) hx hb htb inX8 hown hK hP 0 (mw_0 c q σ2) rfl 12 (by decide) (htb _ tb_1193) (fun _ h9 => h9) rfl dX8_tellDeep_9 ?_
  refine lv_icmp_ne (tgt := 16) hx hb dX8_tellDeep_12 (by decide) (fun c3 => ?_) (fun c3 => ?_)
  · have hw := hw.2 c3
    refine lv_aload_n hx hb dX8_tellDeep_16 rfl (lv_at hl 0 rfl) ?_
    refine lv_aload_n hx hb dX8_tellDeep_17 rfl (lv_at hl 0 rfl) ?_
    refine va_get (D := D) (ci := 8) (C := RX8) (T := TX8) (N := 57) hx hb htb inX8 hown hK hP 0 (mw_0 c q σ2) rfl 12 (by decide) (htb _ tb_1193) (fun _ h9 => h9) rfl dX8_tellDeep_18 ?_
    refine va_put (D := D) (ci := 8) (ty := .int) (C := RX8) (T := TX8) (N := 57) hx hb htb inX8 tyX8 tyX8_ok nmX8 hown hK hP hD hS 0 (mw_0 c q σ2) rfl 39 (by decide) (htb _ tb_1220) (fun _ h9 => h9) rfl (by decide +kernel) rfl rfl (Nat.le_of_ble_eq_true rfl) dX8_tellDeep_21 (fun H locs hP hD hS => ?_)
    have hP : va_P D vwCl (mw c q (hsI σ2 39 (σ2.1 12))) H := hP
    obtain ⟨σ4, eσ4⟩ : ∃ z : hsS, z = hsI σ2 39 (σ2.1 12) := ⟨_, rfl⟩
    rw [← eσ4] at hP
    have hD : va_D (wdA 31 q) (mw c q σ4) := mw_D hD0
    have hw := hw σ4 eσ4
    refine lv_iconst (v := (0 : Int32)) hx hb dX8_tellDeep_24 (by decide) ?_
    refine lv_istore_n (lv' := [(1, .int (0 : Int32)), (0, .ref (q 0))]) hx hb dX8_tellDeep_25 rfl hl (by decide) rfl (fun ls hl => ?_)
    obtain ⟨n50, hw⟩ := hw
    refine L26 _ n50 (0 : Int32) σ4 _ _ _ hw ?_ hP hS (lv_sub hl [1, 0] rfl)
    intro v51 σ52 H locs ls hw hP hS hl
    have hD : va_D (wdA 31 q) (mw c q σ52) := mw_D hD0
    exact W.vret hx hb hr (fun t ht hW => ⟨⟨σ52, rfl, hw, by unfold wdB; rw [ht]; exact hP⟩, hS.F ht⟩) hS.2.2 dX8_tellDeep_231
  · have hw := hw.1 c3
    exact W.vret hx hb hr (fun t ht hW => ⟨⟨σ2, rfl, hw, by unfold wdB; rw [ht]; exact hP⟩, hS.F ht⟩) hS.2.2 dX8_tellDeep_15
def wX8_deep  (post : Int32 → hsS → Prop) (σ : hsS) : Prop := ∀ σ1 : hsS, σ1 = hsI σ 0 (0 : Int32) → wX8_tellDeep  (fun σ3 => vp_in (((1 : Int32) <<< ((σ3.1 25) &&& 31)) - (1 : Int32)) 1024 ∧ post (σ3.2.1 18 (((1 : Int32) <<< ((σ3.1 25) &&& 31)) - (1 : Int32)).toNatClampNeg) σ3) σ1
set_option maxHeartbeats 4000000 in
set_option maxRecDepth 100000 in
theorem kcX8_deep (l : Launch) (D : va_G) (c : Nat → ClassId) (q : Nat → Nat) (ev : State → Heap → Prop) (hev : evOK (wdA 31 q) ev) (σ : hsS)  (post : Int32 → hsS → Prop) (hw : wX8_deep  post σ) : Met l yX8_deep (Cond.code yX8_deep cX8_deep 1 (some .int) :: tb_L) { frames := 3, cells := 0, slots := 0, locals := 91 } (wdPc D (mw c q) (mwT c) (wdA 31 q) ev σ [.ref (q 0)]) (va_Qi post (wdB D (mw c q)) (wdA 31 q)) 0 0 (wdA 31 q) := by
  refine Met.ofW (cc := cX8_deep) (maxL := 1) (ret := (some .int)) (by decide) rfl ?_
  intro p e s m args below meth c₀ s₁ Bd hml hv
  obtain ⟨rfl, hP, hK, hD0, hE⟩ := hv
  have hx := Bd.exec
  have hb := Bd.bytes
  have hr := Bd.returns
  have hts := atoms_spec (ws := Cond.code yX8_deep cX8_deep 1 (some .int) :: tb_L) Bd.pre
  have htb : ∀ w ∈ tb_L, w.before [.ref (q 0)].toArray s = true := fun w h => hts w (List.mem_cons_of_mem _ h)
  have hown : s.vm.findClass RX8 = some m.cls := findClass_of_methodNamed Bd.named
  have hlocks := Bd.notSynchronized
  have hS : va_S (wdA 31 q) s.heap s.heap [] := va_S.rf
  have hD := hD0
  have hl := lv_entry ([.ref (q 0)]) (n := 1) (Nat.le_of_ble_eq_true rfl)
  rw [lg_entry_eq]
  generalize (lg_sl ([.ref (q 0)]) ++ List.replicate (1 - (lg_sl ([.ref (q 0)])).length) Slot.unset).toArray = ls at hl ⊢
  have hl : lv_has ls 1 [(0, .ref (q 0))] := hl
  unfold wX8_deep at hw
  refine lv_aload_n hx hb dX8_deep_0 rfl (lv_at hl 0 rfl) ?_
  refine lv_iconst (v := (0 : Int32)) hx hb dX8_deep_1 (by decide) ?_
  refine va_put (D := D) (ci := 8) (ty := .int) (C := RX8) (T := TX8) (N := 57) hx hb htb inX8 tyX8 tyX8_ok nmX8 hown hK hP hD hS 0 (mw_0 c q σ) rfl 0 (by decide) (htb _ tb_1181) (fun _ h9 => h9) rfl (by decide +kernel) rfl rfl (Nat.le_of_ble_eq_true rfl) dX8_deep_2 (fun H locs hP hD hS => ?_)
  have hP : va_P D vwCl (mw c q (hsI σ 0 (0 : Int32))) H := hP
  obtain ⟨σ1, eσ1⟩ : ∃ z : hsS, z = hsI σ 0 (0 : Int32) := ⟨_, rfl⟩
  rw [← eσ1] at hP
  have hD : va_D (wdA 31 q) (mw c q σ1) := mw_D hD0
  have hw := hw σ1 eσ1
  refine lv_aload_n hx hb dX8_deep_5 rfl (lv_at hl 0 rfl) ?_
  refine va_callv (va_runV (As := []) (rest := []) ⟨hx, hb, hml, hown, htb⟩ (kcX8_tellDeep l D c q ev hev σ1  _ hw) (tb_CW htb kX8_tellDeep tb_1595 tb_1597 tb_75 ⟨Nat.le_of_ble_eq_true rfl, Nat.le_of_ble_eq_true rfl⟩) (wd_preV (wd := mw c q) (k := 0) hev hK hP hD hE hS (mw_0 c q σ1) rfl) rfl rfl hl.1 rfl (lv_room (Nat.le_of_ble_eq_true rfl)) dX8_deep_6 ⟨Nat.zero_le _, Nat.zero_le _⟩) hS (fun q _ h => h) (fun q h => h) (fun σ3 t H1 locs1 ht hvm hw hB hz1 hk1 hS => ?_)
  have hP : va_P D vwCl (mw c q σ3) H1 := ht ▸ hB
  have hD : va_D (wdA 31 q) (mw c q σ3) := mw_D hD0
  refine lv_aload_n hx hb dX8_deep_9 rfl (lv_at hl 0 rfl) ?_
  refine va_get (D := D) (ci := 8) (C := RX8) (T := TX8) (N := 57) hx hb htb inX8 hown hK hP 0 (mw_0 c q σ3) rfl 37 (by decide) (htb _ tb_1218) (fun _ h9 => h9) rfl dX8_deep_10 ?_
  refine lv_iconst (v := (1 : Int32)) hx hb dX8_deep_13 (by decide) ?_
  refine lv_aload_n hx hb dX8_deep_14 rfl (lv_at hl 0 rfl) ?_
  refine va_get (D := D) (ci := 8) (C := RX8) (T := TX8) (N := 57) hx hb htb inX8 hown hK hP 0 (mw_0 c q σ3) rfl 25 (by decide) (htb _ tb_1206) (fun _ h9 => h9) rfl dX8_deep_15 ?_
  refine lv_ishl hx hb dX8_deep_18 ?_
  refine lv_iconst (v := (1 : Int32)) hx hb dX8_deep_19 (by decide) ?_
  refine lv_isub hx hb dX8_deep_20 ?_
  refine va_iald hx hb hK hP 18 17 (mw_18 c q σ3) rfl hw.1 dX8_deep_21 ?_
  have hw := hw.2
  exact W.iret hx hb hr (fun t ht hW => ⟨⟨_, σ3, rfl, hw, by unfold wdB; rw [ht]; exact hP⟩, hS.F ht⟩) hS.2.2 dX8_deep_22
def wX8_first  (post : Int32 → hsS → Prop) (σ : hsS) : Prop := ∀ σ1 : hsS, σ1 = hsI σ 0 (0 : Int32) → wX8_tellDeep  (fun σ3 => vp_in (((1 : Int32) <<< ((σ3.1 25) &&& 31)) - (1 : Int32)) 1024 ∧ post (σ3.2.1 19 (((1 : Int32) <<< ((σ3.1 25) &&& 31)) - (1 : Int32)).toNatClampNeg) σ3) σ1
set_option maxHeartbeats 4000000 in
set_option maxRecDepth 100000 in
theorem kcX8_first (l : Launch) (D : va_G) (c : Nat → ClassId) (q : Nat → Nat) (ev : State → Heap → Prop) (hev : evOK (wdA 31 q) ev) (σ : hsS)  (post : Int32 → hsS → Prop) (hw : wX8_first  post σ) : Met l yX8_first (Cond.code yX8_first cX8_first 1 (some .int) :: tb_L) { frames := 3, cells := 0, slots := 0, locals := 91 } (wdPc D (mw c q) (mwT c) (wdA 31 q) ev σ [.ref (q 0)]) (va_Qi post (wdB D (mw c q)) (wdA 31 q)) 0 0 (wdA 31 q) := by
  refine Met.ofW (cc := cX8_first) (maxL := 1) (ret := (some .int)) (by decide) rfl ?_
  intro p e s m args below meth c₀ s₁ Bd hml hv
  obtain ⟨rfl, hP, hK, hD0, hE⟩ := hv
  have hx := Bd.exec
  have hb := Bd.bytes
  have hr := Bd.returns
  have hts := atoms_spec (ws := Cond.code yX8_first cX8_first 1 (some .int) :: tb_L) Bd.pre
  have htb : ∀ w ∈ tb_L, w.before [.ref (q 0)].toArray s = true := fun w h => hts w (List.mem_cons_of_mem _ h)
  have hown : s.vm.findClass RX8 = some m.cls := findClass_of_methodNamed Bd.named
  have hlocks := Bd.notSynchronized
  have hS : va_S (wdA 31 q) s.heap s.heap [] := va_S.rf
  have hD := hD0
  have hl := lv_entry ([.ref (q 0)]) (n := 1) (Nat.le_of_ble_eq_true rfl)
  rw [lg_entry_eq]
  generalize (lg_sl ([.ref (q 0)]) ++ List.replicate (1 - (lg_sl ([.ref (q 0)])).length) Slot.unset).toArray = ls at hl ⊢
  have hl : lv_has ls 1 [(0, .ref (q 0))] := hl
  unfold wX8_first at hw
  refine lv_aload_n hx hb dX8_first_0 rfl (lv_at hl 0 rfl) ?_
  refine lv_iconst (v := (0 : Int32)) hx hb dX8_first_1 (by decide) ?_
  refine va_put (D := D) (ci := 8) (ty := .int) (C := RX8) (T := TX8) (N := 57) hx hb htb inX8 tyX8 tyX8_ok nmX8 hown hK hP hD hS 0 (mw_0 c q σ) rfl 0 (by decide) (htb _ tb_1181) (fun _ h9 => h9) rfl (by decide +kernel) rfl rfl (Nat.le_of_ble_eq_true rfl) dX8_first_2 (fun H locs hP hD hS => ?_)
  have hP : va_P D vwCl (mw c q (hsI σ 0 (0 : Int32))) H := hP
  obtain ⟨σ1, eσ1⟩ : ∃ z : hsS, z = hsI σ 0 (0 : Int32) := ⟨_, rfl⟩
  rw [← eσ1] at hP
  have hD : va_D (wdA 31 q) (mw c q σ1) := mw_D hD0
  have hw := hw σ1 eσ1
  refine lv_aload_n hx hb dX8_first_5 rfl (lv_at hl 0 rfl) ?_
  refine va_callv (va_runV (As := []) (rest := []) ⟨hx, hb, hml, hown, htb⟩ (kcX8_tellDeep l D c q ev hev σ1  _ hw) (tb_CW htb kX8_tellDeep tb_1595 tb_1597 tb_75 ⟨Nat.le_of_ble_eq_true rfl, Nat.le_of_ble_eq_true rfl⟩) (wd_preV (wd := mw c q) (k := 0) hev hK hP hD hE hS (mw_0 c q σ1) rfl) rfl rfl hl.1 rfl (lv_room (Nat.le_of_ble_eq_true rfl)) dX8_first_6 ⟨Nat.zero_le _, Nat.zero_le _⟩) hS (fun q _ h => h) (fun q h => h) (fun σ3 t H1 locs1 ht hvm hw hB hz1 hk1 hS => ?_)
  have hP : va_P D vwCl (mw c q σ3) H1 := ht ▸ hB
  have hD : va_D (wdA 31 q) (mw c q σ3) := mw_D hD0
  refine lv_aload_n hx hb dX8_first_9 rfl (lv_at hl 0 rfl) ?_
  refine va_get (D := D) (ci := 8) (C := RX8) (T := TX8) (N := 57) hx hb htb inX8 hown hK hP 0 (mw_0 c q σ3) rfl 38 (by decide) (htb _ tb_1219) (fun _ h9 => h9) rfl dX8_first_10 ?_
  refine lv_iconst (v := (1 : Int32)) hx hb dX8_first_13 (by decide) ?_
  refine lv_aload_n hx hb dX8_first_14 rfl (lv_at hl 0 rfl) ?_
  refine va_get (D := D) (ci := 8) (C := RX8) (T := TX8) (N := 57) hx hb htb inX8 hown hK hP 0 (mw_0 c q σ3) rfl 25 (by decide) (htb _ tb_1206) (fun _ h9 => h9) rfl dX8_first_15 ?_
  refine lv_ishl hx hb dX8_first_18 ?_
  refine lv_iconst (v := (1 : Int32)) hx hb dX8_first_19 (by decide) ?_
  refine lv_isub hx hb dX8_first_20 ?_
  refine va_iald hx hb hK hP 19 18 (mw_19 c q σ3) rfl hw.1 dX8_first_21 ?_
  have hw := hw.2
  exact W.iret hx hb hr (fun t ht hW => ⟨⟨_, σ3, rfl, hw, by unfold wdB; rw [ht]; exact hP⟩, hS.F ht⟩) hS.2.2 dX8_first_22
def wX8_nextOrder_L4 (z1 : Int32) (K31 : Int32 → hsS → Prop) (post : Int32 → hsS → Prop) : Nat → Int32 → hsS → Prop
  | 0, _, _ => False
  | n + 1, y2, σ => ((y2 < (0 : Int32) → K31 y2 σ) ∧ (¬ y2 < (0 : Int32) → vp_in y2 5 ∧ vp_in (y2 + (1 : Int32)) 5 ∧ (((σ.2.1 20 y2.toNatClampNeg) ≤ (σ.2.1 20 (y2 + (1 : Int32)).toNatClampNeg) → K31 y2 σ) ∧ (¬ (σ.2.1 20 y2.toNatClampNeg) ≤ (σ.2.1 20 (y2 + (1 : Int32)).toNatClampNeg) → ∀ v4 : Int32, v4 = y2 + (-1 : Int32) → wX8_nextOrder_L4 z1 K31 post n v4 σ))))
def wX8_nextOrder_L41 (z1 : Int32) (z2 : Int32) (K62 : Int32 → hsS → Prop) (post : Int32 → hsS → Prop) : Nat → Int32 → hsS → Prop
  | 0, _, _ => False
  | n + 1, y3, σ => vp_in y3 5 ∧ vp_in z2 5 ∧ (((σ.2.1 20 z2.toNatClampNeg) ≤ (σ.2.1 20 y3.toNatClampNeg) → K62 y3 σ) ∧ (¬ (σ.2.1 20 z2.toNatClampNeg) ≤ (σ.2.1 20 y3.toNatClampNeg) → ∀ v11 : Int32, v11 = y3 + (-1 : Int32) → wX8_nextOrder_L41 z1 z2 K62 post n v11 σ))
def wX8_nextOrder_L100 (z1 : Int32) (z2 : Int32) (z3 : Int32) (K148 : Int32 → Int32 → Int32 → hsS → Prop) (post : Int32 → hsS → Prop) : Nat → Int32 → Int32 → Int32 → hsS → Prop
  | 0, _, _, _, _ => False
  | n + 1, y4, y5, y6, σ => ((y6 ≤ y5 → K148 y4 y5 y6 σ) ∧ (¬ y6 ≤ y5 → vp_in y5 5 ∧ ∀ v21 : Int32, v21 = σ.2.1 20 y5.toNatClampNeg → vp_in y6 5 ∧ vp_in y5 5 ∧ ∀ σ22 : hsS, σ22 = hsA σ 20 (upd (σ.2.1 20) y5.toNatClampNeg (σ.2.1 20 y6.toNatClampNeg)) → vp_in y6 5 ∧ ∀ σ23 : hsS, σ23 = hsA σ22 20 (upd (σ22.2.1 20) y6.toNatClampNeg v21) → ∀ v24 : Int32, v24 = y6 + (-1 : Int32) → ∀ v25 : Int32, v25 = y5 + (1 : Int32) → wX8_nextOrder_L100 z1 z2 z3 K148 post n v21 v25 v24 σ23))
def wX8_nextOrder (x1 : Int32) (post : Int32 → hsS → Prop) (σ : hsS) : Prop := ∀ v1 : Int32, v1 = x1 - (2 : Int32) → ∃ n5, wX8_nextOrder_L4 x1 (fun v6 σ7 => (((0 : Int32) ≤ v6 → ∀ v9 : Int32, v9 = x1 - (1 : Int32) → ∃ n12, wX8_nextOrder_L41 x1 v6 (fun v13 σ14 => vp_in v6 5 ∧ ∀ v15 : Int32, v15 = σ14.2.1 20 v6.toNatClampNeg → vp_in v13 5 ∧ vp_in v6 5 ∧ ∀ σ16 : hsS, σ16 = hsA σ14 20 (upd (σ14.2.1 20) v6.toNatClampNeg (σ14.2.1 20 v13.toNatClampNeg)) → vp_in v13 5 ∧ ∀ σ17 : hsS, σ17 = hsA σ16 20 (upd (σ16.2.1 20) v13.toNatClampNeg v15) → ∀ v18 : Int32, v18 = v6 + (1 : Int32) → ∀ v19 : Int32, v19 = x1 - (1 : Int32) → ∃ n26, wX8_nextOrder_L100 x1 v6 v13 (fun v27 v28 v29 σ30 => post (1 : Int32) σ30) post n26 v15 v18 v19 σ17) post n12 v9 σ7) ∧ (¬ (0 : Int32) ≤ v6 → post (0 : Int32) σ7))) post n5 v1 σ
set_option maxHeartbeats 4000000 in
set_option maxRecDepth 100000 in
theorem kcX8_nextOrder (l : Launch) (D : va_G) (c : Nat → ClassId) (q : Nat → Nat) (ev : State → Heap → Prop) (hev : evOK (wdA 31 q) ev) (σ : hsS) (x1 : Int32) (post : Int32 → hsS → Prop) (hw : wX8_nextOrder x1 post σ) : Met l yX8_nextOrder (Cond.code yX8_nextOrder cX8_nextOrder 7 (some .boolean) :: tb_L) { frames := 0, cells := 0, slots := 0, locals := 0 } (wdPc D (mw c q) (mwT c) (wdA 31 q) ev σ [.ref (q 0), .int x1]) (va_Qi post (wdB D (mw c q)) (wdA 31 q)) 0 0 (wdA 31 q) := by
  refine Met.ofW (cc := cX8_nextOrder) (maxL := 7) (ret := (some .boolean)) (by decide) rfl ?_
  intro p e s m args below meth c₀ s₁ Bd hml hv
  obtain ⟨rfl, hP, hK, hD0, hE⟩ := hv
  have hx := Bd.exec
  have hb := Bd.bytes
  have hr := Bd.returns
  have hts := atoms_spec (ws := Cond.code yX8_nextOrder cX8_nextOrder 7 (some .boolean) :: tb_L) Bd.pre
  have htb : ∀ w ∈ tb_L, w.before [.ref (q 0), .int x1].toArray s = true := fun w h => hts w (List.mem_cons_of_mem _ h)
  have hown : s.vm.findClass RX8 = some m.cls := findClass_of_methodNamed Bd.named
  have hlocks := Bd.notSynchronized
  have hS : va_S (wdA 31 q) s.heap s.heap [] := va_S.rf
  have hD := hD0
  have L4 : ∀ (K31 : Int32 → hsS → Prop) (z1 : Int32) (n : Nat) (y2 : Int32) (σ : hsS) (H : Heap) (locs : List Loc) (ls : Array Slot), wX8_nextOrder_L4 z1 K31 post n y2 σ → (∀ (y2 : Int32) (σ : hsS) (H : Heap) (locs : List Loc) (ls : Array Slot), K31 y2 σ → va_P D vwCl (mw c q σ) H → va_S (wdA 31 q) s.heap H locs → lv_has ls 7 [(0, .ref (q 0)), (1, .int z1), (2, .int y2)] → W p l e (headSpec (Cond.code yX8_nextOrder cX8_nextOrder 7 (some .boolean) :: tb_L) { frames := 0, cells := 0, slots := 0, locals := 0 }).room s m [.ref (q 0), .int x1].toArray below meth c₀ H locs 0 0 (MQ below (va_Qi post (wdB D (mw c q)) (wdA 31 q)) [.ref (q 0), .int x1].toArray s 0 0 (wdA 31 q)) (F0 m 31 ls [])) → va_P D vwCl (mw c q σ) H → va_S (wdA 31 q) s.heap H locs → lv_has ls 7 [(0, .ref (q 0)), (1, .int z1), (2, .int y2)] → W p l e (headSpec (Cond.code yX8_nextOrder cX8_nextOrder 7 (some .boolean) :: tb_L) { frames := 0, cells := 0, slots := 0, locals := 0 }).room s m [.ref (q 0), .int x1].toArray below meth c₀ H locs 0 0 (MQ below (va_Qi post (wdB D (mw c q)) (wdA 31 q)) [.ref (q 0), .int x1].toArray s 0 0 (wdA 31 q)) (F0 m 4 ls []) := by
    intro K31 z1 n
    induction n with
    | zero =>
      intro y2 σ H locs ls hw hk31 hP hS hl
      exact (show False from hw).elim
    | succ n ih =>
      intro y2 σ H locs ls hw hk31 hP hS hl
      rw [wX8_nextOrder_L4] at hw
      have hD : va_D (wdA 31 q) (mw c q σ) := mw_D hD0
      refine lv_iload_n hx hb dX8_nextOrder_4 rfl (lv_at hl 2 rfl) ?_
      refine lv_if_lt (tgt := 31) hx hb dX8_nextOrder_5 (by decide) (fun c2 => ?_) (fun c2 => ?_)
      · have hw := hw.1 c2
        exact hk31 y2 σ _ _ _ hw hP hS (lv_sub hl [0, 1, 2] rfl)
      · have hw := hw.2 c2
        refine lv_aload_n hx hb dX8_nextOrder_8 rfl (lv_at hl 0 rfl) ?_
        refine va_get (D := D) (ci := 8) (C := RX8) (T := TX8) (N := 57) hx hb htb inX8 hown hK hP 0 (mw_0 c q σ) rfl 40 (by decide) (htb _ tb_1221) (fun _ h9 => h9) rfl dX8_nextOrder_9 ?_
        refine lv_iload_n hx hb dX8_nextOrder_12 rfl (lv_at hl 2 rfl) ?_
        refine va_iald hx hb hK hP 20 19 (mw_20 c q σ) rfl hw.1 dX8_nextOrder_13 ?_
        have hw := hw.2
        refine lv_aload_n hx hb dX8_nextOrder_14 rfl (lv_at hl 0 rfl) ?_
        refine va_get (D := D) (ci := 8) (C := RX8) (T := TX8) (N := 57) hx hb htb inX8 hown hK hP 0 (mw_0 c q σ) rfl 40 (by decide) (htb _ tb_1221) (fun _ h9 => h9) rfl dX8_nextOrder_15 ?_
        refine lv_iload_n hx hb dX8_nextOrder_18 rfl (lv_at hl 2 rfl) ?_
        refine lv_iconst (v := (1 : Int32)) hx hb dX8_nextOrder_19 (by decide) ?_
        refine lv_iadd hx hb dX8_nextOrder_20 ?_
        refine va_iald hx hb hK hP 20 19 (mw_20 c q σ) rfl hw.1 dX8_nextOrder_21 ?_
        have hw := hw.2
        refine lv_icmp_le (tgt := 31) hx hb dX8_nextOrder_22 (by decide) (fun c3 => ?_) (fun c3 => ?_)
        · have hw := hw.1 c3
          exact hk31 y2 σ _ _ _ hw hP hS (lv_sub hl [0, 1, 2] rfl)
        · have hw := hw.2 c3
          obtain ⟨v4, ev4⟩ : ∃ z : Int32, z = y2 + (-1 : Int32) := ⟨_, rfl⟩
          have hw := hw v4 ev4
          refine lv_iinc (v := v4) (lv' := [(2, .int v4), (0, .ref (q 0)), (1, .int z1)]) hx hb dX8_nextOrder_25 hl (k := 2) rfl (by rw [ev4]; rfl) (by decide) rfl (fun ls hl => ?_)
          refine lv_goto (tgt := 4) hx hb dX8_nextOrder_28 (by decide) ?_
          exact ih v4 σ _ _ _ hw hk31 hP hS (lv_sub hl [1, 2, 0] rfl)
  have L41 : ∀ (K62 : Int32 → hsS → Prop) (z1 : Int32) (z2 : Int32) (n : Nat) (y3 : Int32) (σ : hsS) (H : Heap) (locs : List Loc) (ls : Array Slot), wX8_nextOrder_L41 z1 z2 K62 post n y3 σ → (∀ (y3 : Int32) (σ : hsS) (H : Heap) (locs : List Loc) (ls : Array Slot), K62 y3 σ → va_P D vwCl (mw c q σ) H → va_S (wdA 31 q) s.heap H locs → lv_has ls 7 [(0, .ref (q 0)), (1, .int z1), (2, .int z2), (3, .int y3)] → W p l e (headSpec (Cond.code yX8_nextOrder cX8_nextOrder 7 (some .boolean) :: tb_L) { frames := 0, cells := 0, slots := 0, locals := 0 }).room s m [.ref (q 0), .int x1].toArray below meth c₀ H locs 0 0 (MQ below (va_Qi post (wdB D (mw c q)) (wdA 31 q)) [.ref (q 0), .int x1].toArray s 0 0 (wdA 31 q)) (F0 m 62 ls [])) → va_P D vwCl (mw c q σ) H → va_S (wdA 31 q) s.heap H locs → lv_has ls 7 [(0, .ref (q 0)), (1, .int z1), (2, .int z2), (3, .int y3)] → W p l e (headSpec (Cond.code yX8_nextOrder cX8_nextOrder 7 (some .boolean) :: tb_L) { frames := 0, cells := 0, slots := 0, locals := 0 }).room s m [.ref (q 0), .int x1].toArray below meth c₀ H locs 0 0 (MQ below (va_Qi post (wdB D (mw c q)) (wdA 31 q)) [.ref (q 0), .int x1].toArray s 0 0 (wdA 31 q)) (F0 m 41 ls []) := by
    intro K62 z1 z2 n
    induction n with
    | zero =>
      intro y3 σ H locs ls hw hk62 hP hS hl
      exact (show False from hw).elim
    | succ n ih =>
      intro y3 σ H locs ls hw hk62 hP hS hl
      rw [wX8_nextOrder_L41] at hw
      have hD : va_D (wdA 31 q) (mw c q σ) := mw_D hD0
      refine lv_aload_n hx hb dX8_nextOrder_41 rfl (lv_at hl 0 rfl) ?_
      refine va_get (D := D) (ci := 8) (C := RX8) (T := TX8) (N := 57) hx hb htb inX8 hown hK hP 0 (mw_0 c q σ) rfl 40 (by decide) (htb _ tb_1221) (fun _ h9 => h9) rfl dX8_nextOrder_42 ?_
      refine lv_iload_n hx hb dX8_nextOrder_45 rfl (lv_at hl 3 rfl) ?_
      refine va_iald hx hb hK hP 20 19 (mw_20 c q σ) rfl hw.1 dX8_nextOrder_46 ?_
      have hw := hw.2
      refine lv_aload_n hx hb dX8_nextOrder_47 rfl (lv_at hl 0 rfl) ?_
      refine va_get (D := D) (ci := 8) (C := RX8) (T := TX8) (N := 57) hx hb htb inX8 hown hK hP 0 (mw_0 c q σ) rfl 40 (by decide) (htb _ tb_1221) (fun _ h9 => h9) rfl dX8_nextOrder_48 ?_
      refine lv_iload_n hx hb dX8_nextOrder_51 rfl (lv_at hl 2 rfl) ?_
      refine va_iald hx hb hK hP 20 19 (mw_20 c q σ) rfl hw.1 dX8_nextOrder_52 ?_
      have hw := hw.2
      refine lv_icmp_ge (tgt := 62) hx hb dX8_nextOrder_53 (by decide) (fun c10 => ?_) (fun c10 => ?_)
      · have hw := hw.1 c10
        exact hk62 y3 σ _ _ _ hw hP hS (lv_sub hl [0, 1, 2, 3] rfl)
      · have hw := hw.2 c10
        obtain ⟨v11, ev11⟩ : ∃ z : Int32, z = y3 + (-1 : Int32) := ⟨_, rfl⟩
        have hw := hw v11 ev11
        refine lv_iinc (v := v11) (lv' := [(3, .int v11), (0, .ref (q 0)), (1, .int z1), (2, .int z2)]) hx hb dX8_nextOrder_56 hl (k := 3) rfl (by rw [ev11]; rfl) (by decide) rfl (fun ls hl => ?_)
        refine lv_goto (tgt := 41) hx hb dX8_nextOrder_59 (by decide) ?_
        exact ih v11 σ _ _ _ hw hk62 hP hS (lv_sub hl [1, 2, 3, 0] rfl)
  have L100 : ∀ (K148 : Int32 → Int32 → Int32 → hsS → Prop) (z1 : Int32) (z2 : Int32) (z3 : Int32) (n : Nat) (y4 : Int32) (y5 : Int32) (y6 : Int32) (σ : hsS) (H : Heap) (locs : List Loc) (ls : Array Slot), wX8_nextOrder_L100 z1 z2 z3 K148 post n y4 y5 y6 σ → (∀ (y4 : Int32) (y5 : Int32) (y6 : Int32) (σ : hsS) (H : Heap) (locs : List Loc) (ls : Array Slot), K148 y4 y5 y6 σ → va_P D vwCl (mw c q σ) H → va_S (wdA 31 q) s.heap H locs → lv_has ls 7 [(0, .ref (q 0)), (1, .int z1), (2, .int z2), (3, .int z3), (4, .int y4), (5, .int y5), (6, .int y6)] → W p l e (headSpec (Cond.code yX8_nextOrder cX8_nextOrder 7 (some .boolean) :: tb_L) { frames := 0, cells := 0, slots := 0, locals := 0 }).room s m [.ref (q 0), .int x1].toArray below meth c₀ H locs 0 0 (MQ below (va_Qi post (wdB D (mw c q)) (wdA 31 q)) [.ref (q 0), .int x1].toArray s 0 0 (wdA 31 q)) (F0 m 148 ls [])) → va_P D vwCl (mw c q σ) H → va_S (wdA 31 q) s.heap H locs → lv_has ls 7 [(0, .ref (q 0)), (1, .int z1), (2, .int z2), (3, .int z3), (4, .int y4), (5, .int y5), (6, .int y6)] → W p l e (headSpec (Cond.code yX8_nextOrder cX8_nextOrder 7 (some .boolean) :: tb_L) { frames := 0, cells := 0, slots := 0, locals := 0 }).room s m [.ref (q 0), .int x1].toArray below meth c₀ H locs 0 0 (MQ below (va_Qi post (wdB D (mw c q)) (wdA 31 q)) [.ref (q 0), .int x1].toArray s 0 0 (wdA 31 q)) (F0 m 100 ls []) := by
    intro K148 z1 z2 z3 n
    induction n with
    | zero =>
      intro y4 y5 y6 σ H locs ls hw hk148 hP hS hl
      exact (show False from hw).elim
    | succ n ih =>
      intro y4 y5 y6 σ H locs ls hw hk148 hP hS hl
      rw [wX8_nextOrder_L100] at hw
      have hD : va_D (wdA 31 q) (mw c q σ) := mw_D hD0
      refine lv_iload hx hb dX8_nextOrder_100 (lv_at hl 5 rfl) ?_
      refine lv_iload hx hb dX8_nextOrder_102 (lv_at hl 6 rfl) ?_
      refine lv_icmp_ge (tgt := 148) hx hb dX8_nextOrder_104 (by decide) (fun c20 => ?_) (fun c20 => ?_)
      · have hw := hw.1 c20
        exact hk148 y4 y5 y6 σ _ _ _ hw hP hS (lv_sub hl [0, 1, 2, 3, 4, 5, 6] rfl)
      · have hw := hw.2 c20
        refine lv_aload_n hx hb dX8_nextOrder_107 rfl (lv_at hl 0 rfl) ?_
        refine va_get (D := D) (ci := 8) (C := RX8) (T := TX8) (N := 57) hx hb htb inX8 hown hK hP 0 (mw_0 c q σ) rfl 40 (by decide) (htb _ tb_1221) (fun _ h9 => h9) rfl dX8_nextOrder_108 ?_
        refine lv_iload hx hb dX8_nextOrder_111 (lv_at hl 5 rfl) ?_
        refine va_iald hx hb hK hP 20 19 (mw_20 c q σ) rfl hw.1 dX8_nextOrder_113 ?_
        have hw := hw.2
        refine lv_topi (fun v21 ev21 => ?_)
        have hw := hw v21 ev21
        refine lv_istore (lv' := [(4, .int v21), (0, .ref (q 0)), (1, .int z1), (2, .int z2), (3, .int z3), (5, .int y5), (6, .int y6)]) hx hb dX8_nextOrder_114 hl (by decide) rfl (fun ls hl => ?_)
        refine lv_aload_n hx hb dX8_nextOrder_116 rfl (lv_at hl 1 rfl) ?_
        refine va_get (D := D) (ci := 8) (C := RX8) (T := TX8) (N := 57) hx hb htb inX8 hown hK hP 0 (mw_0 c q σ) rfl 40 (by decide) (htb _ tb_1221) (fun _ h9 => h9) rfl dX8_nextOrder_117 ?_
        refine lv_iload hx hb dX8_nextOrder_120 (lv_at hl 5 rfl) ?_
        refine lv_aload_n hx hb dX8_nextOrder_122 rfl (lv_at hl 1 rfl) ?_
        refine va_get (D := D) (ci := 8) (C := RX8) (T := TX8) (N := 57) hx hb htb inX8 hown hK hP 0 (mw_0 c q σ) rfl 40 (by decide) (htb _ tb_1221) (fun _ h9 => h9) rfl dX8_nextOrder_123 ?_
        refine lv_iload hx hb dX8_nextOrder_126 (lv_at hl 6 rfl) ?_
        refine va_iald hx hb hK hP 20 19 (mw_20 c q σ) rfl hw.1 dX8_nextOrder_128 ?_
        have hw := hw.2
        refine va_iast hx hb hK hP hD hS 20 19 (mw_20 c q σ) rfl hw.1 dX8_nextOrder_129 (fun H locs hP hD hS => ?_)
        have hw := hw.2
        have hP : va_P D vwCl (mw c q (hsA σ 20 (upd (σ.2.1 20) y5.toNatClampNeg (σ.2.1 20 y6.toNatClampNeg)))) H := hP
        obtain ⟨σ22, eσ22⟩ : ∃ z : hsS, z = hsA σ 20 (upd (σ.2.1 20) y5.toNatClampNeg (σ.2.1 20 y6.toNatClampNeg)) := ⟨_, rfl⟩
        rw [← eσ22] at hP
        have hD : va_D (wdA 31 q) (mw c q σ22) := mw_D hD0
        have hw := hw σ22 eσ22
        refine lv_aload_n hx hb dX8_nextOrder_130 rfl (lv_at hl 1 rfl) ?_
        refine va_get (D := D) (ci := 8) (C := RX8) (T := TX8) (N := 57) hx hb htb inX8 hown hK hP 0 (mw_0 c q σ22) rfl 40 (by decide) (htb _ tb_1221) (fun _ h9 => h9) rfl dX8_nextOrder_131 ?_
        refine lv_iload hx hb dX8_nextOrder_134 (lv_at hl 6 rfl) ?_
        refine lv_iload hx hb dX8_nextOrder_136 (lv_at hl 0 rfl) ?_
        refine va_iast hx hb hK hP hD hS 20 19 (mw_20 c q σ22) rfl hw.1 dX8_nextOrder_138 (fun H locs hP hD hS => ?_)
        have hw := hw.2
        have hP : va_P D vwCl (mw c q (hsA σ22 20 (upd (σ22.2.1 20) y6.toNatClampNeg v21))) H := hP
        obtain ⟨σ23, eσ23⟩ : ∃ z : hsS, z = hsA σ22 20 (upd (σ22.2.1 20) y6.toNatClampNeg v21) := ⟨_, rfl⟩
        rw [← eσ23] at hP
        have hD : va_D (wdA 31 q) (mw c q σ23) := mw_D hD0
        have hw := hw σ23 eσ23
        obtain ⟨v24, ev24⟩ : ∃ z : Int32, z = y6 + (-1 : Int32) := ⟨_, rfl⟩
        have hw := hw v24 ev24
        refine lv_iinc (v := v24) (lv' := [(6, .int v24), (4, .int v21), (0, .ref (q 0)), (1, .int z1), (2, .int z2), (3, .int z3), (5, .int y5)]) hx hb dX8_nextOrder_139 hl (k := 6) rfl (by rw [ev24]; rfl) (by decide) rfl (fun ls hl => ?_)
        obtain ⟨v25, ev25⟩ : ∃ z : Int32, z = y5 + (1 : Int32) := ⟨_, rfl⟩
        have hw := hw v25 ev25
        refine lv_iinc (v := v25) (lv' := [(5, .int v25), (6, .int v24), (4, .int v21), (0, .ref (q 0)), (1, .int z1), (2, .int z2), (3, .int z3)]) hx hb dX8_nextOrder_142 hl (k := 6) rfl (by rw [ev25]; rfl) (by decide) rfl (fun ls hl => ?_)
        refine lv_goto (tgt := 100) hx hb dX8_nextOrder_145 (by decide) ?_
        exact ih v21 v25 v24 σ23 _ _ _ hw hk148 hP hS (lv_sub hl [3, 4, 5, 6, 2, 0, 1] rfl)
  have hl := lv_entry ([.ref (q 0), .int x1]) (n := 7) (Nat.le_of_ble_eq_true rfl)
  rw [lg_entry_eq]
  generalize (lg_sl ([.ref (q 0), .int x1]) ++ List.replicate (7 - (lg_sl ([.ref (q 0), .int x1])).length) Slot.unset).toArray = ls at hl ⊢
  have hl : lv_has ls 7 [(0, .ref (q 0)), (1, .int x1)] := hl
  unfold wX8_nextOrder at hw
  refine lv_iload_n hx hb dX8_nextOrder_0 rfl (lv_at hl 1 rfl) ?_
  refine lv_iconst (v := (2 : Int32)) hx hb dX8_nextOrder_1 (by decide) ?_
  refine lv_isub hx hb dX8_nextOrder_2 ?_
  refine lv_topi (fun v1 ev1 => ?_)
  have hw := hw v1 ev1
  refine lv_istore_n (lv' := [(2, .int v1), (0, .ref (q 0)), (1, .int x1)]) hx hb dX8_nextOrder_3 rfl hl (by decide) rfl (fun ls hl => ?_)
  obtain ⟨n5, hw⟩ := hw
  refine L4 _ x1 n5 v1 σ _ _ _ hw ?_ hP hS (lv_sub hl [1, 2, 0] rfl)
  intro v6 σ7 H locs ls hw hP hS hl
  have hD : va_D (wdA 31 q) (mw c q σ7) := mw_D hD0
  refine lv_iload_n hx hb dX8_nextOrder_31 rfl (lv_at hl 2 rfl) ?_
  refine lv_if_ge (tgt := 37) hx hb dX8_nextOrder_32 (by decide) (fun c8 => ?_) (fun c8 => ?_)
  · have hw := hw.1 c8
    refine lv_iload_n hx hb dX8_nextOrder_37 rfl (lv_at hl 1 rfl) ?_
    refine lv_iconst (v := (1 : Int32)) hx hb dX8_nextOrder_38 (by decide) ?_
    refine lv_isub hx hb dX8_nextOrder_39 ?_
    refine lv_topi (fun v9 ev9 => ?_)
    have hw := hw v9 ev9
    refine lv_istore_n (lv' := [(3, .int v9), (0, .ref (q 0)), (1, .int x1), (2, .int v6)]) hx hb dX8_nextOrder_40 rfl hl (by decide) rfl (fun ls hl => ?_)
    obtain ⟨n12, hw⟩ := hw
    refine L41 _ x1 v6 n12 v9 σ7 _ _ _ hw ?_ hP hS (lv_sub hl [1, 2, 3, 0] rfl)
    intro v13 σ14 H locs ls hw hP hS hl
    have hD : va_D (wdA 31 q) (mw c q σ14) := mw_D hD0
    refine lv_aload_n hx hb dX8_nextOrder_62 rfl (lv_at hl 0 rfl) ?_
    refine va_get (D := D) (ci := 8) (C := RX8) (T := TX8) (N := 57) hx hb htb inX8 hown hK hP 0 (mw_0 c q σ14) rfl 40 (by decide) (htb _ tb_1221) (fun _ h9 => h9) rfl dX8_nextOrder_63 ?_
    refine lv_iload_n hx hb dX8_nextOrder_66 rfl (lv_at hl 2 rfl) ?_
    refine va_iald hx hb hK hP 20 19 (mw_20 c q σ14) rfl hw.1 dX8_nextOrder_67 ?_
    have hw := hw.2
    refine lv_topi (fun v15 ev15 => ?_)
    have hw := hw v15 ev15
    refine lv_istore (lv' := [(4, .int v15), (0, .ref (q 0)), (1, .int x1), (2, .int v6), (3, .int v13)]) hx hb dX8_nextOrder_68 hl (by decide) rfl (fun ls hl => ?_)
    refine lv_aload_n hx hb dX8_nextOrder_70 rfl (lv_at hl 1 rfl) ?_
    refine va_get (D := D) (ci := 8) (C := RX8) (T := TX8) (N := 57) hx hb htb inX8 hown hK hP 0 (mw_0 c q σ14) rfl 40 (by decide) (htb _ tb_1221) (fun _ h9 => h9) rfl dX8_nextOrder_71 ?_
    refine lv_iload_n hx hb dX8_nextOrder_74 rfl (lv_at hl 3 rfl) ?_
    refine lv_aload_n hx hb dX8_nextOrder_75 rfl (lv_at hl 1 rfl) ?_
    refine va_get (D := D) (ci := 8) (C := RX8) (T := TX8) (N := 57) hx hb htb inX8 hown hK hP 0 (mw_0 c q σ14) rfl 40 (by decide) (htb _ tb_1221) (fun _ h9 => h9) rfl dX8_nextOrder_76 ?_
    refine lv_iload_n hx hb dX8_nextOrder_79 rfl (lv_at hl 4 rfl) ?_
    refine va_iald hx hb hK hP 20 19 (mw_20 c q σ14) rfl hw.1 dX8_nextOrder_80 ?_
    have hw := hw.2
    refine va_iast hx hb hK hP hD hS 20 19 (mw_20 c q σ14) rfl hw.1 dX8_nextOrder_81 (fun H locs hP hD hS => ?_)
    have hw := hw.2
    have hP : va_P D vwCl (mw c q (hsA σ14 20 (upd (σ14.2.1 20) v6.toNatClampNeg (σ14.2.1 20 v13.toNatClampNeg)))) H := hP
    obtain ⟨σ16, eσ16⟩ : ∃ z : hsS, z = hsA σ14 20 (upd (σ14.2.1 20) v6.toNatClampNeg (σ14.2.1 20 v13.toNatClampNeg)) := ⟨_, rfl⟩
    rw [← eσ16] at hP
    have hD : va_D (wdA 31 q) (mw c q σ16) := mw_D hD0
    have hw := hw σ16 eσ16
    refine lv_aload_n hx hb dX8_nextOrder_82 rfl (lv_at hl 1 rfl) ?_
    refine va_get (D := D) (ci := 8) (C := RX8) (T := TX8) (N := 57) hx hb htb inX8 hown hK hP 0 (mw_0 c q σ16) rfl 40 (by decide) (htb _ tb_1221) (fun _ h9 => h9) rfl dX8_nextOrder_83 ?_
    refine lv_iload_n hx hb dX8_nextOrder_86 rfl (lv_at hl 4 rfl) ?_
    refine lv_iload hx hb dX8_nextOrder_87 (lv_at hl 0 rfl) ?_
    refine va_iast hx hb hK hP hD hS 20 19 (mw_20 c q σ16) rfl hw.1 dX8_nextOrder_89 (fun H locs hP hD hS => ?_)
    have hw := hw.2
    have hP : va_P D vwCl (mw c q (hsA σ16 20 (upd (σ16.2.1 20) v13.toNatClampNeg v15))) H := hP
    obtain ⟨σ17, eσ17⟩ : ∃ z : hsS, z = hsA σ16 20 (upd (σ16.2.1 20) v13.toNatClampNeg v15) := ⟨_, rfl⟩
    rw [← eσ17] at hP
    have hD : va_D (wdA 31 q) (mw c q σ17) := mw_D hD0
    have hw := hw σ17 eσ17
    refine lv_iload_n hx hb dX8_nextOrder_90 rfl (lv_at hl 3 rfl) ?_
    refine lv_iconst (v := (1 : Int32)) hx hb dX8_nextOrder_91 (by decide) ?_
    refine lv_iadd hx hb dX8_nextOrder_92 ?_
    refine lv_topi (fun v18 ev18 => ?_)
    have hw := hw v18 ev18
    refine lv_istore (lv' := [(5, .int v18), (4, .int v15), (0, .ref (q 0)), (1, .int x1), (2, .int v6), (3, .int v13)]) hx hb dX8_nextOrder_93 hl (by decide) rfl (fun ls hl => ?_)
    refine lv_iload_n hx hb dX8_nextOrder_95 rfl (lv_at hl 3 rfl) ?_
    refine lv_iconst (v := (1 : Int32)) hx hb dX8_nextOrder_96 (by decide) ?_
    refine lv_isub hx hb dX8_nextOrder_97 ?_
    refine lv_topi (fun v19 ev19 => ?_)
    have hw := hw v19 ev19
    refine lv_istore (lv' := [(6, .int v19), (5, .int v18), (4, .int v15), (0, .ref (q 0)), (1, .int x1), (2, .int v6), (3, .int v13)]) hx hb dX8_nextOrder_98 hl (by decide) rfl (fun ls hl => ?_)
    obtain ⟨n26, hw⟩ := hw
    refine L100 _ x1 v6 v13 n26 v15 v18 v19 σ17 _ _ _ hw ?_ hP hS (lv_sub hl [3, 4, 5, 6, 2, 1, 0] rfl)
    intro v27 v28 v29 σ30 H locs ls hw hP hS hl
    have hD : va_D (wdA 31 q) (mw c q σ30) := mw_D hD0
    refine lv_iconst (v := (1 : Int32)) hx hb dX8_nextOrder_148 (by decide) ?_
    exact W.zret hx hb hr rfl (fun t ht hW => ⟨⟨_, σ30, rfl, hw, by unfold wdB; rw [ht]; exact hP⟩, hS.F ht⟩) hS.2.2 dX8_nextOrder_149
  · have hw := hw.2 c8
    refine lv_iconst (v := (0 : Int32)) hx hb dX8_nextOrder_35 (by decide) ?_
    exact W.zret hx hb hr rfl (fun t ht hW => ⟨⟨_, σ7, rfl, hw, by unfold wdB; rw [ht]; exact hP⟩, hS.F ht⟩) hS.2.2 dX8_nextOrder_36
def wX8_lie_L56 (z1 : Int32) (z2 : Int32) (z3 : Int32) (K96 : Int32 → hsS → Prop) (post : Int32 → hsS → Prop) : Nat → Int32 → hsS → Prop
  | 0, _, _ => False
  | n + 1, y4, σ => ((z2 ≤ y4 → K96 y4 σ) ∧ (¬ z2 ≤ y4 → vp_in ((z1 * (10 : Int32)) + y4) 80 ∧ vp_in y4 10 ∧ ∀ σ16 : hsS, σ16 = hsA σ 21 (upd (σ.2.1 21) y4.toNatClampNeg (σ.2.1 13 ((z1 * (10 : Int32)) + y4).toNatClampNeg)) → vp_in y4 5 ∧ ∀ σ17 : hsS, σ17 = hsA σ16 20 (upd (σ16.2.1 20) y4.toNatClampNeg y4) → ∀ v18 : Int32, v18 = y4 + (1 : Int32) → wX8_lie_L56 z1 z2 z3 K96 post n v18 σ17))
def wX8_lie_L107 (z1 : Int32) (z2 : Int32) (z3 : Int32) (z4 : Int32) (K138 : Int32 → hsS → Prop) (post : Int32 → hsS → Prop) : Nat → Int32 → hsS → Prop
  | 0, _, _ => False
  | n + 1, y5, σ => ((z2 ≤ y5 → K138 y5 σ) ∧ (¬ z2 ≤ y5 → vp_in y5 5 ∧ vp_in ((z1 * (10 : Int32)) + (σ.2.1 20 y5.toNatClampNeg)) 80 ∧ ∀ σ24 : hsS, σ24 = hsA σ 13 (upd (σ.2.1 13) ((z1 * (10 : Int32)) + (σ.2.1 20 y5.toNatClampNeg)).toNatClampNeg y5) → ∀ v25 : Int32, v25 = y5 + (1 : Int32) → wX8_lie_L107 z1 z2 z3 z4 K138 post n v25 σ24))
def wX8_lie_L156 (z1 : Int32) (z2 : Int32) (z3 : Int32) (z4 : Int32) (z5 : Int32) (K193 : Int32 → Int32 → hsS → Prop) (post : Int32 → hsS → Prop) : Nat → Int32 → Int32 → hsS → Prop
  | 0, _, _, _ => False
  | n + 1, y6, y7, σ => ((z2 ≤ y7 → K193 y6 y7 σ) ∧ (¬ z2 ≤ y7 → ((((z5 >>> (y7 &&& 31)) &&& (1 : Int32)) = (1 : Int32) → vp_in y7 10 ∧ ∀ v33 : Int32, v33 = (if y6 < (σ.2.1 21 y7.toNatClampNeg) then (σ.2.1 21 y7.toNatClampNeg) else y6) → ∀ v34 : Int32, v34 = y7 + (1 : Int32) → wX8_lie_L156 z1 z2 z3 z4 z5 K193 post n v33 v34 σ) ∧ (¬ ((z5 >>> (y7 &&& 31)) &&& (1 : Int32)) = (1 : Int32) → ∀ v35 : Int32, v35 = y7 + (1 : Int32) → wX8_lie_L156 z1 z2 z3 z4 z5 K193 post n y6 v35 σ))))
def wX8_lie_L99 (z1 : Int32) (z2 : Int32) (z3 : Int32) (K199 : Int32 → hsS → Prop) (K247 : Int32 → hsS → Prop) (post : Int32 → hsS → Prop) : Nat → Int32 → hsS → Prop
  | 0, _, _ => False
  | n + 1, y4, σ => ((y4 = (0 : Int32) → K247 y4 σ) ∧ (¬ y4 = (0 : Int32) → ∃ n26, wX8_lie_L107 z1 z2 z3 y4 (fun v27 σ28 => wX8_plainEnd (σ28.2.1 6 (0 : Int32).toNatClampNeg) (fun r29 σ30 => ∃ n36, wX8_lie_L156 z1 z2 z3 y4 r29 (fun v37 v38 σ39 => ((z3 ≤ v37 → wX8_nextOrder z2 (fun r41 σ42 => wX8_lie_L99 z1 z2 z3 K199 K247 post n r41 σ42) σ39) ∧ (¬ z3 ≤ v37 → K199 y4 σ39))) post n36 (0 : Int32) (0 : Int32) σ30) σ28) post n26 (0 : Int32) σ))
def wX8_lie_L205 (z1 : Int32) (z2 : Int32) (z3 : Int32) (z4 : Int32) (K234 : Int32 → Int32 → hsS → Prop) (post : Int32 → hsS → Prop) : Nat → Int32 → Int32 → hsS → Prop
  | 0, _, _, _ => False
  | n + 1, y7, y8, σ => ((z2 ≤ y8 → K234 y7 y8 σ) ∧ (¬ z2 ≤ y8 → vp_in y8 5 ∧ ∀ v47 : Int32, v47 = y7 ||| ((σ.2.1 20 y8.toNatClampNeg) <<< (((4 : Int32) * y8) &&& 31)) → ∀ v48 : Int32, v48 = y8 + (1 : Int32) → wX8_lie_L205 z1 z2 z3 z4 K234 post n v47 v48 σ))
def wX8_lie (x1 : Int32) (post : Int32 → hsS → Prop) (σ : hsS) : Prop := ∀ σ1 : hsS, σ1 = hsI σ 0 (0 : Int32) → wX8_isOne x1 (fun r2 σ3 => ((r2 = (0 : Int32) → wX8_fail (1 : Int32) (fun r5 σ6 => post r5 σ6) σ3) ∧ (¬ r2 = (0 : Int32) → ∀ v7 : Int32, v7 = σ3.2.1 1 (0 : Int32).toNatClampNeg → ((v7 ≤ (5 : Int32) → wX8_takeTurns  (fun σ10 => wX8_plainEnd (σ10.2.1 6 (0 : Int32).toNatClampNeg) (fun r11 σ12 => wX8_worst x1 r11 (fun r13 σ14 => ∃ n19, wX8_lie_L56 x1 v7 r13 (fun v20 σ21 => ∃ n43, wX8_lie_L99 x1 v7 r13 (fun v44 σ45 => ∃ n49, wX8_lie_L205 x1 v7 r13 v44 (fun v50 v51 σ52 => post v50 σ52) post n49 (0 : Int32) (0 : Int32) σ45) (fun v53 σ54 => post (-1 : Int32) σ54) post n43 (1 : Int32) σ21) post n19 (0 : Int32) σ14) σ12) σ10) σ3) ∧ (¬ v7 ≤ (5 : Int32) → post (-1 : Int32) σ3))))) σ1
set_option maxHeartbeats 4000000 in
set_option maxRecDepth 100000 in
theorem kcX8_lie (l : Launch) (D : va_G) (c : Nat → ClassId) (q : Nat → Nat) (ev : State → Heap → Prop) (hev : evOK (wdA 31 q) ev) (σ : hsS) (x1 : Int32) (post : Int32 → hsS → Prop) (hw : wX8_lie x1 post σ) : Met l yX8_lie (Cond.code yX8_lie cX8_lie 9 (some .int) :: tb_L) { frames := 3, cells := 0, slots := 0, locals := 68 } (wdPc D (mw c q) (mwT c) (wdA 31 q) ev σ [.ref (q 0), .int x1]) (va_Qi post (wdB D (mw c q)) (wdA 31 q)) 0 0 (wdA 31 q) := by
  refine Met.ofW (cc := cX8_lie) (maxL := 9) (ret := (some .int)) (by decide) rfl ?_
  intro p e s m args below meth c₀ s₁ Bd hml hv
  obtain ⟨rfl, hP, hK, hD0, hE⟩ := hv
  have hx := Bd.exec
  have hb := Bd.bytes
  have hr := Bd.returns
  have hts := atoms_spec (ws := Cond.code yX8_lie cX8_lie 9 (some .int) :: tb_L) Bd.pre
  have htb : ∀ w ∈ tb_L, w.before [.ref (q 0), .int x1].toArray s = true := fun w h => hts w (List.mem_cons_of_mem _ h)
  have hown : s.vm.findClass RX8 = some m.cls := findClass_of_methodNamed Bd.named
  have hlocks := Bd.notSynchronized
  have hS : va_S (wdA 31 q) s.heap s.heap [] := va_S.rf
  have hD := hD0
  have L56 : ∀ (K96 : Int32 → hsS → Prop) (z1 : Int32) (z2 : Int32) (z3 : Int32) (n : Nat) (y4 : Int32) (σ : hsS) (H : Heap) (locs : List Loc) (ls : Array Slot), wX8_lie_L56 z1 z2 z3 K96 post n y4 σ → (∀ (y4 : Int32) (σ : hsS) (H : Heap) (locs : List Loc) (ls : Array Slot), K96 y4 σ → va_P D vwCl (mw c q σ) H → va_S (wdA 31 q) s.heap H locs → lv_has ls 9 [(0, .ref (q 0)), (1, .int z1), (2, .int z2), (3, .int z3), (4, .int y4)] → W p l e (headSpec (Cond.code yX8_lie cX8_lie 9 (some .int) :: tb_L) { frames := 3, cells := 0, slots := 0, locals := 68 }).room s m [.ref (q 0), .int x1].toArray below meth c₀ H locs 0 0 (MQ below (va_Qi post (wdB D (mw c q)) (wdA 31 q)) [.ref (q 0), .int x1].toArray s 0 0 (wdA 31 q)) (F0 m 96 ls [])) → va_P D vwCl (mw c q σ) H → va_S (wdA 31 q) s.heap H locs → lv_has ls 9 [(0, .ref (q 0)), (1, .int z1), (2, .int z2), (3, .int z3), (4, .int y4)] → W p l e (headSpec (Cond.code yX8_lie cX8_lie 9 (some .int) :: tb_L) { frames := 3, cells := 0, slots := 0, locals := 68 }).room s m [.ref (q 0), .int x1].toArray below meth c₀ H locs 0 0 (MQ below (va_Qi post (wdB D (mw c q)) (wdA 31 q)) [.ref (q 0), .int x1].toArray s 0 0 (wdA 31 q)) (F0 m 56 ls []) := by
    intro K96 z1 z2 z3 n
    induction n with
    | zero =>
      intro y4 σ H locs ls hw hk96 hP hS hl
      exact (show False from hw).elim
    | succ n ih =>
      intro y4 σ H locs ls hw hk96 hP hS hl
      rw [wX8_lie_L56] at hw
      have hD : va_D (wdA 31 q) (mw c q σ) := mw_D hD0
      refine lv_iload hx hb dX8_lie_56 (lv_at hl 4 rfl) ?_
      refine lv_iload_n hx hb dX8_lie_58 rfl (lv_at hl 2 rfl) ?_
      refine lv_icmp_ge (tgt := 96) hx hb dX8_lie_59 (by decide) (fun c15 => ?_) (fun c15 => ?_)
      · have hw := hw.1 c15
        exact hk96 y4 σ _ _ _ hw hP hS (lv_sub hl [0, 1, 2, 3, 4] rfl)
      · have hw := hw.2 c15
        refine lv_aload_n hx hb dX8_lie_62 rfl (lv_at hl 0 rfl) ?_
        refine va_get (D := D) (ci := 8) (C := RX8) (T := TX8) (N := 57) hx hb htb inX8 hown hK hP 0 (mw_0 c q σ) rfl 41 (by decide) (htb _ tb_1222) (fun _ h9 => h9) rfl dX8_lie_63 ?_
        refine lv_iload hx hb dX8_lie_66 (lv_at hl 4 rfl) ?_
        refine lv_aload_n hx hb dX8_lie_68 rfl (lv_at hl 0 rfl) ?_
        refine va_get (D := D) (ci := 8) (C := RX8) (T := TX8) (N := 57) hx hb htb inX8 hown hK hP 0 (mw_0 c q σ) rfl 24 (by decide) (htb _ tb_1205) (fun _ h9 => h9) rfl dX8_lie_69 ?_
        refine lv_iload_n hx hb dX8_lie_72 rfl (lv_at hl 1 rfl) ?_
        refine lv_bipush (v := (10 : Int32)) hx hb dX8_lie_73 (by decide) ?_
        refine lv_imul hx hb dX8_lie_75 ?_
        refine lv_iload hx hb dX8_lie_76 (lv_at hl 4 rfl) ?_
        refine lv_iadd hx hb dX8_lie_78 ?_
        refine va_iald hx hb hK hP 13 12 (mw_13 c q σ) rfl hw.1 dX8_lie_79 ?_
        have hw := hw.2
        refine va_iast hx hb hK hP hD hS 21 20 (mw_21 c q σ) rfl hw.1 dX8_lie_80 (fun H locs hP hD hS => ?_)
        have hw := hw.2
        have hP : va_P D vwCl (mw c q (hsA σ 21 (upd (σ.2.1 21) y4.toNatClampNeg (σ.2.1 13 ((z1 * (10 : Int32)) + y4).toNatClampNeg)))) H := hP
        obtain ⟨σ16, eσ16⟩ : ∃ z : hsS, z = hsA σ 21 (upd (σ.2.1 21) y4.toNatClampNeg (σ.2.1 13 ((z1 * (10 : Int32)) + y4).toNatClampNeg)) := ⟨_, rfl⟩
        rw [← eσ16] at hP
        have hD : va_D (wdA 31 q) (mw c q σ16) := mw_D hD0
        have hw := hw σ16 eσ16
        refine lv_aload_n hx hb dX8_lie_81 rfl (lv_at hl 0 rfl) ?_
        refine va_get (D := D) (ci := 8) (C := RX8) (T := TX8) (N := 57) hx hb htb inX8 hown hK hP 0 (mw_0 c q σ16) rfl 40 (by decide) (htb _ tb_1221) (fun _ h9 => h9) rfl dX8_lie_82 ?_
        refine lv_iload hx hb dX8_lie_85 (lv_at hl 4 rfl) ?_
        refine lv_iload hx hb dX8_lie_87 (lv_at hl 4 rfl) ?_
        refine va_iast hx hb hK hP hD hS 20 19 (mw_20 c q σ16) rfl hw.1 dX8_lie_89 (fun H locs hP hD hS => ?_)
        have hw := hw.2
        have hP : va_P D vwCl (mw c q (hsA σ16 20 (upd (σ16.2.1 20) y4.toNatClampNeg y4))) H := hP
        obtain ⟨σ17, eσ17⟩ : ∃ z : hsS, z = hsA σ16 20 (upd (σ16.2.1 20) y4.toNatClampNeg y4) := ⟨_, rfl⟩
        rw [← eσ17] at hP
        have hD : va_D (wdA 31 q) (mw c q σ17) := mw_D hD0
        have hw := hw σ17 eσ17
        obtain ⟨v18, ev18⟩ : ∃ z : Int32, z = y4 + (1 : Int32) := ⟨_, rfl⟩
        have hw := hw v18 ev18
        refine lv_iinc (v := v18) (lv' := [(4, .int v18), (0, .ref (q 0)), (1, .int z1), (2, .int z2), (3, .int z3)]) hx hb dX8_lie_90 hl (k := 4) rfl (by rw [ev18]; rfl) (by decide) rfl (fun ls hl => ?_)
        refine lv_goto (tgt := 56) hx hb dX8_lie_93 (by decide) ?_
        exact ih v18 σ17 _ _ _ hw hk96 hP hS (lv_sub hl [1, 2, 3, 4, 0] rfl)
  have L107 : ∀ (K138 : Int32 → hsS → Prop) (z1 : Int32) (z2 : Int32) (z3 : Int32) (z4 : Int32) (n : Nat) (y5 : Int32) (σ : hsS) (H : Heap) (locs : List Loc) (ls : Array Slot), wX8_lie_L107 z1 z2 z3 z4 K138 post n y5 σ → (∀ (y5 : Int32) (σ : hsS) (H : Heap) (locs : List Loc) (ls : Array Slot), K138 y5 σ → va_P D vwCl (mw c q σ) H → va_S (wdA 31 q) s.heap H locs → lv_has ls 9 [(0, .ref (q 0)), (1, .int z1), (2, .int z2), (3, .int z3), (4, .int z4), (5, .int y5)] → W p l e (headSpec (Cond.code yX8_lie cX8_lie 9 (some .int) :: tb_L) { frames := 3, cells := 0, slots := 0, locals := 68 }).room s m [.ref (q 0), .int x1].toArray below meth c₀ H locs 0 0 (MQ below (va_Qi post (wdB D (mw c q)) (wdA 31 q)) [.ref (q 0), .int x1].toArray s 0 0 (wdA 31 q)) (F0 m 138 ls [])) → va_P D vwCl (mw c q σ) H → va_S (wdA 31 q) s.heap H locs → lv_has ls 9 [(0, .ref (q 0)), (1, .int z1), (2, .int z2), (3, .int z3), (4, .int z4), (5, .int y5)] → W p l e (headSpec (Cond.code yX8_lie cX8_lie 9 (some .int) :: tb_L) { frames := 3, cells := 0, slots := 0, locals := 68 }).room s m [.ref (q 0), .int x1].toArray below meth c₀ H locs 0 0 (MQ below (va_Qi post (wdB D (mw c q)) (wdA 31 q)) [.ref (q 0), .int x1].toArray s 0 0 (wdA 31 q)) (F0 m 107 ls []) := by
    intro K138 z1 z2 z3 z4 n
    induction n with
    | zero =>
      intro y5 σ H locs ls hw hk138 hP hS hl
      exact (show False from hw).elim
    | succ n ih =>
      intro y5 σ H locs ls hw hk138 hP hS hl
      rw [wX8_lie_L107] at hw
      have hD : va_D (wdA 31 q) (mw c q σ) := mw_D hD0
      refine lv_iload hx hb dX8_lie_107 (lv_at hl 5 rfl) ?_
      refine lv_iload_n hx hb dX8_lie_109 rfl (lv_at hl 2 rfl) ?_
      refine lv_icmp_ge (tgt := 138) hx hb dX8_lie_110 (by decide) (fun c23 => ?_) (fun c23 => ?_)
      · have hw := hw.1 c23
        exact hk138 y5 σ _ _ _ hw hP hS (lv_sub hl [0, 1, 2, 3, 4, 5] rfl)
      · have hw := hw.2 c23
        refine lv_aload_n hx hb dX8_lie_113 rfl (lv_at hl 0 rfl) ?_
        refine va_get (D := D) (ci := 8) (C := RX8) (T := TX8) (N := 57) hx hb htb inX8 hown hK hP 0 (mw_0 c q σ) rfl 24 (by decide) (htb _ tb_1205) (fun _ h9 => h9) rfl dX8_lie_114 ?_
        refine lv_iload_n hx hb dX8_lie_117 rfl (lv_at hl 1 rfl) ?_
        refine lv_bipush (v := (10 : Int32)) hx hb dX8_lie_118 (by decide) ?_
        refine lv_imul hx hb dX8_lie_120 ?_
        refine lv_aload_n hx hb dX8_lie_121 rfl (lv_at hl 0 rfl) ?_
        refine va_get (D := D) (ci := 8) (C := RX8) (T := TX8) (N := 57) hx hb htb inX8 hown hK hP 0 (mw_0 c q σ) rfl 40 (by decide) (htb _ tb_1221) (fun _ h9 => h9) rfl dX8_lie_122 ?_
        refine lv_iload hx hb dX8_lie_125 (lv_at hl 5 rfl) ?_
        refine va_iald hx hb hK hP 20 19 (mw_20 c q σ) rfl hw.1 dX8_lie_127 ?_
        have hw := hw.2
        refine lv_iadd hx hb dX8_lie_128 ?_
        refine lv_iload hx hb dX8_lie_129 (lv_at hl 5 rfl) ?_
        refine va_iast hx hb hK hP hD hS 13 12 (mw_13 c q σ) rfl hw.1 dX8_lie_131 (fun H locs hP hD hS => ?_)
        have hw := hw.2
        have hP : va_P D vwCl (mw c q (hsA σ 13 (upd (σ.2.1 13) ((z1 * (10 : Int32)) + (σ.2.1 20 y5.toNatClampNeg)).toNatClampNeg y5))) H := hP
        obtain ⟨σ24, eσ24⟩ : ∃ z : hsS, z = hsA σ 13 (upd (σ.2.1 13) ((z1 * (10 : Int32)) + (σ.2.1 20 y5.toNatClampNeg)).toNatClampNeg y5) := ⟨_, rfl⟩
        rw [← eσ24] at hP
        have hD : va_D (wdA 31 q) (mw c q σ24) := mw_D hD0
        have hw := hw σ24 eσ24
        obtain ⟨v25, ev25⟩ : ∃ z : Int32, z = y5 + (1 : Int32) := ⟨_, rfl⟩
        have hw := hw v25 ev25
        refine lv_iinc (v := v25) (lv' := [(5, .int v25), (0, .ref (q 0)), (1, .int z1), (2, .int z2), (3, .int z3), (4, .int z4)]) hx hb dX8_lie_132 hl (k := 5) rfl (by rw [ev25]; rfl) (by decide) rfl (fun ls hl => ?_)
        refine lv_goto (tgt := 107) hx hb dX8_lie_135 (by decide) ?_
        exact ih v25 σ24 _ _ _ hw hk138 hP hS (lv_sub hl [1, 2, 3, 4, 5, 0] rfl)
  have L156 : ∀ (K193 : Int32 → Int32 → hsS → Prop) (z1 : Int32) (z2 : Int32) (z3 : Int32) (z4 : Int32) (z5 : Int32) (n : Nat) (y6 : Int32) (y7 : Int32) (σ : hsS) (H : Heap) (locs : List Loc) (ls : Array Slot), wX8_lie_L156 z1 z2 z3 z4 z5 K193 post n y6 y7 σ → (∀ (y6 : Int32) (y7 : Int32) (σ : hsS) (H : Heap) (locs : List Loc) (ls : Array Slot), K193 y6 y7 σ → va_P D vwCl (mw c q σ) H → va_S (wdA 31 q) s.heap H locs → lv_has ls 9 [(0, .ref (q 0)), (1, .int z1), (2, .int z2), (3, .int z3), (4, .int z4), (5, .int z5), (6, .int y6), (7, .int y7)] → W p l e (headSpec (Cond.code yX8_lie cX8_lie 9 (some .int) :: tb_L) { frames := 3, cells := 0, slots := 0, locals := 68 }).room s m [.ref (q 0), .int x1].toArray below meth c₀ H locs 0 0 (MQ below (va_Qi post (wdB D (mw c q)) (wdA 31 q)) [.ref (q 0), .int x1].toArray s 0 0 (wdA 31 q)) (F0 m 193 ls [])) → va_P D vwCl (mw c q σ) H → va_S (wdA 31 q) s.heap H locs → lv_has ls 9 [(0, .ref (q 0)), (1, .int z1), (2, .int z2), (3, .int z3), (4, .int z4), (5, .int z5), (6, .int y6), (7, .int y7)] → W p l e (headSpec (Cond.code yX8_lie cX8_lie 9 (some .int) :: tb_L) { frames := 3, cells := 0, slots := 0, locals := 68 }).room s m [.ref (q 0), .int x1].toArray below meth c₀ H locs 0 0 (MQ below (va_Qi post (wdB D (mw c q)) (wdA 31 q)) [.ref (q 0), .int x1].toArray s 0 0 (wdA 31 q)) (F0 m 156 ls []) := by
    intro K193 z1 z2 z3 z4 z5 n
    induction n with
    | zero =>
      intro y6 y7 σ H locs ls hw hk193 hP hS hl
      exact (show False from hw).elim
    | succ n ih =>
      intro y6 y7 σ H locs ls hw hk193 hP hS hl
      rw [wX8_lie_L156] at hw
      have hD : va_D (wdA 31 q) (mw c q σ) := mw_D hD0
      refine lv_iload hx hb dX8_lie_156 (lv_at hl 7 rfl) ?_
      refine lv_iload_n hx hb dX8_lie_158 rfl (lv_at hl 2 rfl) ?_
      refine lv_icmp_ge (tgt := 193) hx hb dX8_lie_159 (by decide) (fun c31 => ?_) (fun c31 => ?_)
      · have hw := hw.1 c31
        exact hk193 y6 y7 σ _ _ _ hw hP hS (lv_sub hl [0, 1, 2, 3, 4, 5, 6, 7] rfl)
      · have hw := hw.2 c31
        refine lv_iload hx hb dX8_lie_162 (lv_at hl 5 rfl) ?_
        refine lv_iload hx hb dX8_lie_164 (lv_at hl 7 rfl) ?_
        refine lv_ishr hx hb dX8_lie_166 ?_
        refine lv_iconst (v := (1 : Int32)) hx hb dX8_lie_167 (by decide) ?_
        refine lv_iand hx hb dX8_lie_168 ?_
        refine lv_iconst (v := (1 : Int32)) hx hb dX8_lie_169 (by decide) ?_
        refine lv_icmp_ne (tgt := 187) hx hb dX8_lie_170 (by decide) (fun c32 => ?_) (fun c32 => ?_)
        · have hw := hw.2 c32
          obtain ⟨v35, ev35⟩ : ∃ z : Int32, z = y7 + (1 : Int32) := ⟨_, rfl⟩
          have hw := hw v35 ev35
          refine lv_iinc (v := v35) (lv' := [(7, .int v35), (0, .ref (q 0)), (1, .int z1), (2, .int z2), (3, .int z3), (4, .int z4), (5, .int z5), (6, .int y6)]) hx hb dX8_lie_187 hl (k := 7) rfl (by rw [ev35]; rfl) (by decide) rfl (fun ls hl => ?_)
          refine lv_goto (tgt := 156) hx hb dX8_lie_190 (by decide) ?_
          exact ih y6 v35 σ _ _ _ hw hk193 hP hS (lv_sub hl [1, 2, 3, 4, 5, 6, 7, 0] rfl)
        · have hw := hw.1 c32
          refine lv_iload hx hb dX8_lie_173 (lv_at hl 6 rfl) ?_
          refine lv_aload_n hx hb dX8_lie_175 rfl (lv_at hl 0 rfl) ?_
          refine va_get (D := D) (ci := 8) (C := RX8) (T := TX8) (N := 57) hx hb htb inX8 hown hK hP 0 (mw_0 c q σ) rfl 41 (by decide) (htb _ tb_1222) (fun _ h9 => h9) rfl dX8_lie_176 ?_
          refine lv_iload hx hb dX8_lie_179 (lv_at hl 7 rfl) ?_
          refine va_iald hx hb hK hP 21 20 (mw_21 c q σ) rfl hw.1 dX8_lie_181 ?_
          have hw := hw.2
          refine va_mmax hx hb (hml.trans hl.1.symm) hown (htb _ tb_1603) (htb _ tb_495) (htb _ tb_104) (htb _ tb_496) (Nat.le_of_ble_eq_true rfl) (Nat.le_of_ble_eq_true rfl) (Nat.zero_le _) (Nat.zero_le _) dX8_lie_182 ?_
          refine lv_topi (fun v33 ev33 => ?_)
          have hw := hw v33 ev33
          refine lv_istore (lv' := [(6, .int v33), (0, .ref (q 0)), (1, .int z1), (2, .int z2), (3, .int z3), (4, .int z4), (5, .int z5), (7, .int y7)]) hx hb dX8_lie_185 hl (by decide) rfl (fun ls hl => ?_)
          obtain ⟨v34, ev34⟩ : ∃ z : Int32, z = y7 + (1 : Int32) := ⟨_, rfl⟩
          have hw := hw v34 ev34
          refine lv_iinc (v := v34) (lv' := [(7, .int v34), (6, .int v33), (0, .ref (q 0)), (1, .int z1), (2, .int z2), (3, .int z3), (4, .int z4), (5, .int z5)]) hx hb dX8_lie_187 hl (k := 7) rfl (by rw [ev34]; rfl) (by decide) rfl (fun ls hl => ?_)
          refine lv_goto (tgt := 156) hx hb dX8_lie_190 (by decide) ?_
          exact ih v33 v34 σ _ _ _ hw hk193 hP hS (lv_sub hl [2, 3, 4, 5, 6, 7, 1, 0] rfl)
  have L99 : ∀ (K199 : Int32 → hsS → Prop) (K247 : Int32 → hsS → Prop) (z1 : Int32) (z2 : Int32) (z3 : Int32) (n : Nat) (y4 : Int32) (σ : hsS) (H : Heap) (locs : List Loc) (ls : Array Slot), wX8_lie_L99 z1 z2 z3 K199 K247 post n y4 σ → (∀ (y4 : Int32) (σ : hsS) (H : Heap) (locs : List Loc) (ls : Array Slot), K199 y4 σ → va_P D vwCl (mw c q σ) H → va_S (wdA 31 q) s.heap H locs → lv_has ls 9 [(0, .ref (q 0)), (1, .int z1), (2, .int z2), (3, .int z3), (4, .int y4)] → W p l e (headSpec (Cond.code yX8_lie cX8_lie 9 (some .int) :: tb_L) { frames := 3, cells := 0, slots := 0, locals := 68 }).room s m [.ref (q 0), .int x1].toArray below meth c₀ H locs 0 0 (MQ below (va_Qi post (wdB D (mw c q)) (wdA 31 q)) [.ref (q 0), .int x1].toArray s 0 0 (wdA 31 q)) (F0 m 199 ls [])) → (∀ (y4 : Int32) (σ : hsS) (H : Heap) (locs : List Loc) (ls : Array Slot), K247 y4 σ → va_P D vwCl (mw c q σ) H → va_S (wdA 31 q) s.heap H locs → lv_has ls 9 [(0, .ref (q 0)), (1, .int z1), (2, .int z2), (3, .int z3), (4, .int y4)] → W p l e (headSpec (Cond.code yX8_lie cX8_lie 9 (some .int) :: tb_L) { frames := 3, cells := 0, slots := 0, locals := 68 }).room s m [.ref (q 0), .int x1].toArray below meth c₀ H locs 0 0 (MQ below (va_Qi post (wdB D (mw c q)) (wdA 31 q)) [.ref (q 0), .int x1].toArray s 0 0 (wdA 31 q)) (F0 m 247 ls [])) → va_P D vwCl (mw c q σ) H → va_S (wdA 31 q) s.heap H locs → lv_has ls 9 [(0, .ref (q 0)), (1, .int z1), (2, .int z2), (3, .int z3), (4, .int y4)] → W p l e (headSpec (Cond.code yX8_lie cX8_lie 9 (some .int) :: tb_L) { frames := 3, cells := 0, slots := 0, locals := 68 }).room s m [.ref (q 0), .int x1].toArray below meth c₀ H locs 0 0 (MQ below (va_Qi post (wdB D (mw c q)) (wdA 31 q)) [.ref (q 0), .int x1].toArray s 0 0 (wdA 31 q)) (F0 m 99 ls []) := by
    intro K199 K247 z1 z2 z3 n
    induction n with
    | zero =>
      intro y4 σ H locs ls hw hk199 hk247 hP hS hl
      exact (show False from hw).elim
    | succ n ih =>
      intro y4 σ H locs ls hw hk199 hk247 hP hS hl
      rw [wX8_lie_L99] at hw
      have hD : va_D (wdA 31 q) (mw c q σ) := mw_D hD0
      refine lv_iload hx hb dX8_lie_99 (lv_at hl 4 rfl) ?_
      refine lv_if_eq (tgt := 247) hx hb dX8_lie_101 (by decide) (fun c22 => ?_) (fun c22 => ?_)
      · have hw := hw.1 c22
        exact hk247 y4 σ _ _ _ hw hP hS (lv_sub hl [0, 1, 2, 3, 4] rfl)
      · have hw := hw.2 c22
        refine lv_iconst (v := (0 : Int32)) hx hb dX8_lie_104 (by decide) ?_
        refine lv_istore (lv' := [(5, .int (0 : Int32)), (0, .ref (q 0)), (1, .int z1), (2, .int z2), (3, .int z3), (4, .int y4)]) hx hb dX8_lie_105 hl (by decide) rfl (fun ls hl => ?_)
        obtain ⟨n26, hw⟩ := hw
        refine L107 _ z1 z2 z3 y4 n26 (0 : Int32) σ _ _ _ hw ?_ hP hS (lv_sub hl [1, 2, 3, 4, 5, 0] rfl)
        intro v27 σ28 H locs ls hw hP hS hl
        have hD : va_D (wdA 31 q) (mw c q σ28) := mw_D hD0
        refine lv_aload_n hx hb dX8_lie_138 rfl (lv_at hl 0 rfl) ?_
        refine lv_aload_n hx hb dX8_lie_139 rfl (lv_at hl 0 rfl) ?_
        refine va_get (D := D) (ci := 8) (C := RX8) (T := TX8) (N := 57) hx hb htb inX8 hown hK hP 0 (mw_0 c q σ28) rfl 6 (by decide) (htb _ tb_1187) (fun _ h9 => h9) rfl dX8_lie_140 ?_
        refine lv_iconst (v := (0 : Int32)) hx hb dX8_lie_143 (by decide) ?_
        refine va_iald hx hb hK hP 6 5 (mw_6 c q σ28) rfl (by unfold vp_in; decide) dX8_lie_144 ?_
        refine va_calli (va_runV (As := [.int (σ28.2.1 6 (0 : Int32).toNatClampNeg)]) (rest := []) ⟨hx, hb, hml, hown, htb⟩ (kcX8_plainEnd l D c q ev hev σ28 (σ28.2.1 6 (0 : Int32).toNatClampNeg) _ hw) (tb_CW htb kX8_plainEnd tb_1575 tb_1577 tb_73 ⟨Nat.le_of_ble_eq_true rfl, Nat.le_of_ble_eq_true rfl⟩) (wd_preV (wd := mw c q) (k := 0) hev hK hP hD hE hS (mw_0 c q σ28) rfl) rfl rfl hl.1 rfl (lv_room (Nat.le_of_ble_eq_true rfl)) dX8_lie_145 ⟨Nat.zero_le _, Nat.zero_le _⟩) hS (fun q _ h => h) (fun q h => h) (fun r29 σ30 t H1 locs1 ht hvm hw hB hz1 hk1 hS => ?_)
        have hP : va_P D vwCl (mw c q σ30) H1 := ht ▸ hB
        have hD : va_D (wdA 31 q) (mw c q σ30) := mw_D hD0
        refine lv_istore (lv' := [(5, .int r29), (0, .ref (q 0)), (1, .int z1), (2, .int z2), (3, .int z3), (4, .int y4)]) hx hb dX8_lie_148 hl (by decide) rfl (fun ls hl => ?_)
        refine lv_iconst (v := (0 : Int32)) hx hb dX8_lie_150 (by decide) ?_
        refine lv_istore (lv' := [(6, .int (0 : Int32)), (5, .int r29), (0, .ref (q 0)), (1, .int z1), (2, .int z2), (3, .int z3), (4, .int y4)]) hx hb dX8_lie_151 hl (by decide) rfl (fun ls hl => ?_)
        refine lv_iconst (v := (0 : Int32)) hx hb dX8_lie_153 (by decide) ?_
        refine lv_istore (lv' := [(7, .int (0 : Int32)), (6, .int (0 : Int32)), (5, .int r29), (0, .ref (q 0)), (1, .int z1), (2, .int z2), (3, .int z3), (4, .int y4)]) hx hb dX8_lie_154 hl (by decide) rfl (fun ls hl => ?_)
        obtain ⟨n36, hw⟩ := hw
        refine L156 _ z1 z2 z3 y4 r29 n36 (0 : Int32) (0 : Int32) σ30 _ _ _ hw ?_ hP hS (lv_sub hl [3, 4, 5, 6, 7, 2, 1, 0] rfl)
        intro v37 v38 σ39 H locs ls hw hP hS hl
        have hD : va_D (wdA 31 q) (mw c q σ39) := mw_D hD0
        refine lv_iload hx hb dX8_lie_193 (lv_at hl 6 rfl) ?_
        refine lv_iload_n hx hb dX8_lie_195 rfl (lv_at hl 3 rfl) ?_
        refine lv_icmp_ge (tgt := 237) hx hb dX8_lie_196 (by decide) (fun c40 => ?_) (fun c40 => ?_)
        · have hw := hw.1 c40
          refine lv_aload_n hx hb dX8_lie_237 rfl (lv_at hl 0 rfl) ?_
          refine lv_iload_n hx hb dX8_lie_238 rfl (lv_at hl 2 rfl) ?_
          refine va_calli (va_runV (As := [.int z2]) (rest := []) ⟨hx, hb, hml, hown, htb⟩ (kcX8_nextOrder l D c q ev hev σ39 z2 _ hw) (tb_CW htb kX8_nextOrder tb_1616 tb_1618 tb_78 ⟨Nat.le_of_ble_eq_true rfl, Nat.le_of_ble_eq_true rfl⟩) (wd_preV (wd := mw c q) (k := 0) hev hK hP hD hE hS (mw_0 c q σ39) rfl) rfl rfl hl.1 rfl (lv_room (Nat.le_of_ble_eq_true rfl)) dX8_lie_239 ⟨Nat.zero_le _, Nat.zero_le _⟩) hS (fun q _ h => h) (fun q h => h) (fun r41 σ42 t H1 locs1 ht hvm hw hB hz1 hk1 hS => ?_)
          have hP : va_P D vwCl (mw c q σ42) H1 := ht ▸ hB
          have hD : va_D (wdA 31 q) (mw c q σ42) := mw_D hD0
          refine lv_istore (lv' := [(4, .int r41), (0, .ref (q 0)), (1, .int z1), (2, .int z2), (3, .int z3), (5, .int r29), (6, .int v37), (7, .int v38)]) hx hb dX8_lie_242 hl (by decide) rfl (fun ls hl => ?_)
          refine lv_goto (tgt := 99) hx hb dX8_lie_244 (by decide) ?_
          exact ih r41 σ42 _ _ _ hw hk199 hk247 hP hS (lv_sub hl [1, 2, 3, 4, 0] rfl)
        · have hw := hw.2 c40
          exact hk199 y4 σ39 _ _ _ hw hP hS (lv_sub hl [0, 1, 2, 3, 4] rfl)
  have L205 : ∀ (K234 : Int32 → Int32 → hsS → Prop) (z1 : Int32) (z2 : Int32) (z3 : Int32) (z4 : Int32) (n : Nat) (y7 : Int32) (y8 : Int32) (σ : hsS) (H : Heap) (locs : List Loc) (ls : Array Slot), wX8_lie_L205 z1 z2 z3 z4 K234 post n y7 y8 σ → (∀ (y7 : Int32) (y8 : Int32) (σ : hsS) (H : Heap) (locs : List Loc) (ls : Array Slot), K234 y7 y8 σ → va_P D vwCl (mw c q σ) H → va_S (wdA 31 q) s.heap H locs → lv_has ls 9 [(0, .ref (q 0)), (1, .int z1), (2, .int z2), (3, .int z3), (4, .int z4), (7, .int y7), (8, .int y8)] → W p l e (headSpec (Cond.code yX8_lie cX8_lie 9 (some .int) :: tb_L) { frames := 3, cells := 0, slots := 0, locals := 68 }).room s m [.ref (q 0), .int x1].toArray below meth c₀ H locs 0 0 (MQ below (va_Qi post (wdB D (mw c q)) (wdA 31 q)) [.ref (q 0), .int x1].toArray s 0 0 (wdA 31 q)) (F0 m 234 ls [])) → va_P D vwCl (mw c q σ) H → va_S (wdA 31 q) s.heap H locs → lv_has ls 9 [(0, .ref (q 0)), (1, .int z1), (2, .int z2), (3, .int z3), (4, .int z4), (7, .int y7), (8, .int y8)] → W p l e (headSpec (Cond.code yX8_lie cX8_lie 9 (some .int) :: tb_L) { frames := 3, cells := 0, slots := 0, locals := 68 }).room s m [.ref (q 0), .int x1].toArray below meth c₀ H locs 0 0 (MQ below (va_Qi post (wdB D (mw c q)) (wdA 31 q)) [.ref (q 0), .int x1].toArray s 0 0 (wdA 31 q)) (F0 m 205 ls []) := by
    intro K234 z1 z2 z3 z4 n
    induction n with
    | zero =>
      intro y7 y8 σ H locs ls hw hk234 hP hS hl
      exact (show False from hw).elim
    | succ n ih =>
      intro y7 y8 σ H locs ls hw hk234 hP hS hl
      rw [wX8_lie_L205] at hw
      have hD : va_D (wdA 31 q) (mw c q σ) := mw_D hD0
      refine lv_iload hx hb dX8_lie_205 (lv_at hl 6 rfl) ?_
      refine lv_iload_n hx hb dX8_lie_207 rfl (lv_at hl 2 rfl) ?_
      refine lv_icmp_ge (tgt := 234) hx hb dX8_lie_208 (by decide) (fun c46 => ?_) (fun c46 => ?_)
      · have hw := hw.1 c46
        exact hk234 y7 y8 σ _ _ _ hw hP hS (lv_sub hl [0, 1, 2, 3, 4, 5, 6] rfl)
      · have hw := hw.2 c46
        refine lv_iload hx hb dX8_lie_211 (lv_at hl 5 rfl) ?_
        refine lv_aload_n hx hb dX8_lie_213 rfl (lv_at hl 0 rfl) ?_
        refine va_get (D := D) (ci := 8) (C := RX8) (T := TX8) (N := 57) hx hb htb inX8 hown hK hP 0 (mw_0 c q σ) rfl 40 (by decide) (htb _ tb_1221) (fun _ h9 => h9) rfl dX8_lie_214 ?_
        refine lv_iload hx hb dX8_lie_217 (lv_at hl 6 rfl) ?_
        refine va_iald hx hb hK hP 20 19 (mw_20 c q σ) rfl hw.1 dX8_lie_219 ?_
        have hw := hw.2
        refine lv_iconst (v := (4 : Int32)) hx hb dX8_lie_220 (by decide) ?_
        refine lv_iload hx hb dX8_lie_221 (lv_at hl 6 rfl) ?_
        refine lv_imul hx hb dX8_lie_223 ?_
        refine lv_ishl hx hb dX8_lie_224 ?_
        refine lv_ior hx hb dX8_lie_225 ?_
        refine lv_topi (fun v47 ev47 => ?_)
        have hw := hw v47 ev47
        refine lv_istore (lv' := [(7, .int v47), (0, .ref (q 0)), (1, .int z1), (2, .int z2), (3, .int z3), (4, .int z4), (8, .int y8)]) hx hb dX8_lie_226 hl (by decide) rfl (fun ls hl => ?_)
        obtain ⟨v48, ev48⟩ : ∃ z : Int32, z = y8 + (1 : Int32) := ⟨_, rfl⟩
        have hw := hw v48 ev48
        refine lv_iinc (v := v48) (lv' := [(8, .int v48), (7, .int v47), (0, .ref (q 0)), (1, .int z1), (2, .int z2), (3, .int z3), (4, .int z4)]) hx hb dX8_lie_228 hl (k := 6) rfl (by rw [ev48]; rfl) (by decide) rfl (fun ls hl => ?_)
        refine lv_goto (tgt := 205) hx hb dX8_lie_231 (by decide) ?_
        exact ih v47 v48 σ _ _ _ hw hk234 hP hS (lv_sub hl [2, 3, 4, 5, 6, 1, 0] rfl)
  have hl := lv_entry ([.ref (q 0), .int x1]) (n := 9) (Nat.le_of_ble_eq_true rfl)
  rw [lg_entry_eq]
  generalize (lg_sl ([.ref (q 0), .int x1]) ++ List.replicate (9 - (lg_sl ([.ref (q 0), .int x1])).length) Slot.unset).toArray = ls at hl ⊢
  have hl : lv_has ls 9 [(0, .ref (q 0)), (1, .int x1)] := hl
  unfold wX8_lie at hw
  refine lv_aload_n hx hb dX8_lie_0 rfl (lv_at hl 0 rfl) ?_
  refine lv_iconst (v := (0 : Int32)) hx hb dX8_lie_1 (by decide) ?_
  refine va_put (D := D) (ci := 8) (ty := .int) (C := RX8) (T := TX8) (N := 57) hx hb htb inX8 tyX8 tyX8_ok nmX8 hown hK hP hD hS 0 (mw_0 c q σ) rfl 0 (by decide) (htb _ tb_1181) (fun _ h9 => h9) rfl (by decide +kernel) rfl rfl (Nat.le_of_ble_eq_true rfl) dX8_lie_2 (fun H locs hP hD hS => ?_)
  have hP : va_P D vwCl (mw c q (hsI σ 0 (0 : Int32))) H := hP
  obtain ⟨σ1, eσ1⟩ : ∃ z : hsS, z = hsI σ 0 (0 : Int32) := ⟨_, rfl⟩
  rw [← eσ1] at hP
  have hD : va_D (wdA 31 q) (mw c q σ1) := mw_D hD0
  have hw := hw σ1 eσ1
  refine lv_aload_n hx hb dX8_lie_5 rfl (lv_at hl 0 rfl) ?_
  refine lv_iload_n hx hb dX8_lie_6 rfl (lv_at hl 1 rfl) ?_
  refine va_calli (va_runV (As := [.int x1]) (rest := []) ⟨hx, hb, hml, hown, htb⟩ (kcX8_isOne l D c q ev hev σ1 x1 _ hw) (tb_CW htb kX8_isOne tb_1469 tb_1471 tb_58 ⟨Nat.le_of_ble_eq_true rfl, Nat.le_of_ble_eq_true rfl⟩) (wd_preV (wd := mw c q) (k := 0) hev hK hP hD hE hS (mw_0 c q σ1) rfl) rfl rfl hl.1 rfl (lv_room (Nat.le_of_ble_eq_true rfl)) dX8_lie_7 ⟨Nat.zero_le _, Nat.zero_le _⟩) hS (fun q _ h => h) (fun q h => h) (fun r2 σ3 t H1 locs1 ht hvm hw hB hz1 hk1 hS => ?_)
  have hP : va_P D vwCl (mw c q σ3) H1 := ht ▸ hB
  have hD : va_D (wdA 31 q) (mw c q σ3) := mw_D hD0
  refine lv_if_ne (tgt := 19) hx hb dX8_lie_10 (by decide) (fun c4 => ?_) (fun c4 => ?_)
  · have hw := hw.2 c4
    refine lv_aload_n hx hb dX8_lie_19 rfl (lv_at hl 0 rfl) ?_
    refine va_get (D := D) (ci := 8) (C := RX8) (T := TX8) (N := 57) hx hb htb inX8 hown hK hP 0 (mw_0 c q σ3) rfl 1 (by decide) (htb _ tb_1182) (fun _ h9 => h9) rfl dX8_lie_20 ?_
    refine lv_iconst (v := (0 : Int32)) hx hb dX8_lie_23 (by decide) ?_
    refine va_iald hx hb hK hP 1 0 (mw_1 c q σ3) rfl (by unfold vp_in; decide) dX8_lie_24 ?_
    refine lv_topi (fun v7 ev7 => ?_)
    have hw := hw v7 ev7
    refine lv_istore_n (lv' := [(2, .int v7), (0, .ref (q 0)), (1, .int x1)]) hx hb dX8_lie_25 rfl hl (by decide) rfl (fun ls hl => ?_)
    refine lv_iload_n hx hb dX8_lie_26 rfl (lv_at hl 0 rfl) ?_
    refine lv_iconst (v := (5 : Int32)) hx hb dX8_lie_27 (by decide) ?_
    refine lv_icmp_le (tgt := 33) hx hb dX8_lie_28 (by decide) (fun c8 => ?_) (fun c8 => ?_)
    · have hw := hw.1 c8
      refine lv_aload_n hx hb dX8_lie_33 rfl (lv_at hl 1 rfl) ?_
      refine va_callv (va_runV (As := []) (rest := []) ⟨hx, hb, hml, hown, htb⟩ (kcX8_takeTurns l D c q ev hev σ3  _ hw) (tb_CW htb kX8_takeTurns tb_1571 tb_1573 tb_72 ⟨Nat.le_of_ble_eq_true rfl, Nat.le_of_ble_eq_true rfl⟩) (wd_preV (wd := mw c q) (k := 0) hev hK hP hD hE hS (mw_0 c q σ3) rfl) rfl rfl hl.1 rfl (lv_room (Nat.le_of_ble_eq_true rfl)) dX8_lie_34 ⟨Nat.zero_le _, Nat.zero_le _⟩) hS (fun q _ h => h) (fun q h => h) (fun σ10 t H1 locs1 ht hvm hw hB hz1 hk1 hS => ?_)
      have hP : va_P D vwCl (mw c q σ10) H1 := ht ▸ hB
      have hD : va_D (wdA 31 q) (mw c q σ10) := mw_D hD0
      refine lv_aload_n hx hb dX8_lie_37 rfl (lv_at hl 1 rfl) ?_
      refine lv_iload_n hx hb dX8_lie_38 rfl (lv_at hl 2 rfl) ?_
      refine lv_aload_n hx hb dX8_lie_39 rfl (lv_at hl 1 rfl) ?_
      refine lv_aload_n hx hb dX8_lie_40 rfl (lv_at hl 1 rfl) ?_
      refine va_get (D := D) (ci := 8) (C := RX8) (T := TX8) (N := 57) hx hb htb inX8 hown hK hP 0 (mw_0 c q σ10) rfl 6 (by decide) (htb _ tb_1187) (fun _ h9 => h9) rfl dX8_lie_41 ?_
      refine lv_iconst (v := (0 : Int32)) hx hb dX8_lie_44 (by decide) ?_
      refine va_iald hx hb hK hP 6 5 (mw_6 c q σ10) rfl (by unfold vp_in; decide) dX8_lie_45 ?_
      refine va_calli (va_runV (As := [.int (σ10.2.1 6 (0 : Int32).toNatClampNeg)]) (rest := [.int x1, .ref (q 0)]) ⟨hx, hb, hml, hown, htb⟩ (kcX8_plainEnd l D c q ev hev σ10 (σ10.2.1 6 (0 : Int32).toNatClampNeg) _ hw) (tb_CW htb kX8_plainEnd tb_1575 tb_1577 tb_73 ⟨Nat.le_of_ble_eq_true rfl, Nat.le_of_ble_eq_true rfl⟩) (wd_preV (wd := mw c q) (k := 0) hev hK hP hD hE hS (mw_0 c q σ10) rfl) rfl rfl hl.1 rfl (lv_room (Nat.le_of_ble_eq_true rfl)) dX8_lie_46 ⟨Nat.zero_le _, Nat.zero_le _⟩) hS (fun q _ h => h) (fun q h => h) (fun r11 σ12 t H1 locs1 ht hvm hw hB hz1 hk1 hS => ?_)
      have hP : va_P D vwCl (mw c q σ12) H1 := ht ▸ hB
      have hD : va_D (wdA 31 q) (mw c q σ12) := mw_D hD0
      refine va_calli (va_runV (As := [.int x1, .int r11]) (rest := []) ⟨hx, hb, hml, hown, htb⟩ (kcX8_worst l D c q ev hev σ12 x1 r11 _ hw) (tb_CW htb kX8_worst tb_1599 tb_1601 tb_76 ⟨Nat.le_of_ble_eq_true rfl, Nat.le_of_ble_eq_true rfl⟩) (wd_preV (wd := mw c q) (k := 0) hev hK hP hD hE hS (mw_0 c q σ12) rfl) rfl rfl hl.1 rfl (lv_room (Nat.le_of_ble_eq_true rfl)) dX8_lie_49 ⟨Nat.zero_le _, Nat.zero_le _⟩) hS (fun q _ h => h) (fun q h => h) (fun r13 σ14 t H1 locs1 ht hvm hw hB hz1 hk1 hS => ?_)
      have hP : va_P D vwCl (mw c q σ14) H1 := ht ▸ hB
      have hD : va_D (wdA 31 q) (mw c q σ14) := mw_D hD0
      refine lv_istore_n (lv' := [(3, .int r13), (2, .int v7), (0, .ref (q 0)), (1, .int x1)]) hx hb dX8_lie_52 rfl hl (by decide) rfl (fun ls hl => ?_)
      refine lv_iconst (v := (0 : Int32)) hx hb dX8_lie_53 (by decide) ?_
      refine lv_istore (lv' := [(4, .int (0 : Int32)), (3, .int r13), (2, .int v7), (0, .ref (q 0)), (1, .int x1)]) hx hb dX8_lie_54 hl (by decide) rfl (fun ls hl => ?_)
      obtain ⟨n19, hw⟩ := hw
      refine L56 _ x1 v7 r13 n19 (0 : Int32) σ14 _ _ _ hw ?_ hP hS (lv_sub hl [3, 4, 2, 1, 0] rfl)
      intro v20 σ21 H locs ls hw hP hS hl
      have hD : va_D (wdA 31 q) (mw c q σ21) := mw_D hD0
      refine lv_iconst (v := (1 : Int32)) hx hb dX8_lie_96 (by decide) ?_
      refine lv_istore (lv' := [(4, .int (1 : Int32)), (0, .ref (q 0)), (1, .int x1), (2, .int v7), (3, .int r13)]) hx hb dX8_lie_97 hl (by decide) rfl (fun ls hl => ?_)
      obtain ⟨n43, hw⟩ := hw
      refine L99 _ _ x1 v7 r13 n43 (1 : Int32) σ21 _ _ _ hw ?_ ?_ hP hS (lv_sub hl [1, 2, 3, 4, 0] rfl)
      · intro v44 σ45 H locs ls hw hP hS hl
        have hD : va_D (wdA 31 q) (mw c q σ45) := mw_D hD0
        refine lv_iconst (v := (0 : Int32)) hx hb dX8_lie_199 (by decide) ?_
        refine lv_istore (lv' := [(7, .int (0 : Int32)), (0, .ref (q 0)), (1, .int x1), (2, .int v7), (3, .int r13), (4, .int v44)]) hx hb dX8_lie_200 hl (by decide) rfl (fun ls hl => ?_)
        refine lv_iconst (v := (0 : Int32)) hx hb dX8_lie_202 (by decide) ?_
        refine lv_istore (lv' := [(8, .int (0 : Int32)), (7, .int (0 : Int32)), (0, .ref (q 0)), (1, .int x1), (2, .int v7), (3, .int r13), (4, .int v44)]) hx hb dX8_lie_203 hl (by decide) rfl (fun ls hl => ?_)
        obtain ⟨n49, hw⟩ := hw
        refine L205 _ x1 v7 r13 v44 n49 (0 : Int32) (0 : Int32) σ45 _ _ _ hw ?_ hP hS (lv_sub hl [2, 3, 4, 5, 6, 1, 0] rfl)
        intro v50 v51 σ52 H locs ls hw hP hS hl
        have hD : va_D (wdA 31 q) (mw c q σ52) := mw_D hD0
        refine lv_iload hx hb dX8_lie_234 (lv_at hl 5 rfl) ?_
        exact W.iret hx hb hr (fun t ht hW => ⟨⟨_, σ52, rfl, hw, by unfold wdB; rw [ht]; exact hP⟩, hS.F ht⟩) hS.2.2 dX8_lie_236
      · intro v53 σ54 H locs ls hw hP hS hl
        have hD : va_D (wdA 31 q) (mw c q σ54) := mw_D hD0
        refine lv_iconst (v := (-1 : Int32)) hx hb dX8_lie_247 (by decide) ?_
        exact W.iret hx hb hr (fun t ht hW => ⟨⟨_, σ54, rfl, hw, by unfold wdB; rw [ht]; exact hP⟩, hS.F ht⟩) hS.2.2 dX8_lie_248
    · have hw := hw.2 c8
      refine lv_iconst (v := (-1 : Int32)) hx hb dX8_lie_31 (by decide) ?_
      exact W.iret hx hb hr (fun t ht hW => ⟨⟨_, σ3, rfl, hw, by unfold wdB; rw [ht]; exact hP⟩, hS.F ht⟩) hS.2.2 dX8_lie_32
  · have hw := hw.1 c4
    refine lv_aload_n hx hb dX8_lie_13 rfl (lv_at hl 0 rfl) ?_
    refine lv_iconst (v := (1 : Int32)) hx hb dX8_lie_14 (by decide) ?_
    refine va_calli (va_runV (As := [.int (1 : Int32)]) (rest := []) ⟨hx, hb, hml, hown, htb⟩ (kcX8_fail l D c q ev hev σ3 (1 : Int32) _ hw) (tb_CW htb kX8_fail tb_1366 tb_1368 tb_42 ⟨Nat.le_of_ble_eq_true rfl, Nat.le_of_ble_eq_true rfl⟩) (wd_preV (wd := mw c q) (k := 0) hev hK hP hD hE hS (mw_0 c q σ3) rfl) rfl rfl hl.1 rfl (lv_room (Nat.le_of_ble_eq_true rfl)) dX8_lie_15 ⟨Nat.zero_le _, Nat.zero_le _⟩) hS (fun q _ h => h) (fun q h => h) (fun r5 σ6 t H1 locs1 ht hvm hw hB hz1 hk1 hS => ?_)
    have hP : va_P D vwCl (mw c q σ6) H1 := ht ▸ hB
    have hD : va_D (wdA 31 q) (mw c q σ6) := mw_D hD0
    exact W.iret hx hb hr (fun t ht hW => ⟨⟨_, σ6, rfl, hw, by unfold wdB; rw [ht]; exact hP⟩, hS.F ht⟩) hS.2.2 dX8_lie_18
def wX8_trades_L60 (z1 : Int32) (z2 : Int32) (z5 : Int32) (K248 : Int32 → Int32 → Int32 → hsS → Prop) (post : Int32 → hsS → Prop) : Nat → Int32 → Int32 → Int32 → hsS → Prop
  | 0, _, _, _, _ => False
  | n + 1, y3, y4, y6, σ => (((σ.2.1 6 (0 : Int32).toNatClampNeg) ≤ y6 → K248 y3 y4 y6 σ) ∧ (¬ (σ.2.1 6 (0 : Int32).toNatClampNeg) ≤ y6 → vp_in z5 18 ∧ vp_in y6 18 ∧ (((σ.2.1 10 z5.toNatClampNeg) = (σ.2.1 10 y6.toNatClampNeg) → ∀ v14 : Int32, v14 = y6 + (1 : Int32) → wX8_trades_L60 z1 z2 z5 K248 post n y3 y4 v14 σ) ∧ (¬ (σ.2.1 10 z5.toNatClampNeg) = (σ.2.1 10 y6.toNatClampNeg) → vp_in y6 18 ∧ vp_in z5 9 ∧ ∀ σ15 : hsS, σ15 = hsA σ 16 (upd (σ.2.1 16) z5.toNatClampNeg (σ.2.1 10 y6.toNatClampNeg)) → vp_in z5 18 ∧ vp_in y6 9 ∧ ∀ σ16 : hsS, σ16 = hsA σ15 16 (upd (σ15.2.1 16) y6.toNatClampNeg (σ15.2.1 10 z5.toNatClampNeg)) → wX8_plainEnd (σ16.2.1 6 (0 : Int32).toNatClampNeg) (fun r17 σ18 => vp_in z5 18 ∧ vp_in z5 9 ∧ ∀ σ19 : hsS, σ19 = hsA σ18 16 (upd (σ18.2.1 16) z5.toNatClampNeg (σ18.2.1 10 z5.toNatClampNeg)) → vp_in y6 18 ∧ vp_in y6 9 ∧ ∀ σ20 : hsS, σ20 = hsA σ19 16 (upd (σ19.2.1 16) y6.toNatClampNeg (σ19.2.1 10 y6.toNatClampNeg)) → vp_in z5 18 ∧ wX8_worst (σ20.2.1 10 z5.toNatClampNeg) r17 (fun r21 σ22 => vp_in z5 18 ∧ wX8_worst (σ22.2.1 10 z5.toNatClampNeg) z2 (fun r23 σ24 => ((r23 ≤ r21 → ∀ v26 : Int32, v26 = y6 + (1 : Int32) → wX8_trades_L60 z1 z2 z5 K248 post n y3 y4 v26 σ24) ∧ (¬ r23 ≤ r21 → vp_in y6 18 ∧ wX8_worst (σ24.2.1 10 y6.toNatClampNeg) r17 (fun r27 σ28 => vp_in y6 18 ∧ wX8_worst (σ28.2.1 10 y6.toNatClampNeg) z2 (fun r29 σ30 => ((r27 < r29 → ∀ v32 : Int32, v32 = y3 + (1 : Int32) → ((y4 = (-1 : Int32) → ∀ v34 : Int32, v34 = ((8 : Int32) * z5) + y6 → ∀ v35 : Int32, v35 = y6 + (1 : Int32) → wX8_trades_L60 z1 z2 z5 K248 post n v32 v34 v35 σ30) ∧ (¬ y4 = (-1 : Int32) → ∀ v36 : Int32, v36 = y6 + (1 : Int32) → wX8_trades_L60 z1 z2 z5 K248 post n v32 y4 v36 σ30))) ∧ (¬ r27 < r29 → ∀ v37 : Int32, v37 = y6 + (1 : Int32) → wX8_trades_L60 z1 z2 z5 K248 post n y3 y4 v37 σ30))) σ28) σ24))) σ22) σ20) σ16))))
def wX8_trades_L43 (z1 : Int32) (z2 : Int32) (K254 : Int32 → Int32 → Int32 → hsS → Prop) (post : Int32 → hsS → Prop) : Nat → Int32 → Int32 → Int32 → hsS → Prop
  | 0, _, _, _, _ => False
  | n + 1, y3, y4, y5, σ => (((σ.2.1 6 (0 : Int32).toNatClampNeg) ≤ y5 → K254 y3 y4 y5 σ) ∧ (¬ (σ.2.1 6 (0 : Int32).toNatClampNeg) ≤ y5 → ∀ v11 : Int32, v11 = y5 + (1 : Int32) → ∃ n38, wX8_trades_L60 z1 z2 y5 (fun v39 v40 v41 σ42 => ∀ v43 : Int32, v43 = y5 + (1 : Int32) → wX8_trades_L43 z1 z2 K254 post n v39 v40 v43 σ42) post n38 y3 y4 v11 σ))
def wX8_trades (x1 : Int32) (post : Int32 → hsS → Prop) (σ : hsS) : Prop := ∀ σ1 : hsS, σ1 = hsI σ 0 (0 : Int32) → ((x1 < (0 : Int32) → wX8_fail (1 : Int32) (fun r3 σ4 => post r3 σ4) σ1) ∧ (¬ x1 < (0 : Int32) → ((x1 ≤ (1 : Int32) → wX8_takeTurns  (fun σ7 => wX8_plainEnd (σ7.2.1 6 (0 : Int32).toNatClampNeg) (fun r8 σ9 => ∃ n44, wX8_trades_L43 x1 r8 (fun v45 v46 v47 σ48 => ((x1 = (0 : Int32) → post v45 σ48) ∧ (¬ x1 = (0 : Int32) → post v46 σ48))) post n44 (0 : Int32) (-1 : Int32) (0 : Int32) σ9) σ7) σ1) ∧ (¬ x1 ≤ (1 : Int32) → wX8_fail (1 : Int32) (fun r50 σ51 => post r50 σ51) σ1))))
set_option maxHeartbeats 4000000 in
set_option maxRecDepth 100000 in
theorem kcX8_trades (l : Launch) (D : va_G) (c : Nat → ClassId) (q : Nat → Nat) (ev : State → Heap → Prop) (hev : evOK (wdA 31 q) ev) (σ : hsS) (x1 : Int32) (post : Int32 → hsS → Prop) (hw : wX8_trades x1 post σ) : Met l yX8_trades (Cond.code yX8_trades cX8_trades 8 (some .int) :: tb_L) { frames := 3, cells := 0, slots := 0, locals := 68 } (wdPc D (mw c q) (mwT c) (wdA 31 q) ev σ [.ref (q 0), .int x1]) (va_Qi post (wdB D (mw c q)) (wdA 31 q)) 0 0 (wdA 31 q) := by
  refine Met.ofW (cc := cX8_trades) (maxL := 8) (ret := (some .int)) (by decide) rfl ?_
  intro p e s m args below meth c₀ s₁ Bd hml hv
  obtain ⟨rfl, hP, hK, hD0, hE⟩ := hv
  have hx := Bd.exec
  have hb := Bd.bytes
  have hr := Bd.returns
  have hts := atoms_spec (ws := Cond.code yX8_trades cX8_trades 8 (some .int) :: tb_L) Bd.pre
  have htb : ∀ w ∈ tb_L, w.before [.ref (q 0), .int x1].toArray s = true := fun w h => hts w (List.mem_cons_of_mem _ h)
  have hown : s.vm.findClass RX8 = some m.cls := findClass_of_methodNamed Bd.named
  have hlocks := Bd.notSynchronized
  have hS : va_S (wdA 31 q) s.heap s.heap [] := va_S.rf
  have hD := hD0
  have L60 : ∀ (K248 : Int32 → Int32 → Int32 → hsS → Prop) (z1 : Int32) (z2 : Int32) (z5 : Int32) (n : Nat) (y3 : Int32) (y4 : Int32) (y6 : Int32) (σ : hsS) (H : Heap) (locs : List Loc) (ls : Array Slot), wX8_trades_L60 z1 z2 z5 K248 post n y3 y4 y6 σ → (∀ (y3 : Int32) (y4 : Int32) (y6 : Int32) (σ : hsS) (H : Heap) (locs : List Loc) (ls : Array Slot), K248 y3 y4 y6 σ → va_P D vwCl (mw c q σ) H → va_S (wdA 31 q) s.heap H locs → lv_has ls 8 [(0, .ref (q 0)), (1, .int z1), (2, .int z2), (3, .int y3), (4, .int y4), (5, .int z5), (6, .int y6)] → W p l e (headSpec (Cond.code yX8_trades cX8_trades 8 (some .int) :: tb_L) { frames := 3, cells := 0, slots := 0, locals := 68 }).room s m [.ref (q 0), .int x1].toArray below meth c₀ H locs 0 0 (MQ below (va_Qi post (wdB D (mw c q)) (wdA 31 q)) [.ref (q 0), .int x1].toArray s 0 0 (wdA 31 q)) (F0 m 248 ls [])) → va_P D vwCl (mw c q σ) H → va_S (wdA 31 q) s.heap H locs → lv_has ls 8 [(0, .ref (q 0)), (1, .int z1), (2, .int z2), (3, .int y3), (4, .int y4), (5, .int z5), (6, .int y6)] → W p l e (headSpec (Cond.code yX8_trades cX8_trades 8 (some .int) :: tb_L) { frames := 3, cells := 0, slots := 0, locals := 68 }).room s m [.ref (q 0), .int x1].toArray below meth c₀ H locs 0 0 (MQ below (va_Qi post (wdB D (mw c q)) (wdA 31 q)) [.ref (q 0), .int x1].toArray s 0 0 (wdA 31 q)) (F0 m 60 ls []) := by
    intro K248 z1 z2 z5 n
    induction n with
    | zero =>
      intro y3 y4 y6 σ H locs ls hw hk248 hP hS hl
      exact (show False from hw).elim
    | succ n ih =>
      intro y3 y4 y6 σ H locs ls hw hk248 hP hS hl
      rw [wX8_trades_L60] at hw
      have hD : va_D (wdA 31 q) (mw c q σ) := mw_D hD0
      refine lv_iload hx hb dX8_trades_60 (lv_at hl 6 rfl) ?_
      refine lv_aload_n hx hb dX8_trades_62 rfl (lv_at hl 0 rfl) ?_
      refine va_get (D := D) (ci := 8) (C := RX8) (T := TX8) (N := 57) hx hb htb inX8 hown hK hP 0 (mw_0 c q σ) rfl 6 (by decide) (htb _ tb_1187) (fun _ h9 => h9) rfl dX8_trades_63 ?_
      refine lv_iconst (v := (0 : Int32)) hx hb dX8_trades_66 (by decide) ?_
      refine va_iald hx hb hK hP 6 5 (mw_6 c q σ) rfl (by unfold vp_in; decide) dX8_trades_67 ?_
      refine lv_icmp_ge (tgt := 248) hx hb dX8_trades_68 (by decide) (fun c12 => ?_) (fun c12 => ?_)
      · have hw := hw.1 c12
        exact hk248 y3 y4 y6 σ _ _ _ hw hP hS (lv_sub hl [0, 1, 2, 3, 4, 5, 6] rfl)
      · have hw := hw.2 c12
        refine lv_aload_n hx hb dX8_trades_71 rfl (lv_at hl 0 rfl) ?_
        refine va_get (D := D) (ci := 8) (C := RX8) (T := TX8) (N := 57) hx hb htb inX8 hown hK hP 0 (mw_0 c q σ) rfl 10 (by decide) (htb _ tb_1191) (fun _ h9 => h9) rfl dX8_trades_72 ?_
        refine lv_iload hx hb dX8_trades_75 (lv_at hl 5 rfl) ?_
        refine va_iald hx hb hK hP 10 9 (mw_10 c q σ) rfl hw.1 dX8_trades_77 ?_
        have hw := hw.2
        refine lv_aload_n hx hb dX8_trades_78 rfl (lv_at hl 0 rfl) ?_
        refine va_get (D := D) (ci := 8) (C := RX8) (T := TX8) (N := 57) hx hb htb inX8 hown hK hP 0 (mw_0 c q σ) rfl 10 (by decide) (htb _ tb_1191) (fun _ h9 => h9) rfl dX8_trades_79 ?_
        refine lv_iload hx hb dX8_trades_82 (lv_at hl 6 rfl) ?_
        refine va_iald hx hb hK hP 10 9 (mw_10 c q σ) rfl hw.1 dX8_trades_84 ?_
        have hw := hw.2
        refine lv_icmp_ne (tgt := 91) hx hb dX8_trades_85 (by decide) (fun c13 => ?_) (fun c13 => ?_)
        · have hw := hw.2 c13
          refine lv_aload_n hx hb dX8_trades_91 rfl (lv_at hl 0 rfl) ?_
          refine va_get (D := D) (ci := 8) (C := RX8) (T := TX8) (N := 57) hx hb htb inX8 hown hK hP 0 (mw_0 c q σ) rfl 31 (by decide) (htb _ tb_1212) (fun _ h9 => h9) rfl dX8_trades_92 ?_
          refine lv_iload hx hb dX8_trades_95 (lv_at hl 5 rfl) ?_
          refine lv_aload_n hx hb dX8_trades_97 rfl (lv_at hl 0 rfl) ?_
          refine va_get (D := D) (ci := 8) (C := RX8) (T := TX8) (N := 57) hx hb htb inX8 hown hK hP 0 (mw_0 c q σ) rfl 10 (by decide) (htb _ tb_1191) (fun _ h9 => h9) rfl dX8_trades_98 ?_
          refine lv_iload hx hb dX8_trades_101 (lv_at hl 6 rfl) ?_
          refine va_iald hx hb hK hP 10 9 (mw_10 c q σ) rfl hw.1 dX8_trades_103 ?_
          have hw := hw.2
          refine va_iast hx hb hK hP hD hS 16 15 (mw_16 c q σ) rfl hw.1 dX8_trades_104 (fun H locs hP hD hS => ?_)
          have hw := hw.2
          have hP : va_P D vwCl (mw c q (hsA σ 16 (upd (σ.2.1 16) z5.toNatClampNeg (σ.2.1 10 y6.toNatClampNeg)))) H := hP
          obtain ⟨σ15, eσ15⟩ : ∃ z : hsS, z = hsA σ 16 (upd (σ.2.1 16) z5.toNatClampNeg (σ.2.1 10 y6.toNatClampNeg)) := ⟨_, rfl⟩
          rw [← eσ15] at hP
          have hD : va_D (wdA 31 q) (mw c q σ15) := mw_D hD0
          have hw := hw σ15 eσ15
          refine lv_aload_n hx hb dX8_trades_105 rfl (lv_at hl 0 rfl) ?_
          refine va_get (D := D) (ci := 8) (C := RX8) (T := TX8) (N := 57) hx hb htb inX8 hown hK hP 0 (mw_0 c q σ15) rfl 31 (by decide) (htb _ tb_1212) (fun _ h9 => h9) rfl dX8_trades_106 ?_
          refine lv_iload hx hb dX8_trades_109 (lv_at hl 6 rfl) ?_
          refine lv_aload_n hx hb dX8_trades_111 rfl (lv_at hl 0 rfl) ?_
          refine va_get (D := D) (ci := 8) (C := RX8) (T := TX8) (N := 57) hx hb htb inX8 hown hK hP 0 (mw_0 c q σ15) rfl 10 (by decide) (htb _ tb_1191) (fun _ h9 => h9) rfl dX8_trades_112 ?_
          refine lv_iload hx hb dX8_trades_115 (lv_at hl 5 rfl) ?_
          refine va_iald hx hb hK hP 10 9 (mw_10 c q σ15) rfl hw.1 dX8_trades_117 ?_
          have hw := hw.2
          refine va_iast hx hb hK hP hD hS 16 15 (mw_16 c q σ15) rfl hw.1 dX8_trades_118 (fun H locs hP hD hS => ?_)
          have hw := hw.2
          have hP : va_P D vwCl (mw c q (hsA σ15 16 (upd (σ15.2.1 16) y6.toNatClampNeg (σ15.2.1 10 z5.toNatClampNeg)))) H := hP
          obtain ⟨σ16, eσ16⟩ : ∃ z : hsS, z = hsA σ15 16 (upd (σ15.2.1 16) y6.toNatClampNeg (σ15.2.1 10 z5.toNatClampNeg)) := ⟨_, rfl⟩
          rw [← eσ16] at hP
          have hD : va_D (wdA 31 q) (mw c q σ16) := mw_D hD0
          have hw := hw σ16 eσ16
          refine lv_aload_n hx hb dX8_trades_119 rfl (lv_at hl 0 rfl) ?_
          refine lv_aload_n hx hb dX8_trades_120 rfl (lv_at hl 0 rfl) ?_
          refine va_get (D := D) (ci := 8) (C := RX8) (T := TX8) (N := 57) hx hb htb inX8 hown hK hP 0 (mw_0 c q σ16) rfl 6 (by decide) (htb _ tb_1187) (fun _ h9 => h9) rfl dX8_trades_121 ?_
          refine lv_iconst (v := (0 : Int32)) hx hb dX8_trades_124 (by decide) ?_
          refine va_iald hx hb hK hP 6 5 (mw_6 c q σ16) rfl (by unfold vp_in; decide) dX8_trades_125 ?_
          refine va_calli (va_runV (As := [.int (σ16.2.1 6 (0 : Int32).toNatClampNeg)]) (rest := []) ⟨hx, hb, hml, hown, htb⟩ (kcX8_plainEnd l D c q ev hev σ16 (σ16.2.1 6 (0 : Int32).toNatClampNeg) _ hw) (tb_CW htb kX8_plainEnd tb_1575 tb_1577 tb_73 ⟨Nat.le_of_ble_eq_true rfl, Nat.le_of_ble_eq_true rfl⟩) (wd_preV (wd := mw c q) (k := 0) hev hK hP hD hE hS (mw_0 c q σ16) rfl) rfl rfl hl.1 rfl (lv_room (Nat.le_of_ble_eq_true rfl)) dX8_trades_126 ⟨Nat.zero_le _, Nat.zero_le _⟩) hS (fun q _ h => h) (fun q h => h) (fun r17 σ18 t H1 locs1 ht hvm hw hB hz1 hk1 hS => ?_)
          have hP : va_P D vwCl (mw c q σ18) H1 := ht ▸ hB
          have hD : va_D (wdA 31 q) (mw c q σ18) := mw_D hD0
          refine lv_istore (lv' := [(7, .int r17), (0, .ref (q 0)), (1, .int z1), (2, .int z2), (3, .int y3), (4, .int y4), (5, .int z5), (6, .int y6)]) hx hb dX8_trades_129 hl (by decide) rfl (fun ls hl => ?_)
          refine lv_aload_n hx hb dX8_trades_131 rfl (lv_at hl 1 rfl) ?_
          refine va_get (D := D) (ci := 8) (C := RX8) (T := TX8) (N := 57) hx hb htb inX8 hown hK hP 0 (mw_0 c q σ18) rfl 31 (by decide) (htb _ tb_1212) (fun _ h9 => h9) rfl dX8_trades_132 ?_
          refine lv_iload hx hb dX8_trades_135 (lv_at hl 6 rfl) ?_
          refine lv_aload_n hx hb dX8_trades_137 rfl (lv_at hl 1 rfl) ?_
          refine va_get (D := D) (ci := 8) (C := RX8) (T := TX8) (N := 57) hx hb htb inX8 hown hK hP 0 (mw_0 c q σ18) rfl 10 (by decide) (htb _ tb_1191) (fun _ h9 => h9) rfl dX8_trades_138 ?_
          refine lv_iload hx hb dX8_trades_141 (lv_at hl 6 rfl) ?_
          refine va_iald hx hb hK hP 10 9 (mw_10 c q σ18) rfl hw.1 dX8_trades_143 ?_
          have hw := hw.2
          refine va_iast hx hb hK hP hD hS 16 15 (mw_16 c q σ18) rfl hw.1 dX8_trades_144 (fun H locs hP hD hS => ?_)
          have hw := hw.2
          have hP : va_P D vwCl (mw c q (hsA σ18 16 (upd (σ18.2.1 16) z5.toNatClampNeg (σ18.2.1 10 z5.toNatClampNeg)))) H := hP
          obtain ⟨σ19, eσ19⟩ : ∃ z : hsS, z = hsA σ18 16 (upd (σ18.2.1 16) z5.toNatClampNeg (σ18.2.1 10 z5.toNatClampNeg)) := ⟨_, rfl⟩
          rw [← eσ19] at hP
          have hD : va_D (wdA 31 q) (mw c q σ19) := mw_D hD0
          have hw := hw σ19 eσ19
          refine lv_aload_n hx hb dX8_trades_145 rfl (lv_at hl 1 rfl) ?_
          refine va_get (D := D) (ci := 8) (C := RX8) (T := TX8) (N := 57) hx hb htb inX8 hown hK hP 0 (mw_0 c q σ19) rfl 31 (by decide) (htb _ tb_1212) (fun _ h9 => h9) rfl dX8_trades_146 ?_
          refine lv_iload hx hb dX8_trades_149 (lv_at hl 7 rfl) ?_
          refine lv_aload_n hx hb dX8_trades_151 rfl (lv_at hl 1 rfl) ?_
          refine va_get (D := D) (ci := 8) (C := RX8) (T := TX8) (N := 57) hx hb htb inX8 hown hK hP 0 (mw_0 c q σ19) rfl 10 (by decide) (htb _ tb_1191) (fun _ h9 => h9) rfl dX8_trades_152 ?_
          refine lv_iload hx hb dX8_trades_155 (lv_at hl 7 rfl) ?_
          refine va_iald hx hb hK hP 10 9 (mw_10 c q σ19) rfl hw.1 dX8_trades_157 ?_
          have hw := hw.2
          refine va_iast hx hb hK hP hD hS 16 15 (mw_16 c q σ19) rfl hw.1 dX8_trades_158 (fun H locs hP hD hS => ?_)
          have hw := hw.2
          have hP : va_P D vwCl (mw c q (hsA σ19 16 (upd (σ19.2.1 16) y6.toNatClampNeg (σ19.2.1 10 y6.toNatClampNeg)))) H := hP
          obtain ⟨σ20, eσ20⟩ : ∃ z : hsS, z = hsA σ19 16 (upd (σ19.2.1 16) y6.toNatClampNeg (σ19.2.1 10 y6.toNatClampNeg)) := ⟨_, rfl⟩
          rw [← eσ20] at hP
          have hD : va_D (wdA 31 q) (mw c q σ20) := mw_D hD0
          have hw := hw σ20 eσ20
          refine lv_aload_n hx hb dX8_trades_159 rfl (lv_at hl 1 rfl) ?_
          refine lv_aload_n hx hb dX8_trades_160 rfl (lv_at hl 1 rfl) ?_
          refine va_get (D := D) (ci := 8) (C := RX8) (T := TX8) (N := 57) hx hb htb inX8 hown hK hP 0 (mw_0 c q σ20) rfl 10 (by decide) (htb _ tb_1191) (fun _ h9 => h9) rfl dX8_trades_161 ?_
          refine lv_iload hx hb dX8_trades_164 (lv_at hl 6 rfl) ?_
          refine va_iald hx hb hK hP 10 9 (mw_10 c q σ20) rfl hw.1 dX8_trades_166 ?_
          have hw := hw.2
          refine lv_iload hx hb dX8_trades_167 (lv_at hl 0 rfl) ?_
          refine va_calli (va_runV (As := [.int (σ20.2.1 10 z5.toNatClampNeg), .int r17]) (rest := []) ⟨hx, hb, hml, hown, htb⟩ (kcX8_worst l D c q ev hev σ20 (σ20.2.1 10 z5.toNatClampNeg) r17 _ hw) (tb_CW htb kX8_worst tb_1599 tb_1601 tb_76 ⟨Nat.le_of_ble_eq_true rfl, Nat.le_of_ble_eq_true rfl⟩) (wd_preV (wd := mw c q) (k := 0) hev hK hP hD hE hS (mw_0 c q σ20) rfl) rfl rfl hl.1 rfl (lv_room (Nat.le_of_ble_eq_true rfl)) dX8_trades_169 ⟨Nat.zero_le _, Nat.zero_le _⟩) hS (fun q _ h => h) (fun q h => h) (fun r21 σ22 t H1 locs1 ht hvm hw hB hz1 hk1 hS => ?_)
          have hP : va_P D vwCl (mw c q σ22) H1 := ht ▸ hB
          have hD : va_D (wdA 31 q) (mw c q σ22) := mw_D hD0
          refine lv_aload_n hx hb dX8_trades_172 rfl (lv_at hl 1 rfl) ?_
          refine lv_aload_n hx hb dX8_trades_173 rfl (lv_at hl 1 rfl) ?_
          refine va_get (D := D) (ci := 8) (C := RX8) (T := TX8) (N := 57) hx hb htb inX8 hown hK hP 0 (mw_0 c q σ22) rfl 10 (by decide) (htb _ tb_1191) (fun _ h9 => h9) rfl dX8_trades_174 ?_
          refine lv_iload hx hb dX8_trades_177 (lv_at hl 6 rfl) ?_
          refine va_iald hx hb hK hP 10 9 (mw_10 c q σ22) rfl hw.1 dX8_trades_179 ?_
          have hw := hw.2
          refine lv_iload_n hx hb dX8_trades_180 rfl (lv_at hl 3 rfl) ?_
          refine va_calli (va_runV (As := [.int (σ22.2.1 10 z5.toNatClampNeg), .int z2]) (rest := [.int r21]) ⟨hx, hb, hml, hown, htb⟩ (kcX8_worst l D c q ev hev σ22 (σ22.2.1 10 z5.toNatClampNeg) z2 _ hw) (tb_CW htb kX8_worst tb_1599 tb_1601 tb_76 ⟨Nat.le_of_ble_eq_true rfl, Nat.le_of_ble_eq_true rfl⟩) (wd_preV (wd := mw c q) (k := 0) hev hK hP hD hE hS (mw_0 c q σ22) rfl) rfl rfl hl.1 rfl (lv_room (Nat.le_of_ble_eq_true rfl)) dX8_trades_181 ⟨Nat.zero_le _, Nat.zero_le _⟩) hS (fun q _ h => h) (fun q h => h) (fun r23 σ24 t H1 locs1 ht hvm hw hB hz1 hk1 hS => ?_)
          have hP : va_P D vwCl (mw c q σ24) H1 := ht ▸ hB
          have hD : va_D (wdA 31 q) (mw c q σ24) := mw_D hD0
          refine lv_icmp_ge (tgt := 242) hx hb dX8_trades_184 (by decide) (fun c25 => ?_) (fun c25 => ?_)
          · have hw := hw.1 c25
            obtain ⟨v26, ev26⟩ : ∃ z : Int32, z = y6 + (1 : Int32) := ⟨_, rfl⟩
            have hw := hw v26 ev26
            refine lv_iinc (v := v26) (lv' := [(6, .int v26), (7, .int r17), (0, .ref (q 0)), (1, .int z1), (2, .int z2), (3, .int y3), (4, .int y4), (5, .int z5)]) hx hb dX8_trades_242 hl (k := 7) rfl (by rw [ev26]; rfl) (by decide) rfl (fun ls hl => ?_)
            refine lv_goto (tgt := 60) hx hb dX8_trades_245 (by decide) ?_
            exact ih y3 y4 v26 σ24 _ _ _ hw hk248 hP hS (lv_sub hl [2, 3, 4, 5, 6, 7, 0] rfl)
          · have hw := hw.2 c25
            refine lv_aload_n hx hb dX8_trades_187 rfl (lv_at hl 1 rfl) ?_
            refine lv_aload_n hx hb dX8_trades_188 rfl (lv_at hl 1 rfl) ?_
            refine va_get (D := D) (ci := 8) (C := RX8) (T := TX8) (N := 57) hx hb htb inX8 hown hK hP 0 (mw_0 c q σ24) rfl 10 (by decide) (htb _ tb_1191) (fun _ h9 => h9) rfl dX8_trades_189 ?_
            refine lv_iload hx hb dX8_trades_192 (lv_at hl 7 rfl) ?_
            refine va_iald hx hb hK hP 10 9 (mw_10 c q σ24) rfl hw.1 dX8_trades_194 ?_
            have hw := hw.2
            refine lv_iload hx hb dX8_trades_195 (lv_at hl 0 rfl) ?_
            refine va_calli (va_runV (As := [.int (σ24.2.1 10 y6.toNatClampNeg), .int r17]) (rest := []) ⟨hx, hb, hml, hown, htb⟩ (kcX8_worst l D c q ev hev σ24 (σ24.2.1 10 y6.toNatClampNeg) r17 _ hw) (tb_CW htb kX8_worst tb_1599 tb_1601 tb_76 ⟨Nat.le_of_ble_eq_true rfl, Nat.le_of_ble_eq_true rfl⟩) (wd_preV (wd := mw c q) (k := 0) hev hK hP hD hE hS (mw_0 c q σ24) rfl) rfl rfl hl.1 rfl (lv_room (Nat.le_of_ble_eq_true rfl)) dX8_trades_197 ⟨Nat.zero_le _, Nat.zero_le _⟩) hS (fun q _ h => h) (fun q h => h) (fun r27 σ28 t H1 locs1 ht hvm hw hB hz1 hk1 hS => ?_)
            have hP : va_P D vwCl (mw c q σ28) H1 := ht ▸ hB
            have hD : va_D (wdA 31 q) (mw c q σ28) := mw_D hD0
            refine lv_aload_n hx hb dX8_trades_200 rfl (lv_at hl 1 rfl) ?_
            refine lv_aload_n hx hb dX8_trades_201 rfl (lv_at hl 1 rfl) ?_
            refine va_get (D := D) (ci := 8) (C := RX8) (T := TX8) (N := 57) hx hb htb inX8 hown hK hP 0 (mw_0 c q σ28) rfl 10 (by decide) (htb _ tb_1191) (fun _ h9 => h9) rfl dX8_trades_202 ?_
            refine lv_iload hx hb dX8_trades_205 (lv_at hl 7 rfl) ?_
            refine va_iald hx hb hK hP 10 9 (mw_10 c q σ28) rfl hw.1 dX8_trades_207 ?_
            have hw := hw.2
            refine lv_iload_n hx hb dX8_trades_208 rfl (lv_at hl 3 rfl) ?_
            refine va_calli (va_runV (As := [.int (σ28.2.1 10 y6.toNatClampNeg), .int z2]) (rest := [.int r27]) ⟨hx, hb, hml, hown, htb⟩ (kcX8_worst l D c q ev hev σ28 (σ28.2.1 10 y6.toNatClampNeg) z2 _ hw) (tb_CW htb kX8_worst tb_1599 tb_1601 tb_76 ⟨Nat.le_of_ble_eq_true rfl, Nat.le_of_ble_eq_true rfl⟩) (wd_preV (wd := mw c q) (k := 0) hev hK hP hD hE hS (mw_0 c q σ28) rfl) rfl rfl hl.1 rfl (lv_room (Nat.le_of_ble_eq_true rfl)) dX8_trades_209 ⟨Nat.zero_le _, Nat.zero_le _⟩) hS (fun q _ h => h) (fun q h => h) (fun r29 σ30 t H1 locs1 ht hvm hw hB hz1 hk1 hS => ?_)
            have hP : va_P D vwCl (mw c q σ30) H1 := ht ▸ hB
            have hD : va_D (wdA 31 q) (mw c q σ30) := mw_D hD0
            refine lv_icmp_lt (tgt := 218) hx hb dX8_trades_212 (by decide) (fun c31 => ?_) (fun c31 => ?_)
            · have hw := hw.1 c31
              obtain ⟨v32, ev32⟩ : ∃ z : Int32, z = y3 + (1 : Int32) := ⟨_, rfl⟩
              have hw := hw v32 ev32
              refine lv_iinc (v := v32) (lv' := [(3, .int v32), (7, .int r17), (0, .ref (q 0)), (1, .int z1), (2, .int z2), (4, .int y4), (5, .int z5), (6, .int y6)]) hx hb dX8_trades_218 hl (k := 4) rfl (by rw [ev32]; rfl) (by decide) rfl (fun ls hl => ?_)
              refine lv_iload hx hb dX8_trades_221 (lv_at hl 5 rfl) ?_
              refine lv_iconst (v := (-1 : Int32)) hx hb dX8_trades_223 (by decide) ?_
              refine lv_icmp_ne (tgt := 238) hx hb dX8_trades_224 (by decide) (fun c33 => ?_) (fun c33 => ?_)
              · have hw := hw.2 c33
                refine lv_iload hx hb dX8_trades_238 (lv_at hl 5 rfl) ?_
                refine lv_istore (lv' := [(4, .int y4), (3, .int v32), (7, .int r17), (0, .ref (q 0)), (1, .int z1), (2, .int z2), (5, .int z5), (6, .int y6)]) hx hb dX8_trades_240 hl (by decide) rfl (fun ls hl => ?_)
                obtain ⟨v36, ev36⟩ : ∃ z : Int32, z = y6 + (1 : Int32) := ⟨_, rfl⟩
                have hw := hw v36 ev36
                refine lv_iinc (v := v36) (lv' := [(6, .int v36), (4, .int y4), (3, .int v32), (7, .int r17), (0, .ref (q 0)), (1, .int z1), (2, .int z2), (5, .int z5)]) hx hb dX8_trades_242 hl (k := 7) rfl (by rw [ev36]; rfl) (by decide) rfl (fun ls hl => ?_)
                refine lv_goto (tgt := 60) hx hb dX8_trades_245 (by decide) ?_
                exact ih v32 y4 v36 σ30 _ _ _ hw hk248 hP hS (lv_sub hl [4, 5, 6, 2, 1, 7, 0] rfl)
              · have hw := hw.1 c33
                refine lv_bipush (v := (8 : Int32)) hx hb dX8_trades_227 (by decide) ?_
                refine lv_iload hx hb dX8_trades_229 (lv_at hl 6 rfl) ?_
                refine lv_imul hx hb dX8_trades_231 ?_
                refine lv_iload hx hb dX8_trades_232 (lv_at hl 7 rfl) ?_
                refine lv_iadd hx hb dX8_trades_234 ?_
                refine lv_goto (tgt := 240) hx hb dX8_trades_235 (by decide) ?_
                refine lv_topi (fun v34 ev34 => ?_)
                have hw := hw v34 ev34
                refine lv_istore (lv' := [(4, .int v34), (3, .int v32), (7, .int r17), (0, .ref (q 0)), (1, .int z1), (2, .int z2), (5, .int z5), (6, .int y6)]) hx hb dX8_trades_240 hl (by decide) rfl (fun ls hl => ?_)
                obtain ⟨v35, ev35⟩ : ∃ z : Int32, z = y6 + (1 : Int32) := ⟨_, rfl⟩
                have hw := hw v35 ev35
                refine lv_iinc (v := v35) (lv' := [(6, .int v35), (4, .int v34), (3, .int v32), (7, .int r17), (0, .ref (q 0)), (1, .int z1), (2, .int z2), (5, .int z5)]) hx hb dX8_trades_242 hl (k := 7) rfl (by rw [ev35]; rfl) (by decide) rfl (fun ls hl => ?_)
                refine lv_goto (tgt := 60) hx hb dX8_trades_245 (by decide) ?_
                exact ih v32 v34 v35 σ30 _ _ _ hw hk248 hP hS (lv_sub hl [4, 5, 6, 2, 1, 7, 0] rfl)
            · have hw := hw.2 c31
              refine lv_goto (tgt := 242) hx hb dX8_trades_215 (by decide) ?_
              obtain ⟨v37, ev37⟩ : ∃ z : Int32, z = y6 + (1 : Int32) := ⟨_, rfl⟩
              have hw := hw v37 ev37
              refine lv_iinc (v := v37) (lv' := [(6, .int v37), (7, .int r17), (0, .ref (q 0)), (1, .int z1), (2, .int z2), (3, .int y3), (4, .int y4), (5, .int z5)]) hx hb dX8_trades_242 hl (k := 7) rfl (by rw [ev37]; rfl) (by decide) rfl (fun ls hl => ?_)
              refine lv_goto (tgt := 60) hx hb dX8_trades_245 (by decide) ?_
              exact ih y3 y4 v37 σ30 _ _ _ hw hk248 hP hS (lv_sub hl [2, 3, 4, 5, 6, 7, 0] rfl)
        · have hw := hw.1 c13
          refine lv_goto (tgt := 242) hx hb dX8_trades_88 (by decide) ?_
          obtain ⟨v14, ev14⟩ : ∃ z : Int32, z = y6 + (1 : Int32) := ⟨_, rfl⟩
          have hw := hw v14 ev14
          refine lv_iinc (v := v14) (lv' := [(6, .int v14), (0, .ref (q 0)), (1, .int z1), (2, .int z2), (3, .int y3), (4, .int y4), (5, .int z5)]) hx hb dX8_trades_242 hl (k := 6) rfl (by rw [ev14]; rfl) (by decide) rfl (fun ls hl => ?_)
          refine lv_goto (tgt := 60) hx hb dX8_trades_245 (by decide) ?_
          exact ih y3 y4 v14 σ _ _ _ hw hk248 hP hS (lv_sub hl [1, 2, 3, 4, 5, 6, 0] rfl)
  have L43 : ∀ (K254 : Int32 → Int32 → Int32 → hsS → Prop) (z1 : Int32) (z2 : Int32) (n : Nat) (y3 : Int32) (y4 : Int32) (y5 : Int32) (σ : hsS) (H : Heap) (locs : List Loc) (ls : Array Slot), wX8_trades_L43 z1 z2 K254 post n y3 y4 y5 σ → (∀ (y3 : Int32) (y4 : Int32) (y5 : Int32) (σ : hsS) (H : Heap) (locs : List Loc) (ls : Array Slot), K254 y3 y4 y5 σ → va_P D vwCl (mw c q σ) H → va_S (wdA 31 q) s.heap H locs → lv_has ls 8 [(0, .ref (q 0)), (1, .int z1), (2, .int z2), (3, .int y3), (4, .int y4), (5, .int y5)] → W p l e (headSpec (Cond.code yX8_trades cX8_trades 8 (some .int) :: tb_L) { frames := 3, cells := 0, slots := 0, locals := 68 }).room s m [.ref (q 0), .int x1].toArray below meth c₀ H locs 0 0 (MQ below (va_Qi post (wdB D (mw c q)) (wdA 31 q)) [.ref (q 0), .int x1].toArray s 0 0 (wdA 31 q)) (F0 m 254 ls [])) → va_P D vwCl (mw c q σ) H → va_S (wdA 31 q) s.heap H locs → lv_has ls 8 [(0, .ref (q 0)), (1, .int z1), (2, .int z2), (3, .int y3), (4, .int y4), (5, .int y5)] → W p l e (headSpec (Cond.code yX8_trades cX8_trades 8 (some .int) :: tb_L) { frames := 3, cells := 0, slots := 0, locals := 68 }).room s m [.ref (q 0), .int x1].toArray below meth c₀ H locs 0 0 (MQ below (va_Qi post (wdB D (mw c q)) (wdA 31 q)) [.ref (q 0), .int x1].toArray s 0 0 (wdA 31 q)) (F0 m 43 ls []) := by
    intro K254 z1 z2 n
    induction n with
    | zero =>
      intro y3 y4 y5 σ H locs ls hw hk254 hP hS hl
      exact (show False from hw).elim
    | succ n ih =>
      intro y3 y4 y5 σ H locs ls hw hk254 hP hS hl
      rw [wX8_trades_L43] at hw
      have hD : va_D (wdA 31 q) (mw c q σ) := mw_D hD0
      refine lv_iload hx hb dX8_trades_43 (lv_at hl 5 rfl) ?_
      refine lv_aload_n hx hb dX8_trades_45 rfl (lv_at hl 0 rfl) ?_
      refine va_get (D := D) (ci := 8) (C := RX8) (T := TX8) (N := 57) hx hb htb inX8 hown hK hP 0 (mw_0 c q σ) rfl 6 (by decide) (htb _ tb_1187) (fun _ h9 => h9) rfl dX8_trades_46 ?_
      refine lv_iconst (v := (0 : Int32)) hx hb dX8_trades_49 (by decide) ?_
      refine va_iald hx hb hK hP 6 5 (mw_6 c q σ) rfl (by unfold vp_in; decide) dX8_trades_50 ?_
      refine lv_icmp_ge (tgt := 254) hx hb dX8_trades_51 (by decide) (fun c10 => ?_) (fun c10 => ?_)
      · have hw := hw.1 c10
        exact hk254 y3 y4 y5 σ _ _ _ hw hP hS (lv_sub hl [0, 1, 2, 3, 4, 5] rfl)
      · have hw := hw.2 c10
        refine lv_iload hx hb dX8_trades_54 (lv_at hl 5 rfl) ?_
        refine lv_iconst (v := (1 : Int32)) hx hb dX8_trades_56 (by decide) ?_
        refine lv_iadd hx hb dX8_trades_57 ?_
        refine lv_topi (fun v11 ev11 => ?_)
        have hw := hw v11 ev11
        refine lv_istore (lv' := [(6, .int v11), (0, .ref (q 0)), (1, .int z1), (2, .int z2), (3, .int y3), (4, .int y4), (5, .int y5)]) hx hb dX8_trades_58 hl (by decide) rfl (fun ls hl => ?_)
        obtain ⟨n38, hw⟩ := hw
        refine L60 _ z1 z2 y5 n38 y3 y4 v11 σ _ _ _ hw ?_ hP hS (lv_sub hl [1, 2, 3, 4, 5, 6, 0] rfl)
        intro v39 v40 v41 σ42 H locs ls hw hP hS hl
        have hD : va_D (wdA 31 q) (mw c q σ42) := mw_D hD0
        obtain ⟨v43, ev43⟩ : ∃ z : Int32, z = y5 + (1 : Int32) := ⟨_, rfl⟩
        have hw := hw v43 ev43
        refine lv_iinc (v := v43) (lv' := [(5, .int v43), (0, .ref (q 0)), (1, .int z1), (2, .int z2), (3, .int v39), (4, .int v40), (6, .int v41)]) hx hb dX8_trades_248 hl (k := 5) rfl (by rw [ev43]; rfl) (by decide) rfl (fun ls hl => ?_)
        refine lv_goto (tgt := 43) hx hb dX8_trades_251 (by decide) ?_
        exact ih v39 v40 v43 σ42 _ _ _ hw hk254 hP hS (lv_sub hl [1, 2, 3, 4, 5, 0] rfl)
  have hl := lv_entry ([.ref (q 0), .int x1]) (n := 8) (Nat.le_of_ble_eq_true rfl)
  rw [lg_entry_eq]
  generalize (lg_sl ([.ref (q 0), .int x1]) ++ List.replicate (8 - (lg_sl ([.ref (q 0), .int x1])).length) Slot.unset).toArray = ls at hl ⊢
  have hl : lv_has ls 8 [(0, .ref (q 0)), (1, .int x1)] := hl
  unfold wX8_trades at hw
  refine lv_aload_n hx hb dX8_trades_0 rfl (lv_at hl 0 rfl) ?_
  refine lv_iconst (v := (0 : Int32)) hx hb dX8_trades_1 (by decide) ?_
  refine va_put (D := D) (ci := 8) (ty := .int) (C := RX8) (T := TX8) (N := 57) hx hb htb inX8 tyX8 tyX8_ok nmX8 hown hK hP hD hS 0 (mw_0 c q σ) rfl 0 (by decide) (htb _ tb_1181) (fun _ h9 => h9) rfl (by decide +kernel) rfl rfl (Nat.le_of_ble_eq_true rfl) dX8_trades_2 (fun H locs hP hD hS => ?_)
  have hP : va_P D vwCl (mw c q (hsI σ 0 (0 : Int32))) H := hP
  obtain ⟨σ1, eσ1⟩ : ∃ z : hsS, z = hsI σ 0 (0 : Int32) := ⟨_, rfl⟩
  rw [← eσ1] at hP
  have hD : va_D (wdA 31 q) (mw c q σ1) := mw_D hD0
  have hw := hw σ1 eσ1
  refine lv_iload_n hx hb dX8_trades_5 rfl (lv_at hl 1 rfl) ?_
  refine lv_if_lt (tgt := 14) hx hb dX8_trades_6 (by decide) (fun c2 => ?_) (fun c2 => ?_)
  · have hw := hw.1 c2
    refine lv_aload_n hx hb dX8_trades_14 rfl (lv_at hl 0 rfl) ?_
    refine lv_iconst (v := (1 : Int32)) hx hb dX8_trades_15 (by decide) ?_
    refine va_calli (va_runV (As := [.int (1 : Int32)]) (rest := []) ⟨hx, hb, hml, hown, htb⟩ (kcX8_fail l D c q ev hev σ1 (1 : Int32) _ hw) (tb_CW htb kX8_fail tb_1366 tb_1368 tb_42 ⟨Nat.le_of_ble_eq_true rfl, Nat.le_of_ble_eq_true rfl⟩) (wd_preV (wd := mw c q) (k := 0) hev hK hP hD hE hS (mw_0 c q σ1) rfl) rfl rfl hl.1 rfl (lv_room (Nat.le_of_ble_eq_true rfl)) dX8_trades_16 ⟨Nat.zero_le _, Nat.zero_le _⟩) hS (fun q _ h => h) (fun q h => h) (fun r3 σ4 t H1 locs1 ht hvm hw hB hz1 hk1 hS => ?_)
    have hP : va_P D vwCl (mw c q σ4) H1 := ht ▸ hB
    have hD : va_D (wdA 31 q) (mw c q σ4) := mw_D hD0
    exact W.iret hx hb hr (fun t ht hW => ⟨⟨_, σ4, rfl, hw, by unfold wdB; rw [ht]; exact hP⟩, hS.F ht⟩) hS.2.2 dX8_trades_19
  · have hw := hw.2 c2
    refine lv_iload_n hx hb dX8_trades_9 rfl (lv_at hl 1 rfl) ?_
    refine lv_iconst (v := (1 : Int32)) hx hb dX8_trades_10 (by decide) ?_
    refine lv_icmp_le (tgt := 20) hx hb dX8_trades_11 (by decide) (fun c5 => ?_) (fun c5 => ?_)
    · have hw := hw.1 c5
      refine lv_aload_n hx hb dX8_trades_20 rfl (lv_at hl 0 rfl) ?_
      refine va_callv (va_runV (As := []) (rest := []) ⟨hx, hb, hml, hown, htb⟩ (kcX8_takeTurns l D c q ev hev σ1  _ hw) (tb_CW htb kX8_takeTurns tb_1571 tb_1573 tb_72 ⟨Nat.le_of_ble_eq_true rfl, Nat.le_of_ble_eq_true rfl⟩) (wd_preV (wd := mw c q) (k := 0) hev hK hP hD hE hS (mw_0 c q σ1) rfl) rfl rfl hl.1 rfl (lv_room (Nat.le_of_ble_eq_true rfl)) dX8_trades_21 ⟨Nat.zero_le _, Nat.zero_le _⟩) hS (fun q _ h => h) (fun q h => h) (fun σ7 t H1 locs1 ht hvm hw hB hz1 hk1 hS => ?_)
      have hP : va_P D vwCl (mw c q σ7) H1 := ht ▸ hB
      have hD : va_D (wdA 31 q) (mw c q σ7) := mw_D hD0
      refine lv_aload_n hx hb dX8_trades_24 rfl (lv_at hl 0 rfl) ?_
      refine lv_aload_n hx hb dX8_trades_25 rfl (lv_at hl 0 rfl) ?_
      refine va_get (D := D) (ci := 8) (C := RX8) (T := TX8) (N := 57) hx hb htb inX8 hown hK hP 0 (mw_0 c q σ7) rfl 6 (by decide) (htb _ tb_1187) (fun _ h9 => h9) rfl dX8_trades_26 ?_
      refine lv_iconst (v := (0 : Int32)) hx hb dX8_trades_29 (by decide) ?_
      refine va_iald hx hb hK hP 6 5 (mw_6 c q σ7) rfl (by unfold vp_in; decide) dX8_trades_30 ?_
      refine va_calli (va_runV (As := [.int (σ7.2.1 6 (0 : Int32).toNatClampNeg)]) (rest := []) ⟨hx, hb, hml, hown, htb⟩ (kcX8_plainEnd l D c q ev hev σ7 (σ7.2.1 6 (0 : Int32).toNatClampNeg) _ hw) (tb_CW htb kX8_plainEnd tb_1575 tb_1577 tb_73 ⟨Nat.le_of_ble_eq_true rfl, Nat.le_of_ble_eq_true rfl⟩) (wd_preV (wd := mw c q) (k := 0) hev hK hP hD hE hS (mw_0 c q σ7) rfl) rfl rfl hl.1 rfl (lv_room (Nat.le_of_ble_eq_true rfl)) dX8_trades_31 ⟨Nat.zero_le _, Nat.zero_le _⟩) hS (fun q _ h => h) (fun q h => h) (fun r8 σ9 t H1 locs1 ht hvm hw hB hz1 hk1 hS => ?_)
      have hP : va_P D vwCl (mw c q σ9) H1 := ht ▸ hB
      have hD : va_D (wdA 31 q) (mw c q σ9) := mw_D hD0
      refine lv_istore_n (lv' := [(2, .int r8), (0, .ref (q 0)), (1, .int x1)]) hx hb dX8_trades_34 rfl hl (by decide) rfl (fun ls hl => ?_)
      refine lv_iconst (v := (0 : Int32)) hx hb dX8_trades_35 (by decide) ?_
      refine lv_istore_n (lv' := [(3, .int (0 : Int32)), (2, .int r8), (0, .ref (q 0)), (1, .int x1)]) hx hb dX8_trades_36 rfl hl (by decide) rfl (fun ls hl => ?_)
      refine lv_iconst (v := (-1 : Int32)) hx hb dX8_trades_37 (by decide) ?_
      refine lv_istore (lv' := [(4, .int (-1 : Int32)), (3, .int (0 : Int32)), (2, .int r8), (0, .ref (q 0)), (1, .int x1)]) hx hb dX8_trades_38 hl (by decide) rfl (fun ls hl => ?_)
      refine lv_iconst (v := (0 : Int32)) hx hb dX8_trades_40 (by decide) ?_
      refine lv_istore (lv' := [(5, .int (0 : Int32)), (4, .int (-1 : Int32)), (3, .int (0 : Int32)), (2, .int r8), (0, .ref (q 0)), (1, .int x1)]) hx hb dX8_trades_41 hl (by decide) rfl (fun ls hl => ?_)
      obtain ⟨n44, hw⟩ := hw
      refine L43 _ x1 r8 n44 (0 : Int32) (-1 : Int32) (0 : Int32) σ9 _ _ _ hw ?_ hP hS (lv_sub hl [4, 5, 3, 2, 1, 0] rfl)
      intro v45 v46 v47 σ48 H locs ls hw hP hS hl
      have hD : va_D (wdA 31 q) (mw c q σ48) := mw_D hD0
      refine lv_iload_n hx hb dX8_trades_254 rfl (lv_at hl 1 rfl) ?_
      refine lv_if_ne (tgt := 262) hx hb dX8_trades_255 (by decide) (fun c49 => ?_) (fun c49 => ?_)
      · have hw := hw.2 c49
        refine lv_iload hx hb dX8_trades_262 (lv_at hl 4 rfl) ?_
        exact W.iret hx hb hr (fun t ht hW => ⟨⟨_, σ48, rfl, hw, by unfold wdB; rw [ht]; exact hP⟩, hS.F ht⟩) hS.2.2 dX8_trades_264
      · have hw := hw.1 c49
        refine lv_iload_n hx hb dX8_trades_258 rfl (lv_at hl 3 rfl) ?_
        refine lv_goto (tgt := 264) hx hb dX8_trades_259 (by decide) ?_
        exact W.iret hx hb hr (fun t ht hW => ⟨⟨_, σ48, rfl, hw, by unfold wdB; rw [ht]; exact hP⟩, hS.F ht⟩) hS.2.2 dX8_trades_264
    · have hw := hw.2 c5
      refine lv_aload_n hx hb dX8_trades_14 rfl (lv_at hl 0 rfl) ?_
      refine lv_iconst (v := (1 : Int32)) hx hb dX8_trades_15 (by decide) ?_
      refine va_calli (va_runV (As := [.int (1 : Int32)]) (rest := []) ⟨hx, hb, hml, hown, htb⟩ (kcX8_fail l D c q ev hev σ1 (1 : Int32) _ hw) (tb_CW htb kX8_fail tb_1366 tb_1368 tb_42 ⟨Nat.le_of_ble_eq_true rfl, Nat.le_of_ble_eq_true rfl⟩) (wd_preV (wd := mw c q) (k := 0) hev hK hP hD hE hS (mw_0 c q σ1) rfl) rfl rfl hl.1 rfl (lv_room (Nat.le_of_ble_eq_true rfl)) dX8_trades_16 ⟨Nat.zero_le _, Nat.zero_le _⟩) hS (fun q _ h => h) (fun q h => h) (fun r50 σ51 t H1 locs1 ht hvm hw hB hz1 hk1 hS => ?_)
      have hP : va_P D vwCl (mw c q σ51) H1 := ht ▸ hB
      have hD : va_D (wdA 31 q) (mw c q σ51) := mw_D hD0
      exact W.iret hx hb hr (fun t ht hW => ⟨⟨_, σ51, rfl, hw, by unfold wdB; rw [ht]; exact hP⟩, hS.F ht⟩) hS.2.2 dX8_trades_19
def wX8_greatest_L4 (z1 : Int32) (K36 : Int32 → Int32 → hsS → Prop) (post : Int32 → hsS → Prop) : Nat → Int32 → Int32 → hsS → Prop
  | 0, _, _, _ => False
  | n + 1, y2, y3, σ => (((σ.2.1 2 (0 : Int32).toNatClampNeg) ≤ y3 → K36 y2 y3 σ) ∧ (¬ (σ.2.1 2 (0 : Int32).toNatClampNeg) ≤ y3 → vp_in ((y3 * (10 : Int32)) + z1) 80 ∧ ∀ v2 : Int32, v2 = (if y2 < (σ.2.1 13 ((y3 * (10 : Int32)) + z1).toNatClampNeg) then (σ.2.1 13 ((y3 * (10 : Int32)) + z1).toNatClampNeg) else y2) → ∀ v3 : Int32, v3 = y3 + (1 : Int32) → wX8_greatest_L4 z1 K36 post n v2 v3 σ))
def wX8_greatest (x1 : Int32) (post : Int32 → hsS → Prop) (σ : hsS) : Prop := ∃ n4, wX8_greatest_L4 x1 (fun v5 v6 σ7 => post v5 σ7) post n4 (0 : Int32) (0 : Int32) σ
set_option maxHeartbeats 4000000 in
set_option maxRecDepth 100000 in
theorem kcX8_greatest (l : Launch) (D : va_G) (c : Nat → ClassId) (q : Nat → Nat) (ev : State → Heap → Prop) (hev : evOK (wdA 31 q) ev) (σ : hsS) (x1 : Int32) (post : Int32 → hsS → Prop) (hw : wX8_greatest x1 post σ) : Met l yX8_greatest (Cond.code yX8_greatest cX8_greatest 4 (some .int) :: tb_L) { frames := 1, cells := 0, slots := 0, locals := 40 } (wdPc D (mw c q) (mwT c) (wdA 31 q) ev σ [.ref (q 0), .int x1]) (va_Qi post (wdB D (mw c q)) (wdA 31 q)) 0 0 (wdA 31 q) := by
  refine Met.ofW (cc := cX8_greatest) (maxL := 4) (ret := (some .int)) (by decide) rfl ?_
  intro p e s m args below meth c₀ s₁ Bd hml hv
  obtain ⟨rfl, hP, hK, hD0, hE⟩ := hv
  have hx := Bd.exec
  have hb := Bd.bytes
  have hr := Bd.returns
  have hts := atoms_spec (ws := Cond.code yX8_greatest cX8_greatest 4 (some .int) :: tb_L) Bd.pre
  have htb : ∀ w ∈ tb_L, w.before [.ref (q 0), .int x1].toArray s = true := fun w h => hts w (List.mem_cons_of_mem _ h)
  have hown : s.vm.findClass RX8 = some m.cls := findClass_of_methodNamed Bd.named
  have hlocks := Bd.notSynchronized
  have hS : va_S (wdA 31 q) s.heap s.heap [] := va_S.rf
  have hD := hD0
  have L4 : ∀ (K36 : Int32 → Int32 → hsS → Prop) (z1 : Int32) (n : Nat) (y2 : Int32) (y3 : Int32) (σ : hsS) (H : Heap) (locs : List Loc) (ls : Array Slot), wX8_greatest_L4 z1 K36 post n y2 y3 σ → (∀ (y2 : Int32) (y3 : Int32) (σ : hsS) (H : Heap) (locs : List Loc) (ls : Array Slot), K36 y2 y3 σ → va_P D vwCl (mw c q σ) H → va_S (wdA 31 q) s.heap H locs → lv_has ls 4 [(0, .ref (q 0)), (1, .int z1), (2, .int y2), (3, .int y3)] → W p l e (headSpec (Cond.code yX8_greatest cX8_greatest 4 (some .int) :: tb_L) { frames := 1, cells := 0, slots := 0, locals := 40 }).room s m [.ref (q 0), .int x1].toArray below meth c₀ H locs 0 0 (MQ below (va_Qi post (wdB D (mw c q)) (wdA 31 q)) [.ref (q 0), .int x1].toArray s 0 0 (wdA 31 q)) (F0 m 36 ls [])) → va_P D vwCl (mw c q σ) H → va_S (wdA 31 q) s.heap H locs → lv_has ls 4 [(0, .ref (q 0)), (1, .int z1), (2, .int y2), (3, .int y3)] → W p l e (headSpec (Cond.code yX8_greatest cX8_greatest 4 (some .int) :: tb_L) { frames := 1, cells := 0, slots := 0, locals := 40 }).room s m [.ref (q 0), .int x1].toArray below meth c₀ H locs 0 0 (MQ below (va_Qi post (wdB D (mw c q)) (wdA 31 q)) [.ref (q 0), .int x1].toArray s 0 0 (wdA 31 q)) (F0 m 4 ls []) := by
    intro K36 z1 n
    induction n with
    | zero =>
      intro y2 y3 σ H locs ls hw hk36 hP hS hl
      exact (show False from hw).elim
    | succ n ih =>
      intro y2 y3 σ H locs ls hw hk36 hP hS hl
      rw [wX8_greatest_L4] at hw
      have hD : va_D (wdA 31 q) (mw c q σ) := mw_D hD0
      refine lv_iload_n hx hb dX8_greatest_4 rfl (lv_at hl 3 rfl) ?_
      refine lv_aload_n hx hb dX8_greatest_5 rfl (lv_at hl 0 rfl) ?_
      refine va_get (D := D) (ci := 8) (C := RX8) (T := TX8) (N := 57) hx hb htb inX8 hown hK hP 0 (mw_0 c q σ) rfl 2 (by decide) (htb _ tb_1183) (fun _ h9 => h9) rfl dX8_greatest_6 ?_
      refine lv_iconst (v := (0 : Int32)) hx hb dX8_greatest_9 (by decide) ?_
      refine va_iald hx hb hK hP 2 1 (mw_2 c q σ) rfl (by unfold vp_in; decide) dX8_greatest_10 ?_
      refine lv_icmp_ge (tgt := 36) hx hb dX8_greatest_11 (by decide) (fun c1 => ?_) (fun c1 => ?_)
      · have hw := hw.1 c1
        exact hk36 y2 y3 σ _ _ _ hw hP hS (lv_sub hl [0, 1, 2, 3] rfl)
      · have hw := hw.2 c1
        refine lv_iload_n hx hb dX8_greatest_14 rfl (lv_at hl 2 rfl) ?_
        refine lv_aload_n hx hb dX8_greatest_15 rfl (lv_at hl 0 rfl) ?_
        refine va_get (D := D) (ci := 8) (C := RX8) (T := TX8) (N := 57) hx hb htb inX8 hown hK hP 0 (mw_0 c q σ) rfl 24 (by decide) (htb _ tb_1205) (fun _ h9 => h9) rfl dX8_greatest_16 ?_
        refine lv_iload_n hx hb dX8_greatest_19 rfl (lv_at hl 3 rfl) ?_
        refine lv_bipush (v := (10 : Int32)) hx hb dX8_greatest_20 (by decide) ?_
        refine lv_imul hx hb dX8_greatest_22 ?_
        refine lv_iload_n hx hb dX8_greatest_23 rfl (lv_at hl 1 rfl) ?_
        refine lv_iadd hx hb dX8_greatest_24 ?_
        refine va_iald hx hb hK hP 13 12 (mw_13 c q σ) rfl hw.1 dX8_greatest_25 ?_
        have hw := hw.2
        refine va_mmax hx hb (hml.trans hl.1.symm) hown (htb _ tb_1603) (htb _ tb_495) (htb _ tb_104) (htb _ tb_496) (Nat.le_of_ble_eq_true rfl) (Nat.le_of_ble_eq_true rfl) (Nat.zero_le _) (Nat.zero_le _) dX8_greatest_26 ?_
        refine lv_topi (fun v2 ev2 => ?_)
        have hw := hw v2 ev2
        refine lv_istore_n (lv' := [(2, .int v2), (0, .ref (q 0)), (1, .int z1), (3, .int y3)]) hx hb dX8_greatest_29 rfl hl (by decide) rfl (fun ls hl => ?_)
        obtain ⟨v3, ev3⟩ : ∃ z : Int32, z = y3 + (1 : Int32) := ⟨_, rfl⟩
        have hw := hw v3 ev3
        refine lv_iinc (v := v3) (lv' := [(3, .int v3), (2, .int v2), (0, .ref (q 0)), (1, .int z1)]) hx hb dX8_greatest_30 hl (k := 3) rfl (by rw [ev3]; rfl) (by decide) rfl (fun ls hl => ?_)
        refine lv_goto (tgt := 4) hx hb dX8_greatest_33 (by decide) ?_
        exact ih v2 v3 σ _ _ _ hw hk36 hP hS (lv_sub hl [2, 3, 1, 0] rfl)
  have hl := lv_entry ([.ref (q 0), .int x1]) (n := 4) (Nat.le_of_ble_eq_true rfl)
  rw [lg_entry_eq]
  generalize (lg_sl ([.ref (q 0), .int x1]) ++ List.replicate (4 - (lg_sl ([.ref (q 0), .int x1])).length) Slot.unset).toArray = ls at hl ⊢
  have hl : lv_has ls 4 [(0, .ref (q 0)), (1, .int x1)] := hl
  unfold wX8_greatest at hw
  refine lv_iconst (v := (0 : Int32)) hx hb dX8_greatest_0 (by decide) ?_
  refine lv_istore_n (lv' := [(2, .int (0 : Int32)), (0, .ref (q 0)), (1, .int x1)]) hx hb dX8_greatest_1 rfl hl (by decide) rfl (fun ls hl => ?_)
  refine lv_iconst (v := (0 : Int32)) hx hb dX8_greatest_2 (by decide) ?_
  refine lv_istore_n (lv' := [(3, .int (0 : Int32)), (2, .int (0 : Int32)), (0, .ref (q 0)), (1, .int x1)]) hx hb dX8_greatest_3 rfl hl (by decide) rfl (fun ls hl => ?_)
  obtain ⟨n4, hw⟩ := hw
  refine L4 _ x1 n4 (0 : Int32) (0 : Int32) σ _ _ _ hw ?_ hP hS (lv_sub hl [2, 3, 1, 0] rfl)
  intro v5 v6 σ7 H locs ls hw hP hS hl
  have hD : va_D (wdA 31 q) (mw c q σ7) := mw_D hD0
  refine lv_iload_n hx hb dX8_greatest_36 rfl (lv_at hl 2 rfl) ?_
  exact W.iret hx hb hr (fun t ht hW => ⟨⟨_, σ7, rfl, hw, by unfold wdB; rw [ht]; exact hP⟩, hS.F ht⟩) hS.2.2 dX8_greatest_37
def wX8_weighed_L4 (z1 : Int32) (K41 : Int32 → Int32 → hsS → Prop) (post : Int32 → hsS → Prop) : Nat → Int32 → Int32 → hsS → Prop
  | 0, _, _, _ => False
  | n + 1, y2, y3, σ => (((σ.2.1 2 (0 : Int32).toNatClampNeg) ≤ y3 → K41 y2 y3 σ) ∧ (¬ (σ.2.1 2 (0 : Int32).toNatClampNeg) ≤ y3 → vp_in ((y3 * (10 : Int32)) + z1) 80 ∧ vp_in y3 16 ∧ ∀ v2 : Int32, v2 = y2 + ((σ.2.1 13 ((y3 * (10 : Int32)) + z1).toNatClampNeg) * (σ.2.1 7 y3.toNatClampNeg)) → ∀ v3 : Int32, v3 = y3 + (1 : Int32) → wX8_weighed_L4 z1 K41 post n v2 v3 σ))
def wX8_weighed (x1 : Int32) (post : Int32 → hsS → Prop) (σ : hsS) : Prop := ∃ n4, wX8_weighed_L4 x1 (fun v5 v6 σ7 => post v5 σ7) post n4 (0 : Int32) (0 : Int32) σ
set_option maxHeartbeats 4000000 in
set_option maxRecDepth 100000 in
theorem kcX8_weighed (l : Launch) (D : va_G) (c : Nat → ClassId) (q : Nat → Nat) (ev : State → Heap → Prop) (hev : evOK (wdA 31 q) ev) (σ : hsS) (x1 : Int32) (post : Int32 → hsS → Prop) (hw : wX8_weighed x1 post σ) : Met l yX8_weighed (Cond.code yX8_weighed cX8_weighed 4 (some .int) :: tb_L) { frames := 0, cells := 0, slots := 0, locals := 0 } (wdPc D (mw c q) (mwT c) (wdA 31 q) ev σ [.ref (q 0), .int x1]) (va_Qi post (wdB D (mw c q)) (wdA 31 q)) 0 0 (wdA 31 q) := by
  refine Met.ofW (cc := cX8_weighed) (maxL := 4) (ret := (some .int)) (by decide) rfl ?_
  intro p e s m args below meth c₀ s₁ Bd hml hv
  obtain ⟨rfl, hP, hK, hD0, hE⟩ := hv
  have hx := Bd.exec
  have hb := Bd.bytes
  have hr := Bd.returns
  have hts := atoms_spec (ws := Cond.code yX8_weighed cX8_weighed 4 (some .int) :: tb_L) Bd.pre
  have htb : ∀ w ∈ tb_L, w.before [.ref (q 0), .int x1].toArray s = true := fun w h => hts w (List.mem_cons_of_mem _ h)
  have hown : s.vm.findClass RX8 = some m.cls := findClass_of_methodNamed Bd.named
  have hlocks := Bd.notSynchronized
  have hS : va_S (wdA 31 q) s.heap s.heap [] := va_S.rf
  have hD := hD0
  have L4 : ∀ (K41 : Int32 → Int32 → hsS → Prop) (z1 : Int32) (n : Nat) (y2 : Int32) (y3 : Int32) (σ : hsS) (H : Heap) (locs : List Loc) (ls : Array Slot), wX8_weighed_L4 z1 K41 post n y2 y3 σ → (∀ (y2 : Int32) (y3 : Int32) (σ : hsS) (H : Heap) (locs : List Loc) (ls : Array Slot), K41 y2 y3 σ → va_P D vwCl (mw c q σ) H → va_S (wdA 31 q) s.heap H locs → lv_has ls 4 [(0, .ref (q 0)), (1, .int z1), (2, .int y2), (3, .int y3)] → W p l e (headSpec (Cond.code yX8_weighed cX8_weighed 4 (some .int) :: tb_L) { frames := 0, cells := 0, slots := 0, locals := 0 }).room s m [.ref (q 0), .int x1].toArray below meth c₀ H locs 0 0 (MQ below (va_Qi post (wdB D (mw c q)) (wdA 31 q)) [.ref (q 0), .int x1].toArray s 0 0 (wdA 31 q)) (F0 m 41 ls [])) → va_P D vwCl (mw c q σ) H → va_S (wdA 31 q) s.heap H locs → lv_has ls 4 [(0, .ref (q 0)), (1, .int z1), (2, .int y2), (3, .int y3)] → W p l e (headSpec (Cond.code yX8_weighed cX8_weighed 4 (some .int) :: tb_L) { frames := 0, cells := 0, slots := 0, locals := 0 }).room s m [.ref (q 0), .int x1].toArray below meth c₀ H locs 0 0 (MQ below (va_Qi post (wdB D (mw c q)) (wdA 31 q)) [.ref (q 0), .int x1].toArray s 0 0 (wdA 31 q)) (F0 m 4 ls []) := by
    intro K41 z1 n
    induction n with
    | zero =>
      intro y2 y3 σ H locs ls hw hk41 hP hS hl
      exact (show False from hw).elim
    | succ n ih =>
      intro y2 y3 σ H locs ls hw hk41 hP hS hl
      rw [wX8_weighed_L4] at hw
      have hD : va_D (wdA 31 q) (mw c q σ) := mw_D hD0
      refine lv_iload_n hx hb dX8_weighed_4 rfl (lv_at hl 3 rfl) ?_
      refine lv_aload_n hx hb dX8_weighed_5 rfl (lv_at hl 0 rfl) ?_
      refine va_get (D := D) (ci := 8) (C := RX8) (T := TX8) (N := 57) hx hb htb inX8 hown hK hP 0 (mw_0 c q σ) rfl 2 (by decide) (htb _ tb_1183) (fun _ h9 => h9) rfl dX8_weighed_6 ?_
      refine lv_iconst (v := (0 : Int32)) hx hb dX8_weighed_9 (by decide) ?_
      refine va_iald hx hb hK hP 2 1 (mw_2 c q σ) rfl (by unfold vp_in; decide) dX8_weighed_10 ?_
      refine lv_icmp_ge (tgt := 41) hx hb dX8_weighed_11 (by decide) (fun c1 => ?_) (fun c1 => ?_)
      · have hw := hw.1 c1
        exact hk41 y2 y3 σ _ _ _ hw hP hS (lv_sub hl [0, 1, 2, 3] rfl)
      · have hw := hw.2 c1
        refine lv_iload_n hx hb dX8_weighed_14 rfl (lv_at hl 2 rfl) ?_
        refine lv_aload_n hx hb dX8_weighed_15 rfl (lv_at hl 0 rfl) ?_
        refine va_get (D := D) (ci := 8) (C := RX8) (T := TX8) (N := 57) hx hb htb inX8 hown hK hP 0 (mw_0 c q σ) rfl 24 (by decide) (htb _ tb_1205) (fun _ h9 => h9) rfl dX8_weighed_16 ?_
        refine lv_iload_n hx hb dX8_weighed_19 rfl (lv_at hl 3 rfl) ?_
        refine lv_bipush (v := (10 : Int32)) hx hb dX8_weighed_20 (by decide) ?_
        refine lv_imul hx hb dX8_weighed_22 ?_
        refine lv_iload_n hx hb dX8_weighed_23 rfl (lv_at hl 1 rfl) ?_
        refine lv_iadd hx hb dX8_weighed_24 ?_
        refine va_iald hx hb hK hP 13 12 (mw_13 c q σ) rfl hw.1 dX8_weighed_25 ?_
        have hw := hw.2
        refine lv_aload_n hx hb dX8_weighed_26 rfl (lv_at hl 0 rfl) ?_
        refine va_get (D := D) (ci := 8) (C := RX8) (T := TX8) (N := 57) hx hb htb inX8 hown hK hP 0 (mw_0 c q σ) rfl 7 (by decide) (htb _ tb_1188) (fun _ h9 => h9) rfl dX8_weighed_27 ?_
        refine lv_iload_n hx hb dX8_weighed_30 rfl (lv_at hl 3 rfl) ?_
        refine va_iald hx hb hK hP 7 6 (mw_7 c q σ) rfl hw.1 dX8_weighed_31 ?_
        have hw := hw.2
        refine lv_imul hx hb dX8_weighed_32 ?_
        refine lv_iadd hx hb dX8_weighed_33 ?_
        refine lv_topi (fun v2 ev2 => ?_)
        have hw := hw v2 ev2
        refine lv_istore_n (lv' := [(2, .int v2), (0, .ref (q 0)), (1, .int z1), (3, .int y3)]) hx hb dX8_weighed_34 rfl hl (by decide) rfl (fun ls hl => ?_)
        obtain ⟨v3, ev3⟩ : ∃ z : Int32, z = y3 + (1 : Int32) := ⟨_, rfl⟩
        have hw := hw v3 ev3
        refine lv_iinc (v := v3) (lv' := [(3, .int v3), (2, .int v2), (0, .ref (q 0)), (1, .int z1)]) hx hb dX8_weighed_35 hl (k := 3) rfl (by rw [ev3]; rfl) (by decide) rfl (fun ls hl => ?_)
        refine lv_goto (tgt := 4) hx hb dX8_weighed_38 (by decide) ?_
        exact ih v2 v3 σ _ _ _ hw hk41 hP hS (lv_sub hl [2, 3, 1, 0] rfl)
  have hl := lv_entry ([.ref (q 0), .int x1]) (n := 4) (Nat.le_of_ble_eq_true rfl)
  rw [lg_entry_eq]
  generalize (lg_sl ([.ref (q 0), .int x1]) ++ List.replicate (4 - (lg_sl ([.ref (q 0), .int x1])).length) Slot.unset).toArray = ls at hl ⊢
  have hl : lv_has ls 4 [(0, .ref (q 0)), (1, .int x1)] := hl
  unfold wX8_weighed at hw
  refine lv_iconst (v := (0 : Int32)) hx hb dX8_weighed_0 (by decide) ?_
  refine lv_istore_n (lv' := [(2, .int (0 : Int32)), (0, .ref (q 0)), (1, .int x1)]) hx hb dX8_weighed_1 rfl hl (by decide) rfl (fun ls hl => ?_)
  refine lv_iconst (v := (0 : Int32)) hx hb dX8_weighed_2 (by decide) ?_
  refine lv_istore_n (lv' := [(3, .int (0 : Int32)), (2, .int (0 : Int32)), (0, .ref (q 0)), (1, .int x1)]) hx hb dX8_weighed_3 rfl hl (by decide) rfl (fun ls hl => ?_)
  obtain ⟨n4, hw⟩ := hw
  refine L4 _ x1 n4 (0 : Int32) (0 : Int32) σ _ _ _ hw ?_ hP hS (lv_sub hl [2, 3, 1, 0] rfl)
  intro v5 v6 σ7 H locs ls hw hP hS hl
  have hD : va_D (wdA 31 q) (mw c q σ7) := mw_D hD0
  refine lv_iload_n hx hb dX8_weighed_41 rfl (lv_at hl 2 rfl) ?_
  exact W.iret hx hb hr (fun t ht hW => ⟨⟨_, σ7, rfl, hw, by unfold wdB; rw [ht]; exact hP⟩, hS.F ht⟩) hS.2.2 dX8_weighed_42
def wX8_grumble (x1 : Int32) (x2 : Int32) (post : Int32 → hsS → Prop) (σ : hsS) : Prop := ∀ σ1 : hsS, σ1 = hsI σ 0 (0 : Int32) → wX8_isThing x1 (fun r2 σ3 => ((r2 = (0 : Int32) → wX8_fail (1 : Int32) (fun r5 σ6 => post r5 σ6) σ3) ∧ (¬ r2 = (0 : Int32) → ((x2 < (0 : Int32) → wX8_fail (1 : Int32) (fun r8 σ9 => post r8 σ9) σ3) ∧ (¬ x2 < (0 : Int32) → ((x2 ≤ (1 : Int32) → wX8_look  (fun σ12 => ((x2 = (0 : Int32) → wX8_greatest x1 (fun r14 σ15 => post r14 σ15) σ12) ∧ (¬ x2 = (0 : Int32) → wX8_weighed x1 (fun r16 σ17 => post r16 σ17) σ12))) σ3) ∧ (¬ x2 ≤ (1 : Int32) → wX8_fail (1 : Int32) (fun r18 σ19 => post r18 σ19) σ3))))))) σ1
set_option maxHeartbeats 4000000 in
set_option maxRecDepth 100000 in
theorem kcX8_grumble (l : Launch) (D : va_G) (c : Nat → ClassId) (q : Nat → Nat) (ev : State → Heap → Prop) (hev : evOK (wdA 31 q) ev) (σ : hsS) (x1 : Int32) (x2 : Int32) (post : Int32 → hsS → Prop) (hw : wX8_grumble x1 x2 post σ) : Met l yX8_grumble (Cond.code yX8_grumble cX8_grumble 3 (some .int) :: tb_L) { frames := 2, cells := 0, slots := 0, locals := 63 } (wdPc D (mw c q) (mwT c) (wdA 31 q) ev σ [.ref (q 0), .int x1, .int x2]) (va_Qi post (wdB D (mw c q)) (wdA 31 q)) 0 0 (wdA 31 q) := by
  refine Met.ofW (cc := cX8_grumble) (maxL := 3) (ret := (some .int)) (by decide) rfl ?_
  intro p e s m args below meth c₀ s₁ Bd hml hv
  obtain ⟨rfl, hP, hK, hD0, hE⟩ := hv
  have hx := Bd.exec
  have hb := Bd.bytes
  have hr := Bd.returns
  have hts := atoms_spec (ws := Cond.code yX8_grumble cX8_grumble 3 (some .int) :: tb_L) Bd.pre
  have htb : ∀ w ∈ tb_L, w.before [.ref (q 0), .int x1, .int x2].toArray s = true := fun w h => hts w (List.mem_cons_of_mem _ h)
  have hown : s.vm.findClass RX8 = some m.cls := findClass_of_methodNamed Bd.named
  have hlocks := Bd.notSynchronized
  have hS : va_S (wdA 31 q) s.heap s.heap [] := va_S.rf
  have hD := hD0
  have hl := lv_entry ([.ref (q 0), .int x1, .int x2]) (n := 3) (Nat.le_of_ble_eq_true rfl)
  rw [lg_entry_eq]
  generalize (lg_sl ([.ref (q 0), .int x1, .int x2]) ++ List.replicate (3 - (lg_sl ([.ref (q 0), .int x1, .int x2])).length) Slot.unset).toArray = ls at hl ⊢
  have hl : lv_has ls 3 [(0, .ref (q 0)), (1, .int x1), (2, .int x2)] := hl
  unfold wX8_grumble at hw
  refine lv_aload_n hx hb dX8_grumble_0 rfl (lv_at hl 0 rfl) ?_
  refine lv_iconst (v := (0 : Int32)) hx hb dX8_grumble_1 (by decide) ?_
  refine va_put (D := D) (ci := 8) (ty := .int) (C := RX8) (T := TX8) (N := 57) hx hb htb inX8 tyX8 tyX8_ok nmX8 hown hK hP hD hS 0 (mw_0 c q σ) rfl 0 (by decide) (htb _ tb_1181) (fun _ h9 => h9) rfl (by decide +kernel) rfl rfl (Nat.le_of_ble_eq_true rfl) dX8_grumble_2 (fun H locs hP hD hS => ?_)
  have hP : va_P D vwCl (mw c q (hsI σ 0 (0 : Int32))) H := hP
  obtain ⟨σ1, eσ1⟩ : ∃ z : hsS, z = hsI σ 0 (0 : Int32) := ⟨_, rfl⟩
  rw [← eσ1] at hP
  have hD : va_D (wdA 31 q) (mw c q σ1) := mw_D hD0
  have hw := hw σ1 eσ1
  refine lv_aload_n hx hb dX8_grumble_5 rfl (lv_at hl 0 rfl) ?_
  refine lv_iload_n hx hb dX8_grumble_6 rfl (lv_at hl 1 rfl) ?_
  refine va_calli (va_runV (As := [.int x1]) (rest := []) ⟨hx, hb, hml, hown, htb⟩ (kcX8_isThing l D c q ev hev σ1 x1 _ hw) (tb_CW htb kX8_isThing tb_1473 tb_1475 tb_59 ⟨Nat.le_of_ble_eq_true rfl, Nat.le_of_ble_eq_true rfl⟩) (wd_preV (wd := mw c q) (k := 0) hev hK hP hD hE hS (mw_0 c q σ1) rfl) rfl rfl hl.1 rfl (lv_room (Nat.le_of_ble_eq_true rfl)) dX8_grumble_7 ⟨Nat.zero_le _, Nat.zero_le _⟩) hS (fun q _ h => h) (fun q h => h) (fun r2 σ3 t H1 locs1 ht hvm hw hB hz1 hk1 hS => ?_)
  have hP : va_P D vwCl (mw c q σ3) H1 := ht ▸ hB
  have hD : va_D (wdA 31 q) (mw c q σ3) := mw_D hD0
  refine lv_if_eq (tgt := 22) hx hb dX8_grumble_10 (by decide) (fun c4 => ?_) (fun c4 => ?_)
  · have hw := hw.1 c4
    refine lv_aload_n hx hb dX8_grumble_22 rfl (lv_at hl 0 rfl) ?_
    refine lv_iconst (v := (1 : Int32)) hx hb dX8_grumble_23 (by decide) ?_
    refine va_calli (va_runV (As := [.int (1 : Int32)]) (rest := []) ⟨hx, hb, hml, hown, htb⟩ (kcX8_fail l D c q ev hev σ3 (1 : Int32) _ hw) (tb_CW htb kX8_fail tb_1366 tb_1368 tb_42 ⟨Nat.le_of_ble_eq_true rfl, Nat.le_of_ble_eq_true rfl⟩) (wd_preV (wd := mw c q) (k := 0) hev hK hP hD hE hS (mw_0 c q σ3) rfl) rfl rfl hl.1 rfl (lv_room (Nat.le_of_ble_eq_true rfl)) dX8_grumble_24 ⟨Nat.zero_le _, Nat.zero_le _⟩) hS (fun q _ h => h) (fun q h => h) (fun r5 σ6 t H1 locs1 ht hvm hw hB hz1 hk1 hS => ?_)
    have hP : va_P D vwCl (mw c q σ6) H1 := ht ▸ hB
    have hD : va_D (wdA 31 q) (mw c q σ6) := mw_D hD0
    exact W.iret hx hb hr (fun t ht hW => ⟨⟨_, σ6, rfl, hw, by unfold wdB; rw [ht]; exact hP⟩, hS.F ht⟩) hS.2.2 dX8_grumble_27
  · have hw := hw.2 c4
    refine lv_iload_n hx hb dX8_grumble_13 rfl (lv_at hl 2 rfl) ?_
    refine lv_if_lt (tgt := 22) hx hb dX8_grumble_14 (by decide) (fun c7 => ?_) (fun c7 => ?_)
    · have hw := hw.1 c7
      refine lv_aload_n hx hb dX8_grumble_22 rfl (lv_at hl 0 rfl) ?_
      refine lv_iconst (v := (1 : Int32)) hx hb dX8_grumble_23 (by decide) ?_
      refine va_calli (va_runV (As := [.int (1 : Int32)]) (rest := []) ⟨hx, hb, hml, hown, htb⟩ (kcX8_fail l D c q ev hev σ3 (1 : Int32) _ hw) (tb_CW htb kX8_fail tb_1366 tb_1368 tb_42 ⟨Nat.le_of_ble_eq_true rfl, Nat.le_of_ble_eq_true rfl⟩) (wd_preV (wd := mw c q) (k := 0) hev hK hP hD hE hS (mw_0 c q σ3) rfl) rfl rfl hl.1 rfl (lv_room (Nat.le_of_ble_eq_true rfl)) dX8_grumble_24 ⟨Nat.zero_le _, Nat.zero_le _⟩) hS (fun q _ h => h) (fun q h => h) (fun r8 σ9 t H1 locs1 ht hvm hw hB hz1 hk1 hS => ?_)
      have hP : va_P D vwCl (mw c q σ9) H1 := ht ▸ hB
      have hD : va_D (wdA 31 q) (mw c q σ9) := mw_D hD0
      exact W.iret hx hb hr (fun t ht hW => ⟨⟨_, σ9, rfl, hw, by unfold wdB; rw [ht]; exact hP⟩, hS.F ht⟩) hS.2.2 dX8_grumble_27
    · have hw := hw.2 c7
      refine lv_iload_n hx hb dX8_grumble_17 rfl (lv_at hl 2 rfl) ?_
      refine lv_iconst (v := (1 : Int32)) hx hb dX8_grumble_18 (by decide) ?_
      refine lv_icmp_le (tgt := 28) hx hb dX8_grumble_19 (by decide) (fun c10 => ?_) (fun c10 => ?_)
      · have hw := hw.1 c10
        refine lv_aload_n hx hb dX8_grumble_28 rfl (lv_at hl 0 rfl) ?_
        refine va_callv (va_runV (As := []) (rest := []) ⟨hx, hb, hml, hown, htb⟩ (kcX8_look l D c q ev hev σ3  _ hw) (tb_CW htb kX8_look tb_1500 tb_1502 tb_63 ⟨Nat.le_of_ble_eq_true rfl, Nat.le_of_ble_eq_true rfl⟩) (wd_preV (wd := mw c q) (k := 0) hev hK hP hD hE hS (mw_0 c q σ3) rfl) rfl rfl hl.1 rfl (lv_room (Nat.le_of_ble_eq_true rfl)) dX8_grumble_29 ⟨Nat.zero_le _, Nat.zero_le _⟩) hS (fun q _ h => h) (fun q h => h) (fun σ12 t H1 locs1 ht hvm hw hB hz1 hk1 hS => ?_)
        have hP : va_P D vwCl (mw c q σ12) H1 := ht ▸ hB
        have hD : va_D (wdA 31 q) (mw c q σ12) := mw_D hD0
        refine lv_iload_n hx hb dX8_grumble_32 rfl (lv_at hl 2 rfl) ?_
        refine lv_if_ne (tgt := 44) hx hb dX8_grumble_33 (by decide) (fun c13 => ?_) (fun c13 => ?_)
        · have hw := hw.2 c13
          refine lv_aload_n hx hb dX8_grumble_44 rfl (lv_at hl 0 rfl) ?_
          refine lv_iload_n hx hb dX8_grumble_45 rfl (lv_at hl 1 rfl) ?_
          refine va_calli (va_runV (As := [.int x1]) (rest := []) ⟨hx, hb, hml, hown, htb⟩ (kcX8_weighed l D c q ev hev σ12 x1 _ hw) (tb_CW htb kX8_weighed tb_1632 tb_1634 tb_80 ⟨Nat.le_of_ble_eq_true rfl, Nat.le_of_ble_eq_true rfl⟩) (wd_preV (wd := mw c q) (k := 0) hev hK hP hD hE hS (mw_0 c q σ12) rfl) rfl rfl hl.1 rfl (lv_room (Nat.le_of_ble_eq_true rfl)) dX8_grumble_46 ⟨Nat.zero_le _, Nat.zero_le _⟩) hS (fun q _ h => h) (fun q h => h) (fun r16 σ17 t H1 locs1 ht hvm hw hB hz1 hk1 hS => ?_)
          have hP : va_P D vwCl (mw c q σ17) H1 := ht ▸ hB
          have hD : va_D (wdA 31 q) (mw c q σ17) := mw_D hD0
          exact W.iret hx hb hr (fun t ht hW => ⟨⟨_, σ17, rfl, hw, by unfold wdB; rw [ht]; exact hP⟩, hS.F ht⟩) hS.2.2 dX8_grumble_49
        · have hw := hw.1 c13
          refine lv_aload_n hx hb dX8_grumble_36 rfl (lv_at hl 0 rfl) ?_
          refine lv_iload_n hx hb dX8_grumble_37 rfl (lv_at hl 1 rfl) ?_
          refine va_calli (va_runV (As := [.int x1]) (rest := []) ⟨hx, hb, hml, hown, htb⟩ (kcX8_greatest l D c q ev hev σ12 x1 _ hw) (tb_CW htb kX8_greatest tb_1628 tb_1630 tb_79 ⟨Nat.le_of_ble_eq_true rfl, Nat.le_of_ble_eq_true rfl⟩) (wd_preV (wd := mw c q) (k := 0) hev hK hP hD hE hS (mw_0 c q σ12) rfl) rfl rfl hl.1 rfl (lv_room (Nat.le_of_ble_eq_true rfl)) dX8_grumble_38 ⟨Nat.zero_le _, Nat.zero_le _⟩) hS (fun q _ h => h) (fun q h => h) (fun r14 σ15 t H1 locs1 ht hvm hw hB hz1 hk1 hS => ?_)
          have hP : va_P D vwCl (mw c q σ15) H1 := ht ▸ hB
          have hD : va_D (wdA 31 q) (mw c q σ15) := mw_D hD0
          refine lv_goto (tgt := 49) hx hb dX8_grumble_41 (by decide) ?_
          exact W.iret hx hb hr (fun t ht hW => ⟨⟨_, σ15, rfl, hw, by unfold wdB; rw [ht]; exact hP⟩, hS.F ht⟩) hS.2.2 dX8_grumble_49
      · have hw := hw.2 c10
        refine lv_aload_n hx hb dX8_grumble_22 rfl (lv_at hl 0 rfl) ?_
        refine lv_iconst (v := (1 : Int32)) hx hb dX8_grumble_23 (by decide) ?_
        refine va_calli (va_runV (As := [.int (1 : Int32)]) (rest := []) ⟨hx, hb, hml, hown, htb⟩ (kcX8_fail l D c q ev hev σ3 (1 : Int32) _ hw) (tb_CW htb kX8_fail tb_1366 tb_1368 tb_42 ⟨Nat.le_of_ble_eq_true rfl, Nat.le_of_ble_eq_true rfl⟩) (wd_preV (wd := mw c q) (k := 0) hev hK hP hD hE hS (mw_0 c q σ3) rfl) rfl rfl hl.1 rfl (lv_room (Nat.le_of_ble_eq_true rfl)) dX8_grumble_24 ⟨Nat.zero_le _, Nat.zero_le _⟩) hS (fun q _ h => h) (fun q h => h) (fun r18 σ19 t H1 locs1 ht hvm hw hB hz1 hk1 hS => ?_)
        have hP : va_P D vwCl (mw c q σ19) H1 := ht ▸ hB
        have hD : va_D (wdA 31 q) (mw c q σ19) := mw_D hD0
        exact W.iret hx hb hr (fun t ht hW => ⟨⟨_, σ19, rfl, hw, by unfold wdB; rw [ht]; exact hP⟩, hS.F ht⟩) hS.2.2 dX8_grumble_27
def wX8_leastOf_L17 (z1 : Int32) (K108 : Int32 → Int32 → hsS → Prop) (post : Int32 → hsS → Prop) : Nat → Int32 → Int32 → hsS → Prop
  | 0, _, _, _ => False
  | n + 1, y2, y3, σ => (((σ.1 25) ≤ y3 → K108 y2 y3 σ) ∧ (¬ (σ.1 25) ≤ y3 → ((z1 = (0 : Int32) → ((y2 = (-1 : Int32) → ∀ v10 : Int32, v10 = y3 + (1 : Int32) → wX8_leastOf_L17 z1 K108 post n y3 v10 σ) ∧ (¬ y2 = (-1 : Int32) → wX8_greatest y3 (fun r11 σ12 => wX8_greatest y2 (fun r13 σ14 => ((r11 < r13 → ∀ v16 : Int32, v16 = y3 + (1 : Int32) → wX8_leastOf_L17 z1 K108 post n y3 v16 σ14) ∧ (¬ r11 < r13 → wX8_greatest y3 (fun r17 σ18 => wX8_greatest y2 (fun r19 σ20 => ((r17 = r19 → wX8_weighed y3 (fun r22 σ23 => wX8_weighed y2 (fun r24 σ25 => ((r24 ≤ r22 → ∀ v27 : Int32, v27 = y3 + (1 : Int32) → wX8_leastOf_L17 z1 K108 post n y2 v27 σ25) ∧ (¬ r24 ≤ r22 → ∀ v28 : Int32, v28 = y3 + (1 : Int32) → wX8_leastOf_L17 z1 K108 post n y3 v28 σ25))) σ23) σ20) ∧ (¬ r17 = r19 → ∀ v29 : Int32, v29 = y3 + (1 : Int32) → wX8_leastOf_L17 z1 K108 post n y2 v29 σ20))) σ18) σ14))) σ12) σ))) ∧ (¬ z1 = (0 : Int32) → ((((z1 >>> (y3 &&& 31)) &&& (1 : Int32)) = (0 : Int32) → ∀ v31 : Int32, v31 = y3 + (1 : Int32) → wX8_leastOf_L17 z1 K108 post n y2 v31 σ) ∧ (¬ ((z1 >>> (y3 &&& 31)) &&& (1 : Int32)) = (0 : Int32) → ((y2 = (-1 : Int32) → ∀ v33 : Int32, v33 = y3 + (1 : Int32) → wX8_leastOf_L17 z1 K108 post n y3 v33 σ) ∧ (¬ y2 = (-1 : Int32) → wX8_greatest y3 (fun r34 σ35 => wX8_greatest y2 (fun r36 σ37 => ((r34 < r36 → ∀ v39 : Int32, v39 = y3 + (1 : Int32) → wX8_leastOf_L17 z1 K108 post n y3 v39 σ37) ∧ (¬ r34 < r36 → wX8_greatest y3 (fun r40 σ41 => wX8_greatest y2 (fun r42 σ43 => ((r40 = r42 → wX8_weighed y3 (fun r45 σ46 => wX8_weighed y2 (fun r47 σ48 => ((r47 ≤ r45 → ∀ v50 : Int32, v50 = y3 + (1 : Int32) → wX8_leastOf_L17 z1 K108 post n y2 v50 σ48) ∧ (¬ r47 ≤ r45 → ∀ v51 : Int32, v51 = y3 + (1 : Int32) → wX8_leastOf_L17 z1 K108 post n y3 v51 σ48))) σ46) σ43) ∧ (¬ r40 = r42 → ∀ v52 : Int32, v52 = y3 + (1 : Int32) → wX8_leastOf_L17 z1 K108 post n y2 v52 σ43))) σ41) σ37))) σ35) σ))))))))
def wX8_leastOf  (post : Int32 → hsS → Prop) (σ : hsS) : Prop := wX8_look  (fun σ2 => wX8_everybody  (fun r3 σ4 => wX8_coreOf r3 (fun r5 σ6 => ∃ n53, wX8_leastOf_L17 r5 (fun v54 v55 σ56 => post v54 σ56) post n53 (-1 : Int32) (0 : Int32) σ6) σ4) σ2) σ
set_option maxHeartbeats 4000000 in
set_option maxRecDepth 100000 in
theorem kcX8_leastOf (l : Launch) (D : va_G) (c : Nat → ClassId) (q : Nat → Nat) (ev : State → Heap → Prop) (hev : evOK (wdA 31 q) ev) (σ : hsS)  (post : Int32 → hsS → Prop) (hw : wX8_leastOf  post σ) : Met l yX8_leastOf (Cond.code yX8_leastOf cX8_leastOf 5 (some .int) :: tb_L) { frames := 4, cells := 0, slots := 0, locals := 114 } (wdPc D (mw c q) (mwT c) (wdA 31 q) ev σ [.ref (q 0)]) (va_Qi post (wdB D (mw c q)) (wdA 31 q)) 0 0 (wdA 31 q) := by
  refine Met.ofW (cc := cX8_leastOf) (maxL := 5) (ret := (some .int)) (by decide) rfl ?_
  intro p e s m args below meth c₀ s₁ Bd hml hv
  obtain ⟨rfl, hP, hK, hD0, hE⟩ := hv
  have hx := Bd.exec
  have hb := Bd.bytes
  have hr := Bd.returns
  have hts := atoms_spec (ws := Cond.code yX8_leastOf cX8_leastOf 5 (some .int) :: tb_L) Bd.pre
  have htb : ∀ w ∈ tb_L, w.before [.ref (q 0)].toArray s = true := fun w h => hts w (List.mem_cons_of_mem _ h)
  have hown : s.vm.findClass RX8 = some m.cls := findClass_of_methodNamed Bd.named
  have hlocks := Bd.notSynchronized
  have hS : va_S (wdA 31 q) s.heap s.heap [] := va_S.rf
  have hD := hD0
  have L17 : ∀ (K108 : Int32 → Int32 → hsS → Prop) (z1 : Int32) (n : Nat) (y2 : Int32) (y3 : Int32) (σ : hsS) (H : Heap) (locs : List Loc) (ls : Array Slot), wX8_leastOf_L17 z1 K108 post n y2 y3 σ → (∀ (y2 : Int32) (y3 : Int32) (σ : hsS) (H : Heap) (locs : List Loc) (ls : Array Slot), K108 y2 y3 σ → va_P D vwCl (mw c q σ) H → va_S (wdA 31 q) s.heap H locs → lv_has ls 5 [(0, .ref (q 0)), (1, .int z1), (2, .int y2), (3, .int y3)] → W p l e (headSpec (Cond.code yX8_leastOf cX8_leastOf 5 (some .int) :: tb_L) { frames := 4, cells := 0, slots := 0, locals := 114 }).room s m [.ref (q 0)].toArray below meth c₀ H locs 0 0 (MQ below (va_Qi post (wdB D (mw c q)) (wdA 31 q)) [.ref (q 0)].toArray s 0 0 (wdA 31 q)) (F0 m 108 ls [])) → va_P D vwCl (mw c q σ) H → va_S (wdA 31 q) s.heap H locs → lv_has ls 5 [(0, .ref (q 0)), (1, .int z1), (2, .int y2), (3, .int y3)] → W p l e (headSpec (Cond.code yX8_leastOf cX8_leastOf 5 (some .int) :: tb_L) { frames := 4, cells := 0, slots := 0, locals := 114 }).room s m [.ref (q 0)].toArray below meth c₀ H locs 0 0 (MQ below (va_Qi post (wdB D (mw c q)) (wdA 31 q)) [.ref (q 0)].toArray s 0 0 (wdA 31 q)) (F0 m 17 ls []) := by
    intro K108 z1 n
    induction n with
    | zero =>
      intro y2 y3 σ H locs ls hw hk108 hP hS hl
      exact (show False from hw).elim
    | succ n ih =>
      intro y2 y3 σ H locs ls hw hk108 hP hS hl
      rw [wX8_leastOf_L17] at hw
      have hD : va_D (wdA 31 q) (mw c q σ) := mw_D hD0
      refine lv_iload_n hx hb dX8_leastOf_17 rfl (lv_at hl 3 rfl) ?_
      refine lv_aload_n hx hb dX8_leastOf_18 rfl (lv_at hl 0 rfl) ?_
      refine va_get (D := D) (ci := 8) (C := RX8) (T := TX8) (N := 57) hx hb htb inX8 hown hK hP 0 (mw_0 c q σ) rfl 25 (by decide) (htb _ tb_1206) (fun _ h9 => h9) rfl dX8_leastOf_19 ?_
      refine lv_icmp_ge (tgt := 108) hx hb dX8_leastOf_22 (by decide) (fun c7 => ?_) (fun c7 => ?_)
      · have hw := hw.1 c7
        exact hk108 y2 y3 σ _ _ _ hw hP hS (lv_sub hl [0, 1, 2, 3] rfl)
      · have hw := hw.2 c7
        refine lv_iload_n hx hb dX8_leastOf_25 rfl (lv_at hl 1 rfl) ?_
        refine lv_if_eq (tgt := 40) hx hb dX8_leastOf_26 (by decide) (fun c8 => ?_) (fun c8 => ?_)
        · have hw := hw.1 c8
          refine lv_iload_n hx hb dX8_leastOf_40 rfl (lv_at hl 2 rfl) ?_
          refine lv_iconst (v := (-1 : Int32)) hx hb dX8_leastOf_41 (by decide) ?_
          refine lv_icmp_eq (tgt := 84) hx hb dX8_leastOf_42 (by decide) (fun c9 => ?_) (fun c9 => ?_)
          · have hw := hw.1 c9
            refine lv_iconst (v := (1 : Int32)) hx hb dX8_leastOf_84 (by decide) ?_
            refine lv_goto (tgt := 89) hx hb dX8_leastOf_85 (by decide) ?_
            refine lv_istore (lv' := [(4, .int (1 : Int32)), (0, .ref (q 0)), (1, .int z1), (2, .int y2), (3, .int y3)]) hx hb dX8_leastOf_89 hl (by decide) rfl (fun ls hl => ?_)
            refine lv_iload hx hb dX8_leastOf_91 (lv_at hl 0 rfl) ?_
            refine lv_if_eq (tgt := 100) hx hb dX8_leastOf_93 (by decide) (fun h9 => absurd h9 (by decide)) (fun _ => ?_)
            refine lv_iload_n hx hb dX8_leastOf_96 rfl (lv_at hl 4 rfl) ?_
            refine lv_goto (tgt := 101) hx hb dX8_leastOf_97 (by decide) ?_
            refine lv_istore_n (lv' := [(2, .int y3), (4, .int (1 : Int32)), (0, .ref (q 0)), (1, .int z1), (3, .int y3)]) hx hb dX8_leastOf_101 rfl hl (by decide) rfl (fun ls hl => ?_)
            obtain ⟨v10, ev10⟩ : ∃ z : Int32, z = y3 + (1 : Int32) := ⟨_, rfl⟩
            have hw := hw v10 ev10
            refine lv_iinc (v := v10) (lv' := [(3, .int v10), (2, .int y3), (4, .int (1 : Int32)), (0, .ref (q 0)), (1, .int z1)]) hx hb dX8_leastOf_102 hl (k := 4) rfl (by rw [ev10]; rfl) (by decide) rfl (fun ls hl => ?_)
            refine lv_goto (tgt := 17) hx hb dX8_leastOf_105 (by decide) ?_
            exact ih y3 v10 σ _ _ _ hw hk108 hP hS (lv_sub hl [3, 4, 1, 0] rfl)
          · have hw := hw.2 c9
            refine lv_aload_n hx hb dX8_leastOf_45 rfl (lv_at hl 0 rfl) ?_
            refine lv_iload_n hx hb dX8_leastOf_46 rfl (lv_at hl 3 rfl) ?_
            refine va_calli (va_runV (As := [.int y3]) (rest := []) ⟨hx, hb, hml, hown, htb⟩ (kcX8_greatest l D c q ev hev σ y3 _ hw) (tb_CW htb kX8_greatest tb_1628 tb_1630 tb_79 ⟨Nat.le_of_ble_eq_true rfl, Nat.le_of_ble_eq_true rfl⟩) (wd_preV (wd := mw c q) (k := 0) hev hK hP hD hE hS (mw_0 c q σ) rfl) rfl rfl hl.1 rfl (lv_room (Nat.le_of_ble_eq_true rfl)) dX8_leastOf_47 ⟨Nat.zero_le _, Nat.zero_le _⟩) hS (fun q _ h => h) (fun q h => h) (fun r11 σ12 t H1 locs1 ht hvm hw hB hz1 hk1 hS => ?_)
            have hP : va_P D vwCl (mw c q σ12) H1 := ht ▸ hB
            have hD : va_D (wdA 31 q) (mw c q σ12) := mw_D hD0
            refine lv_aload_n hx hb dX8_leastOf_50 rfl (lv_at hl 0 rfl) ?_
            refine lv_iload_n hx hb dX8_leastOf_51 rfl (lv_at hl 2 rfl) ?_
            refine va_calli (va_runV (As := [.int y2]) (rest := [.int r11]) ⟨hx, hb, hml, hown, htb⟩ (kcX8_greatest l D c q ev hev σ12 y2 _ hw) (tb_CW htb kX8_greatest tb_1628 tb_1630 tb_79 ⟨Nat.le_of_ble_eq_true rfl, Nat.le_of_ble_eq_true rfl⟩) (wd_preV (wd := mw c q) (k := 0) hev hK hP hD hE hS (mw_0 c q σ12) rfl) rfl rfl hl.1 rfl (lv_room (Nat.le_of_ble_eq_true rfl)) dX8_leastOf_52 ⟨Nat.zero_le _, Nat.zero_le _⟩) hS (fun q _ h => h) (fun q h => h) (fun r13 σ14 t H1 locs1 ht hvm hw hB hz1 hk1 hS => ?_)
            have hP : va_P D vwCl (mw c q σ14) H1 := ht ▸ hB
            have hD : va_D (wdA 31 q) (mw c q σ14) := mw_D hD0
            refine lv_icmp_lt (tgt := 84) hx hb dX8_leastOf_55 (by decide) (fun c15 => ?_) (fun c15 => ?_)
            · have hw := hw.1 c15
              refine lv_iconst (v := (1 : Int32)) hx hb dX8_leastOf_84 (by decide) ?_
              refine lv_goto (tgt := 89) hx hb dX8_leastOf_85 (by decide) ?_
              refine lv_istore (lv' := [(4, .int (1 : Int32)), (0, .ref (q 0)), (1, .int z1), (2, .int y2), (3, .int y3)]) hx hb dX8_leastOf_89 hl (by decide) rfl (fun ls hl => ?_)
              refine lv_iload hx hb dX8_leastOf_91 (lv_at hl 0 rfl) ?_
              refine lv_if_eq (tgt := 100) hx hb dX8_leastOf_93 (by decide) (fun h9 => absurd h9 (by decide)) (fun _ => ?_)
              refine lv_iload_n hx hb dX8_leastOf_96 rfl (lv_at hl 4 rfl) ?_
              refine lv_goto (tgt := 101) hx hb dX8_leastOf_97 (by decide) ?_
              refine lv_istore_n (lv' := [(2, .int y3), (4, .int (1 : Int32)), (0, .ref (q 0)), (1, .int z1), (3, .int y3)]) hx hb dX8_leastOf_101 rfl hl (by decide) rfl (fun ls hl => ?_)
              obtain ⟨v16, ev16⟩ : ∃ z : Int32, z = y3 + (1 : Int32) := ⟨_, rfl⟩
              have hw := hw v16 ev16
              refine lv_iinc (v := v16) (lv' := [(3, .int v16), (2, .int y3), (4, .int (1 : Int32)), (0, .ref (q 0)), (1, .int z1)]) hx hb dX8_leastOf_102 hl (k := 4) rfl (by rw [ev16]; rfl) (by decide) rfl (fun ls hl => ?_)
              refine lv_goto (tgt := 17) hx hb dX8_leastOf_105 (by decide) ?_
              exact ih y3 v16 σ14 _ _ _ hw hk108 hP hS (lv_sub hl [3, 4, 1, 0] rfl)
            · have hw := hw.2 c15
              refine lv_aload_n hx hb dX8_leastOf_58 rfl (lv_at hl 0 rfl) ?_
              refine lv_iload_n hx hb dX8_leastOf_59 rfl (lv_at hl 3 rfl) ?_
              refine va_calli (va_runV (As := [.int y3]) (rest := []) ⟨hx, hb, hml, hown, htb⟩ (kcX8_greatest l D c q ev hev σ14 y3 _ hw) (tb_CW htb kX8_greatest tb_1628 tb_1630 tb_79 ⟨Nat.le_of_ble_eq_true rfl, Nat.le_of_ble_eq_true rfl⟩) (wd_preV (wd := mw c q) (k := 0) hev hK hP hD hE hS (mw_0 c q σ14) rfl) rfl rfl hl.1 rfl (lv_room (Nat.le_of_ble_eq_true rfl)) dX8_leastOf_60 ⟨Nat.zero_le _, Nat.zero_le _⟩) hS (fun q _ h => h) (fun q h => h) (fun r17 σ18 t H1 locs1 ht hvm hw hB hz1 hk1 hS => ?_)
              have hP : va_P D vwCl (mw c q σ18) H1 := ht ▸ hB
              have hD : va_D (wdA 31 q) (mw c q σ18) := mw_D hD0
              refine lv_aload_n hx hb dX8_leastOf_63 rfl (lv_at hl 0 rfl) ?_
              refine lv_iload_n hx hb dX8_leastOf_64 rfl (lv_at hl 2 rfl) ?_
              refine va_calli (va_runV (As := [.int y2]) (rest := [.int r17]) ⟨hx, hb, hml, hown, htb⟩ (kcX8_greatest l D c q ev hev σ18 y2 _ hw) (tb_CW htb kX8_greatest tb_1628 tb_1630 tb_79 ⟨Nat.le_of_ble_eq_true rfl, Nat.le_of_ble_eq_true rfl⟩) (wd_preV (wd := mw c q) (k := 0) hev hK hP hD hE hS (mw_0 c q σ18) rfl) rfl rfl hl.1 rfl (lv_room (Nat.le_of_ble_eq_true rfl)) dX8_leastOf_65 ⟨Nat.zero_le _, Nat.zero_le _⟩) hS (fun q _ h => h) (fun q h => h) (fun r19 σ20 t H1 locs1 ht hvm hw hB hz1 hk1 hS => ?_)
              have hP : va_P D vwCl (mw c q σ20) H1 := ht ▸ hB
              have hD : va_D (wdA 31 q) (mw c q σ20) := mw_D hD0
              refine lv_icmp_ne (tgt := 88) hx hb dX8_leastOf_68 (by decide) (fun c21 => ?_) (fun c21 => ?_)
              · have hw := hw.2 c21
                refine lv_iconst (v := (0 : Int32)) hx hb dX8_leastOf_88 (by decide) ?_
                refine lv_istore (lv' := [(4, .int (0 : Int32)), (0, .ref (q 0)), (1, .int z1), (2, .int y2), (3, .int y3)]) hx hb dX8_leastOf_89 hl (by decide) rfl (fun ls hl => ?_)
                refine lv_iload hx hb dX8_leastOf_91 (lv_at hl 0 rfl) ?_
                refine lv_if_eq (tgt := 100) hx hb dX8_leastOf_93 (by decide) (fun _ => ?_) (fun h9 => absurd h9 (by decide))
                refine lv_iload_n hx hb dX8_leastOf_100 rfl (lv_at hl 3 rfl) ?_
                refine lv_istore_n (lv' := [(2, .int y2), (4, .int (0 : Int32)), (0, .ref (q 0)), (1, .int z1), (3, .int y3)]) hx hb dX8_leastOf_101 rfl hl (by decide) rfl (fun ls hl => ?_)
                obtain ⟨v29, ev29⟩ : ∃ z : Int32, z = y3 + (1 : Int32) := ⟨_, rfl⟩
                have hw := hw v29 ev29
                refine lv_iinc (v := v29) (lv' := [(3, .int v29), (2, .int y2), (4, .int (0 : Int32)), (0, .ref (q 0)), (1, .int z1)]) hx hb dX8_leastOf_102 hl (k := 4) rfl (by rw [ev29]; rfl) (by decide) rfl (fun ls hl => ?_)
                refine lv_goto (tgt := 17) hx hb dX8_leastOf_105 (by decide) ?_
                exact ih y2 v29 σ20 _ _ _ hw hk108 hP hS (lv_sub hl [3, 4, 1, 0] rfl)
              · have hw := hw.1 c21
                refine lv_aload_n hx hb dX8_leastOf_71 rfl (lv_at hl 0 rfl) ?_
                refine lv_iload_n hx hb dX8_leastOf_72 rfl (lv_at hl 3 rfl) ?_
                refine va_calli (va_runV (As := [.int y3]) (rest := []) ⟨hx, hb, hml, hown, htb⟩ (kcX8_weighed l D c q ev hev σ20 y3 _ hw) (tb_CW htb kX8_weighed tb_1632 tb_1634 tb_80 ⟨Nat.le_of_ble_eq_true rfl, Nat.le_of_ble_eq_true rfl⟩) (wd_preV (wd := mw c q) (k := 0) hev hK hP hD hE hS (mw_0 c q σ20) rfl) rfl rfl hl.1 rfl (lv_room (Nat.le_of_ble_eq_true rfl)) dX8_leastOf_73 ⟨Nat.zero_le _, Nat.zero_le _⟩) hS (fun q _ h => h) (fun q h => h) (fun r22 σ23 t H1 locs1 ht hvm hw hB hz1 hk1 hS => ?_)
                have hP : va_P D vwCl (mw c q σ23) H1 := ht ▸ hB
                have hD : va_D (wdA 31 q) (mw c q σ23) := mw_D hD0
                refine lv_aload_n hx hb dX8_leastOf_76 rfl (lv_at hl 0 rfl) ?_
                refine lv_iload_n hx hb dX8_leastOf_77 rfl (lv_at hl 2 rfl) ?_
                refine va_calli (va_runV (As := [.int y2]) (rest := [.int r22]) ⟨hx, hb, hml, hown, htb⟩ (kcX8_weighed l D c q ev hev σ23 y2 _ hw) (tb_CW htb kX8_weighed tb_1632 tb_1634 tb_80 ⟨Nat.le_of_ble_eq_true rfl, Nat.le_of_ble_eq_true rfl⟩) (wd_preV (wd := mw c q) (k := 0) hev hK hP hD hE hS (mw_0 c q σ23) rfl) rfl rfl hl.1 rfl (lv_room (Nat.le_of_ble_eq_true rfl)) dX8_leastOf_78 ⟨Nat.zero_le _, Nat.zero_le _⟩) hS (fun q _ h => h) (fun q h => h) (fun r24 σ25 t H1 locs1 ht hvm hw hB hz1 hk1 hS => ?_)
                have hP : va_P D vwCl (mw c q σ25) H1 := ht ▸ hB
                have hD : va_D (wdA 31 q) (mw c q σ25) := mw_D hD0
                refine lv_icmp_ge (tgt := 88) hx hb dX8_leastOf_81 (by decide) (fun c26 => ?_) (fun c26 => ?_)
                · have hw := hw.1 c26
                  refine lv_iconst (v := (0 : Int32)) hx hb dX8_leastOf_88 (by decide) ?_
                  refine lv_istore (lv' := [(4, .int (0 : Int32)), (0, .ref (q 0)), (1, .int z1), (2, .int y2), (3, .int y3)]) hx hb dX8_leastOf_89 hl (by decide) rfl (fun ls hl => ?_)
                  refine lv_iload hx hb dX8_leastOf_91 (lv_at hl 0 rfl) ?_
                  refine lv_if_eq (tgt := 100) hx hb dX8_leastOf_93 (by decide) (fun _ => ?_) (fun h9 => absurd h9 (by decide))
                  refine lv_iload_n hx hb dX8_leastOf_100 rfl (lv_at hl 3 rfl) ?_
                  refine lv_istore_n (lv' := [(2, .int y2), (4, .int (0 : Int32)), (0, .ref (q 0)), (1, .int z1), (3, .int y3)]) hx hb dX8_leastOf_101 rfl hl (by decide) rfl (fun ls hl => ?_)
                  obtain ⟨v27, ev27⟩ : ∃ z : Int32, z = y3 + (1 : Int32) := ⟨_, rfl⟩
                  have hw := hw v27 ev27
                  refine lv_iinc (v := v27) (lv' := [(3, .int v27), (2, .int y2), (4, .int (0 : Int32)), (0, .ref (q 0)), (1, .int z1)]) hx hb dX8_leastOf_102 hl (k := 4) rfl (by rw [ev27]; rfl) (by decide) rfl (fun ls hl => ?_)
                  refine lv_goto (tgt := 17) hx hb dX8_leastOf_105 (by decide) ?_
                  exact ih y2 v27 σ25 _ _ _ hw hk108 hP hS (lv_sub hl [3, 4, 1, 0] rfl)
                · have hw := hw.2 c26
                  refine lv_iconst (v := (1 : Int32)) hx hb dX8_leastOf_84 (by decide) ?_
                  refine lv_goto (tgt := 89) hx hb dX8_leastOf_85 (by decide) ?_
                  refine lv_istore (lv' := [(4, .int (1 : Int32)), (0, .ref (q 0)), (1, .int z1), (2, .int y2), (3, .int y3)]) hx hb dX8_leastOf_89 hl (by decide) rfl (fun ls hl => ?_)
                  refine lv_iload hx hb dX8_leastOf_91 (lv_at hl 0 rfl) ?_
                  refine lv_if_eq (tgt := 100) hx hb dX8_leastOf_93 (by decide) (fun h9 => absurd h9 (by decide)) (fun _ => ?_)
                  refine lv_iload_n hx hb dX8_leastOf_96 rfl (lv_at hl 4 rfl) ?_
                  refine lv_goto (tgt := 101) hx hb dX8_leastOf_97 (by decide) ?_
                  refine lv_istore_n (lv' := [(2, .int y3), (4, .int (1 : Int32)), (0, .ref (q 0)), (1, .int z1), (3, .int y3)]) hx hb dX8_leastOf_101 rfl hl (by decide) rfl (fun ls hl => ?_)
                  obtain ⟨v28, ev28⟩ : ∃ z : Int32, z = y3 + (1 : Int32) := ⟨_, rfl⟩
                  have hw := hw v28 ev28
                  refine lv_iinc (v := v28) (lv' := [(3, .int v28), (2, .int y3), (4, .int (1 : Int32)), (0, .ref (q 0)), (1, .int z1)]) hx hb dX8_leastOf_102 hl (k := 4) rfl (by rw [ev28]; rfl) (by decide) rfl (fun ls hl => ?_)
                  refine lv_goto (tgt := 17) hx hb dX8_leastOf_105 (by decide) ?_
                  exact ih y3 v28 σ25 _ _ _ hw hk108 hP hS (lv_sub hl [3, 4, 1, 0] rfl)
        · have hw := hw.2 c8
          refine lv_iload_n hx hb dX8_leastOf_29 rfl (lv_at hl 1 rfl) ?_
          refine lv_iload_n hx hb dX8_leastOf_30 rfl (lv_at hl 3 rfl) ?_
          refine lv_ishr hx hb dX8_leastOf_31 ?_
          refine lv_iconst (v := (1 : Int32)) hx hb dX8_leastOf_32 (by decide) ?_
          refine lv_iand hx hb dX8_leastOf_33 ?_
          refine lv_if_ne (tgt := 40) hx hb dX8_leastOf_34 (by decide) (fun c30 => ?_) (fun c30 => ?_)
          · have hw := hw.2 c30
            refine lv_iload_n hx hb dX8_leastOf_40 rfl (lv_at hl 2 rfl) ?_
            refine lv_iconst (v := (-1 : Int32)) hx hb dX8_leastOf_41 (by decide) ?_
            refine lv_icmp_eq (tgt := 84) hx hb dX8_leastOf_42 (by decide) (fun c32 => ?_) (fun c32 => ?_)
            · have hw := hw.1 c32
              refine lv_iconst (v := (1 : Int32)) hx hb dX8_leastOf_84 (by decide) ?_
              refine lv_goto (tgt := 89) hx hb dX8_leastOf_85 (by decide) ?_
              refine lv_istore (lv' := [(4, .int (1 : Int32)), (0, .ref (q 0)), (1, .int z1), (2, .int y2), (3, .int y3)]) hx hb dX8_leastOf_89 hl (by decide) rfl (fun ls hl => ?_)
              refine lv_iload hx hb dX8_leastOf_91 (lv_at hl 0 rfl) ?_
              refine lv_if_eq (tgt := 100) hx hb dX8_leastOf_93 (by decide) (fun h9 => absurd h9 (by decide)) (fun _ => ?_)
              refine lv_iload_n hx hb dX8_leastOf_96 rfl (lv_at hl 4 rfl) ?_
              refine lv_goto (tgt := 101) hx hb dX8_leastOf_97 (by decide) ?_
              refine lv_istore_n (lv' := [(2, .int y3), (4, .int (1 : Int32)), (0, .ref (q 0)), (1, .int z1), (3, .int y3)]) hx hb dX8_leastOf_101 rfl hl (by decide) rfl (fun ls hl => ?_)
              obtain ⟨v33, ev33⟩ : ∃ z : Int32, z = y3 + (1 : Int32) := ⟨_, rfl⟩
              have hw := hw v33 ev33
              refine lv_iinc (v := v33) (lv' := [(3, .int v33), (2, .int y3), (4, .int (1 : Int32)), (0, .ref (q 0)), (1, .int z1)]) hx hb dX8_leastOf_102 hl (k := 4) rfl (by rw [ev33]; rfl) (by decide) rfl (fun ls hl => ?_)
              refine lv_goto (tgt := 17) hx hb dX8_leastOf_105 (by decide) ?_
              exact ih y3 v33 σ _ _ _ hw hk108 hP hS (lv_sub hl [3, 4, 1, 0] rfl)
            · have hw := hw.2 c32
              refine lv_aload_n hx hb dX8_leastOf_45 rfl (lv_at hl 0 rfl) ?_
              refine lv_iload_n hx hb dX8_leastOf_46 rfl (lv_at hl 3 rfl) ?_
              refine va_calli (va_runV (As := [.int y3]) (rest := []) ⟨hx, hb, hml, hown, htb⟩ (kcX8_greatest l D c q ev hev σ y3 _ hw) (tb_CW htb kX8_greatest tb_1628 tb_1630 tb_79 ⟨Nat.le_of_ble_eq_true rfl, Nat.le_of_ble_eq_true rfl⟩) (wd_preV (wd := mw c q) (k := 0) hev hK hP hD hE hS (mw_0 c q σ) rfl) rfl rfl hl.1 rfl (lv_room (Nat.le_of_ble_eq_true rfl)) dX8_leastOf_47 ⟨Nat.zero_le _, Nat.zero_le _⟩) hS (fun q _ h => h) (fun q h => h) (fun r34 σ35 t H1 locs1 ht hvm hw hB hz1 hk1 hS => ?_)
              have hP : va_P D vwCl (mw c q σ35) H1 := ht ▸ hB
              have hD : va_D (wdA 31 q) (mw c q σ35) := mw_D hD0
              refine lv_aload_n hx hb dX8_leastOf_50 rfl (lv_at hl 0 rfl) ?_
              refine lv_iload_n hx hb dX8_leastOf_51 rfl (lv_at hl 2 rfl) ?_
              refine va_calli (va_runV (As := [.int y2]) (rest := [.int r34]) ⟨hx, hb, hml, hown, htb⟩ (kcX8_greatest l D c q ev hev σ35 y2 _ hw) (tb_CW htb kX8_greatest tb_1628 tb_1630 tb_79 ⟨Nat.le_of_ble_eq_true rfl, Nat.le_of_ble_eq_true rfl⟩) (wd_preV (wd := mw c q) (k := 0) hev hK hP hD hE hS (mw_0 c q σ35) rfl) rfl rfl hl.1 rfl (lv_room (Nat.le_of_ble_eq_true rfl)) dX8_leastOf_52 ⟨Nat.zero_le _, Nat.zero_le _⟩) hS (fun q _ h => h) (fun q h => h) (fun r36 σ37 t H1 locs1 ht hvm hw hB hz1 hk1 hS => ?_)
              have hP : va_P D vwCl (mw c q σ37) H1 := ht ▸ hB
              have hD : va_D (wdA 31 q) (mw c q σ37) := mw_D hD0
              refine lv_icmp_lt (tgt := 84) hx hb dX8_leastOf_55 (by decide) (fun c38 => ?_) (fun c38 => ?_)
              · have hw := hw.1 c38
                refine lv_iconst (v := (1 : Int32)) hx hb dX8_leastOf_84 (by decide) ?_
                refine lv_goto (tgt := 89) hx hb dX8_leastOf_85 (by decide) ?_
                refine lv_istore (lv' := [(4, .int (1 : Int32)), (0, .ref (q 0)), (1, .int z1), (2, .int y2), (3, .int y3)]) hx hb dX8_leastOf_89 hl (by decide) rfl (fun ls hl => ?_)
                refine lv_iload hx hb dX8_leastOf_91 (lv_at hl 0 rfl) ?_
                refine lv_if_eq (tgt := 100) hx hb dX8_leastOf_93 (by decide) (fun h9 => absurd h9 (by decide)) (fun _ => ?_)
                refine lv_iload_n hx hb dX8_leastOf_96 rfl (lv_at hl 4 rfl) ?_
                refine lv_goto (tgt := 101) hx hb dX8_leastOf_97 (by decide) ?_
                refine lv_istore_n (lv' := [(2, .int y3), (4, .int (1 : Int32)), (0, .ref (q 0)), (1, .int z1), (3, .int y3)]) hx hb dX8_leastOf_101 rfl hl (by decide) rfl (fun ls hl => ?_)
                obtain ⟨v39, ev39⟩ : ∃ z : Int32, z = y3 + (1 : Int32) := ⟨_, rfl⟩
                have hw := hw v39 ev39
                refine lv_iinc (v := v39) (lv' := [(3, .int v39), (2, .int y3), (4, .int (1 : Int32)), (0, .ref (q 0)), (1, .int z1)]) hx hb dX8_leastOf_102 hl (k := 4) rfl (by rw [ev39]; rfl) (by decide) rfl (fun ls hl => ?_)
                refine lv_goto (tgt := 17) hx hb dX8_leastOf_105 (by decide) ?_
                exact ih y3 v39 σ37 _ _ _ hw hk108 hP hS (lv_sub hl [3, 4, 1, 0] rfl)
              · have hw := hw.2 c38
                refine lv_aload_n hx hb dX8_leastOf_58 rfl (lv_at hl 0 rfl) ?_
                refine lv_iload_n hx hb dX8_leastOf_59 rfl (lv_at hl 3 rfl) ?_
                refine va_calli (va_runV (As := [.int y3]) (rest := []) ⟨hx, hb, hml, hown, htb⟩ (kcX8_greatest l D c q ev hev σ37 y3 _ hw) (tb_CW htb kX8_greatest tb_1628 tb_1630 tb_79 ⟨Nat.le_of_ble_eq_true rfl, Nat.le_of_ble_eq_true rfl⟩) (wd_preV (wd := mw c q) (k := 0) hev hK hP hD hE hS (mw_0 c q σ37) rfl) rfl rfl hl.1 rfl (lv_room (Nat.le_of_ble_eq_true rfl)) dX8_leastOf_60 ⟨Nat.zero_le _, Nat.zero_le _⟩) hS (fun q _ h => h) (fun q h => h) (fun r40 σ41 t H1 locs1 ht hvm hw hB hz1 hk1 hS => ?_)
                have hP : va_P D vwCl (mw c q σ41) H1 := ht ▸ hB
                have hD : va_D (wdA 31 q) (mw c q σ41) := mw_D hD0
                refine lv_aload_n hx hb dX8_leastOf_63 rfl (lv_at hl 0 rfl) ?_
                refine lv_iload_n hx hb dX8_leastOf_64 rfl (lv_at hl 2 rfl) ?_
                refine va_calli (va_runV (As := [.int y2]) (rest := [.int r40]) ⟨hx, hb, hml, hown, htb⟩ (kcX8_greatest l D c q ev hev σ41 y2 _ hw) (tb_CW htb kX8_greatest tb_1628 tb_1630 tb_79 ⟨Nat.le_of_ble_eq_true rfl, Nat.le_of_ble_eq_true rfl⟩) (wd_preV (wd := mw c q) (k := 0) hev hK hP hD hE hS (mw_0 c q σ41) rfl) rfl rfl hl.1 rfl (lv_room (Nat.le_of_ble_eq_true rfl)) dX8_leastOf_65 ⟨Nat.zero_le _, Nat.zero_le _⟩) hS (fun q _ h => h) (fun q h => h) (fun r42 σ43 t H1 locs1 ht hvm hw hB hz1 hk1 hS => ?_)
                have hP : va_P D vwCl (mw c q σ43) H1 := ht ▸ hB
                have hD : va_D (wdA 31 q) (mw c q σ43) := mw_D hD0
                refine lv_icmp_ne (tgt := 88) hx hb dX8_leastOf_68 (by decide) (fun c44 => ?_) (fun c44 => ?_)
                · have hw := hw.2 c44
                  refine lv_iconst (v := (0 : Int32)) hx hb dX8_leastOf_88 (by decide) ?_
                  refine lv_istore (lv' := [(4, .int (0 : Int32)), (0, .ref (q 0)), (1, .int z1), (2, .int y2), (3, .int y3)]) hx hb dX8_leastOf_89 hl (by decide) rfl (fun ls hl => ?_)
                  refine lv_iload hx hb dX8_leastOf_91 (lv_at hl 0 rfl) ?_
                  refine lv_if_eq (tgt := 100) hx hb dX8_leastOf_93 (by decide) (fun _ => ?_) (fun h9 => absurd h9 (by decide))
                  refine lv_iload_n hx hb dX8_leastOf_100 rfl (lv_at hl 3 rfl) ?_
                  refine lv_istore_n (lv' := [(2, .int y2), (4, .int (0 : Int32)), (0, .ref (q 0)), (1, .int z1), (3, .int y3)]) hx hb dX8_leastOf_101 rfl hl (by decide) rfl (fun ls hl => ?_)
                  obtain ⟨v52, ev52⟩ : ∃ z : Int32, z = y3 + (1 : Int32) := ⟨_, rfl⟩
                  have hw := hw v52 ev52
                  refine lv_iinc (v := v52) (lv' := [(3, .int v52), (2, .int y2), (4, .int (0 : Int32)), (0, .ref (q 0)), (1, .int z1)]) hx hb dX8_leastOf_102 hl (k := 4) rfl (by rw [ev52]; rfl) (by decide) rfl (fun ls hl => ?_)
                  refine lv_goto (tgt := 17) hx hb dX8_leastOf_105 (by decide) ?_
                  exact ih y2 v52 σ43 _ _ _ hw hk108 hP hS (lv_sub hl [3, 4, 1, 0] rfl)
                · have hw := hw.1 c44
                  refine lv_aload_n hx hb dX8_leastOf_71 rfl (lv_at hl 0 rfl) ?_
                  refine lv_iload_n hx hb dX8_leastOf_72 rfl (lv_at hl 3 rfl) ?_
                  refine va_calli (va_runV (As := [.int y3]) (rest := []) ⟨hx, hb, hml, hown, htb⟩ (kcX8_weighed l D c q ev hev σ43 y3 _ hw) (tb_CW htb kX8_weighed tb_1632 tb_1634 tb_80 ⟨Nat.le_of_ble_eq_true rfl, Nat.le_of_ble_eq_true rfl⟩) (wd_preV (wd := mw c q) (k := 0) hev hK hP hD hE hS (mw_0 c q σ43) rfl) rfl rfl hl.1 rfl (lv_room (Nat.le_of_ble_eq_true rfl)) dX8_leastOf_73 ⟨Nat.zero_le _, Nat.zero_le _⟩) hS (fun q _ h => h) (fun q h => h) (fun r45 σ46 t H1 locs1 ht hvm hw hB hz1 hk1 hS => ?_)
                  have hP : va_P D vwCl (mw c q σ46) H1 := ht ▸ hB
                  have hD : va_D (wdA 31 q) (mw c q σ46) := mw_D hD0
                  refine lv_aload_n hx hb dX8_leastOf_76 rfl (lv_at hl 0 rfl) ?_
                  refine lv_iload_n hx hb dX8_leastOf_77 rfl (lv_at hl 2 rfl) ?_
                  refine va_calli (va_runV (As := [.int y2]) (rest := [.int r45]) ⟨hx, hb, hml, hown, htb⟩ (kcX8_weighed l D c q ev hev σ46 y2 _ hw) (tb_CW htb kX8_weighed tb_1632 tb_1634 tb_80 ⟨Nat.le_of_ble_eq_true rfl, Nat.le_of_ble_eq_true rfl⟩) (wd_preV (wd := mw c q) (k := 0) hev hK hP hD hE hS (mw_0 c q σ46) rfl) rfl rfl hl.1 rfl (lv_room (Nat.le_of_ble_eq_true rfl)) dX8_leastOf_78 ⟨Nat.zero_le _, Nat.zero_le _⟩) hS (fun q _ h => h) (fun q h => h) (fun r47 σ48 t H1 locs1 ht hvm hw hB hz1 hk1 hS => ?_)
                  have hP : va_P D vwCl (mw c q σ48) H1 := ht ▸ hB
                  have hD : va_D (wdA 31 q) (mw c q σ48) := mw_D hD0
                  refine lv_icmp_ge (tgt := 88) hx hb dX8_leastOf_81 (by decide) (fun c49 => ?_) (fun c49 => ?_)
                  · have hw := hw.1 c49
                    refine lv_iconst (v := (0 : Int32)) hx hb dX8_leastOf_88 (by decide) ?_
                    refine lv_istore (lv' := [(4, .int (0 : Int32)), (0, .ref (q 0)), (1, .int z1), (2, .int y2), (3, .int y3)]) hx hb dX8_leastOf_89 hl (by decide) rfl (fun ls hl => ?_)
                    refine lv_iload hx hb dX8_leastOf_91 (lv_at hl 0 rfl) ?_
                    refine lv_if_eq (tgt := 100) hx hb dX8_leastOf_93 (by decide) (fun _ => ?_) (fun h9 => absurd h9 (by decide))
                    refine lv_iload_n hx hb dX8_leastOf_100 rfl (lv_at hl 3 rfl) ?_
                    refine lv_istore_n (lv' := [(2, .int y2), (4, .int (0 : Int32)), (0, .ref (q 0)), (1, .int z1), (3, .int y3)]) hx hb dX8_leastOf_101 rfl hl (by decide) rfl (fun ls hl => ?_)
                    obtain ⟨v50, ev50⟩ : ∃ z : Int32, z = y3 + (1 : Int32) := ⟨_, rfl⟩
                    have hw := hw v50 ev50
                    refine lv_iinc (v := v50) (lv' := [(3, .int v50), (2, .int y2), (4, .int (0 : Int32)), (0, .ref (q 0)), (1, .int z1)]) hx hb dX8_leastOf_102 hl (k := 4) rfl (by rw [ev50]; rfl) (by decide) rfl (fun ls hl => ?_)
                    refine lv_goto (tgt := 17) hx hb dX8_leastOf_105 (by decide) ?_
                    exact ih y2 v50 σ48 _ _ _ hw hk108 hP hS (lv_sub hl [3, 4, 1, 0] rfl)
                  · have hw := hw.2 c49
                    refine lv_iconst (v := (1 : Int32)) hx hb dX8_leastOf_84 (by decide) ?_
                    refine lv_goto (tgt := 89) hx hb dX8_leastOf_85 (by decide) ?_
                    refine lv_istore (lv' := [(4, .int (1 : Int32)), (0, .ref (q 0)), (1, .int z1), (2, .int y2), (3, .int y3)]) hx hb dX8_leastOf_89 hl (by decide) rfl (fun ls hl => ?_)
                    refine lv_iload hx hb dX8_leastOf_91 (lv_at hl 0 rfl) ?_
                    refine lv_if_eq (tgt := 100) hx hb dX8_leastOf_93 (by decide) (fun h9 => absurd h9 (by decide)) (fun _ => ?_)
                    refine lv_iload_n hx hb dX8_leastOf_96 rfl (lv_at hl 4 rfl) ?_
                    refine lv_goto (tgt := 101) hx hb dX8_leastOf_97 (by decide) ?_
                    refine lv_istore_n (lv' := [(2, .int y3), (4, .int (1 : Int32)), (0, .ref (q 0)), (1, .int z1), (3, .int y3)]) hx hb dX8_leastOf_101 rfl hl (by decide) rfl (fun ls hl => ?_)
                    obtain ⟨v51, ev51⟩ : ∃ z : Int32, z = y3 + (1 : Int32) := ⟨_, rfl⟩
                    have hw := hw v51 ev51
                    refine lv_iinc (v := v51) (lv' := [(3, .int v51), (2, .int y3), (4, .int (1 : Int32)), (0, .ref (q 0)), (1, .int z1)]) hx hb dX8_leastOf_102 hl (k := 4) rfl (by rw [ev51]; rfl) (by decide) rfl (fun ls hl => ?_)
                    refine lv_goto (tgt := 17) hx hb dX8_leastOf_105 (by decide) ?_
                    exact ih y3 v51 σ48 _ _ _ hw hk108 hP hS (lv_sub hl [3, 4, 1, 0] rfl)
          · have hw := hw.1 c30
            refine lv_goto (tgt := 102) hx hb dX8_leastOf_37 (by decide) ?_
            obtain ⟨v31, ev31⟩ : ∃ z : Int32, z = y3 + (1 : Int32) := ⟨_, rfl⟩
            have hw := hw v31 ev31
            refine lv_iinc (v := v31) (lv' := [(3, .int v31), (0, .ref (q 0)), (1, .int z1), (2, .int y2)]) hx hb dX8_leastOf_102 hl (k := 3) rfl (by rw [ev31]; rfl) (by decide) rfl (fun ls hl => ?_)
            refine lv_goto (tgt := 17) hx hb dX8_leastOf_105 (by decide) ?_
            exact ih y2 v31 σ _ _ _ hw hk108 hP hS (lv_sub hl [1, 2, 3, 0] rfl)
  have hl := lv_entry ([.ref (q 0)]) (n := 5) (Nat.le_of_ble_eq_true rfl)
  rw [lg_entry_eq]
  generalize (lg_sl ([.ref (q 0)]) ++ List.replicate (5 - (lg_sl ([.ref (q 0)])).length) Slot.unset).toArray = ls at hl ⊢
  have hl : lv_has ls 5 [(0, .ref (q 0))] := hl
  unfold wX8_leastOf at hw
  refine lv_aload_n hx hb dX8_leastOf_0 rfl (lv_at hl 0 rfl) ?_
  refine va_callv (va_runV (As := []) (rest := []) ⟨hx, hb, hml, hown, htb⟩ (kcX8_look l D c q ev hev σ  _ hw) (tb_CW htb kX8_look tb_1500 tb_1502 tb_63 ⟨Nat.le_of_ble_eq_true rfl, Nat.le_of_ble_eq_true rfl⟩) (wd_preV (wd := mw c q) (k := 0) hev hK hP hD hE hS (mw_0 c q σ) rfl) rfl rfl hl.1 rfl (lv_room (Nat.le_of_ble_eq_true rfl)) dX8_leastOf_1 ⟨Nat.zero_le _, Nat.zero_le _⟩) hS (fun q _ h => h) (fun q h => h) (fun σ2 t H1 locs1 ht hvm hw hB hz1 hk1 hS => ?_)
  have hP : va_P D vwCl (mw c q σ2) H1 := ht ▸ hB
  have hD : va_D (wdA 31 q) (mw c q σ2) := mw_D hD0
  refine lv_aload_n hx hb dX8_leastOf_4 rfl (lv_at hl 0 rfl) ?_
  refine lv_aload_n hx hb dX8_leastOf_5 rfl (lv_at hl 0 rfl) ?_
  refine va_calli (va_runV (As := []) (rest := [.ref (q 0)]) ⟨hx, hb, hml, hown, htb⟩ (kcX8_everybody l D c q ev hev σ2  _ hw) (tb_CW htb kX8_everybody tb_1485 tb_1487 tb_61 ⟨Nat.le_of_ble_eq_true rfl, Nat.le_of_ble_eq_true rfl⟩) (wd_preV (wd := mw c q) (k := 0) hev hK hP hD hE hS (mw_0 c q σ2) rfl) rfl rfl hl.1 rfl (lv_room (Nat.le_of_ble_eq_true rfl)) dX8_leastOf_6 ⟨Nat.zero_le _, Nat.zero_le _⟩) hS (fun q _ h => h) (fun q h => h) (fun r3 σ4 t H1 locs1 ht hvm hw hB hz1 hk1 hS => ?_)
  have hP : va_P D vwCl (mw c q σ4) H1 := ht ▸ hB
  have hD : va_D (wdA 31 q) (mw c q σ4) := mw_D hD0
  refine va_calli (va_runV (As := [.int r3]) (rest := []) ⟨hx, hb, hml, hown, htb⟩ (kcX8_coreOf l D c q ev hev σ4 r3 _ hw) (tb_CW htb kX8_coreOf tb_1535 tb_1537 tb_68 ⟨Nat.le_of_ble_eq_true rfl, Nat.le_of_ble_eq_true rfl⟩) (wd_preV (wd := mw c q) (k := 0) hev hK hP hD hE hS (mw_0 c q σ4) rfl) rfl rfl hl.1 rfl (lv_room (Nat.le_of_ble_eq_true rfl)) dX8_leastOf_9 ⟨Nat.zero_le _, Nat.zero_le _⟩) hS (fun q _ h => h) (fun q h => h) (fun r5 σ6 t H1 locs1 ht hvm hw hB hz1 hk1 hS => ?_)
  have hP : va_P D vwCl (mw c q σ6) H1 := ht ▸ hB
  have hD : va_D (wdA 31 q) (mw c q σ6) := mw_D hD0
  refine lv_istore_n (lv' := [(1, .int r5), (0, .ref (q 0))]) hx hb dX8_leastOf_12 rfl hl (by decide) rfl (fun ls hl => ?_)
  refine lv_iconst (v := (-1 : Int32)) hx hb dX8_leastOf_13 (by decide) ?_
  refine lv_istore_n (lv' := [(2, .int (-1 : Int32)), (1, .int r5), (0, .ref (q 0))]) hx hb dX8_leastOf_14 rfl hl (by decide) rfl (fun ls hl => ?_)
  refine lv_iconst (v := (0 : Int32)) hx hb dX8_leastOf_15 (by decide) ?_
  refine lv_istore_n (lv' := [(3, .int (0 : Int32)), (2, .int (-1 : Int32)), (1, .int r5), (0, .ref (q 0))]) hx hb dX8_leastOf_16 rfl hl (by decide) rfl (fun ls hl => ?_)
  obtain ⟨n53, hw⟩ := hw
  refine L17 _ r5 n53 (-1 : Int32) (0 : Int32) σ6 _ _ _ hw ?_ hP hS (lv_sub hl [3, 2, 1, 0] rfl)
  intro v54 v55 σ56 H locs ls hw hP hS hl
  have hD : va_D (wdA 31 q) (mw c q σ56) := mw_D hD0
  refine lv_iload_n hx hb dX8_leastOf_108 rfl (lv_at hl 2 rfl) ?_
  exact W.iret hx hb hr (fun t ht hW => ⟨⟨_, σ56, rfl, hw, by unfold wdB; rw [ht]; exact hP⟩, hS.F ht⟩) hS.2.2 dX8_leastOf_109
def wX8_least  (post : Int32 → hsS → Prop) (σ : hsS) : Prop := ∀ σ1 : hsS, σ1 = hsI σ 0 (0 : Int32) → wX8_leastOf  (fun r2 σ3 => post r2 σ3) σ1
set_option maxHeartbeats 4000000 in
set_option maxRecDepth 100000 in
theorem kcX8_least (l : Launch) (D : va_G) (c : Nat → ClassId) (q : Nat → Nat) (ev : State → Heap → Prop) (hev : evOK (wdA 31 q) ev) (σ : hsS)  (post : Int32 → hsS → Prop) (hw : wX8_least  post σ) : Met l yX8_least (Cond.code yX8_least cX8_least 1 (some .int) :: tb_L) { frames := 5, cells := 0, slots := 0, locals := 138 } (wdPc D (mw c q) (mwT c) (wdA 31 q) ev σ [.ref (q 0)]) (va_Qi post (wdB D (mw c q)) (wdA 31 q)) 0 0 (wdA 31 q) := by
  refine Met.ofW (cc := cX8_least) (maxL := 1) (ret := (some .int)) (by decide) rfl ?_
  intro p e s m args below meth c₀ s₁ Bd hml hv
  obtain ⟨rfl, hP, hK, hD0, hE⟩ := hv
  have hx := Bd.exec
  have hb := Bd.bytes
  have hr := Bd.returns
  have hts := atoms_spec (ws := Cond.code yX8_least cX8_least 1 (some .int) :: tb_L) Bd.pre
  have htb : ∀ w ∈ tb_L, w.before [.ref (q 0)].toArray s = true := fun w h => hts w (List.mem_cons_of_mem _ h)
  have hown : s.vm.findClass RX8 = some m.cls := findClass_of_methodNamed Bd.named
  have hlocks := Bd.notSynchronized
  have hS : va_S (wdA 31 q) s.heap s.heap [] := va_S.rf
  have hD := hD0
  have hl := lv_entry ([.ref (q 0)]) (n := 1) (Nat.le_of_ble_eq_true rfl)
  rw [lg_entry_eq]
  generalize (lg_sl ([.ref (q 0)]) ++ List.replicate (1 - (lg_sl ([.ref (q 0)])).length) Slot.unset).toArray = ls at hl ⊢
  have hl : lv_has ls 1 [(0, .ref (q 0))] := hl
  unfold wX8_least at hw
  refine lv_aload_n hx hb dX8_least_0 rfl (lv_at hl 0 rfl) ?_
  refine lv_iconst (v := (0 : Int32)) hx hb dX8_least_1 (by decide) ?_
  refine va_put (D := D) (ci := 8) (ty := .int) (C := RX8) (T := TX8) (N := 57) hx hb htb inX8 tyX8 tyX8_ok nmX8 hown hK hP hD hS 0 (mw_0 c q σ) rfl 0 (by decide) (htb _ tb_1181) (fun _ h9 => h9) rfl (by decide +kernel) rfl rfl (Nat.le_of_ble_eq_true rfl) dX8_least_2 (fun H locs hP hD hS => ?_)
  have hP : va_P D vwCl (mw c q (hsI σ 0 (0 : Int32))) H := hP
  obtain ⟨σ1, eσ1⟩ : ∃ z : hsS, z = hsI σ 0 (0 : Int32) := ⟨_, rfl⟩
  rw [← eσ1] at hP
  have hD : va_D (wdA 31 q) (mw c q σ1) := mw_D hD0
  have hw := hw σ1 eσ1
  refine lv_aload_n hx hb dX8_least_5 rfl (lv_at hl 0 rfl) ?_
  refine va_calli (va_runV (As := []) (rest := []) ⟨hx, hb, hml, hown, htb⟩ (kcX8_leastOf l D c q ev hev σ1  _ hw) (tb_CW htb kX8_leastOf tb_1640 tb_1642 tb_81 ⟨Nat.le_of_ble_eq_true rfl, Nat.le_of_ble_eq_true rfl⟩) (wd_preV (wd := mw c q) (k := 0) hev hK hP hD hE hS (mw_0 c q σ1) rfl) rfl rfl hl.1 rfl (lv_room (Nat.le_of_ble_eq_true rfl)) dX8_least_6 ⟨Nat.zero_le _, Nat.zero_le _⟩) hS (fun q _ h => h) (fun q h => h) (fun r2 σ3 t H1 locs1 ht hvm hw hB hz1 hk1 hS => ?_)
  have hP : va_P D vwCl (mw c q σ3) H1 := ht ▸ hB
  have hD : va_D (wdA 31 q) (mw c q σ3) := mw_D hD0
  exact W.iret hx hb hr (fun t ht hW => ⟨⟨_, σ3, rfl, hw, by unfold wdB; rw [ht]; exact hP⟩, hS.F ht⟩) hS.2.2 dX8_least_9
def wX8_headsOf_L4 (z1 : Int32) (K56 : Int32 → Int32 → hsS → Prop) (post : Int32 → hsS → Prop) : Nat → Int32 → Int32 → hsS → Prop
  | 0, _, _, _ => False
  | n + 1, y2, y3, σ => (((σ.2.1 2 (0 : Int32).toNatClampNeg) ≤ y3 → K56 y2 y3 σ) ∧ (¬ (σ.2.1 2 (0 : Int32).toNatClampNeg) ≤ y3 → vp_in y3 16 ∧ (((σ.2.1 11 y3.toNatClampNeg) = (0 : Int32) → ∀ v3 : Int32, v3 = y2 + (0 : Int32) → ∀ v4 : Int32, v4 = y3 + (1 : Int32) → wX8_headsOf_L4 z1 K56 post n v3 v4 σ) ∧ (¬ (σ.2.1 11 y3.toNatClampNeg) = (0 : Int32) → vp_in ((y3 * (10 : Int32)) + z1) 80 ∧ (((σ.2.1 13 ((y3 * (10 : Int32)) + z1).toNatClampNeg) = (0 : Int32) → vp_in y3 16 ∧ ∀ v6 : Int32, v6 = y2 + (σ.2.1 7 y3.toNatClampNeg) → ∀ v7 : Int32, v7 = y3 + (1 : Int32) → wX8_headsOf_L4 z1 K56 post n v6 v7 σ) ∧ (¬ (σ.2.1 13 ((y3 * (10 : Int32)) + z1).toNatClampNeg) = (0 : Int32) → ∀ v8 : Int32, v8 = y2 + (0 : Int32) → ∀ v9 : Int32, v9 = y3 + (1 : Int32) → wX8_headsOf_L4 z1 K56 post n v8 v9 σ))))))
def wX8_headsOf (x1 : Int32) (post : Int32 → hsS → Prop) (σ : hsS) : Prop := ∃ n10, wX8_headsOf_L4 x1 (fun v11 v12 σ13 => post v11 σ13) post n10 (0 : Int32) (0 : Int32) σ
set_option maxHeartbeats 4000000 in
set_option maxRecDepth 100000 in
theorem kcX8_headsOf (l : Launch) (D : va_G) (c : Nat → ClassId) (q : Nat → Nat) (ev : State → Heap → Prop) (hev : evOK (wdA 31 q) ev) (σ : hsS) (x1 : Int32) (post : Int32 → hsS → Prop) (hw : wX8_headsOf x1 post σ) : Met l yX8_headsOf (Cond.code yX8_headsOf cX8_headsOf 4 (some .int) :: tb_L) { frames := 0, cells := 0, slots := 0, locals := 0 } (wdPc D (mw c q) (mwT c) (wdA 31 q) ev σ [.ref (q 0), .int x1]) (va_Qi post (wdB D (mw c q)) (wdA 31 q)) 0 0 (wdA 31 q) := by
  refine Met.ofW (cc := cX8_headsOf) (maxL := 4) (ret := (some .int)) (by decide) rfl ?_
  intro p e s m args below meth c₀ s₁ Bd hml hv
  obtain ⟨rfl, hP, hK, hD0, hE⟩ := hv
  have hx := Bd.exec
  have hb := Bd.bytes
  have hr := Bd.returns
  have hts := atoms_spec (ws := Cond.code yX8_headsOf cX8_headsOf 4 (some .int) :: tb_L) Bd.pre
  have htb : ∀ w ∈ tb_L, w.before [.ref (q 0), .int x1].toArray s = true := fun w h => hts w (List.mem_cons_of_mem _ h)
  have hown : s.vm.findClass RX8 = some m.cls := findClass_of_methodNamed Bd.named
  have hlocks := Bd.notSynchronized
  have hS : va_S (wdA 31 q) s.heap s.heap [] := va_S.rf
  have hD := hD0
  have L4 : ∀ (K56 : Int32 → Int32 → hsS → Prop) (z1 : Int32) (n : Nat) (y2 : Int32) (y3 : Int32) (σ : hsS) (H : Heap) (locs : List Loc) (ls : Array Slot), wX8_headsOf_L4 z1 K56 post n y2 y3 σ → (∀ (y2 : Int32) (y3 : Int32) (σ : hsS) (H : Heap) (locs : List Loc) (ls : Array Slot), K56 y2 y3 σ → va_P D vwCl (mw c q σ) H → va_S (wdA 31 q) s.heap H locs → lv_has ls 4 [(0, .ref (q 0)), (1, .int z1), (2, .int y2), (3, .int y3)] → W p l e (headSpec (Cond.code yX8_headsOf cX8_headsOf 4 (some .int) :: tb_L) { frames := 0, cells := 0, slots := 0, locals := 0 }).room s m [.ref (q 0), .int x1].toArray below meth c₀ H locs 0 0 (MQ below (va_Qi post (wdB D (mw c q)) (wdA 31 q)) [.ref (q 0), .int x1].toArray s 0 0 (wdA 31 q)) (F0 m 56 ls [])) → va_P D vwCl (mw c q σ) H → va_S (wdA 31 q) s.heap H locs → lv_has ls 4 [(0, .ref (q 0)), (1, .int z1), (2, .int y2), (3, .int y3)] → W p l e (headSpec (Cond.code yX8_headsOf cX8_headsOf 4 (some .int) :: tb_L) { frames := 0, cells := 0, slots := 0, locals := 0 }).room s m [.ref (q 0), .int x1].toArray below meth c₀ H locs 0 0 (MQ below (va_Qi post (wdB D (mw c q)) (wdA 31 q)) [.ref (q 0), .int x1].toArray s 0 0 (wdA 31 q)) (F0 m 4 ls []) := by
    intro K56 z1 n
    induction n with
    | zero =>
      intro y2 y3 σ H locs ls hw hk56 hP hS hl
      exact (show False from hw).elim
    | succ n ih =>
      intro y2 y3 σ H locs ls hw hk56 hP hS hl
      rw [wX8_headsOf_L4] at hw
      have hD : va_D (wdA 31 q) (mw c q σ) := mw_D hD0
      refine lv_iload_n hx hb dX8_headsOf_4 rfl (lv_at hl 3 rfl) ?_
      refine lv_aload_n hx hb dX8_headsOf_5 rfl (lv_at hl 0 rfl) ?_
      refine va_get (D := D) (ci := 8) (C := RX8) (T := TX8) (N := 57) hx hb htb inX8 hown hK hP 0 (mw_0 c q σ) rfl 2 (by decide) (htb _ tb_1183) (fun _ h9 => h9) rfl dX8_headsOf_6 ?_
      refine lv_iconst (v := (0 : Int32)) hx hb dX8_headsOf_9 (by decide) ?_
      refine va_iald hx hb hK hP 2 1 (mw_2 c q σ) rfl (by unfold vp_in; decide) dX8_headsOf_10 ?_
      refine lv_icmp_ge (tgt := 56) hx hb dX8_headsOf_11 (by decide) (fun c1 => ?_) (fun c1 => ?_)
      · have hw := hw.1 c1
        exact hk56 y2 y3 σ _ _ _ hw hP hS (lv_sub hl [0, 1, 2, 3] rfl)
      · have hw := hw.2 c1
        refine lv_iload_n hx hb dX8_headsOf_14 rfl (lv_at hl 2 rfl) ?_
        refine lv_aload_n hx hb dX8_headsOf_15 rfl (lv_at hl 0 rfl) ?_
        refine va_get (D := D) (ci := 8) (C := RX8) (T := TX8) (N := 57) hx hb htb inX8 hown hK hP 0 (mw_0 c q σ) rfl 11 (by decide) (htb _ tb_1192) (fun _ h9 => h9) rfl dX8_headsOf_16 ?_
        refine lv_iload_n hx hb dX8_headsOf_19 rfl (lv_at hl 3 rfl) ?_
        refine va_zald hx hb hK hP 11 10 (mw_11 c q σ) rfl hw.1 dX8_headsOf_20 ?_
        have hw := hw.2
        refine lv_if_eq (tgt := 47) hx hb dX8_headsOf_21 (by decide) (fun c2 => ?_) (fun c2 => ?_)
        · have hw := hw.1 c2
          refine lv_iconst (v := (0 : Int32)) hx hb dX8_headsOf_47 (by decide) ?_
          refine lv_iadd hx hb dX8_headsOf_48 ?_
          refine lv_topi (fun v3 ev3 => ?_)
          have hw := hw v3 ev3
          refine lv_istore_n (lv' := [(2, .int v3), (0, .ref (q 0)), (1, .int z1), (3, .int y3)]) hx hb dX8_headsOf_49 rfl hl (by decide) rfl (fun ls hl => ?_)
          obtain ⟨v4, ev4⟩ : ∃ z : Int32, z = y3 + (1 : Int32) := ⟨_, rfl⟩
          have hw := hw v4 ev4
          refine lv_iinc (v := v4) (lv' := [(3, .int v4), (2, .int v3), (0, .ref (q 0)), (1, .int z1)]) hx hb dX8_headsOf_50 hl (k := 3) rfl (by rw [ev4]; rfl) (by decide) rfl (fun ls hl => ?_)
          refine lv_goto (tgt := 4) hx hb dX8_headsOf_53 (by decide) ?_
          exact ih v3 v4 σ _ _ _ hw hk56 hP hS (lv_sub hl [2, 3, 1, 0] rfl)
        · have hw := hw.2 c2
          refine lv_aload_n hx hb dX8_headsOf_24 rfl (lv_at hl 0 rfl) ?_
          refine va_get (D := D) (ci := 8) (C := RX8) (T := TX8) (N := 57) hx hb htb inX8 hown hK hP 0 (mw_0 c q σ) rfl 24 (by decide) (htb _ tb_1205) (fun _ h9 => h9) rfl dX8_headsOf_25 ?_
          refine lv_iload_n hx hb dX8_headsOf_28 rfl (lv_at hl 3 rfl) ?_
          refine lv_bipush (v := (10 : Int32)) hx hb dX8_headsOf_29 (by decide) ?_
          refine lv_imul hx hb dX8_headsOf_31 ?_
          refine lv_iload_n hx hb dX8_headsOf_32 rfl (lv_at hl 1 rfl) ?_
          refine lv_iadd hx hb dX8_headsOf_33 ?_
          refine va_iald hx hb hK hP 13 12 (mw_13 c q σ) rfl hw.1 dX8_headsOf_34 ?_
          have hw := hw.2
          refine lv_if_ne (tgt := 47) hx hb dX8_headsOf_35 (by decide) (fun c5 => ?_) (fun c5 => ?_)
          · have hw := hw.2 c5
            refine lv_iconst (v := (0 : Int32)) hx hb dX8_headsOf_47 (by decide) ?_
            refine lv_iadd hx hb dX8_headsOf_48 ?_
            refine lv_topi (fun v8 ev8 => ?_)
            have hw := hw v8 ev8
            refine lv_istore_n (lv' := [(2, .int v8), (0, .ref (q 0)), (1, .int z1), (3, .int y3)]) hx hb dX8_headsOf_49 rfl hl (by decide) rfl (fun ls hl => ?_)
            obtain ⟨v9, ev9⟩ : ∃ z : Int32, z = y3 + (1 : Int32) := ⟨_, rfl⟩
            have hw := hw v9 ev9
            refine lv_iinc (v := v9) (lv' := [(3, .int v9), (2, .int v8), (0, .ref (q 0)), (1, .int z1)]) hx hb dX8_headsOf_50 hl (k := 3) rfl (by rw [ev9]; rfl) (by decide) rfl (fun ls hl => ?_)
            refine lv_goto (tgt := 4) hx hb dX8_headsOf_53 (by decide) ?_
            exact ih v8 v9 σ _ _ _ hw hk56 hP hS (lv_sub hl [2, 3, 1, 0] rfl)
          · have hw := hw.1 c5
            refine lv_aload_n hx hb dX8_headsOf_38 rfl (lv_at hl 0 rfl) ?_
            refine va_get (D := D) (ci := 8) (C := RX8) (T := TX8) (N := 57) hx hb htb inX8 hown hK hP 0 (mw_0 c q σ) rfl 7 (by decide) (htb _ tb_1188) (fun _ h9 => h9) rfl dX8_headsOf_39 ?_
            refine lv_iload_n hx hb dX8_headsOf_42 rfl (lv_at hl 3 rfl) ?_
            refine va_iald hx hb hK hP 7 6 (mw_7 c q σ) rfl hw.1 dX8_headsOf_43 ?_
            have hw := hw.2
            refine lv_goto (tgt := 48) hx hb dX8_headsOf_44 (by decide) ?_
            refine lv_iadd hx hb dX8_headsOf_48 ?_
            refine lv_topi (fun v6 ev6 => ?_)
            have hw := hw v6 ev6
            refine lv_istore_n (lv' := [(2, .int v6), (0, .ref (q 0)), (1, .int z1), (3, .int y3)]) hx hb dX8_headsOf_49 rfl hl (by decide) rfl (fun ls hl => ?_)
            obtain ⟨v7, ev7⟩ : ∃ z : Int32, z = y3 + (1 : Int32) := ⟨_, rfl⟩
            have hw := hw v7 ev7
            refine lv_iinc (v := v7) (lv' := [(3, .int v7), (2, .int v6), (0, .ref (q 0)), (1, .int z1)]) hx hb dX8_headsOf_50 hl (k := 3) rfl (by rw [ev7]; rfl) (by decide) rfl (fun ls hl => ?_)
            refine lv_goto (tgt := 4) hx hb dX8_headsOf_53 (by decide) ?_
            exact ih v6 v7 σ _ _ _ hw hk56 hP hS (lv_sub hl [2, 3, 1, 0] rfl)
  have hl := lv_entry ([.ref (q 0), .int x1]) (n := 4) (Nat.le_of_ble_eq_true rfl)
  rw [lg_entry_eq]
  generalize (lg_sl ([.ref (q 0), .int x1]) ++ List.replicate (4 - (lg_sl ([.ref (q 0), .int x1])).length) Slot.unset).toArray = ls at hl ⊢
  have hl : lv_has ls 4 [(0, .ref (q 0)), (1, .int x1)] := hl
  unfold wX8_headsOf at hw
  refine lv_iconst (v := (0 : Int32)) hx hb dX8_headsOf_0 (by decide) ?_
  refine lv_istore_n (lv' := [(2, .int (0 : Int32)), (0, .ref (q 0)), (1, .int x1)]) hx hb dX8_headsOf_1 rfl hl (by decide) rfl (fun ls hl => ?_)
  refine lv_iconst (v := (0 : Int32)) hx hb dX8_headsOf_2 (by decide) ?_
  refine lv_istore_n (lv' := [(3, .int (0 : Int32)), (2, .int (0 : Int32)), (0, .ref (q 0)), (1, .int x1)]) hx hb dX8_headsOf_3 rfl hl (by decide) rfl (fun ls hl => ?_)
  obtain ⟨n10, hw⟩ := hw
  refine L4 _ x1 n10 (0 : Int32) (0 : Int32) σ _ _ _ hw ?_ hP hS (lv_sub hl [2, 3, 1, 0] rfl)
  intro v11 v12 σ13 H locs ls hw hP hS hl
  have hD : va_D (wdA 31 q) (mw c q σ13) := mw_D hD0
  refine lv_iload_n hx hb dX8_headsOf_56 rfl (lv_at hl 2 rfl) ?_
  exact W.iret hx hb hr (fun t ht hW => ⟨⟨_, σ13, rfl, hw, by unfold wdB; rw [ht]; exact hP⟩, hS.F ht⟩) hS.2.2 dX8_headsOf_57
def wX8_heads (x1 : Int32) (post : Int32 → hsS → Prop) (σ : hsS) : Prop := ∀ σ1 : hsS, σ1 = hsI σ 0 (0 : Int32) → wX8_isThing x1 (fun r2 σ3 => ((r2 = (0 : Int32) → wX8_fail (1 : Int32) (fun r5 σ6 => post r5 σ6) σ3) ∧ (¬ r2 = (0 : Int32) → wX8_look  (fun σ8 => wX8_headsOf x1 (fun r9 σ10 => post r9 σ10) σ8) σ3))) σ1
set_option maxHeartbeats 4000000 in
set_option maxRecDepth 100000 in
theorem kcX8_heads (l : Launch) (D : va_G) (c : Nat → ClassId) (q : Nat → Nat) (ev : State → Heap → Prop) (hev : evOK (wdA 31 q) ev) (σ : hsS) (x1 : Int32) (post : Int32 → hsS → Prop) (hw : wX8_heads x1 post σ) : Met l yX8_heads (Cond.code yX8_heads cX8_heads 2 (some .int) :: tb_L) { frames := 2, cells := 0, slots := 0, locals := 47 } (wdPc D (mw c q) (mwT c) (wdA 31 q) ev σ [.ref (q 0), .int x1]) (va_Qi post (wdB D (mw c q)) (wdA 31 q)) 0 0 (wdA 31 q) := by
  refine Met.ofW (cc := cX8_heads) (maxL := 2) (ret := (some .int)) (by decide) rfl ?_
  intro p e s m args below meth c₀ s₁ Bd hml hv
  obtain ⟨rfl, hP, hK, hD0, hE⟩ := hv
  have hx := Bd.exec
  have hb := Bd.bytes
  have hr := Bd.returns
  have hts := atoms_spec (ws := Cond.code yX8_heads cX8_heads 2 (some .int) :: tb_L) Bd.pre
  have htb : ∀ w ∈ tb_L, w.before [.ref (q 0), .int x1].toArray s = true := fun w h => hts w (List.mem_cons_of_mem _ h)
  have hown : s.vm.findClass RX8 = some m.cls := findClass_of_methodNamed Bd.named
  have hlocks := Bd.notSynchronized
  have hS : va_S (wdA 31 q) s.heap s.heap [] := va_S.rf
  have hD := hD0
  have hl := lv_entry ([.ref (q 0), .int x1]) (n := 2) (Nat.le_of_ble_eq_true rfl)
  rw [lg_entry_eq]
  generalize (lg_sl ([.ref (q 0), .int x1]) ++ List.replicate (2 - (lg_sl ([.ref (q 0), .int x1])).length) Slot.unset).toArray = ls at hl ⊢
  have hl : lv_has ls 2 [(0, .ref (q 0)), (1, .int x1)] := hl
  unfold wX8_heads at hw
  refine lv_aload_n hx hb dX8_heads_0 rfl (lv_at hl 0 rfl) ?_
  refine lv_iconst (v := (0 : Int32)) hx hb dX8_heads_1 (by decide) ?_
  refine va_put (D := D) (ci := 8) (ty := .int) (C := RX8) (T := TX8) (N := 57) hx hb htb inX8 tyX8 tyX8_ok nmX8 hown hK hP hD hS 0 (mw_0 c q σ) rfl 0 (by decide) (htb _ tb_1181) (fun _ h9 => h9) rfl (by decide +kernel) rfl rfl (Nat.le_of_ble_eq_true rfl) dX8_heads_2 (fun H locs hP hD hS => ?_)
  have hP : va_P D vwCl (mw c q (hsI σ 0 (0 : Int32))) H := hP
  obtain ⟨σ1, eσ1⟩ : ∃ z : hsS, z = hsI σ 0 (0 : Int32) := ⟨_, rfl⟩
  rw [← eσ1] at hP
  have hD : va_D (wdA 31 q) (mw c q σ1) := mw_D hD0
  have hw := hw σ1 eσ1
  refine lv_aload_n hx hb dX8_heads_5 rfl (lv_at hl 0 rfl) ?_
  refine lv_iload_n hx hb dX8_heads_6 rfl (lv_at hl 1 rfl) ?_
  refine va_calli (va_runV (As := [.int x1]) (rest := []) ⟨hx, hb, hml, hown, htb⟩ (kcX8_isThing l D c q ev hev σ1 x1 _ hw) (tb_CW htb kX8_isThing tb_1473 tb_1475 tb_59 ⟨Nat.le_of_ble_eq_true rfl, Nat.le_of_ble_eq_true rfl⟩) (wd_preV (wd := mw c q) (k := 0) hev hK hP hD hE hS (mw_0 c q σ1) rfl) rfl rfl hl.1 rfl (lv_room (Nat.le_of_ble_eq_true rfl)) dX8_heads_7 ⟨Nat.zero_le _, Nat.zero_le _⟩) hS (fun q _ h => h) (fun q h => h) (fun r2 σ3 t H1 locs1 ht hvm hw hB hz1 hk1 hS => ?_)
  have hP : va_P D vwCl (mw c q σ3) H1 := ht ▸ hB
  have hD : va_D (wdA 31 q) (mw c q σ3) := mw_D hD0
  refine lv_if_ne (tgt := 19) hx hb dX8_heads_10 (by decide) (fun c4 => ?_) (fun c4 => ?_)
  · have hw := hw.2 c4
    refine lv_aload_n hx hb dX8_heads_19 rfl (lv_at hl 0 rfl) ?_
    refine va_callv (va_runV (As := []) (rest := []) ⟨hx, hb, hml, hown, htb⟩ (kcX8_look l D c q ev hev σ3  _ hw) (tb_CW htb kX8_look tb_1500 tb_1502 tb_63 ⟨Nat.le_of_ble_eq_true rfl, Nat.le_of_ble_eq_true rfl⟩) (wd_preV (wd := mw c q) (k := 0) hev hK hP hD hE hS (mw_0 c q σ3) rfl) rfl rfl hl.1 rfl (lv_room (Nat.le_of_ble_eq_true rfl)) dX8_heads_20 ⟨Nat.zero_le _, Nat.zero_le _⟩) hS (fun q _ h => h) (fun q h => h) (fun σ8 t H1 locs1 ht hvm hw hB hz1 hk1 hS => ?_)
    have hP : va_P D vwCl (mw c q σ8) H1 := ht ▸ hB
    have hD : va_D (wdA 31 q) (mw c q σ8) := mw_D hD0
    refine lv_aload_n hx hb dX8_heads_23 rfl (lv_at hl 0 rfl) ?_
    refine lv_iload_n hx hb dX8_heads_24 rfl (lv_at hl 1 rfl) ?_
    refine va_calli (va_runV (As := [.int x1]) (rest := []) ⟨hx, hb, hml, hown, htb⟩ (kcX8_headsOf l D c q ev hev σ8 x1 _ hw) (tb_CW htb kX8_headsOf tb_1648 tb_1650 tb_82 ⟨Nat.le_of_ble_eq_true rfl, Nat.le_of_ble_eq_true rfl⟩) (wd_preV (wd := mw c q) (k := 0) hev hK hP hD hE hS (mw_0 c q σ8) rfl) rfl rfl hl.1 rfl (lv_room (Nat.le_of_ble_eq_true rfl)) dX8_heads_25 ⟨Nat.zero_le _, Nat.zero_le _⟩) hS (fun q _ h => h) (fun q h => h) (fun r9 σ10 t H1 locs1 ht hvm hw hB hz1 hk1 hS => ?_)
    have hP : va_P D vwCl (mw c q σ10) H1 := ht ▸ hB
    have hD : va_D (wdA 31 q) (mw c q σ10) := mw_D hD0
    exact W.iret hx hb hr (fun t ht hW => ⟨⟨_, σ10, rfl, hw, by unfold wdB; rw [ht]; exact hP⟩, hS.F ht⟩) hS.2.2 dX8_heads_28
  · have hw := hw.1 c4
    refine lv_aload_n hx hb dX8_heads_13 rfl (lv_at hl 0 rfl) ?_
    refine lv_iconst (v := (1 : Int32)) hx hb dX8_heads_14 (by decide) ?_
    refine va_calli (va_runV (As := [.int (1 : Int32)]) (rest := []) ⟨hx, hb, hml, hown, htb⟩ (kcX8_fail l D c q ev hev σ3 (1 : Int32) _ hw) (tb_CW htb kX8_fail tb_1366 tb_1368 tb_42 ⟨Nat.le_of_ble_eq_true rfl, Nat.le_of_ble_eq_true rfl⟩) (wd_preV (wd := mw c q) (k := 0) hev hK hP hD hE hS (mw_0 c q σ3) rfl) rfl rfl hl.1 rfl (lv_room (Nat.le_of_ble_eq_true rfl)) dX8_heads_15 ⟨Nat.zero_le _, Nat.zero_le _⟩) hS (fun q _ h => h) (fun q h => h) (fun r5 σ6 t H1 locs1 ht hvm hw hB hz1 hk1 hS => ?_)
    have hP : va_P D vwCl (mw c q σ6) H1 := ht ▸ hB
    have hD : va_D (wdA 31 q) (mw c q σ6) := mw_D hD0
    exact W.iret hx hb hr (fun t ht hW => ⟨⟨_, σ6, rfl, hw, by unfold wdB; rw [ht]; exact hP⟩, hS.F ht⟩) hS.2.2 dX8_heads_18
def wX8_head_L30 (z1 : Int32) (z2 : Int32) (K62 : Int32 → Int32 → hsS → Prop) (post : Int32 → hsS → Prop) : Nat → Int32 → Int32 → hsS → Prop
  | 0, _, _, _ => False
  | n + 1, y3, y4, σ => (((σ.1 25) ≤ y4 → K62 y3 y4 σ) ∧ (¬ (σ.1 25) ≤ y4 → wX8_headsOf y4 (fun r9 σ10 => wX8_headsOf y3 (fun r11 σ12 => ((r9 ≤ r11 → ∀ v14 : Int32, v14 = y4 + (1 : Int32) → wX8_head_L30 z1 z2 K62 post n y3 v14 σ12) ∧ (¬ r9 ≤ r11 → ∀ v15 : Int32, v15 = y4 + (1 : Int32) → wX8_head_L30 z1 z2 K62 post n y4 v15 σ12))) σ10) σ))
def wX8_head (x1 : Int32) (post : Int32 → hsS → Prop) (σ : hsS) : Prop := ∀ σ1 : hsS, σ1 = hsI σ 0 (0 : Int32) → ((x1 < (0 : Int32) → wX8_fail (1 : Int32) (fun r3 σ4 => post r3 σ4) σ1) ∧ (¬ x1 < (0 : Int32) → ((x1 ≤ (1 : Int32) → wX8_leastOf  (fun r6 σ7 => ∃ n16, wX8_head_L30 x1 r6 (fun v17 v18 σ19 => ((x1 = (0 : Int32) → post v17 σ19) ∧ (¬ x1 = (0 : Int32) → wX8_greatest v17 (fun r21 σ22 => wX8_greatest r6 (fun r23 σ24 => post (r21 - r23) σ24) σ22) σ19))) post n16 (0 : Int32) (1 : Int32) σ7) σ1) ∧ (¬ x1 ≤ (1 : Int32) → wX8_fail (1 : Int32) (fun r25 σ26 => post r25 σ26) σ1))))
set_option maxHeartbeats 4000000 in
set_option maxRecDepth 100000 in
theorem kcX8_head (l : Launch) (D : va_G) (c : Nat → ClassId) (q : Nat → Nat) (ev : State → Heap → Prop) (hev : evOK (wdA 31 q) ev) (σ : hsS) (x1 : Int32) (post : Int32 → hsS → Prop) (hw : wX8_head x1 post σ) : Met l yX8_head (Cond.code yX8_head cX8_head 5 (some .int) :: tb_L) { frames := 5, cells := 0, slots := 0, locals := 138 } (wdPc D (mw c q) (mwT c) (wdA 31 q) ev σ [.ref (q 0), .int x1]) (va_Qi post (wdB D (mw c q)) (wdA 31 q)) 0 0 (wdA 31 q) := by
  refine Met.ofW (cc := cX8_head) (maxL := 5) (ret := (some .int)) (by decide) rfl ?_
  intro p e s m args below meth c₀ s₁ Bd hml hv
  obtain ⟨rfl, hP, hK, hD0, hE⟩ := hv
  have hx := Bd.exec
  have hb := Bd.bytes
  have hr := Bd.returns
  have hts := atoms_spec (ws := Cond.code yX8_head cX8_head 5 (some .int) :: tb_L) Bd.pre
  have htb : ∀ w ∈ tb_L, w.before [.ref (q 0), .int x1].toArray s = true := fun w h => hts w (List.mem_cons_of_mem _ h)
  have hown : s.vm.findClass RX8 = some m.cls := findClass_of_methodNamed Bd.named
  have hlocks := Bd.notSynchronized
  have hS : va_S (wdA 31 q) s.heap s.heap [] := va_S.rf
  have hD := hD0
  have L30 : ∀ (K62 : Int32 → Int32 → hsS → Prop) (z1 : Int32) (z2 : Int32) (n : Nat) (y3 : Int32) (y4 : Int32) (σ : hsS) (H : Heap) (locs : List Loc) (ls : Array Slot), wX8_head_L30 z1 z2 K62 post n y3 y4 σ → (∀ (y3 : Int32) (y4 : Int32) (σ : hsS) (H : Heap) (locs : List Loc) (ls : Array Slot), K62 y3 y4 σ → va_P D vwCl (mw c q σ) H → va_S (wdA 31 q) s.heap H locs → lv_has ls 5 [(0, .ref (q 0)), (1, .int z1), (2, .int z2), (3, .int y3), (4, .int y4)] → W p l e (headSpec (Cond.code yX8_head cX8_head 5 (some .int) :: tb_L) { frames := 5, cells := 0, slots := 0, locals := 138 }).room s m [.ref (q 0), .int x1].toArray below meth c₀ H locs 0 0 (MQ below (va_Qi post (wdB D (mw c q)) (wdA 31 q)) [.ref (q 0), .int x1].toArray s 0 0 (wdA 31 q)) (F0 m 62 ls [])) → va_P D vwCl (mw c q σ) H → va_S (wdA 31 q) s.heap H locs → lv_has ls 5 [(0, .ref (q 0)), (1, .int z1), (2, .int z2), (3, .int y3), (4, .int y4)] → W p l e (headSpec (Cond.code yX8_head cX8_head 5 (some .int) :: tb_L) { frames := 5, cells := 0, slots := 0, locals := 138 }).room s m [.ref (q 0), .int x1].toArray below meth c₀ H locs 0 0 (MQ below (va_Qi post (wdB D (mw c q)) (wdA 31 q)) [.ref (q 0), .int x1].toArray s 0 0 (wdA 31 q)) (F0 m 30 ls []) := by
    intro K62 z1 z2 n
    induction n with
    | zero =>
      intro y3 y4 σ H locs ls hw hk62 hP hS hl
      exact (show False from hw).elim
    | succ n ih =>
      intro y3 y4 σ H locs ls hw hk62 hP hS hl
      rw [wX8_head_L30] at hw
      have hD : va_D (wdA 31 q) (mw c q σ) := mw_D hD0
      refine lv_iload hx hb dX8_head_30 (lv_at hl 4 rfl) ?_
      refine lv_aload_n hx hb dX8_head_32 rfl (lv_at hl 0 rfl) ?_
      refine va_get (D := D) (ci := 8) (C := RX8) (T := TX8) (N := 57) hx hb htb inX8 hown hK hP 0 (mw_0 c q σ) rfl 25 (by decide) (htb _ tb_1206) (fun _ h9 => h9) rfl dX8_head_33 ?_
      refine lv_icmp_ge (tgt := 62) hx hb dX8_head_36 (by decide) (fun c8 => ?_) (fun c8 => ?_)
      · have hw := hw.1 c8
        exact hk62 y3 y4 σ _ _ _ hw hP hS (lv_sub hl [0, 1, 2, 3, 4] rfl)
      · have hw := hw.2 c8
        refine lv_aload_n hx hb dX8_head_39 rfl (lv_at hl 0 rfl) ?_
        refine lv_iload hx hb dX8_head_40 (lv_at hl 4 rfl) ?_
        refine va_calli (va_runV (As := [.int y4]) (rest := []) ⟨hx, hb, hml, hown, htb⟩ (kcX8_headsOf l D c q ev hev σ y4 _ hw) (tb_CW htb kX8_headsOf tb_1648 tb_1650 tb_82 ⟨Nat.le_of_ble_eq_true rfl, Nat.le_of_ble_eq_true rfl⟩) (wd_preV (wd := mw c q) (k := 0) hev hK hP hD hE hS (mw_0 c q σ) rfl) rfl rfl hl.1 rfl (lv_room (Nat.le_of_ble_eq_true rfl)) dX8_head_42 ⟨Nat.zero_le _, Nat.zero_le _⟩) hS (fun q _ h => h) (fun q h => h) (fun r9 σ10 t H1 locs1 ht hvm hw hB hz1 hk1 hS => ?_)
        have hP : va_P D vwCl (mw c q σ10) H1 := ht ▸ hB
        have hD : va_D (wdA 31 q) (mw c q σ10) := mw_D hD0
        refine lv_aload_n hx hb dX8_head_45 rfl (lv_at hl 0 rfl) ?_
        refine lv_iload_n hx hb dX8_head_46 rfl (lv_at hl 3 rfl) ?_
        refine va_calli (va_runV (As := [.int y3]) (rest := [.int r9]) ⟨hx, hb, hml, hown, htb⟩ (kcX8_headsOf l D c q ev hev σ10 y3 _ hw) (tb_CW htb kX8_headsOf tb_1648 tb_1650 tb_82 ⟨Nat.le_of_ble_eq_true rfl, Nat.le_of_ble_eq_true rfl⟩) (wd_preV (wd := mw c q) (k := 0) hev hK hP hD hE hS (mw_0 c q σ10) rfl) rfl rfl hl.1 rfl (lv_room (Nat.le_of_ble_eq_true rfl)) dX8_head_47 ⟨Nat.zero_le _, Nat.zero_le _⟩) hS (fun q _ h => h) (fun q h => h) (fun r11 σ12 t H1 locs1 ht hvm hw hB hz1 hk1 hS => ?_)
        have hP : va_P D vwCl (mw c q σ12) H1 := ht ▸ hB
        have hD : va_D (wdA 31 q) (mw c q σ12) := mw_D hD0
        refine lv_icmp_le (tgt := 56) hx hb dX8_head_50 (by decide) (fun c13 => ?_) (fun c13 => ?_)
        · have hw := hw.1 c13
          obtain ⟨v14, ev14⟩ : ∃ z : Int32, z = y4 + (1 : Int32) := ⟨_, rfl⟩
          have hw := hw v14 ev14
          refine lv_iinc (v := v14) (lv' := [(4, .int v14), (0, .ref (q 0)), (1, .int z1), (2, .int z2), (3, .int y3)]) hx hb dX8_head_56 hl (k := 4) rfl (by rw [ev14]; rfl) (by decide) rfl (fun ls hl => ?_)
          refine lv_goto (tgt := 30) hx hb dX8_head_59 (by decide) ?_
          exact ih y3 v14 σ12 _ _ _ hw hk62 hP hS (lv_sub hl [1, 2, 3, 4, 0] rfl)
        · have hw := hw.2 c13
          refine lv_iload hx hb dX8_head_53 (lv_at hl 4 rfl) ?_
          refine lv_istore_n (lv' := [(3, .int y4), (0, .ref (q 0)), (1, .int z1), (2, .int z2), (4, .int y4)]) hx hb dX8_head_55 rfl hl (by decide) rfl (fun ls hl => ?_)
          obtain ⟨v15, ev15⟩ : ∃ z : Int32, z = y4 + (1 : Int32) := ⟨_, rfl⟩
          have hw := hw v15 ev15
          refine lv_iinc (v := v15) (lv' := [(4, .int v15), (3, .int y4), (0, .ref (q 0)), (1, .int z1), (2, .int z2)]) hx hb dX8_head_56 hl (k := 4) rfl (by rw [ev15]; rfl) (by decide) rfl (fun ls hl => ?_)
          refine lv_goto (tgt := 30) hx hb dX8_head_59 (by decide) ?_
          exact ih y4 v15 σ12 _ _ _ hw hk62 hP hS (lv_sub hl [2, 3, 4, 1, 0] rfl)
  have hl := lv_entry ([.ref (q 0), .int x1]) (n := 5) (Nat.le_of_ble_eq_true rfl)
  rw [lg_entry_eq]
  generalize (lg_sl ([.ref (q 0), .int x1]) ++ List.replicate (5 - (lg_sl ([.ref (q 0), .int x1])).length) Slot.unset).toArray = ls at hl ⊢
  have hl : lv_has ls 5 [(0, .ref (q 0)), (1, .int x1)] := hl
  unfold wX8_head at hw
  refine lv_aload_n hx hb dX8_head_0 rfl (lv_at hl 0 rfl) ?_
  refine lv_iconst (v := (0 : Int32)) hx hb dX8_head_1 (by decide) ?_
  refine va_put (D := D) (ci := 8) (ty := .int) (C := RX8) (T := TX8) (N := 57) hx hb htb inX8 tyX8 tyX8_ok nmX8 hown hK hP hD hS 0 (mw_0 c q σ) rfl 0 (by decide) (htb _ tb_1181) (fun _ h9 => h9) rfl (by decide +kernel) rfl rfl (Nat.le_of_ble_eq_true rfl) dX8_head_2 (fun H locs hP hD hS => ?_)
  have hP : va_P D vwCl (mw c q (hsI σ 0 (0 : Int32))) H := hP
  obtain ⟨σ1, eσ1⟩ : ∃ z : hsS, z = hsI σ 0 (0 : Int32) := ⟨_, rfl⟩
  rw [← eσ1] at hP
  have hD : va_D (wdA 31 q) (mw c q σ1) := mw_D hD0
  have hw := hw σ1 eσ1
  refine lv_iload_n hx hb dX8_head_5 rfl (lv_at hl 1 rfl) ?_
  refine lv_if_lt (tgt := 14) hx hb dX8_head_6 (by decide) (fun c2 => ?_) (fun c2 => ?_)
  · have hw := hw.1 c2
    refine lv_aload_n hx hb dX8_head_14 rfl (lv_at hl 0 rfl) ?_
    refine lv_iconst (v := (1 : Int32)) hx hb dX8_head_15 (by decide) ?_
    refine va_calli (va_runV (As := [.int (1 : Int32)]) (rest := []) ⟨hx, hb, hml, hown, htb⟩ (kcX8_fail l D c q ev hev σ1 (1 : Int32) _ hw) (tb_CW htb kX8_fail tb_1366 tb_1368 tb_42 ⟨Nat.le_of_ble_eq_true rfl, Nat.le_of_ble_eq_true rfl⟩) (wd_preV (wd := mw c q) (k := 0) hev hK hP hD hE hS (mw_0 c q σ1) rfl) rfl rfl hl.1 rfl (lv_room (Nat.le_of_ble_eq_true rfl)) dX8_head_16 ⟨Nat.zero_le _, Nat.zero_le _⟩) hS (fun q _ h => h) (fun q h => h) (fun r3 σ4 t H1 locs1 ht hvm hw hB hz1 hk1 hS => ?_)
    have hP : va_P D vwCl (mw c q σ4) H1 := ht ▸ hB
    have hD : va_D (wdA 31 q) (mw c q σ4) := mw_D hD0
    exact W.iret hx hb hr (fun t ht hW => ⟨⟨_, σ4, rfl, hw, by unfold wdB; rw [ht]; exact hP⟩, hS.F ht⟩) hS.2.2 dX8_head_19
  · have hw := hw.2 c2
    refine lv_iload_n hx hb dX8_head_9 rfl (lv_at hl 1 rfl) ?_
    refine lv_iconst (v := (1 : Int32)) hx hb dX8_head_10 (by decide) ?_
    refine lv_icmp_le (tgt := 20) hx hb dX8_head_11 (by decide) (fun c5 => ?_) (fun c5 => ?_)
    · have hw := hw.1 c5
      refine lv_aload_n hx hb dX8_head_20 rfl (lv_at hl 0 rfl) ?_
      refine va_calli (va_runV (As := []) (rest := []) ⟨hx, hb, hml, hown, htb⟩ (kcX8_leastOf l D c q ev hev σ1  _ hw) (tb_CW htb kX8_leastOf tb_1640 tb_1642 tb_81 ⟨Nat.le_of_ble_eq_true rfl, Nat.le_of_ble_eq_true rfl⟩) (wd_preV (wd := mw c q) (k := 0) hev hK hP hD hE hS (mw_0 c q σ1) rfl) rfl rfl hl.1 rfl (lv_room (Nat.le_of_ble_eq_true rfl)) dX8_head_21 ⟨Nat.zero_le _, Nat.zero_le _⟩) hS (fun q _ h => h) (fun q h => h) (fun r6 σ7 t H1 locs1 ht hvm hw hB hz1 hk1 hS => ?_)
      have hP : va_P D vwCl (mw c q σ7) H1 := ht ▸ hB
      have hD : va_D (wdA 31 q) (mw c q σ7) := mw_D hD0
      refine lv_istore_n (lv' := [(2, .int r6), (0, .ref (q 0)), (1, .int x1)]) hx hb dX8_head_24 rfl hl (by decide) rfl (fun ls hl => ?_)
      refine lv_iconst (v := (0 : Int32)) hx hb dX8_head_25 (by decide) ?_
      refine lv_istore_n (lv' := [(3, .int (0 : Int32)), (2, .int r6), (0, .ref (q 0)), (1, .int x1)]) hx hb dX8_head_26 rfl hl (by decide) rfl (fun ls hl => ?_)
      refine lv_iconst (v := (1 : Int32)) hx hb dX8_head_27 (by decide) ?_
      refine lv_istore (lv' := [(4, .int (1 : Int32)), (3, .int (0 : Int32)), (2, .int r6), (0, .ref (q 0)), (1, .int x1)]) hx hb dX8_head_28 hl (by decide) rfl (fun ls hl => ?_)
      obtain ⟨n16, hw⟩ := hw
      refine L30 _ x1 r6 n16 (0 : Int32) (1 : Int32) σ7 _ _ _ hw ?_ hP hS (lv_sub hl [3, 4, 2, 1, 0] rfl)
      intro v17 v18 σ19 H locs ls hw hP hS hl
      have hD : va_D (wdA 31 q) (mw c q σ19) := mw_D hD0
      refine lv_iload_n hx hb dX8_head_62 rfl (lv_at hl 1 rfl) ?_
      refine lv_if_ne (tgt := 70) hx hb dX8_head_63 (by decide) (fun c20 => ?_) (fun c20 => ?_)
      · have hw := hw.2 c20
        refine lv_aload_n hx hb dX8_head_70 rfl (lv_at hl 0 rfl) ?_
        refine lv_iload_n hx hb dX8_head_71 rfl (lv_at hl 3 rfl) ?_
        refine va_calli (va_runV (As := [.int v17]) (rest := []) ⟨hx, hb, hml, hown, htb⟩ (kcX8_greatest l D c q ev hev σ19 v17 _ hw) (tb_CW htb kX8_greatest tb_1628 tb_1630 tb_79 ⟨Nat.le_of_ble_eq_true rfl, Nat.le_of_ble_eq_true rfl⟩) (wd_preV (wd := mw c q) (k := 0) hev hK hP hD hE hS (mw_0 c q σ19) rfl) rfl rfl hl.1 rfl (lv_room (Nat.le_of_ble_eq_true rfl)) dX8_head_72 ⟨Nat.zero_le _, Nat.zero_le _⟩) hS (fun q _ h => h) (fun q h => h) (fun r21 σ22 t H1 locs1 ht hvm hw hB hz1 hk1 hS => ?_)
        have hP : va_P D vwCl (mw c q σ22) H1 := ht ▸ hB
        have hD : va_D (wdA 31 q) (mw c q σ22) := mw_D hD0
        refine lv_aload_n hx hb dX8_head_75 rfl (lv_at hl 0 rfl) ?_
        refine lv_iload_n hx hb dX8_head_76 rfl (lv_at hl 2 rfl) ?_
        refine va_calli (va_runV (As := [.int r6]) (rest := [.int r21]) ⟨hx, hb, hml, hown, htb⟩ (kcX8_greatest l D c q ev hev σ22 r6 _ hw) (tb_CW htb kX8_greatest tb_1628 tb_1630 tb_79 ⟨Nat.le_of_ble_eq_true rfl, Nat.le_of_ble_eq_true rfl⟩) (wd_preV (wd := mw c q) (k := 0) hev hK hP hD hE hS (mw_0 c q σ22) rfl) rfl rfl hl.1 rfl (lv_room (Nat.le_of_ble_eq_true rfl)) dX8_head_77 ⟨Nat.zero_le _, Nat.zero_le _⟩) hS (fun q _ h => h) (fun q h => h) (fun r23 σ24 t H1 locs1 ht hvm hw hB hz1 hk1 hS => ?_)
        have hP : va_P D vwCl (mw c q σ24) H1 := ht ▸ hB
        have hD : va_D (wdA 31 q) (mw c q σ24) := mw_D hD0
        refine lv_isub hx hb dX8_head_80 ?_
        exact W.iret hx hb hr (fun t ht hW => ⟨⟨_, σ24, rfl, hw, by unfold wdB; rw [ht]; exact hP⟩, hS.F ht⟩) hS.2.2 dX8_head_81
      · have hw := hw.1 c20
        refine lv_iload_n hx hb dX8_head_66 rfl (lv_at hl 3 rfl) ?_
        refine lv_goto (tgt := 81) hx hb dX8_head_67 (by decide) ?_
        exact W.iret hx hb hr (fun t ht hW => ⟨⟨_, σ19, rfl, hw, by unfold wdB; rw [ht]; exact hP⟩, hS.F ht⟩) hS.2.2 dX8_head_81
    · have hw := hw.2 c5
      refine lv_aload_n hx hb dX8_head_14 rfl (lv_at hl 0 rfl) ?_
      refine lv_iconst (v := (1 : Int32)) hx hb dX8_head_15 (by decide) ?_
      refine va_calli (va_runV (As := [.int (1 : Int32)]) (rest := []) ⟨hx, hb, hml, hown, htb⟩ (kcX8_fail l D c q ev hev σ1 (1 : Int32) _ hw) (tb_CW htb kX8_fail tb_1366 tb_1368 tb_42 ⟨Nat.le_of_ble_eq_true rfl, Nat.le_of_ble_eq_true rfl⟩) (wd_preV (wd := mw c q) (k := 0) hev hK hP hD hE hS (mw_0 c q σ1) rfl) rfl rfl hl.1 rfl (lv_room (Nat.le_of_ble_eq_true rfl)) dX8_head_16 ⟨Nat.zero_le _, Nat.zero_le _⟩) hS (fun q _ h => h) (fun q h => h) (fun r25 σ26 t H1 locs1 ht hvm hw hB hz1 hk1 hS => ?_)
      have hP : va_P D vwCl (mw c q σ26) H1 := ht ▸ hB
      have hD : va_D (wdA 31 q) (mw c q σ26) := mw_D hD0
      exact W.iret hx hb hr (fun t ht hW => ⟨⟨_, σ26, rfl, hw, by unfold wdB; rw [ht]; exact hP⟩, hS.F ht⟩) hS.2.2 dX8_head_19
def wX8_ordersOf_L16 (z1 : Int32) (z3 : Int32) (K63 : Int32 → Int32 → Int32 → hsS → Prop) (post : Int32 → hsS → Prop) : Nat → Int32 → Int32 → Int32 → hsS → Prop
  | 0, _, _, _, _ => False
  | n + 1, y2, y4, y5, σ => (((σ.2.1 1 (0 : Int32).toNatClampNeg) ≤ y5 → K63 y2 y4 y5 σ) ∧ (¬ (σ.2.1 1 (0 : Int32).toNatClampNeg) ≤ y5 → vp_in ((z1 * (10 : Int32)) + y5) 160 ∧ (((σ.2.1 8 ((z1 * (10 : Int32)) + y5).toNatClampNeg) = z3 → ∀ v4 : Int32, v4 = y4 + (1 : Int32) → ∀ v5 : Int32, v5 = (if (y2 * v4) < (241 : Int32) then (y2 * v4) else (241 : Int32)) → ∀ v6 : Int32, v6 = y5 + (1 : Int32) → wX8_ordersOf_L16 z1 z3 K63 post n v5 v4 v6 σ) ∧ (¬ (σ.2.1 8 ((z1 * (10 : Int32)) + y5).toNatClampNeg) = z3 → ∀ v7 : Int32, v7 = y5 + (1 : Int32) → wX8_ordersOf_L16 z1 z3 K63 post n y2 y4 v7 σ))))
def wX8_ordersOf_L4 (z1 : Int32) (K69 : Int32 → Int32 → hsS → Prop) (post : Int32 → hsS → Prop) : Nat → Int32 → Int32 → hsS → Prop
  | 0, _, _, _ => False
  | n + 1, y2, y3, σ => (((22 : Int32) ≤ y3 → K69 y2 y3 σ) ∧ (¬ (22 : Int32) ≤ y3 → ∃ n8, wX8_ordersOf_L16 z1 y3 (fun v9 v10 v11 σ12 => ∀ v13 : Int32, v13 = y3 + (1 : Int32) → wX8_ordersOf_L4 z1 K69 post n v9 v13 σ12) post n8 y2 (0 : Int32) (0 : Int32) σ))
def wX8_ordersOf (x1 : Int32) (post : Int32 → hsS → Prop) (σ : hsS) : Prop := ∃ n14, wX8_ordersOf_L4 x1 (fun v15 v16 σ17 => post v15 σ17) post n14 (1 : Int32) (0 : Int32) σ
set_option maxHeartbeats 4000000 in
set_option maxRecDepth 100000 in
theorem kcX8_ordersOf (l : Launch) (D : va_G) (c : Nat → ClassId) (q : Nat → Nat) (ev : State → Heap → Prop) (hev : evOK (wdA 31 q) ev) (σ : hsS) (x1 : Int32) (post : Int32 → hsS → Prop) (hw : wX8_ordersOf x1 post σ) : Met l yX8_ordersOf (Cond.code yX8_ordersOf cX8_ordersOf 6 (some .int) :: tb_L) { frames := 1, cells := 0, slots := 0, locals := 40 } (wdPc D (mw c q) (mwT c) (wdA 31 q) ev σ [.ref (q 0), .int x1]) (va_Qi post (wdB D (mw c q)) (wdA 31 q)) 0 0 (wdA 31 q) := by
  refine Met.ofW (cc := cX8_ordersOf) (maxL := 6) (ret := (some .int)) (by decide) rfl ?_
  intro p e s m args below meth c₀ s₁ Bd hml hv
  obtain ⟨rfl, hP, hK, hD0, hE⟩ := hv
  have hx := Bd.exec
  have hb := Bd.bytes
  have hr := Bd.returns
  have hts := atoms_spec (ws := Cond.code yX8_ordersOf cX8_ordersOf 6 (some .int) :: tb_L) Bd.pre
  have htb : ∀ w ∈ tb_L, w.before [.ref (q 0), .int x1].toArray s = true := fun w h => hts w (List.mem_cons_of_mem _ h)
  have hown : s.vm.findClass RX8 = some m.cls := findClass_of_methodNamed Bd.named
  have hlocks := Bd.notSynchronized
  have hS : va_S (wdA 31 q) s.heap s.heap [] := va_S.rf
  have hD := hD0
  have L16 : ∀ (K63 : Int32 → Int32 → Int32 → hsS → Prop) (z1 : Int32) (z3 : Int32) (n : Nat) (y2 : Int32) (y4 : Int32) (y5 : Int32) (σ : hsS) (H : Heap) (locs : List Loc) (ls : Array Slot), wX8_ordersOf_L16 z1 z3 K63 post n y2 y4 y5 σ → (∀ (y2 : Int32) (y4 : Int32) (y5 : Int32) (σ : hsS) (H : Heap) (locs : List Loc) (ls : Array Slot), K63 y2 y4 y5 σ → va_P D vwCl (mw c q σ) H → va_S (wdA 31 q) s.heap H locs → lv_has ls 6 [(0, .ref (q 0)), (1, .int z1), (2, .int y2), (3, .int z3), (4, .int y4), (5, .int y5)] → W p l e (headSpec (Cond.code yX8_ordersOf cX8_ordersOf 6 (some .int) :: tb_L) { frames := 1, cells := 0, slots := 0, locals := 40 }).room s m [.ref (q 0), .int x1].toArray below meth c₀ H locs 0 0 (MQ below (va_Qi post (wdB D (mw c q)) (wdA 31 q)) [.ref (q 0), .int x1].toArray s 0 0 (wdA 31 q)) (F0 m 63 ls [])) → va_P D vwCl (mw c q σ) H → va_S (wdA 31 q) s.heap H locs → lv_has ls 6 [(0, .ref (q 0)), (1, .int z1), (2, .int y2), (3, .int z3), (4, .int y4), (5, .int y5)] → W p l e (headSpec (Cond.code yX8_ordersOf cX8_ordersOf 6 (some .int) :: tb_L) { frames := 1, cells := 0, slots := 0, locals := 40 }).room s m [.ref (q 0), .int x1].toArray below meth c₀ H locs 0 0 (MQ below (va_Qi post (wdB D (mw c q)) (wdA 31 q)) [.ref (q 0), .int x1].toArray s 0 0 (wdA 31 q)) (F0 m 16 ls []) := by
    intro K63 z1 z3 n
    induction n with
    | zero =>
      intro y2 y4 y5 σ H locs ls hw hk63 hP hS hl
      exact (show False from hw).elim
    | succ n ih =>
      intro y2 y4 y5 σ H locs ls hw hk63 hP hS hl
      rw [wX8_ordersOf_L16] at hw
      have hD : va_D (wdA 31 q) (mw c q σ) := mw_D hD0
      refine lv_iload hx hb dX8_ordersOf_16 (lv_at hl 5 rfl) ?_
      refine lv_aload_n hx hb dX8_ordersOf_18 rfl (lv_at hl 0 rfl) ?_
      refine va_get (D := D) (ci := 8) (C := RX8) (T := TX8) (N := 57) hx hb htb inX8 hown hK hP 0 (mw_0 c q σ) rfl 1 (by decide) (htb _ tb_1182) (fun _ h9 => h9) rfl dX8_ordersOf_19 ?_
      refine lv_iconst (v := (0 : Int32)) hx hb dX8_ordersOf_22 (by decide) ?_
      refine va_iald hx hb hK hP 1 0 (mw_1 c q σ) rfl (by unfold vp_in; decide) dX8_ordersOf_23 ?_
      refine lv_icmp_ge (tgt := 63) hx hb dX8_ordersOf_24 (by decide) (fun c2 => ?_) (fun c2 => ?_)
      · have hw := hw.1 c2
        exact hk63 y2 y4 y5 σ _ _ _ hw hP hS (lv_sub hl [0, 1, 2, 3, 4, 5] rfl)
      · have hw := hw.2 c2
        refine lv_aload_n hx hb dX8_ordersOf_27 rfl (lv_at hl 0 rfl) ?_
        refine va_get (D := D) (ci := 8) (C := RX8) (T := TX8) (N := 57) hx hb htb inX8 hown hK hP 0 (mw_0 c q σ) rfl 8 (by decide) (htb _ tb_1189) (fun _ h9 => h9) rfl dX8_ordersOf_28 ?_
        refine lv_iload_n hx hb dX8_ordersOf_31 rfl (lv_at hl 1 rfl) ?_
        refine lv_bipush (v := (10 : Int32)) hx hb dX8_ordersOf_32 (by decide) ?_
        refine lv_imul hx hb dX8_ordersOf_34 ?_
        refine lv_iload hx hb dX8_ordersOf_35 (lv_at hl 5 rfl) ?_
        refine lv_iadd hx hb dX8_ordersOf_37 ?_
        refine va_iald hx hb hK hP 8 7 (mw_8 c q σ) rfl hw.1 dX8_ordersOf_38 ?_
        have hw := hw.2
        refine lv_iload_n hx hb dX8_ordersOf_39 rfl (lv_at hl 3 rfl) ?_
        refine lv_icmp_ne (tgt := 57) hx hb dX8_ordersOf_40 (by decide) (fun c3 => ?_) (fun c3 => ?_)
        · have hw := hw.2 c3
          obtain ⟨v7, ev7⟩ : ∃ z : Int32, z = y5 + (1 : Int32) := ⟨_, rfl⟩
          have hw := hw v7 ev7
          refine lv_iinc (v := v7) (lv' := [(5, .int v7), (0, .ref (q 0)), (1, .int z1), (2, .int y2), (3, .int z3), (4, .int y4)]) hx hb dX8_ordersOf_57 hl (k := 5) rfl (by rw [ev7]; rfl) (by decide) rfl (fun ls hl => ?_)
          refine lv_goto (tgt := 16) hx hb dX8_ordersOf_60 (by decide) ?_
          exact ih y2 y4 v7 σ _ _ _ hw hk63 hP hS (lv_sub hl [1, 2, 3, 4, 5, 0] rfl)
        · have hw := hw.1 c3
          obtain ⟨v4, ev4⟩ : ∃ z : Int32, z = y4 + (1 : Int32) := ⟨_, rfl⟩
          have hw := hw v4 ev4
          refine lv_iinc (v := v4) (lv' := [(4, .int v4), (0, .ref (q 0)), (1, .int z1), (2, .int y2), (3, .int z3), (5, .int y5)]) hx hb dX8_ordersOf_43 hl (k := 4) rfl (by rw [ev4]; rfl) (by decide) rfl (fun ls hl => ?_)
          refine lv_sipush (v := (241 : Int32)) hx hb dX8_ordersOf_46 (by decide) ?_
          refine lv_iload_n hx hb dX8_ordersOf_49 rfl (lv_at hl 3 rfl) ?_
          refine lv_iload hx hb dX8_ordersOf_50 (lv_at hl 0 rfl) ?_
          refine lv_imul hx hb dX8_ordersOf_52 ?_
          refine va_mmin hx hb (hml.trans hl.1.symm) hown (htb _ tb_1384) (htb _ tb_413) (htb _ tb_104) (htb _ tb_414) (Nat.le_of_ble_eq_true rfl) (Nat.le_of_ble_eq_true rfl) (Nat.zero_le _) (Nat.zero_le _) dX8_ordersOf_53 ?_
          refine lv_topi (fun v5 ev5 => ?_)
          have hw := hw v5 ev5
          refine lv_istore_n (lv' := [(2, .int v5), (4, .int v4), (0, .ref (q 0)), (1, .int z1), (3, .int z3), (5, .int y5)]) hx hb dX8_ordersOf_56 rfl hl (by decide) rfl (fun ls hl => ?_)
          obtain ⟨v6, ev6⟩ : ∃ z : Int32, z = y5 + (1 : Int32) := ⟨_, rfl⟩
          have hw := hw v6 ev6
          refine lv_iinc (v := v6) (lv' := [(5, .int v6), (2, .int v5), (4, .int v4), (0, .ref (q 0)), (1, .int z1), (3, .int z3)]) hx hb dX8_ordersOf_57 hl (k := 5) rfl (by rw [ev6]; rfl) (by decide) rfl (fun ls hl => ?_)
          refine lv_goto (tgt := 16) hx hb dX8_ordersOf_60 (by decide) ?_
          exact ih v5 v4 v6 σ _ _ _ hw hk63 hP hS (lv_sub hl [3, 4, 1, 5, 2, 0] rfl)
  have L4 : ∀ (K69 : Int32 → Int32 → hsS → Prop) (z1 : Int32) (n : Nat) (y2 : Int32) (y3 : Int32) (σ : hsS) (H : Heap) (locs : List Loc) (ls : Array Slot), wX8_ordersOf_L4 z1 K69 post n y2 y3 σ → (∀ (y2 : Int32) (y3 : Int32) (σ : hsS) (H : Heap) (locs : List Loc) (ls : Array Slot), K69 y2 y3 σ → va_P D vwCl (mw c q σ) H → va_S (wdA 31 q) s.heap H locs → lv_has ls 6 [(0, .ref (q 0)), (1, .int z1), (2, .int y2), (3, .int y3)] → W p l e (headSpec (Cond.code yX8_ordersOf cX8_ordersOf 6 (some .int) :: tb_L) { frames := 1, cells := 0, slots := 0, locals := 40 }).room s m [.ref (q 0), .int x1].toArray below meth c₀ H locs 0 0 (MQ below (va_Qi post (wdB D (mw c q)) (wdA 31 q)) [.ref (q 0), .int x1].toArray s 0 0 (wdA 31 q)) (F0 m 69 ls [])) → va_P D vwCl (mw c q σ) H → va_S (wdA 31 q) s.heap H locs → lv_has ls 6 [(0, .ref (q 0)), (1, .int z1), (2, .int y2), (3, .int y3)] → W p l e (headSpec (Cond.code yX8_ordersOf cX8_ordersOf 6 (some .int) :: tb_L) { frames := 1, cells := 0, slots := 0, locals := 40 }).room s m [.ref (q 0), .int x1].toArray below meth c₀ H locs 0 0 (MQ below (va_Qi post (wdB D (mw c q)) (wdA 31 q)) [.ref (q 0), .int x1].toArray s 0 0 (wdA 31 q)) (F0 m 4 ls []) := by
    intro K69 z1 n
    induction n with
    | zero =>
      intro y2 y3 σ H locs ls hw hk69 hP hS hl
      exact (show False from hw).elim
    | succ n ih =>
      intro y2 y3 σ H locs ls hw hk69 hP hS hl
      rw [wX8_ordersOf_L4] at hw
      have hD : va_D (wdA 31 q) (mw c q σ) := mw_D hD0
      refine lv_iload_n hx hb dX8_ordersOf_4 rfl (lv_at hl 3 rfl) ?_
      refine lv_bipush (v := (22 : Int32)) hx hb dX8_ordersOf_5 (by decide) ?_
      refine lv_icmp_ge (tgt := 69) hx hb dX8_ordersOf_7 (by decide) (fun c1 => ?_) (fun c1 => ?_)
      · have hw := hw.1 c1
        exact hk69 y2 y3 σ _ _ _ hw hP hS (lv_sub hl [0, 1, 2, 3] rfl)
      · have hw := hw.2 c1
        refine lv_iconst (v := (0 : Int32)) hx hb dX8_ordersOf_10 (by decide) ?_
        refine lv_istore (lv' := [(4, .int (0 : Int32)), (0, .ref (q 0)), (1, .int z1), (2, .int y2), (3, .int y3)]) hx hb dX8_ordersOf_11 hl (by decide) rfl (fun ls hl => ?_)
        refine lv_iconst (v := (0 : Int32)) hx hb dX8_ordersOf_13 (by decide) ?_
        refine lv_istore (lv' := [(5, .int (0 : Int32)), (4, .int (0 : Int32)), (0, .ref (q 0)), (1, .int z1), (2, .int y2), (3, .int y3)]) hx hb dX8_ordersOf_14 hl (by decide) rfl (fun ls hl => ?_)
        obtain ⟨n8, hw⟩ := hw
        refine L16 _ z1 y3 n8 y2 (0 : Int32) (0 : Int32) σ _ _ _ hw ?_ hP hS (lv_sub hl [2, 3, 4, 5, 1, 0] rfl)
        intro v9 v10 v11 σ12 H locs ls hw hP hS hl
        have hD : va_D (wdA 31 q) (mw c q σ12) := mw_D hD0
        obtain ⟨v13, ev13⟩ : ∃ z : Int32, z = y3 + (1 : Int32) := ⟨_, rfl⟩
        have hw := hw v13 ev13
        refine lv_iinc (v := v13) (lv' := [(3, .int v13), (0, .ref (q 0)), (1, .int z1), (2, .int v9), (4, .int v10), (5, .int v11)]) hx hb dX8_ordersOf_63 hl (k := 3) rfl (by rw [ev13]; rfl) (by decide) rfl (fun ls hl => ?_)
        refine lv_goto (tgt := 4) hx hb dX8_ordersOf_66 (by decide) ?_
        exact ih v9 v13 σ12 _ _ _ hw hk69 hP hS (lv_sub hl [1, 2, 3, 0] rfl)
  have hl := lv_entry ([.ref (q 0), .int x1]) (n := 6) (Nat.le_of_ble_eq_true rfl)
  rw [lg_entry_eq]
  generalize (lg_sl ([.ref (q 0), .int x1]) ++ List.replicate (6 - (lg_sl ([.ref (q 0), .int x1])).length) Slot.unset).toArray = ls at hl ⊢
  have hl : lv_has ls 6 [(0, .ref (q 0)), (1, .int x1)] := hl
  unfold wX8_ordersOf at hw
  refine lv_iconst (v := (1 : Int32)) hx hb dX8_ordersOf_0 (by decide) ?_
  refine lv_istore_n (lv' := [(2, .int (1 : Int32)), (0, .ref (q 0)), (1, .int x1)]) hx hb dX8_ordersOf_1 rfl hl (by decide) rfl (fun ls hl => ?_)
  refine lv_iconst (v := (0 : Int32)) hx hb dX8_ordersOf_2 (by decide) ?_
  refine lv_istore_n (lv' := [(3, .int (0 : Int32)), (2, .int (1 : Int32)), (0, .ref (q 0)), (1, .int x1)]) hx hb dX8_ordersOf_3 rfl hl (by decide) rfl (fun ls hl => ?_)
  obtain ⟨n14, hw⟩ := hw
  refine L4 _ x1 n14 (1 : Int32) (0 : Int32) σ _ _ _ hw ?_ hP hS (lv_sub hl [2, 3, 1, 0] rfl)
  intro v15 v16 σ17 H locs ls hw hP hS hl
  have hD : va_D (wdA 31 q) (mw c q σ17) := mw_D hD0
  refine lv_iload_n hx hb dX8_ordersOf_69 rfl (lv_at hl 2 rfl) ?_
  exact W.iret hx hb hr (fun t ht hW => ⟨⟨_, σ17, rfl, hw, by unfold wdB; rw [ht]; exact hP⟩, hS.F ht⟩) hS.2.2 dX8_ordersOf_70
def wX8_lookOrder_L27 (z1 : Int32) (z2 : Int32) (z3 : Int32) (z4 : Int32) (z5 : Int32) (z6 : Int32) (K74 : Int32 → Int32 → hsS → Prop) (post : hsS → Prop) : Nat → Int32 → Int32 → hsS → Prop
  | 0, _, _, _ => False
  | n + 1, y7, y8, σ => (((σ.2.1 1 (0 : Int32).toNatClampNeg) ≤ y8 → K74 y7 y8 σ) ∧ (¬ (σ.2.1 1 (0 : Int32).toNatClampNeg) ≤ y8 → vp_in (z4 + y8) 160 ∧ (((σ.2.1 8 (z4 + y8).toNatClampNeg) = z6 → vp_in y7 10 ∧ ∀ σ5 : hsS, σ5 = hsA σ 26 (upd (σ.2.1 26) y7.toNatClampNeg y8) → ∀ v6 : Int32, v6 = y7 + (1 : Int32) → ∀ v7 : Int32, v7 = y8 + (1 : Int32) → wX8_lookOrder_L27 z1 z2 z3 z4 z5 z6 K74 post n v6 v7 σ5) ∧ (¬ (σ.2.1 8 (z4 + y8).toNatClampNeg) = z6 → ∀ v8 : Int32, v8 = y8 + (1 : Int32) → wX8_lookOrder_L27 z1 z2 z3 z4 z5 z6 K74 post n y7 v8 σ))))
def wX8_lookOrder_L118 (z1 : Int32) (z2 : Int32) (z3 : Int32) (z4 : Int32) (z5 : Int32) (z6 : Int32) (z7 : Int32) (z8 : Int32) (z9 : Int32) (K149 : Int32 → hsS → Prop) (post : hsS → Prop) : Nat → Int32 → hsS → Prop
  | 0, _, _ => False
  | n + 1, y10, σ => (((z8 - (1 : Int32)) ≤ y10 → K149 y10 σ) ∧ (¬ (z8 - (1 : Int32)) ≤ y10 → vp_in (y10 + (1 : Int32)) 10 ∧ vp_in y10 10 ∧ ∀ σ19 : hsS, σ19 = hsA σ 26 (upd (σ.2.1 26) y10.toNatClampNeg (σ.2.1 26 (y10 + (1 : Int32)).toNatClampNeg)) → ∀ v20 : Int32, v20 = y10 + (1 : Int32) → wX8_lookOrder_L118 z1 z2 z3 z4 z5 z6 z7 z8 z9 K149 post n v20 σ19))
def wX8_lookOrder_L78 (z1 : Int32) (z2 : Int32) (z4 : Int32) (z6 : Int32) (z7 : Int32) (K155 : Int32 → Int32 → Int32 → hsS → Prop) (post : hsS → Prop) : Nat → Int32 → Int32 → Int32 → hsS → Prop
  | 0, _, _, _, _ => False
  | n + 1, y3, y5, y8, σ => ((y8 ≤ (0 : Int32) → K155 y3 y5 y8 σ) ∧ (¬ y8 ≤ (0 : Int32) → ¬ y8 = 0 ∧ ∀ v14 : Int32, v14 = y3 - y3 / y8 * y8 → ¬ y8 = 0 ∧ ∀ v15 : Int32, v15 = y3 / y8 → vp_in v14 10 ∧ vp_in (z4 + (σ.2.1 26 v14.toNatClampNeg)) 80 ∧ ∀ σ16 : hsS, σ16 = hsA σ 13 (upd (σ.2.1 13) (z4 + (σ.2.1 26 v14.toNatClampNeg)).toNatClampNeg y5) → ∀ v17 : Int32, v17 = y5 + (1 : Int32) → ∃ n21, wX8_lookOrder_L118 z1 z2 v15 z4 v17 z6 z7 y8 v14 (fun v22 σ23 => ∀ v24 : Int32, v24 = y8 + (-1 : Int32) → wX8_lookOrder_L78 z1 z2 z4 z6 z7 K155 post n v15 v17 v24 σ23) post n21 v14 σ16))
def wX8_lookOrder_L14 (z1 : Int32) (z2 : Int32) (z4 : Int32) (K161 : Int32 → Int32 → Int32 → hsS → Prop) (post : hsS → Prop) : Nat → Int32 → Int32 → Int32 → hsS → Prop
  | 0, _, _, _, _ => False
  | n + 1, y3, y5, y6, σ => (((22 : Int32) ≤ y6 → K161 y3 y5 y6 σ) ∧ (¬ (22 : Int32) ≤ y6 → ∃ n9, wX8_lookOrder_L27 z1 z2 y3 z4 y5 y6 (fun v10 v11 σ12 => ∃ n25, wX8_lookOrder_L78 z1 z2 z4 y6 v10 (fun v26 v27 v28 σ29 => ∀ v30 : Int32, v30 = y6 + (1 : Int32) → wX8_lookOrder_L14 z1 z2 z4 K161 post n v26 v27 v30 σ29) post n25 y3 y5 v10 σ12) post n9 (0 : Int32) (0 : Int32) σ))
def wX8_lookOrder (x1 : Int32) (x2 : Int32) (post : hsS → Prop) (σ : hsS) : Prop := ∀ v1 : Int32, v1 = x1 * (10 : Int32) → ∃ n31, wX8_lookOrder_L14 x1 x2 v1 (fun v32 v33 v34 σ35 => post σ35) post n31 x2 (0 : Int32) (0 : Int32) σ
set_option maxHeartbeats 4000000 in
set_option maxRecDepth 100000 in
theorem kcX8_lookOrder (l : Launch) (D : va_G) (c : Nat → ClassId) (q : Nat → Nat) (ev : State → Heap → Prop) (hev : evOK (wdA 31 q) ev) (σ : hsS) (x1 : Int32) (x2 : Int32) (post : hsS → Prop) (hw : wX8_lookOrder x1 x2 post σ) : Met l yX8_lookOrder (Cond.code yX8_lookOrder cX8_lookOrder 11 none :: tb_L) { frames := 0, cells := 0, slots := 0, locals := 0 } (wdPc D (mw c q) (mwT c) (wdA 31 q) ev σ [.ref (q 0), .int x1, .int x2]) (va_Qv post (wdB D (mw c q)) (wdA 31 q)) 0 0 (wdA 31 q) := by
  refine Met.ofW (cc := cX8_lookOrder) (maxL := 11) (ret := none) (by decide) rfl ?_
  intro p e s m args below meth c₀ s₁ Bd hml hv
  obtain ⟨rfl, hP, hK, hD0, hE⟩ := hv
  have hx := Bd.exec
  have hb := Bd.bytes
  have hr := Bd.returns
  have hts := atoms_spec (ws := Cond.code yX8_lookOrder cX8_lookOrder 11 none :: tb_L) Bd.pre
  have htb : ∀ w ∈ tb_L, w.before [.ref (q 0), .int x1, .int x2].toArray s = true := fun w h => hts w (List.mem_cons_of_mem _ h)
  have hown : s.vm.findClass RX8 = some m.cls := findClass_of_methodNamed Bd.named
  have hlocks := Bd.notSynchronized
  have hS : va_S (wdA 31 q) s.heap s.heap [] := va_S.rf
  have hD := hD0
  have L27 : ∀ (K74 : Int32 → Int32 → hsS → Prop) (z1 : Int32) (z2 : Int32) (z3 : Int32) (z4 : Int32) (z5 : Int32) (z6 : Int32) (n : Nat) (y7 : Int32) (y8 : Int32) (σ : hsS) (H : Heap) (locs : List Loc) (ls : Array Slot), wX8_lookOrder_L27 z1 z2 z3 z4 z5 z6 K74 post n y7 y8 σ → (∀ (y7 : Int32) (y8 : Int32) (σ : hsS) (H : Heap) (locs : List Loc) (ls : Array Slot), K74 y7 y8 σ → va_P D vwCl (mw c q σ) H → va_S (wdA 31 q) s.heap H locs → lv_has ls 11 [(0, .ref (q 0)), (1, .int z1), (2, .int z2), (3, .int z3), (4, .int z4), (5, .int z5), (6, .int z6), (7, .int y7), (8, .int y8)] → W p l e (headSpec (Cond.code yX8_lookOrder cX8_lookOrder 11 none :: tb_L) { frames := 0, cells := 0, slots := 0, locals := 0 }).room s m [.ref (q 0), .int x1, .int x2].toArray below meth c₀ H locs 0 0 (MQ below (va_Qv post (wdB D (mw c q)) (wdA 31 q)) [.ref (q 0), .int x1, .int x2].toArray s 0 0 (wdA 31 q)) (F0 m 74 ls [])) → va_P D vwCl (mw c q σ) H → va_S (wdA 31 q) s.heap H locs → lv_has ls 11 [(0, .ref (q 0)), (1, .int z1), (2, .int z2), (3, .int z3), (4, .int z4), (5, .int z5), (6, .int z6), (7, .int y7), (8, .int y8)] → W p l e (headSpec (Cond.code yX8_lookOrder cX8_lookOrder 11 none :: tb_L) { frames := 0, cells := 0, slots := 0, locals := 0 }).room s m [.ref (q 0), .int x1, .int x2].toArray below meth c₀ H locs 0 0 (MQ below (va_Qv post (wdB D (mw c q)) (wdA 31 q)) [.ref (q 0), .int x1, .int x2].toArray s 0 0 (wdA 31 q)) (F0 m 27 ls []) := by
    intro K74 z1 z2 z3 z4 z5 z6 n
    induction n with
    | zero =>
      intro y7 y8 σ H locs ls hw hk74 hP hS hl
      exact (show False from hw).elim
    | succ n ih =>
      intro y7 y8 σ H locs ls hw hk74 hP hS hl
      rw [wX8_lookOrder_L27] at hw
      have hD : va_D (wdA 31 q) (mw c q σ) := mw_D hD0
      refine lv_iload hx hb dX8_lookOrder_27 (lv_at hl 8 rfl) ?_
      refine lv_aload_n hx hb dX8_lookOrder_29 rfl (lv_at hl 0 rfl) ?_
      refine va_get (D := D) (ci := 8) (C := RX8) (T := TX8) (N := 57) hx hb htb inX8 hown hK hP 0 (mw_0 c q σ) rfl 1 (by decide) (htb _ tb_1182) (fun _ h9 => h9) rfl dX8_lookOrder_30 ?_
      refine lv_iconst (v := (0 : Int32)) hx hb dX8_lookOrder_33 (by decide) ?_
      refine va_iald hx hb hK hP 1 0 (mw_1 c q σ) rfl (by unfold vp_in; decide) dX8_lookOrder_34 ?_
      refine lv_icmp_ge (tgt := 74) hx hb dX8_lookOrder_35 (by decide) (fun c3 => ?_) (fun c3 => ?_)
      · have hw := hw.1 c3
        exact hk74 y7 y8 σ _ _ _ hw hP hS (lv_sub hl [0, 1, 2, 3, 4, 5, 6, 7, 8] rfl)
      · have hw := hw.2 c3
        refine lv_aload_n hx hb dX8_lookOrder_38 rfl (lv_at hl 0 rfl) ?_
        refine va_get (D := D) (ci := 8) (C := RX8) (T := TX8) (N := 57) hx hb htb inX8 hown hK hP 0 (mw_0 c q σ) rfl 8 (by decide) (htb _ tb_1189) (fun _ h9 => h9) rfl dX8_lookOrder_39 ?_
        refine lv_iload hx hb dX8_lookOrder_42 (lv_at hl 4 rfl) ?_
        refine lv_iload hx hb dX8_lookOrder_44 (lv_at hl 8 rfl) ?_
        refine lv_iadd hx hb dX8_lookOrder_46 ?_
        refine va_iald hx hb hK hP 8 7 (mw_8 c q σ) rfl hw.1 dX8_lookOrder_47 ?_
        have hw := hw.2
        refine lv_iload hx hb dX8_lookOrder_48 (lv_at hl 6 rfl) ?_
        refine lv_icmp_eq (tgt := 56) hx hb dX8_lookOrder_50 (by decide) (fun c4 => ?_) (fun c4 => ?_)
        · have hw := hw.1 c4
          refine lv_aload_n hx hb dX8_lookOrder_56 rfl (lv_at hl 0 rfl) ?_
          refine va_get (D := D) (ci := 8) (C := RX8) (T := TX8) (N := 57) hx hb htb inX8 hown hK hP 0 (mw_0 c q σ) rfl 46 (by decide) (htb _ tb_1227) (fun _ h9 => h9) rfl dX8_lookOrder_57 ?_
          refine lv_iload hx hb dX8_lookOrder_60 (lv_at hl 7 rfl) ?_
          refine lv_iload hx hb dX8_lookOrder_62 (lv_at hl 8 rfl) ?_
          refine va_iast hx hb hK hP hD hS 26 25 (mw_26 c q σ) rfl hw.1 dX8_lookOrder_64 (fun H locs hP hD hS => ?_)
          have hw := hw.2
          have hP : va_P D vwCl (mw c q (hsA σ 26 (upd (σ.2.1 26) y7.toNatClampNeg y8))) H := hP
          obtain ⟨σ5, eσ5⟩ : ∃ z : hsS, z = hsA σ 26 (upd (σ.2.1 26) y7.toNatClampNeg y8) := ⟨_, rfl⟩
          rw [← eσ5] at hP
          have hD : va_D (wdA 31 q) (mw c q σ5) := mw_D hD0
          have hw := hw σ5 eσ5
          obtain ⟨v6, ev6⟩ : ∃ z : Int32, z = y7 + (1 : Int32) := ⟨_, rfl⟩
          have hw := hw v6 ev6
          refine lv_iinc (v := v6) (lv' := [(7, .int v6), (0, .ref (q 0)), (1, .int z1), (2, .int z2), (3, .int z3), (4, .int z4), (5, .int z5), (6, .int z6), (8, .int y8)]) hx hb dX8_lookOrder_65 hl (k := 7) rfl (by rw [ev6]; rfl) (by decide) rfl (fun ls hl => ?_)
          obtain ⟨v7, ev7⟩ : ∃ z : Int32, z = y8 + (1 : Int32) := ⟨_, rfl⟩
          have hw := hw v7 ev7
          refine lv_iinc (v := v7) (lv' := [(8, .int v7), (7, .int v6), (0, .ref (q 0)), (1, .int z1), (2, .int z2), (3, .int z3), (4, .int z4), (5, .int z5), (6, .int z6)]) hx hb dX8_lookOrder_68 hl (k := 8) rfl (by rw [ev7]; rfl) (by decide) rfl (fun ls hl => ?_)
          refine lv_goto (tgt := 27) hx hb dX8_lookOrder_71 (by decide) ?_
          exact ih v6 v7 σ5 _ _ _ hw hk74 hP hS (lv_sub hl [2, 3, 4, 5, 6, 7, 8, 1, 0] rfl)
        · have hw := hw.2 c4
          refine lv_goto (tgt := 68) hx hb dX8_lookOrder_53 (by decide) ?_
          obtain ⟨v8, ev8⟩ : ∃ z : Int32, z = y8 + (1 : Int32) := ⟨_, rfl⟩
          have hw := hw v8 ev8
          refine lv_iinc (v := v8) (lv' := [(8, .int v8), (0, .ref (q 0)), (1, .int z1), (2, .int z2), (3, .int z3), (4, .int z4), (5, .int z5), (6, .int z6), (7, .int y7)]) hx hb dX8_lookOrder_68 hl (k := 8) rfl (by rw [ev8]; rfl) (by decide) rfl (fun ls hl => ?_)
          refine lv_goto (tgt := 27) hx hb dX8_lookOrder_71 (by decide) ?_
          exact ih y7 v8 σ _ _ _ hw hk74 hP hS (lv_sub hl [1, 2, 3, 4, 5, 6, 7, 8, 0] rfl)
  have L118 : ∀ (K149 : Int32 → hsS → Prop) (z1 : Int32) (z2 : Int32) (z3 : Int32) (z4 : Int32) (z5 : Int32) (z6 : Int32) (z7 : Int32) (z8 : Int32) (z9 : Int32) (n : Nat) (y10 : Int32) (σ : hsS) (H : Heap) (locs : List Loc) (ls : Array Slot), wX8_lookOrder_L118 z1 z2 z3 z4 z5 z6 z7 z8 z9 K149 post n y10 σ → (∀ (y10 : Int32) (σ : hsS) (H : Heap) (locs : List Loc) (ls : Array Slot), K149 y10 σ → va_P D vwCl (mw c q σ) H → va_S (wdA 31 q) s.heap H locs → lv_has ls 11 [(0, .ref (q 0)), (1, .int z1), (2, .int z2), (3, .int z3), (4, .int z4), (5, .int z5), (6, .int z6), (7, .int z7), (8, .int z8), (9, .int z9), (10, .int y10)] → W p l e (headSpec (Cond.code yX8_lookOrder cX8_lookOrder 11 none :: tb_L) { frames := 0, cells := 0, slots := 0, locals := 0 }).room s m [.ref (q 0), .int x1, .int x2].toArray below meth c₀ H locs 0 0 (MQ below (va_Qv post (wdB D (mw c q)) (wdA 31 q)) [.ref (q 0), .int x1, .int x2].toArray s 0 0 (wdA 31 q)) (F0 m 149 ls [])) → va_P D vwCl (mw c q σ) H → va_S (wdA 31 q) s.heap H locs → lv_has ls 11 [(0, .ref (q 0)), (1, .int z1), (2, .int z2), (3, .int z3), (4, .int z4), (5, .int z5), (6, .int z6), (7, .int z7), (8, .int z8), (9, .int z9), (10, .int y10)] → W p l e (headSpec (Cond.code yX8_lookOrder cX8_lookOrder 11 none :: tb_L) { frames := 0, cells := 0, slots := 0, locals := 0 }).room s m [.ref (q 0), .int x1, .int x2].toArray below meth c₀ H locs 0 0 (MQ below (va_Qv post (wdB D (mw c q)) (wdA 31 q)) [.ref (q 0), .int x1, .int x2].toArray s 0 0 (wdA 31 q)) (F0 m 118 ls []) := by
    intro K149 z1 z2 z3 z4 z5 z6 z7 z8 z9 n
    induction n with
    | zero =>
      intro y10 σ H locs ls hw hk149 hP hS hl
      exact (show False from hw).elim
    | succ n ih =>
      intro y10 σ H locs ls hw hk149 hP hS hl
      rw [wX8_lookOrder_L118] at hw
      have hD : va_D (wdA 31 q) (mw c q σ) := mw_D hD0
      refine lv_iload hx hb dX8_lookOrder_118 (lv_at hl 10 rfl) ?_
      refine lv_iload hx hb dX8_lookOrder_120 (lv_at hl 8 rfl) ?_
      refine lv_iconst (v := (1 : Int32)) hx hb dX8_lookOrder_122 (by decide) ?_
      refine lv_isub hx hb dX8_lookOrder_123 ?_
      refine lv_icmp_ge (tgt := 149) hx hb dX8_lookOrder_124 (by decide) (fun c18 => ?_) (fun c18 => ?_)
      · have hw := hw.1 c18
        exact hk149 y10 σ _ _ _ hw hP hS (lv_sub hl [0, 1, 2, 3, 4, 5, 6, 7, 8, 9, 10] rfl)
      · have hw := hw.2 c18
        refine lv_aload_n hx hb dX8_lookOrder_127 rfl (lv_at hl 0 rfl) ?_
        refine va_get (D := D) (ci := 8) (C := RX8) (T := TX8) (N := 57) hx hb htb inX8 hown hK hP 0 (mw_0 c q σ) rfl 46 (by decide) (htb _ tb_1227) (fun _ h9 => h9) rfl dX8_lookOrder_128 ?_
        refine lv_iload hx hb dX8_lookOrder_131 (lv_at hl 10 rfl) ?_
        refine lv_aload_n hx hb dX8_lookOrder_133 rfl (lv_at hl 0 rfl) ?_
        refine va_get (D := D) (ci := 8) (C := RX8) (T := TX8) (N := 57) hx hb htb inX8 hown hK hP 0 (mw_0 c q σ) rfl 46 (by decide) (htb _ tb_1227) (fun _ h9 => h9) rfl dX8_lookOrder_134 ?_
        refine lv_iload hx hb dX8_lookOrder_137 (lv_at hl 10 rfl) ?_
        refine lv_iconst (v := (1 : Int32)) hx hb dX8_lookOrder_139 (by decide) ?_
        refine lv_iadd hx hb dX8_lookOrder_140 ?_
        refine va_iald hx hb hK hP 26 25 (mw_26 c q σ) rfl hw.1 dX8_lookOrder_141 ?_
        have hw := hw.2
        refine va_iast hx hb hK hP hD hS 26 25 (mw_26 c q σ) rfl hw.1 dX8_lookOrder_142 (fun H locs hP hD hS => ?_)
        have hw := hw.2
        have hP : va_P D vwCl (mw c q (hsA σ 26 (upd (σ.2.1 26) y10.toNatClampNeg (σ.2.1 26 (y10 + (1 : Int32)).toNatClampNeg)))) H := hP
        obtain ⟨σ19, eσ19⟩ : ∃ z : hsS, z = hsA σ 26 (upd (σ.2.1 26) y10.toNatClampNeg (σ.2.1 26 (y10 + (1 : Int32)).toNatClampNeg)) := ⟨_, rfl⟩
        rw [← eσ19] at hP
        have hD : va_D (wdA 31 q) (mw c q σ19) := mw_D hD0
        have hw := hw σ19 eσ19
        obtain ⟨v20, ev20⟩ : ∃ z : Int32, z = y10 + (1 : Int32) := ⟨_, rfl⟩
        have hw := hw v20 ev20
        refine lv_iinc (v := v20) (lv' := [(10, .int v20), (0, .ref (q 0)), (1, .int z1), (2, .int z2), (3, .int z3), (4, .int z4), (5, .int z5), (6, .int z6), (7, .int z7), (8, .int z8), (9, .int z9)]) hx hb dX8_lookOrder_143 hl (k := 10) rfl (by rw [ev20]; rfl) (by decide) rfl (fun ls hl => ?_)
        refine lv_goto (tgt := 118) hx hb dX8_lookOrder_146 (by decide) ?_
        exact ih v20 σ19 _ _ _ hw hk149 hP hS (lv_sub hl [1, 2, 3, 4, 5, 6, 7, 8, 9, 10, 0] rfl)
  have L78 : ∀ (K155 : Int32 → Int32 → Int32 → hsS → Prop) (z1 : Int32) (z2 : Int32) (z4 : Int32) (z6 : Int32) (z7 : Int32) (n : Nat) (y3 : Int32) (y5 : Int32) (y8 : Int32) (σ : hsS) (H : Heap) (locs : List Loc) (ls : Array Slot), wX8_lookOrder_L78 z1 z2 z4 z6 z7 K155 post n y3 y5 y8 σ → (∀ (y3 : Int32) (y5 : Int32) (y8 : Int32) (σ : hsS) (H : Heap) (locs : List Loc) (ls : Array Slot), K155 y3 y5 y8 σ → va_P D vwCl (mw c q σ) H → va_S (wdA 31 q) s.heap H locs → lv_has ls 11 [(0, .ref (q 0)), (1, .int z1), (2, .int z2), (3, .int y3), (4, .int z4), (5, .int y5), (6, .int z6), (7, .int z7), (8, .int y8)] → W p l e (headSpec (Cond.code yX8_lookOrder cX8_lookOrder 11 none :: tb_L) { frames := 0, cells := 0, slots := 0, locals := 0 }).room s m [.ref (q 0), .int x1, .int x2].toArray below meth c₀ H locs 0 0 (MQ below (va_Qv post (wdB D (mw c q)) (wdA 31 q)) [.ref (q 0), .int x1, .int x2].toArray s 0 0 (wdA 31 q)) (F0 m 155 ls [])) → va_P D vwCl (mw c q σ) H → va_S (wdA 31 q) s.heap H locs → lv_has ls 11 [(0, .ref (q 0)), (1, .int z1), (2, .int z2), (3, .int y3), (4, .int z4), (5, .int y5), (6, .int z6), (7, .int z7), (8, .int y8)] → W p l e (headSpec (Cond.code yX8_lookOrder cX8_lookOrder 11 none :: tb_L) { frames := 0, cells := 0, slots := 0, locals := 0 }).room s m [.ref (q 0), .int x1, .int x2].toArray below meth c₀ H locs 0 0 (MQ below (va_Qv post (wdB D (mw c q)) (wdA 31 q)) [.ref (q 0), .int x1, .int x2].toArray s 0 0 (wdA 31 q)) (F0 m 78 ls []) := by
    intro K155 z1 z2 z4 z6 z7 n
    induction n with
    | zero =>
      intro y3 y5 y8 σ H locs ls hw hk155 hP hS hl
      exact (show False from hw).elim
    | succ n ih =>
      intro y3 y5 y8 σ H locs ls hw hk155 hP hS hl
      rw [wX8_lookOrder_L78] at hw
      have hD : va_D (wdA 31 q) (mw c q σ) := mw_D hD0
      refine lv_iload hx hb dX8_lookOrder_78 (lv_at hl 8 rfl) ?_
      refine lv_if_le (tgt := 155) hx hb dX8_lookOrder_80 (by decide) (fun c13 => ?_) (fun c13 => ?_)
      · have hw := hw.1 c13
        exact hk155 y3 y5 y8 σ _ _ _ hw hP hS (lv_sub hl [0, 1, 2, 3, 4, 5, 6, 7, 8] rfl)
      · have hw := hw.2 c13
        refine lv_iload_n hx hb dX8_lookOrder_83 rfl (lv_at hl 3 rfl) ?_
        refine lv_iload hx hb dX8_lookOrder_84 (lv_at hl 8 rfl) ?_
        refine lv_irem hx hb dX8_lookOrder_86 hw.1 ?_
        have hw := hw.2
        refine lv_topi (fun v14 ev14 => ?_)
        have hw := hw v14 ev14
        refine lv_istore (lv' := [(9, .int v14), (0, .ref (q 0)), (1, .int z1), (2, .int z2), (3, .int y3), (4, .int z4), (5, .int y5), (6, .int z6), (7, .int z7), (8, .int y8)]) hx hb dX8_lookOrder_87 hl (by decide) rfl (fun ls hl => ?_)
        refine lv_iload_n hx hb dX8_lookOrder_89 rfl (lv_at hl 4 rfl) ?_
        refine lv_iload hx hb dX8_lookOrder_90 (lv_at hl 9 rfl) ?_
        refine lv_idiv hx hb dX8_lookOrder_92 hw.1 ?_
        have hw := hw.2
        refine lv_topi (fun v15 ev15 => ?_)
        have hw := hw v15 ev15
        refine lv_istore_n (lv' := [(3, .int v15), (9, .int v14), (0, .ref (q 0)), (1, .int z1), (2, .int z2), (4, .int z4), (5, .int y5), (6, .int z6), (7, .int z7), (8, .int y8)]) hx hb dX8_lookOrder_93 rfl hl (by decide) rfl (fun ls hl => ?_)
        refine lv_aload_n hx hb dX8_lookOrder_94 rfl (lv_at hl 2 rfl) ?_
        refine va_get (D := D) (ci := 8) (C := RX8) (T := TX8) (N := 57) hx hb htb inX8 hown hK hP 0 (mw_0 c q σ) rfl 24 (by decide) (htb _ tb_1205) (fun _ h9 => h9) rfl dX8_lookOrder_95 ?_
        refine lv_iload hx hb dX8_lookOrder_98 (lv_at hl 5 rfl) ?_
        refine lv_aload_n hx hb dX8_lookOrder_100 rfl (lv_at hl 2 rfl) ?_
        refine va_get (D := D) (ci := 8) (C := RX8) (T := TX8) (N := 57) hx hb htb inX8 hown hK hP 0 (mw_0 c q σ) rfl 46 (by decide) (htb _ tb_1227) (fun _ h9 => h9) rfl dX8_lookOrder_101 ?_
        refine lv_iload hx hb dX8_lookOrder_104 (lv_at hl 1 rfl) ?_
        refine va_iald hx hb hK hP 26 25 (mw_26 c q σ) rfl hw.1 dX8_lookOrder_106 ?_
        have hw := hw.2
        refine lv_iadd hx hb dX8_lookOrder_107 ?_
        refine lv_iload hx hb dX8_lookOrder_108 (lv_at hl 6 rfl) ?_
        refine va_iast hx hb hK hP hD hS 13 12 (mw_13 c q σ) rfl hw.1 dX8_lookOrder_110 (fun H locs hP hD hS => ?_)
        have hw := hw.2
        have hP : va_P D vwCl (mw c q (hsA σ 13 (upd (σ.2.1 13) (z4 + (σ.2.1 26 v14.toNatClampNeg)).toNatClampNeg y5))) H := hP
        obtain ⟨σ16, eσ16⟩ : ∃ z : hsS, z = hsA σ 13 (upd (σ.2.1 13) (z4 + (σ.2.1 26 v14.toNatClampNeg)).toNatClampNeg y5) := ⟨_, rfl⟩
        rw [← eσ16] at hP
        have hD : va_D (wdA 31 q) (mw c q σ16) := mw_D hD0
        have hw := hw σ16 eσ16
        obtain ⟨v17, ev17⟩ : ∃ z : Int32, z = y5 + (1 : Int32) := ⟨_, rfl⟩
        have hw := hw v17 ev17
        refine lv_iinc (v := v17) (lv' := [(5, .int v17), (3, .int v15), (9, .int v14), (0, .ref (q 0)), (1, .int z1), (2, .int z2), (4, .int z4), (6, .int z6), (7, .int z7), (8, .int y8)]) hx hb dX8_lookOrder_111 hl (k := 6) rfl (by rw [ev17]; rfl) (by decide) rfl (fun ls hl => ?_)
        refine lv_iload hx hb dX8_lookOrder_114 (lv_at hl 2 rfl) ?_
        refine lv_istore (lv' := [(10, .int v14), (5, .int v17), (3, .int v15), (9, .int v14), (0, .ref (q 0)), (1, .int z1), (2, .int z2), (4, .int z4), (6, .int z6), (7, .int z7), (8, .int y8)]) hx hb dX8_lookOrder_116 hl (by decide) rfl (fun ls hl => ?_)
        obtain ⟨n21, hw⟩ := hw
        refine L118 _ z1 z2 v15 z4 v17 z6 z7 y8 v14 n21 v14 σ16 _ _ _ hw ?_ hP hS (lv_sub hl [4, 5, 6, 2, 7, 1, 8, 9, 10, 3, 0] rfl)
        intro v22 σ23 H locs ls hw hP hS hl
        have hD : va_D (wdA 31 q) (mw c q σ23) := mw_D hD0
        obtain ⟨v24, ev24⟩ : ∃ z : Int32, z = y8 + (-1 : Int32) := ⟨_, rfl⟩
        have hw := hw v24 ev24
        refine lv_iinc (v := v24) (lv' := [(8, .int v24), (0, .ref (q 0)), (1, .int z1), (2, .int z2), (3, .int v15), (4, .int z4), (5, .int v17), (6, .int z6), (7, .int z7), (9, .int v14), (10, .int v22)]) hx hb dX8_lookOrder_149 hl (k := 8) rfl (by rw [ev24]; rfl) (by decide) rfl (fun ls hl => ?_)
        refine lv_goto (tgt := 78) hx hb dX8_lookOrder_152 (by decide) ?_
        exact ih v15 v17 v24 σ23 _ _ _ hw hk155 hP hS (lv_sub hl [1, 2, 3, 4, 5, 6, 7, 8, 0] rfl)
  have L14 : ∀ (K161 : Int32 → Int32 → Int32 → hsS → Prop) (z1 : Int32) (z2 : Int32) (z4 : Int32) (n : Nat) (y3 : Int32) (y5 : Int32) (y6 : Int32) (σ : hsS) (H : Heap) (locs : List Loc) (ls : Array Slot), wX8_lookOrder_L14 z1 z2 z4 K161 post n y3 y5 y6 σ → (∀ (y3 : Int32) (y5 : Int32) (y6 : Int32) (σ : hsS) (H : Heap) (locs : List Loc) (ls : Array Slot), K161 y3 y5 y6 σ → va_P D vwCl (mw c q σ) H → va_S (wdA 31 q) s.heap H locs → lv_has ls 11 [(0, .ref (q 0)), (1, .int z1), (2, .int z2), (3, .int y3), (4, .int z4), (5, .int y5), (6, .int y6)] → W p l e (headSpec (Cond.code yX8_lookOrder cX8_lookOrder 11 none :: tb_L) { frames := 0, cells := 0, slots := 0, locals := 0 }).room s m [.ref (q 0), .int x1, .int x2].toArray below meth c₀ H locs 0 0 (MQ below (va_Qv post (wdB D (mw c q)) (wdA 31 q)) [.ref (q 0), .int x1, .int x2].toArray s 0 0 (wdA 31 q)) (F0 m 161 ls [])) → va_P D vwCl (mw c q σ) H → va_S (wdA 31 q) s.heap H locs → lv_has ls 11 [(0, .ref (q 0)), (1, .int z1), (2, .int z2), (3, .int y3), (4, .int z4), (5, .int y5), (6, .int y6)] → W p l e (headSpec (Cond.code yX8_lookOrder cX8_lookOrder 11 none :: tb_L) { frames := 0, cells := 0, slots := 0, locals := 0 }).room s m [.ref (q 0), .int x1, .int x2].toArray below meth c₀ H locs 0 0 (MQ below (va_Qv post (wdB D (mw c q)) (wdA 31 q)) [.ref (q 0), .int x1, .int x2].toArray s 0 0 (wdA 31 q)) (F0 m 14 ls []) := by
    intro K161 z1 z2 z4 n
    induction n with
    | zero =>
      intro y3 y5 y6 σ H locs ls hw hk161 hP hS hl
      exact (show False from hw).elim
    | succ n ih =>
      intro y3 y5 y6 σ H locs ls hw hk161 hP hS hl
      rw [wX8_lookOrder_L14] at hw
      have hD : va_D (wdA 31 q) (mw c q σ) := mw_D hD0
      refine lv_iload hx hb dX8_lookOrder_14 (lv_at hl 6 rfl) ?_
      refine lv_bipush (v := (22 : Int32)) hx hb dX8_lookOrder_16 (by decide) ?_
      refine lv_icmp_ge (tgt := 161) hx hb dX8_lookOrder_18 (by decide) (fun c2 => ?_) (fun c2 => ?_)
      · have hw := hw.1 c2
        exact hk161 y3 y5 y6 σ _ _ _ hw hP hS (lv_sub hl [0, 1, 2, 3, 4, 5, 6] rfl)
      · have hw := hw.2 c2
        refine lv_iconst (v := (0 : Int32)) hx hb dX8_lookOrder_21 (by decide) ?_
        refine lv_istore (lv' := [(7, .int (0 : Int32)), (0, .ref (q 0)), (1, .int z1), (2, .int z2), (3, .int y3), (4, .int z4), (5, .int y5), (6, .int y6)]) hx hb dX8_lookOrder_22 hl (by decide) rfl (fun ls hl => ?_)
        refine lv_iconst (v := (0 : Int32)) hx hb dX8_lookOrder_24 (by decide) ?_
        refine lv_istore (lv' := [(8, .int (0 : Int32)), (7, .int (0 : Int32)), (0, .ref (q 0)), (1, .int z1), (2, .int z2), (3, .int y3), (4, .int z4), (5, .int y5), (6, .int y6)]) hx hb dX8_lookOrder_25 hl (by decide) rfl (fun ls hl => ?_)
        obtain ⟨n9, hw⟩ := hw
        refine L27 _ z1 z2 y3 z4 y5 y6 n9 (0 : Int32) (0 : Int32) σ _ _ _ hw ?_ hP hS (lv_sub hl [2, 3, 4, 5, 6, 7, 8, 1, 0] rfl)
        intro v10 v11 σ12 H locs ls hw hP hS hl
        have hD : va_D (wdA 31 q) (mw c q σ12) := mw_D hD0
        refine lv_iload hx hb dX8_lookOrder_74 (lv_at hl 7 rfl) ?_
        refine lv_istore (lv' := [(8, .int v10), (0, .ref (q 0)), (1, .int z1), (2, .int z2), (3, .int y3), (4, .int z4), (5, .int y5), (6, .int y6), (7, .int v10)]) hx hb dX8_lookOrder_76 hl (by decide) rfl (fun ls hl => ?_)
        obtain ⟨n25, hw⟩ := hw
        refine L78 _ z1 z2 z4 y6 v10 n25 y3 y5 v10 σ12 _ _ _ hw ?_ hP hS (lv_sub hl [1, 2, 3, 4, 5, 6, 7, 8, 0] rfl)
        intro v26 v27 v28 σ29 H locs ls hw hP hS hl
        have hD : va_D (wdA 31 q) (mw c q σ29) := mw_D hD0
        obtain ⟨v30, ev30⟩ : ∃ z : Int32, z = y6 + (1 : Int32) := ⟨_, rfl⟩
        have hw := hw v30 ev30
        refine lv_iinc (v := v30) (lv' := [(6, .int v30), (0, .ref (q 0)), (1, .int z1), (2, .int z2), (3, .int v26), (4, .int z4), (5, .int v27), (7, .int v10), (8, .int v28)]) hx hb dX8_lookOrder_155 hl (k := 6) rfl (by rw [ev30]; rfl) (by decide) rfl (fun ls hl => ?_)
        refine lv_goto (tgt := 14) hx hb dX8_lookOrder_158 (by decide) ?_
        exact ih v26 v27 v30 σ29 _ _ _ hw hk161 hP hS (lv_sub hl [1, 2, 3, 4, 5, 6, 0] rfl)
  have hl := lv_entry ([.ref (q 0), .int x1, .int x2]) (n := 11) (Nat.le_of_ble_eq_true rfl)
  rw [lg_entry_eq]
  generalize (lg_sl ([.ref (q 0), .int x1, .int x2]) ++ List.replicate (11 - (lg_sl ([.ref (q 0), .int x1, .int x2])).length) Slot.unset).toArray = ls at hl ⊢
  have hl : lv_has ls 11 [(0, .ref (q 0)), (1, .int x1), (2, .int x2)] := hl
  unfold wX8_lookOrder at hw
  refine lv_iload_n hx hb dX8_lookOrder_0 rfl (lv_at hl 2 rfl) ?_
  refine lv_istore_n (lv' := [(3, .int x2), (0, .ref (q 0)), (1, .int x1), (2, .int x2)]) hx hb dX8_lookOrder_1 rfl hl (by decide) rfl (fun ls hl => ?_)
  refine lv_iload_n hx hb dX8_lookOrder_2 rfl (lv_at hl 2 rfl) ?_
  refine lv_bipush (v := (10 : Int32)) hx hb dX8_lookOrder_3 (by decide) ?_
  refine lv_imul hx hb dX8_lookOrder_5 ?_
  refine lv_topi (fun v1 ev1 => ?_)
  have hw := hw v1 ev1
  refine lv_istore (lv' := [(4, .int v1), (3, .int x2), (0, .ref (q 0)), (1, .int x1), (2, .int x2)]) hx hb dX8_lookOrder_6 hl (by decide) rfl (fun ls hl => ?_)
  refine lv_iconst (v := (0 : Int32)) hx hb dX8_lookOrder_8 (by decide) ?_
  refine lv_istore (lv' := [(5, .int (0 : Int32)), (4, .int v1), (3, .int x2), (0, .ref (q 0)), (1, .int x1), (2, .int x2)]) hx hb dX8_lookOrder_9 hl (by decide) rfl (fun ls hl => ?_)
  refine lv_iconst (v := (0 : Int32)) hx hb dX8_lookOrder_11 (by decide) ?_
  refine lv_istore (lv' := [(6, .int (0 : Int32)), (5, .int (0 : Int32)), (4, .int v1), (3, .int x2), (0, .ref (q 0)), (1, .int x1), (2, .int x2)]) hx hb dX8_lookOrder_12 hl (by decide) rfl (fun ls hl => ?_)
  obtain ⟨n31, hw⟩ := hw
  refine L14 _ x1 x2 v1 n31 x2 (0 : Int32) (0 : Int32) σ _ _ _ hw ?_ hP hS (lv_sub hl [4, 5, 6, 3, 2, 1, 0] rfl)
  intro v32 v33 v34 σ35 H locs ls hw hP hS hl
  have hD : va_D (wdA 31 q) (mw c q σ35) := mw_D hD0
  exact W.vret hx hb hr (fun t ht hW => ⟨⟨σ35, rfl, hw, by unfold wdB; rw [ht]; exact hP⟩, hS.F ht⟩) hS.2.2 dX8_lookOrder_161
def wX8_tellTies_L39 (K87 : Int32 → hsS → Prop) (post : Int32 → hsS → Prop) : Nat → Int32 → hsS → Prop
  | 0, _, _ => False
  | n + 1, y1, σ => (((σ.2.1 2 (0 : Int32).toNatClampNeg) ≤ y1 → K87 y1 σ) ∧ (¬ (σ.2.1 2 (0 : Int32).toNatClampNeg) ≤ y1 → wX8_ordersOf y1 (fun r6 σ7 => vp_in y1 8 ∧ ∀ σ8 : hsS, σ8 = hsA σ7 22 (upd (σ7.2.1 22) y1.toNatClampNeg r6) → vp_in y1 8 ∧ ∀ σ9 : hsS, σ9 = hsI σ8 47 (if ((σ8.1 47) * (σ8.2.1 22 y1.toNatClampNeg)) < (241 : Int32) then ((σ8.1 47) * (σ8.2.1 22 y1.toNatClampNeg)) else (241 : Int32)) → ∀ v10 : Int32, v10 = y1 + (1 : Int32) → wX8_tellTies_L39  K87 post n v10 σ9) σ))
def wX8_tellTies_L138 (K168 : Int32 → hsS → Prop) (post : Int32 → hsS → Prop) : Nat → Int32 → hsS → Prop
  | 0, _, _ => False
  | n + 1, y1, σ => (((1920 : Int32) ≤ y1 → K168 y1 σ) ∧ (¬ (1920 : Int32) ≤ y1 → vp_in y1 1920 ∧ ∀ σ22 : hsS, σ22 = hsA σ 24 (upd (σ.2.1 24) y1.toNatClampNeg (0 : Int32)) → vp_in y1 1920 ∧ ∀ σ23 : hsS, σ23 = hsA σ22 25 (upd (σ22.2.1 25) y1.toNatClampNeg (σ22.1 49)) → ∀ v24 : Int32, v24 = y1 + (1 : Int32) → wX8_tellTies_L138  K168 post n v24 σ23))
def wX8_tellTies_L182 (z1 : Int32) (K224 : Int32 → Int32 → hsS → Prop) (post : Int32 → hsS → Prop) : Nat → Int32 → Int32 → hsS → Prop
  | 0, _, _, _ => False
  | n + 1, y2, y3, σ => (((σ.2.1 2 (0 : Int32).toNatClampNeg) ≤ y3 → K224 y2 y3 σ) ∧ (¬ (σ.2.1 2 (0 : Int32).toNatClampNeg) ≤ y3 → vp_in y3 8 ∧ ¬ (σ.2.1 22 y3.toNatClampNeg) = 0 ∧ ∀ v30 : Int32, v30 = y2 - y2 / (σ.2.1 22 y3.toNatClampNeg) * (σ.2.1 22 y3.toNatClampNeg) → wX8_lookOrder y3 v30 (fun σ32 => vp_in y3 8 ∧ ¬ (σ32.2.1 22 y3.toNatClampNeg) = 0 ∧ ∀ v33 : Int32, v33 = y2 / (σ32.2.1 22 y3.toNatClampNeg) → ∀ v34 : Int32, v34 = y3 + (1 : Int32) → wX8_tellTies_L182 z1 K224 post n v33 v34 σ32) σ))
def wX8_tellTies_L258 (z1 : Int32) (z3 : Int32) (K325 : Int32 → Int32 → hsS → Prop) (post : Int32 → hsS → Prop) : Nat → Int32 → Int32 → hsS → Prop
  | 0, _, _, _ => False
  | n + 1, y2, y4, σ => (((σ.2.1 2 (0 : Int32).toNatClampNeg) ≤ y4 → K325 y2 y4 σ) ∧ (¬ (σ.2.1 2 (0 : Int32).toNatClampNeg) ≤ y4 → vp_in y4 8 ∧ ¬ (σ.2.1 22 y4.toNatClampNeg) = 0 ∧ ∀ v46 : Int32, v46 = ((240 : Int32) * y4) + (y2 - y2 / (σ.2.1 22 y4.toNatClampNeg) * (σ.2.1 22 y4.toNatClampNeg)) → vp_in v46 1920 ∧ vp_in v46 1920 ∧ ∀ σ47 : hsS, σ47 = hsA σ 24 (upd (σ.2.1 24) v46.toNatClampNeg ((σ.2.1 24 v46.toNatClampNeg) ||| z3)) → vp_in v46 1920 ∧ vp_in v46 1920 ∧ ∀ σ48 : hsS, σ48 = hsA σ47 25 (upd (σ47.2.1 25) v46.toNatClampNeg ((σ47.2.1 25 v46.toNatClampNeg) &&& z3)) → vp_in y4 8 ∧ ¬ (σ48.2.1 22 y4.toNatClampNeg) = 0 ∧ ∀ v49 : Int32, v49 = y2 / (σ48.2.1 22 y4.toNatClampNeg) → ∀ v50 : Int32, v50 = y4 + (1 : Int32) → wX8_tellTies_L258 z1 z3 K325 post n v49 v50 σ48))
def wX8_tellTies_L170 (K331 : Int32 → hsS → Prop) (post : Int32 → hsS → Prop) : Nat → Int32 → hsS → Prop
  | 0, _, _ => False
  | n + 1, y1, σ => (((σ.1 47) ≤ y1 → K331 y1 σ) ∧ (¬ (σ.1 47) ≤ y1 → ∃ n35, wX8_tellTies_L182 y1 (fun v36 v37 σ38 => wX8_everybody  (fun r39 σ40 => wX8_coreOf r39 (fun r41 σ42 => ∀ σ43 : hsS, σ43 = hsI σ42 48 ((σ42.1 48) ||| r41) → ∀ σ44 : hsS, σ44 = hsI σ43 49 ((σ43.1 49) &&& r41) → ∃ n51, wX8_tellTies_L258 y1 r41 (fun v52 v53 σ54 => ∀ v55 : Int32, v55 = y1 + (1 : Int32) → wX8_tellTies_L170  K331 post n v55 σ54) post n51 y1 (0 : Int32) σ44) σ40) σ38) post n35 y1 (0 : Int32) σ))
def wX8_tellTies  (post : Int32 → hsS → Prop) (σ : hsS) : Prop := (((σ.1 50) = (σ.1 12) → (((σ.1 51) = (0 : Int32) → post (1 : Int32) σ) ∧ (¬ (σ.1 51) = (0 : Int32) → post (0 : Int32) σ))) ∧ (¬ (σ.1 50) = (σ.1 12) → ∀ σ3 : hsS, σ3 = hsI σ 50 (σ.1 12) → ∀ σ4 : hsS, σ4 = hsI σ3 47 (1 : Int32) → ∃ n11, wX8_tellTies_L39  (fun v12 σ13 => (((σ13.1 47) ≤ (240 : Int32) → ∀ σ15 : hsS, σ15 = hsI σ13 51 (0 : Int32) → (((σ15.1 51) = (0 : Int32) → wX8_look  (fun σ18 => ∀ σ19 : hsS, σ19 = hsI σ18 48 (0 : Int32) → ∀ σ20 : hsS, σ20 = hsI σ19 49 (((1 : Int32) <<< ((σ19.1 25) &&& 31)) - (1 : Int32)) → ∃ n25, wX8_tellTies_L138  (fun v26 σ27 => ∃ n56, wX8_tellTies_L170  (fun v57 σ58 => post (1 : Int32) σ58) post n56 (0 : Int32) σ27) post n25 (0 : Int32) σ20) σ15) ∧ (¬ (σ15.1 51) = (0 : Int32) → post (0 : Int32) σ15))) ∧ (¬ (σ13.1 47) ≤ (240 : Int32) → ∀ σ59 : hsS, σ59 = hsI σ13 51 (1 : Int32) → (((σ59.1 51) = (0 : Int32) → wX8_look  (fun σ62 => ∀ σ63 : hsS, σ63 = hsI σ62 48 (0 : Int32) → ∀ σ64 : hsS, σ64 = hsI σ63 49 (((1 : Int32) <<< ((σ63.1 25) &&& 31)) - (1 : Int32)) → ∃ n65, wX8_tellTies_L138  (fun v66 σ67 => ∃ n68, wX8_tellTies_L170  (fun v69 σ70 => post (1 : Int32) σ70) post n68 (0 : Int32) σ67) post n65 (0 : Int32) σ64) σ59) ∧ (¬ (σ59.1 51) = (0 : Int32) → post (0 : Int32) σ59))))) post n11 (0 : Int32) σ4))
set_option maxHeartbeats 4000000 in
set_option maxRecDepth 100000 in
theorem kcX8_tellTies (l : Launch) (D : va_G) (c : Nat → ClassId) (q : Nat → Nat) (ev : State → Heap → Prop) (hev : evOK (wdA 31 q) ev) (σ : hsS)  (post : Int32 → hsS → Prop) (hw : wX8_tellTies  post σ) : Met l yX8_tellTies (Cond.code yX8_tellTies cX8_tellTies 6 (some .boolean) :: tb_L) { frames := 4, cells := 0, slots := 0, locals := 114 } (wdPc D (mw c q) (mwT c) (wdA 31 q) ev σ [.ref (q 0)]) (va_Qi post (wdB D (mw c q)) (wdA 31 q)) 0 0 (wdA 31 q) := by
  refine Met.ofW (cc := cX8_tellTies) (maxL := 6) (ret := (some .boolean)) (by decide) rfl ?_
  intro p e s m args below meth c₀ s₁ Bd hml hv
  obtain ⟨rfl, hP, hK, hD0, hE⟩ := hv
  have hx := Bd.exec
  have hb := Bd.bytes
  have hr := Bd.returns
  have hts := atoms_spec (ws := Cond.code yX8_tellTies cX8_tellTies 6 (some .boolean) :: tb_L) Bd.pre
  have htb : ∀ w ∈ tb_L, w.before [.ref (q 0)].toArray s = true := fun w h => hts w (List.mem_cons_of_mem _ h)
  have hown : s.vm.findClass RX8 = some m.cls := findClass_of_methodNamed Bd.named
  have hlocks := Bd.notSynchronized
  have hS : va_S (wdA 31 q) s.heap s.heap [] := va_S.rf
  have hD := hD0
  have L39 : ∀ (K87 : Int32 → hsS → Prop) (n : Nat) (y1 : Int32) (σ : hsS) (H : Heap) (locs : List Loc) (ls : Array Slot), wX8_tellTies_L39  K87 post n y1 σ → (∀ (y1 : Int32) (σ : hsS) (H : Heap) (locs : List Loc) (ls : Array Slot), K87 y1 σ → va_P D vwCl (mw c q σ) H → va_S (wdA 31 q) s.heap H locs → lv_has ls 6 [(0, .ref (q 0)), (1, .int y1)] → W p l e (headSpec (Cond.code yX8_tellTies cX8_tellTies 6 (some .boolean) :: tb_L) { frames := 4, cells := 0, slots := 0, locals := 114 }).room s m [.ref (q 0)].toArray below meth c₀ H locs 0 0 (MQ below (va_Qi post (wdB D (mw c q)) (wdA 31 q)) [.ref (q 0)].toArray s 0 0 (wdA 31 q)) (F0 m 87 ls [])) → va_P D vwCl (mw c q σ) H → va_S (wdA 31 q) s.heap H locs → lv_has ls 6 [(0, .ref (q 0)), (1, .int y1)] → W p l e (headSpec (Cond.code yX8_tellTies cX8_tellTies 6 (some .boolean) :: tb_L) { frames := 4, cells := 0, slots := 0, locals := 114 }).room s m [.ref (q 0)].toArray below meth c₀ H locs 0 0 (MQ below (va_Qi post (wdB D (mw c q)) (wdA 31 q)) [.ref (q 0)].toArray s 0 0 (wdA 31 q)) (F0 m 39 ls []) := by
    intro K87 n
    induction n with
    | zero =>
      intro y1 σ H locs ls hw hk87 hP hS hl
      exact (show False from hw).elim
    | succ n ih =>
      intro y1 σ H locs ls hw hk87 hP hS hl
      rw [wX8_tellTies_L39] at hw
      have hD : va_D (wdA 31 q) (mw c q σ) := mw_D hD0
      refine lv_iload_n hx hb dX8_tellTies_39 rfl (lv_at hl 1 rfl) ?_
      refine lv_aload_n hx hb dX8_tellTies_40 rfl (lv_at hl 0 rfl) ?_
      refine va_get (D := D) (ci := 8) (C := RX8) (T := TX8) (N := 57) hx hb htb inX8 hown hK hP 0 (mw_0 c q σ) rfl 2 (by decide) (htb _ tb_1183) (fun _ h9 => h9) rfl dX8_tellTies_41 ?_
      refine lv_iconst (v := (0 : Int32)) hx hb dX8_tellTies_44 (by decide) ?_
      refine va_iald hx hb hK hP 2 1 (mw_2 c q σ) rfl (by unfold vp_in; decide) dX8_tellTies_45 ?_
      refine lv_icmp_ge (tgt := 87) hx hb dX8_tellTies_46 (by decide) (fun c5 => ?_) (fun c5 => ?_)
      · have hw := hw.1 c5
        exact hk87 y1 σ _ _ _ hw hP hS (lv_sub hl [0, 1] rfl)
      · have hw := hw.2 c5
        refine lv_aload_n hx hb dX8_tellTies_49 rfl (lv_at hl 0 rfl) ?_
        refine va_get (D := D) (ci := 8) (C := RX8) (T := TX8) (N := 57) hx hb htb inX8 hown hK hP 0 (mw_0 c q σ) rfl 42 (by decide) (htb _ tb_1223) (fun _ h9 => h9) rfl dX8_tellTies_50 ?_
        refine lv_iload_n hx hb dX8_tellTies_53 rfl (lv_at hl 1 rfl) ?_
        refine lv_aload_n hx hb dX8_tellTies_54 rfl (lv_at hl 0 rfl) ?_
        refine lv_iload_n hx hb dX8_tellTies_55 rfl (lv_at hl 1 rfl) ?_
        refine va_calli (va_runV (As := [.int y1]) (rest := [.int y1, .ref (q 22)]) ⟨hx, hb, hml, hown, htb⟩ (kcX8_ordersOf l D c q ev hev σ y1 _ hw) (tb_CW htb kX8_ordersOf tb_1664 tb_1666 tb_84 ⟨Nat.le_of_ble_eq_true rfl, Nat.le_of_ble_eq_true rfl⟩) (wd_preV (wd := mw c q) (k := 0) hev hK hP hD hE hS (mw_0 c q σ) rfl) rfl rfl hl.1 rfl (lv_room (Nat.le_of_ble_eq_true rfl)) dX8_tellTies_56 ⟨Nat.zero_le _, Nat.zero_le _⟩) hS (fun q _ h => h) (fun q h => h) (fun r6 σ7 t H1 locs1 ht hvm hw hB hz1 hk1 hS => ?_)
        have hP : va_P D vwCl (mw c q σ7) H1 := ht ▸ hB
        have hD : va_D (wdA 31 q) (mw c q σ7) := mw_D hD0
        refine va_iast hx hb hK hP hD hS 22 21 (mw_22 c q σ7) rfl hw.1 dX8_tellTies_59 (fun H locs hP hD hS => ?_)
        have hw := hw.2
        have hP : va_P D vwCl (mw c q (hsA σ7 22 (upd (σ7.2.1 22) y1.toNatClampNeg r6))) H := hP
        obtain ⟨σ8, eσ8⟩ : ∃ z : hsS, z = hsA σ7 22 (upd (σ7.2.1 22) y1.toNatClampNeg r6) := ⟨_, rfl⟩
        rw [← eσ8] at hP
        have hD : va_D (wdA 31 q) (mw c q σ8) := mw_D hD0
        have hw := hw σ8 eσ8
        refine lv_aload_n hx hb dX8_tellTies_60 rfl (lv_at hl 0 rfl) ?_
        refine lv_sipush (v := (241 : Int32)) hx hb dX8_tellTies_61 (by decide) ?_
        refine lv_aload_n hx hb dX8_tellTies_64 rfl (lv_at hl 0 rfl) ?_
        refine va_get (D := D) (ci := 8) (C := RX8) (T := TX8) (N := 57) hx hb htb inX8 hown hK hP 0 (mw_0 c q σ8) rfl 47 (by decide) (htb _ tb_1228) (fun _ h9 => h9) rfl dX8_tellTies_65 ?_
        refine lv_aload_n hx hb dX8_tellTies_68 rfl (lv_at hl 0 rfl) ?_
        refine va_get (D := D) (ci := 8) (C := RX8) (T := TX8) (N := 57) hx hb htb inX8 hown hK hP 0 (mw_0 c q σ8) rfl 42 (by decide) (htb _ tb_1223) (fun _ h9 => h9) rfl dX8_tellTies_69 ?_
        refine lv_iload_n hx hb dX8_tellTies_72 rfl (lv_at hl 1 rfl) ?_
        refine va_iald hx hb hK hP 22 21 (mw_22 c q σ8) rfl hw.1 dX8_tellTies_73 ?_
        have hw := hw.2
        refine lv_imul hx hb dX8_tellTies_74 ?_
        refine va_mmin hx hb (hml.trans hl.1.symm) hown (htb _ tb_1384) (htb _ tb_413) (htb _ tb_104) (htb _ tb_414) (Nat.le_of_ble_eq_true rfl) (Nat.le_of_ble_eq_true rfl) (Nat.zero_le _) (Nat.zero_le _) dX8_tellTies_75 ?_
        refine va_put (D := D) (ci := 8) (ty := .int) (C := RX8) (T := TX8) (N := 57) hx hb htb inX8 tyX8 tyX8_ok nmX8 hown hK hP hD hS 0 (mw_0 c q σ8) rfl 47 (by decide) (htb _ tb_1228) (fun _ h9 => h9) rfl (by decide +kernel) rfl rfl (Nat.le_of_ble_eq_true rfl) dX8_tellTies_78 (fun H locs hP hD hS => ?_)
        have hP : va_P D vwCl (mw c q (hsI σ8 47 (if ((σ8.1 47) * (σ8.2.1 22 y1.toNatClampNeg)) < (241 : Int32) then ((σ8.1 47) * (σ8.2.1 22 y1.toNatClampNeg)) else (241 : Int32)))) H := hP
        obtain ⟨σ9, eσ9⟩ : ∃ z : hsS, z = hsI σ8 47 (if ((σ8.1 47) * (σ8.2.1 22 y1.toNatClampNeg)) < (241 : Int32) then ((σ8.1 47) * (σ8.2.1 22 y1.toNatClampNeg)) else (241 : Int32)) := ⟨_, rfl⟩
        rw [← eσ9] at hP
        have hD : va_D (wdA 31 q) (mw c q σ9) := mw_D hD0
        have hw := hw σ9 eσ9
        obtain ⟨v10, ev10⟩ : ∃ z : Int32, z = y1 + (1 : Int32) := ⟨_, rfl⟩
        have hw := hw v10 ev10
        refine lv_iinc (v := v10) (lv' := [(1, .int v10), (0, .ref (q 0))]) hx hb dX8_tellTies_81 hl (k := 1) rfl (by rw [ev10]; rfl) (by decide) rfl (fun ls hl => ?_)
        refine lv_goto (tgt := 39) hx hb dX8_tellTies_84 (by decide) ?_
        exact ih v10 σ9 _ _ _ hw hk87 hP hS (lv_sub hl [1, 0] rfl)
  have L138 : ∀ (K168 : Int32 → hsS → Prop) (n : Nat) (y1 : Int32) (σ : hsS) (H : Heap) (locs : List Loc) (ls : Array Slot), wX8_tellTies_L138  K168 post n y1 σ → (∀ (y1 : Int32) (σ : hsS) (H : Heap) (locs : List Loc) (ls : Array Slot), K168 y1 σ → va_P D vwCl (mw c q σ) H → va_S (wdA 31 q) s.heap H locs → lv_has ls 6 [(0, .ref (q 0)), (1, .int y1)] → W p l e (headSpec (Cond.code yX8_tellTies cX8_tellTies 6 (some .boolean) :: tb_L) { frames := 4, cells := 0, slots := 0, locals := 114 }).room s m [.ref (q 0)].toArray below meth c₀ H locs 0 0 (MQ below (va_Qi post (wdB D (mw c q)) (wdA 31 q)) [.ref (q 0)].toArray s 0 0 (wdA 31 q)) (F0 m 168 ls [])) → va_P D vwCl (mw c q σ) H → va_S (wdA 31 q) s.heap H locs → lv_has ls 6 [(0, .ref (q 0)), (1, .int y1)] → W p l e (headSpec (Cond.code yX8_tellTies cX8_tellTies 6 (some .boolean) :: tb_L) { frames := 4, cells := 0, slots := 0, locals := 114 }).room s m [.ref (q 0)].toArray below meth c₀ H locs 0 0 (MQ below (va_Qi post (wdB D (mw c q)) (wdA 31 q)) [.ref (q 0)].toArray s 0 0 (wdA 31 q)) (F0 m 138 ls []) := by
    intro K168 n
    induction n with
    | zero =>
      intro y1 σ H locs ls hw hk168 hP hS hl
      exact (show False from hw).elim
    | succ n ih =>
      intro y1 σ H locs ls hw hk168 hP hS hl
      rw [wX8_tellTies_L138] at hw
      have hD : va_D (wdA 31 q) (mw c q σ) := mw_D hD0
      refine lv_iload_n hx hb dX8_tellTies_138 rfl (lv_at hl 1 rfl) ?_
      refine lv_sipush (v := (1920 : Int32)) hx hb dX8_tellTies_139 (by decide) ?_
      refine lv_icmp_ge (tgt := 168) hx hb dX8_tellTies_142 (by decide) (fun c21 => ?_) (fun c21 => ?_)
      · have hw := hw.1 c21
        exact hk168 y1 σ _ _ _ hw hP hS (lv_sub hl [0, 1] rfl)
      · have hw := hw.2 c21
        refine lv_aload_n hx hb dX8_tellTies_145 rfl (lv_at hl 0 rfl) ?_
        refine va_get (D := D) (ci := 8) (C := RX8) (T := TX8) (N := 57) hx hb htb inX8 hown hK hP 0 (mw_0 c q σ) rfl 44 (by decide) (htb _ tb_1225) (fun _ h9 => h9) rfl dX8_tellTies_146 ?_
        refine lv_iload_n hx hb dX8_tellTies_149 rfl (lv_at hl 1 rfl) ?_
        refine lv_iconst (v := (0 : Int32)) hx hb dX8_tellTies_150 (by decide) ?_
        refine va_iast hx hb hK hP hD hS 24 23 (mw_24 c q σ) rfl hw.1 dX8_tellTies_151 (fun H locs hP hD hS => ?_)
        have hw := hw.2
        have hP : va_P D vwCl (mw c q (hsA σ 24 (upd (σ.2.1 24) y1.toNatClampNeg (0 : Int32)))) H := hP
        obtain ⟨σ22, eσ22⟩ : ∃ z : hsS, z = hsA σ 24 (upd (σ.2.1 24) y1.toNatClampNeg (0 : Int32)) := ⟨_, rfl⟩
        rw [← eσ22] at hP
        have hD : va_D (wdA 31 q) (mw c q σ22) := mw_D hD0
        have hw := hw σ22 eσ22
        refine lv_aload_n hx hb dX8_tellTies_152 rfl (lv_at hl 0 rfl) ?_
        refine va_get (D := D) (ci := 8) (C := RX8) (T := TX8) (N := 57) hx hb htb inX8 hown hK hP 0 (mw_0 c q σ22) rfl 45 (by decide) (htb _ tb_1226) (fun _ h9 => h9) rfl dX8_tellTies_153 ?_
        refine lv_iload_n hx hb dX8_tellTies_156 rfl (lv_at hl 1 rfl) ?_
        refine lv_aload_n hx hb dX8_tellTies_157 rfl (lv_at hl 0 rfl) ?_
        refine va_get (D := D) (ci := 8) (C := RX8) (T := TX8) (N := 57) hx hb htb inX8 hown hK hP 0 (mw_0 c q σ22) rfl 49 (by decide) (htb _ tb_1230) (fun _ h9 => h9) rfl dX8_tellTies_158 ?_
        refine va_iast hx hb hK hP hD hS 25 24 (mw_25 c q σ22) rfl hw.1 dX8_tellTies_161 (fun H locs hP hD hS => ?_)
        have hw := hw.2
        have hP : va_P D vwCl (mw c q (hsA σ22 25 (upd (σ22.2.1 25) y1.toNatClampNeg (σ22.1 49)))) H := hP
        obtain ⟨σ23, eσ23⟩ : ∃ z : hsS, z = hsA σ22 25 (upd (σ22.2.1 25) y1.toNatClampNeg (σ22.1 49)) := ⟨_, rfl⟩
        rw [← eσ23] at hP
        have hD : va_D (wdA 31 q) (mw c q σ23) := mw_D hD0
        have hw := hw σ23 eσ23
        obtain ⟨v24, ev24⟩ : ∃ z : Int32, z = y1 + (1 : Int32) := ⟨_, rfl⟩
        have hw := hw v24 ev24
        refine lv_iinc (v := v24) (lv' := [(1, .int v24), (0, .ref (q 0))]) hx hb dX8_tellTies_162 hl (k := 1) rfl (by rw [ev24]; rfl) (by decide) rfl (fun ls hl => ?_)
        refine lv_goto (tgt := 138) hx hb dX8_tellTies_165 (by decide) ?_
        exact ih v24 σ23 _ _ _ hw hk168 hP hS (lv_sub hl [1, 0] rfl)
  have L182 : ∀ (K224 : Int32 → Int32 → hsS → Prop) (z1 : Int32) (n : Nat) (y2 : Int32) (y3 : Int32) (σ : hsS) (H : Heap) (locs : List Loc) (ls : Array Slot), wX8_tellTies_L182 z1 K224 post n y2 y3 σ → (∀ (y2 : Int32) (y3 : Int32) (σ : hsS) (H : Heap) (locs : List Loc) (ls : Array Slot), K224 y2 y3 σ → va_P D vwCl (mw c q σ) H → va_S (wdA 31 q) s.heap H locs → lv_has ls 6 [(0, .ref (q 0)), (1, .int z1), (2, .int y2), (3, .int y3)] → W p l e (headSpec (Cond.code yX8_tellTies cX8_tellTies 6 (some .boolean) :: tb_L) { frames := 4, cells := 0, slots := 0, locals := 114 }).room s m [.ref (q 0)].toArray below meth c₀ H locs 0 0 (MQ below (va_Qi post (wdB D (mw c q)) (wdA 31 q)) [.ref (q 0)].toArray s 0 0 (wdA 31 q)) (F0 m 224 ls [])) → va_P D vwCl (mw c q σ) H → va_S (wdA 31 q) s.heap H locs → lv_has ls 6 [(0, .ref (q 0)), (1, .int z1), (2, .int y2), (3, .int y3)] → W p l e (headSpec (Cond.code yX8_tellTies cX8_tellTies 6 (some .boolean) :: tb_L) { frames := 4, cells := 0, slots := 0, locals := 114 }).room s m [.ref (q 0)].toArray below meth c₀ H locs 0 0 (MQ below (va_Qi post (wdB D (mw c q)) (wdA 31 q)) [.ref (q 0)].toArray s 0 0 (wdA 31 q)) (F0 m 182 ls []) := by
    intro K224 z1 n
    induction n with
    | zero =>
      intro y2 y3 σ H locs ls hw hk224 hP hS hl
      exact (show False from hw).elim
    | succ n ih =>
      intro y2 y3 σ H locs ls hw hk224 hP hS hl
      rw [wX8_tellTies_L182] at hw
      have hD : va_D (wdA 31 q) (mw c q σ) := mw_D hD0
      refine lv_iload_n hx hb dX8_tellTies_182 rfl (lv_at hl 3 rfl) ?_
      refine lv_aload_n hx hb dX8_tellTies_183 rfl (lv_at hl 0 rfl) ?_
      refine va_get (D := D) (ci := 8) (C := RX8) (T := TX8) (N := 57) hx hb htb inX8 hown hK hP 0 (mw_0 c q σ) rfl 2 (by decide) (htb _ tb_1183) (fun _ h9 => h9) rfl dX8_tellTies_184 ?_
      refine lv_iconst (v := (0 : Int32)) hx hb dX8_tellTies_187 (by decide) ?_
      refine va_iald hx hb hK hP 2 1 (mw_2 c q σ) rfl (by unfold vp_in; decide) dX8_tellTies_188 ?_
      refine lv_icmp_ge (tgt := 224) hx hb dX8_tellTies_189 (by decide) (fun c29 => ?_) (fun c29 => ?_)
      · have hw := hw.1 c29
        exact hk224 y2 y3 σ _ _ _ hw hP hS (lv_sub hl [0, 1, 2, 3] rfl)
      · have hw := hw.2 c29
        refine lv_iload_n hx hb dX8_tellTies_192 rfl (lv_at hl 2 rfl) ?_
        refine lv_aload_n hx hb dX8_tellTies_193 rfl (lv_at hl 0 rfl) ?_
        refine va_get (D := D) (ci := 8) (C := RX8) (T := TX8) (N := 57) hx hb htb inX8 hown hK hP 0 (mw_0 c q σ) rfl 42 (by decide) (htb _ tb_1223) (fun _ h9 => h9) rfl dX8_tellTies_194 ?_
        refine lv_iload_n hx hb dX8_tellTies_197 rfl (lv_at hl 3 rfl) ?_
        refine va_iald hx hb hK hP 22 21 (mw_22 c q σ) rfl hw.1 dX8_tellTies_198 ?_
        have hw := hw.2
        refine lv_irem hx hb dX8_tellTies_199 hw.1 ?_
        have hw := hw.2
        refine lv_topi (fun v30 ev30 => ?_)
        have hw := hw v30 ev30
        refine lv_istore (lv' := [(4, .int v30), (0, .ref (q 0)), (1, .int z1), (2, .int y2), (3, .int y3)]) hx hb dX8_tellTies_200 hl (by decide) rfl (fun ls hl => ?_)
        refine lv_aload_n hx hb dX8_tellTies_202 rfl (lv_at hl 1 rfl) ?_
        refine lv_iload_n hx hb dX8_tellTies_203 rfl (lv_at hl 4 rfl) ?_
        refine lv_iload hx hb dX8_tellTies_204 (lv_at hl 0 rfl) ?_
        refine va_callv (va_runV (As := [.int y3, .int v30]) (rest := []) ⟨hx, hb, hml, hown, htb⟩ (kcX8_lookOrder l D c q ev hev σ y3 v30 _ hw) (tb_CW htb kX8_lookOrder tb_1668 tb_1670 tb_85 ⟨Nat.le_of_ble_eq_true rfl, Nat.le_of_ble_eq_true rfl⟩) (wd_preV (wd := mw c q) (k := 0) hev hK hP hD hE hS (mw_0 c q σ) rfl) rfl rfl hl.1 rfl (lv_room (Nat.le_of_ble_eq_true rfl)) dX8_tellTies_206 ⟨Nat.zero_le _, Nat.zero_le _⟩) hS (fun q _ h => h) (fun q h => h) (fun σ32 t H1 locs1 ht hvm hw hB hz1 hk1 hS => ?_)
        have hP : va_P D vwCl (mw c q σ32) H1 := ht ▸ hB
        have hD : va_D (wdA 31 q) (mw c q σ32) := mw_D hD0
        refine lv_iload_n hx hb dX8_tellTies_209 rfl (lv_at hl 3 rfl) ?_
        refine lv_aload_n hx hb dX8_tellTies_210 rfl (lv_at hl 1 rfl) ?_
        refine va_get (D := D) (ci := 8) (C := RX8) (T := TX8) (N := 57) hx hb htb inX8 hown hK hP 0 (mw_0 c q σ32) rfl 42 (by decide) (htb _ tb_1223) (fun _ h9 => h9) rfl dX8_tellTies_211 ?_
        refine lv_iload_n hx hb dX8_tellTies_214 rfl (lv_at hl 4 rfl) ?_
        refine va_iald hx hb hK hP 22 21 (mw_22 c q σ32) rfl hw.1 dX8_tellTies_215 ?_
        have hw := hw.2
        refine lv_idiv hx hb dX8_tellTies_216 hw.1 ?_
        have hw := hw.2
        refine lv_topi (fun v33 ev33 => ?_)
        have hw := hw v33 ev33
        refine lv_istore_n (lv' := [(2, .int v33), (4, .int v30), (0, .ref (q 0)), (1, .int z1), (3, .int y3)]) hx hb dX8_tellTies_217 rfl hl (by decide) rfl (fun ls hl => ?_)
        obtain ⟨v34, ev34⟩ : ∃ z : Int32, z = y3 + (1 : Int32) := ⟨_, rfl⟩
        have hw := hw v34 ev34
        refine lv_iinc (v := v34) (lv' := [(3, .int v34), (2, .int v33), (4, .int v30), (0, .ref (q 0)), (1, .int z1)]) hx hb dX8_tellTies_218 hl (k := 4) rfl (by rw [ev34]; rfl) (by decide) rfl (fun ls hl => ?_)
        refine lv_goto (tgt := 182) hx hb dX8_tellTies_221 (by decide) ?_
        exact ih v33 v34 σ32 _ _ _ hw hk224 hP hS (lv_sub hl [3, 4, 1, 0] rfl)
  have L258 : ∀ (K325 : Int32 → Int32 → hsS → Prop) (z1 : Int32) (z3 : Int32) (n : Nat) (y2 : Int32) (y4 : Int32) (σ : hsS) (H : Heap) (locs : List Loc) (ls : Array Slot), wX8_tellTies_L258 z1 z3 K325 post n y2 y4 σ → (∀ (y2 : Int32) (y4 : Int32) (σ : hsS) (H : Heap) (locs : List Loc) (ls : Array Slot), K325 y2 y4 σ → va_P D vwCl (mw c q σ) H → va_S (wdA 31 q) s.heap H locs → lv_has ls 6 [(0, .ref (q 0)), (1, .int z1), (2, .int y2), (3, .int z3), (4, .int y4)] → W p l e (headSpec (Cond.code yX8_tellTies cX8_tellTies 6 (some .boolean) :: tb_L) { frames := 4, cells := 0, slots := 0, locals := 114 }).room s m [.ref (q 0)].toArray below meth c₀ H locs 0 0 (MQ below (va_Qi post (wdB D (mw c q)) (wdA 31 q)) [.ref (q 0)].toArray s 0 0 (wdA 31 q)) (F0 m 325 ls [])) → va_P D vwCl (mw c q σ) H → va_S (wdA 31 q) s.heap H locs → lv_has ls 6 [(0, .ref (q 0)), (1, .int z1), (2, .int y2), (3, .int z3), (4, .int y4)] → W p l e (headSpec (Cond.code yX8_tellTies cX8_tellTies 6 (some .boolean) :: tb_L) { frames := 4, cells := 0, slots := 0, locals := 114 }).room s m [.ref (q 0)].toArray below meth c₀ H locs 0 0 (MQ below (va_Qi post (wdB D (mw c q)) (wdA 31 q)) [.ref (q 0)].toArray s 0 0 (wdA 31 q)) (F0 m 258 ls []) := by
    intro K325 z1 z3 n
    induction n with
    | zero =>
      intro y2 y4 σ H locs ls hw hk325 hP hS hl
      exact (show False from hw).elim
    | succ n ih =>
      intro y2 y4 σ H locs ls hw hk325 hP hS hl
      rw [wX8_tellTies_L258] at hw
      have hD : va_D (wdA 31 q) (mw c q σ) := mw_D hD0
      refine lv_iload hx hb dX8_tellTies_258 (lv_at hl 4 rfl) ?_
      refine lv_aload_n hx hb dX8_tellTies_260 rfl (lv_at hl 0 rfl) ?_
      refine va_get (D := D) (ci := 8) (C := RX8) (T := TX8) (N := 57) hx hb htb inX8 hown hK hP 0 (mw_0 c q σ) rfl 2 (by decide) (htb _ tb_1183) (fun _ h9 => h9) rfl dX8_tellTies_261 ?_
      refine lv_iconst (v := (0 : Int32)) hx hb dX8_tellTies_264 (by decide) ?_
      refine va_iald hx hb hK hP 2 1 (mw_2 c q σ) rfl (by unfold vp_in; decide) dX8_tellTies_265 ?_
      refine lv_icmp_ge (tgt := 325) hx hb dX8_tellTies_266 (by decide) (fun c45 => ?_) (fun c45 => ?_)
      · have hw := hw.1 c45
        exact hk325 y2 y4 σ _ _ _ hw hP hS (lv_sub hl [0, 1, 2, 3, 4] rfl)
      · have hw := hw.2 c45
        refine lv_sipush (v := (240 : Int32)) hx hb dX8_tellTies_269 (by decide) ?_
        refine lv_iload hx hb dX8_tellTies_272 (lv_at hl 4 rfl) ?_
        refine lv_imul hx hb dX8_tellTies_274 ?_
        refine lv_iload_n hx hb dX8_tellTies_275 rfl (lv_at hl 2 rfl) ?_
        refine lv_aload_n hx hb dX8_tellTies_276 rfl (lv_at hl 0 rfl) ?_
        refine va_get (D := D) (ci := 8) (C := RX8) (T := TX8) (N := 57) hx hb htb inX8 hown hK hP 0 (mw_0 c q σ) rfl 42 (by decide) (htb _ tb_1223) (fun _ h9 => h9) rfl dX8_tellTies_277 ?_
        refine lv_iload hx hb dX8_tellTies_280 (lv_at hl 4 rfl) ?_
        refine va_iald hx hb hK hP 22 21 (mw_22 c q σ) rfl hw.1 dX8_tellTies_282 ?_
        have hw := hw.2
        refine lv_irem hx hb dX8_tellTies_283 hw.1 ?_
        have hw := hw.2
        refine lv_iadd hx hb dX8_tellTies_284 ?_
        refine lv_topi (fun v46 ev46 => ?_)
        have hw := hw v46 ev46
        refine lv_istore (lv' := [(5, .int v46), (0, .ref (q 0)), (1, .int z1), (2, .int y2), (3, .int z3), (4, .int y4)]) hx hb dX8_tellTies_285 hl (by decide) rfl (fun ls hl => ?_)
        refine lv_aload_n hx hb dX8_tellTies_287 rfl (lv_at hl 1 rfl) ?_
        refine va_get (D := D) (ci := 8) (C := RX8) (T := TX8) (N := 57) hx hb htb inX8 hown hK hP 0 (mw_0 c q σ) rfl 44 (by decide) (htb _ tb_1225) (fun _ h9 => h9) rfl dX8_tellTies_288 ?_
        refine lv_iload hx hb dX8_tellTies_291 (lv_at hl 0 rfl) ?_
        refine lv_dup2_11 hx hb dX8_tellTies_293 rfl rfl ?_
        refine va_iald hx hb hK hP 24 23 (mw_24 c q σ) rfl hw.1 dX8_tellTies_294 ?_
        have hw := hw.2
        refine lv_iload_n hx hb dX8_tellTies_295 rfl (lv_at hl 4 rfl) ?_
        refine lv_ior hx hb dX8_tellTies_296 ?_
        refine va_iast hx hb hK hP hD hS 24 23 (mw_24 c q σ) rfl hw.1 dX8_tellTies_297 (fun H locs hP hD hS => ?_)
        have hw := hw.2
        have hP : va_P D vwCl (mw c q (hsA σ 24 (upd (σ.2.1 24) v46.toNatClampNeg ((σ.2.1 24 v46.toNatClampNeg) ||| z3)))) H := hP
        obtain ⟨σ47, eσ47⟩ : ∃ z : hsS, z = hsA σ 24 (upd (σ.2.1 24) v46.toNatClampNeg ((σ.2.1 24 v46.toNatClampNeg) ||| z3)) := ⟨_, rfl⟩
        rw [← eσ47] at hP
        have hD : va_D (wdA 31 q) (mw c q σ47) := mw_D hD0
        have hw := hw σ47 eσ47
        refine lv_aload_n hx hb dX8_tellTies_298 rfl (lv_at hl 1 rfl) ?_
        refine va_get (D := D) (ci := 8) (C := RX8) (T := TX8) (N := 57) hx hb htb inX8 hown hK hP 0 (mw_0 c q σ47) rfl 45 (by decide) (htb _ tb_1226) (fun _ h9 => h9) rfl dX8_tellTies_299 ?_
        refine lv_iload hx hb dX8_tellTies_302 (lv_at hl 0 rfl) ?_
        refine lv_dup2_11 hx hb dX8_tellTies_304 rfl rfl ?_
        refine va_iald hx hb hK hP 25 24 (mw_25 c q σ47) rfl hw.1 dX8_tellTies_305 ?_
        have hw := hw.2
        refine lv_iload_n hx hb dX8_tellTies_306 rfl (lv_at hl 4 rfl) ?_
        refine lv_iand hx hb dX8_tellTies_307 ?_
        refine va_iast hx hb hK hP hD hS 25 24 (mw_25 c q σ47) rfl hw.1 dX8_tellTies_308 (fun H locs hP hD hS => ?_)
        have hw := hw.2
        have hP : va_P D vwCl (mw c q (hsA σ47 25 (upd (σ47.2.1 25) v46.toNatClampNeg ((σ47.2.1 25 v46.toNatClampNeg) &&& z3)))) H := hP
        obtain ⟨σ48, eσ48⟩ : ∃ z : hsS, z = hsA σ47 25 (upd (σ47.2.1 25) v46.toNatClampNeg ((σ47.2.1 25 v46.toNatClampNeg) &&& z3)) := ⟨_, rfl⟩
        rw [← eσ48] at hP
        have hD : va_D (wdA 31 q) (mw c q σ48) := mw_D hD0
        have hw := hw σ48 eσ48
        refine lv_iload_n hx hb dX8_tellTies_309 rfl (lv_at hl 3 rfl) ?_
        refine lv_aload_n hx hb dX8_tellTies_310 rfl (lv_at hl 1 rfl) ?_
        refine va_get (D := D) (ci := 8) (C := RX8) (T := TX8) (N := 57) hx hb htb inX8 hown hK hP 0 (mw_0 c q σ48) rfl 42 (by decide) (htb _ tb_1223) (fun _ h9 => h9) rfl dX8_tellTies_311 ?_
        refine lv_iload hx hb dX8_tellTies_314 (lv_at hl 5 rfl) ?_
        refine va_iald hx hb hK hP 22 21 (mw_22 c q σ48) rfl hw.1 dX8_tellTies_316 ?_
        have hw := hw.2
        refine lv_idiv hx hb dX8_tellTies_317 hw.1 ?_
        have hw := hw.2
        refine lv_topi (fun v49 ev49 => ?_)
        have hw := hw v49 ev49
        refine lv_istore_n (lv' := [(2, .int v49), (5, .int v46), (0, .ref (q 0)), (1, .int z1), (3, .int z3), (4, .int y4)]) hx hb dX8_tellTies_318 rfl hl (by decide) rfl (fun ls hl => ?_)
        obtain ⟨v50, ev50⟩ : ∃ z : Int32, z = y4 + (1 : Int32) := ⟨_, rfl⟩
        have hw := hw v50 ev50
        refine lv_iinc (v := v50) (lv' := [(4, .int v50), (2, .int v49), (5, .int v46), (0, .ref (q 0)), (1, .int z1), (3, .int z3)]) hx hb dX8_tellTies_319 hl (k := 5) rfl (by rw [ev50]; rfl) (by decide) rfl (fun ls hl => ?_)
        refine lv_goto (tgt := 258) hx hb dX8_tellTies_322 (by decide) ?_
        exact ih v49 v50 σ48 _ _ _ hw hk325 hP hS (lv_sub hl [3, 4, 1, 5, 0] rfl)
  have L170 : ∀ (K331 : Int32 → hsS → Prop) (n : Nat) (y1 : Int32) (σ : hsS) (H : Heap) (locs : List Loc) (ls : Array Slot), wX8_tellTies_L170  K331 post n y1 σ → (∀ (y1 : Int32) (σ : hsS) (H : Heap) (locs : List Loc) (ls : Array Slot), K331 y1 σ → va_P D vwCl (mw c q σ) H → va_S (wdA 31 q) s.heap H locs → lv_has ls 6 [(0, .ref (q 0)), (1, .int y1)] → W p l e (headSpec (Cond.code yX8_tellTies cX8_tellTies 6 (some .boolean) :: tb_L) { frames := 4, cells := 0, slots := 0, locals := 114 }).room s m [.ref (q 0)].toArray below meth c₀ H locs 0 0 (MQ below (va_Qi post (wdB D (mw c q)) (wdA 31 q)) [.ref (q 0)].toArray s 0 0 (wdA 31 q)) (F0 m 331 ls [])) → va_P D vwCl (mw c q σ) H → va_S (wdA 31 q) s.heap H locs → lv_has ls 6 [(0, .ref (q 0)), (1, .int y1)] → W p l e (headSpec (Cond.code yX8_tellTies cX8_tellTies 6 (some .boolean) :: tb_L) { frames := 4, cells := 0, slots := 0, locals := 114 }).room s m [.ref (q 0)].toArray below meth c₀ H locs 0 0 (MQ below (va_Qi post (wdB D (mw c q)) (wdA 31 q)) [.ref (q 0)].toArray s 0 0 (wdA 31 q)) (F0 m 170 ls []) := by
    intro K331 n
    induction n with
    | zero =>
      intro y1 σ H locs ls hw hk331 hP hS hl
      exact (show False from hw).elim
    | succ n ih =>
      intro y1 σ H locs ls hw hk331 hP hS hl
      rw [wX8_tellTies_L170] at hw
      have hD : va_D (wdA 31 q) (mw c q σ) := mw_D hD0
      refine lv_iload_n hx hb dX8_tellTies_170 rfl (lv_at hl 1 rfl) ?_
      refine lv_aload_n hx hb dX8_tellTies_171 rfl (lv_at hl 0 rfl) ?_
      refine va_get (D := D) (ci := 8) (C := RX8) (T := TX8) (N := 57) hx hb htb inX8 hown hK hP 0 (mw_0 c q σ) rfl 47 (by decide) (htb _ tb_1228) (fun _ h9 => h9) rfl dX8_tellTies_172 ?_
      refine lv_icmp_ge (tgt := 331) hx hb dX8_tellTies_175 (by decide) (fun c28 => ?_) (fun c28 => ?_)
      · have hw := hw.1 c28
        exact hk331 y1 σ _ _ _ hw hP hS (lv_sub hl [0, 1] rfl)
      · have hw := hw.2 c28
        refine lv_iload_n hx hb dX8_tellTies_178 rfl (lv_at hl 1 rfl) ?_
        refine lv_istore_n (lv' := [(2, .int y1), (0, .ref (q 0)), (1, .int y1)]) hx hb dX8_tellTies_179 rfl hl (by decide) rfl (fun ls hl => ?_)
        refine lv_iconst (v := (0 : Int32)) hx hb dX8_tellTies_180 (by decide) ?_
        refine lv_istore_n (lv' := [(3, .int (0 : Int32)), (2, .int y1), (0, .ref (q 0)), (1, .int y1)]) hx hb dX8_tellTies_181 rfl hl (by decide) rfl (fun ls hl => ?_)
        obtain ⟨n35, hw⟩ := hw
        refine L182 _ y1 n35 y1 (0 : Int32) σ _ _ _ hw ?_ hP hS (lv_sub hl [2, 3, 1, 0] rfl)
        intro v36 v37 σ38 H locs ls hw hP hS hl
        have hD : va_D (wdA 31 q) (mw c q σ38) := mw_D hD0
        refine lv_aload_n hx hb dX8_tellTies_224 rfl (lv_at hl 0 rfl) ?_
        refine lv_aload_n hx hb dX8_tellTies_225 rfl (lv_at hl 0 rfl) ?_
        refine va_calli (va_runV (As := []) (rest := [.ref (q 0)]) ⟨hx, hb, hml, hown, htb⟩ (kcX8_everybody l D c q ev hev σ38  _ hw) (tb_CW htb kX8_everybody tb_1485 tb_1487 tb_61 ⟨Nat.le_of_ble_eq_true rfl, Nat.le_of_ble_eq_true rfl⟩) (wd_preV (wd := mw c q) (k := 0) hev hK hP hD hE hS (mw_0 c q σ38) rfl) rfl rfl hl.1 rfl (lv_room (Nat.le_of_ble_eq_true rfl)) dX8_tellTies_226 ⟨Nat.zero_le _, Nat.zero_le _⟩) hS (fun q _ h => h) (fun q h => h) (fun r39 σ40 t H1 locs1 ht hvm hw hB hz1 hk1 hS => ?_)
        have hP : va_P D vwCl (mw c q σ40) H1 := ht ▸ hB
        have hD : va_D (wdA 31 q) (mw c q σ40) := mw_D hD0
        refine va_calli (va_runV (As := [.int r39]) (rest := []) ⟨hx, hb, hml, hown, htb⟩ (kcX8_coreOf l D c q ev hev σ40 r39 _ hw) (tb_CW htb kX8_coreOf tb_1535 tb_1537 tb_68 ⟨Nat.le_of_ble_eq_true rfl, Nat.le_of_ble_eq_true rfl⟩) (wd_preV (wd := mw c q) (k := 0) hev hK hP hD hE hS (mw_0 c q σ40) rfl) rfl rfl hl.1 rfl (lv_room (Nat.le_of_ble_eq_true rfl)) dX8_tellTies_229 ⟨Nat.zero_le _, Nat.zero_le _⟩) hS (fun q _ h => h) (fun q h => h) (fun r41 σ42 t H1 locs1 ht hvm hw hB hz1 hk1 hS => ?_)
        have hP : va_P D vwCl (mw c q σ42) H1 := ht ▸ hB
        have hD : va_D (wdA 31 q) (mw c q σ42) := mw_D hD0
        refine lv_istore_n (lv' := [(3, .int r41), (0, .ref (q 0)), (1, .int y1), (2, .int v36)]) hx hb dX8_tellTies_232 rfl hl (by decide) rfl (fun ls hl => ?_)
        refine lv_aload_n hx hb dX8_tellTies_233 rfl (lv_at hl 1 rfl) ?_
        refine lv_dup hx hb dX8_tellTies_234 rfl ?_
        refine va_get (D := D) (ci := 8) (C := RX8) (T := TX8) (N := 57) hx hb htb inX8 hown hK hP 0 (mw_0 c q σ42) rfl 48 (by decide) (htb _ tb_1229) (fun _ h9 => h9) rfl dX8_tellTies_235 ?_
        refine lv_iload_n hx hb dX8_tellTies_238 rfl (lv_at hl 0 rfl) ?_
        refine lv_ior hx hb dX8_tellTies_239 ?_
        refine va_put (D := D) (ci := 8) (ty := .int) (C := RX8) (T := TX8) (N := 57) hx hb htb inX8 tyX8 tyX8_ok nmX8 hown hK hP hD hS 0 (mw_0 c q σ42) rfl 48 (by decide) (htb _ tb_1229) (fun _ h9 => h9) rfl (by decide +kernel) rfl rfl (Nat.le_of_ble_eq_true rfl) dX8_tellTies_240 (fun H locs hP hD hS => ?_)
        have hP : va_P D vwCl (mw c q (hsI σ42 48 ((σ42.1 48) ||| r41))) H := hP
        obtain ⟨σ43, eσ43⟩ : ∃ z : hsS, z = hsI σ42 48 ((σ42.1 48) ||| r41) := ⟨_, rfl⟩
        rw [← eσ43] at hP
        have hD : va_D (wdA 31 q) (mw c q σ43) := mw_D hD0
        have hw := hw σ43 eσ43
        refine lv_aload_n hx hb dX8_tellTies_243 rfl (lv_at hl 1 rfl) ?_
        refine lv_dup hx hb dX8_tellTies_244 rfl ?_
        refine va_get (D := D) (ci := 8) (C := RX8) (T := TX8) (N := 57) hx hb htb inX8 hown hK hP 0 (mw_0 c q σ43) rfl 49 (by decide) (htb _ tb_1230) (fun _ h9 => h9) rfl dX8_tellTies_245 ?_
        refine lv_iload_n hx hb dX8_tellTies_248 rfl (lv_at hl 0 rfl) ?_
        refine lv_iand hx hb dX8_tellTies_249 ?_
        refine va_put (D := D) (ci := 8) (ty := .int) (C := RX8) (T := TX8) (N := 57) hx hb htb inX8 tyX8 tyX8_ok nmX8 hown hK hP hD hS 0 (mw_0 c q σ43) rfl 49 (by decide) (htb _ tb_1230) (fun _ h9 => h9) rfl (by decide +kernel) rfl rfl (Nat.le_of_ble_eq_true rfl) dX8_tellTies_250 (fun H locs hP hD hS => ?_)
        have hP : va_P D vwCl (mw c q (hsI σ43 49 ((σ43.1 49) &&& r41))) H := hP
        obtain ⟨σ44, eσ44⟩ : ∃ z : hsS, z = hsI σ43 49 ((σ43.1 49) &&& r41) := ⟨_, rfl⟩
        rw [← eσ44] at hP
        have hD : va_D (wdA 31 q) (mw c q σ44) := mw_D hD0
        have hw := hw σ44 eσ44
        refine lv_iload_n hx hb dX8_tellTies_253 rfl (lv_at hl 2 rfl) ?_
        refine lv_istore_n (lv' := [(2, .int y1), (3, .int r41), (0, .ref (q 0)), (1, .int y1)]) hx hb dX8_tellTies_254 rfl hl (by decide) rfl (fun ls hl => ?_)
        refine lv_iconst (v := (0 : Int32)) hx hb dX8_tellTies_255 (by decide) ?_
        refine lv_istore (lv' := [(4, .int (0 : Int32)), (2, .int y1), (3, .int r41), (0, .ref (q 0)), (1, .int y1)]) hx hb dX8_tellTies_256 hl (by decide) rfl (fun ls hl => ?_)
        obtain ⟨n51, hw⟩ := hw
        refine L258 _ y1 r41 n51 y1 (0 : Int32) σ44 _ _ _ hw ?_ hP hS (lv_sub hl [3, 4, 1, 2, 0] rfl)
        intro v52 v53 σ54 H locs ls hw hP hS hl
        have hD : va_D (wdA 31 q) (mw c q σ54) := mw_D hD0
        obtain ⟨v55, ev55⟩ : ∃ z : Int32, z = y1 + (1 : Int32) := ⟨_, rfl⟩
        have hw := hw v55 ev55
        refine lv_iinc (v := v55) (lv' := [(1, .int v55), (0, .ref (q 0)), (2, .int v52), (3, .int r41), (4, .int v53)]) hx hb dX8_tellTies_325 hl (k := 1) rfl (by rw [ev55]; rfl) (by decide) rfl (fun ls hl => ?_)
        refine lv_goto (tgt := 170) hx hb dX8_tellTies_328 (by decide) ?_
        exact ih v55 σ54 _ _ _ hw hk331 hP hS (lv_sub hl [1, 0] rfl)
  have hl := lv_entry ([.ref (q 0)]) (n := 6) (Nat.le_of_ble_eq_true rfl)
  rw [lg_entry_eq]
  generalize (lg_sl ([.ref (q 0)]) ++ List.replicate (6 - (lg_sl ([.ref (q 0)])).length) Slot.unset).toArray = ls at hl ⊢
  have hl : lv_has ls 6 [(0, .ref (q 0))] := hl
  unfold wX8_tellTies at hw
  refine lv_aload_n hx hb dX8_tellTies_0 rfl (lv_at hl 0 rfl) ?_
  refine va_get (D := D) (ci := 8) (C := RX8) (T := TX8) (N := 57) hx hb htb inX8 hown hK hP 0 (mw_0 c q σ) rfl 50 (by decide) (htb _ tb_1231) (fun _ h9 => h9) rfl dX8_tellTies_1 ?_
  refine lv_aload_n hx hb dX8_tellTies_4 rfl (lv_at hl 0 rfl) ?_
  refine va_get (D := D) (ci := 8) (C := RX8) (T := TX8) (N := 57) hx hb htb inX8 hown hK hP 0 (mw_0 c q σ) rfl 12 (by decide) (htb _ tb_1193) (fun _ h9 => h9) rfl dX8_tellTies_5 ?_
  refine lv_icmp_ne (tgt := 24) hx hb dX8_tellTies_8 (by decide) (fun c1 => ?_) (fun c1 => ?_)
  · have hw := hw.2 c1
    refine lv_aload_n hx hb dX8_tellTies_24 rfl (lv_at hl 0 rfl) ?_
    refine lv_aload_n hx hb dX8_tellTies_25 rfl (lv_at hl 0 rfl) ?_
    refine va_get (D := D) (ci := 8) (C := RX8) (T := TX8) (N := 57) hx hb htb inX8 hown hK hP 0 (mw_0 c q σ) rfl 12 (by decide) (htb _ tb_1193) (fun _ h9 => h9) rfl dX8_tellTies_26 ?_
    refine va_put (D := D) (ci := 8) (ty := .int) (C := RX8) (T := TX8) (N := 57) hx hb htb inX8 tyX8 tyX8_ok nmX8 hown hK hP hD hS 0 (mw_0 c q σ) rfl 50 (by decide) (htb _ tb_1231) (fun _ h9 => h9) rfl (by decide +kernel) rfl rfl (Nat.le_of_ble_eq_true rfl) dX8_tellTies_29 (fun H locs hP hD hS => ?_)
    have hP : va_P D vwCl (mw c q (hsI σ 50 (σ.1 12))) H := hP
    obtain ⟨σ3, eσ3⟩ : ∃ z : hsS, z = hsI σ 50 (σ.1 12) := ⟨_, rfl⟩
    rw [← eσ3] at hP
    have hD : va_D (wdA 31 q) (mw c q σ3) := mw_D hD0
    have hw := hw σ3 eσ3
    refine lv_aload_n hx hb dX8_tellTies_32 rfl (lv_at hl 0 rfl) ?_
    refine lv_iconst (v := (1 : Int32)) hx hb dX8_tellTies_33 (by decide) ?_
    refine va_put (D := D) (ci := 8) (ty := .int) (C := RX8) (T := TX8) (N := 57) hx hb htb inX8 tyX8 tyX8_ok nmX8 hown hK hP hD hS 0 (mw_0 c q σ3) rfl 47 (by decide) (htb _ tb_1228) (fun _ h9 => h9) rfl (by decide +kernel) rfl rfl (Nat.le_of_ble_eq_true rfl) dX8_tellTies_34 (fun H locs hP hD hS => ?_)
    have hP : va_P D vwCl (mw c q (hsI σ3 47 (1 : Int32))) H := hP
    obtain ⟨σ4, eσ4⟩ : ∃ z : hsS, z = hsI σ3 47 (1 : Int32) := ⟨_, rfl⟩
    rw [← eσ4] at hP
    have hD : va_D (wdA 31 q) (mw c q σ4) := mw_D hD0
    have hw := hw σ4 eσ4
    refine lv_iconst (v := (0 : Int32)) hx hb dX8_tellTies_37 (by decide) ?_
    refine lv_istore_n (lv' := [(1, .int (0 : Int32)), (0, .ref (q 0))]) hx hb dX8_tellTies_38 rfl hl (by decide) rfl (fun ls hl => ?_)
    obtain ⟨n11, hw⟩ := hw
    refine L39 _ n11 (0 : Int32) σ4 _ _ _ hw ?_ hP hS (lv_sub hl [1, 0] rfl)
    intro v12 σ13 H locs ls hw hP hS hl
    have hD : va_D (wdA 31 q) (mw c q σ13) := mw_D hD0
    refine lv_aload_n hx hb dX8_tellTies_87 rfl (lv_at hl 0 rfl) ?_
    refine lv_aload_n hx hb dX8_tellTies_88 rfl (lv_at hl 0 rfl) ?_
    refine va_get (D := D) (ci := 8) (C := RX8) (T := TX8) (N := 57) hx hb htb inX8 hown hK hP 0 (mw_0 c q σ13) rfl 47 (by decide) (htb _ tb_1228) (fun _ h9 => h9) rfl dX8_tellTies_89 ?_
    refine lv_sipush (v := (240 : Int32)) hx hb dX8_tellTies_92 (by decide) ?_
    refine lv_icmp_le (tgt := 102) hx hb dX8_tellTies_95 (by decide) (fun c14 => ?_) (fun c14 => ?_)
    · have hw := hw.1 c14
      refine lv_iconst (v := (0 : Int32)) hx hb dX8_tellTies_102 (by decide) ?_
      refine va_put (D := D) (ci := 8) (ty := .boolean) (C := RX8) (T := TX8) (N := 57) hx hb htb inX8 tyX8 tyX8_ok nmX8 hown hK hP hD hS 0 (mw_0 c q σ13) rfl 51 (by decide) (htb _ tb_1232) (fun _ h9 => h9) rfl (by decide +kernel) rfl rfl (Nat.le_of_ble_eq_true rfl) dX8_tellTies_103 (fun H locs hP hD hS => ?_)
      have hP : va_P D vwCl (mw c q (hsI σ13 51 (0 : Int32))) H := hP
      obtain ⟨σ15, eσ15⟩ : ∃ z : hsS, z = hsI σ13 51 (0 : Int32) := ⟨_, rfl⟩
      rw [← eσ15] at hP
      have hD : va_D (wdA 31 q) (mw c q σ15) := mw_D hD0
      have hw := hw σ15 eσ15
      refine lv_aload_n hx hb dX8_tellTies_106 rfl (lv_at hl 0 rfl) ?_
      refine va_get (D := D) (ci := 8) (C := RX8) (T := TX8) (N := 57) hx hb htb inX8 hown hK hP 0 (mw_0 c q σ15) rfl 51 (by decide) (htb _ tb_1232) (fun _ h9 => h9) rfl dX8_tellTies_107 ?_
      refine lv_if_eq (tgt := 115) hx hb dX8_tellTies_110 (by decide) (fun c16 => ?_) (fun c16 => ?_)
      · have hw := hw.1 c16
        refine lv_aload_n hx hb dX8_tellTies_115 rfl (lv_at hl 0 rfl) ?_
        refine va_callv (va_runV (As := []) (rest := []) ⟨hx, hb, hml, hown, htb⟩ (kcX8_look l D c q ev hev σ15  _ hw) (tb_CW htb kX8_look tb_1500 tb_1502 tb_63 ⟨Nat.le_of_ble_eq_true rfl, Nat.le_of_ble_eq_true rfl⟩) (wd_preV (wd := mw c q) (k := 0) hev hK hP hD hE hS (mw_0 c q σ15) rfl) rfl rfl hl.1 rfl (lv_room (Nat.le_of_ble_eq_true rfl)) dX8_tellTies_116 ⟨Nat.zero_le _, Nat.zero_le _⟩) hS (fun q _ h => h) (fun q h => h) (fun σ18 t H1 locs1 ht hvm hw hB hz1 hk1 hS => ?_)
        have hP : va_P D vwCl (mw c q σ18) H1 := ht ▸ hB
        have hD : va_D (wdA 31 q) (mw c q σ18) := mw_D hD0
        refine lv_aload_n hx hb dX8_tellTies_119 rfl (lv_at hl 0 rfl) ?_
        refine lv_iconst (v := (0 : Int32)) hx hb dX8_tellTies_120 (by decide) ?_
        refine va_put (D := D) (ci := 8) (ty := .int) (C := RX8) (T := TX8) (N := 57) hx hb htb inX8 tyX8 tyX8_ok nmX8 hown hK hP hD hS 0 (mw_0 c q σ18) rfl 48 (by decide) (htb _ tb_1229) (fun _ h9 => h9) rfl (by decide +kernel) rfl rfl (Nat.le_of_ble_eq_true rfl) dX8_tellTies_121 (fun H locs hP hD hS => ?_)
        have hP : va_P D vwCl (mw c q (hsI σ18 48 (0 : Int32))) H := hP
        obtain ⟨σ19, eσ19⟩ : ∃ z : hsS, z = hsI σ18 48 (0 : Int32) := ⟨_, rfl⟩
        rw [← eσ19] at hP
        have hD : va_D (wdA 31 q) (mw c q σ19) := mw_D hD0
        have hw := hw σ19 eσ19
        refine lv_aload_n hx hb dX8_tellTies_124 rfl (lv_at hl 0 rfl) ?_
        refine lv_iconst (v := (1 : Int32)) hx hb dX8_tellTies_125 (by decide) ?_
        refine lv_aload_n hx hb dX8_tellTies_126 rfl (lv_at hl 0 rfl) ?_
        refine va_get (D := D) (ci := 8) (C := RX8) (T := TX8) (N := 57) hx hb htb inX8 hown hK hP 0 (mw_0 c q σ19) rfl 25 (by decide) (htb _ tb_1206) (fun _ h9 => h9) rfl dX8_tellTies_127 ?_
        refine lv_ishl hx hb dX8_tellTies_130 ?_
        refine lv_iconst (v := (1 : Int32)) hx hb dX8_tellTies_131 (by decide) ?_
        refine lv_isub hx hb dX8_tellTies_132 ?_
        refine va_put (D := D) (ci := 8) (ty := .int) (C := RX8) (T := TX8) (N := 57) hx hb htb inX8 tyX8 tyX8_ok nmX8 hown hK hP hD hS 0 (mw_0 c q σ19) rfl 49 (by decide) (htb _ tb_1230) (fun _ h9 => h9) rfl (by decide +kernel) rfl rfl (Nat.le_of_ble_eq_true rfl) dX8_tellTies_133 (fun H locs hP hD hS => ?_)
        have hP : va_P D vwCl (mw c q (hsI σ19 49 (((1 : Int32) <<< ((σ19.1 25) &&& 31)) - (1 : Int32)))) H := hP
        obtain ⟨σ20, eσ20⟩ : ∃ z : hsS, z = hsI σ19 49 (((1 : Int32) <<< ((σ19.1 25) &&& 31)) - (1 : Int32)) := ⟨_, rfl⟩
        rw [← eσ20] at hP
        have hD : va_D (wdA 31 q) (mw c q σ20) := mw_D hD0
        have hw := hw σ20 eσ20
        refine lv_iconst (v := (0 : Int32)) hx hb dX8_tellTies_136 (by decide) ?_
        refine lv_istore_n (lv' := [(1, .int (0 : Int32)), (0, .ref (q 0))]) hx hb dX8_tellTies_137 rfl hl (by decide) rfl (fun ls hl => ?_)
        obtain ⟨n25, hw⟩ := hw
        refine L138 _ n25 (0 : Int32) σ20 _ _ _ hw ?_ hP hS (lv_sub hl [1, 0] rfl)
        intro v26 σ27 H locs ls hw hP hS hl
        have hD : va_D (wdA 31 q) (mw c q σ27) := mw_D hD0
        refine lv_iconst (v := (0 : Int32)) hx hb dX8_tellTies_168 (by decide) ?_
        refine lv_istore_n (lv' := [(1, .int (0 : Int32)), (0, .ref (q 0))]) hx hb dX8_tellTies_169 rfl hl (by decide) rfl (fun ls hl => ?_)
        obtain ⟨n56, hw⟩ := hw
        refine L170 _ n56 (0 : Int32) σ27 _ _ _ hw ?_ hP hS (lv_sub hl [1, 0] rfl)
        intro v57 σ58 H locs ls hw hP hS hl
        have hD : va_D (wdA 31 q) (mw c q σ58) := mw_D hD0
        refine lv_iconst (v := (1 : Int32)) hx hb dX8_tellTies_331 (by decide) ?_
        exact W.zret hx hb hr rfl (fun t ht hW => ⟨⟨_, σ58, rfl, hw, by unfold wdB; rw [ht]; exact hP⟩, hS.F ht⟩) hS.2.2 dX8_tellTies_332
      · have hw := hw.2 c16
        refine lv_iconst (v := (0 : Int32)) hx hb dX8_tellTies_113 (by decide) ?_
        exact W.zret hx hb hr rfl (fun t ht hW => ⟨⟨_, σ15, rfl, hw, by unfold wdB; rw [ht]; exact hP⟩, hS.F ht⟩) hS.2.2 dX8_tellTies_114
    · have hw := hw.2 c14
      refine lv_iconst (v := (1 : Int32)) hx hb dX8_tellTies_98 (by decide) ?_
      refine lv_goto (tgt := 103) hx hb dX8_tellTies_99 (by decide) ?_
      refine va_put (D := D) (ci := 8) (ty := .boolean) (C := RX8) (T := TX8) (N := 57) hx hb htb inX8 tyX8 tyX8_ok nmX8 hown hK hP hD hS 0 (mw_0 c q σ13) rfl 51 (by decide) (htb _ tb_1232) (fun _ h9 => h9) rfl (by decide +kernel) rfl rfl (Nat.le_of_ble_eq_true rfl) dX8_tellTies_103 (fun H locs hP hD hS => ?_)
      have hP : va_P D vwCl (mw c q (hsI σ13 51 (1 : Int32))) H := hP
      obtain ⟨σ59, eσ59⟩ : ∃ z : hsS, z = hsI σ13 51 (1 : Int32) := ⟨_, rfl⟩
      rw [← eσ59] at hP
      have hD : va_D (wdA 31 q) (mw c q σ59) := mw_D hD0
      have hw := hw σ59 eσ59
      refine lv_aload_n hx hb dX8_tellTies_106 rfl (lv_at hl 0 rfl) ?_
      refine va_get (D := D) (ci := 8) (C := RX8) (T := TX8) (N := 57) hx hb htb inX8 hown hK hP 0 (mw_0 c q σ59) rfl 51 (by decide) (htb _ tb_1232) (fun _ h9 => h9) rfl dX8_tellTies_107 ?_
      refine lv_if_eq (tgt := 115) hx hb dX8_tellTies_110 (by decide) (fun c60 => ?_) (fun c60 => ?_)
      · have hw := hw.1 c60
        refine lv_aload_n hx hb dX8_tellTies_115 rfl (lv_at hl 0 rfl) ?_
        refine va_callv (va_runV (As := []) (rest := []) ⟨hx, hb, hml, hown, htb⟩ (kcX8_look l D c q ev hev σ59  _ hw) (tb_CW htb kX8_look tb_1500 tb_1502 tb_63 ⟨Nat.le_of_ble_eq_true rfl, Nat.le_of_ble_eq_true rfl⟩) (wd_preV (wd := mw c q) (k := 0) hev hK hP hD hE hS (mw_0 c q σ59) rfl) rfl rfl hl.1 rfl (lv_room (Nat.le_of_ble_eq_true rfl)) dX8_tellTies_116 ⟨Nat.zero_le _, Nat.zero_le _⟩) hS (fun q _ h => h) (fun q h => h) (fun σ62 t H1 locs1 ht hvm hw hB hz1 hk1 hS => ?_)
        have hP : va_P D vwCl (mw c q σ62) H1 := ht ▸ hB
        have hD : va_D (wdA 31 q) (mw c q σ62) := mw_D hD0
        refine lv_aload_n hx hb dX8_tellTies_119 rfl (lv_at hl 0 rfl) ?_
        refine lv_iconst (v := (0 : Int32)) hx hb dX8_tellTies_120 (by decide) ?_
        refine va_put (D := D) (ci := 8) (ty := .int) (C := RX8) (T := TX8) (N := 57) hx hb htb inX8 tyX8 tyX8_ok nmX8 hown hK hP hD hS 0 (mw_0 c q σ62) rfl 48 (by decide) (htb _ tb_1229) (fun _ h9 => h9) rfl (by decide +kernel) rfl rfl (Nat.le_of_ble_eq_true rfl) dX8_tellTies_121 (fun H locs hP hD hS => ?_)
        have hP : va_P D vwCl (mw c q (hsI σ62 48 (0 : Int32))) H := hP
        obtain ⟨σ63, eσ63⟩ : ∃ z : hsS, z = hsI σ62 48 (0 : Int32) := ⟨_, rfl⟩
        rw [← eσ63] at hP
        have hD : va_D (wdA 31 q) (mw c q σ63) := mw_D hD0
        have hw := hw σ63 eσ63
        refine lv_aload_n hx hb dX8_tellTies_124 rfl (lv_at hl 0 rfl) ?_
        refine lv_iconst (v := (1 : Int32)) hx hb dX8_tellTies_125 (by decide) ?_
        refine lv_aload_n hx hb dX8_tellTies_126 rfl (lv_at hl 0 rfl) ?_
        refine va_get (D := D) (ci := 8) (C := RX8) (T := TX8) (N := 57) hx hb htb inX8 hown hK hP 0 (mw_0 c q σ63) rfl 25 (by decide) (htb _ tb_1206) (fun _ h9 => h9) rfl dX8_tellTies_127 ?_
        refine lv_ishl hx hb dX8_tellTies_130 ?_
        refine lv_iconst (v := (1 : Int32)) hx hb dX8_tellTies_131 (by decide) ?_
        refine lv_isub hx hb dX8_tellTies_132 ?_
        refine va_put (D := D) (ci := 8) (ty := .int) (C := RX8) (T := TX8) (N := 57) hx hb htb inX8 tyX8 tyX8_ok nmX8 hown hK hP hD hS 0 (mw_0 c q σ63) rfl 49 (by decide) (htb _ tb_1230) (fun _ h9 => h9) rfl (by decide +kernel) rfl rfl (Nat.le_of_ble_eq_true rfl) dX8_tellTies_133 (fun H locs hP hD hS => ?_)
        have hP : va_P D vwCl (mw c q (hsI σ63 49 (((1 : Int32) <<< ((σ63.1 25) &&& 31)) - (1 : Int32)))) H := hP
        obtain ⟨σ64, eσ64⟩ : ∃ z : hsS, z = hsI σ63 49 (((1 : Int32) <<< ((σ63.1 25) &&& 31)) - (1 : Int32)) := ⟨_, rfl⟩
        rw [← eσ64] at hP
        have hD : va_D (wdA 31 q) (mw c q σ64) := mw_D hD0
        have hw := hw σ64 eσ64
        refine lv_iconst (v := (0 : Int32)) hx hb dX8_tellTies_136 (by decide) ?_
        refine lv_istore_n (lv' := [(1, .int (0 : Int32)), (0, .ref (q 0))]) hx hb dX8_tellTies_137 rfl hl (by decide) rfl (fun ls hl => ?_)
        obtain ⟨n65, hw⟩ := hw
        refine L138 _ n65 (0 : Int32) σ64 _ _ _ hw ?_ hP hS (lv_sub hl [1, 0] rfl)
        intro v66 σ67 H locs ls hw hP hS hl
        have hD : va_D (wdA 31 q) (mw c q σ67) := mw_D hD0
        refine lv_iconst (v := (0 : Int32)) hx hb dX8_tellTies_168 (by decide) ?_
        refine lv_istore_n (lv' := [(1, .int (0 : Int32)), (0, .ref (q 0))]) hx hb dX8_tellTies_169 rfl hl (by decide) rfl (fun ls hl => ?_)
        obtain ⟨n68, hw⟩ := hw
        refine L170 _ n68 (0 : Int32) σ67 _ _ _ hw ?_ hP hS (lv_sub hl [1, 0] rfl)
        intro v69 σ70 H locs ls hw hP hS hl
        have hD : va_D (wdA 31 q) (mw c q σ70) := mw_D hD0
        refine lv_iconst (v := (1 : Int32)) hx hb dX8_tellTies_331 (by decide) ?_
        exact W.zret hx hb hr rfl (fun t ht hW => ⟨⟨_, σ70, rfl, hw, by unfold wdB; rw [ht]; exact hP⟩, hS.F ht⟩) hS.2.2 dX8_tellTies_332
      · have hw := hw.2 c60
        refine lv_iconst (v := (0 : Int32)) hx hb dX8_tellTies_113 (by decide) ?_
        exact W.zret hx hb hr rfl (fun t ht hW => ⟨⟨_, σ59, rfl, hw, by unfold wdB; rw [ht]; exact hP⟩, hS.F ht⟩) hS.2.2 dX8_tellTies_114
  · have hw := hw.1 c1
    refine lv_aload_n hx hb dX8_tellTies_11 rfl (lv_at hl 0 rfl) ?_
    refine va_get (D := D) (ci := 8) (C := RX8) (T := TX8) (N := 57) hx hb htb inX8 hown hK hP 0 (mw_0 c q σ) rfl 51 (by decide) (htb _ tb_1232) (fun _ h9 => h9) rfl dX8_tellTies_12 ?_
    refine lv_if_ne (tgt := 22) hx hb dX8_tellTies_15 (by decide) (fun c2 => ?_) (fun c2 => ?_)
    · have hw := hw.2 c2
      refine lv_iconst (v := (0 : Int32)) hx hb dX8_tellTies_22 (by decide) ?_
      exact W.zret hx hb hr rfl (fun t ht hW => ⟨⟨_, σ, rfl, hw, by unfold wdB; rw [ht]; exact hP⟩, hS.F ht⟩) hS.2.2 dX8_tellTies_23
    · have hw := hw.1 c2
      refine lv_iconst (v := (1 : Int32)) hx hb dX8_tellTies_18 (by decide) ?_
      refine lv_goto (tgt := 23) hx hb dX8_tellTies_19 (by decide) ?_
      exact W.zret hx hb hr rfl (fun t ht hW => ⟨⟨_, σ, rfl, hw, by unfold wdB; rw [ht]; exact hP⟩, hS.F ht⟩) hS.2.2 dX8_tellTies_23
def wX8_ties (x1 : Int32) (post : Int32 → hsS → Prop) (σ : hsS) : Prop := ∀ σ1 : hsS, σ1 = hsI σ 0 (0 : Int32) → ((x1 < (0 : Int32) → wX8_fail (1 : Int32) (fun r3 σ4 => post r3 σ4) σ1) ∧ (¬ x1 < (0 : Int32) → ((x1 ≤ (3 : Int32) → wX8_tellTies  (fun r6 σ7 => ((r6 = (0 : Int32) → post (-1 : Int32) σ7) ∧ (¬ r6 = (0 : Int32) → ((x1 = (0 : Int32) → post (σ7.1 47) σ7) ∧ (¬ x1 = (0 : Int32) → ((x1 = (1 : Int32) → post (σ7.1 49) σ7) ∧ (¬ x1 = (1 : Int32) → ((x1 = (2 : Int32) → post ((((1 : Int32) <<< ((σ7.2.1 1 (0 : Int32).toNatClampNeg) &&& 31)) - (1 : Int32)) &&& ((σ7.1 48) ^^^ (-1 : Int32))) σ7) ∧ (¬ x1 = (2 : Int32) → post ((σ7.1 48) &&& ((σ7.1 49) ^^^ (-1 : Int32))) σ7))))))))) σ1) ∧ (¬ x1 ≤ (3 : Int32) → wX8_fail (1 : Int32) (fun r12 σ13 => post r12 σ13) σ1))))
set_option maxHeartbeats 4000000 in
set_option maxRecDepth 100000 in
theorem kcX8_ties (l : Launch) (D : va_G) (c : Nat → ClassId) (q : Nat → Nat) (ev : State → Heap → Prop) (hev : evOK (wdA 31 q) ev) (σ : hsS) (x1 : Int32) (post : Int32 → hsS → Prop) (hw : wX8_ties x1 post σ) : Met l yX8_ties (Cond.code yX8_ties cX8_ties 2 (some .int) :: tb_L) { frames := 5, cells := 0, slots := 0, locals := 139 } (wdPc D (mw c q) (mwT c) (wdA 31 q) ev σ [.ref (q 0), .int x1]) (va_Qi post (wdB D (mw c q)) (wdA 31 q)) 0 0 (wdA 31 q) := by
  refine Met.ofW (cc := cX8_ties) (maxL := 2) (ret := (some .int)) (by decide) rfl ?_
  intro p e s m args below meth c₀ s₁ Bd hml hv
  obtain ⟨rfl, hP, hK, hD0, hE⟩ := hv
  have hx := Bd.exec
  have hb := Bd.bytes
  have hr := Bd.returns
  have hts := atoms_spec (ws := Cond.code yX8_ties cX8_ties 2 (some .int) :: tb_L) Bd.pre
  have htb : ∀ w ∈ tb_L, w.before [.ref (q 0), .int x1].toArray s = true := fun w h => hts w (List.mem_cons_of_mem _ h)
  have hown : s.vm.findClass RX8 = some m.cls := findClass_of_methodNamed Bd.named
  have hlocks := Bd.notSynchronized
  have hS : va_S (wdA 31 q) s.heap s.heap [] := va_S.rf
  have hD := hD0
  have hl := lv_entry ([.ref (q 0), .int x1]) (n := 2) (Nat.le_of_ble_eq_true rfl)
  rw [lg_entry_eq]
  generalize (lg_sl ([.ref (q 0), .int x1]) ++ List.replicate (2 - (lg_sl ([.ref (q 0), .int x1])).length) Slot.unset).toArray = ls at hl ⊢
  have hl : lv_has ls 2 [(0, .ref (q 0)), (1, .int x1)] := hl
  unfold wX8_ties at hw
  refine lv_aload_n hx hb dX8_ties_0 rfl (lv_at hl 0 rfl) ?_
  refine lv_iconst (v := (0 : Int32)) hx hb dX8_ties_1 (by decide) ?_
  refine va_put (D := D) (ci := 8) (ty := .int) (C := RX8) (T := TX8) (N := 57) hx hb htb inX8 tyX8 tyX8_ok nmX8 hown hK hP hD hS 0 (mw_0 c q σ) rfl 0 (by decide) (htb _ tb_1181) (fun _ h9 => h9) rfl (by decide +kernel) rfl rfl (Nat.le_of_ble_eq_true rfl) dX8_ties_2 (fun H locs hP hD hS => ?_)
  have hP : va_P D vwCl (mw c q (hsI σ 0 (0 : Int32))) H := hP
  obtain ⟨σ1, eσ1⟩ : ∃ z : hsS, z = hsI σ 0 (0 : Int32) := ⟨_, rfl⟩
  rw [← eσ1] at hP
  have hD : va_D (wdA 31 q) (mw c q σ1) := mw_D hD0
  have hw := hw σ1 eσ1
  refine lv_iload_n hx hb dX8_ties_5 rfl (lv_at hl 1 rfl) ?_
  refine lv_if_lt (tgt := 14) hx hb dX8_ties_6 (by decide) (fun c2 => ?_) (fun c2 => ?_)
  · have hw := hw.1 c2
    refine lv_aload_n hx hb dX8_ties_14 rfl (lv_at hl 0 rfl) ?_
    refine lv_iconst (v := (1 : Int32)) hx hb dX8_ties_15 (by decide) ?_
    refine va_calli (va_runV (As := [.int (1 : Int32)]) (rest := []) ⟨hx, hb, hml, hown, htb⟩ (kcX8_fail l D c q ev hev σ1 (1 : Int32) _ hw) (tb_CW htb kX8_fail tb_1366 tb_1368 tb_42 ⟨Nat.le_of_ble_eq_true rfl, Nat.le_of_ble_eq_true rfl⟩) (wd_preV (wd := mw c q) (k := 0) hev hK hP hD hE hS (mw_0 c q σ1) rfl) rfl rfl hl.1 rfl (lv_room (Nat.le_of_ble_eq_true rfl)) dX8_ties_16 ⟨Nat.zero_le _, Nat.zero_le _⟩) hS (fun q _ h => h) (fun q h => h) (fun r3 σ4 t H1 locs1 ht hvm hw hB hz1 hk1 hS => ?_)
    have hP : va_P D vwCl (mw c q σ4) H1 := ht ▸ hB
    have hD : va_D (wdA 31 q) (mw c q σ4) := mw_D hD0
    exact W.iret hx hb hr (fun t ht hW => ⟨⟨_, σ4, rfl, hw, by unfold wdB; rw [ht]; exact hP⟩, hS.F ht⟩) hS.2.2 dX8_ties_19
  · have hw := hw.2 c2
    refine lv_iload_n hx hb dX8_ties_9 rfl (lv_at hl 1 rfl) ?_
    refine lv_iconst (v := (3 : Int32)) hx hb dX8_ties_10 (by decide) ?_
    refine lv_icmp_le (tgt := 20) hx hb dX8_ties_11 (by decide) (fun c5 => ?_) (fun c5 => ?_)
    · have hw := hw.1 c5
      refine lv_aload_n hx hb dX8_ties_20 rfl (lv_at hl 0 rfl) ?_
      refine va_calli (va_runV (As := []) (rest := []) ⟨hx, hb, hml, hown, htb⟩ (kcX8_tellTies l D c q ev hev σ1  _ hw) (tb_CW htb kX8_tellTies tb_1660 tb_1662 tb_83 ⟨Nat.le_of_ble_eq_true rfl, Nat.le_of_ble_eq_true rfl⟩) (wd_preV (wd := mw c q) (k := 0) hev hK hP hD hE hS (mw_0 c q σ1) rfl) rfl rfl hl.1 rfl (lv_room (Nat.le_of_ble_eq_true rfl)) dX8_ties_21 ⟨Nat.zero_le _, Nat.zero_le _⟩) hS (fun q _ h => h) (fun q h => h) (fun r6 σ7 t H1 locs1 ht hvm hw hB hz1 hk1 hS => ?_)
      have hP : va_P D vwCl (mw c q σ7) H1 := ht ▸ hB
      have hD : va_D (wdA 31 q) (mw c q σ7) := mw_D hD0
      refine lv_if_ne (tgt := 29) hx hb dX8_ties_24 (by decide) (fun c8 => ?_) (fun c8 => ?_)
      · have hw := hw.2 c8
        refine lv_iload_n hx hb dX8_ties_29 rfl (lv_at hl 1 rfl) ?_
        by_cases c9 : x1 = (0 : Int32)
        · have hw := hw.1 c9
          refine lv_tableIn (off := 26) (tgt := 56) hx hb dX8_ties_30 (by rw [c9]; decide) (by rw [c9]; decide) (by rw [c9]; rfl) (by decide) ?_
          refine lv_aload_n hx hb dX8_ties_56 rfl (lv_at hl 0 rfl) ?_
          refine va_get (D := D) (ci := 8) (C := RX8) (T := TX8) (N := 57) hx hb htb inX8 hown hK hP 0 (mw_0 c q σ7) rfl 47 (by decide) (htb _ tb_1228) (fun _ h9 => h9) rfl dX8_ties_57 ?_
          exact W.iret hx hb hr (fun t ht hW => ⟨⟨_, σ7, rfl, hw, by unfold wdB; rw [ht]; exact hP⟩, hS.F ht⟩) hS.2.2 dX8_ties_60
        · have hw := hw.2 c9
          by_cases c10 : x1 = (1 : Int32)
          · have hw := hw.1 c10
            refine lv_tableIn (off := 31) (tgt := 61) hx hb dX8_ties_30 (by rw [c10]; decide) (by rw [c10]; decide) (by rw [c10]; rfl) (by decide) ?_
            refine lv_aload_n hx hb dX8_ties_61 rfl (lv_at hl 0 rfl) ?_
            refine va_get (D := D) (ci := 8) (C := RX8) (T := TX8) (N := 57) hx hb htb inX8 hown hK hP 0 (mw_0 c q σ7) rfl 49 (by decide) (htb _ tb_1230) (fun _ h9 => h9) rfl dX8_ties_62 ?_
            exact W.iret hx hb hr (fun t ht hW => ⟨⟨_, σ7, rfl, hw, by unfold wdB; rw [ht]; exact hP⟩, hS.F ht⟩) hS.2.2 dX8_ties_65
          · have hw := hw.2 c10
            by_cases c11 : x1 = (2 : Int32)
            · have hw := hw.1 c11
              refine lv_tableIn (off := 36) (tgt := 66) hx hb dX8_ties_30 (by rw [c11]; decide) (by rw [c11]; decide) (by rw [c11]; rfl) (by decide) ?_
              refine lv_iconst (v := (1 : Int32)) hx hb dX8_ties_66 (by decide) ?_
              refine lv_aload_n hx hb dX8_ties_67 rfl (lv_at hl 0 rfl) ?_
              refine va_get (D := D) (ci := 8) (C := RX8) (T := TX8) (N := 57) hx hb htb inX8 hown hK hP 0 (mw_0 c q σ7) rfl 1 (by decide) (htb _ tb_1182) (fun _ h9 => h9) rfl dX8_ties_68 ?_
              refine lv_iconst (v := (0 : Int32)) hx hb dX8_ties_71 (by decide) ?_
              refine va_iald hx hb hK hP 1 0 (mw_1 c q σ7) rfl (by unfold vp_in; decide) dX8_ties_72 ?_
              refine lv_ishl hx hb dX8_ties_73 ?_
              refine lv_iconst (v := (1 : Int32)) hx hb dX8_ties_74 (by decide) ?_
              refine lv_isub hx hb dX8_ties_75 ?_
              refine lv_aload_n hx hb dX8_ties_76 rfl (lv_at hl 0 rfl) ?_
              refine va_get (D := D) (ci := 8) (C := RX8) (T := TX8) (N := 57) hx hb htb inX8 hown hK hP 0 (mw_0 c q σ7) rfl 48 (by decide) (htb _ tb_1229) (fun _ h9 => h9) rfl dX8_ties_77 ?_
              refine lv_iconst (v := (-1 : Int32)) hx hb dX8_ties_80 (by decide) ?_
              refine lv_ixor hx hb dX8_ties_81 ?_
              refine lv_iand hx hb dX8_ties_82 ?_
              exact W.iret hx hb hr (fun t ht hW => ⟨⟨_, σ7, rfl, hw, by unfold wdB; rw [ht]; exact hP⟩, hS.F ht⟩) hS.2.2 dX8_ties_83
            · have hw := hw.2 c11
              have hz : ¬ (x1).toInt = 0 ∧ ¬ (x1).toInt = 1 ∧ ¬ (x1).toInt = 2 := by
                exact ⟨lv_neT (a := 0) c9 rfl, lv_neT (a := 1) c10 rfl, lv_neT (a := 2) c11 rfl⟩
              refine lv_tableOut (tgt := 84) hx hb dX8_ties_30 (by omega) (by decide) ?_
              refine lv_aload_n hx hb dX8_ties_84 rfl (lv_at hl 0 rfl) ?_
              refine va_get (D := D) (ci := 8) (C := RX8) (T := TX8) (N := 57) hx hb htb inX8 hown hK hP 0 (mw_0 c q σ7) rfl 48 (by decide) (htb _ tb_1229) (fun _ h9 => h9) rfl dX8_ties_85 ?_
              refine lv_aload_n hx hb dX8_ties_88 rfl (lv_at hl 0 rfl) ?_
              refine va_get (D := D) (ci := 8) (C := RX8) (T := TX8) (N := 57) hx hb htb inX8 hown hK hP 0 (mw_0 c q σ7) rfl 49 (by decide) (htb _ tb_1230) (fun _ h9 => h9) rfl dX8_ties_89 ?_
              refine lv_iconst (v := (-1 : Int32)) hx hb dX8_ties_92 (by decide) ?_
              refine lv_ixor hx hb dX8_ties_93 ?_
              refine lv_iand hx hb dX8_ties_94 ?_
              exact W.iret hx hb hr (fun t ht hW => ⟨⟨_, σ7, rfl, hw, by unfold wdB; rw [ht]; exact hP⟩, hS.F ht⟩) hS.2.2 dX8_ties_95
      · have hw := hw.1 c8
        refine lv_iconst (v := (-1 : Int32)) hx hb dX8_ties_27 (by decide) ?_
        exact W.iret hx hb hr (fun t ht hW => ⟨⟨_, σ7, rfl, hw, by unfold wdB; rw [ht]; exact hP⟩, hS.F ht⟩) hS.2.2 dX8_ties_28
    · have hw := hw.2 c5
      refine lv_aload_n hx hb dX8_ties_14 rfl (lv_at hl 0 rfl) ?_
      refine lv_iconst (v := (1 : Int32)) hx hb dX8_ties_15 (by decide) ?_
      refine va_calli (va_runV (As := [.int (1 : Int32)]) (rest := []) ⟨hx, hb, hml, hown, htb⟩ (kcX8_fail l D c q ev hev σ1 (1 : Int32) _ hw) (tb_CW htb kX8_fail tb_1366 tb_1368 tb_42 ⟨Nat.le_of_ble_eq_true rfl, Nat.le_of_ble_eq_true rfl⟩) (wd_preV (wd := mw c q) (k := 0) hev hK hP hD hE hS (mw_0 c q σ1) rfl) rfl rfl hl.1 rfl (lv_room (Nat.le_of_ble_eq_true rfl)) dX8_ties_16 ⟨Nat.zero_le _, Nat.zero_le _⟩) hS (fun q _ h => h) (fun q h => h) (fun r12 σ13 t H1 locs1 ht hvm hw hB hz1 hk1 hS => ?_)
      have hP : va_P D vwCl (mw c q σ13) H1 := ht ▸ hB
      have hD : va_D (wdA 31 q) (mw c q σ13) := mw_D hD0
      exact W.iret hx hb hr (fun t ht hW => ⟨⟨_, σ13, rfl, hw, by unfold wdB; rw [ht]; exact hP⟩, hS.F ht⟩) hS.2.2 dX8_ties_19
def wX8_ask_L49 (z1 : Int32) (z2 : Int32) (z3 : Int32) (K105 : Int32 → Int32 → hsS → Prop) (post : Int32 → hsS → Prop) : Nat → Int32 → Int32 → hsS → Prop
  | 0, _, _, _ => False
  | n + 1, y4, y5, σ => vp_in z3 8 ∧ (((σ.2.1 22 z3.toNatClampNeg) ≤ y5 → K105 y4 y5 σ) ∧ (¬ (σ.2.1 22 z3.toNatClampNeg) ≤ y5 → vp_in (((240 : Int32) * z3) + y5) 1920 ∧ vp_in (((240 : Int32) * z3) + y5) 1920 ∧ wX8_sizeOf ((σ.2.1 24 (((240 : Int32) * z3) + y5).toNatClampNeg) &&& ((σ.2.1 25 (((240 : Int32) * z3) + y5).toNatClampNeg) ^^^ (-1 : Int32))) (fun r9 σ10 => ∀ v11 : Int32, v11 = (if y4 < r9 then r9 else y4) → ∀ v12 : Int32, v12 = y5 + (1 : Int32) → wX8_ask_L49 z1 z2 z3 K105 post n v11 v12 σ10) σ))
def wX8_ask_L20 (K130 : Int32 → Int32 → Int32 → hsS → Prop) (post : Int32 → hsS → Prop) : Nat → Int32 → Int32 → Int32 → hsS → Prop
  | 0, _, _, _, _ => False
  | n + 1, y1, y2, y3, σ => (((σ.2.1 2 (0 : Int32).toNatClampNeg) ≤ y3 → K130 y1 y2 y3 σ) ∧ (¬ (σ.2.1 2 (0 : Int32).toNatClampNeg) ≤ y3 → vp_in y3 8 ∧ (((σ.2.1 22 y3.toNatClampNeg) = (1 : Int32) → ∀ v7 : Int32, v7 = y3 + (1 : Int32) → wX8_ask_L20  K130 post n y1 y2 v7 σ) ∧ (¬ (σ.2.1 22 y3.toNatClampNeg) = (1 : Int32) → ∃ n13, wX8_ask_L49 y1 y2 y3 (fun v14 v15 σ16 => ((y1 = (-1 : Int32) → ∀ v18 : Int32, v18 = y3 + (1 : Int32) → wX8_ask_L20  K130 post n y3 v14 v18 σ16) ∧ (¬ y1 = (-1 : Int32) → ((v14 < y2 → ∀ v20 : Int32, v20 = y3 + (1 : Int32) → wX8_ask_L20  K130 post n y3 v14 v20 σ16) ∧ (¬ v14 < y2 → ∀ v21 : Int32, v21 = y3 + (1 : Int32) → wX8_ask_L20  K130 post n y1 y2 v21 σ16))))) post n13 (0 : Int32) (0 : Int32) σ))))
def wX8_ask  (post : Int32 → hsS → Prop) (σ : hsS) : Prop := ∀ σ1 : hsS, σ1 = hsI σ 0 (0 : Int32) → wX8_tellTies  (fun r2 σ3 => ((r2 = (0 : Int32) → post (-1 : Int32) σ3) ∧ (¬ r2 = (0 : Int32) → ∃ n22, wX8_ask_L20  (fun v23 v24 v25 σ26 => post v23 σ26) post n22 (-1 : Int32) (0 : Int32) (0 : Int32) σ3))) σ1
set_option maxHeartbeats 4000000 in
set_option maxRecDepth 100000 in
theorem kcX8_ask (l : Launch) (D : va_G) (c : Nat → ClassId) (q : Nat → Nat) (ev : State → Heap → Prop) (hev : evOK (wdA 31 q) ev) (σ : hsS)  (post : Int32 → hsS → Prop) (hw : wX8_ask  post σ) : Met l yX8_ask (Cond.code yX8_ask cX8_ask 6 (some .int) :: tb_L) { frames := 5, cells := 0, slots := 0, locals := 139 } (wdPc D (mw c q) (mwT c) (wdA 31 q) ev σ [.ref (q 0)]) (va_Qi post (wdB D (mw c q)) (wdA 31 q)) 0 0 (wdA 31 q) := by
  refine Met.ofW (cc := cX8_ask) (maxL := 6) (ret := (some .int)) (by decide) rfl ?_
  intro p e s m args below meth c₀ s₁ Bd hml hv
  obtain ⟨rfl, hP, hK, hD0, hE⟩ := hv
  have hx := Bd.exec
  have hb := Bd.bytes
  have hr := Bd.returns
  have hts := atoms_spec (ws := Cond.code yX8_ask cX8_ask 6 (some .int) :: tb_L) Bd.pre
  have htb : ∀ w ∈ tb_L, w.before [.ref (q 0)].toArray s = true := fun w h => hts w (List.mem_cons_of_mem _ h)
  have hown : s.vm.findClass RX8 = some m.cls := findClass_of_methodNamed Bd.named
  have hlocks := Bd.notSynchronized
  have hS : va_S (wdA 31 q) s.heap s.heap [] := va_S.rf
  have hD := hD0
  have L49 : ∀ (K105 : Int32 → Int32 → hsS → Prop) (z1 : Int32) (z2 : Int32) (z3 : Int32) (n : Nat) (y4 : Int32) (y5 : Int32) (σ : hsS) (H : Heap) (locs : List Loc) (ls : Array Slot), wX8_ask_L49 z1 z2 z3 K105 post n y4 y5 σ → (∀ (y4 : Int32) (y5 : Int32) (σ : hsS) (H : Heap) (locs : List Loc) (ls : Array Slot), K105 y4 y5 σ → va_P D vwCl (mw c q σ) H → va_S (wdA 31 q) s.heap H locs → lv_has ls 6 [(0, .ref (q 0)), (1, .int z1), (2, .int z2), (3, .int z3), (4, .int y4), (5, .int y5)] → W p l e (headSpec (Cond.code yX8_ask cX8_ask 6 (some .int) :: tb_L) { frames := 5, cells := 0, slots := 0, locals := 139 }).room s m [.ref (q 0)].toArray below meth c₀ H locs 0 0 (MQ below (va_Qi post (wdB D (mw c q)) (wdA 31 q)) [.ref (q 0)].toArray s 0 0 (wdA 31 q)) (F0 m 105 ls [])) → va_P D vwCl (mw c q σ) H → va_S (wdA 31 q) s.heap H locs → lv_has ls 6 [(0, .ref (q 0)), (1, .int z1), (2, .int z2), (3, .int z3), (4, .int y4), (5, .int y5)] → W p l e (headSpec (Cond.code yX8_ask cX8_ask 6 (some .int) :: tb_L) { frames := 5, cells := 0, slots := 0, locals := 139 }).room s m [.ref (q 0)].toArray below meth c₀ H locs 0 0 (MQ below (va_Qi post (wdB D (mw c q)) (wdA 31 q)) [.ref (q 0)].toArray s 0 0 (wdA 31 q)) (F0 m 49 ls []) := by
    intro K105 z1 z2 z3 n
    induction n with
    | zero =>
      intro y4 y5 σ H locs ls hw hk105 hP hS hl
      exact (show False from hw).elim
    | succ n ih =>
      intro y4 y5 σ H locs ls hw hk105 hP hS hl
      rw [wX8_ask_L49] at hw
      have hD : va_D (wdA 31 q) (mw c q σ) := mw_D hD0
      refine lv_iload hx hb dX8_ask_49 (lv_at hl 5 rfl) ?_
      refine lv_aload_n hx hb dX8_ask_51 rfl (lv_at hl 0 rfl) ?_
      refine va_get (D := D) (ci := 8) (C := RX8) (T := TX8) (N := 57) hx hb htb inX8 hown hK hP 0 (mw_0 c q σ) rfl 42 (by decide) (htb _ tb_1223) (fun _ h9 => h9) rfl dX8_ask_52 ?_
      refine lv_iload_n hx hb dX8_ask_55 rfl (lv_at hl 3 rfl) ?_
      refine va_iald hx hb hK hP 22 21 (mw_22 c q σ) rfl hw.1 dX8_ask_56 ?_
      have hw := hw.2
      refine lv_icmp_ge (tgt := 105) hx hb dX8_ask_57 (by decide) (fun c8 => ?_) (fun c8 => ?_)
      · have hw := hw.1 c8
        exact hk105 y4 y5 σ _ _ _ hw hP hS (lv_sub hl [0, 1, 2, 3, 4, 5] rfl)
      · have hw := hw.2 c8
        refine lv_iload hx hb dX8_ask_60 (lv_at hl 4 rfl) ?_
        refine lv_aload_n hx hb dX8_ask_62 rfl (lv_at hl 0 rfl) ?_
        refine va_get (D := D) (ci := 8) (C := RX8) (T := TX8) (N := 57) hx hb htb inX8 hown hK hP 0 (mw_0 c q σ) rfl 44 (by decide) (htb _ tb_1225) (fun _ h9 => h9) rfl dX8_ask_63 ?_
        refine lv_sipush (v := (240 : Int32)) hx hb dX8_ask_66 (by decide) ?_
        refine lv_iload_n hx hb dX8_ask_69 rfl (lv_at hl 3 rfl) ?_
        refine lv_imul hx hb dX8_ask_70 ?_
        refine lv_iload hx hb dX8_ask_71 (lv_at hl 5 rfl) ?_
        refine lv_iadd hx hb dX8_ask_73 ?_
        refine va_iald hx hb hK hP 24 23 (mw_24 c q σ) rfl hw.1 dX8_ask_74 ?_
        have hw := hw.2
        refine lv_aload_n hx hb dX8_ask_75 rfl (lv_at hl 0 rfl) ?_
        refine va_get (D := D) (ci := 8) (C := RX8) (T := TX8) (N := 57) hx hb htb inX8 hown hK hP 0 (mw_0 c q σ) rfl 45 (by decide) (htb _ tb_1226) (fun _ h9 => h9) rfl dX8_ask_76 ?_
        refine lv_sipush (v := (240 : Int32)) hx hb dX8_ask_79 (by decide) ?_
        refine lv_iload_n hx hb dX8_ask_82 rfl (lv_at hl 3 rfl) ?_
        refine lv_imul hx hb dX8_ask_83 ?_
        refine lv_iload hx hb dX8_ask_84 (lv_at hl 5 rfl) ?_
        refine lv_iadd hx hb dX8_ask_86 ?_
        refine va_iald hx hb hK hP 25 24 (mw_25 c q σ) rfl hw.1 dX8_ask_87 ?_
        have hw := hw.2
        refine lv_iconst (v := (-1 : Int32)) hx hb dX8_ask_88 (by decide) ?_
        refine lv_ixor hx hb dX8_ask_89 ?_
        refine lv_iand hx hb dX8_ask_90 ?_
        refine va_calli (va_runS (As := [.int ((σ.2.1 24 (((240 : Int32) * z3) + y5).toNatClampNeg) &&& ((σ.2.1 25 (((240 : Int32) * z3) + y5).toNatClampNeg) ^^^ (-1 : Int32)))]) (rest := [.int y4]) ⟨hx, hb, hml, hown, htb⟩ (kcX8_sizeOf_m l D c q ev hev σ ((σ.2.1 24 (((240 : Int32) * z3) + y5).toNatClampNeg) &&& ((σ.2.1 25 (((240 : Int32) * z3) + y5).toNatClampNeg) ^^^ (-1 : Int32))) _ hw) (tb_CS htb kX8_sizeOf tb_1493 tb_1494 ⟨Nat.le_of_ble_eq_true rfl, Nat.le_of_ble_eq_true rfl⟩) (wd_preS (wd := mw c q) hev hK hP hD hE hS) rfl rfl hl.1 rfl (lv_room (Nat.le_of_ble_eq_true rfl)) dX8_ask_91 ⟨Nat.zero_le _, Nat.zero_le _⟩) hS (fun q _ h => h) (fun q h => h) (fun r9 σ10 t H1 locs1 ht hvm hw hB hz1 hk1 hS => ?_)
        have hP : va_P D vwCl (mw c q σ10) H1 := ht ▸ hB
        have hD : va_D (wdA 31 q) (mw c q σ10) := mw_D hD0
        refine va_mmax hx hb (hml.trans hl.1.symm) hown (htb _ tb_1603) (htb _ tb_495) (htb _ tb_104) (htb _ tb_496) (Nat.le_of_ble_eq_true rfl) (Nat.le_of_ble_eq_true rfl) (Nat.zero_le _) (Nat.zero_le _) dX8_ask_94 ?_
        refine lv_topi (fun v11 ev11 => ?_)
        have hw := hw v11 ev11
        refine lv_istore (lv' := [(4, .int v11), (0, .ref (q 0)), (1, .int z1), (2, .int z2), (3, .int z3), (5, .int y5)]) hx hb dX8_ask_97 hl (by decide) rfl (fun ls hl => ?_)
        obtain ⟨v12, ev12⟩ : ∃ z : Int32, z = y5 + (1 : Int32) := ⟨_, rfl⟩
        have hw := hw v12 ev12
        refine lv_iinc (v := v12) (lv' := [(5, .int v12), (4, .int v11), (0, .ref (q 0)), (1, .int z1), (2, .int z2), (3, .int z3)]) hx hb dX8_ask_99 hl (k := 5) rfl (by rw [ev12]; rfl) (by decide) rfl (fun ls hl => ?_)
        refine lv_goto (tgt := 49) hx hb dX8_ask_102 (by decide) ?_
        exact ih v11 v12 σ10 _ _ _ hw hk105 hP hS (lv_sub hl [2, 3, 4, 5, 1, 0] rfl)
  have L20 : ∀ (K130 : Int32 → Int32 → Int32 → hsS → Prop) (n : Nat) (y1 : Int32) (y2 : Int32) (y3 : Int32) (σ : hsS) (H : Heap) (locs : List Loc) (ls : Array Slot), wX8_ask_L20  K130 post n y1 y2 y3 σ → (∀ (y1 : Int32) (y2 : Int32) (y3 : Int32) (σ : hsS) (H : Heap) (locs : List Loc) (ls : Array Slot), K130 y1 y2 y3 σ → va_P D vwCl (mw c q σ) H → va_S (wdA 31 q) s.heap H locs → lv_has ls 6 [(0, .ref (q 0)), (1, .int y1), (2, .int y2), (3, .int y3)] → W p l e (headSpec (Cond.code yX8_ask cX8_ask 6 (some .int) :: tb_L) { frames := 5, cells := 0, slots := 0, locals := 139 }).room s m [.ref (q 0)].toArray below meth c₀ H locs 0 0 (MQ below (va_Qi post (wdB D (mw c q)) (wdA 31 q)) [.ref (q 0)].toArray s 0 0 (wdA 31 q)) (F0 m 130 ls [])) → va_P D vwCl (mw c q σ) H → va_S (wdA 31 q) s.heap H locs → lv_has ls 6 [(0, .ref (q 0)), (1, .int y1), (2, .int y2), (3, .int y3)] → W p l e (headSpec (Cond.code yX8_ask cX8_ask 6 (some .int) :: tb_L) { frames := 5, cells := 0, slots := 0, locals := 139 }).room s m [.ref (q 0)].toArray below meth c₀ H locs 0 0 (MQ below (va_Qi post (wdB D (mw c q)) (wdA 31 q)) [.ref (q 0)].toArray s 0 0 (wdA 31 q)) (F0 m 20 ls []) := by
    intro K130 n
    induction n with
    | zero =>
      intro y1 y2 y3 σ H locs ls hw hk130 hP hS hl
      exact (show False from hw).elim
    | succ n ih =>
      intro y1 y2 y3 σ H locs ls hw hk130 hP hS hl
      rw [wX8_ask_L20] at hw
      have hD : va_D (wdA 31 q) (mw c q σ) := mw_D hD0
      refine lv_iload_n hx hb dX8_ask_20 rfl (lv_at hl 3 rfl) ?_
      refine lv_aload_n hx hb dX8_ask_21 rfl (lv_at hl 0 rfl) ?_
      refine va_get (D := D) (ci := 8) (C := RX8) (T := TX8) (N := 57) hx hb htb inX8 hown hK hP 0 (mw_0 c q σ) rfl 2 (by decide) (htb _ tb_1183) (fun _ h9 => h9) rfl dX8_ask_22 ?_
      refine lv_iconst (v := (0 : Int32)) hx hb dX8_ask_25 (by decide) ?_
      refine va_iald hx hb hK hP 2 1 (mw_2 c q σ) rfl (by unfold vp_in; decide) dX8_ask_26 ?_
      refine lv_icmp_ge (tgt := 130) hx hb dX8_ask_27 (by decide) (fun c5 => ?_) (fun c5 => ?_)
      · have hw := hw.1 c5
        exact hk130 y1 y2 y3 σ _ _ _ hw hP hS (lv_sub hl [0, 1, 2, 3] rfl)
      · have hw := hw.2 c5
        refine lv_aload_n hx hb dX8_ask_30 rfl (lv_at hl 0 rfl) ?_
        refine va_get (D := D) (ci := 8) (C := RX8) (T := TX8) (N := 57) hx hb htb inX8 hown hK hP 0 (mw_0 c q σ) rfl 42 (by decide) (htb _ tb_1223) (fun _ h9 => h9) rfl dX8_ask_31 ?_
        refine lv_iload_n hx hb dX8_ask_34 rfl (lv_at hl 3 rfl) ?_
        refine va_iald hx hb hK hP 22 21 (mw_22 c q σ) rfl hw.1 dX8_ask_35 ?_
        have hw := hw.2
        refine lv_iconst (v := (1 : Int32)) hx hb dX8_ask_36 (by decide) ?_
        refine lv_icmp_ne (tgt := 43) hx hb dX8_ask_37 (by decide) (fun c6 => ?_) (fun c6 => ?_)
        · have hw := hw.2 c6
          refine lv_iconst (v := (0 : Int32)) hx hb dX8_ask_43 (by decide) ?_
          refine lv_istore (lv' := [(4, .int (0 : Int32)), (0, .ref (q 0)), (1, .int y1), (2, .int y2), (3, .int y3)]) hx hb dX8_ask_44 hl (by decide) rfl (fun ls hl => ?_)
          refine lv_iconst (v := (0 : Int32)) hx hb dX8_ask_46 (by decide) ?_
          refine lv_istore (lv' := [(5, .int (0 : Int32)), (4, .int (0 : Int32)), (0, .ref (q 0)), (1, .int y1), (2, .int y2), (3, .int y3)]) hx hb dX8_ask_47 hl (by decide) rfl (fun ls hl => ?_)
          obtain ⟨n13, hw⟩ := hw
          refine L49 _ y1 y2 y3 n13 (0 : Int32) (0 : Int32) σ _ _ _ hw ?_ hP hS (lv_sub hl [2, 3, 4, 5, 1, 0] rfl)
          intro v14 v15 σ16 H locs ls hw hP hS hl
          have hD : va_D (wdA 31 q) (mw c q σ16) := mw_D hD0
          refine lv_iload_n hx hb dX8_ask_105 rfl (lv_at hl 1 rfl) ?_
          refine lv_iconst (v := (-1 : Int32)) hx hb dX8_ask_106 (by decide) ?_
          refine lv_icmp_eq (tgt := 119) hx hb dX8_ask_107 (by decide) (fun c17 => ?_) (fun c17 => ?_)
          · have hw := hw.1 c17
            refine lv_iload_n hx hb dX8_ask_119 rfl (lv_at hl 3 rfl) ?_
            refine lv_istore_n (lv' := [(1, .int y3), (0, .ref (q 0)), (2, .int y2), (3, .int y3), (4, .int v14), (5, .int v15)]) hx hb dX8_ask_120 rfl hl (by decide) rfl (fun ls hl => ?_)
            refine lv_iload hx hb dX8_ask_121 (lv_at hl 4 rfl) ?_
            refine lv_istore_n (lv' := [(2, .int v14), (1, .int y3), (0, .ref (q 0)), (3, .int y3), (4, .int v14), (5, .int v15)]) hx hb dX8_ask_123 rfl hl (by decide) rfl (fun ls hl => ?_)
            obtain ⟨v18, ev18⟩ : ∃ z : Int32, z = y3 + (1 : Int32) := ⟨_, rfl⟩
            have hw := hw v18 ev18
            refine lv_iinc (v := v18) (lv' := [(3, .int v18), (2, .int v14), (1, .int y3), (0, .ref (q 0)), (4, .int v14), (5, .int v15)]) hx hb dX8_ask_124 hl (k := 3) rfl (by rw [ev18]; rfl) (by decide) rfl (fun ls hl => ?_)
            refine lv_goto (tgt := 20) hx hb dX8_ask_127 (by decide) ?_
            exact ih y3 v14 v18 σ16 _ _ _ hw hk130 hP hS (lv_sub hl [3, 2, 1, 0] rfl)
          · have hw := hw.2 c17
            refine lv_iload hx hb dX8_ask_110 (lv_at hl 4 rfl) ?_
            refine lv_iload_n hx hb dX8_ask_112 rfl (lv_at hl 2 rfl) ?_
            refine lv_icmp_lt (tgt := 119) hx hb dX8_ask_113 (by decide) (fun c19 => ?_) (fun c19 => ?_)
            · have hw := hw.1 c19
              refine lv_iload_n hx hb dX8_ask_119 rfl (lv_at hl 3 rfl) ?_
              refine lv_istore_n (lv' := [(1, .int y3), (0, .ref (q 0)), (2, .int y2), (3, .int y3), (4, .int v14), (5, .int v15)]) hx hb dX8_ask_120 rfl hl (by decide) rfl (fun ls hl => ?_)
              refine lv_iload hx hb dX8_ask_121 (lv_at hl 4 rfl) ?_
              refine lv_istore_n (lv' := [(2, .int v14), (1, .int y3), (0, .ref (q 0)), (3, .int y3), (4, .int v14), (5, .int v15)]) hx hb dX8_ask_123 rfl hl (by decide) rfl (fun ls hl => ?_)
              obtain ⟨v20, ev20⟩ : ∃ z : Int32, z = y3 + (1 : Int32) := ⟨_, rfl⟩
              have hw := hw v20 ev20
              refine lv_iinc (v := v20) (lv' := [(3, .int v20), (2, .int v14), (1, .int y3), (0, .ref (q 0)), (4, .int v14), (5, .int v15)]) hx hb dX8_ask_124 hl (k := 3) rfl (by rw [ev20]; rfl) (by decide) rfl (fun ls hl => ?_)
              refine lv_goto (tgt := 20) hx hb dX8_ask_127 (by decide) ?_
              exact ih y3 v14 v20 σ16 _ _ _ hw hk130 hP hS (lv_sub hl [3, 2, 1, 0] rfl)
            · have hw := hw.2 c19
              refine lv_goto (tgt := 124) hx hb dX8_ask_116 (by decide) ?_
              obtain ⟨v21, ev21⟩ : ∃ z : Int32, z = y3 + (1 : Int32) := ⟨_, rfl⟩
              have hw := hw v21 ev21
              refine lv_iinc (v := v21) (lv' := [(3, .int v21), (0, .ref (q 0)), (1, .int y1), (2, .int y2), (4, .int v14), (5, .int v15)]) hx hb dX8_ask_124 hl (k := 3) rfl (by rw [ev21]; rfl) (by decide) rfl (fun ls hl => ?_)
              refine lv_goto (tgt := 20) hx hb dX8_ask_127 (by decide) ?_
              exact ih y1 y2 v21 σ16 _ _ _ hw hk130 hP hS (lv_sub hl [1, 2, 3, 0] rfl)
        · have hw := hw.1 c6
          refine lv_goto (tgt := 124) hx hb dX8_ask_40 (by decide) ?_
          obtain ⟨v7, ev7⟩ : ∃ z : Int32, z = y3 + (1 : Int32) := ⟨_, rfl⟩
          have hw := hw v7 ev7
          refine lv_iinc (v := v7) (lv' := [(3, .int v7), (0, .ref (q 0)), (1, .int y1), (2, .int y2)]) hx hb dX8_ask_124 hl (k := 3) rfl (by rw [ev7]; rfl) (by decide) rfl (fun ls hl => ?_)
          refine lv_goto (tgt := 20) hx hb dX8_ask_127 (by decide) ?_
          exact ih y1 y2 v7 σ _ _ _ hw hk130 hP hS (lv_sub hl [1, 2, 3, 0] rfl)
  have hl := lv_entry ([.ref (q 0)]) (n := 6) (Nat.le_of_ble_eq_true rfl)
  rw [lg_entry_eq]
  generalize (lg_sl ([.ref (q 0)]) ++ List.replicate (6 - (lg_sl ([.ref (q 0)])).length) Slot.unset).toArray = ls at hl ⊢
  have hl : lv_has ls 6 [(0, .ref (q 0))] := hl
  unfold wX8_ask at hw
  refine lv_aload_n hx hb dX8_ask_0 rfl (lv_at hl 0 rfl) ?_
  refine lv_iconst (v := (0 : Int32)) hx hb dX8_ask_1 (by decide) ?_
  refine va_put (D := D) (ci := 8) (ty := .int) (C := RX8) (T := TX8) (N := 57) hx hb htb inX8 tyX8 tyX8_ok nmX8 hown hK hP hD hS 0 (mw_0 c q σ) rfl 0 (by decide) (htb _ tb_1181) (fun _ h9 => h9) rfl (by decide +kernel) rfl rfl (Nat.le_of_ble_eq_true rfl) dX8_ask_2 (fun H locs hP hD hS => ?_)
  have hP : va_P D vwCl (mw c q (hsI σ 0 (0 : Int32))) H := hP
  obtain ⟨σ1, eσ1⟩ : ∃ z : hsS, z = hsI σ 0 (0 : Int32) := ⟨_, rfl⟩
  rw [← eσ1] at hP
  have hD : va_D (wdA 31 q) (mw c q σ1) := mw_D hD0
  have hw := hw σ1 eσ1
  refine lv_aload_n hx hb dX8_ask_5 rfl (lv_at hl 0 rfl) ?_
  refine va_calli (va_runV (As := []) (rest := []) ⟨hx, hb, hml, hown, htb⟩ (kcX8_tellTies l D c q ev hev σ1  _ hw) (tb_CW htb kX8_tellTies tb_1660 tb_1662 tb_83 ⟨Nat.le_of_ble_eq_true rfl, Nat.le_of_ble_eq_true rfl⟩) (wd_preV (wd := mw c q) (k := 0) hev hK hP hD hE hS (mw_0 c q σ1) rfl) rfl rfl hl.1 rfl (lv_room (Nat.le_of_ble_eq_true rfl)) dX8_ask_6 ⟨Nat.zero_le _, Nat.zero_le _⟩) hS (fun q _ h => h) (fun q h => h) (fun r2 σ3 t H1 locs1 ht hvm hw hB hz1 hk1 hS => ?_)
  have hP : va_P D vwCl (mw c q σ3) H1 := ht ▸ hB
  have hD : va_D (wdA 31 q) (mw c q σ3) := mw_D hD0
  refine lv_if_ne (tgt := 14) hx hb dX8_ask_9 (by decide) (fun c4 => ?_) (fun c4 => ?_)
  · have hw := hw.2 c4
    refine lv_iconst (v := (-1 : Int32)) hx hb dX8_ask_14 (by decide) ?_
    refine lv_istore_n (lv' := [(1, .int (-1 : Int32)), (0, .ref (q 0))]) hx hb dX8_ask_15 rfl hl (by decide) rfl (fun ls hl => ?_)
    refine lv_iconst (v := (0 : Int32)) hx hb dX8_ask_16 (by decide) ?_
    refine lv_istore_n (lv' := [(2, .int (0 : Int32)), (1, .int (-1 : Int32)), (0, .ref (q 0))]) hx hb dX8_ask_17 rfl hl (by decide) rfl (fun ls hl => ?_)
    refine lv_iconst (v := (0 : Int32)) hx hb dX8_ask_18 (by decide) ?_
    refine lv_istore_n (lv' := [(3, .int (0 : Int32)), (2, .int (0 : Int32)), (1, .int (-1 : Int32)), (0, .ref (q 0))]) hx hb dX8_ask_19 rfl hl (by decide) rfl (fun ls hl => ?_)
    obtain ⟨n22, hw⟩ := hw
    refine L20 _ n22 (-1 : Int32) (0 : Int32) (0 : Int32) σ3 _ _ _ hw ?_ hP hS (lv_sub hl [3, 2, 1, 0] rfl)
    intro v23 v24 v25 σ26 H locs ls hw hP hS hl
    have hD : va_D (wdA 31 q) (mw c q σ26) := mw_D hD0
    refine lv_iload_n hx hb dX8_ask_130 rfl (lv_at hl 1 rfl) ?_
    exact W.iret hx hb hr (fun t ht hW => ⟨⟨_, σ26, rfl, hw, by unfold wdB; rw [ht]; exact hP⟩, hS.F ht⟩) hS.2.2 dX8_ask_131
  · have hw := hw.1 c4
    refine lv_iconst (v := (-1 : Int32)) hx hb dX8_ask_12 (by decide) ?_
    exact W.iret hx hb hr (fun t ht hW => ⟨⟨_, σ3, rfl, hw, by unfold wdB; rw [ht]; exact hP⟩, hS.F ht⟩) hS.2.2 dX8_ask_13
def wX8_row_L33 (z1 : Int32) (z2 : Int64) (K60 : Int32 → hsS → Prop) (K85 : Int32 → hsS → Prop) (post : Int32 → hsS → Prop) : Nat → Int32 → hsS → Prop
  | 0, _, _ => False
  | n + 1, y4, σ => ((z1 ≤ y4 → K85 y4 σ) ∧ (¬ z1 ≤ y4 → ∀ v7 : Int32, v7 = ((z2 >>> (((4 : Int32) * y4).toInt64 &&& 63)).toInt32) &&& (15 : Int32) → wX8_isThing v7 (fun r8 σ9 => ((r8 = (0 : Int32) → K60 y4 σ9) ∧ (¬ r8 = (0 : Int32) → vp_in (((9 : Int32) * (σ9.1 52)) + y4) 108 ∧ ∀ σ11 : hsS, σ11 = hsA σ9 28 (upd (σ9.2.1 28) (((9 : Int32) * (σ9.1 52)) + y4).toNatClampNeg v7) → ∀ v12 : Int32, v12 = y4 + (1 : Int32) → wX8_row_L33 z1 z2 K60 K85 post n v12 σ11))) σ))
def wX8_row (x1 : Int32) (x2 : Int64) (post : Int32 → hsS → Prop) (σ : hsS) : Prop := ∀ σ1 : hsS, σ1 = hsI σ 0 (0 : Int32) → (((σ1.1 52) = (12 : Int32) → post (-1 : Int32) σ1) ∧ (¬ (σ1.1 52) = (12 : Int32) → wX8_isIn x1 (0 : Int32) (σ1.2.1 6 (0 : Int32).toNatClampNeg) (fun r3 σ4 => ((r3 = (0 : Int32) → post (-1 : Int32) σ4) ∧ (¬ r3 = (0 : Int32) → ∃ n13, wX8_row_L33 x1 x2 (fun v14 σ15 => post (-1 : Int32) σ15) (fun v16 σ17 => vp_in (σ17.1 52) 12 ∧ ∀ σ18 : hsS, σ18 = hsA σ17 27 (upd (σ17.2.1 27) (σ17.1 52).toNatClampNeg x1) → ∀ σ19 : hsS, σ19 = hsI σ18 52 ((σ18.1 52) + (1 : Int32)) → post ((σ19.1 52) - (1 : Int32)) σ19) post n13 (0 : Int32) σ4))) σ1))
set_option maxHeartbeats 4000000 in
set_option maxRecDepth 100000 in
theorem kcX8_row (l : Launch) (D : va_G) (c : Nat → ClassId) (q : Nat → Nat) (ev : State → Heap → Prop) (hev : evOK (wdA 31 q) ev) (σ : hsS) (x1 : Int32) (x2 : Int64) (post : Int32 → hsS → Prop) (hw : wX8_row x1 x2 post σ) : Met l yX8_row (Cond.code yX8_row cX8_row 6 (some .int) :: tb_L) { frames := 2, cells := 0, slots := 0, locals := 43 } (wdPc D (mw c q) (mwT c) (wdA 31 q) ev σ [.ref (q 0), .int x1, .long x2]) (va_Qi post (wdB D (mw c q)) (wdA 31 q)) 0 0 (wdA 31 q) := by
  refine Met.ofW (cc := cX8_row) (maxL := 6) (ret := (some .int)) (by decide) rfl ?_
  intro p e s m args below meth c₀ s₁ Bd hml hv
  obtain ⟨rfl, hP, hK, hD0, hE⟩ := hv
  have hx := Bd.exec
  have hb := Bd.bytes
  have hr := Bd.returns
  have hts := atoms_spec (ws := Cond.code yX8_row cX8_row 6 (some .int) :: tb_L) Bd.pre
  have htb : ∀ w ∈ tb_L, w.before [.ref (q 0), .int x1, .long x2].toArray s = true := fun w h => hts w (List.mem_cons_of_mem _ h)
  have hown : s.vm.findClass RX8 = some m.cls := findClass_of_methodNamed Bd.named
  have hlocks := Bd.notSynchronized
  have hS : va_S (wdA 31 q) s.heap s.heap [] := va_S.rf
  have hD := hD0
  have L33 : ∀ (K60 : Int32 → hsS → Prop) (K85 : Int32 → hsS → Prop) (z1 : Int32) (z2 : Int64) (n : Nat) (y4 : Int32) (σ : hsS) (H : Heap) (locs : List Loc) (ls : Array Slot), wX8_row_L33 z1 z2 K60 K85 post n y4 σ → (∀ (y4 : Int32) (σ : hsS) (H : Heap) (locs : List Loc) (ls : Array Slot), K60 y4 σ → va_P D vwCl (mw c q σ) H → va_S (wdA 31 q) s.heap H locs → lv_has ls 6 [(0, .ref (q 0)), (1, .int z1), (2, .long z2), (4, .int y4)] → W p l e (headSpec (Cond.code yX8_row cX8_row 6 (some .int) :: tb_L) { frames := 2, cells := 0, slots := 0, locals := 43 }).room s m [.ref (q 0), .int x1, .long x2].toArray below meth c₀ H locs 0 0 (MQ below (va_Qi post (wdB D (mw c q)) (wdA 31 q)) [.ref (q 0), .int x1, .long x2].toArray s 0 0 (wdA 31 q)) (F0 m 60 ls [])) → (∀ (y4 : Int32) (σ : hsS) (H : Heap) (locs : List Loc) (ls : Array Slot), K85 y4 σ → va_P D vwCl (mw c q σ) H → va_S (wdA 31 q) s.heap H locs → lv_has ls 6 [(0, .ref (q 0)), (1, .int z1), (2, .long z2), (4, .int y4)] → W p l e (headSpec (Cond.code yX8_row cX8_row 6 (some .int) :: tb_L) { frames := 2, cells := 0, slots := 0, locals := 43 }).room s m [.ref (q 0), .int x1, .long x2].toArray below meth c₀ H locs 0 0 (MQ below (va_Qi post (wdB D (mw c q)) (wdA 31 q)) [.ref (q 0), .int x1, .long x2].toArray s 0 0 (wdA 31 q)) (F0 m 85 ls [])) → va_P D vwCl (mw c q σ) H → va_S (wdA 31 q) s.heap H locs → lv_has ls 6 [(0, .ref (q 0)), (1, .int z1), (2, .long z2), (4, .int y4)] → W p l e (headSpec (Cond.code yX8_row cX8_row 6 (some .int) :: tb_L) { frames := 2, cells := 0, slots := 0, locals := 43 }).room s m [.ref (q 0), .int x1, .long x2].toArray below meth c₀ H locs 0 0 (MQ below (va_Qi post (wdB D (mw c q)) (wdA 31 q)) [.ref (q 0), .int x1, .long x2].toArray s 0 0 (wdA 31 q)) (F0 m 33 ls []) := by
    intro K60 K85 z1 z2 n
    induction n with
    | zero =>
      intro y4 σ H locs ls hw hk60 hk85 hP hS hl
      exact (show False from hw).elim
    | succ n ih =>
      intro y4 σ H locs ls hw hk60 hk85 hP hS hl
      rw [wX8_row_L33] at hw
      have hD : va_D (wdA 31 q) (mw c q σ) := mw_D hD0
      refine lv_iload hx hb dX8_row_33 (lv_at hl 3 rfl) ?_
      refine lv_iload_n hx hb dX8_row_35 rfl (lv_at hl 1 rfl) ?_
      refine lv_icmp_ge (tgt := 85) hx hb dX8_row_36 (by decide) (fun c6 => ?_) (fun c6 => ?_)
      · have hw := hw.1 c6
        exact hk85 y4 σ _ _ _ hw hP hS (lv_sub hl [0, 1, 2, 3] rfl)
      · have hw := hw.2 c6
        refine lv_lload_n hx hb dX8_row_39 rfl (lv_at hl 2 rfl) ?_
        refine lv_iconst (v := (4 : Int32)) hx hb dX8_row_40 (by decide) ?_
        refine lv_iload hx hb dX8_row_41 (lv_at hl 3 rfl) ?_
        refine lv_imul hx hb dX8_row_43 ?_
        refine lv_lshr hx hb dX8_row_44 rfl ?_
        refine lv_l2i hx hb dX8_row_45 rfl ?_
        refine lv_bipush (v := (15 : Int32)) hx hb dX8_row_46 (by decide) ?_
        refine lv_iand hx hb dX8_row_48 ?_
        refine lv_topi (fun v7 ev7 => ?_)
        have hw := hw v7 ev7
        refine lv_istore (lv' := [(5, .int v7), (0, .ref (q 0)), (1, .int z1), (2, .long z2), (4, .int y4)]) hx hb dX8_row_49 hl (by decide) rfl (fun ls hl => ?_)
        refine lv_aload_n hx hb dX8_row_51 rfl (lv_at hl 1 rfl) ?_
        refine lv_iload hx hb dX8_row_52 (lv_at hl 0 rfl) ?_
        refine va_calli (va_runV (As := [.int v7]) (rest := []) ⟨hx, hb, hml, hown, htb⟩ (kcX8_isThing l D c q ev hev σ v7 _ hw) (tb_CW htb kX8_isThing tb_1473 tb_1475 tb_59 ⟨Nat.le_of_ble_eq_true rfl, Nat.le_of_ble_eq_true rfl⟩) (wd_preV (wd := mw c q) (k := 0) hev hK hP hD hE hS (mw_0 c q σ) rfl) rfl rfl hl.1 rfl (lv_room (Nat.le_of_ble_eq_true rfl)) dX8_row_54 ⟨Nat.zero_le _, Nat.zero_le _⟩) hS (fun q _ h => h) (fun q h => h) (fun r8 σ9 t H1 locs1 ht hvm hw hB hz1 hk1 hS => ?_)
        have hP : va_P D vwCl (mw c q σ9) H1 := ht ▸ hB
        have hD : va_D (wdA 31 q) (mw c q σ9) := mw_D hD0
        refine lv_if_ne (tgt := 62) hx hb dX8_row_57 (by decide) (fun c10 => ?_) (fun c10 => ?_)
        · have hw := hw.2 c10
          refine lv_aload_n hx hb dX8_row_62 rfl (lv_at hl 1 rfl) ?_
          refine va_get (D := D) (ci := 8) (C := RX8) (T := TX8) (N := 57) hx hb htb inX8 hown hK hP 0 (mw_0 c q σ9) rfl 54 (by decide) (htb _ tb_1235) (fun _ h9 => h9) rfl dX8_row_63 ?_
          refine lv_bipush (v := (9 : Int32)) hx hb dX8_row_66 (by decide) ?_
          refine lv_aload_n hx hb dX8_row_68 rfl (lv_at hl 1 rfl) ?_
          refine va_get (D := D) (ci := 8) (C := RX8) (T := TX8) (N := 57) hx hb htb inX8 hown hK hP 0 (mw_0 c q σ9) rfl 52 (by decide) (htb _ tb_1233) (fun _ h9 => h9) rfl dX8_row_69 ?_
          refine lv_imul hx hb dX8_row_72 ?_
          refine lv_iload hx hb dX8_row_73 (lv_at hl 4 rfl) ?_
          refine lv_iadd hx hb dX8_row_75 ?_
          refine lv_iload hx hb dX8_row_76 (lv_at hl 0 rfl) ?_
          refine va_iast hx hb hK hP hD hS 28 27 (mw_28 c q σ9) rfl hw.1 dX8_row_78 (fun H locs hP hD hS => ?_)
          have hw := hw.2
          have hP : va_P D vwCl (mw c q (hsA σ9 28 (upd (σ9.2.1 28) (((9 : Int32) * (σ9.1 52)) + y4).toNatClampNeg v7))) H := hP
          obtain ⟨σ11, eσ11⟩ : ∃ z : hsS, z = hsA σ9 28 (upd (σ9.2.1 28) (((9 : Int32) * (σ9.1 52)) + y4).toNatClampNeg v7) := ⟨_, rfl⟩
          rw [← eσ11] at hP
          have hD : va_D (wdA 31 q) (mw c q σ11) := mw_D hD0
          have hw := hw σ11 eσ11
          obtain ⟨v12, ev12⟩ : ∃ z : Int32, z = y4 + (1 : Int32) := ⟨_, rfl⟩
          have hw := hw v12 ev12
          refine lv_iinc (v := v12) (lv' := [(4, .int v12), (5, .int v7), (0, .ref (q 0)), (1, .int z1), (2, .long z2)]) hx hb dX8_row_79 hl (k := 4) rfl (by rw [ev12]; rfl) (by decide) rfl (fun ls hl => ?_)
          refine lv_goto (tgt := 33) hx hb dX8_row_82 (by decide) ?_
          exact ih v12 σ11 _ _ _ hw hk60 hk85 hP hS (lv_sub hl [2, 3, 4, 0] rfl)
        · have hw := hw.1 c10
          exact hk60 y4 σ9 _ _ _ hw hP hS (lv_sub hl [1, 2, 3, 4] rfl)
  have hl := lv_entry ([.ref (q 0), .int x1, .long x2]) (n := 6) (Nat.le_of_ble_eq_true rfl)
  rw [lg_entry_eq]
  generalize (lg_sl ([.ref (q 0), .int x1, .long x2]) ++ List.replicate (6 - (lg_sl ([.ref (q 0), .int x1, .long x2])).length) Slot.unset).toArray = ls at hl ⊢
  have hl : lv_has ls 6 [(0, .ref (q 0)), (1, .int x1), (2, .long x2)] := hl
  unfold wX8_row at hw
  refine lv_aload_n hx hb dX8_row_0 rfl (lv_at hl 0 rfl) ?_
  refine lv_iconst (v := (0 : Int32)) hx hb dX8_row_1 (by decide) ?_
  refine va_put (D := D) (ci := 8) (ty := .int) (C := RX8) (T := TX8) (N := 57) hx hb htb inX8 tyX8 tyX8_ok nmX8 hown hK hP hD hS 0 (mw_0 c q σ) rfl 0 (by decide) (htb _ tb_1181) (fun _ h9 => h9) rfl (by decide +kernel) rfl rfl (Nat.le_of_ble_eq_true rfl) dX8_row_2 (fun H locs hP hD hS => ?_)
  have hP : va_P D vwCl (mw c q (hsI σ 0 (0 : Int32))) H := hP
  obtain ⟨σ1, eσ1⟩ : ∃ z : hsS, z = hsI σ 0 (0 : Int32) := ⟨_, rfl⟩
  rw [← eσ1] at hP
  have hD : va_D (wdA 31 q) (mw c q σ1) := mw_D hD0
  have hw := hw σ1 eσ1
  refine lv_aload_n hx hb dX8_row_5 rfl (lv_at hl 0 rfl) ?_
  refine va_get (D := D) (ci := 8) (C := RX8) (T := TX8) (N := 57) hx hb htb inX8 hown hK hP 0 (mw_0 c q σ1) rfl 52 (by decide) (htb _ tb_1233) (fun _ h9 => h9) rfl dX8_row_6 ?_
  refine lv_bipush (v := (12 : Int32)) hx hb dX8_row_9 (by decide) ?_
  refine lv_icmp_eq (tgt := 28) hx hb dX8_row_11 (by decide) (fun c2 => ?_) (fun c2 => ?_)
  · have hw := hw.1 c2
    refine lv_iconst (v := (-1 : Int32)) hx hb dX8_row_28 (by decide) ?_
    exact W.iret hx hb hr (fun t ht hW => ⟨⟨_, σ1, rfl, hw, by unfold wdB; rw [ht]; exact hP⟩, hS.F ht⟩) hS.2.2 dX8_row_29
  · have hw := hw.2 c2
    refine lv_iload_n hx hb dX8_row_14 rfl (lv_at hl 1 rfl) ?_
    refine lv_iconst (v := (0 : Int32)) hx hb dX8_row_15 (by decide) ?_
    refine lv_aload_n hx hb dX8_row_16 rfl (lv_at hl 0 rfl) ?_
    refine va_get (D := D) (ci := 8) (C := RX8) (T := TX8) (N := 57) hx hb htb inX8 hown hK hP 0 (mw_0 c q σ1) rfl 6 (by decide) (htb _ tb_1187) (fun _ h9 => h9) rfl dX8_row_17 ?_
    refine lv_iconst (v := (0 : Int32)) hx hb dX8_row_20 (by decide) ?_
    refine va_iald hx hb hK hP 6 5 (mw_6 c q σ1) rfl (by unfold vp_in; decide) dX8_row_21 ?_
    refine va_calli (va_runS (As := [.int x1, .int (0 : Int32), .int (σ1.2.1 6 (0 : Int32).toNatClampNeg)]) (rest := []) ⟨hx, hb, hml, hown, htb⟩ (kcX8_isIn_m l D c q ev hev σ1 x1 (0 : Int32) (σ1.2.1 6 (0 : Int32).toNatClampNeg) _ hw) (tb_CS htb kX8_isIn tb_1462 tb_1463 ⟨Nat.le_of_ble_eq_true rfl, Nat.le_of_ble_eq_true rfl⟩) (wd_preS (wd := mw c q) hev hK hP hD hE hS) rfl rfl hl.1 rfl (lv_room (Nat.le_of_ble_eq_true rfl)) dX8_row_22 ⟨Nat.zero_le _, Nat.zero_le _⟩) hS (fun q _ h => h) (fun q h => h) (fun r3 σ4 t H1 locs1 ht hvm hw hB hz1 hk1 hS => ?_)
    have hP : va_P D vwCl (mw c q σ4) H1 := ht ▸ hB
    have hD : va_D (wdA 31 q) (mw c q σ4) := mw_D hD0
    refine lv_if_ne (tgt := 30) hx hb dX8_row_25 (by decide) (fun c5 => ?_) (fun c5 => ?_)
    · have hw := hw.2 c5
      refine lv_iconst (v := (0 : Int32)) hx hb dX8_row_30 (by decide) ?_
      refine lv_istore (lv' := [(4, .int (0 : Int32)), (0, .ref (q 0)), (1, .int x1), (2, .long x2)]) hx hb dX8_row_31 hl (by decide) rfl (fun ls hl => ?_)
      obtain ⟨n13, hw⟩ := hw
      refine L33 _ _ x1 x2 n13 (0 : Int32) σ4 _ _ _ hw ?_ ?_ hP hS (lv_sub hl [1, 2, 3, 0] rfl)
      · intro v14 σ15 H locs ls hw hP hS hl
        have hD : va_D (wdA 31 q) (mw c q σ15) := mw_D hD0
        refine lv_iconst (v := (-1 : Int32)) hx hb dX8_row_60 (by decide) ?_
        exact W.iret hx hb hr (fun t ht hW => ⟨⟨_, σ15, rfl, hw, by unfold wdB; rw [ht]; exact hP⟩, hS.F ht⟩) hS.2.2 dX8_row_61
      · intro v16 σ17 H locs ls hw hP hS hl
        have hD : va_D (wdA 31 q) (mw c q σ17) := mw_D hD0
        refine lv_aload_n hx hb dX8_row_85 rfl (lv_at hl 0 rfl) ?_
        refine va_get (D := D) (ci := 8) (C := RX8) (T := TX8) (N := 57) hx hb htb inX8 hown hK hP 0 (mw_0 c q σ17) rfl 53 (by decide) (htb _ tb_1234) (fun _ h9 => h9) rfl dX8_row_86 ?_
        refine lv_aload_n hx hb dX8_row_89 rfl (lv_at hl 0 rfl) ?_
        refine va_get (D := D) (ci := 8) (C := RX8) (T := TX8) (N := 57) hx hb htb inX8 hown hK hP 0 (mw_0 c q σ17) rfl 52 (by decide) (htb _ tb_1233) (fun _ h9 => h9) rfl dX8_row_90 ?_
        refine lv_iload_n hx hb dX8_row_93 rfl (lv_at hl 1 rfl) ?_
        refine va_iast hx hb hK hP hD hS 27 26 (mw_27 c q σ17) rfl hw.1 dX8_row_94 (fun H locs hP hD hS => ?_)
        have hw := hw.2
        have hP : va_P D vwCl (mw c q (hsA σ17 27 (upd (σ17.2.1 27) (σ17.1 52).toNatClampNeg x1))) H := hP
        obtain ⟨σ18, eσ18⟩ : ∃ z : hsS, z = hsA σ17 27 (upd (σ17.2.1 27) (σ17.1 52).toNatClampNeg x1) := ⟨_, rfl⟩
        rw [← eσ18] at hP
        have hD : va_D (wdA 31 q) (mw c q σ18) := mw_D hD0
        have hw := hw σ18 eσ18
        refine lv_aload_n hx hb dX8_row_95 rfl (lv_at hl 0 rfl) ?_
        refine lv_dup hx hb dX8_row_96 rfl ?_
        refine va_get (D := D) (ci := 8) (C := RX8) (T := TX8) (N := 57) hx hb htb inX8 hown hK hP 0 (mw_0 c q σ18) rfl 52 (by decide) (htb _ tb_1233) (fun _ h9 => h9) rfl dX8_row_97 ?_
        refine lv_iconst (v := (1 : Int32)) hx hb dX8_row_100 (by decide) ?_
        refine lv_iadd hx hb dX8_row_101 ?_
        refine va_put (D := D) (ci := 8) (ty := .int) (C := RX8) (T := TX8) (N := 57) hx hb htb inX8 tyX8 tyX8_ok nmX8 hown hK hP hD hS 0 (mw_0 c q σ18) rfl 52 (by decide) (htb _ tb_1233) (fun _ h9 => h9) rfl (by decide +kernel) rfl rfl (Nat.le_of_ble_eq_true rfl) dX8_row_102 (fun H locs hP hD hS => ?_)
        have hP : va_P D vwCl (mw c q (hsI σ18 52 ((σ18.1 52) + (1 : Int32)))) H := hP
        obtain ⟨σ19, eσ19⟩ : ∃ z : hsS, z = hsI σ18 52 ((σ18.1 52) + (1 : Int32)) := ⟨_, rfl⟩
        rw [← eσ19] at hP
        have hD : va_D (wdA 31 q) (mw c q σ19) := mw_D hD0
        have hw := hw σ19 eσ19
        refine lv_aload_n hx hb dX8_row_105 rfl (lv_at hl 0 rfl) ?_
        refine va_get (D := D) (ci := 8) (C := RX8) (T := TX8) (N := 57) hx hb htb inX8 hown hK hP 0 (mw_0 c q σ19) rfl 52 (by decide) (htb _ tb_1233) (fun _ h9 => h9) rfl dX8_row_106 ?_
        refine lv_iconst (v := (1 : Int32)) hx hb dX8_row_109 (by decide) ?_
        refine lv_isub hx hb dX8_row_110 ?_
        exact W.iret hx hb hr (fun t ht hW => ⟨⟨_, σ19, rfl, hw, by unfold wdB; rw [ht]; exact hP⟩, hS.F ht⟩) hS.2.2 dX8_row_111
    · have hw := hw.1 c5
      refine lv_iconst (v := (-1 : Int32)) hx hb dX8_row_28 (by decide) ?_
      exact W.iret hx hb hr (fun t ht hW => ⟨⟨_, σ4, rfl, hw, by unfold wdB; rw [ht]; exact hP⟩, hS.F ht⟩) hS.2.2 dX8_row_29
def wX8_isRow (x1 : Int32) (post : Int32 → hsS → Prop) (σ : hsS) : Prop := wX8_isIn x1 (0 : Int32) ((σ.1 52) - (1 : Int32)) (fun r1 σ2 => (r1 = 0 ∨ r1 = 1) ∧ post r1 σ2) σ
set_option maxHeartbeats 4000000 in
set_option maxRecDepth 100000 in
theorem kcX8_isRow (l : Launch) (D : va_G) (c : Nat → ClassId) (q : Nat → Nat) (ev : State → Heap → Prop) (hev : evOK (wdA 31 q) ev) (σ : hsS) (x1 : Int32) (post : Int32 → hsS → Prop) (hw : wX8_isRow x1 post σ) : Met l yX8_isRow (Cond.code yX8_isRow cX8_isRow 2 (some .boolean) :: tb_L) { frames := 1, cells := 0, slots := 0, locals := 22 } (wdPc D (mw c q) (mwT c) (wdA 31 q) ev σ [.ref (q 0), .int x1]) (va_Qi post (wdB D (mw c q)) (wdA 31 q)) 0 0 (wdA 31 q) := by
  refine Met.ofW (cc := cX8_isRow) (maxL := 2) (ret := (some .boolean)) (by decide) rfl ?_
  intro p e s m args below meth c₀ s₁ Bd hml hv
  obtain ⟨rfl, hP, hK, hD0, hE⟩ := hv
  have hx := Bd.exec
  have hb := Bd.bytes
  have hr := Bd.returns
  have hts := atoms_spec (ws := Cond.code yX8_isRow cX8_isRow 2 (some .boolean) :: tb_L) Bd.pre
  have htb : ∀ w ∈ tb_L, w.before [.ref (q 0), .int x1].toArray s = true := fun w h => hts w (List.mem_cons_of_mem _ h)
  have hown : s.vm.findClass RX8 = some m.cls := findClass_of_methodNamed Bd.named
  have hlocks := Bd.notSynchronized
  have hS : va_S (wdA 31 q) s.heap s.heap [] := va_S.rf
  have hD := hD0
  have hl := lv_entry ([.ref (q 0), .int x1]) (n := 2) (Nat.le_of_ble_eq_true rfl)
  rw [lg_entry_eq]
  generalize (lg_sl ([.ref (q 0), .int x1]) ++ List.replicate (2 - (lg_sl ([.ref (q 0), .int x1])).length) Slot.unset).toArray = ls at hl ⊢
  have hl : lv_has ls 2 [(0, .ref (q 0)), (1, .int x1)] := hl
  unfold wX8_isRow at hw
  refine lv_iload_n hx hb dX8_isRow_0 rfl (lv_at hl 1 rfl) ?_
  refine lv_iconst (v := (0 : Int32)) hx hb dX8_isRow_1 (by decide) ?_
  refine lv_aload_n hx hb dX8_isRow_2 rfl (lv_at hl 0 rfl) ?_
  refine va_get (D := D) (ci := 8) (C := RX8) (T := TX8) (N := 57) hx hb htb inX8 hown hK hP 0 (mw_0 c q σ) rfl 52 (by decide) (htb _ tb_1233) (fun _ h9 => h9) rfl dX8_isRow_3 ?_
  refine lv_iconst (v := (1 : Int32)) hx hb dX8_isRow_6 (by decide) ?_
  refine lv_isub hx hb dX8_isRow_7 ?_
  refine va_calli (va_runS (As := [.int x1, .int (0 : Int32), .int ((σ.1 52) - (1 : Int32))]) (rest := []) ⟨hx, hb, hml, hown, htb⟩ (kcX8_isIn_m l D c q ev hev σ x1 (0 : Int32) ((σ.1 52) - (1 : Int32)) _ hw) (tb_CS htb kX8_isIn tb_1462 tb_1463 ⟨Nat.le_of_ble_eq_true rfl, Nat.le_of_ble_eq_true rfl⟩) (wd_preS (wd := mw c q) hev hK hP hD hE hS) rfl rfl hl.1 rfl (lv_room (Nat.le_of_ble_eq_true rfl)) dX8_isRow_8 ⟨Nat.zero_le _, Nat.zero_le _⟩) hS (fun q _ h => h) (fun q h => h) (fun r1 σ2 t H1 locs1 ht hvm hw hB hz1 hk1 hS => ?_)
  have hP : va_P D vwCl (mw c q σ2) H1 := ht ▸ hB
  have hD : va_D (wdA 31 q) (mw c q σ2) := mw_D hD0
  have hq := hw.2
  exact W.zret hx hb hr (nar_b hw.1) (fun t ht hW => ⟨⟨_, σ2, rfl, hq, by unfold wdB; rw [ht]; exact hP⟩, hS.F ht⟩) hS.2.2 dX8_isRow_11
