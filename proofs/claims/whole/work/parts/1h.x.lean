theorem kX7_needRow : tbM yX7_needRow cX7_needRow 2 none 1 := ⟨tb_1125, tb_90, by decide +kernel, by decide +kernel⟩
theorem kX0_firstUnlawful : tbM yX0_firstUnlawful cX0_firstUnlawful 5 (some .int) 1 := ⟨tb_1130, tb_97, by decide +kernel, by decide +kernel⟩
theorem kX0_firstNotPlain : tbM yX0_firstNotPlain cX0_firstNotPlain 6 (some .int) 2 := ⟨tb_1135, tb_97, by decide +kernel, by decide +kernel⟩
theorem kX0_struckBy : tbM yX0_struckBy cX0_struckBy 4 (some .int) 1 := ⟨tb_1141, tb_97, by decide +kernel, by decide +kernel⟩
theorem kX7_judge : tbM yX7_judge cX7_judge 3 (some .int) 2 := ⟨tb_1121, tb_90, by decide +kernel, by decide +kernel⟩
theorem kX7_hold : tbM yX7_hold cX7_hold 4 (some .boolean) 3 := ⟨tb_1149, tb_90, by decide +kernel, by decide +kernel⟩
theorem kX7_needHolder : tbM yX7_needHolder cX7_needHolder 2 none 1 := ⟨tb_1161, tb_90, by decide +kernel, by decide +kernel⟩
theorem kX0_whyNot : tbM yX0_whyNot cX0_whyNot 3 (some .int) 2 := ⟨tb_1166, tb_97, by decide +kernel, by decide +kernel⟩
theorem kX7_held : tbM yX7_held cX7_held 4 (some .int) 2 := ⟨tb_1157, tb_90, by decide +kernel, by decide +kernel⟩
theorem kX7_left : tbM yX7_left cX7_left 6 (some .int) 2 := ⟨tb_1173, tb_90, by decide +kernel, by decide +kernel⟩
def wX7_needRow (x1 : Int32) (post : hsS → Prop) (px : hsS → Prop) (σ : hsS) : Prop := ((x1 < (0 : Int32) → px σ) ∧ (¬ x1 < (0 : Int32) → ((x1 < (σ.1 1922) → post σ) ∧ (¬ x1 < (σ.1 1922) → px σ))))
set_option maxHeartbeats 4000000 in
set_option maxRecDepth 100000 in
theorem kcX7_needRow (l : Launch) (D : va_G) (c : Nat → ClassId) (q : Nat → Nat) (ev : State → Heap → Prop) (hev : evOK (wdA 36 q) ev) (hst : l.stackTraces = false) (hX : ∀ (U : State) (H : Heap), ev U H → evT (wdA 36 q) U H) (σ : hsS) (x1 : Int32) (post : hsS → Prop) (px : hsS → Prop) (hw : wX7_needRow x1 post px σ) : vx_Met l yX7_needRow (Cond.code yX7_needRow cX7_needRow 2 none :: tb_L) { frames := 8, cells := 1, slots := 6, locals := 128 } (wdPc D (xw c q) (xwT c) (wdA 36 q) ev σ [.ref (q 0), .int x1]) (va_Qv post (wdB D (xw c q)) (wdA 36 q)) (vx_X px (xpB D (xw c q) "java/util/NoSuchElementException") (wdA 36 q)) 1 6 (wdA 36 q) := by
  refine vx_ofW (cc := cX7_needRow) (maxL := 2) (ret := none) (by decide) rfl ?_
  intro p e s m args below meth c₀ s₁ Bd hml htab hv
  obtain ⟨rfl, hP, hK, hD0, hE⟩ := hv
  have hx := Bd.exec
  have hb := Bd.bytes
  have hr := Bd.returns
  have hts := atoms_spec (ws := Cond.code yX7_needRow cX7_needRow 2 none :: tb_L) Bd.pre
  have htb : ∀ w ∈ tb_L, w.before [.ref (q 0), .int x1].toArray s = true := fun w h => hts w (List.mem_cons_of_mem _ h)
  have hown : s.vm.findClass RX7 = some m.cls := findClass_of_methodNamed Bd.named
  have hlocks := Bd.notSynchronized
  have hS : va_S (wdA 36 q) s.heap s.heap [] := va_S.rf
  have hD := hD0
  have hl := lv_entry ([.ref (q 0), .int x1]) (n := 2) (Nat.le_of_ble_eq_true rfl)
  rw [lg_entry_eq]
  generalize (lg_sl ([.ref (q 0), .int x1]) ++ List.replicate (2 - (lg_sl ([.ref (q 0), .int x1])).length) Slot.unset).toArray = ls at hl ⊢
  have hl : lv_has ls 2 [(0, .ref (q 0)), (1, .int x1)] := hl
  unfold wX7_needRow at hw
  refine lv_iload_n hx hb dX7_needRow_0 rfl (lv_at hl 1 rfl) ?_
  refine lv_if_lt (tgt := 15) hx hb dX7_needRow_1 (by decide) (fun c1 => ?_) (fun c1 => ?_)
  · have hw := hw.1 c1
    obtain ⟨hU9, hN9, hF9, hR9⟩ := hX s s.heap hE
    obtain ⟨sa9, hsa9⟩ := hR9 (343, "no such row") (by decide)
    exact xt_throwSW hx hb hst (own := "StrikeHall") (cls := "java/util/NoSuchElementException") (text := "no such row") (names := ["java/lang/Exception"]) (ix := 13) (rx := xt_rx) (Yc := "java/lang/RuntimeException") hown (by decide) (by decide) (by decide +kernel) (by decide +kernel) (by decide +kernel) (by decide +kernel) (by decide) (htb _ tb_883) (htb _ tb_111) hsa9 (hat_NSE htb hF9) hot_NSE hU9 hN9 hS (hl.1.trans hml.symm) dX7_needRow_15 dX7_needRow_18 dX7_needRow_19 dX7_needRow_22 dX7_needRow_25 (fun x h => (htab x h).elim) (Nat.le_of_ble_eq_true rfl) (Nat.le_of_ble_eq_true rfl) (Nat.le_of_ble_eq_true rfl) (Nat.le_of_ble_eq_true rfl) hlocks (fun t hvm hsz hk => ⟨σ, hw, ⟨rfl, wd_grow hP hk⟩, wd_F hS hsz hk⟩) hS.2.2 (Nat.le_of_ble_eq_true rfl) (Nat.le_of_ble_eq_true rfl)
  · have hw := hw.2 c1
    refine lv_iload_n hx hb dX7_needRow_4 rfl (lv_at hl 1 rfl) ?_
    refine lv_aload_n hx hb dX7_needRow_5 rfl (lv_at hl 0 rfl) ?_
    refine va_get (D := D) (ci := 7) (C := RX7) (T := TX7) (N := 9) hx hb htb inX7 hown hK hP 0 (xw_0 c q σ) rfl 7 (by decide) (htb _ tb_349) (fun _ h9 => h9) rfl dX7_needRow_6 ?_
    refine va_getN (D := D) (ci := 0) (C := RX0) (T := TX0) (N := 5) hx hb htb inX0 hown hK hP 30 (xw_30 c q σ) rfl 2 (by decide) (htb _ tb_326) (fun _ h9 => h9) rfl dX7_needRow_9 ?_
    refine lv_icmp_lt (tgt := 26) hx hb dX7_needRow_12 (by decide) (fun c2 => ?_) (fun c2 => ?_)
    · have hw := hw.1 c2
      exact vx_ret (W.widen (k := 1) (n := 6) (Nat.le_of_ble_eq_true rfl) (Nat.le_of_ble_eq_true rfl) (W.vret hx hb hr (fun t ht hW => ⟨⟨σ, rfl, hw, by unfold wdB; rw [ht]; exact hP⟩, hS.F ht⟩) hS.2.2 dX7_needRow_26))
    · have hw := hw.2 c2
      obtain ⟨hU9, hN9, hF9, hR9⟩ := hX s s.heap hE
      obtain ⟨sa9, hsa9⟩ := hR9 (343, "no such row") (by decide)
      exact xt_throwSW hx hb hst (own := "StrikeHall") (cls := "java/util/NoSuchElementException") (text := "no such row") (names := ["java/lang/Exception"]) (ix := 13) (rx := xt_rx) (Yc := "java/lang/RuntimeException") hown (by decide) (by decide) (by decide +kernel) (by decide +kernel) (by decide +kernel) (by decide +kernel) (by decide) (htb _ tb_883) (htb _ tb_111) hsa9 (hat_NSE htb hF9) hot_NSE hU9 hN9 hS (hl.1.trans hml.symm) dX7_needRow_15 dX7_needRow_18 dX7_needRow_19 dX7_needRow_22 dX7_needRow_25 (fun x h => (htab x h).elim) (Nat.le_of_ble_eq_true rfl) (Nat.le_of_ble_eq_true rfl) (Nat.le_of_ble_eq_true rfl) (Nat.le_of_ble_eq_true rfl) hlocks (fun t hvm hsz hk => ⟨σ, hw, ⟨rfl, wd_grow hP hk⟩, wd_F hS hsz hk⟩) hS.2.2 (Nat.le_of_ble_eq_true rfl) (Nat.le_of_ble_eq_true rfl)
def wX0_firstUnlawful_L4 (b0 : Nat) (z1 : Int32) (K36 : Int32 → Int32 → hsS → Prop) (K51 : Int32 → Int32 → hsS → Prop) (post : Int32 → hsS → Prop) : Nat → Int32 → Int32 → hsS → Prop
  | 0, _, _, _ => False
  | n + 1, y2, y3, σ => vp_in z1 12 ∧ (((σ.2.1 (b0 + 1) z1.toNatClampNeg) ≤ y3 → K51 y2 y3 σ) ∧ (¬ (σ.2.1 (b0 + 1) z1.toNatClampNeg) ≤ y3 → vp_in z1 12 ∧ wX0_strikeIn (σ.2.2 (b0 + 2) z1.toNatClampNeg) y3 (fun r2 σ3 => ((((y2 >>> (r2 &&& 31)) &&& (1 : Int32)) = (1 : Int32) → K36 y2 y3 σ3) ∧ (¬ ((y2 >>> (r2 &&& 31)) &&& (1 : Int32)) = (1 : Int32) → ∀ v5 : Int32, v5 = y2 ||| ((1 : Int32) <<< (r2 &&& 31)) → ∀ v6 : Int32, v6 = y3 + (1 : Int32) → wX0_firstUnlawful_L4 b0 z1 K36 K51 post n v5 v6 σ3))) σ))
def wX0_firstUnlawful (b0 : Nat) (x1 : Int32) (post : Int32 → hsS → Prop) (σ : hsS) : Prop := ∃ n7, wX0_firstUnlawful_L4 b0 x1 (fun v8 v9 σ10 => post v9 σ10) (fun v11 v12 σ13 => post (-1 : Int32) σ13) post n7 (0 : Int32) (0 : Int32) σ
set_option maxHeartbeats 4000000 in
set_option maxRecDepth 100000 in
theorem kcX0_firstUnlawful_30 (l : Launch) (D : va_G) (c : Nat → ClassId) (q : Nat → Nat) (ev : State → Heap → Prop) (hev : evOK (wdA 36 q) ev) (σ : hsS) (x1 : Int32) (post : Int32 → hsS → Prop) (hw : wX0_firstUnlawful 30 x1 post σ) : Met l yX0_firstUnlawful (Cond.code yX0_firstUnlawful cX0_firstUnlawful 5 (some .int) :: tb_L) { frames := 1, cells := 0, slots := 0, locals := 22 } (wdPc D (xw c q) (xwT c) (wdA 36 q) ev σ [.ref (q 30), .int x1]) (va_Qi post (wdB D (xw c q)) (wdA 36 q)) 0 0 (wdA 36 q) := by
  refine Met.ofW (cc := cX0_firstUnlawful) (maxL := 5) (ret := (some .int)) (by decide) rfl ?_
  intro p e s m args below meth c₀ s₁ Bd hml hv
  obtain ⟨rfl, hP, hK, hD0, hE⟩ := hv
  have hx := Bd.exec
  have hb := Bd.bytes
  have hr := Bd.returns
  have hts := atoms_spec (ws := Cond.code yX0_firstUnlawful cX0_firstUnlawful 5 (some .int) :: tb_L) Bd.pre
  have htb : ∀ w ∈ tb_L, w.before [.ref (q 30), .int x1].toArray s = true := fun w h => hts w (List.mem_cons_of_mem _ h)
  have hown : s.vm.findClass RX0 = some m.cls := findClass_of_methodNamed Bd.named
  have hlocks := Bd.notSynchronized
  have hS : va_S (wdA 36 q) s.heap s.heap [] := va_S.rf
  have hD := hD0
  have L4 : ∀ (K36 : Int32 → Int32 → hsS → Prop) (K51 : Int32 → Int32 → hsS → Prop) (z1 : Int32) (n : Nat) (y2 : Int32) (y3 : Int32) (σ : hsS) (H : Heap) (locs : List Loc) (ls : Array Slot), wX0_firstUnlawful_L4 30 z1 K36 K51 post n y2 y3 σ → (∀ (y2 : Int32) (y3 : Int32) (σ : hsS) (H : Heap) (locs : List Loc) (ls : Array Slot), K36 y2 y3 σ → va_P D vwCl (xw c q σ) H → va_S (wdA 36 q) s.heap H locs → lv_has ls 5 [(0, .ref (q 30)), (1, .int z1), (2, .int y2), (3, .int y3)] → W p l e (headSpec (Cond.code yX0_firstUnlawful cX0_firstUnlawful 5 (some .int) :: tb_L) { frames := 1, cells := 0, slots := 0, locals := 22 }).room s m [.ref (q 30), .int x1].toArray below meth c₀ H locs 0 0 (MQ below (va_Qi post (wdB D (xw c q)) (wdA 36 q)) [.ref (q 30), .int x1].toArray s 0 0 (wdA 36 q)) (F0 m 36 ls [])) → (∀ (y2 : Int32) (y3 : Int32) (σ : hsS) (H : Heap) (locs : List Loc) (ls : Array Slot), K51 y2 y3 σ → va_P D vwCl (xw c q σ) H → va_S (wdA 36 q) s.heap H locs → lv_has ls 5 [(0, .ref (q 30)), (1, .int z1), (2, .int y2), (3, .int y3)] → W p l e (headSpec (Cond.code yX0_firstUnlawful cX0_firstUnlawful 5 (some .int) :: tb_L) { frames := 1, cells := 0, slots := 0, locals := 22 }).room s m [.ref (q 30), .int x1].toArray below meth c₀ H locs 0 0 (MQ below (va_Qi post (wdB D (xw c q)) (wdA 36 q)) [.ref (q 30), .int x1].toArray s 0 0 (wdA 36 q)) (F0 m 51 ls [])) → va_P D vwCl (xw c q σ) H → va_S (wdA 36 q) s.heap H locs → lv_has ls 5 [(0, .ref (q 30)), (1, .int z1), (2, .int y2), (3, .int y3)] → W p l e (headSpec (Cond.code yX0_firstUnlawful cX0_firstUnlawful 5 (some .int) :: tb_L) { frames := 1, cells := 0, slots := 0, locals := 22 }).room s m [.ref (q 30), .int x1].toArray below meth c₀ H locs 0 0 (MQ below (va_Qi post (wdB D (xw c q)) (wdA 36 q)) [.ref (q 30), .int x1].toArray s 0 0 (wdA 36 q)) (F0 m 4 ls []) := by
    intro K36 K51 z1 n
    induction n with
    | zero =>
      intro y2 y3 σ H locs ls hw hk36 hk51 hP hS hl
      exact (show False from hw).elim
    | succ n ih =>
      intro y2 y3 σ H locs ls hw hk36 hk51 hP hS hl
      rw [wX0_firstUnlawful_L4] at hw
      have hD : va_D (wdA 36 q) (xw c q σ) := xw_D hD0
      refine lv_iload_n hx hb dX0_firstUnlawful_4 rfl (lv_at hl 3 rfl) ?_
      refine lv_aload_n hx hb dX0_firstUnlawful_5 rfl (lv_at hl 0 rfl) ?_
      refine va_get (D := D) (ci := 0) (C := RX0) (T := TX0) (N := 5) hx hb htb inX0 hown hK hP 30 (xw_30 c q σ) rfl 0 (by decide) (htb _ tb_322) (fun _ h9 => h9) rfl dX0_firstUnlawful_6 ?_
      refine lv_iload_n hx hb dX0_firstUnlawful_9 rfl (lv_at hl 1 rfl) ?_
      refine va_iald hx hb hK hP 31 21 (xw_31 c q σ) rfl hw.1 dX0_firstUnlawful_10 ?_
      have hw := hw.2
      refine lv_icmp_ge (tgt := 51) hx hb dX0_firstUnlawful_11 (by decide) (fun c1 => ?_) (fun c1 => ?_)
      · have hw := hw.1 c1
        exact hk51 y2 y3 σ _ _ _ hw hP hS (lv_sub hl [0, 1, 2, 3] rfl)
      · have hw := hw.2 c1
        refine lv_aload_n hx hb dX0_firstUnlawful_14 rfl (lv_at hl 0 rfl) ?_
        refine va_get (D := D) (ci := 0) (C := RX0) (T := TX0) (N := 5) hx hb htb inX0 hown hK hP 30 (xw_30 c q σ) rfl 1 (by decide) (htb _ tb_324) (fun _ h9 => h9) rfl dX0_firstUnlawful_15 ?_
        refine lv_iload_n hx hb dX0_firstUnlawful_18 rfl (lv_at hl 1 rfl) ?_
        refine va_lald hx hb hK hP 32 22 (xw_32 c q σ) rfl hw.1 dX0_firstUnlawful_19 ?_
        have hw := hw.2
        refine lv_iload_n hx hb dX0_firstUnlawful_20 rfl (lv_at hl 3 rfl) ?_
        refine va_calli (va_runS (As := [.long (σ.2.2 32 z1.toNatClampNeg), .int y3]) (rest := []) ⟨hx, hb, hml, hown, htb⟩ (kcX0_strikeIn_x l D c q ev hev σ (σ.2.2 32 z1.toNatClampNeg) y3 _ hw) (tb_CS htb kX0_strikeIn tb_1131 tb_623 ⟨Nat.le_of_ble_eq_true rfl, Nat.le_of_ble_eq_true rfl⟩) (wd_preS (wd := xw c q) hev hK hP hD hE hS) rfl rfl hl.1 rfl (lv_room (Nat.le_of_ble_eq_true rfl)) dX0_firstUnlawful_21 ⟨Nat.zero_le _, Nat.zero_le _⟩) hS (fun q _ h => h) (fun q h => h) (fun r2 σ3 t H1 locs1 ht hvm hw hB hz1 hk1 hS => ?_)
        have hP : va_P D vwCl (xw c q σ3) H1 := ht ▸ hB
        have hD : va_D (wdA 36 q) (xw c q σ3) := xw_D hD0
        refine lv_istore (lv' := [(4, .int r2), (0, .ref (q 30)), (1, .int z1), (2, .int y2), (3, .int y3)]) hx hb dX0_firstUnlawful_24 hl (by decide) rfl (fun ls hl => ?_)
        refine lv_iload_n hx hb dX0_firstUnlawful_26 rfl (lv_at hl 3 rfl) ?_
        refine lv_iload hx hb dX0_firstUnlawful_27 (lv_at hl 0 rfl) ?_
        refine lv_ishr hx hb dX0_firstUnlawful_29 ?_
        refine lv_iconst (v := (1 : Int32)) hx hb dX0_firstUnlawful_30 (by decide) ?_
        refine lv_iand hx hb dX0_firstUnlawful_31 ?_
        refine lv_iconst (v := (1 : Int32)) hx hb dX0_firstUnlawful_32 (by decide) ?_
        refine lv_icmp_ne (tgt := 38) hx hb dX0_firstUnlawful_33 (by decide) (fun c4 => ?_) (fun c4 => ?_)
        · have hw := hw.2 c4
          refine lv_iload_n hx hb dX0_firstUnlawful_38 rfl (lv_at hl 3 rfl) ?_
          refine lv_iconst (v := (1 : Int32)) hx hb dX0_firstUnlawful_39 (by decide) ?_
          refine lv_iload hx hb dX0_firstUnlawful_40 (lv_at hl 0 rfl) ?_
          refine lv_ishl hx hb dX0_firstUnlawful_42 ?_
          refine lv_ior hx hb dX0_firstUnlawful_43 ?_
          refine lv_topi (fun v5 ev5 => ?_)
          have hw := hw v5 ev5
          refine lv_istore_n (lv' := [(2, .int v5), (4, .int r2), (0, .ref (q 30)), (1, .int z1), (3, .int y3)]) hx hb dX0_firstUnlawful_44 rfl hl (by decide) rfl (fun ls hl => ?_)
          obtain ⟨v6, ev6⟩ : ∃ z : Int32, z = y3 + (1 : Int32) := ⟨_, rfl⟩
          have hw := hw v6 ev6
          refine lv_iinc (v := v6) (lv' := [(3, .int v6), (2, .int v5), (4, .int r2), (0, .ref (q 30)), (1, .int z1)]) hx hb dX0_firstUnlawful_45 hl (k := 4) rfl (by rw [ev6]; rfl) (by decide) rfl (fun ls hl => ?_)
          refine lv_goto (tgt := 4) hx hb dX0_firstUnlawful_48 (by decide) ?_
          exact ih v5 v6 σ3 _ _ _ hw hk36 hk51 hP hS (lv_sub hl [3, 4, 1, 0] rfl)
        · have hw := hw.1 c4
          exact hk36 y2 y3 σ3 _ _ _ hw hP hS (lv_sub hl [1, 2, 3, 4] rfl)
  have hl := lv_entry ([.ref (q 30), .int x1]) (n := 5) (Nat.le_of_ble_eq_true rfl)
  rw [lg_entry_eq]
  generalize (lg_sl ([.ref (q 30), .int x1]) ++ List.replicate (5 - (lg_sl ([.ref (q 30), .int x1])).length) Slot.unset).toArray = ls at hl ⊢
  have hl : lv_has ls 5 [(0, .ref (q 30)), (1, .int x1)] := hl
  unfold wX0_firstUnlawful at hw
  refine lv_iconst (v := (0 : Int32)) hx hb dX0_firstUnlawful_0 (by decide) ?_
  refine lv_istore_n (lv' := [(2, .int (0 : Int32)), (0, .ref (q 30)), (1, .int x1)]) hx hb dX0_firstUnlawful_1 rfl hl (by decide) rfl (fun ls hl => ?_)
  refine lv_iconst (v := (0 : Int32)) hx hb dX0_firstUnlawful_2 (by decide) ?_
  refine lv_istore_n (lv' := [(3, .int (0 : Int32)), (2, .int (0 : Int32)), (0, .ref (q 30)), (1, .int x1)]) hx hb dX0_firstUnlawful_3 rfl hl (by decide) rfl (fun ls hl => ?_)
  obtain ⟨n7, hw⟩ := hw
  refine L4 _ _ x1 n7 (0 : Int32) (0 : Int32) σ _ _ _ hw ?_ ?_ hP hS (lv_sub hl [2, 3, 1, 0] rfl)
  · intro v8 v9 σ10 H locs ls hw hP hS hl
    have hD : va_D (wdA 36 q) (xw c q σ10) := xw_D hD0
    refine lv_iload_n hx hb dX0_firstUnlawful_36 rfl (lv_at hl 3 rfl) ?_
    exact W.iret hx hb hr (fun t ht hW => ⟨⟨_, σ10, rfl, hw, by unfold wdB; rw [ht]; exact hP⟩, hS.F ht⟩) hS.2.2 dX0_firstUnlawful_37
  · intro v11 v12 σ13 H locs ls hw hP hS hl
    have hD : va_D (wdA 36 q) (xw c q σ13) := xw_D hD0
    refine lv_iconst (v := (-1 : Int32)) hx hb dX0_firstUnlawful_51 (by decide) ?_
    exact W.iret hx hb hr (fun t ht hW => ⟨⟨_, σ13, rfl, hw, by unfold wdB; rw [ht]; exact hP⟩, hS.F ht⟩) hS.2.2 dX0_firstUnlawful_52
def wX0_firstNotPlain_L8 (b0 : Nat) (b2 : Nat) (z1 : Int32) (K58 : Int32 → Int32 → hsS → Prop) (K76 : Int32 → Int32 → hsS → Prop) (post : Int32 → hsS → Prop) : Nat → Int32 → Int32 → hsS → Prop
  | 0, _, _, _ => False
  | n + 1, y3, y4, σ => vp_in z1 12 ∧ (((σ.2.1 (b0 + 1) z1.toNatClampNeg) ≤ y4 → K76 y3 y4 σ) ∧ (¬ (σ.2.1 (b0 + 1) z1.toNatClampNeg) ≤ y4 → (((σ.1 (64 * b2 + 6)) ≤ y4 → K76 y3 y4 σ) ∧ (¬ (σ.1 (64 * b2 + 6)) ≤ y4 → vp_in z1 12 ∧ wX0_strikeIn (σ.2.2 (b0 + 2) z1.toNatClampNeg) y4 (fun r5 σ6 => vp_in y4 8 ∧ wX1_plainStrike b2 (σ6.2.1 (b2 + 4) y4.toNatClampNeg) y3 (fun r7 σ8 => ((r5 = r7 → ∀ v10 : Int32, v10 = y3 &&& (((1 : Int32) <<< (r5 &&& 31)) ^^^ (-1 : Int32)) → ∀ v11 : Int32, v11 = y4 + (1 : Int32) → wX0_firstNotPlain_L8 b0 b2 z1 K58 K76 post n v10 v11 σ8) ∧ (¬ r5 = r7 → K58 y3 y4 σ8))) σ6) σ))))
def wX0_firstNotPlain (b0 : Nat) (x1 : Int32) (b2 : Nat) (post : Int32 → hsS → Prop) (σ : hsS) : Prop := wX1_allThings b2 (fun r1 σ2 => ∃ n12, wX0_firstNotPlain_L8 b0 b2 x1 (fun v13 v14 σ15 => post v14 σ15) (fun v16 v17 σ18 => post (-1 : Int32) σ18) post n12 r1 (0 : Int32) σ2) σ
set_option maxHeartbeats 4000000 in
set_option maxRecDepth 100000 in
theorem kcX0_firstNotPlain_30_1 (l : Launch) (D : va_G) (c : Nat → ClassId) (q : Nat → Nat) (ev : State → Heap → Prop) (hev : evOK (wdA 36 q) ev) (σ : hsS) (x1 : Int32) (post : Int32 → hsS → Prop) (hw : wX0_firstNotPlain 30 x1 1 post σ) : Met l yX0_firstNotPlain (Cond.code yX0_firstNotPlain cX0_firstNotPlain 6 (some .int) :: tb_L) { frames := 2, cells := 0, slots := 0, locals := 46 } (wdPc D (xw c q) (xwT c) (wdA 36 q) ev σ [.ref (q 30), .int x1, .ref (q 1)]) (va_Qi post (wdB D (xw c q)) (wdA 36 q)) 0 0 (wdA 36 q) := by
  refine Met.ofW (cc := cX0_firstNotPlain) (maxL := 6) (ret := (some .int)) (by decide) rfl ?_
  intro p e s m args below meth c₀ s₁ Bd hml hv
  obtain ⟨rfl, hP, hK, hD0, hE⟩ := hv
  have hx := Bd.exec
  have hb := Bd.bytes
  have hr := Bd.returns
  have hts := atoms_spec (ws := Cond.code yX0_firstNotPlain cX0_firstNotPlain 6 (some .int) :: tb_L) Bd.pre
  have htb : ∀ w ∈ tb_L, w.before [.ref (q 30), .int x1, .ref (q 1)].toArray s = true := fun w h => hts w (List.mem_cons_of_mem _ h)
  have hown : s.vm.findClass RX0 = some m.cls := findClass_of_methodNamed Bd.named
  have hlocks := Bd.notSynchronized
  have hS : va_S (wdA 36 q) s.heap s.heap [] := va_S.rf
  have hD := hD0
  have L8 : ∀ (K58 : Int32 → Int32 → hsS → Prop) (K76 : Int32 → Int32 → hsS → Prop) (z1 : Int32) (n : Nat) (y3 : Int32) (y4 : Int32) (σ : hsS) (H : Heap) (locs : List Loc) (ls : Array Slot), wX0_firstNotPlain_L8 30 1 z1 K58 K76 post n y3 y4 σ → (∀ (y3 : Int32) (y4 : Int32) (σ : hsS) (H : Heap) (locs : List Loc) (ls : Array Slot), K58 y3 y4 σ → va_P D vwCl (xw c q σ) H → va_S (wdA 36 q) s.heap H locs → lv_has ls 6 [(0, .ref (q 30)), (1, .int z1), (2, .ref (q 1)), (3, .int y3), (4, .int y4)] → W p l e (headSpec (Cond.code yX0_firstNotPlain cX0_firstNotPlain 6 (some .int) :: tb_L) { frames := 2, cells := 0, slots := 0, locals := 46 }).room s m [.ref (q 30), .int x1, .ref (q 1)].toArray below meth c₀ H locs 0 0 (MQ below (va_Qi post (wdB D (xw c q)) (wdA 36 q)) [.ref (q 30), .int x1, .ref (q 1)].toArray s 0 0 (wdA 36 q)) (F0 m 58 ls [])) → (∀ (y3 : Int32) (y4 : Int32) (σ : hsS) (H : Heap) (locs : List Loc) (ls : Array Slot), K76 y3 y4 σ → va_P D vwCl (xw c q σ) H → va_S (wdA 36 q) s.heap H locs → lv_has ls 6 [(0, .ref (q 30)), (1, .int z1), (2, .ref (q 1)), (3, .int y3), (4, .int y4)] → W p l e (headSpec (Cond.code yX0_firstNotPlain cX0_firstNotPlain 6 (some .int) :: tb_L) { frames := 2, cells := 0, slots := 0, locals := 46 }).room s m [.ref (q 30), .int x1, .ref (q 1)].toArray below meth c₀ H locs 0 0 (MQ below (va_Qi post (wdB D (xw c q)) (wdA 36 q)) [.ref (q 30), .int x1, .ref (q 1)].toArray s 0 0 (wdA 36 q)) (F0 m 76 ls [])) → va_P D vwCl (xw c q σ) H → va_S (wdA 36 q) s.heap H locs → lv_has ls 6 [(0, .ref (q 30)), (1, .int z1), (2, .ref (q 1)), (3, .int y3), (4, .int y4)] → W p l e (headSpec (Cond.code yX0_firstNotPlain cX0_firstNotPlain 6 (some .int) :: tb_L) { frames := 2, cells := 0, slots := 0, locals := 46 }).room s m [.ref (q 30), .int x1, .ref (q 1)].toArray below meth c₀ H locs 0 0 (MQ below (va_Qi post (wdB D (xw c q)) (wdA 36 q)) [.ref (q 30), .int x1, .ref (q 1)].toArray s 0 0 (wdA 36 q)) (F0 m 8 ls []) := by
    intro K58 K76 z1 n
    induction n with
    | zero =>
      intro y3 y4 σ H locs ls hw hk58 hk76 hP hS hl
      exact (show False from hw).elim
    | succ n ih =>
      intro y3 y4 σ H locs ls hw hk58 hk76 hP hS hl
      rw [wX0_firstNotPlain_L8] at hw
      have hD : va_D (wdA 36 q) (xw c q σ) := xw_D hD0
      refine lv_iload hx hb dX0_firstNotPlain_8 (lv_at hl 4 rfl) ?_
      refine lv_aload_n hx hb dX0_firstNotPlain_10 rfl (lv_at hl 0 rfl) ?_
      refine va_get (D := D) (ci := 0) (C := RX0) (T := TX0) (N := 5) hx hb htb inX0 hown hK hP 30 (xw_30 c q σ) rfl 0 (by decide) (htb _ tb_322) (fun _ h9 => h9) rfl dX0_firstNotPlain_11 ?_
      refine lv_iload_n hx hb dX0_firstNotPlain_14 rfl (lv_at hl 1 rfl) ?_
      refine va_iald hx hb hK hP 31 21 (xw_31 c q σ) rfl hw.1 dX0_firstNotPlain_15 ?_
      have hw := hw.2
      refine lv_icmp_ge (tgt := 76) hx hb dX0_firstNotPlain_16 (by decide) (fun c3 => ?_) (fun c3 => ?_)
      · have hw := hw.1 c3
        exact hk76 y3 y4 σ _ _ _ hw hP hS (lv_sub hl [0, 1, 2, 3, 4] rfl)
      · have hw := hw.2 c3
        refine lv_iload hx hb dX0_firstNotPlain_19 (lv_at hl 4 rfl) ?_
        refine lv_aload_n hx hb dX0_firstNotPlain_21 rfl (lv_at hl 2 rfl) ?_
        refine va_getN (D := D) (ci := 1) (C := RX1) (T := TX1) (N := 12) hx hb htb inX1 hown hK hP 1 (xw_1 c q σ) rfl 6 (by decide) (htb _ tb_152) (fun _ h9 => h9) rfl dX0_firstNotPlain_22 ?_
        refine lv_icmp_ge (tgt := 76) hx hb dX0_firstNotPlain_25 (by decide) (fun c4 => ?_) (fun c4 => ?_)
        · have hw := hw.1 c4
          exact hk76 y3 y4 σ _ _ _ hw hP hS (lv_sub hl [0, 1, 2, 3, 4] rfl)
        · have hw := hw.2 c4
          refine lv_aload_n hx hb dX0_firstNotPlain_28 rfl (lv_at hl 0 rfl) ?_
          refine va_get (D := D) (ci := 0) (C := RX0) (T := TX0) (N := 5) hx hb htb inX0 hown hK hP 30 (xw_30 c q σ) rfl 1 (by decide) (htb _ tb_324) (fun _ h9 => h9) rfl dX0_firstNotPlain_29 ?_
          refine lv_iload_n hx hb dX0_firstNotPlain_32 rfl (lv_at hl 1 rfl) ?_
          refine va_lald hx hb hK hP 32 22 (xw_32 c q σ) rfl hw.1 dX0_firstNotPlain_33 ?_
          have hw := hw.2
          refine lv_iload hx hb dX0_firstNotPlain_34 (lv_at hl 4 rfl) ?_
          refine va_calli (va_runS (As := [.long (σ.2.2 32 z1.toNatClampNeg), .int y4]) (rest := []) ⟨hx, hb, hml, hown, htb⟩ (kcX0_strikeIn_x l D c q ev hev σ (σ.2.2 32 z1.toNatClampNeg) y4 _ hw) (tb_CS htb kX0_strikeIn tb_1131 tb_623 ⟨Nat.le_of_ble_eq_true rfl, Nat.le_of_ble_eq_true rfl⟩) (wd_preS (wd := xw c q) hev hK hP hD hE hS) rfl rfl hl.1 rfl (lv_room (Nat.le_of_ble_eq_true rfl)) dX0_firstNotPlain_36 ⟨Nat.zero_le _, Nat.zero_le _⟩) hS (fun q _ h => h) (fun q h => h) (fun r5 σ6 t H1 locs1 ht hvm hw hB hz1 hk1 hS => ?_)
          have hP : va_P D vwCl (xw c q σ6) H1 := ht ▸ hB
          have hD : va_D (wdA 36 q) (xw c q σ6) := xw_D hD0
          refine lv_istore (lv' := [(5, .int r5), (0, .ref (q 30)), (1, .int z1), (2, .ref (q 1)), (3, .int y3), (4, .int y4)]) hx hb dX0_firstNotPlain_39 hl (by decide) rfl (fun ls hl => ?_)
          refine lv_iload hx hb dX0_firstNotPlain_41 (lv_at hl 0 rfl) ?_
          refine lv_aload_n hx hb dX0_firstNotPlain_43 rfl (lv_at hl 3 rfl) ?_
          refine lv_aload_n hx hb dX0_firstNotPlain_44 rfl (lv_at hl 3 rfl) ?_
          refine va_getN (D := D) (ci := 1) (C := RX1) (T := TX1) (N := 12) hx hb htb inX1 hown hK hP 1 (xw_1 c q σ6) rfl 11 (by decide) (htb _ tb_164) (fun _ h9 => h9) rfl dX0_firstNotPlain_45 ?_
          refine lv_iload hx hb dX0_firstNotPlain_48 (lv_at hl 5 rfl) ?_
          refine va_iald hx hb hK hP 5 3 (xw_5 c q σ6) rfl hw.1 dX0_firstNotPlain_50 ?_
          have hw := hw.2
          refine lv_iload_n hx hb dX0_firstNotPlain_51 rfl (lv_at hl 4 rfl) ?_
          refine va_calli (va_runV (As := [.int (σ6.2.1 5 y4.toNatClampNeg), .int y3]) (rest := [.int r5]) ⟨hx, hb, hml, hown, htb⟩ (kcX1_plainStrike_1 l D c q ev hev σ6 (σ6.2.1 5 y4.toNatClampNeg) y3 _ hw) (tb_CW htb kX1_plainStrike tb_1137 tb_467 tb_468 ⟨Nat.le_of_ble_eq_true rfl, Nat.le_of_ble_eq_true rfl⟩) (wd_preV (wd := xw c q) (k := 1) hev hK hP hD hE hS (xw_1 c q σ6) rfl) rfl rfl hl.1 rfl (lv_room (Nat.le_of_ble_eq_true rfl)) dX0_firstNotPlain_52 ⟨Nat.zero_le _, Nat.zero_le _⟩) hS (fun q _ h => h) (fun q h => h) (fun r7 σ8 t H1 locs1 ht hvm hw hB hz1 hk1 hS => ?_)
          have hP : va_P D vwCl (xw c q σ8) H1 := ht ▸ hB
          have hD : va_D (wdA 36 q) (xw c q σ8) := xw_D hD0
          refine lv_icmp_eq (tgt := 61) hx hb dX0_firstNotPlain_55 (by decide) (fun c9 => ?_) (fun c9 => ?_)
          · have hw := hw.1 c9
            refine lv_iload_n hx hb dX0_firstNotPlain_61 rfl (lv_at hl 4 rfl) ?_
            refine lv_iconst (v := (1 : Int32)) hx hb dX0_firstNotPlain_62 (by decide) ?_
            refine lv_iload hx hb dX0_firstNotPlain_63 (lv_at hl 0 rfl) ?_
            refine lv_ishl hx hb dX0_firstNotPlain_65 ?_
            refine lv_iconst (v := (-1 : Int32)) hx hb dX0_firstNotPlain_66 (by decide) ?_
            refine lv_ixor hx hb dX0_firstNotPlain_67 ?_
            refine lv_iand hx hb dX0_firstNotPlain_68 ?_
            refine lv_topi (fun v10 ev10 => ?_)
            have hw := hw v10 ev10
            refine lv_istore_n (lv' := [(3, .int v10), (5, .int r5), (0, .ref (q 30)), (1, .int z1), (2, .ref (q 1)), (4, .int y4)]) hx hb dX0_firstNotPlain_69 rfl hl (by decide) rfl (fun ls hl => ?_)
            obtain ⟨v11, ev11⟩ : ∃ z : Int32, z = y4 + (1 : Int32) := ⟨_, rfl⟩
            have hw := hw v11 ev11
            refine lv_iinc (v := v11) (lv' := [(4, .int v11), (3, .int v10), (5, .int r5), (0, .ref (q 30)), (1, .int z1), (2, .ref (q 1))]) hx hb dX0_firstNotPlain_70 hl (k := 5) rfl (by rw [ev11]; rfl) (by decide) rfl (fun ls hl => ?_)
            refine lv_goto (tgt := 8) hx hb dX0_firstNotPlain_73 (by decide) ?_
            exact ih v10 v11 σ8 _ _ _ hw hk58 hk76 hP hS (lv_sub hl [3, 4, 5, 1, 0] rfl)
          · have hw := hw.2 c9
            exact hk58 y3 y4 σ8 _ _ _ hw hP hS (lv_sub hl [1, 2, 3, 4, 5] rfl)
  have hl := lv_entry ([.ref (q 30), .int x1, .ref (q 1)]) (n := 6) (Nat.le_of_ble_eq_true rfl)
  rw [lg_entry_eq]
  generalize (lg_sl ([.ref (q 30), .int x1, .ref (q 1)]) ++ List.replicate (6 - (lg_sl ([.ref (q 30), .int x1, .ref (q 1)])).length) Slot.unset).toArray = ls at hl ⊢
  have hl : lv_has ls 6 [(0, .ref (q 30)), (1, .int x1), (2, .ref (q 1))] := hl
  unfold wX0_firstNotPlain at hw
  refine lv_aload_n hx hb dX0_firstNotPlain_0 rfl (lv_at hl 2 rfl) ?_
  refine va_calli (va_runV (As := []) (rest := []) ⟨hx, hb, hml, hown, htb⟩ (kcX1_allThings_1 l D c q ev hev σ  _ hw) (tb_CW htb kX1_allThings tb_1136 tb_438 tb_439 ⟨Nat.le_of_ble_eq_true rfl, Nat.le_of_ble_eq_true rfl⟩) (wd_preV (wd := xw c q) (k := 1) hev hK hP hD hE hS (xw_1 c q σ) rfl) rfl rfl hl.1 rfl (lv_room (Nat.le_of_ble_eq_true rfl)) dX0_firstNotPlain_1 ⟨Nat.zero_le _, Nat.zero_le _⟩) hS (fun q _ h => h) (fun q h => h) (fun r1 σ2 t H1 locs1 ht hvm hw hB hz1 hk1 hS => ?_)
  have hP : va_P D vwCl (xw c q σ2) H1 := ht ▸ hB
  have hD : va_D (wdA 36 q) (xw c q σ2) := xw_D hD0
  refine lv_istore_n (lv' := [(3, .int r1), (0, .ref (q 30)), (1, .int x1), (2, .ref (q 1))]) hx hb dX0_firstNotPlain_4 rfl hl (by decide) rfl (fun ls hl => ?_)
  refine lv_iconst (v := (0 : Int32)) hx hb dX0_firstNotPlain_5 (by decide) ?_
  refine lv_istore (lv' := [(4, .int (0 : Int32)), (3, .int r1), (0, .ref (q 30)), (1, .int x1), (2, .ref (q 1))]) hx hb dX0_firstNotPlain_6 hl (by decide) rfl (fun ls hl => ?_)
  obtain ⟨n12, hw⟩ := hw
  refine L8 _ _ x1 n12 r1 (0 : Int32) σ2 _ _ _ hw ?_ ?_ hP hS (lv_sub hl [2, 3, 4, 1, 0] rfl)
  · intro v13 v14 σ15 H locs ls hw hP hS hl
    have hD : va_D (wdA 36 q) (xw c q σ15) := xw_D hD0
    refine lv_iload hx hb dX0_firstNotPlain_58 (lv_at hl 4 rfl) ?_
    exact W.iret hx hb hr (fun t ht hW => ⟨⟨_, σ15, rfl, hw, by unfold wdB; rw [ht]; exact hP⟩, hS.F ht⟩) hS.2.2 dX0_firstNotPlain_60
  · intro v16 v17 σ18 H locs ls hw hP hS hl
    have hD : va_D (wdA 36 q) (xw c q σ18) := xw_D hD0
    refine lv_iconst (v := (-1 : Int32)) hx hb dX0_firstNotPlain_76 (by decide) ?_
    exact W.iret hx hb hr (fun t ht hW => ⟨⟨_, σ18, rfl, hw, by unfold wdB; rw [ht]; exact hP⟩, hS.F ht⟩) hS.2.2 dX0_firstNotPlain_77
def wX0_struckBy_L4 (b0 : Nat) (z1 : Int32) (K35 : Int32 → Int32 → hsS → Prop) (post : Int32 → hsS → Prop) : Nat → Int32 → Int32 → hsS → Prop
  | 0, _, _, _ => False
  | n + 1, y2, y3, σ => vp_in z1 12 ∧ (((σ.2.1 (b0 + 1) z1.toNatClampNeg) ≤ y3 → K35 y2 y3 σ) ∧ (¬ (σ.2.1 (b0 + 1) z1.toNatClampNeg) ≤ y3 → vp_in z1 12 ∧ wX0_strikeIn (σ.2.2 (b0 + 2) z1.toNatClampNeg) y3 (fun r2 σ3 => ∀ v4 : Int32, v4 = y2 ||| ((1 : Int32) <<< (r2 &&& 31)) → ∀ v5 : Int32, v5 = y3 + (1 : Int32) → wX0_struckBy_L4 b0 z1 K35 post n v4 v5 σ3) σ))
def wX0_struckBy (b0 : Nat) (x1 : Int32) (post : Int32 → hsS → Prop) (σ : hsS) : Prop := ∃ n6, wX0_struckBy_L4 b0 x1 (fun v7 v8 σ9 => post v7 σ9) post n6 (0 : Int32) (0 : Int32) σ
set_option maxHeartbeats 4000000 in
set_option maxRecDepth 100000 in
theorem kcX0_struckBy_30 (l : Launch) (D : va_G) (c : Nat → ClassId) (q : Nat → Nat) (ev : State → Heap → Prop) (hev : evOK (wdA 36 q) ev) (σ : hsS) (x1 : Int32) (post : Int32 → hsS → Prop) (hw : wX0_struckBy 30 x1 post σ) : Met l yX0_struckBy (Cond.code yX0_struckBy cX0_struckBy 4 (some .int) :: tb_L) { frames := 1, cells := 0, slots := 0, locals := 22 } (wdPc D (xw c q) (xwT c) (wdA 36 q) ev σ [.ref (q 30), .int x1]) (va_Qi post (wdB D (xw c q)) (wdA 36 q)) 0 0 (wdA 36 q) := by
  refine Met.ofW (cc := cX0_struckBy) (maxL := 4) (ret := (some .int)) (by decide) rfl ?_
  intro p e s m args below meth c₀ s₁ Bd hml hv
  obtain ⟨rfl, hP, hK, hD0, hE⟩ := hv
  have hx := Bd.exec
  have hb := Bd.bytes
  have hr := Bd.returns
  have hts := atoms_spec (ws := Cond.code yX0_struckBy cX0_struckBy 4 (some .int) :: tb_L) Bd.pre
  have htb : ∀ w ∈ tb_L, w.before [.ref (q 30), .int x1].toArray s = true := fun w h => hts w (List.mem_cons_of_mem _ h)
  have hown : s.vm.findClass RX0 = some m.cls := findClass_of_methodNamed Bd.named
  have hlocks := Bd.notSynchronized
  have hS : va_S (wdA 36 q) s.heap s.heap [] := va_S.rf
  have hD := hD0
  have L4 : ∀ (K35 : Int32 → Int32 → hsS → Prop) (z1 : Int32) (n : Nat) (y2 : Int32) (y3 : Int32) (σ : hsS) (H : Heap) (locs : List Loc) (ls : Array Slot), wX0_struckBy_L4 30 z1 K35 post n y2 y3 σ → (∀ (y2 : Int32) (y3 : Int32) (σ : hsS) (H : Heap) (locs : List Loc) (ls : Array Slot), K35 y2 y3 σ → va_P D vwCl (xw c q σ) H → va_S (wdA 36 q) s.heap H locs → lv_has ls 4 [(0, .ref (q 30)), (1, .int z1), (2, .int y2), (3, .int y3)] → W p l e (headSpec (Cond.code yX0_struckBy cX0_struckBy 4 (some .int) :: tb_L) { frames := 1, cells := 0, slots := 0, locals := 22 }).room s m [.ref (q 30), .int x1].toArray below meth c₀ H locs 0 0 (MQ below (va_Qi post (wdB D (xw c q)) (wdA 36 q)) [.ref (q 30), .int x1].toArray s 0 0 (wdA 36 q)) (F0 m 35 ls [])) → va_P D vwCl (xw c q σ) H → va_S (wdA 36 q) s.heap H locs → lv_has ls 4 [(0, .ref (q 30)), (1, .int z1), (2, .int y2), (3, .int y3)] → W p l e (headSpec (Cond.code yX0_struckBy cX0_struckBy 4 (some .int) :: tb_L) { frames := 1, cells := 0, slots := 0, locals := 22 }).room s m [.ref (q 30), .int x1].toArray below meth c₀ H locs 0 0 (MQ below (va_Qi post (wdB D (xw c q)) (wdA 36 q)) [.ref (q 30), .int x1].toArray s 0 0 (wdA 36 q)) (F0 m 4 ls []) := by
    intro K35 z1 n
    induction n with
    | zero =>
      intro y2 y3 σ H locs ls hw hk35 hP hS hl
      exact (show False from hw).elim
    | succ n ih =>
      intro y2 y3 σ H locs ls hw hk35 hP hS hl
      rw [wX0_struckBy_L4] at hw
      have hD : va_D (wdA 36 q) (xw c q σ) := xw_D hD0
      refine lv_iload_n hx hb dX0_struckBy_4 rfl (lv_at hl 3 rfl) ?_
      refine lv_aload_n hx hb dX0_struckBy_5 rfl (lv_at hl 0 rfl) ?_
      refine va_get (D := D) (ci := 0) (C := RX0) (T := TX0) (N := 5) hx hb htb inX0 hown hK hP 30 (xw_30 c q σ) rfl 0 (by decide) (htb _ tb_322) (fun _ h9 => h9) rfl dX0_struckBy_6 ?_
      refine lv_iload_n hx hb dX0_struckBy_9 rfl (lv_at hl 1 rfl) ?_
      refine va_iald hx hb hK hP 31 21 (xw_31 c q σ) rfl hw.1 dX0_struckBy_10 ?_
      have hw := hw.2
      refine lv_icmp_ge (tgt := 35) hx hb dX0_struckBy_11 (by decide) (fun c1 => ?_) (fun c1 => ?_)
      · have hw := hw.1 c1
        exact hk35 y2 y3 σ _ _ _ hw hP hS (lv_sub hl [0, 1, 2, 3] rfl)
      · have hw := hw.2 c1
        refine lv_iload_n hx hb dX0_struckBy_14 rfl (lv_at hl 2 rfl) ?_
        refine lv_iconst (v := (1 : Int32)) hx hb dX0_struckBy_15 (by decide) ?_
        refine lv_aload_n hx hb dX0_struckBy_16 rfl (lv_at hl 0 rfl) ?_
        refine va_get (D := D) (ci := 0) (C := RX0) (T := TX0) (N := 5) hx hb htb inX0 hown hK hP 30 (xw_30 c q σ) rfl 1 (by decide) (htb _ tb_324) (fun _ h9 => h9) rfl dX0_struckBy_17 ?_
        refine lv_iload_n hx hb dX0_struckBy_20 rfl (lv_at hl 1 rfl) ?_
        refine va_lald hx hb hK hP 32 22 (xw_32 c q σ) rfl hw.1 dX0_struckBy_21 ?_
        have hw := hw.2
        refine lv_iload_n hx hb dX0_struckBy_22 rfl (lv_at hl 3 rfl) ?_
        refine va_calli (va_runS (As := [.long (σ.2.2 32 z1.toNatClampNeg), .int y3]) (rest := [.int (1 : Int32), .int y2]) ⟨hx, hb, hml, hown, htb⟩ (kcX0_strikeIn_x l D c q ev hev σ (σ.2.2 32 z1.toNatClampNeg) y3 _ hw) (tb_CS htb kX0_strikeIn tb_1131 tb_623 ⟨Nat.le_of_ble_eq_true rfl, Nat.le_of_ble_eq_true rfl⟩) (wd_preS (wd := xw c q) hev hK hP hD hE hS) rfl rfl hl.1 rfl (lv_room (Nat.le_of_ble_eq_true rfl)) dX0_struckBy_23 ⟨Nat.zero_le _, Nat.zero_le _⟩) hS (fun q _ h => h) (fun q h => h) (fun r2 σ3 t H1 locs1 ht hvm hw hB hz1 hk1 hS => ?_)
        have hP : va_P D vwCl (xw c q σ3) H1 := ht ▸ hB
        have hD : va_D (wdA 36 q) (xw c q σ3) := xw_D hD0
        refine lv_ishl hx hb dX0_struckBy_26 ?_
        refine lv_ior hx hb dX0_struckBy_27 ?_
        refine lv_topi (fun v4 ev4 => ?_)
        have hw := hw v4 ev4
        refine lv_istore_n (lv' := [(2, .int v4), (0, .ref (q 30)), (1, .int z1), (3, .int y3)]) hx hb dX0_struckBy_28 rfl hl (by decide) rfl (fun ls hl => ?_)
        obtain ⟨v5, ev5⟩ : ∃ z : Int32, z = y3 + (1 : Int32) := ⟨_, rfl⟩
        have hw := hw v5 ev5
        refine lv_iinc (v := v5) (lv' := [(3, .int v5), (2, .int v4), (0, .ref (q 30)), (1, .int z1)]) hx hb dX0_struckBy_29 hl (k := 3) rfl (by rw [ev5]; rfl) (by decide) rfl (fun ls hl => ?_)
        refine lv_goto (tgt := 4) hx hb dX0_struckBy_32 (by decide) ?_
        exact ih v4 v5 σ3 _ _ _ hw hk35 hP hS (lv_sub hl [2, 3, 1, 0] rfl)
  have hl := lv_entry ([.ref (q 30), .int x1]) (n := 4) (Nat.le_of_ble_eq_true rfl)
  rw [lg_entry_eq]
  generalize (lg_sl ([.ref (q 30), .int x1]) ++ List.replicate (4 - (lg_sl ([.ref (q 30), .int x1])).length) Slot.unset).toArray = ls at hl ⊢
  have hl : lv_has ls 4 [(0, .ref (q 30)), (1, .int x1)] := hl
  unfold wX0_struckBy at hw
  refine lv_iconst (v := (0 : Int32)) hx hb dX0_struckBy_0 (by decide) ?_
  refine lv_istore_n (lv' := [(2, .int (0 : Int32)), (0, .ref (q 30)), (1, .int x1)]) hx hb dX0_struckBy_1 rfl hl (by decide) rfl (fun ls hl => ?_)
  refine lv_iconst (v := (0 : Int32)) hx hb dX0_struckBy_2 (by decide) ?_
  refine lv_istore_n (lv' := [(3, .int (0 : Int32)), (2, .int (0 : Int32)), (0, .ref (q 30)), (1, .int x1)]) hx hb dX0_struckBy_3 rfl hl (by decide) rfl (fun ls hl => ?_)
  obtain ⟨n6, hw⟩ := hw
  refine L4 _ x1 n6 (0 : Int32) (0 : Int32) σ _ _ _ hw ?_ hP hS (lv_sub hl [2, 3, 1, 0] rfl)
  intro v7 v8 σ9 H locs ls hw hP hS hl
  have hD : va_D (wdA 36 q) (xw c q σ9) := xw_D hD0
  refine lv_iload_n hx hb dX0_struckBy_35 rfl (lv_at hl 2 rfl) ?_
  exact W.iret hx hb hr (fun t ht hW => ⟨⟨_, σ9, rfl, hw, by unfold wdB; rw [ht]; exact hP⟩, hS.F ht⟩) hS.2.2 dX0_struckBy_36
def wX7_judge (x1 : Int32) (x2 : Int32) (post : Int32 → hsS → Prop) (px : hsS → Prop) (σ : hsS) : Prop := wX7_needRow x1 (fun σ2 => ((x2 = (0 : Int32) → vp_in x1 12 ∧ post (σ2.2.1 31 x1.toNatClampNeg) σ2) ∧ (¬ x2 = (0 : Int32) → ((x2 = (1 : Int32) → wX0_firstUnlawful 30 x1 (fun r4 σ5 => post r4 σ5) σ2) ∧ (¬ x2 = (1 : Int32) → ((x2 = (2 : Int32) → wX0_firstNotPlain 30 x1 1 (fun r7 σ8 => post r7 σ8) σ2) ∧ (¬ x2 = (2 : Int32) → ((x2 = (3 : Int32) → wX1_allThings 1 (fun r10 σ11 => wX0_struckBy 30 x1 (fun r12 σ13 => post (r10 &&& (r12 ^^^ (-1 : Int32))) σ13) σ11) σ2) ∧ (¬ x2 = (3 : Int32) → px σ2))))))))) px σ
set_option maxHeartbeats 4000000 in
set_option maxRecDepth 100000 in
theorem kcX7_judge (l : Launch) (D : va_G) (c : Nat → ClassId) (q : Nat → Nat) (ev : State → Heap → Prop) (hev : evOK (wdA 36 q) ev) (hst : l.stackTraces = false) (hX : ∀ (U : State) (H : Heap), ev U H → evT (wdA 36 q) U H) (σ : hsS) (x1 : Int32) (x2 : Int32) (post : Int32 → hsS → Prop) (px : hsS → Prop) (hw : wX7_judge x1 x2 post px σ) : vx_Met l yX7_judge (Cond.code yX7_judge cX7_judge 3 (some .int) :: tb_L) { frames := 9, cells := 2, slots := 12, locals := 149 } (wdPc D (xw c q) (xwT c) (wdA 36 q) ev σ [.ref (q 0), .int x1, .int x2]) (va_Qi post (wdB D (xw c q)) (wdA 36 q)) (vx_X px (xpB D (xw c q) "java/util/NoSuchElementException") (wdA 36 q)) 2 12 (wdA 36 q) := by
  refine vx_ofW (cc := cX7_judge) (maxL := 3) (ret := (some .int)) (by decide) rfl ?_
  intro p e s m args below meth c₀ s₁ Bd hml htab hv
  obtain ⟨rfl, hP, hK, hD0, hE⟩ := hv
  have hx := Bd.exec
  have hb := Bd.bytes
  have hr := Bd.returns
  have hts := atoms_spec (ws := Cond.code yX7_judge cX7_judge 3 (some .int) :: tb_L) Bd.pre
  have htb : ∀ w ∈ tb_L, w.before [.ref (q 0), .int x1, .int x2].toArray s = true := fun w h => hts w (List.mem_cons_of_mem _ h)
  have hown : s.vm.findClass RX7 = some m.cls := findClass_of_methodNamed Bd.named
  have hlocks := Bd.notSynchronized
  have hS : va_S (wdA 36 q) s.heap s.heap [] := va_S.rf
  have hD := hD0
  have hl := lv_entry ([.ref (q 0), .int x1, .int x2]) (n := 3) (Nat.le_of_ble_eq_true rfl)
  rw [lg_entry_eq]
  generalize (lg_sl ([.ref (q 0), .int x1, .int x2]) ++ List.replicate (3 - (lg_sl ([.ref (q 0), .int x1, .int x2])).length) Slot.unset).toArray = ls at hl ⊢
  have hl : lv_has ls 3 [(0, .ref (q 0)), (1, .int x1), (2, .int x2)] := hl
  unfold wX7_judge at hw
  refine lv_aload_n hx hb dX7_judge_0 rfl (lv_at hl 0 rfl) ?_
  refine lv_iload_n hx hb dX7_judge_1 rfl (lv_at hl 1 rfl) ?_
  refine vx_callv (vx_runV (As := [.int x1]) (rest := []) ⟨hx, hb, hml, hown, htb⟩ (kcX7_needRow l D c q ev hev hst hX σ x1 _ px hw) (tb_CW htb kX7_needRow tb_1122 tb_1124 tb_40 ⟨Nat.le_of_ble_eq_true rfl, Nat.le_of_ble_eq_true rfl⟩) (wd_preV (wd := xw c q) (k := 0) hev hK hP hD hE hS (xw_0 c q σ) rfl) rfl rfl hl.1 rfl (lv_room (Nat.le_of_ble_eq_true rfl)) dX7_judge_2 ⟨Nat.le_of_ble_eq_true rfl, Nat.le_of_ble_eq_true rfl⟩) hS (fun q _ h => h) (fun q h => h) (fun q _ h => h) (fun E9 ce9 q9 σx t H1 locs1 ht hvm hpx hBX hz1 hk1 hS hce hcv hcl => vx_out (fun x h => (htab x h).elim) hlocks hce hcv hcl (fun t2 ht2 _ => ⟨σx, hpx, ⟨hBX.1, by rw [ht2, ← ht]; exact hBX.2⟩, hS.F ht2⟩) hS.2.2 (Nat.le_of_ble_eq_true rfl) (Nat.le_of_ble_eq_true rfl)) (fun σ2 t H1 locs1 ht hvm hw hB hz1 hk1 hS => ?_)
  have hP : va_P D vwCl (xw c q σ2) H1 := ht ▸ hB
  have hD : va_D (wdA 36 q) (xw c q σ2) := xw_D hD0
  refine lv_iload_n hx hb dX7_judge_5 rfl (lv_at hl 2 rfl) ?_
  by_cases c3 : x2 = (0 : Int32)
  · have hw := hw.1 c3
    refine lv_tableIn (off := 30) (tgt := 36) hx hb dX7_judge_6 (by rw [c3]; decide) (by rw [c3]; decide) (by rw [c3]; rfl) (by decide) ?_
    refine lv_aload_n hx hb dX7_judge_36 rfl (lv_at hl 0 rfl) ?_
    refine va_get (D := D) (ci := 7) (C := RX7) (T := TX7) (N := 9) hx hb htb inX7 hown hK hP 0 (xw_0 c q σ2) rfl 7 (by decide) (htb _ tb_349) (fun _ h9 => h9) rfl dX7_judge_37 ?_
    refine va_getN (D := D) (ci := 0) (C := RX0) (T := TX0) (N := 5) hx hb htb inX0 hown hK hP 30 (xw_30 c q σ2) rfl 0 (by decide) (htb _ tb_323) (fun _ h9 => h9) rfl dX7_judge_40 ?_
    refine lv_iload_n hx hb dX7_judge_43 rfl (lv_at hl 1 rfl) ?_
    refine va_iald hx hb hK hP 31 21 (xw_31 c q σ2) rfl hw.1 dX7_judge_44 ?_
    have hw := hw.2
    exact vx_ret (W.widen (k := 2) (n := 12) (Nat.le_of_ble_eq_true rfl) (Nat.le_of_ble_eq_true rfl) (W.iret hx hb hr (fun t ht hW => ⟨⟨_, σ2, rfl, hw, by unfold wdB; rw [ht]; exact hP⟩, hS.F ht⟩) hS.2.2 dX7_judge_45))
  · have hw := hw.2 c3
    by_cases c6 : x2 = (1 : Int32)
    · have hw := hw.1 c6
      refine lv_tableIn (off := 40) (tgt := 46) hx hb dX7_judge_6 (by rw [c6]; decide) (by rw [c6]; decide) (by rw [c6]; rfl) (by decide) ?_
      refine lv_aload_n hx hb dX7_judge_46 rfl (lv_at hl 0 rfl) ?_
      refine va_get (D := D) (ci := 7) (C := RX7) (T := TX7) (N := 9) hx hb htb inX7 hown hK hP 0 (xw_0 c q σ2) rfl 7 (by decide) (htb _ tb_349) (fun _ h9 => h9) rfl dX7_judge_47 ?_
      refine lv_iload_n hx hb dX7_judge_50 rfl (lv_at hl 1 rfl) ?_
      refine va_calli (va_runV (As := [.int x1]) (rest := []) ⟨hx, hb, hml, hown, htb⟩ (kcX0_firstUnlawful_30 l D c q ev hev σ2 x1 _ hw) (tb_CW htb kX0_firstUnlawful tb_1127 tb_1128 tb_1129 ⟨Nat.le_of_ble_eq_true rfl, Nat.le_of_ble_eq_true rfl⟩) (wd_preV (wd := xw c q) (k := 30) hev hK hP hD hE hS (xw_30 c q σ2) rfl) rfl rfl hl.1 rfl (lv_room (Nat.le_of_ble_eq_true rfl)) dX7_judge_51 ⟨Nat.le_of_ble_eq_true rfl, Nat.le_of_ble_eq_true rfl⟩) hS (fun q _ h => h) (fun q h => h) (fun r4 σ5 t H1 locs1 ht hvm hw hB hz1 hk1 hS => ?_)
      have hP : va_P D vwCl (xw c q σ5) H1 := ht ▸ hB
      have hD : va_D (wdA 36 q) (xw c q σ5) := xw_D hD0
      exact vx_ret (W.widen (k := 2) (n := 12) (Nat.le_of_ble_eq_true rfl) (Nat.le_of_ble_eq_true rfl) (W.iret hx hb hr (fun t ht hW => ⟨⟨_, σ5, rfl, hw, by unfold wdB; rw [ht]; exact hP⟩, hS.F ht⟩) hS.2.2 dX7_judge_54))
    · have hw := hw.2 c6
      by_cases c9 : x2 = (2 : Int32)
      · have hw := hw.1 c9
        refine lv_tableIn (off := 49) (tgt := 55) hx hb dX7_judge_6 (by rw [c9]; decide) (by rw [c9]; decide) (by rw [c9]; rfl) (by decide) ?_
        refine lv_aload_n hx hb dX7_judge_55 rfl (lv_at hl 0 rfl) ?_
        refine va_get (D := D) (ci := 7) (C := RX7) (T := TX7) (N := 9) hx hb htb inX7 hown hK hP 0 (xw_0 c q σ2) rfl 7 (by decide) (htb _ tb_349) (fun _ h9 => h9) rfl dX7_judge_56 ?_
        refine lv_iload_n hx hb dX7_judge_59 rfl (lv_at hl 1 rfl) ?_
        refine lv_aload_n hx hb dX7_judge_60 rfl (lv_at hl 0 rfl) ?_
        refine va_get (D := D) (ci := 7) (C := RX7) (T := TX7) (N := 9) hx hb htb inX7 hown hK hP 0 (xw_0 c q σ2) rfl 0 (by decide) (htb _ tb_342) (fun _ h9 => h9) rfl dX7_judge_61 ?_
        refine va_calli (va_runV (As := [.int x1, .ref (q 1)]) (rest := []) ⟨hx, hb, hml, hown, htb⟩ (kcX0_firstNotPlain_30_1 l D c q ev hev σ2 x1 _ hw) (tb_CW htb kX0_firstNotPlain tb_1132 tb_1133 tb_1134 ⟨Nat.le_of_ble_eq_true rfl, Nat.le_of_ble_eq_true rfl⟩) (wd_preV (wd := xw c q) (k := 30) hev hK hP hD hE hS (xw_30 c q σ2) rfl) rfl rfl hl.1 rfl (lv_room (Nat.le_of_ble_eq_true rfl)) dX7_judge_64 ⟨Nat.le_of_ble_eq_true rfl, Nat.le_of_ble_eq_true rfl⟩) hS (fun q _ h => h) (fun q h => h) (fun r7 σ8 t H1 locs1 ht hvm hw hB hz1 hk1 hS => ?_)
        have hP : va_P D vwCl (xw c q σ8) H1 := ht ▸ hB
        have hD : va_D (wdA 36 q) (xw c q σ8) := xw_D hD0
        exact vx_ret (W.widen (k := 2) (n := 12) (Nat.le_of_ble_eq_true rfl) (Nat.le_of_ble_eq_true rfl) (W.iret hx hb hr (fun t ht hW => ⟨⟨_, σ8, rfl, hw, by unfold wdB; rw [ht]; exact hP⟩, hS.F ht⟩) hS.2.2 dX7_judge_67))
      · have hw := hw.2 c9
        by_cases c14 : x2 = (3 : Int32)
        · have hw := hw.1 c14
          refine lv_tableIn (off := 62) (tgt := 68) hx hb dX7_judge_6 (by rw [c14]; decide) (by rw [c14]; decide) (by rw [c14]; rfl) (by decide) ?_
          refine lv_aload_n hx hb dX7_judge_68 rfl (lv_at hl 0 rfl) ?_
          refine va_get (D := D) (ci := 7) (C := RX7) (T := TX7) (N := 9) hx hb htb inX7 hown hK hP 0 (xw_0 c q σ2) rfl 0 (by decide) (htb _ tb_342) (fun _ h9 => h9) rfl dX7_judge_69 ?_
          refine va_calli (va_runV (As := []) (rest := []) ⟨hx, hb, hml, hown, htb⟩ (kcX1_allThings_1 l D c q ev hev σ2  _ hw) (tb_CW htb kX1_allThings tb_525 tb_438 tb_439 ⟨Nat.le_of_ble_eq_true rfl, Nat.le_of_ble_eq_true rfl⟩) (wd_preV (wd := xw c q) (k := 1) hev hK hP hD hE hS (xw_1 c q σ2) rfl) rfl rfl hl.1 rfl (lv_room (Nat.le_of_ble_eq_true rfl)) dX7_judge_72 ⟨Nat.le_of_ble_eq_true rfl, Nat.le_of_ble_eq_true rfl⟩) hS (fun q _ h => h) (fun q h => h) (fun r10 σ11 t H1 locs1 ht hvm hw hB hz1 hk1 hS => ?_)
          have hP : va_P D vwCl (xw c q σ11) H1 := ht ▸ hB
          have hD : va_D (wdA 36 q) (xw c q σ11) := xw_D hD0
          refine lv_aload_n hx hb dX7_judge_75 rfl (lv_at hl 0 rfl) ?_
          refine va_get (D := D) (ci := 7) (C := RX7) (T := TX7) (N := 9) hx hb htb inX7 hown hK hP 0 (xw_0 c q σ11) rfl 7 (by decide) (htb _ tb_349) (fun _ h9 => h9) rfl dX7_judge_76 ?_
          refine lv_iload_n hx hb dX7_judge_79 rfl (lv_at hl 1 rfl) ?_
          refine va_calli (va_runV (As := [.int x1]) (rest := [.int r10]) ⟨hx, hb, hml, hown, htb⟩ (kcX0_struckBy_30 l D c q ev hev σ11 x1 _ hw) (tb_CW htb kX0_struckBy tb_1138 tb_1139 tb_1140 ⟨Nat.le_of_ble_eq_true rfl, Nat.le_of_ble_eq_true rfl⟩) (wd_preV (wd := xw c q) (k := 30) hev hK hP hD hE hS (xw_30 c q σ11) rfl) rfl rfl hl.1 rfl (lv_room (Nat.le_of_ble_eq_true rfl)) dX7_judge_80 ⟨Nat.le_of_ble_eq_true rfl, Nat.le_of_ble_eq_true rfl⟩) hS (fun q _ h => h) (fun q h => h) (fun r12 σ13 t H1 locs1 ht hvm hw hB hz1 hk1 hS => ?_)
          have hP : va_P D vwCl (xw c q σ13) H1 := ht ▸ hB
          have hD : va_D (wdA 36 q) (xw c q σ13) := xw_D hD0
          refine lv_iconst (v := (-1 : Int32)) hx hb dX7_judge_83 (by decide) ?_
          refine lv_ixor hx hb dX7_judge_84 ?_
          refine lv_iand hx hb dX7_judge_85 ?_
          exact vx_ret (W.widen (k := 2) (n := 12) (Nat.le_of_ble_eq_true rfl) (Nat.le_of_ble_eq_true rfl) (W.iret hx hb hr (fun t ht hW => ⟨⟨_, σ13, rfl, hw, by unfold wdB; rw [ht]; exact hP⟩, hS.F ht⟩) hS.2.2 dX7_judge_86))
        · have hw := hw.2 c14
          have hz : ¬ (x2).toInt = 0 ∧ ¬ (x2).toInt = 1 ∧ ¬ (x2).toInt = 2 ∧ ¬ (x2).toInt = 3 := by
            exact ⟨lv_neT (a := 0) c3 rfl, lv_neT (a := 1) c6 rfl, lv_neT (a := 2) c9 rfl, lv_neT (a := 3) c14 rfl⟩
          refine lv_tableOut (tgt := 87) hx hb dX7_judge_6 (by omega) (by decide) ?_
          obtain ⟨hU9, hN9, hF9, hR9⟩ := hX s s.heap hE
          obtain ⟨sa9, hsa9⟩ := hR9 (320, "no such judgement") (by decide)
          exact xt_throwSW hx hb hst (own := "StrikeHall") (cls := "java/util/NoSuchElementException") (text := "no such judgement") (names := ["java/lang/Exception"]) (ix := 13) (rx := xt_rx) (Yc := "java/lang/RuntimeException") hown (by decide) (by decide) (by decide +kernel) (by decide +kernel) (by decide +kernel) (by decide +kernel) (by decide) (htb _ tb_883) (htb _ tb_111) hsa9 (hat_NSE htb hF9) hot_NSE hU9 hN9 hS (hl.1.trans hml.symm) dX7_judge_87 dX7_judge_90 dX7_judge_91 dX7_judge_94 dX7_judge_97 (fun x h => (htab x h).elim) (Nat.le_of_ble_eq_true rfl) (Nat.le_of_ble_eq_true rfl) (Nat.le_of_ble_eq_true rfl) (Nat.le_of_ble_eq_true rfl) hlocks (fun t hvm hsz hk => ⟨σ2, hw, ⟨rfl, wd_grow hP hk⟩, wd_F hS hsz hk⟩) hS.2.2 (Nat.le_of_ble_eq_true rfl) (Nat.le_of_ble_eq_true rfl)
def wX7_hold (x1 : Int32) (x2 : Int32) (x3 : Int32) (post : Int32 → hsS → Prop) (px : hsS → Prop) (σ : hsS) : Prop := ((x2 = (0 : Int32) → wX7_needThing x3 (fun σ2 => ((x1 < (0 : Int32) → post (0 : Int32) σ2) ∧ (¬ x1 < (0 : Int32) → ((x1 < (8 : Int32) → vp_in x1 8 ∧ ∀ σ5 : hsS, σ5 = hsA σ2 33 (upd (σ2.2.1 33) x1.toNatClampNeg x2) → vp_in x1 8 ∧ ∀ σ6 : hsS, σ6 = hsA σ5 34 (upd (σ5.2.1 34) x1.toNatClampNeg x3) → post (1 : Int32) σ6) ∧ (¬ x1 < (8 : Int32) → post (0 : Int32) σ2))))) px σ) ∧ (¬ x2 = (0 : Int32) → ((x2 = (1 : Int32) → wX7_needRow x3 (fun σ9 => ((x1 < (0 : Int32) → post (0 : Int32) σ9) ∧ (¬ x1 < (0 : Int32) → ((x1 < (8 : Int32) → vp_in x1 8 ∧ ∀ σ12 : hsS, σ12 = hsA σ9 33 (upd (σ9.2.1 33) x1.toNatClampNeg x2) → vp_in x1 8 ∧ ∀ σ13 : hsS, σ13 = hsA σ12 34 (upd (σ12.2.1 34) x1.toNatClampNeg x3) → post (1 : Int32) σ13) ∧ (¬ x1 < (8 : Int32) → post (0 : Int32) σ9))))) px σ) ∧ (¬ x2 = (1 : Int32) → ((x2 = (2 : Int32) → ((x1 < (0 : Int32) → post (0 : Int32) σ) ∧ (¬ x1 < (0 : Int32) → ((x1 < (8 : Int32) → vp_in x1 8 ∧ ∀ σ17 : hsS, σ17 = hsA σ 33 (upd (σ.2.1 33) x1.toNatClampNeg x2) → vp_in x1 8 ∧ ∀ σ18 : hsS, σ18 = hsA σ17 34 (upd (σ17.2.1 34) x1.toNatClampNeg x3) → post (1 : Int32) σ18) ∧ (¬ x1 < (8 : Int32) → post (0 : Int32) σ))))) ∧ (¬ x2 = (2 : Int32) → px σ))))))
set_option maxHeartbeats 4000000 in
set_option maxRecDepth 100000 in
theorem kcX7_hold (l : Launch) (D : va_G) (c : Nat → ClassId) (q : Nat → Nat) (ev : State → Heap → Prop) (hev : evOK (wdA 36 q) ev) (hst : l.stackTraces = false) (hX : ∀ (U : State) (H : Heap), ev U H → evT (wdA 36 q) U H) (σ : hsS) (x1 : Int32) (x2 : Int32) (x3 : Int32) (post : Int32 → hsS → Prop) (px : hsS → Prop) (hw : wX7_hold x1 x2 x3 post px σ) : vx_Met l yX7_hold (Cond.code yX7_hold cX7_hold 4 (some .boolean) :: tb_L) { frames := 9, cells := 1, slots := 6, locals := 149 } (wdPc D (xw c q) (xwT c) (wdA 36 q) ev σ [.ref (q 0), .int x1, .int x2, .int x3]) (va_Qi post (wdB D (xw c q)) (wdA 36 q)) (vx_X px (xpB D (xw c q) "java/util/NoSuchElementException") (wdA 36 q)) 1 6 (wdA 36 q) := by
  refine vx_ofW (cc := cX7_hold) (maxL := 4) (ret := (some .boolean)) (by decide) rfl ?_
  intro p e s m args below meth c₀ s₁ Bd hml htab hv
  obtain ⟨rfl, hP, hK, hD0, hE⟩ := hv
  have hx := Bd.exec
  have hb := Bd.bytes
  have hr := Bd.returns
  have hts := atoms_spec (ws := Cond.code yX7_hold cX7_hold 4 (some .boolean) :: tb_L) Bd.pre
  have htb : ∀ w ∈ tb_L, w.before [.ref (q 0), .int x1, .int x2, .int x3].toArray s = true := fun w h => hts w (List.mem_cons_of_mem _ h)
  have hown : s.vm.findClass RX7 = some m.cls := findClass_of_methodNamed Bd.named
  have hlocks := Bd.notSynchronized
  have hS : va_S (wdA 36 q) s.heap s.heap [] := va_S.rf
  have hD := hD0
  have hl := lv_entry ([.ref (q 0), .int x1, .int x2, .int x3]) (n := 4) (Nat.le_of_ble_eq_true rfl)
  rw [lg_entry_eq]
  generalize (lg_sl ([.ref (q 0), .int x1, .int x2, .int x3]) ++ List.replicate (4 - (lg_sl ([.ref (q 0), .int x1, .int x2, .int x3])).length) Slot.unset).toArray = ls at hl ⊢
  have hl : lv_has ls 4 [(0, .ref (q 0)), (1, .int x1), (2, .int x2), (3, .int x3)] := hl
  unfold wX7_hold at hw
  refine lv_iload_n hx hb dX7_hold_0 rfl (lv_at hl 2 rfl) ?_
  by_cases c7 : x2 = (0 : Int32)
  · have hw := hw.1 c7
    refine lv_tableIn (off := 27) (tgt := 28) hx hb dX7_hold_1 (by rw [c7]; decide) (by rw [c7]; decide) (by rw [c7]; rfl) (by decide) ?_
    refine lv_aload_n hx hb dX7_hold_28 rfl (lv_at hl 0 rfl) ?_
    refine lv_iload_n hx hb dX7_hold_29 rfl (lv_at hl 3 rfl) ?_
    refine vx_callv (vx_runV (As := [.int x3]) (rest := []) ⟨hx, hb, hml, hown, htb⟩ (kcX7_needThing l D c q ev hev hst hX σ x3 _ px hw) (tb_CW htb kX7_needThing tb_911 tb_913 tb_33 ⟨Nat.le_of_ble_eq_true rfl, Nat.le_of_ble_eq_true rfl⟩) (wd_preV (wd := xw c q) (k := 0) hev hK hP hD hE hS (xw_0 c q σ) rfl) rfl rfl hl.1 rfl (lv_room (Nat.le_of_ble_eq_true rfl)) dX7_hold_30 ⟨Nat.le_of_ble_eq_true rfl, Nat.le_of_ble_eq_true rfl⟩) hS (fun q _ h => h) (fun q h => h) (fun q _ h => h) (fun E9 ce9 q9 σx t H1 locs1 ht hvm hpx hBX hz1 hk1 hS hce hcv hcl => vx_out (fun x h => (htab x h).elim) hlocks hce hcv hcl (fun t2 ht2 _ => ⟨σx, hpx, ⟨hBX.1, by rw [ht2, ← ht]; exact hBX.2⟩, hS.F ht2⟩) hS.2.2 (Nat.le_of_ble_eq_true rfl) (Nat.le_of_ble_eq_true rfl)) (fun σ2 t H1 locs1 ht hvm hw hB hz1 hk1 hS => ?_)
    have hP : va_P D vwCl (xw c q σ2) H1 := ht ▸ hB
    have hD : va_D (wdA 36 q) (xw c q σ2) := xw_D hD0
    refine lv_goto (tgt := 58) hx hb dX7_hold_33 (by decide) ?_
    refine lv_iload_n hx hb dX7_hold_58 rfl (lv_at hl 1 rfl) ?_
    refine lv_if_lt (tgt := 68) hx hb dX7_hold_59 (by decide) (fun c3 => ?_) (fun c3 => ?_)
    · have hw := hw.1 c3
      refine lv_iconst (v := (0 : Int32)) hx hb dX7_hold_68 (by decide) ?_
      exact vx_ret (W.widen (k := 1) (n := 6) (Nat.le_of_ble_eq_true rfl) (Nat.le_of_ble_eq_true rfl) (W.zret hx hb hr rfl (fun t ht hW => ⟨⟨_, σ2, rfl, hw, by unfold wdB; rw [ht]; exact hP⟩, hS.F ht⟩) hS.2.2 dX7_hold_69))
    · have hw := hw.2 c3
      refine lv_iload_n hx hb dX7_hold_62 rfl (lv_at hl 1 rfl) ?_
      refine lv_bipush (v := (8 : Int32)) hx hb dX7_hold_63 (by decide) ?_
      refine lv_icmp_lt (tgt := 70) hx hb dX7_hold_65 (by decide) (fun c4 => ?_) (fun c4 => ?_)
      · have hw := hw.1 c4
        refine lv_aload_n hx hb dX7_hold_70 rfl (lv_at hl 0 rfl) ?_
        refine va_get (D := D) (ci := 7) (C := RX7) (T := TX7) (N := 9) hx hb htb inX7 hown hK hP 0 (xw_0 c q σ2) rfl 7 (by decide) (htb _ tb_349) (fun _ h9 => h9) rfl dX7_hold_71 ?_
        refine va_getN (D := D) (ci := 0) (C := RX0) (T := TX0) (N := 5) hx hb htb inX0 hown hK hP 30 (xw_30 c q σ2) rfl 3 (by decide) (htb _ tb_328) (fun _ h9 => h9) rfl dX7_hold_74 ?_
        refine lv_iload_n hx hb dX7_hold_77 rfl (lv_at hl 1 rfl) ?_
        refine lv_iload_n hx hb dX7_hold_78 rfl (lv_at hl 2 rfl) ?_
        refine va_iast hx hb hK hP hD hS 33 23 (xw_33 c q σ2) rfl hw.1 dX7_hold_79 (fun H locs hP hD hS => ?_)
        have hw := hw.2
        have hP : va_P D vwCl (xw c q (hsA σ2 33 (upd (σ2.2.1 33) x1.toNatClampNeg x2))) H := hP
        obtain ⟨σ5, eσ5⟩ : ∃ z : hsS, z = hsA σ2 33 (upd (σ2.2.1 33) x1.toNatClampNeg x2) := ⟨_, rfl⟩
        rw [← eσ5] at hP
        have hD : va_D (wdA 36 q) (xw c q σ5) := xw_D hD0
        have hw := hw σ5 eσ5
        refine lv_aload_n hx hb dX7_hold_80 rfl (lv_at hl 0 rfl) ?_
        refine va_get (D := D) (ci := 7) (C := RX7) (T := TX7) (N := 9) hx hb htb inX7 hown hK hP 0 (xw_0 c q σ5) rfl 7 (by decide) (htb _ tb_349) (fun _ h9 => h9) rfl dX7_hold_81 ?_
        refine va_getN (D := D) (ci := 0) (C := RX0) (T := TX0) (N := 5) hx hb htb inX0 hown hK hP 30 (xw_30 c q σ5) rfl 4 (by decide) (htb _ tb_330) (fun _ h9 => h9) rfl dX7_hold_84 ?_
        refine lv_iload_n hx hb dX7_hold_87 rfl (lv_at hl 1 rfl) ?_
        refine lv_iload_n hx hb dX7_hold_88 rfl (lv_at hl 3 rfl) ?_
        refine va_iast hx hb hK hP hD hS 34 24 (xw_34 c q σ5) rfl hw.1 dX7_hold_89 (fun H locs hP hD hS => ?_)
        have hw := hw.2
        have hP : va_P D vwCl (xw c q (hsA σ5 34 (upd (σ5.2.1 34) x1.toNatClampNeg x3))) H := hP
        obtain ⟨σ6, eσ6⟩ : ∃ z : hsS, z = hsA σ5 34 (upd (σ5.2.1 34) x1.toNatClampNeg x3) := ⟨_, rfl⟩
        rw [← eσ6] at hP
        have hD : va_D (wdA 36 q) (xw c q σ6) := xw_D hD0
        have hw := hw σ6 eσ6
        refine lv_iconst (v := (1 : Int32)) hx hb dX7_hold_90 (by decide) ?_
        exact vx_ret (W.widen (k := 1) (n := 6) (Nat.le_of_ble_eq_true rfl) (Nat.le_of_ble_eq_true rfl) (W.zret hx hb hr rfl (fun t ht hW => ⟨⟨_, σ6, rfl, hw, by unfold wdB; rw [ht]; exact hP⟩, hS.F ht⟩) hS.2.2 dX7_hold_91))
      · have hw := hw.2 c4
        refine lv_iconst (v := (0 : Int32)) hx hb dX7_hold_68 (by decide) ?_
        exact vx_ret (W.widen (k := 1) (n := 6) (Nat.le_of_ble_eq_true rfl) (Nat.le_of_ble_eq_true rfl) (W.zret hx hb hr rfl (fun t ht hW => ⟨⟨_, σ2, rfl, hw, by unfold wdB; rw [ht]; exact hP⟩, hS.F ht⟩) hS.2.2 dX7_hold_69))
  · have hw := hw.2 c7
    by_cases c14 : x2 = (1 : Int32)
    · have hw := hw.1 c14
      refine lv_tableIn (off := 35) (tgt := 36) hx hb dX7_hold_1 (by rw [c14]; decide) (by rw [c14]; decide) (by rw [c14]; rfl) (by decide) ?_
      refine lv_aload_n hx hb dX7_hold_36 rfl (lv_at hl 0 rfl) ?_
      refine lv_iload_n hx hb dX7_hold_37 rfl (lv_at hl 3 rfl) ?_
      refine vx_callv (vx_runV (As := [.int x3]) (rest := []) ⟨hx, hb, hml, hown, htb⟩ (kcX7_needRow l D c q ev hev hst hX σ x3 _ px hw) (tb_CW htb kX7_needRow tb_1122 tb_1124 tb_40 ⟨Nat.le_of_ble_eq_true rfl, Nat.le_of_ble_eq_true rfl⟩) (wd_preV (wd := xw c q) (k := 0) hev hK hP hD hE hS (xw_0 c q σ) rfl) rfl rfl hl.1 rfl (lv_room (Nat.le_of_ble_eq_true rfl)) dX7_hold_38 ⟨Nat.le_of_ble_eq_true rfl, Nat.le_of_ble_eq_true rfl⟩) hS (fun q _ h => h) (fun q h => h) (fun q _ h => h) (fun E9 ce9 q9 σx t H1 locs1 ht hvm hpx hBX hz1 hk1 hS hce hcv hcl => vx_out (fun x h => (htab x h).elim) hlocks hce hcv hcl (fun t2 ht2 _ => ⟨σx, hpx, ⟨hBX.1, by rw [ht2, ← ht]; exact hBX.2⟩, hS.F ht2⟩) hS.2.2 (Nat.le_of_ble_eq_true rfl) (Nat.le_of_ble_eq_true rfl)) (fun σ9 t H1 locs1 ht hvm hw hB hz1 hk1 hS => ?_)
      have hP : va_P D vwCl (xw c q σ9) H1 := ht ▸ hB
      have hD : va_D (wdA 36 q) (xw c q σ9) := xw_D hD0
      refine lv_goto (tgt := 58) hx hb dX7_hold_41 (by decide) ?_
      refine lv_iload_n hx hb dX7_hold_58 rfl (lv_at hl 1 rfl) ?_
      refine lv_if_lt (tgt := 68) hx hb dX7_hold_59 (by decide) (fun c10 => ?_) (fun c10 => ?_)
      · have hw := hw.1 c10
        refine lv_iconst (v := (0 : Int32)) hx hb dX7_hold_68 (by decide) ?_
        exact vx_ret (W.widen (k := 1) (n := 6) (Nat.le_of_ble_eq_true rfl) (Nat.le_of_ble_eq_true rfl) (W.zret hx hb hr rfl (fun t ht hW => ⟨⟨_, σ9, rfl, hw, by unfold wdB; rw [ht]; exact hP⟩, hS.F ht⟩) hS.2.2 dX7_hold_69))
      · have hw := hw.2 c10
        refine lv_iload_n hx hb dX7_hold_62 rfl (lv_at hl 1 rfl) ?_
        refine lv_bipush (v := (8 : Int32)) hx hb dX7_hold_63 (by decide) ?_
        refine lv_icmp_lt (tgt := 70) hx hb dX7_hold_65 (by decide) (fun c11 => ?_) (fun c11 => ?_)
        · have hw := hw.1 c11
          refine lv_aload_n hx hb dX7_hold_70 rfl (lv_at hl 0 rfl) ?_
          refine va_get (D := D) (ci := 7) (C := RX7) (T := TX7) (N := 9) hx hb htb inX7 hown hK hP 0 (xw_0 c q σ9) rfl 7 (by decide) (htb _ tb_349) (fun _ h9 => h9) rfl dX7_hold_71 ?_
          refine va_getN (D := D) (ci := 0) (C := RX0) (T := TX0) (N := 5) hx hb htb inX0 hown hK hP 30 (xw_30 c q σ9) rfl 3 (by decide) (htb _ tb_328) (fun _ h9 => h9) rfl dX7_hold_74 ?_
          refine lv_iload_n hx hb dX7_hold_77 rfl (lv_at hl 1 rfl) ?_
          refine lv_iload_n hx hb dX7_hold_78 rfl (lv_at hl 2 rfl) ?_
          refine va_iast hx hb hK hP hD hS 33 23 (xw_33 c q σ9) rfl hw.1 dX7_hold_79 (fun H locs hP hD hS => ?_)
          have hw := hw.2
          have hP : va_P D vwCl (xw c q (hsA σ9 33 (upd (σ9.2.1 33) x1.toNatClampNeg x2))) H := hP
          obtain ⟨σ12, eσ12⟩ : ∃ z : hsS, z = hsA σ9 33 (upd (σ9.2.1 33) x1.toNatClampNeg x2) := ⟨_, rfl⟩
          rw [← eσ12] at hP
          have hD : va_D (wdA 36 q) (xw c q σ12) := xw_D hD0
          have hw := hw σ12 eσ12
          refine lv_aload_n hx hb dX7_hold_80 rfl (lv_at hl 0 rfl) ?_
          refine va_get (D := D) (ci := 7) (C := RX7) (T := TX7) (N := 9) hx hb htb inX7 hown hK hP 0 (xw_0 c q σ12) rfl 7 (by decide) (htb _ tb_349) (fun _ h9 => h9) rfl dX7_hold_81 ?_
          refine va_getN (D := D) (ci := 0) (C := RX0) (T := TX0) (N := 5) hx hb htb inX0 hown hK hP 30 (xw_30 c q σ12) rfl 4 (by decide) (htb _ tb_330) (fun _ h9 => h9) rfl dX7_hold_84 ?_
          refine lv_iload_n hx hb dX7_hold_87 rfl (lv_at hl 1 rfl) ?_
          refine lv_iload_n hx hb dX7_hold_88 rfl (lv_at hl 3 rfl) ?_
          refine va_iast hx hb hK hP hD hS 34 24 (xw_34 c q σ12) rfl hw.1 dX7_hold_89 (fun H locs hP hD hS => ?_)
          have hw := hw.2
          have hP : va_P D vwCl (xw c q (hsA σ12 34 (upd (σ12.2.1 34) x1.toNatClampNeg x3))) H := hP
          obtain ⟨σ13, eσ13⟩ : ∃ z : hsS, z = hsA σ12 34 (upd (σ12.2.1 34) x1.toNatClampNeg x3) := ⟨_, rfl⟩
          rw [← eσ13] at hP
          have hD : va_D (wdA 36 q) (xw c q σ13) := xw_D hD0
          have hw := hw σ13 eσ13
          refine lv_iconst (v := (1 : Int32)) hx hb dX7_hold_90 (by decide) ?_
          exact vx_ret (W.widen (k := 1) (n := 6) (Nat.le_of_ble_eq_true rfl) (Nat.le_of_ble_eq_true rfl) (W.zret hx hb hr rfl (fun t ht hW => ⟨⟨_, σ13, rfl, hw, by unfold wdB; rw [ht]; exact hP⟩, hS.F ht⟩) hS.2.2 dX7_hold_91))
        · have hw := hw.2 c11
          refine lv_iconst (v := (0 : Int32)) hx hb dX7_hold_68 (by decide) ?_
          exact vx_ret (W.widen (k := 1) (n := 6) (Nat.le_of_ble_eq_true rfl) (Nat.le_of_ble_eq_true rfl) (W.zret hx hb hr rfl (fun t ht hW => ⟨⟨_, σ9, rfl, hw, by unfold wdB; rw [ht]; exact hP⟩, hS.F ht⟩) hS.2.2 dX7_hold_69))
    · have hw := hw.2 c14
      by_cases c19 : x2 = (2 : Int32)
      · have hw := hw.1 c19
        refine lv_tableIn (off := 43) (tgt := 44) hx hb dX7_hold_1 (by rw [c19]; decide) (by rw [c19]; decide) (by rw [c19]; rfl) (by decide) ?_
        refine lv_goto (tgt := 58) hx hb dX7_hold_44 (by decide) ?_
        refine lv_iload_n hx hb dX7_hold_58 rfl (lv_at hl 1 rfl) ?_
        refine lv_if_lt (tgt := 68) hx hb dX7_hold_59 (by decide) (fun c15 => ?_) (fun c15 => ?_)
        · have hw := hw.1 c15
          refine lv_iconst (v := (0 : Int32)) hx hb dX7_hold_68 (by decide) ?_
          exact vx_ret (W.widen (k := 1) (n := 6) (Nat.le_of_ble_eq_true rfl) (Nat.le_of_ble_eq_true rfl) (W.zret hx hb hr rfl (fun t ht hW => ⟨⟨_, σ, rfl, hw, by unfold wdB; rw [ht]; exact hP⟩, hS.F ht⟩) hS.2.2 dX7_hold_69))
        · have hw := hw.2 c15
          refine lv_iload_n hx hb dX7_hold_62 rfl (lv_at hl 1 rfl) ?_
          refine lv_bipush (v := (8 : Int32)) hx hb dX7_hold_63 (by decide) ?_
          refine lv_icmp_lt (tgt := 70) hx hb dX7_hold_65 (by decide) (fun c16 => ?_) (fun c16 => ?_)
          · have hw := hw.1 c16
            refine lv_aload_n hx hb dX7_hold_70 rfl (lv_at hl 0 rfl) ?_
            refine va_get (D := D) (ci := 7) (C := RX7) (T := TX7) (N := 9) hx hb htb inX7 hown hK hP 0 (xw_0 c q σ) rfl 7 (by decide) (htb _ tb_349) (fun _ h9 => h9) rfl dX7_hold_71 ?_
            refine va_getN (D := D) (ci := 0) (C := RX0) (T := TX0) (N := 5) hx hb htb inX0 hown hK hP 30 (xw_30 c q σ) rfl 3 (by decide) (htb _ tb_328) (fun _ h9 => h9) rfl dX7_hold_74 ?_
            refine lv_iload_n hx hb dX7_hold_77 rfl (lv_at hl 1 rfl) ?_
            refine lv_iload_n hx hb dX7_hold_78 rfl (lv_at hl 2 rfl) ?_
            refine va_iast hx hb hK hP hD hS 33 23 (xw_33 c q σ) rfl hw.1 dX7_hold_79 (fun H locs hP hD hS => ?_)
            have hw := hw.2
            have hP : va_P D vwCl (xw c q (hsA σ 33 (upd (σ.2.1 33) x1.toNatClampNeg x2))) H := hP
            obtain ⟨σ17, eσ17⟩ : ∃ z : hsS, z = hsA σ 33 (upd (σ.2.1 33) x1.toNatClampNeg x2) := ⟨_, rfl⟩
            rw [← eσ17] at hP
            have hD : va_D (wdA 36 q) (xw c q σ17) := xw_D hD0
            have hw := hw σ17 eσ17
            refine lv_aload_n hx hb dX7_hold_80 rfl (lv_at hl 0 rfl) ?_
            refine va_get (D := D) (ci := 7) (C := RX7) (T := TX7) (N := 9) hx hb htb inX7 hown hK hP 0 (xw_0 c q σ17) rfl 7 (by decide) (htb _ tb_349) (fun _ h9 => h9) rfl dX7_hold_81 ?_
            refine va_getN (D := D) (ci := 0) (C := RX0) (T := TX0) (N := 5) hx hb htb inX0 hown hK hP 30 (xw_30 c q σ17) rfl 4 (by decide) (htb _ tb_330) (fun _ h9 => h9) rfl dX7_hold_84 ?_
            refine lv_iload_n hx hb dX7_hold_87 rfl (lv_at hl 1 rfl) ?_
            refine lv_iload_n hx hb dX7_hold_88 rfl (lv_at hl 3 rfl) ?_
            refine va_iast hx hb hK hP hD hS 34 24 (xw_34 c q σ17) rfl hw.1 dX7_hold_89 (fun H locs hP hD hS => ?_)
            have hw := hw.2
            have hP : va_P D vwCl (xw c q (hsA σ17 34 (upd (σ17.2.1 34) x1.toNatClampNeg x3))) H := hP
            obtain ⟨σ18, eσ18⟩ : ∃ z : hsS, z = hsA σ17 34 (upd (σ17.2.1 34) x1.toNatClampNeg x3) := ⟨_, rfl⟩
            rw [← eσ18] at hP
            have hD : va_D (wdA 36 q) (xw c q σ18) := xw_D hD0
            have hw := hw σ18 eσ18
            refine lv_iconst (v := (1 : Int32)) hx hb dX7_hold_90 (by decide) ?_
            exact vx_ret (W.widen (k := 1) (n := 6) (Nat.le_of_ble_eq_true rfl) (Nat.le_of_ble_eq_true rfl) (W.zret hx hb hr rfl (fun t ht hW => ⟨⟨_, σ18, rfl, hw, by unfold wdB; rw [ht]; exact hP⟩, hS.F ht⟩) hS.2.2 dX7_hold_91))
          · have hw := hw.2 c16
            refine lv_iconst (v := (0 : Int32)) hx hb dX7_hold_68 (by decide) ?_
            exact vx_ret (W.widen (k := 1) (n := 6) (Nat.le_of_ble_eq_true rfl) (Nat.le_of_ble_eq_true rfl) (W.zret hx hb hr rfl (fun t ht hW => ⟨⟨_, σ, rfl, hw, by unfold wdB; rw [ht]; exact hP⟩, hS.F ht⟩) hS.2.2 dX7_hold_69))
      · have hw := hw.2 c19
        have hz : ¬ (x2).toInt = 0 ∧ ¬ (x2).toInt = 1 ∧ ¬ (x2).toInt = 2 := by
          exact ⟨lv_neT (a := 0) c7 rfl, lv_neT (a := 1) c14 rfl, lv_neT (a := 2) c19 rfl⟩
        refine lv_tableOut (tgt := 47) hx hb dX7_hold_1 (by omega) (by decide) ?_
        obtain ⟨hU9, hN9, hF9, hR9⟩ := hX s s.heap hE
        obtain ⟨sa9, hsa9⟩ := hR9 (322, "no such kind") (by decide)
        exact xt_throwSW hx hb hst (own := "StrikeHall") (cls := "java/util/NoSuchElementException") (text := "no such kind") (names := ["java/lang/Exception"]) (ix := 13) (rx := xt_rx) (Yc := "java/lang/RuntimeException") hown (by decide) (by decide) (by decide +kernel) (by decide +kernel) (by decide +kernel) (by decide +kernel) (by decide) (htb _ tb_883) (htb _ tb_111) hsa9 (hat_NSE htb hF9) hot_NSE hU9 hN9 hS (hl.1.trans hml.symm) dX7_hold_47 dX7_hold_50 dX7_hold_51 dX7_hold_54 dX7_hold_57 (fun x h => (htab x h).elim) (Nat.le_of_ble_eq_true rfl) (Nat.le_of_ble_eq_true rfl) (Nat.le_of_ble_eq_true rfl) (Nat.le_of_ble_eq_true rfl) hlocks (fun t hvm hsz hk => ⟨σ, hw, ⟨rfl, wd_grow hP hk⟩, wd_F hS hsz hk⟩) hS.2.2 (Nat.le_of_ble_eq_true rfl) (Nat.le_of_ble_eq_true rfl)
def wX7_needHolder (x1 : Int32) (post : hsS → Prop) (px : hsS → Prop) (σ : hsS) : Prop := ((x1 < (0 : Int32) → px σ) ∧ (¬ x1 < (0 : Int32) → ((x1 < (8 : Int32) → post σ) ∧ (¬ x1 < (8 : Int32) → px σ))))
set_option maxHeartbeats 4000000 in
set_option maxRecDepth 100000 in
theorem kcX7_needHolder (l : Launch) (D : va_G) (c : Nat → ClassId) (q : Nat → Nat) (ev : State → Heap → Prop) (hev : evOK (wdA 36 q) ev) (hst : l.stackTraces = false) (hX : ∀ (U : State) (H : Heap), ev U H → evT (wdA 36 q) U H) (σ : hsS) (x1 : Int32) (post : hsS → Prop) (px : hsS → Prop) (hw : wX7_needHolder x1 post px σ) : vx_Met l yX7_needHolder (Cond.code yX7_needHolder cX7_needHolder 2 none :: tb_L) { frames := 8, cells := 1, slots := 6, locals := 128 } (wdPc D (xw c q) (xwT c) (wdA 36 q) ev σ [.ref (q 0), .int x1]) (va_Qv post (wdB D (xw c q)) (wdA 36 q)) (vx_X px (xpB D (xw c q) "java/util/NoSuchElementException") (wdA 36 q)) 1 6 (wdA 36 q) := by
  refine vx_ofW (cc := cX7_needHolder) (maxL := 2) (ret := none) (by decide) rfl ?_
  intro p e s m args below meth c₀ s₁ Bd hml htab hv
  obtain ⟨rfl, hP, hK, hD0, hE⟩ := hv
  have hx := Bd.exec
  have hb := Bd.bytes
  have hr := Bd.returns
  have hts := atoms_spec (ws := Cond.code yX7_needHolder cX7_needHolder 2 none :: tb_L) Bd.pre
  have htb : ∀ w ∈ tb_L, w.before [.ref (q 0), .int x1].toArray s = true := fun w h => hts w (List.mem_cons_of_mem _ h)
  have hown : s.vm.findClass RX7 = some m.cls := findClass_of_methodNamed Bd.named
  have hlocks := Bd.notSynchronized
  have hS : va_S (wdA 36 q) s.heap s.heap [] := va_S.rf
  have hD := hD0
  have hl := lv_entry ([.ref (q 0), .int x1]) (n := 2) (Nat.le_of_ble_eq_true rfl)
  rw [lg_entry_eq]
  generalize (lg_sl ([.ref (q 0), .int x1]) ++ List.replicate (2 - (lg_sl ([.ref (q 0), .int x1])).length) Slot.unset).toArray = ls at hl ⊢
  have hl : lv_has ls 2 [(0, .ref (q 0)), (1, .int x1)] := hl
  unfold wX7_needHolder at hw
  refine lv_iload_n hx hb dX7_needHolder_0 rfl (lv_at hl 1 rfl) ?_
  refine lv_if_lt (tgt := 10) hx hb dX7_needHolder_1 (by decide) (fun c1 => ?_) (fun c1 => ?_)
  · have hw := hw.1 c1
    obtain ⟨hU9, hN9, hF9, hR9⟩ := hX s s.heap hE
    obtain ⟨sa9, hsa9⟩ := hR9 (345, "no such holder") (by decide)
    exact xt_throwSW hx hb hst (own := "StrikeHall") (cls := "java/util/NoSuchElementException") (text := "no such holder") (names := ["java/lang/Exception"]) (ix := 13) (rx := xt_rx) (Yc := "java/lang/RuntimeException") hown (by decide) (by decide) (by decide +kernel) (by decide +kernel) (by decide +kernel) (by decide +kernel) (by decide) (htb _ tb_883) (htb _ tb_111) hsa9 (hat_NSE htb hF9) hot_NSE hU9 hN9 hS (hl.1.trans hml.symm) dX7_needHolder_10 dX7_needHolder_13 dX7_needHolder_14 dX7_needHolder_17 dX7_needHolder_20 (fun x h => (htab x h).elim) (Nat.le_of_ble_eq_true rfl) (Nat.le_of_ble_eq_true rfl) (Nat.le_of_ble_eq_true rfl) (Nat.le_of_ble_eq_true rfl) hlocks (fun t hvm hsz hk => ⟨σ, hw, ⟨rfl, wd_grow hP hk⟩, wd_F hS hsz hk⟩) hS.2.2 (Nat.le_of_ble_eq_true rfl) (Nat.le_of_ble_eq_true rfl)
  · have hw := hw.2 c1
    refine lv_iload_n hx hb dX7_needHolder_4 rfl (lv_at hl 1 rfl) ?_
    refine lv_bipush (v := (8 : Int32)) hx hb dX7_needHolder_5 (by decide) ?_
    refine lv_icmp_lt (tgt := 21) hx hb dX7_needHolder_7 (by decide) (fun c2 => ?_) (fun c2 => ?_)
    · have hw := hw.1 c2
      exact vx_ret (W.widen (k := 1) (n := 6) (Nat.le_of_ble_eq_true rfl) (Nat.le_of_ble_eq_true rfl) (W.vret hx hb hr (fun t ht hW => ⟨⟨σ, rfl, hw, by unfold wdB; rw [ht]; exact hP⟩, hS.F ht⟩) hS.2.2 dX7_needHolder_21))
    · have hw := hw.2 c2
      obtain ⟨hU9, hN9, hF9, hR9⟩ := hX s s.heap hE
      obtain ⟨sa9, hsa9⟩ := hR9 (345, "no such holder") (by decide)
      exact xt_throwSW hx hb hst (own := "StrikeHall") (cls := "java/util/NoSuchElementException") (text := "no such holder") (names := ["java/lang/Exception"]) (ix := 13) (rx := xt_rx) (Yc := "java/lang/RuntimeException") hown (by decide) (by decide) (by decide +kernel) (by decide +kernel) (by decide +kernel) (by decide +kernel) (by decide) (htb _ tb_883) (htb _ tb_111) hsa9 (hat_NSE htb hF9) hot_NSE hU9 hN9 hS (hl.1.trans hml.symm) dX7_needHolder_10 dX7_needHolder_13 dX7_needHolder_14 dX7_needHolder_17 dX7_needHolder_20 (fun x h => (htab x h).elim) (Nat.le_of_ble_eq_true rfl) (Nat.le_of_ble_eq_true rfl) (Nat.le_of_ble_eq_true rfl) (Nat.le_of_ble_eq_true rfl) hlocks (fun t hvm hsz hk => ⟨σ, hw, ⟨rfl, wd_grow hP hk⟩, wd_F hS hsz hk⟩) hS.2.2 (Nat.le_of_ble_eq_true rfl) (Nat.le_of_ble_eq_true rfl)
def wX0_whyNot (b0 : Nat) (x1 : Int32) (x2 : Int32) (post : Int32 → hsS → Prop) (σ : hsS) : Prop := vp_in x1 8 ∧ (((σ.2.1 (b0 + 3) x1.toNatClampNeg) = (2 : Int32) → post (1 : Int32) σ) ∧ (¬ (σ.2.1 (b0 + 3) x1.toNatClampNeg) = (2 : Int32) → vp_in x1 8 ∧ (((σ.2.1 (b0 + 3) x1.toNatClampNeg) = x2 → post (0 : Int32) σ) ∧ (¬ (σ.2.1 (b0 + 3) x1.toNatClampNeg) = x2 → post (2 : Int32) σ))))
set_option maxHeartbeats 4000000 in
set_option maxRecDepth 100000 in
theorem kcX0_whyNot_30 (l : Launch) (D : va_G) (c : Nat → ClassId) (q : Nat → Nat) (ev : State → Heap → Prop) (hev : evOK (wdA 36 q) ev) (σ : hsS) (x1 : Int32) (x2 : Int32) (post : Int32 → hsS → Prop) (hw : wX0_whyNot 30 x1 x2 post σ) : Met l yX0_whyNot (Cond.code yX0_whyNot cX0_whyNot 3 (some .int) :: tb_L) { frames := 0, cells := 0, slots := 0, locals := 0 } (wdPc D (xw c q) (xwT c) (wdA 36 q) ev σ [.ref (q 30), .int x1, .int x2]) (va_Qi post (wdB D (xw c q)) (wdA 36 q)) 0 0 (wdA 36 q) := by
  refine Met.ofW (cc := cX0_whyNot) (maxL := 3) (ret := (some .int)) (by decide) rfl ?_
  intro p e s m args below meth c₀ s₁ Bd hml hv
  obtain ⟨rfl, hP, hK, hD0, hE⟩ := hv
  have hx := Bd.exec
  have hb := Bd.bytes
  have hr := Bd.returns
  have hts := atoms_spec (ws := Cond.code yX0_whyNot cX0_whyNot 3 (some .int) :: tb_L) Bd.pre
  have htb : ∀ w ∈ tb_L, w.before [.ref (q 30), .int x1, .int x2].toArray s = true := fun w h => hts w (List.mem_cons_of_mem _ h)
  have hown : s.vm.findClass RX0 = some m.cls := findClass_of_methodNamed Bd.named
  have hlocks := Bd.notSynchronized
  have hS : va_S (wdA 36 q) s.heap s.heap [] := va_S.rf
  have hD := hD0
  have hl := lv_entry ([.ref (q 30), .int x1, .int x2]) (n := 3) (Nat.le_of_ble_eq_true rfl)
  rw [lg_entry_eq]
  generalize (lg_sl ([.ref (q 30), .int x1, .int x2]) ++ List.replicate (3 - (lg_sl ([.ref (q 30), .int x1, .int x2])).length) Slot.unset).toArray = ls at hl ⊢
  have hl : lv_has ls 3 [(0, .ref (q 30)), (1, .int x1), (2, .int x2)] := hl
  unfold wX0_whyNot at hw
  refine lv_aload_n hx hb dX0_whyNot_0 rfl (lv_at hl 0 rfl) ?_
  refine va_get (D := D) (ci := 0) (C := RX0) (T := TX0) (N := 5) hx hb htb inX0 hown hK hP 30 (xw_30 c q σ) rfl 3 (by decide) (htb _ tb_327) (fun _ h9 => h9) rfl dX0_whyNot_1 ?_
  refine lv_iload_n hx hb dX0_whyNot_4 rfl (lv_at hl 1 rfl) ?_
  refine va_iald hx hb hK hP 33 23 (xw_33 c q σ) rfl hw.1 dX0_whyNot_5 ?_
  have hw := hw.2
  refine lv_iconst (v := (2 : Int32)) hx hb dX0_whyNot_6 (by decide) ?_
  refine lv_icmp_ne (tgt := 12) hx hb dX0_whyNot_7 (by decide) (fun c1 => ?_) (fun c1 => ?_)
  · have hw := hw.2 c1
    refine lv_aload_n hx hb dX0_whyNot_12 rfl (lv_at hl 0 rfl) ?_
    refine va_get (D := D) (ci := 0) (C := RX0) (T := TX0) (N := 5) hx hb htb inX0 hown hK hP 30 (xw_30 c q σ) rfl 3 (by decide) (htb _ tb_327) (fun _ h9 => h9) rfl dX0_whyNot_13 ?_
    refine lv_iload_n hx hb dX0_whyNot_16 rfl (lv_at hl 1 rfl) ?_
    refine va_iald hx hb hK hP 33 23 (xw_33 c q σ) rfl hw.1 dX0_whyNot_17 ?_
    have hw := hw.2
    refine lv_iload_n hx hb dX0_whyNot_18 rfl (lv_at hl 2 rfl) ?_
    refine lv_icmp_ne (tgt := 26) hx hb dX0_whyNot_19 (by decide) (fun c2 => ?_) (fun c2 => ?_)
    · have hw := hw.2 c2
      refine lv_iconst (v := (2 : Int32)) hx hb dX0_whyNot_26 (by decide) ?_
      exact W.iret hx hb hr (fun t ht hW => ⟨⟨_, σ, rfl, hw, by unfold wdB; rw [ht]; exact hP⟩, hS.F ht⟩) hS.2.2 dX0_whyNot_27
    · have hw := hw.1 c2
      refine lv_iconst (v := (0 : Int32)) hx hb dX0_whyNot_22 (by decide) ?_
      refine lv_goto (tgt := 27) hx hb dX0_whyNot_23 (by decide) ?_
      exact W.iret hx hb hr (fun t ht hW => ⟨⟨_, σ, rfl, hw, by unfold wdB; rw [ht]; exact hP⟩, hS.F ht⟩) hS.2.2 dX0_whyNot_27
  · have hw := hw.1 c1
    refine lv_iconst (v := (1 : Int32)) hx hb dX0_whyNot_10 (by decide) ?_
    exact W.iret hx hb hr (fun t ht hW => ⟨⟨_, σ, rfl, hw, by unfold wdB; rw [ht]; exact hP⟩, hS.F ht⟩) hS.2.2 dX0_whyNot_11
def wX7_held (x1 : Int32) (x2 : Int32) (post : Int32 → hsS → Prop) (px : hsS → Prop) (σ : hsS) : Prop := ((x2 = (0 : Int32) → wX7_needHolder x1 (fun σ3 => wX0_whyNot 30 x1 x2 (fun r4 σ5 => ((r4 = (0 : Int32) → vp_in x1 8 ∧ post ((10 : Int32) + (σ5.2.1 34 x1.toNatClampNeg)) σ5) ∧ (¬ r4 = (0 : Int32) → post r4 σ5))) σ3) px σ) ∧ (¬ x2 = (0 : Int32) → ((x2 = (1 : Int32) → wX7_needHolder x1 (fun σ9 => wX0_whyNot 30 x1 x2 (fun r10 σ11 => ((r10 = (0 : Int32) → vp_in x1 8 ∧ post ((10 : Int32) + (σ11.2.1 34 x1.toNatClampNeg)) σ11) ∧ (¬ r10 = (0 : Int32) → post r10 σ11))) σ9) px σ) ∧ (¬ x2 = (1 : Int32) → px σ))))
set_option maxHeartbeats 4000000 in
set_option maxRecDepth 100000 in
theorem kcX7_held (l : Launch) (D : va_G) (c : Nat → ClassId) (q : Nat → Nat) (ev : State → Heap → Prop) (hev : evOK (wdA 36 q) ev) (hst : l.stackTraces = false) (hX : ∀ (U : State) (H : Heap), ev U H → evT (wdA 36 q) U H) (σ : hsS) (x1 : Int32) (x2 : Int32) (post : Int32 → hsS → Prop) (px : hsS → Prop) (hw : wX7_held x1 x2 post px σ) : vx_Met l yX7_held (Cond.code yX7_held cX7_held 4 (some .int) :: tb_L) { frames := 9, cells := 1, slots := 6, locals := 149 } (wdPc D (xw c q) (xwT c) (wdA 36 q) ev σ [.ref (q 0), .int x1, .int x2]) (va_Qi post (wdB D (xw c q)) (wdA 36 q)) (vx_X px (xpB D (xw c q) "java/util/NoSuchElementException") (wdA 36 q)) 1 6 (wdA 36 q) := by
  refine vx_ofW (cc := cX7_held) (maxL := 4) (ret := (some .int)) (by decide) rfl ?_
  intro p e s m args below meth c₀ s₁ Bd hml htab hv
  obtain ⟨rfl, hP, hK, hD0, hE⟩ := hv
  have hx := Bd.exec
  have hb := Bd.bytes
  have hr := Bd.returns
  have hts := atoms_spec (ws := Cond.code yX7_held cX7_held 4 (some .int) :: tb_L) Bd.pre
  have htb : ∀ w ∈ tb_L, w.before [.ref (q 0), .int x1, .int x2].toArray s = true := fun w h => hts w (List.mem_cons_of_mem _ h)
  have hown : s.vm.findClass RX7 = some m.cls := findClass_of_methodNamed Bd.named
  have hlocks := Bd.notSynchronized
  have hS : va_S (wdA 36 q) s.heap s.heap [] := va_S.rf
  have hD := hD0
  have hl := lv_entry ([.ref (q 0), .int x1, .int x2]) (n := 4) (Nat.le_of_ble_eq_true rfl)
  rw [lg_entry_eq]
  generalize (lg_sl ([.ref (q 0), .int x1, .int x2]) ++ List.replicate (4 - (lg_sl ([.ref (q 0), .int x1, .int x2])).length) Slot.unset).toArray = ls at hl ⊢
  have hl : lv_has ls 4 [(0, .ref (q 0)), (1, .int x1), (2, .int x2)] := hl
  unfold wX7_held at hw
  refine lv_iload_n hx hb dX7_held_0 rfl (lv_at hl 2 rfl) ?_
  refine lv_if_eq (tgt := 20) hx hb dX7_held_1 (by decide) (fun c1 => ?_) (fun c1 => ?_)
  · have hw := hw.1 c1
    refine lv_aload_n hx hb dX7_held_20 rfl (lv_at hl 0 rfl) ?_
    refine lv_iload_n hx hb dX7_held_21 rfl (lv_at hl 1 rfl) ?_
    refine vx_callv (vx_runV (As := [.int x1]) (rest := []) ⟨hx, hb, hml, hown, htb⟩ (kcX7_needHolder l D c q ev hev hst hX σ x1 _ px hw) (tb_CW htb kX7_needHolder tb_1158 tb_1160 tb_41 ⟨Nat.le_of_ble_eq_true rfl, Nat.le_of_ble_eq_true rfl⟩) (wd_preV (wd := xw c q) (k := 0) hev hK hP hD hE hS (xw_0 c q σ) rfl) rfl rfl hl.1 rfl (lv_room (Nat.le_of_ble_eq_true rfl)) dX7_held_22 ⟨Nat.le_of_ble_eq_true rfl, Nat.le_of_ble_eq_true rfl⟩) hS (fun q _ h => h) (fun q h => h) (fun q _ h => h) (fun E9 ce9 q9 σx t H1 locs1 ht hvm hpx hBX hz1 hk1 hS hce hcv hcl => vx_out (fun x h => (htab x h).elim) hlocks hce hcv hcl (fun t2 ht2 _ => ⟨σx, hpx, ⟨hBX.1, by rw [ht2, ← ht]; exact hBX.2⟩, hS.F ht2⟩) hS.2.2 (Nat.le_of_ble_eq_true rfl) (Nat.le_of_ble_eq_true rfl)) (fun σ3 t H1 locs1 ht hvm hw hB hz1 hk1 hS => ?_)
    have hP : va_P D vwCl (xw c q σ3) H1 := ht ▸ hB
    have hD : va_D (wdA 36 q) (xw c q σ3) := xw_D hD0
    refine lv_aload_n hx hb dX7_held_25 rfl (lv_at hl 0 rfl) ?_
    refine va_get (D := D) (ci := 7) (C := RX7) (T := TX7) (N := 9) hx hb htb inX7 hown hK hP 0 (xw_0 c q σ3) rfl 7 (by decide) (htb _ tb_349) (fun _ h9 => h9) rfl dX7_held_26 ?_
    refine lv_iload_n hx hb dX7_held_29 rfl (lv_at hl 1 rfl) ?_
    refine lv_iload_n hx hb dX7_held_30 rfl (lv_at hl 2 rfl) ?_
    refine va_calli (va_runV (As := [.int x1, .int x2]) (rest := []) ⟨hx, hb, hml, hown, htb⟩ (kcX0_whyNot_30 l D c q ev hev σ3 x1 x2 _ hw) (tb_CW htb kX0_whyNot tb_1163 tb_1164 tb_1165 ⟨Nat.le_of_ble_eq_true rfl, Nat.le_of_ble_eq_true rfl⟩) (wd_preV (wd := xw c q) (k := 30) hev hK hP hD hE hS (xw_30 c q σ3) rfl) rfl rfl hl.1 rfl (lv_room (Nat.le_of_ble_eq_true rfl)) dX7_held_31 ⟨Nat.le_of_ble_eq_true rfl, Nat.le_of_ble_eq_true rfl⟩) hS (fun q _ h => h) (fun q h => h) (fun r4 σ5 t H1 locs1 ht hvm hw hB hz1 hk1 hS => ?_)
    have hP : va_P D vwCl (xw c q σ5) H1 := ht ▸ hB
    have hD : va_D (wdA 36 q) (xw c q σ5) := xw_D hD0
    refine lv_istore_n (lv' := [(3, .int r4), (0, .ref (q 0)), (1, .int x1), (2, .int x2)]) hx hb dX7_held_34 rfl hl (by decide) rfl (fun ls hl => ?_)
    refine lv_iload_n hx hb dX7_held_35 rfl (lv_at hl 0 rfl) ?_
    refine lv_if_ne (tgt := 54) hx hb dX7_held_36 (by decide) (fun c6 => ?_) (fun c6 => ?_)
    · have hw := hw.2 c6
      refine lv_iload_n hx hb dX7_held_54 rfl (lv_at hl 0 rfl) ?_
      exact vx_ret (W.widen (k := 1) (n := 6) (Nat.le_of_ble_eq_true rfl) (Nat.le_of_ble_eq_true rfl) (W.iret hx hb hr (fun t ht hW => ⟨⟨_, σ5, rfl, hw, by unfold wdB; rw [ht]; exact hP⟩, hS.F ht⟩) hS.2.2 dX7_held_55))
    · have hw := hw.1 c6
      refine lv_bipush (v := (10 : Int32)) hx hb dX7_held_39 (by decide) ?_
      refine lv_aload_n hx hb dX7_held_41 rfl (lv_at hl 1 rfl) ?_
      refine va_get (D := D) (ci := 7) (C := RX7) (T := TX7) (N := 9) hx hb htb inX7 hown hK hP 0 (xw_0 c q σ5) rfl 7 (by decide) (htb _ tb_349) (fun _ h9 => h9) rfl dX7_held_42 ?_
      refine va_getN (D := D) (ci := 0) (C := RX0) (T := TX0) (N := 5) hx hb htb inX0 hown hK hP 30 (xw_30 c q σ5) rfl 4 (by decide) (htb _ tb_330) (fun _ h9 => h9) rfl dX7_held_45 ?_
      refine lv_iload_n hx hb dX7_held_48 rfl (lv_at hl 2 rfl) ?_
      refine va_iald hx hb hK hP 34 24 (xw_34 c q σ5) rfl hw.1 dX7_held_49 ?_
      have hw := hw.2
      refine lv_iadd hx hb dX7_held_50 ?_
      refine lv_goto (tgt := 55) hx hb dX7_held_51 (by decide) ?_
      exact vx_ret (W.widen (k := 1) (n := 6) (Nat.le_of_ble_eq_true rfl) (Nat.le_of_ble_eq_true rfl) (W.iret hx hb hr (fun t ht hW => ⟨⟨_, σ5, rfl, hw, by unfold wdB; rw [ht]; exact hP⟩, hS.F ht⟩) hS.2.2 dX7_held_55))
  · have hw := hw.2 c1
    refine lv_iload_n hx hb dX7_held_4 rfl (lv_at hl 2 rfl) ?_
    refine lv_iconst (v := (1 : Int32)) hx hb dX7_held_5 (by decide) ?_
    refine lv_icmp_eq (tgt := 20) hx hb dX7_held_6 (by decide) (fun c7 => ?_) (fun c7 => ?_)
    · have hw := hw.1 c7
      refine lv_aload_n hx hb dX7_held_20 rfl (lv_at hl 0 rfl) ?_
      refine lv_iload_n hx hb dX7_held_21 rfl (lv_at hl 1 rfl) ?_
      refine vx_callv (vx_runV (As := [.int x1]) (rest := []) ⟨hx, hb, hml, hown, htb⟩ (kcX7_needHolder l D c q ev hev hst hX σ x1 _ px hw) (tb_CW htb kX7_needHolder tb_1158 tb_1160 tb_41 ⟨Nat.le_of_ble_eq_true rfl, Nat.le_of_ble_eq_true rfl⟩) (wd_preV (wd := xw c q) (k := 0) hev hK hP hD hE hS (xw_0 c q σ) rfl) rfl rfl hl.1 rfl (lv_room (Nat.le_of_ble_eq_true rfl)) dX7_held_22 ⟨Nat.le_of_ble_eq_true rfl, Nat.le_of_ble_eq_true rfl⟩) hS (fun q _ h => h) (fun q h => h) (fun q _ h => h) (fun E9 ce9 q9 σx t H1 locs1 ht hvm hpx hBX hz1 hk1 hS hce hcv hcl => vx_out (fun x h => (htab x h).elim) hlocks hce hcv hcl (fun t2 ht2 _ => ⟨σx, hpx, ⟨hBX.1, by rw [ht2, ← ht]; exact hBX.2⟩, hS.F ht2⟩) hS.2.2 (Nat.le_of_ble_eq_true rfl) (Nat.le_of_ble_eq_true rfl)) (fun σ9 t H1 locs1 ht hvm hw hB hz1 hk1 hS => ?_)
      have hP : va_P D vwCl (xw c q σ9) H1 := ht ▸ hB
      have hD : va_D (wdA 36 q) (xw c q σ9) := xw_D hD0
      refine lv_aload_n hx hb dX7_held_25 rfl (lv_at hl 0 rfl) ?_
      refine va_get (D := D) (ci := 7) (C := RX7) (T := TX7) (N := 9) hx hb htb inX7 hown hK hP 0 (xw_0 c q σ9) rfl 7 (by decide) (htb _ tb_349) (fun _ h9 => h9) rfl dX7_held_26 ?_
      refine lv_iload_n hx hb dX7_held_29 rfl (lv_at hl 1 rfl) ?_
      refine lv_iload_n hx hb dX7_held_30 rfl (lv_at hl 2 rfl) ?_
      refine va_calli (va_runV (As := [.int x1, .int x2]) (rest := []) ⟨hx, hb, hml, hown, htb⟩ (kcX0_whyNot_30 l D c q ev hev σ9 x1 x2 _ hw) (tb_CW htb kX0_whyNot tb_1163 tb_1164 tb_1165 ⟨Nat.le_of_ble_eq_true rfl, Nat.le_of_ble_eq_true rfl⟩) (wd_preV (wd := xw c q) (k := 30) hev hK hP hD hE hS (xw_30 c q σ9) rfl) rfl rfl hl.1 rfl (lv_room (Nat.le_of_ble_eq_true rfl)) dX7_held_31 ⟨Nat.le_of_ble_eq_true rfl, Nat.le_of_ble_eq_true rfl⟩) hS (fun q _ h => h) (fun q h => h) (fun r10 σ11 t H1 locs1 ht hvm hw hB hz1 hk1 hS => ?_)
      have hP : va_P D vwCl (xw c q σ11) H1 := ht ▸ hB
      have hD : va_D (wdA 36 q) (xw c q σ11) := xw_D hD0
      refine lv_istore_n (lv' := [(3, .int r10), (0, .ref (q 0)), (1, .int x1), (2, .int x2)]) hx hb dX7_held_34 rfl hl (by decide) rfl (fun ls hl => ?_)
      refine lv_iload_n hx hb dX7_held_35 rfl (lv_at hl 0 rfl) ?_
      refine lv_if_ne (tgt := 54) hx hb dX7_held_36 (by decide) (fun c12 => ?_) (fun c12 => ?_)
      · have hw := hw.2 c12
        refine lv_iload_n hx hb dX7_held_54 rfl (lv_at hl 0 rfl) ?_
        exact vx_ret (W.widen (k := 1) (n := 6) (Nat.le_of_ble_eq_true rfl) (Nat.le_of_ble_eq_true rfl) (W.iret hx hb hr (fun t ht hW => ⟨⟨_, σ11, rfl, hw, by unfold wdB; rw [ht]; exact hP⟩, hS.F ht⟩) hS.2.2 dX7_held_55))
      · have hw := hw.1 c12
        refine lv_bipush (v := (10 : Int32)) hx hb dX7_held_39 (by decide) ?_
        refine lv_aload_n hx hb dX7_held_41 rfl (lv_at hl 1 rfl) ?_
        refine va_get (D := D) (ci := 7) (C := RX7) (T := TX7) (N := 9) hx hb htb inX7 hown hK hP 0 (xw_0 c q σ11) rfl 7 (by decide) (htb _ tb_349) (fun _ h9 => h9) rfl dX7_held_42 ?_
        refine va_getN (D := D) (ci := 0) (C := RX0) (T := TX0) (N := 5) hx hb htb inX0 hown hK hP 30 (xw_30 c q σ11) rfl 4 (by decide) (htb _ tb_330) (fun _ h9 => h9) rfl dX7_held_45 ?_
        refine lv_iload_n hx hb dX7_held_48 rfl (lv_at hl 2 rfl) ?_
        refine va_iald hx hb hK hP 34 24 (xw_34 c q σ11) rfl hw.1 dX7_held_49 ?_
        have hw := hw.2
        refine lv_iadd hx hb dX7_held_50 ?_
        refine lv_goto (tgt := 55) hx hb dX7_held_51 (by decide) ?_
        exact vx_ret (W.widen (k := 1) (n := 6) (Nat.le_of_ble_eq_true rfl) (Nat.le_of_ble_eq_true rfl) (W.iret hx hb hr (fun t ht hW => ⟨⟨_, σ11, rfl, hw, by unfold wdB; rw [ht]; exact hP⟩, hS.F ht⟩) hS.2.2 dX7_held_55))
    · have hw := hw.2 c7
      obtain ⟨hU9, hN9, hF9, hR9⟩ := hX s s.heap hE
      obtain ⟨sa9, hsa9⟩ := hR9 (322, "no such kind") (by decide)
      exact xt_throwSW hx hb hst (own := "StrikeHall") (cls := "java/util/NoSuchElementException") (text := "no such kind") (names := ["java/lang/Exception"]) (ix := 13) (rx := xt_rx) (Yc := "java/lang/RuntimeException") hown (by decide) (by decide) (by decide +kernel) (by decide +kernel) (by decide +kernel) (by decide +kernel) (by decide) (htb _ tb_883) (htb _ tb_111) hsa9 (hat_NSE htb hF9) hot_NSE hU9 hN9 hS (hl.1.trans hml.symm) dX7_held_9 dX7_held_12 dX7_held_13 dX7_held_16 dX7_held_19 (fun x h => (htab x h).elim) (Nat.le_of_ble_eq_true rfl) (Nat.le_of_ble_eq_true rfl) (Nat.le_of_ble_eq_true rfl) (Nat.le_of_ble_eq_true rfl) hlocks (fun t hvm hsz hk => ⟨σ, hw, ⟨rfl, wd_grow hP hk⟩, wd_F hS hsz hk⟩) hS.2.2 (Nat.le_of_ble_eq_true rfl) (Nat.le_of_ble_eq_true rfl)
def wX7_left (x1 : Int32) (x2 : Int32) (post : Int32 → hsS → Prop) (px : hsS → Prop) (σ : hsS) : Prop := wX7_needHolder x1 (fun σ2 => wX7_needHolder x2 (fun σ4 => wX0_whyNot 30 x1 (0 : Int32) (fun r5 σ6 => wX0_whyNot 30 x2 (1 : Int32) (fun r7 σ8 => ((r5 = (0 : Int32) → ((r5 = (0 : Int32) → ((r7 = (0 : Int32) → vp_in x2 8 ∧ wX0_struckBy 30 (σ8.2.1 34 x2.toNatClampNeg) (fun r12 σ13 => vp_in x1 8 ∧ ((((r12 >>> ((σ13.2.1 34 x1.toNatClampNeg) &&& 31)) &&& (1 : Int32)) = (1 : Int32) → post (10 : Int32) σ13) ∧ (¬ ((r12 >>> ((σ13.2.1 34 x1.toNatClampNeg) &&& 31)) &&& (1 : Int32)) = (1 : Int32) → post (11 : Int32) σ13))) σ8) ∧ (¬ r7 = (0 : Int32) → post (if r5 < r7 then r7 else r5) σ8))) ∧ (¬ r5 = (0 : Int32) → post (if r5 < r7 then r7 else r5) σ8))) ∧ (¬ r5 = (0 : Int32) → ((r7 = (0 : Int32) → ((r5 = (0 : Int32) → ((r7 = (0 : Int32) → vp_in x2 8 ∧ wX0_struckBy 30 (σ8.2.1 34 x2.toNatClampNeg) (fun r18 σ19 => vp_in x1 8 ∧ ((((r18 >>> ((σ19.2.1 34 x1.toNatClampNeg) &&& 31)) &&& (1 : Int32)) = (1 : Int32) → post (10 : Int32) σ19) ∧ (¬ ((r18 >>> ((σ19.2.1 34 x1.toNatClampNeg) &&& 31)) &&& (1 : Int32)) = (1 : Int32) → post (11 : Int32) σ19))) σ8) ∧ (¬ r7 = (0 : Int32) → post (if r5 < r7 then r7 else r5) σ8))) ∧ (¬ r5 = (0 : Int32) → post (if r5 < r7 then r7 else r5) σ8))) ∧ (¬ r7 = (0 : Int32) → post (if r7 < r5 then r7 else r5) σ8))))) σ6) σ4) px σ2) px σ
set_option maxHeartbeats 4000000 in
set_option maxRecDepth 100000 in
theorem kcX7_left (l : Launch) (D : va_G) (c : Nat → ClassId) (q : Nat → Nat) (ev : State → Heap → Prop) (hev : evOK (wdA 36 q) ev) (hst : l.stackTraces = false) (hX : ∀ (U : State) (H : Heap), ev U H → evT (wdA 36 q) U H) (σ : hsS) (x1 : Int32) (x2 : Int32) (post : Int32 → hsS → Prop) (px : hsS → Prop) (hw : wX7_left x1 x2 post px σ) : vx_Met l yX7_left (Cond.code yX7_left cX7_left 6 (some .int) :: tb_L) { frames := 9, cells := 2, slots := 12, locals := 149 } (wdPc D (xw c q) (xwT c) (wdA 36 q) ev σ [.ref (q 0), .int x1, .int x2]) (va_Qi post (wdB D (xw c q)) (wdA 36 q)) (vx_X px (xpB D (xw c q) "java/util/NoSuchElementException") (wdA 36 q)) 2 12 (wdA 36 q) := by
  refine vx_ofW (cc := cX7_left) (maxL := 6) (ret := (some .int)) (by decide) rfl ?_
  intro p e s m args below meth c₀ s₁ Bd hml htab hv
  obtain ⟨rfl, hP, hK, hD0, hE⟩ := hv
  have hx := Bd.exec
  have hb := Bd.bytes
  have hr := Bd.returns
  have hts := atoms_spec (ws := Cond.code yX7_left cX7_left 6 (some .int) :: tb_L) Bd.pre
  have htb : ∀ w ∈ tb_L, w.before [.ref (q 0), .int x1, .int x2].toArray s = true := fun w h => hts w (List.mem_cons_of_mem _ h)
  have hown : s.vm.findClass RX7 = some m.cls := findClass_of_methodNamed Bd.named
  have hlocks := Bd.notSynchronized
  have hS : va_S (wdA 36 q) s.heap s.heap [] := va_S.rf
  have hD := hD0
  have hl := lv_entry ([.ref (q 0), .int x1, .int x2]) (n := 6) (Nat.le_of_ble_eq_true rfl)
  rw [lg_entry_eq]
  generalize (lg_sl ([.ref (q 0), .int x1, .int x2]) ++ List.replicate (6 - (lg_sl ([.ref (q 0), .int x1, .int x2])).length) Slot.unset).toArray = ls at hl ⊢
  have hl : lv_has ls 6 [(0, .ref (q 0)), (1, .int x1), (2, .int x2)] := hl
  unfold wX7_left at hw
  refine lv_aload_n hx hb dX7_left_0 rfl (lv_at hl 0 rfl) ?_
  refine lv_iload_n hx hb dX7_left_1 rfl (lv_at hl 1 rfl) ?_
  refine vx_callv (vx_runV (As := [.int x1]) (rest := []) ⟨hx, hb, hml, hown, htb⟩ (kcX7_needHolder l D c q ev hev hst hX σ x1 _ px hw) (tb_CW htb kX7_needHolder tb_1158 tb_1160 tb_41 ⟨Nat.le_of_ble_eq_true rfl, Nat.le_of_ble_eq_true rfl⟩) (wd_preV (wd := xw c q) (k := 0) hev hK hP hD hE hS (xw_0 c q σ) rfl) rfl rfl hl.1 rfl (lv_room (Nat.le_of_ble_eq_true rfl)) dX7_left_2 ⟨Nat.le_of_ble_eq_true rfl, Nat.le_of_ble_eq_true rfl⟩) hS (fun q _ h => h) (fun q h => h) (fun q _ h => h) (fun E9 ce9 q9 σx t H1 locs1 ht hvm hpx hBX hz1 hk1 hS hce hcv hcl => vx_out (fun x h => (htab x h).elim) hlocks hce hcv hcl (fun t2 ht2 _ => ⟨σx, hpx, ⟨hBX.1, by rw [ht2, ← ht]; exact hBX.2⟩, hS.F ht2⟩) hS.2.2 (Nat.le_of_ble_eq_true rfl) (Nat.le_of_ble_eq_true rfl)) (fun σ2 t H1 locs1 ht hvm hw hB hz1 hk1 hS => ?_)
  have hP : va_P D vwCl (xw c q σ2) H1 := ht ▸ hB
  have hD : va_D (wdA 36 q) (xw c q σ2) := xw_D hD0
  refine lv_aload_n hx hb dX7_left_5 rfl (lv_at hl 0 rfl) ?_
  refine lv_iload_n hx hb dX7_left_6 rfl (lv_at hl 2 rfl) ?_
  refine vx_callv (vx_runV (As := [.int x2]) (rest := []) ⟨hx, hb, hml, hown, htb⟩ (kcX7_needHolder l D c q ev hev hst hX σ2 x2 _ px hw) (tb_CW htb kX7_needHolder tb_1158 tb_1160 tb_41 ⟨Nat.le_of_ble_eq_true rfl, Nat.le_of_ble_eq_true rfl⟩) (wd_preV (wd := xw c q) (k := 0) hev hK hP hD hE hS (xw_0 c q σ2) rfl) rfl rfl hl.1 rfl (lv_room (Nat.le_of_ble_eq_true rfl)) dX7_left_7 ⟨Nat.le_of_ble_eq_true rfl, Nat.le_of_ble_eq_true rfl⟩) hS (fun q _ h => h) (fun q h => h) (fun q _ h => h) (fun E9 ce9 q9 σx t H1 locs1 ht hvm hpx hBX hz1 hk1 hS hce hcv hcl => vx_out (fun x h => (htab x h).elim) hlocks hce hcv hcl (fun t2 ht2 _ => ⟨σx, hpx, ⟨hBX.1, by rw [ht2, ← ht]; exact hBX.2⟩, hS.F ht2⟩) hS.2.2 (Nat.le_of_ble_eq_true rfl) (Nat.le_of_ble_eq_true rfl)) (fun σ4 t H1 locs1 ht hvm hw hB hz1 hk1 hS => ?_)
  have hP : va_P D vwCl (xw c q σ4) H1 := ht ▸ hB
  have hD : va_D (wdA 36 q) (xw c q σ4) := xw_D hD0
  refine lv_aload_n hx hb dX7_left_10 rfl (lv_at hl 0 rfl) ?_
  refine va_get (D := D) (ci := 7) (C := RX7) (T := TX7) (N := 9) hx hb htb inX7 hown hK hP 0 (xw_0 c q σ4) rfl 7 (by decide) (htb _ tb_349) (fun _ h9 => h9) rfl dX7_left_11 ?_
  refine lv_iload_n hx hb dX7_left_14 rfl (lv_at hl 1 rfl) ?_
  refine lv_iconst (v := (0 : Int32)) hx hb dX7_left_15 (by decide) ?_
  refine va_calli (va_runV (As := [.int x1, .int (0 : Int32)]) (rest := []) ⟨hx, hb, hml, hown, htb⟩ (kcX0_whyNot_30 l D c q ev hev σ4 x1 (0 : Int32) _ hw) (tb_CW htb kX0_whyNot tb_1163 tb_1164 tb_1165 ⟨Nat.le_of_ble_eq_true rfl, Nat.le_of_ble_eq_true rfl⟩) (wd_preV (wd := xw c q) (k := 30) hev hK hP hD hE hS (xw_30 c q σ4) rfl) rfl rfl hl.1 rfl (lv_room (Nat.le_of_ble_eq_true rfl)) dX7_left_16 ⟨Nat.le_of_ble_eq_true rfl, Nat.le_of_ble_eq_true rfl⟩) hS (fun q _ h => h) (fun q h => h) (fun r5 σ6 t H1 locs1 ht hvm hw hB hz1 hk1 hS => ?_)
  have hP : va_P D vwCl (xw c q σ6) H1 := ht ▸ hB
  have hD : va_D (wdA 36 q) (xw c q σ6) := xw_D hD0
  refine lv_istore_n (lv' := [(3, .int r5), (0, .ref (q 0)), (1, .int x1), (2, .int x2)]) hx hb dX7_left_19 rfl hl (by decide) rfl (fun ls hl => ?_)
  refine lv_aload_n hx hb dX7_left_20 rfl (lv_at hl 1 rfl) ?_
  refine va_get (D := D) (ci := 7) (C := RX7) (T := TX7) (N := 9) hx hb htb inX7 hown hK hP 0 (xw_0 c q σ6) rfl 7 (by decide) (htb _ tb_349) (fun _ h9 => h9) rfl dX7_left_21 ?_
  refine lv_iload_n hx hb dX7_left_24 rfl (lv_at hl 3 rfl) ?_
  refine lv_iconst (v := (1 : Int32)) hx hb dX7_left_25 (by decide) ?_
  refine va_calli (va_runV (As := [.int x2, .int (1 : Int32)]) (rest := []) ⟨hx, hb, hml, hown, htb⟩ (kcX0_whyNot_30 l D c q ev hev σ6 x2 (1 : Int32) _ hw) (tb_CW htb kX0_whyNot tb_1163 tb_1164 tb_1165 ⟨Nat.le_of_ble_eq_true rfl, Nat.le_of_ble_eq_true rfl⟩) (wd_preV (wd := xw c q) (k := 30) hev hK hP hD hE hS (xw_30 c q σ6) rfl) rfl rfl hl.1 rfl (lv_room (Nat.le_of_ble_eq_true rfl)) dX7_left_26 ⟨Nat.le_of_ble_eq_true rfl, Nat.le_of_ble_eq_true rfl⟩) hS (fun q _ h => h) (fun q h => h) (fun r7 σ8 t H1 locs1 ht hvm hw hB hz1 hk1 hS => ?_)
  have hP : va_P D vwCl (xw c q σ8) H1 := ht ▸ hB
  have hD : va_D (wdA 36 q) (xw c q σ8) := xw_D hD0
  refine lv_istore (lv' := [(4, .int r7), (3, .int r5), (0, .ref (q 0)), (1, .int x1), (2, .int x2)]) hx hb dX7_left_29 hl (by decide) rfl (fun ls hl => ?_)
  refine lv_iload_n hx hb dX7_left_31 rfl (lv_at hl 1 rfl) ?_
  refine lv_if_eq (tgt := 47) hx hb dX7_left_32 (by decide) (fun c9 => ?_) (fun c9 => ?_)
  · have hw := hw.1 c9
    refine lv_iload_n hx hb dX7_left_47 rfl (lv_at hl 1 rfl) ?_
    refine lv_if_ne (tgt := 56) hx hb dX7_left_48 (by decide) (fun c10 => ?_) (fun c10 => ?_)
    · have hw := hw.2 c10
      refine lv_iload_n hx hb dX7_left_56 rfl (lv_at hl 1 rfl) ?_
      refine lv_iload hx hb dX7_left_57 (lv_at hl 0 rfl) ?_
      refine va_mmax hx hb (hml.trans hl.1.symm) hown (htb _ tb_562) (htb _ tb_495) (htb _ tb_104) (htb _ tb_496) (Nat.le_of_ble_eq_true rfl) (Nat.le_of_ble_eq_true rfl) (Nat.le_of_ble_eq_true rfl) (Nat.le_of_ble_eq_true rfl) dX7_left_59 ?_
      exact vx_ret (W.widen (k := 2) (n := 12) (Nat.le_of_ble_eq_true rfl) (Nat.le_of_ble_eq_true rfl) (W.iret hx hb hr (fun t ht hW => ⟨⟨_, σ8, rfl, hw, by unfold wdB; rw [ht]; exact hP⟩, hS.F ht⟩) hS.2.2 dX7_left_62))
    · have hw := hw.1 c10
      refine lv_iload hx hb dX7_left_51 (lv_at hl 0 rfl) ?_
      refine lv_if_eq (tgt := 63) hx hb dX7_left_53 (by decide) (fun c11 => ?_) (fun c11 => ?_)
      · have hw := hw.1 c11
        refine lv_aload_n hx hb dX7_left_63 rfl (lv_at hl 2 rfl) ?_
        refine va_get (D := D) (ci := 7) (C := RX7) (T := TX7) (N := 9) hx hb htb inX7 hown hK hP 0 (xw_0 c q σ8) rfl 7 (by decide) (htb _ tb_349) (fun _ h9 => h9) rfl dX7_left_64 ?_
        refine lv_aload_n hx hb dX7_left_67 rfl (lv_at hl 2 rfl) ?_
        refine va_get (D := D) (ci := 7) (C := RX7) (T := TX7) (N := 9) hx hb htb inX7 hown hK hP 0 (xw_0 c q σ8) rfl 7 (by decide) (htb _ tb_349) (fun _ h9 => h9) rfl dX7_left_68 ?_
        refine va_getN (D := D) (ci := 0) (C := RX0) (T := TX0) (N := 5) hx hb htb inX0 hown hK hP 30 (xw_30 c q σ8) rfl 4 (by decide) (htb _ tb_330) (fun _ h9 => h9) rfl dX7_left_71 ?_
        refine lv_iload_n hx hb dX7_left_74 rfl (lv_at hl 4 rfl) ?_
        refine va_iald hx hb hK hP 34 24 (xw_34 c q σ8) rfl hw.1 dX7_left_75 ?_
        have hw := hw.2
        refine va_calli (va_runV (As := [.int (σ8.2.1 34 x2.toNatClampNeg)]) (rest := []) ⟨hx, hb, hml, hown, htb⟩ (kcX0_struckBy_30 l D c q ev hev σ8 (σ8.2.1 34 x2.toNatClampNeg) _ hw) (tb_CW htb kX0_struckBy tb_1138 tb_1139 tb_1140 ⟨Nat.le_of_ble_eq_true rfl, Nat.le_of_ble_eq_true rfl⟩) (wd_preV (wd := xw c q) (k := 30) hev hK hP hD hE hS (xw_30 c q σ8) rfl) rfl rfl hl.1 rfl (lv_room (Nat.le_of_ble_eq_true rfl)) dX7_left_76 ⟨Nat.le_of_ble_eq_true rfl, Nat.le_of_ble_eq_true rfl⟩) hS (fun q _ h => h) (fun q h => h) (fun r12 σ13 t H1 locs1 ht hvm hw hB hz1 hk1 hS => ?_)
        have hP : va_P D vwCl (xw c q σ13) H1 := ht ▸ hB
        have hD : va_D (wdA 36 q) (xw c q σ13) := xw_D hD0
        refine lv_istore (lv' := [(5, .int r12), (4, .int r7), (3, .int r5), (0, .ref (q 0)), (1, .int x1), (2, .int x2)]) hx hb dX7_left_79 hl (by decide) rfl (fun ls hl => ?_)
        refine lv_iload hx hb dX7_left_81 (lv_at hl 0 rfl) ?_
        refine lv_aload_n hx hb dX7_left_83 rfl (lv_at hl 3 rfl) ?_
        refine va_get (D := D) (ci := 7) (C := RX7) (T := TX7) (N := 9) hx hb htb inX7 hown hK hP 0 (xw_0 c q σ13) rfl 7 (by decide) (htb _ tb_349) (fun _ h9 => h9) rfl dX7_left_84 ?_
        refine va_getN (D := D) (ci := 0) (C := RX0) (T := TX0) (N := 5) hx hb htb inX0 hown hK hP 30 (xw_30 c q σ13) rfl 4 (by decide) (htb _ tb_330) (fun _ h9 => h9) rfl dX7_left_87 ?_
        refine lv_iload_n hx hb dX7_left_90 rfl (lv_at hl 4 rfl) ?_
        refine va_iald hx hb hK hP 34 24 (xw_34 c q σ13) rfl hw.1 dX7_left_91 ?_
        have hw := hw.2
        refine lv_ishr hx hb dX7_left_92 ?_
        refine lv_iconst (v := (1 : Int32)) hx hb dX7_left_93 (by decide) ?_
        refine lv_iand hx hb dX7_left_94 ?_
        refine lv_iconst (v := (1 : Int32)) hx hb dX7_left_95 (by decide) ?_
        refine lv_icmp_ne (tgt := 104) hx hb dX7_left_96 (by decide) (fun c14 => ?_) (fun c14 => ?_)
        · have hw := hw.2 c14
          refine lv_bipush (v := (11 : Int32)) hx hb dX7_left_104 (by decide) ?_
          exact vx_ret (W.widen (k := 2) (n := 12) (Nat.le_of_ble_eq_true rfl) (Nat.le_of_ble_eq_true rfl) (W.iret hx hb hr (fun t ht hW => ⟨⟨_, σ13, rfl, hw, by unfold wdB; rw [ht]; exact hP⟩, hS.F ht⟩) hS.2.2 dX7_left_106))
        · have hw := hw.1 c14
          refine lv_bipush (v := (10 : Int32)) hx hb dX7_left_99 (by decide) ?_
          refine lv_goto (tgt := 106) hx hb dX7_left_101 (by decide) ?_
          exact vx_ret (W.widen (k := 2) (n := 12) (Nat.le_of_ble_eq_true rfl) (Nat.le_of_ble_eq_true rfl) (W.iret hx hb hr (fun t ht hW => ⟨⟨_, σ13, rfl, hw, by unfold wdB; rw [ht]; exact hP⟩, hS.F ht⟩) hS.2.2 dX7_left_106))
      · have hw := hw.2 c11
        refine lv_iload_n hx hb dX7_left_56 rfl (lv_at hl 1 rfl) ?_
        refine lv_iload hx hb dX7_left_57 (lv_at hl 0 rfl) ?_
        refine va_mmax hx hb (hml.trans hl.1.symm) hown (htb _ tb_562) (htb _ tb_495) (htb _ tb_104) (htb _ tb_496) (Nat.le_of_ble_eq_true rfl) (Nat.le_of_ble_eq_true rfl) (Nat.le_of_ble_eq_true rfl) (Nat.le_of_ble_eq_true rfl) dX7_left_59 ?_
        exact vx_ret (W.widen (k := 2) (n := 12) (Nat.le_of_ble_eq_true rfl) (Nat.le_of_ble_eq_true rfl) (W.iret hx hb hr (fun t ht hW => ⟨⟨_, σ8, rfl, hw, by unfold wdB; rw [ht]; exact hP⟩, hS.F ht⟩) hS.2.2 dX7_left_62))
  · have hw := hw.2 c9
    refine lv_iload hx hb dX7_left_35 (lv_at hl 0 rfl) ?_
    refine lv_if_eq (tgt := 47) hx hb dX7_left_37 (by decide) (fun c15 => ?_) (fun c15 => ?_)
    · have hw := hw.1 c15
      refine lv_iload_n hx hb dX7_left_47 rfl (lv_at hl 1 rfl) ?_
      refine lv_if_ne (tgt := 56) hx hb dX7_left_48 (by decide) (fun c16 => ?_) (fun c16 => ?_)
      · have hw := hw.2 c16
        refine lv_iload_n hx hb dX7_left_56 rfl (lv_at hl 1 rfl) ?_
        refine lv_iload hx hb dX7_left_57 (lv_at hl 0 rfl) ?_
        refine va_mmax hx hb (hml.trans hl.1.symm) hown (htb _ tb_562) (htb _ tb_495) (htb _ tb_104) (htb _ tb_496) (Nat.le_of_ble_eq_true rfl) (Nat.le_of_ble_eq_true rfl) (Nat.le_of_ble_eq_true rfl) (Nat.le_of_ble_eq_true rfl) dX7_left_59 ?_
        exact vx_ret (W.widen (k := 2) (n := 12) (Nat.le_of_ble_eq_true rfl) (Nat.le_of_ble_eq_true rfl) (W.iret hx hb hr (fun t ht hW => ⟨⟨_, σ8, rfl, hw, by unfold wdB; rw [ht]; exact hP⟩, hS.F ht⟩) hS.2.2 dX7_left_62))
      · have hw := hw.1 c16
        refine lv_iload hx hb dX7_left_51 (lv_at hl 0 rfl) ?_
        refine lv_if_eq (tgt := 63) hx hb dX7_left_53 (by decide) (fun c17 => ?_) (fun c17 => ?_)
        · have hw := hw.1 c17
          refine lv_aload_n hx hb dX7_left_63 rfl (lv_at hl 2 rfl) ?_
          refine va_get (D := D) (ci := 7) (C := RX7) (T := TX7) (N := 9) hx hb htb inX7 hown hK hP 0 (xw_0 c q σ8) rfl 7 (by decide) (htb _ tb_349) (fun _ h9 => h9) rfl dX7_left_64 ?_
          refine lv_aload_n hx hb dX7_left_67 rfl (lv_at hl 2 rfl) ?_
          refine va_get (D := D) (ci := 7) (C := RX7) (T := TX7) (N := 9) hx hb htb inX7 hown hK hP 0 (xw_0 c q σ8) rfl 7 (by decide) (htb _ tb_349) (fun _ h9 => h9) rfl dX7_left_68 ?_
          refine va_getN (D := D) (ci := 0) (C := RX0) (T := TX0) (N := 5) hx hb htb inX0 hown hK hP 30 (xw_30 c q σ8) rfl 4 (by decide) (htb _ tb_330) (fun _ h9 => h9) rfl dX7_left_71 ?_
          refine lv_iload_n hx hb dX7_left_74 rfl (lv_at hl 4 rfl) ?_
          refine va_iald hx hb hK hP 34 24 (xw_34 c q σ8) rfl hw.1 dX7_left_75 ?_
          have hw := hw.2
          refine va_calli (va_runV (As := [.int (σ8.2.1 34 x2.toNatClampNeg)]) (rest := []) ⟨hx, hb, hml, hown, htb⟩ (kcX0_struckBy_30 l D c q ev hev σ8 (σ8.2.1 34 x2.toNatClampNeg) _ hw) (tb_CW htb kX0_struckBy tb_1138 tb_1139 tb_1140 ⟨Nat.le_of_ble_eq_true rfl, Nat.le_of_ble_eq_true rfl⟩) (wd_preV (wd := xw c q) (k := 30) hev hK hP hD hE hS (xw_30 c q σ8) rfl) rfl rfl hl.1 rfl (lv_room (Nat.le_of_ble_eq_true rfl)) dX7_left_76 ⟨Nat.le_of_ble_eq_true rfl, Nat.le_of_ble_eq_true rfl⟩) hS (fun q _ h => h) (fun q h => h) (fun r18 σ19 t H1 locs1 ht hvm hw hB hz1 hk1 hS => ?_)
          have hP : va_P D vwCl (xw c q σ19) H1 := ht ▸ hB
          have hD : va_D (wdA 36 q) (xw c q σ19) := xw_D hD0
          refine lv_istore (lv' := [(5, .int r18), (4, .int r7), (3, .int r5), (0, .ref (q 0)), (1, .int x1), (2, .int x2)]) hx hb dX7_left_79 hl (by decide) rfl (fun ls hl => ?_)
          refine lv_iload hx hb dX7_left_81 (lv_at hl 0 rfl) ?_
          refine lv_aload_n hx hb dX7_left_83 rfl (lv_at hl 3 rfl) ?_
          refine va_get (D := D) (ci := 7) (C := RX7) (T := TX7) (N := 9) hx hb htb inX7 hown hK hP 0 (xw_0 c q σ19) rfl 7 (by decide) (htb _ tb_349) (fun _ h9 => h9) rfl dX7_left_84 ?_
          refine va_getN (D := D) (ci := 0) (C := RX0) (T := TX0) (N := 5) hx hb htb inX0 hown hK hP 30 (xw_30 c q σ19) rfl 4 (by decide) (htb _ tb_330) (fun _ h9 => h9) rfl dX7_left_87 ?_
          refine lv_iload_n hx hb dX7_left_90 rfl (lv_at hl 4 rfl) ?_
          refine va_iald hx hb hK hP 34 24 (xw_34 c q σ19) rfl hw.1 dX7_left_91 ?_
          have hw := hw.2
          refine lv_ishr hx hb dX7_left_92 ?_
          refine lv_iconst (v := (1 : Int32)) hx hb dX7_left_93 (by decide) ?_
          refine lv_iand hx hb dX7_left_94 ?_
          refine lv_iconst (v := (1 : Int32)) hx hb dX7_left_95 (by decide) ?_
          refine lv_icmp_ne (tgt := 104) hx hb dX7_left_96 (by decide) (fun c20 => ?_) (fun c20 => ?_)
          · have hw := hw.2 c20
            refine lv_bipush (v := (11 : Int32)) hx hb dX7_left_104 (by decide) ?_
            exact vx_ret (W.widen (k := 2) (n := 12) (Nat.le_of_ble_eq_true rfl) (Nat.le_of_ble_eq_true rfl) (W.iret hx hb hr (fun t ht hW => ⟨⟨_, σ19, rfl, hw, by unfold wdB; rw [ht]; exact hP⟩, hS.F ht⟩) hS.2.2 dX7_left_106))
          · have hw := hw.1 c20
            refine lv_bipush (v := (10 : Int32)) hx hb dX7_left_99 (by decide) ?_
            refine lv_goto (tgt := 106) hx hb dX7_left_101 (by decide) ?_
            exact vx_ret (W.widen (k := 2) (n := 12) (Nat.le_of_ble_eq_true rfl) (Nat.le_of_ble_eq_true rfl) (W.iret hx hb hr (fun t ht hW => ⟨⟨_, σ19, rfl, hw, by unfold wdB; rw [ht]; exact hP⟩, hS.F ht⟩) hS.2.2 dX7_left_106))
        · have hw := hw.2 c17
          refine lv_iload_n hx hb dX7_left_56 rfl (lv_at hl 1 rfl) ?_
          refine lv_iload hx hb dX7_left_57 (lv_at hl 0 rfl) ?_
          refine va_mmax hx hb (hml.trans hl.1.symm) hown (htb _ tb_562) (htb _ tb_495) (htb _ tb_104) (htb _ tb_496) (Nat.le_of_ble_eq_true rfl) (Nat.le_of_ble_eq_true rfl) (Nat.le_of_ble_eq_true rfl) (Nat.le_of_ble_eq_true rfl) dX7_left_59 ?_
          exact vx_ret (W.widen (k := 2) (n := 12) (Nat.le_of_ble_eq_true rfl) (Nat.le_of_ble_eq_true rfl) (W.iret hx hb hr (fun t ht hW => ⟨⟨_, σ8, rfl, hw, by unfold wdB; rw [ht]; exact hP⟩, hS.F ht⟩) hS.2.2 dX7_left_62))
    · have hw := hw.2 c15
      refine lv_iload_n hx hb dX7_left_40 rfl (lv_at hl 1 rfl) ?_
      refine lv_iload hx hb dX7_left_41 (lv_at hl 0 rfl) ?_
      refine va_mmin hx hb (hml.trans hl.1.symm) hown (htb _ tb_1174) (htb _ tb_413) (htb _ tb_104) (htb _ tb_414) (Nat.le_of_ble_eq_true rfl) (Nat.le_of_ble_eq_true rfl) (Nat.le_of_ble_eq_true rfl) (Nat.le_of_ble_eq_true rfl) dX7_left_43 ?_
      exact vx_ret (W.widen (k := 2) (n := 12) (Nat.le_of_ble_eq_true rfl) (Nat.le_of_ble_eq_true rfl) (W.iret hx hb hr (fun t ht hW => ⟨⟨_, σ8, rfl, hw, by unfold wdB; rw [ht]; exact hP⟩, hS.F ht⟩) hS.2.2 dX7_left_46))
