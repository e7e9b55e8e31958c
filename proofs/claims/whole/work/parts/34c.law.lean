set_option maxHeartbeats 8000000 in
set_option maxRecDepth 100000 in
theorem lc_11 {p : Program} {e : Env} {s : State} {m : MethodId} {below : List Frame} {meth : Method} {c₀ : Code} {l : Launch} {b L : Nat} {xs : Nat → Int32} {D : va_G} {cx cm : Nat → ClassId} {qx qm : Nat → Nat} {co : ClassId} {o tF : Nat} {evx evm : State → Heap → Prop} {adK adV : Nat → Nat} (C0 : lw_At p s m meth c₀ b L xs) (hst : l.stackTraces = false) (hs : lwS s D cx qx cm qm co o evx evm tF adK adV) (R Rn : hsS → hsS → Prop) (O : ∀ (f : Nat → Int64) (a1 : Int32) (σx σm : hsS), R σx σm → lo_11 f a1 Rn σx σm) (x4 : Int32) (hin : ∀ j : Nat, 0 < j → j < 6 → vp_in (x4 + nI j) L) (σx σm : hsS) (f : Nat → Int64) (k n6 : Nat) (hk : k + 16 ≤ 600000 ∧ n6 + 96 ≤ 7000000) (H : Heap) (locs : List Loc) (ls : Array Slot) (hR : R σx σm) (hPx : va_P D vwCl (xw cx qx σx) H) (hPm : va_P D vwCl (mw cm qm σm) H) (hPo : va_P D vwCl (hlO co o f) H) (hS : va_S (fun q : Nat => s.heap.size ≤ q) s.heap H locs) (hl : lv_has ls 7 [(0, .ref b), (1, .ref (qx 0)), (2, .ref (qm 0)), (3, .ref o), (4, .int x4)]) (hnext : ∀ (σx σm : hsS) (f : Nat → Int64) (H : Heap) (locs : List Loc) (ls : Array Slot), Rn σx σm → va_P D vwCl (xw cx qx σx) H → va_P D vwCl (mw cm qm σm) H → va_P D vwCl (hlO co o f) H → va_S (fun q : Nat => s.heap.size ≤ q) s.heap H locs → lv_has ls 7 [(0, .ref b), (1, .ref (qx 0)), (2, .ref (qm 0)), (3, .ref o), (4, .int x4)] → W p l e room_1 s m #[Value.ref b] below meth c₀ H locs (k + 16) (n6 + 96) (lw_Z below #[Value.ref b] s) (F0 m 1813 ls [])) : W p l e room_1 s m #[Value.ref b] below meth c₀ H locs k n6 (lw_Z below #[Value.ref b] s) (F0 m 747 ls []) := by
  obtain ⟨hx, hb, hr, hml, hown, hts, hXs, hbl, hlocks, hgv⟩ := C0
  obtain ⟨⟨hKx, hKm, hKo⟩, ⟨hDx, hDm⟩, ⟨hox, hmx, hom⟩, ⟨hxA, hmA, hoS⟩, ⟨hevx, hEx, hevm, hEm⟩, hXx, hF, hZx, hZm⟩ := hs
  have hbA : ¬ (fun q : Nat => s.heap.size ≤ q) b := Nat.not_le.mpr hbl
  have hoA : ∀ a, hlA qx o a → s.heap.size ≤ a := fun a h => h.elim (hxA a) (fun h => by rw [h]; exact hoS)
  have htb : ∀ w ∈ tb_L, w.before #[Value.ref b] s = true := fun w h => hts w (tb_in h)
  have hw := O f (xs (x4 + (1 : Int32)).toNatClampNeg) σx σm hR
  unfold lo_11 at hw
  refine lv_aload_n hx hb dL_law_747 rfl (lv_at hl 1 rfl) ?_
  refine lv_aload_n hx hb dL_law_748 rfl (lv_at hl 0 rfl) ?_
  refine lv_iload hx hb dL_law_749 (lv_at hl 4 rfl) ?_
  refine lv_iconst (v := (1 : Int32)) hx hb dL_law_751 (by decide) ?_
  refine lv_iadd hx hb dL_law_752 ?_
  refine va_sld hx hb hXs hbl hbA hS (hin 1 (by decide) (by decide)) dL_law_753 ?_
  refine lv_aload_n hx hb dL_law_754 rfl (lv_at hl 3 rfl) ?_
  refine va_calli (vx_runSW (As := [.ref (qx 0), .int (xs (x4 + (1 : Int32)).toNatClampNeg), .ref o]) (rest := []) ⟨hx, hb, hml, hown, htb⟩ (khL_some l D cx qx evx hevx hst hXx co o σx f (xs (x4 + (1 : Int32)).toNatClampNeg) (fun (kk : Int32) (u : hsS × (Nat → Int64)) => wX8_some (xs (x4 + (1 : Int32)).toNatClampNeg) (fun bb σm1 => wX8_thrown (fun th σm2 => th = kk ∧ (kk = (0 : Int32) → (u.2 0) = (bb.toInt64)) ∧ Rn u.1 σm2) σm1) σm) hw) (tb_CSW htb kw_some tb_955 tb_956 ⟨Nat.le_of_ble_eq_true rfl, Nat.le_of_ble_eq_true rfl⟩) (hl_preS hevx hKx hKo hPx hPo (hDx σx) hox hEx (fun a h1 _ => hS.2.1 a h1 (Nat.not_le.mpr h1))) rfl rfl hl.1 rfl (lv_room (Nat.le_of_ble_eq_true rfl)) dL_law_755 ⟨by show k + 10 ≤ 601024; omega, by show n6 + 60 ≤ 7293034; omega⟩) hS (fun a _ h => hoA a h) (fun a h => hoA a h) (fun kk u t H1 locs1 ht hvm hw hB hz1 hk1 hS => ?_)
  have hPx : va_P D vwCl (xw cx qx u.1) H1 := ht ▸ hB.1
  have hPo : va_P D vwCl (hlO co o u.2) H1 := ht ▸ hB.2
  have hPm := va_keep hPm (hDm σm) (fun a h1 h2 => h2.elim (hmx a h1) (fun h3 => hom (h3 ▸ h1))) hk1
  refine lv_istore (lv' := [(5, .int kk), (0, .ref b), (1, .ref (qx 0)), (2, .ref (qm 0)), (3, .ref o), (4, .int x4)]) hx hb dL_law_758 hl (by decide) rfl (fun ls hl => ?_)
  refine lv_aload_n hx hb dL_law_760 rfl (lv_at hl 3 rfl) ?_
  refine lv_aload_n hx hb dL_law_761 rfl (lv_at hl 1 rfl) ?_
  refine lv_iload hx hb dL_law_762 (lv_at hl 5 rfl) ?_
  refine lv_iconst (v := (1 : Int32)) hx hb dL_law_764 (by decide) ?_
  refine lv_iadd hx hb dL_law_765 ?_
  refine va_sld hx hb hXs hbl hbA hS (hin 1 (by decide) (by decide)) dL_law_766 ?_
  refine va_calli (va_runV (As := [.int (xs (x4 + (1 : Int32)).toNatClampNeg)]) (rest := []) ⟨hx, hb, hml, hown, htb⟩ (kcX8_some l D cm qm evm hevm σm (xs (x4 + (1 : Int32)).toNatClampNeg) _ hw) (tb_CW htb kX8_some tb_1559 tb_1560 tb_1561 ⟨Nat.le_of_ble_eq_true rfl, Nat.le_of_ble_eq_true rfl⟩) (ml_pre hevm hKm hPm (hDm σm) hEm (fun a h1 _ => hS.2.1 a h1 (Nat.not_le.mpr h1))) rfl rfl hl.1 rfl (lv_room (Nat.le_of_ble_eq_true rfl)) dL_law_767 ⟨by show (_ : Nat) + 0 ≤ 601024; omega, by show (_ : Nat) + 0 ≤ 7293034; omega⟩) hS (fun a _ h => hmA a h) (fun a h => hmA a h) (fun bb σm1 t H1 locs1 ht hvm hw hB hz1 hk1 hS => ?_)
  have hPm : va_P D vwCl (mw cm qm σm1) H1 := ht ▸ hB
  have hPx := va_keep hPx (hDx u.1) (fun a h1 h2 => hmx a h2 h1) hk1
  have hPo := va_keep hPo hlO_D (fun a h hm9 => hom (h ▸ hm9)) hk1
  refine lv_istore (lv' := [(6, .int bb), (5, .int kk), (0, .ref b), (1, .ref (qx 0)), (2, .ref (qm 0)), (3, .ref o), (4, .int x4)]) hx hb dL_law_770 hl (by decide) rfl (fun ls hl => ?_)
  refine lv_aload_n hx hb dL_law_772 rfl (lv_at hl 4 rfl) ?_
  refine va_calli (va_runV (As := []) (rest := []) ⟨hx, hb, hml, hown, htb⟩ (kcX8_thrown l D cm qm evm hevm σm1  _ hw) (tb_CW htb kX8_thrown tb_1354 tb_1355 tb_1356 ⟨Nat.le_of_ble_eq_true rfl, Nat.le_of_ble_eq_true rfl⟩) (ml_pre hevm hKm hPm (hDm σm1) hEm (fun a h1 _ => hS.2.1 a h1 (Nat.not_le.mpr h1))) rfl rfl hl.1 rfl (lv_room (Nat.le_of_ble_eq_true rfl)) dL_law_773 ⟨by show (_ : Nat) + 0 ≤ 601024; omega, by show (_ : Nat) + 0 ≤ 7293034; omega⟩) hS (fun a _ h => hmA a h) (fun a h => hmA a h) (fun th σm2 t H1 locs1 ht hvm hw hB hz1 hk1 hS => ?_)
  have hPm : va_P D vwCl (mw cm qm σm2) H1 := ht ▸ hB
  have hPx := va_keep hPx (hDx u.1) (fun a h1 h2 => hmx a h2 h1) hk1
  have hPo := va_keep hPo hlO_D (fun a h hm9 => hom (h ▸ hm9)) hk1
  refine lv_iload hx hb dL_law_776 (lv_at hl 1 rfl) ?_
  refine lv_icmp_eq (tgt := 783) hx hb dL_law_778 (by decide) (fun _ => ?_) (fun h9 => absurd hw.1 h9)
  refine lv_iload hx hb dL_law_783 (lv_at hl 1 rfl) ?_
  refine lv_if_ne (tgt := 800) hx hb dL_law_785 (by decide) (fun c1 => ?_) (fun c1 => ?_)
  · refine lv_goto (tgt := 1813) hx hb dL_law_800 (by decide) ?_
    refine W.widen (k := k + 16) (n := n6 + 96) (by omega) (by omega) ?_
    exact hnext u.1 σm2 u.2 _ _ _ hw.2.2 hPx hPm hPo hS (lv_sub hl [2, 3, 4, 5, 6] rfl)
  · refine lv_aload_n hx hb dL_law_788 rfl (lv_at hl 5 rfl) ?_
    refine lv_iconst (v := (0 : Int32)) hx hb dL_law_789 (by decide) ?_
    refine va_lald hx hb hKo hPo 0 0 rfl rfl (by unfold vp_in; decide) dL_law_790 ?_
    refine lv_iload hx hb dL_law_791 (lv_at hl 0 rfl) ?_
    refine lv_i2l hx hb dL_law_793 rfl ?_
    refine W.lcmp hx hb dL_law_794 ?_
    refine lv_if_eq (tgt := 800) hx hb dL_law_795 (by decide) (fun _ => ?_) (fun h9 => absurd (lcmp_eq.mpr (hw.2.1 c1)) h9)
    refine lv_goto (tgt := 1813) hx hb dL_law_800 (by decide) ?_
    refine W.widen (k := k + 16) (n := n6 + 96) (by omega) (by omega) ?_
    exact hnext u.1 σm2 u.2 _ _ _ hw.2.2 hPx hPm hPo hS (lv_sub hl [2, 3, 4, 5, 6] rfl)
set_option maxHeartbeats 8000000 in
set_option maxRecDepth 100000 in
theorem lc_12 {p : Program} {e : Env} {s : State} {m : MethodId} {below : List Frame} {meth : Method} {c₀ : Code} {l : Launch} {b L : Nat} {xs : Nat → Int32} {D : va_G} {cx cm : Nat → ClassId} {qx qm : Nat → Nat} {co : ClassId} {o tF : Nat} {evx evm : State → Heap → Prop} {adK adV : Nat → Nat} (C0 : lw_At p s m meth c₀ b L xs) (hst : l.stackTraces = false) (hs : lwS s D cx qx cm qm co o evx evm tF adK adV) (R Rn : hsS → hsS → Prop) (O : ∀  (σx σm : hsS), R σx σm → lo_12  Rn σx σm) (x4 : Int32) (hin : ∀ j : Nat, 0 < j → j < 6 → vp_in (x4 + nI j) L) (σx σm : hsS) (f : Nat → Int64) (k n6 : Nat) (hk : k + 16 ≤ 600000 ∧ n6 + 96 ≤ 7000000) (H : Heap) (locs : List Loc) (ls : Array Slot) (hR : R σx σm) (hPx : va_P D vwCl (xw cx qx σx) H) (hPm : va_P D vwCl (mw cm qm σm) H) (hPo : va_P D vwCl (hlO co o f) H) (hS : va_S (fun q : Nat => s.heap.size ≤ q) s.heap H locs) (hl : lv_has ls 7 [(0, .ref b), (1, .ref (qx 0)), (2, .ref (qm 0)), (3, .ref o), (4, .int x4)]) (hnext : ∀ (σx σm : hsS) (f : Nat → Int64) (H : Heap) (locs : List Loc) (ls : Array Slot), Rn σx σm → va_P D vwCl (xw cx qx σx) H → va_P D vwCl (mw cm qm σm) H → va_P D vwCl (hlO co o f) H → va_S (fun q : Nat => s.heap.size ≤ q) s.heap H locs → lv_has ls 7 [(0, .ref b), (1, .ref (qx 0)), (2, .ref (qm 0)), (3, .ref o), (4, .int x4)] → W p l e room_1 s m #[Value.ref b] below meth c₀ H locs (k + 16) (n6 + 96) (lw_Z below #[Value.ref b] s) (F0 m 1813 ls [])) : W p l e room_1 s m #[Value.ref b] below meth c₀ H locs k n6 (lw_Z below #[Value.ref b] s) (F0 m 803 ls []) := by
  obtain ⟨hx, hb, hr, hml, hown, hts, hXs, hbl, hlocks, hgv⟩ := C0
  obtain ⟨⟨hKx, hKm, hKo⟩, ⟨hDx, hDm⟩, ⟨hox, hmx, hom⟩, ⟨hxA, hmA, hoS⟩, ⟨hevx, hEx, hevm, hEm⟩, hXx, hF, hZx, hZm⟩ := hs
  have hbA : ¬ (fun q : Nat => s.heap.size ≤ q) b := Nat.not_le.mpr hbl
  have hoA : ∀ a, hlA qx o a → s.heap.size ≤ a := fun a h => h.elim (hxA a) (fun h => by rw [h]; exact hoS)
  have htb : ∀ w ∈ tb_L, w.before #[Value.ref b] s = true := fun w h => hts w (tb_in h)
  have hw := O  σx σm hR
  unfold lo_12 at hw
  refine lv_aload_n hx hb dL_law_803 rfl (lv_at hl 1 rfl) ?_
  refine va_calli (va_runV (As := []) (rest := []) ⟨hx, hb, hml, hown, htb⟩ (kcX7_plain l D cx qx evx hevx σx  _ hw) (tb_CW htb kX7_plain tb_453 tb_454 tb_455 ⟨Nat.le_of_ble_eq_true rfl, Nat.le_of_ble_eq_true rfl⟩) (hl_pre hevx hKx hPx (hDx σx) hEx (fun a h1 _ => hS.2.1 a h1 (Nat.not_le.mpr h1))) rfl rfl hl.1 rfl (lv_room (Nat.le_of_ble_eq_true rfl)) dL_law_804 ⟨by show (_ : Nat) + 0 ≤ 601024; omega, by show (_ : Nat) + 0 ≤ 7293034; omega⟩) hS (fun a _ h => hxA a h) (fun a h => hxA a h) (fun r σx1 t H1 locs1 ht hvm hw hB hz1 hk1 hS => ?_)
  have hPx : va_P D vwCl (xw cx qx σx1) H1 := ht ▸ hB
  have hPm := va_keep hPm (hDm σm) hmx hk1
  have hPo := va_keep hPo hlO_D (fun a h hx9 => hox (h ▸ hx9)) hk1
  refine lv_aload_n hx hb dL_law_807 rfl (lv_at hl 2 rfl) ?_
  refine va_calli (va_runV (As := []) (rest := [.int r]) ⟨hx, hb, hml, hown, htb⟩ (kcX8_plain l D cm qm evm hevm σm  _ hw) (tb_CW htb kX8_plain tb_1567 tb_1568 tb_1569 ⟨Nat.le_of_ble_eq_true rfl, Nat.le_of_ble_eq_true rfl⟩) (ml_pre hevm hKm hPm (hDm σm) hEm (fun a h1 _ => hS.2.1 a h1 (Nat.not_le.mpr h1))) rfl rfl hl.1 rfl (lv_room (Nat.le_of_ble_eq_true rfl)) dL_law_808 ⟨by show (_ : Nat) + 0 ≤ 601024; omega, by show (_ : Nat) + 0 ≤ 7293034; omega⟩) hS (fun a _ h => hmA a h) (fun a h => hmA a h) (fun bb σm1 t H1 locs1 ht hvm hw hB hz1 hk1 hS => ?_)
  have hPm : va_P D vwCl (mw cm qm σm1) H1 := ht ▸ hB
  have hPx := va_keep hPx (hDx σx1) (fun a h1 h2 => hmx a h2 h1) hk1
  have hPo := va_keep hPo hlO_D (fun a h hm9 => hom (h ▸ hm9)) hk1
  refine lv_icmp_eq (tgt := 1813) hx hb dL_law_811 (by decide) (fun _ => ?_) (fun h9 => absurd hw.1 h9)
  refine W.widen (k := k + 16) (n := n6 + 96) (by omega) (by omega) ?_
  exact hnext σx1 σm1 f _ _ _ hw.2 hPx hPm hPo hS (lv_sub hl [0, 1, 2, 3, 4] rfl)
set_option maxHeartbeats 8000000 in
set_option maxRecDepth 100000 in
theorem lc_13 {p : Program} {e : Env} {s : State} {m : MethodId} {below : List Frame} {meth : Method} {c₀ : Code} {l : Launch} {b L : Nat} {xs : Nat → Int32} {D : va_G} {cx cm : Nat → ClassId} {qx qm : Nat → Nat} {co : ClassId} {o tF : Nat} {evx evm : State → Heap → Prop} {adK adV : Nat → Nat} (C0 : lw_At p s m meth c₀ b L xs) (hst : l.stackTraces = false) (hs : lwS s D cx qx cm qm co o evx evm tF adK adV) (R Rn : hsS → hsS → Prop) (O : ∀ (f : Nat → Int64) (a1 : Int32) (σx σm : hsS), R σx σm → lo_13 f a1 Rn σx σm) (x4 : Int32) (hin : ∀ j : Nat, 0 < j → j < 6 → vp_in (x4 + nI j) L) (σx σm : hsS) (f : Nat → Int64) (k n6 : Nat) (hk : k + 16 ≤ 600000 ∧ n6 + 96 ≤ 7000000) (H : Heap) (locs : List Loc) (ls : Array Slot) (hR : R σx σm) (hPx : va_P D vwCl (xw cx qx σx) H) (hPm : va_P D vwCl (mw cm qm σm) H) (hPo : va_P D vwCl (hlO co o f) H) (hS : va_S (fun q : Nat => s.heap.size ≤ q) s.heap H locs) (hl : lv_has ls 7 [(0, .ref b), (1, .ref (qx 0)), (2, .ref (qm 0)), (3, .ref o), (4, .int x4)]) (hnext : ∀ (σx σm : hsS) (f : Nat → Int64) (H : Heap) (locs : List Loc) (ls : Array Slot), Rn σx σm → va_P D vwCl (xw cx qx σx) H → va_P D vwCl (mw cm qm σm) H → va_P D vwCl (hlO co o f) H → va_S (fun q : Nat => s.heap.size ≤ q) s.heap H locs → lv_has ls 7 [(0, .ref b), (1, .ref (qx 0)), (2, .ref (qm 0)), (3, .ref o), (4, .int x4)] → W p l e room_1 s m #[Value.ref b] below meth c₀ H locs (k + 16) (n6 + 96) (lw_Z below #[Value.ref b] s) (F0 m 1813 ls [])) : W p l e room_1 s m #[Value.ref b] below meth c₀ H locs k n6 (lw_Z below #[Value.ref b] s) (F0 m 816 ls []) := by
  obtain ⟨hx, hb, hr, hml, hown, hts, hXs, hbl, hlocks, hgv⟩ := C0
  obtain ⟨⟨hKx, hKm, hKo⟩, ⟨hDx, hDm⟩, ⟨hox, hmx, hom⟩, ⟨hxA, hmA, hoS⟩, ⟨hevx, hEx, hevm, hEm⟩, hXx, hF, hZx, hZm⟩ := hs
  have hbA : ¬ (fun q : Nat => s.heap.size ≤ q) b := Nat.not_le.mpr hbl
  have hoA : ∀ a, hlA qx o a → s.heap.size ≤ a := fun a h => h.elim (hxA a) (fun h => by rw [h]; exact hoS)
  have htb : ∀ w ∈ tb_L, w.before #[Value.ref b] s = true := fun w h => hts w (tb_in h)
  have hw := O f (xs (x4 + (1 : Int32)).toNatClampNeg) σx σm hR
  unfold lo_13 at hw
  refine lv_aload_n hx hb dL_law_816 rfl (lv_at hl 1 rfl) ?_
  refine lv_aload_n hx hb dL_law_817 rfl (lv_at hl 0 rfl) ?_
  refine lv_iload hx hb dL_law_818 (lv_at hl 4 rfl) ?_
  refine lv_iconst (v := (1 : Int32)) hx hb dL_law_820 (by decide) ?_
  refine lv_iadd hx hb dL_law_821 ?_
  refine va_sld hx hb hXs hbl hbA hS (hin 1 (by decide) (by decide)) dL_law_822 ?_
  refine lv_aload_n hx hb dL_law_823 rfl (lv_at hl 3 rfl) ?_
  refine va_calli (vx_runSW (As := [.ref (qx 0), .int (xs (x4 + (1 : Int32)).toNatClampNeg), .ref o]) (rest := []) ⟨hx, hb, hml, hown, htb⟩ (khL_rows l D cx qx evx hevx tF hF hst hXx co o σx f (xs (x4 + (1 : Int32)).toNatClampNeg) (fun (kk : Int32) (u : hsS × (Nat → Int64)) => wX8_rows (xs (x4 + (1 : Int32)).toNatClampNeg) (fun bb σm1 => wX8_thrown (fun th σm2 => th = kk ∧ (kk = (0 : Int32) → (u.2 0) = (bb.toInt64)) ∧ Rn u.1 σm2) σm1) σm) hw) (tb_CSW htb kw_rows tb_974 tb_975 ⟨Nat.le_of_ble_eq_true rfl, Nat.le_of_ble_eq_true rfl⟩) (hl_preS hevx hKx hKo hPx hPo (hDx σx) hox hEx (fun a h1 _ => hS.2.1 a h1 (Nat.not_le.mpr h1))) rfl rfl hl.1 rfl (lv_room (Nat.le_of_ble_eq_true rfl)) dL_law_824 ⟨by show k + 1 ≤ 601024; omega, by show n6 + 6 ≤ 7293034; omega⟩) hS (fun a _ h => hoA a h) (fun a h => hoA a h) (fun kk u t H1 locs1 ht hvm hw hB hz1 hk1 hS => ?_)
  have hPx : va_P D vwCl (xw cx qx u.1) H1 := ht ▸ hB.1
  have hPo : va_P D vwCl (hlO co o u.2) H1 := ht ▸ hB.2
  have hPm := va_keep hPm (hDm σm) (fun a h1 h2 => h2.elim (hmx a h1) (fun h3 => hom (h3 ▸ h1))) hk1
  refine lv_istore (lv' := [(5, .int kk), (0, .ref b), (1, .ref (qx 0)), (2, .ref (qm 0)), (3, .ref o), (4, .int x4)]) hx hb dL_law_827 hl (by decide) rfl (fun ls hl => ?_)
  refine lv_aload_n hx hb dL_law_829 rfl (lv_at hl 3 rfl) ?_
  refine lv_aload_n hx hb dL_law_830 rfl (lv_at hl 1 rfl) ?_
  refine lv_iload hx hb dL_law_831 (lv_at hl 5 rfl) ?_
  refine lv_iconst (v := (1 : Int32)) hx hb dL_law_833 (by decide) ?_
  refine lv_iadd hx hb dL_law_834 ?_
  refine va_sld hx hb hXs hbl hbA hS (hin 1 (by decide) (by decide)) dL_law_835 ?_
  refine va_calli (va_runV (As := [.int (xs (x4 + (1 : Int32)).toNatClampNeg)]) (rest := []) ⟨hx, hb, hml, hown, htb⟩ (kcX8_rows l D cm qm evm hevm σm (xs (x4 + (1 : Int32)).toNatClampNeg) _ hw) (tb_CW htb kX8_rows tb_1583 tb_1584 tb_1585 ⟨Nat.le_of_ble_eq_true rfl, Nat.le_of_ble_eq_true rfl⟩) (ml_pre hevm hKm hPm (hDm σm) hEm (fun a h1 _ => hS.2.1 a h1 (Nat.not_le.mpr h1))) rfl rfl hl.1 rfl (lv_room (Nat.le_of_ble_eq_true rfl)) dL_law_836 ⟨by show (_ : Nat) + 0 ≤ 601024; omega, by show (_ : Nat) + 0 ≤ 7293034; omega⟩) hS (fun a _ h => hmA a h) (fun a h => hmA a h) (fun bb σm1 t H1 locs1 ht hvm hw hB hz1 hk1 hS => ?_)
  have hPm : va_P D vwCl (mw cm qm σm1) H1 := ht ▸ hB
  have hPx := va_keep hPx (hDx u.1) (fun a h1 h2 => hmx a h2 h1) hk1
  have hPo := va_keep hPo hlO_D (fun a h hm9 => hom (h ▸ hm9)) hk1
  refine lv_istore (lv' := [(6, .int bb), (5, .int kk), (0, .ref b), (1, .ref (qx 0)), (2, .ref (qm 0)), (3, .ref o), (4, .int x4)]) hx hb dL_law_839 hl (by decide) rfl (fun ls hl => ?_)
  refine lv_aload_n hx hb dL_law_841 rfl (lv_at hl 4 rfl) ?_
  refine va_calli (va_runV (As := []) (rest := []) ⟨hx, hb, hml, hown, htb⟩ (kcX8_thrown l D cm qm evm hevm σm1  _ hw) (tb_CW htb kX8_thrown tb_1354 tb_1355 tb_1356 ⟨Nat.le_of_ble_eq_true rfl, Nat.le_of_ble_eq_true rfl⟩) (ml_pre hevm hKm hPm (hDm σm1) hEm (fun a h1 _ => hS.2.1 a h1 (Nat.not_le.mpr h1))) rfl rfl hl.1 rfl (lv_room (Nat.le_of_ble_eq_true rfl)) dL_law_842 ⟨by show (_ : Nat) + 0 ≤ 601024; omega, by show (_ : Nat) + 0 ≤ 7293034; omega⟩) hS (fun a _ h => hmA a h) (fun a h => hmA a h) (fun th σm2 t H1 locs1 ht hvm hw hB hz1 hk1 hS => ?_)
  have hPm : va_P D vwCl (mw cm qm σm2) H1 := ht ▸ hB
  have hPx := va_keep hPx (hDx u.1) (fun a h1 h2 => hmx a h2 h1) hk1
  have hPo := va_keep hPo hlO_D (fun a h hm9 => hom (h ▸ hm9)) hk1
  refine lv_iload hx hb dL_law_845 (lv_at hl 1 rfl) ?_
  refine lv_icmp_eq (tgt := 852) hx hb dL_law_847 (by decide) (fun _ => ?_) (fun h9 => absurd hw.1 h9)
  refine lv_iload hx hb dL_law_852 (lv_at hl 1 rfl) ?_
  refine lv_if_ne (tgt := 869) hx hb dL_law_854 (by decide) (fun c1 => ?_) (fun c1 => ?_)
  · refine lv_goto (tgt := 1813) hx hb dL_law_869 (by decide) ?_
    refine W.widen (k := k + 16) (n := n6 + 96) (by omega) (by omega) ?_
    exact hnext u.1 σm2 u.2 _ _ _ hw.2.2 hPx hPm hPo hS (lv_sub hl [2, 3, 4, 5, 6] rfl)
  · refine lv_aload_n hx hb dL_law_857 rfl (lv_at hl 5 rfl) ?_
    refine lv_iconst (v := (0 : Int32)) hx hb dL_law_858 (by decide) ?_
    refine va_lald hx hb hKo hPo 0 0 rfl rfl (by unfold vp_in; decide) dL_law_859 ?_
    refine lv_iload hx hb dL_law_860 (lv_at hl 0 rfl) ?_
    refine lv_i2l hx hb dL_law_862 rfl ?_
    refine W.lcmp hx hb dL_law_863 ?_
    refine lv_if_eq (tgt := 869) hx hb dL_law_864 (by decide) (fun _ => ?_) (fun h9 => absurd (lcmp_eq.mpr (hw.2.1 c1)) h9)
    refine lv_goto (tgt := 1813) hx hb dL_law_869 (by decide) ?_
    refine W.widen (k := k + 16) (n := n6 + 96) (by omega) (by omega) ?_
    exact hnext u.1 σm2 u.2 _ _ _ hw.2.2 hPx hPm hPo hS (lv_sub hl [2, 3, 4, 5, 6] rfl)
set_option maxHeartbeats 8000000 in
set_option maxRecDepth 100000 in
theorem lc_14 {p : Program} {e : Env} {s : State} {m : MethodId} {below : List Frame} {meth : Method} {c₀ : Code} {l : Launch} {b L : Nat} {xs : Nat → Int32} {D : va_G} {cx cm : Nat → ClassId} {qx qm : Nat → Nat} {co : ClassId} {o tF : Nat} {evx evm : State → Heap → Prop} {adK adV : Nat → Nat} (C0 : lw_At p s m meth c₀ b L xs) (hst : l.stackTraces = false) (hs : lwS s D cx qx cm qm co o evx evm tF adK adV) (R Rn : hsS → hsS → Prop) (O : ∀  (σx σm : hsS), R σx σm → lo_14  Rn σx σm) (x4 : Int32) (hin : ∀ j : Nat, 0 < j → j < 6 → vp_in (x4 + nI j) L) (σx σm : hsS) (f : Nat → Int64) (k n6 : Nat) (hk : k + 16 ≤ 600000 ∧ n6 + 96 ≤ 7000000) (H : Heap) (locs : List Loc) (ls : Array Slot) (hR : R σx σm) (hPx : va_P D vwCl (xw cx qx σx) H) (hPm : va_P D vwCl (mw cm qm σm) H) (hPo : va_P D vwCl (hlO co o f) H) (hS : va_S (fun q : Nat => s.heap.size ≤ q) s.heap H locs) (hl : lv_has ls 7 [(0, .ref b), (1, .ref (qx 0)), (2, .ref (qm 0)), (3, .ref o), (4, .int x4)]) (hnext : ∀ (σx σm : hsS) (f : Nat → Int64) (H : Heap) (locs : List Loc) (ls : Array Slot), Rn σx σm → va_P D vwCl (xw cx qx σx) H → va_P D vwCl (mw cm qm σm) H → va_P D vwCl (hlO co o f) H → va_S (fun q : Nat => s.heap.size ≤ q) s.heap H locs → lv_has ls 7 [(0, .ref b), (1, .ref (qx 0)), (2, .ref (qm 0)), (3, .ref o), (4, .int x4)] → W p l e room_1 s m #[Value.ref b] below meth c₀ H locs (k + 16) (n6 + 96) (lw_Z below #[Value.ref b] s) (F0 m 1813 ls [])) : W p l e room_1 s m #[Value.ref b] below meth c₀ H locs k n6 (lw_Z below #[Value.ref b] s) (F0 m 872 ls []) := by
  obtain ⟨hx, hb, hr, hml, hown, hts, hXs, hbl, hlocks, hgv⟩ := C0
  obtain ⟨⟨hKx, hKm, hKo⟩, ⟨hDx, hDm⟩, ⟨hox, hmx, hom⟩, ⟨hxA, hmA, hoS⟩, ⟨hevx, hEx, hevm, hEm⟩, hXx, hF, hZx, hZm⟩ := hs
  have hbA : ¬ (fun q : Nat => s.heap.size ≤ q) b := Nat.not_le.mpr hbl
  have hoA : ∀ a, hlA qx o a → s.heap.size ≤ a := fun a h => h.elim (hxA a) (fun h => by rw [h]; exact hoS)
  have htb : ∀ w ∈ tb_L, w.before #[Value.ref b] s = true := fun w h => hts w (tb_in h)
  have hw := O  σx σm hR
  unfold lo_14 at hw
  refine lv_aload_n hx hb dL_law_872 rfl (lv_at hl 1 rfl) ?_
  refine va_calli (va_runV (As := []) (rest := []) ⟨hx, hb, hml, hown, htb⟩ (kcX7_deep l D cx qx evx hevx σx  _ hw) (tb_CW htb kX7_deep tb_470 tb_471 tb_472 ⟨Nat.le_of_ble_eq_true rfl, Nat.le_of_ble_eq_true rfl⟩) (hl_pre hevx hKx hPx (hDx σx) hEx (fun a h1 _ => hS.2.1 a h1 (Nat.not_le.mpr h1))) rfl rfl hl.1 rfl (lv_room (Nat.le_of_ble_eq_true rfl)) dL_law_873 ⟨by show (_ : Nat) + 0 ≤ 601024; omega, by show (_ : Nat) + 0 ≤ 7293034; omega⟩) hS (fun a _ h => hxA a h) (fun a h => hxA a h) (fun r σx1 t H1 locs1 ht hvm hw hB hz1 hk1 hS => ?_)
  have hPx : va_P D vwCl (xw cx qx σx1) H1 := ht ▸ hB
  have hPm := va_keep hPm (hDm σm) hmx hk1
  have hPo := va_keep hPo hlO_D (fun a h hx9 => hox (h ▸ hx9)) hk1
  refine lv_aload_n hx hb dL_law_876 rfl (lv_at hl 2 rfl) ?_
  refine va_calli (va_runV (As := []) (rest := [.int r]) ⟨hx, hb, hml, hown, htb⟩ (kcX8_deep l D cm qm evm hevm σm  _ hw) (tb_CW htb kX8_deep tb_1591 tb_1592 tb_1593 ⟨Nat.le_of_ble_eq_true rfl, Nat.le_of_ble_eq_true rfl⟩) (ml_pre hevm hKm hPm (hDm σm) hEm (fun a h1 _ => hS.2.1 a h1 (Nat.not_le.mpr h1))) rfl rfl hl.1 rfl (lv_room (Nat.le_of_ble_eq_true rfl)) dL_law_877 ⟨by show (_ : Nat) + 0 ≤ 601024; omega, by show (_ : Nat) + 0 ≤ 7293034; omega⟩) hS (fun a _ h => hmA a h) (fun a h => hmA a h) (fun bb σm1 t H1 locs1 ht hvm hw hB hz1 hk1 hS => ?_)
  have hPm : va_P D vwCl (mw cm qm σm1) H1 := ht ▸ hB
  have hPx := va_keep hPx (hDx σx1) (fun a h1 h2 => hmx a h2 h1) hk1
  have hPo := va_keep hPo hlO_D (fun a h hm9 => hom (h ▸ hm9)) hk1
  refine lv_icmp_eq (tgt := 1813) hx hb dL_law_880 (by decide) (fun _ => ?_) (fun h9 => absurd hw.1 h9)
  refine W.widen (k := k + 16) (n := n6 + 96) (by omega) (by omega) ?_
  exact hnext σx1 σm1 f _ _ _ hw.2 hPx hPm hPo hS (lv_sub hl [0, 1, 2, 3, 4] rfl)
set_option maxHeartbeats 8000000 in
set_option maxRecDepth 100000 in
theorem lc_15 {p : Program} {e : Env} {s : State} {m : MethodId} {below : List Frame} {meth : Method} {c₀ : Code} {l : Launch} {b L : Nat} {xs : Nat → Int32} {D : va_G} {cx cm : Nat → ClassId} {qx qm : Nat → Nat} {co : ClassId} {o tF : Nat} {evx evm : State → Heap → Prop} {adK adV : Nat → Nat} (C0 : lw_At p s m meth c₀ b L xs) (hst : l.stackTraces = false) (hs : lwS s D cx qx cm qm co o evx evm tF adK adV) (R Rn : hsS → hsS → Prop) (O : ∀  (σx σm : hsS), R σx σm → lo_15  Rn σx σm) (x4 : Int32) (hin : ∀ j : Nat, 0 < j → j < 6 → vp_in (x4 + nI j) L) (σx σm : hsS) (f : Nat → Int64) (k n6 : Nat) (hk : k + 16 ≤ 600000 ∧ n6 + 96 ≤ 7000000) (H : Heap) (locs : List Loc) (ls : Array Slot) (hR : R σx σm) (hPx : va_P D vwCl (xw cx qx σx) H) (hPm : va_P D vwCl (mw cm qm σm) H) (hPo : va_P D vwCl (hlO co o f) H) (hS : va_S (fun q : Nat => s.heap.size ≤ q) s.heap H locs) (hl : lv_has ls 7 [(0, .ref b), (1, .ref (qx 0)), (2, .ref (qm 0)), (3, .ref o), (4, .int x4)]) (hnext : ∀ (σx σm : hsS) (f : Nat → Int64) (H : Heap) (locs : List Loc) (ls : Array Slot), Rn σx σm → va_P D vwCl (xw cx qx σx) H → va_P D vwCl (mw cm qm σm) H → va_P D vwCl (hlO co o f) H → va_S (fun q : Nat => s.heap.size ≤ q) s.heap H locs → lv_has ls 7 [(0, .ref b), (1, .ref (qx 0)), (2, .ref (qm 0)), (3, .ref o), (4, .int x4)] → W p l e room_1 s m #[Value.ref b] below meth c₀ H locs (k + 16) (n6 + 96) (lw_Z below #[Value.ref b] s) (F0 m 1813 ls [])) : W p l e room_1 s m #[Value.ref b] below meth c₀ H locs k n6 (lw_Z below #[Value.ref b] s) (F0 m 885 ls []) := by
  obtain ⟨hx, hb, hr, hml, hown, hts, hXs, hbl, hlocks, hgv⟩ := C0
  obtain ⟨⟨hKx, hKm, hKo⟩, ⟨hDx, hDm⟩, ⟨hox, hmx, hom⟩, ⟨hxA, hmA, hoS⟩, ⟨hevx, hEx, hevm, hEm⟩, hXx, hF, hZx, hZm⟩ := hs
  have hbA : ¬ (fun q : Nat => s.heap.size ≤ q) b := Nat.not_le.mpr hbl
  have hoA : ∀ a, hlA qx o a → s.heap.size ≤ a := fun a h => h.elim (hxA a) (fun h => by rw [h]; exact hoS)
  have htb : ∀ w ∈ tb_L, w.before #[Value.ref b] s = true := fun w h => hts w (tb_in h)
  have hw := O  σx σm hR
  unfold lo_15 at hw
  refine lv_aload_n hx hb dL_law_885 rfl (lv_at hl 1 rfl) ?_
  refine va_calli (va_runV (As := []) (rest := []) ⟨hx, hb, hml, hown, htb⟩ (kcX7_first l D cx qx evx hevx σx  _ hw) (tb_CW htb kX7_first tb_501 tb_502 tb_503 ⟨Nat.le_of_ble_eq_true rfl, Nat.le_of_ble_eq_true rfl⟩) (hl_pre hevx hKx hPx (hDx σx) hEx (fun a h1 _ => hS.2.1 a h1 (Nat.not_le.mpr h1))) rfl rfl hl.1 rfl (lv_room (Nat.le_of_ble_eq_true rfl)) dL_law_886 ⟨by show (_ : Nat) + 0 ≤ 601024; omega, by show (_ : Nat) + 0 ≤ 7293034; omega⟩) hS (fun a _ h => hxA a h) (fun a h => hxA a h) (fun r σx1 t H1 locs1 ht hvm hw hB hz1 hk1 hS => ?_)
  have hPx : va_P D vwCl (xw cx qx σx1) H1 := ht ▸ hB
  have hPm := va_keep hPm (hDm σm) hmx hk1
  have hPo := va_keep hPo hlO_D (fun a h hx9 => hox (h ▸ hx9)) hk1
  refine lv_aload_n hx hb dL_law_889 rfl (lv_at hl 2 rfl) ?_
  refine va_calli (va_runV (As := []) (rest := [.int r]) ⟨hx, hb, hml, hown, htb⟩ (kcX8_first l D cm qm evm hevm σm  _ hw) (tb_CW htb kX8_first tb_1608 tb_1609 tb_1610 ⟨Nat.le_of_ble_eq_true rfl, Nat.le_of_ble_eq_true rfl⟩) (ml_pre hevm hKm hPm (hDm σm) hEm (fun a h1 _ => hS.2.1 a h1 (Nat.not_le.mpr h1))) rfl rfl hl.1 rfl (lv_room (Nat.le_of_ble_eq_true rfl)) dL_law_890 ⟨by show (_ : Nat) + 0 ≤ 601024; omega, by show (_ : Nat) + 0 ≤ 7293034; omega⟩) hS (fun a _ h => hmA a h) (fun a h => hmA a h) (fun bb σm1 t H1 locs1 ht hvm hw hB hz1 hk1 hS => ?_)
  have hPm : va_P D vwCl (mw cm qm σm1) H1 := ht ▸ hB
  have hPx := va_keep hPx (hDx σx1) (fun a h1 h2 => hmx a h2 h1) hk1
  have hPo := va_keep hPo hlO_D (fun a h hm9 => hom (h ▸ hm9)) hk1
  refine lv_icmp_eq (tgt := 1813) hx hb dL_law_893 (by decide) (fun _ => ?_) (fun h9 => absurd hw.1 h9)
  refine W.widen (k := k + 16) (n := n6 + 96) (by omega) (by omega) ?_
  exact hnext σx1 σm1 f _ _ _ hw.2 hPx hPm hPo hS (lv_sub hl [0, 1, 2, 3, 4] rfl)
set_option maxHeartbeats 8000000 in
set_option maxRecDepth 100000 in
theorem lc_16 {p : Program} {e : Env} {s : State} {m : MethodId} {below : List Frame} {meth : Method} {c₀ : Code} {l : Launch} {b L : Nat} {xs : Nat → Int32} {D : va_G} {cx cm : Nat → ClassId} {qx qm : Nat → Nat} {co : ClassId} {o tF : Nat} {evx evm : State → Heap → Prop} {adK adV : Nat → Nat} (C0 : lw_At p s m meth c₀ b L xs) (hst : l.stackTraces = false) (hs : lwS s D cx qx cm qm co o evx evm tF adK adV) (R Rn : hsS → hsS → Prop) (O : ∀  (σx σm : hsS), R σx σm → lo_16  Rn σx σm) (x4 : Int32) (hin : ∀ j : Nat, 0 < j → j < 6 → vp_in (x4 + nI j) L) (σx σm : hsS) (f : Nat → Int64) (k n6 : Nat) (hk : k + 16 ≤ 600000 ∧ n6 + 96 ≤ 7000000) (H : Heap) (locs : List Loc) (ls : Array Slot) (hR : R σx σm) (hPx : va_P D vwCl (xw cx qx σx) H) (hPm : va_P D vwCl (mw cm qm σm) H) (hPo : va_P D vwCl (hlO co o f) H) (hS : va_S (fun q : Nat => s.heap.size ≤ q) s.heap H locs) (hl : lv_has ls 7 [(0, .ref b), (1, .ref (qx 0)), (2, .ref (qm 0)), (3, .ref o), (4, .int x4)]) (hnext : ∀ (σx σm : hsS) (f : Nat → Int64) (H : Heap) (locs : List Loc) (ls : Array Slot), Rn σx σm → va_P D vwCl (xw cx qx σx) H → va_P D vwCl (mw cm qm σm) H → va_P D vwCl (hlO co o f) H → va_S (fun q : Nat => s.heap.size ≤ q) s.heap H locs → lv_has ls 7 [(0, .ref b), (1, .ref (qx 0)), (2, .ref (qm 0)), (3, .ref o), (4, .int x4)] → W p l e room_1 s m #[Value.ref b] below meth c₀ H locs (k + 16) (n6 + 96) (lw_Z below #[Value.ref b] s) (F0 m 1813 ls [])) : W p l e room_1 s m #[Value.ref b] below meth c₀ H locs k n6 (lw_Z below #[Value.ref b] s) (F0 m 898 ls []) := by
  obtain ⟨hx, hb, hr, hml, hown, hts, hXs, hbl, hlocks, hgv⟩ := C0
  obtain ⟨⟨hKx, hKm, hKo⟩, ⟨hDx, hDm⟩, ⟨hox, hmx, hom⟩, ⟨hxA, hmA, hoS⟩, ⟨hevx, hEx, hevm, hEm⟩, hXx, hF, hZx, hZm⟩ := hs
  have hbA : ¬ (fun q : Nat => s.heap.size ≤ q) b := Nat.not_le.mpr hbl
  have hoA : ∀ a, hlA qx o a → s.heap.size ≤ a := fun a h => h.elim (hxA a) (fun h => by rw [h]; exact hoS)
  have htb : ∀ w ∈ tb_L, w.before #[Value.ref b] s = true := fun w h => hts w (tb_in h)
  have hw := O  σx σm hR
  unfold lo_16 at hw
  refine lv_aload_n hx hb dL_law_898 rfl (lv_at hl 1 rfl) ?_
  refine va_calli (va_runV (As := []) (rest := []) ⟨hx, hb, hml, hown, htb⟩ (kcX7_back l D cx qx evx hevx σx  _ hw) (tb_CW htb kX7_back tb_509 tb_510 tb_511 ⟨Nat.le_of_ble_eq_true rfl, Nat.le_of_ble_eq_true rfl⟩) (hl_pre hevx hKx hPx (hDx σx) hEx (fun a h1 _ => hS.2.1 a h1 (Nat.not_le.mpr h1))) rfl rfl hl.1 rfl (lv_room (Nat.le_of_ble_eq_true rfl)) dL_law_899 ⟨by show (_ : Nat) + 0 ≤ 601024; omega, by show (_ : Nat) + 0 ≤ 7293034; omega⟩) hS (fun a _ h => hxA a h) (fun a h => hxA a h) (fun r σx1 t H1 locs1 ht hvm hw hB hz1 hk1 hS => ?_)
  have hPx : va_P D vwCl (xw cx qx σx1) H1 := ht ▸ hB
  have hPm := va_keep hPm (hDm σm) hmx hk1
  have hPo := va_keep hPo hlO_D (fun a h hx9 => hox (h ▸ hx9)) hk1
  refine lv_aload_n hx hb dL_law_902 rfl (lv_at hl 2 rfl) ?_
  refine va_calli (va_runV (As := []) (rest := [.int r]) ⟨hx, hb, hml, hown, htb⟩ (kcX8_back l D cm qm evm hevm σm  _ hw) (tb_CW htb kX8_back tb_1579 tb_1580 tb_1581 ⟨Nat.le_of_ble_eq_true rfl, Nat.le_of_ble_eq_true rfl⟩) (ml_pre hevm hKm hPm (hDm σm) hEm (fun a h1 _ => hS.2.1 a h1 (Nat.not_le.mpr h1))) rfl rfl hl.1 rfl (lv_room (Nat.le_of_ble_eq_true rfl)) dL_law_903 ⟨by show (_ : Nat) + 0 ≤ 601024; omega, by show (_ : Nat) + 0 ≤ 7293034; omega⟩) hS (fun a _ h => hmA a h) (fun a h => hmA a h) (fun bb σm1 t H1 locs1 ht hvm hw hB hz1 hk1 hS => ?_)
  have hPm : va_P D vwCl (mw cm qm σm1) H1 := ht ▸ hB
  have hPx := va_keep hPx (hDx σx1) (fun a h1 h2 => hmx a h2 h1) hk1
  have hPo := va_keep hPo hlO_D (fun a h hm9 => hom (h ▸ hm9)) hk1
  refine lv_icmp_eq (tgt := 1813) hx hb dL_law_906 (by decide) (fun _ => ?_) (fun h9 => absurd hw.1 h9)
  refine W.widen (k := k + 16) (n := n6 + 96) (by omega) (by omega) ?_
  exact hnext σx1 σm1 f _ _ _ hw.2 hPx hPm hPo hS (lv_sub hl [0, 1, 2, 3, 4] rfl)
set_option maxHeartbeats 8000000 in
set_option maxRecDepth 100000 in
theorem lc_17 {p : Program} {e : Env} {s : State} {m : MethodId} {below : List Frame} {meth : Method} {c₀ : Code} {l : Launch} {b L : Nat} {xs : Nat → Int32} {D : va_G} {cx cm : Nat → ClassId} {qx qm : Nat → Nat} {co : ClassId} {o tF : Nat} {evx evm : State → Heap → Prop} {adK adV : Nat → Nat} (C0 : lw_At p s m meth c₀ b L xs) (hst : l.stackTraces = false) (hs : lwS s D cx qx cm qm co o evx evm tF adK adV) (R Rn : hsS → hsS → Prop) (O : ∀ (f : Nat → Int64) (a1 : Int32) (σx σm : hsS), R σx σm → lo_17 f a1 Rn σx σm) (x4 : Int32) (hin : ∀ j : Nat, 0 < j → j < 6 → vp_in (x4 + nI j) L) (σx σm : hsS) (f : Nat → Int64) (k n6 : Nat) (hk : k + 16 ≤ 600000 ∧ n6 + 96 ≤ 7000000) (H : Heap) (locs : List Loc) (ls : Array Slot) (hR : R σx σm) (hPx : va_P D vwCl (xw cx qx σx) H) (hPm : va_P D vwCl (mw cm qm σm) H) (hPo : va_P D vwCl (hlO co o f) H) (hS : va_S (fun q : Nat => s.heap.size ≤ q) s.heap H locs) (hl : lv_has ls 7 [(0, .ref b), (1, .ref (qx 0)), (2, .ref (qm 0)), (3, .ref o), (4, .int x4)]) (hnext : ∀ (σx σm : hsS) (f : Nat → Int64) (H : Heap) (locs : List Loc) (ls : Array Slot), Rn σx σm → va_P D vwCl (xw cx qx σx) H → va_P D vwCl (mw cm qm σm) H → va_P D vwCl (hlO co o f) H → va_S (fun q : Nat => s.heap.size ≤ q) s.heap H locs → lv_has ls 7 [(0, .ref b), (1, .ref (qx 0)), (2, .ref (qm 0)), (3, .ref o), (4, .int x4)] → W p l e room_1 s m #[Value.ref b] below meth c₀ H locs (k + 16) (n6 + 96) (lw_Z below #[Value.ref b] s) (F0 m 1813 ls [])) : W p l e room_1 s m #[Value.ref b] below meth c₀ H locs k n6 (lw_Z below #[Value.ref b] s) (F0 m 911 ls []) := by
  obtain ⟨hx, hb, hr, hml, hown, hts, hXs, hbl, hlocks, hgv⟩ := C0
  obtain ⟨⟨hKx, hKm, hKo⟩, ⟨hDx, hDm⟩, ⟨hox, hmx, hom⟩, ⟨hxA, hmA, hoS⟩, ⟨hevx, hEx, hevm, hEm⟩, hXx, hF, hZx, hZm⟩ := hs
  have hbA : ¬ (fun q : Nat => s.heap.size ≤ q) b := Nat.not_le.mpr hbl
  have hoA : ∀ a, hlA qx o a → s.heap.size ≤ a := fun a h => h.elim (hxA a) (fun h => by rw [h]; exact hoS)
  have htb : ∀ w ∈ tb_L, w.before #[Value.ref b] s = true := fun w h => hts w (tb_in h)
  have hw := O f (xs (x4 + (1 : Int32)).toNatClampNeg) σx σm hR
  unfold lo_17 at hw
  refine lv_aload_n hx hb dL_law_911 rfl (lv_at hl 1 rfl) ?_
  refine lv_aload_n hx hb dL_law_912 rfl (lv_at hl 0 rfl) ?_
  refine lv_iload hx hb dL_law_913 (lv_at hl 4 rfl) ?_
  refine lv_iconst (v := (1 : Int32)) hx hb dL_law_915 (by decide) ?_
  refine lv_iadd hx hb dL_law_916 ?_
  refine va_sld hx hb hXs hbl hbA hS (hin 1 (by decide) (by decide)) dL_law_917 ?_
  refine lv_aload_n hx hb dL_law_918 rfl (lv_at hl 3 rfl) ?_
  refine va_calli (vx_runSW (As := [.ref (qx 0), .int (xs (x4 + (1 : Int32)).toNatClampNeg), .ref o]) (rest := []) ⟨hx, hb, hml, hown, htb⟩ (khL_lie l D cx qx evx hevx tF hF hst hXx co o σx f (xs (x4 + (1 : Int32)).toNatClampNeg) (fun (kk : Int32) (u : hsS × (Nat → Int64)) => wX8_lie (xs (x4 + (1 : Int32)).toNatClampNeg) (fun bb σm1 => wX8_thrown (fun th σm2 => th = kk ∧ (kk = (0 : Int32) → (u.2 0) = (bb.toInt64)) ∧ Rn u.1 σm2) σm1) σm) hw) (tb_CSW htb kw_lie tb_1016 tb_1017 ⟨Nat.le_of_ble_eq_true rfl, Nat.le_of_ble_eq_true rfl⟩) (hl_preS hevx hKx hKo hPx hPo (hDx σx) hox hEx (fun a h1 _ => hS.2.1 a h1 (Nat.not_le.mpr h1))) rfl rfl hl.1 rfl (lv_room (Nat.le_of_ble_eq_true rfl)) dL_law_919 ⟨by show k + 1 ≤ 601024; omega, by show n6 + 6 ≤ 7293034; omega⟩) hS (fun a _ h => hoA a h) (fun a h => hoA a h) (fun kk u t H1 locs1 ht hvm hw hB hz1 hk1 hS => ?_)
  have hPx : va_P D vwCl (xw cx qx u.1) H1 := ht ▸ hB.1
  have hPo : va_P D vwCl (hlO co o u.2) H1 := ht ▸ hB.2
  have hPm := va_keep hPm (hDm σm) (fun a h1 h2 => h2.elim (hmx a h1) (fun h3 => hom (h3 ▸ h1))) hk1
  refine lv_istore (lv' := [(5, .int kk), (0, .ref b), (1, .ref (qx 0)), (2, .ref (qm 0)), (3, .ref o), (4, .int x4)]) hx hb dL_law_922 hl (by decide) rfl (fun ls hl => ?_)
  refine lv_aload_n hx hb dL_law_924 rfl (lv_at hl 3 rfl) ?_
  refine lv_aload_n hx hb dL_law_925 rfl (lv_at hl 1 rfl) ?_
  refine lv_iload hx hb dL_law_926 (lv_at hl 5 rfl) ?_
  refine lv_iconst (v := (1 : Int32)) hx hb dL_law_928 (by decide) ?_
  refine lv_iadd hx hb dL_law_929 ?_
  refine va_sld hx hb hXs hbl hbA hS (hin 1 (by decide) (by decide)) dL_law_930 ?_
  refine va_calli (va_runV (As := [.int (xs (x4 + (1 : Int32)).toNatClampNeg)]) (rest := []) ⟨hx, hb, hml, hown, htb⟩ (kcX8_lie l D cm qm evm hevm σm (xs (x4 + (1 : Int32)).toNatClampNeg) _ hw) (tb_CW htb kX8_lie tb_1612 tb_1613 tb_1614 ⟨Nat.le_of_ble_eq_true rfl, Nat.le_of_ble_eq_true rfl⟩) (ml_pre hevm hKm hPm (hDm σm) hEm (fun a h1 _ => hS.2.1 a h1 (Nat.not_le.mpr h1))) rfl rfl hl.1 rfl (lv_room (Nat.le_of_ble_eq_true rfl)) dL_law_931 ⟨by show (_ : Nat) + 0 ≤ 601024; omega, by show (_ : Nat) + 0 ≤ 7293034; omega⟩) hS (fun a _ h => hmA a h) (fun a h => hmA a h) (fun bb σm1 t H1 locs1 ht hvm hw hB hz1 hk1 hS => ?_)
  have hPm : va_P D vwCl (mw cm qm σm1) H1 := ht ▸ hB
  have hPx := va_keep hPx (hDx u.1) (fun a h1 h2 => hmx a h2 h1) hk1
  have hPo := va_keep hPo hlO_D (fun a h hm9 => hom (h ▸ hm9)) hk1
  refine lv_istore (lv' := [(6, .int bb), (5, .int kk), (0, .ref b), (1, .ref (qx 0)), (2, .ref (qm 0)), (3, .ref o), (4, .int x4)]) hx hb dL_law_934 hl (by decide) rfl (fun ls hl => ?_)
  refine lv_aload_n hx hb dL_law_936 rfl (lv_at hl 4 rfl) ?_
  refine va_calli (va_runV (As := []) (rest := []) ⟨hx, hb, hml, hown, htb⟩ (kcX8_thrown l D cm qm evm hevm σm1  _ hw) (tb_CW htb kX8_thrown tb_1354 tb_1355 tb_1356 ⟨Nat.le_of_ble_eq_true rfl, Nat.le_of_ble_eq_true rfl⟩) (ml_pre hevm hKm hPm (hDm σm1) hEm (fun a h1 _ => hS.2.1 a h1 (Nat.not_le.mpr h1))) rfl rfl hl.1 rfl (lv_room (Nat.le_of_ble_eq_true rfl)) dL_law_937 ⟨by show (_ : Nat) + 0 ≤ 601024; omega, by show (_ : Nat) + 0 ≤ 7293034; omega⟩) hS (fun a _ h => hmA a h) (fun a h => hmA a h) (fun th σm2 t H1 locs1 ht hvm hw hB hz1 hk1 hS => ?_)
  have hPm : va_P D vwCl (mw cm qm σm2) H1 := ht ▸ hB
  have hPx := va_keep hPx (hDx u.1) (fun a h1 h2 => hmx a h2 h1) hk1
  have hPo := va_keep hPo hlO_D (fun a h hm9 => hom (h ▸ hm9)) hk1
  refine lv_iload hx hb dL_law_940 (lv_at hl 1 rfl) ?_
  refine lv_icmp_eq (tgt := 947) hx hb dL_law_942 (by decide) (fun _ => ?_) (fun h9 => absurd hw.1 h9)
  refine lv_iload hx hb dL_law_947 (lv_at hl 1 rfl) ?_
  refine lv_if_ne (tgt := 964) hx hb dL_law_949 (by decide) (fun c1 => ?_) (fun c1 => ?_)
  · refine lv_goto (tgt := 1813) hx hb dL_law_964 (by decide) ?_
    refine W.widen (k := k + 16) (n := n6 + 96) (by omega) (by omega) ?_
    exact hnext u.1 σm2 u.2 _ _ _ hw.2.2 hPx hPm hPo hS (lv_sub hl [2, 3, 4, 5, 6] rfl)
  · refine lv_aload_n hx hb dL_law_952 rfl (lv_at hl 5 rfl) ?_
    refine lv_iconst (v := (0 : Int32)) hx hb dL_law_953 (by decide) ?_
    refine va_lald hx hb hKo hPo 0 0 rfl rfl (by unfold vp_in; decide) dL_law_954 ?_
    refine lv_iload hx hb dL_law_955 (lv_at hl 0 rfl) ?_
    refine lv_i2l hx hb dL_law_957 rfl ?_
    refine W.lcmp hx hb dL_law_958 ?_
    refine lv_if_eq (tgt := 964) hx hb dL_law_959 (by decide) (fun _ => ?_) (fun h9 => absurd (lcmp_eq.mpr (hw.2.1 c1)) h9)
    refine lv_goto (tgt := 1813) hx hb dL_law_964 (by decide) ?_
    refine W.widen (k := k + 16) (n := n6 + 96) (by omega) (by omega) ?_
    exact hnext u.1 σm2 u.2 _ _ _ hw.2.2 hPx hPm hPo hS (lv_sub hl [2, 3, 4, 5, 6] rfl)
set_option maxHeartbeats 8000000 in
set_option maxRecDepth 100000 in
theorem lc_18 {p : Program} {e : Env} {s : State} {m : MethodId} {below : List Frame} {meth : Method} {c₀ : Code} {l : Launch} {b L : Nat} {xs : Nat → Int32} {D : va_G} {cx cm : Nat → ClassId} {qx qm : Nat → Nat} {co : ClassId} {o tF : Nat} {evx evm : State → Heap → Prop} {adK adV : Nat → Nat} (C0 : lw_At p s m meth c₀ b L xs) (hst : l.stackTraces = false) (hs : lwS s D cx qx cm qm co o evx evm tF adK adV) (R Rn : hsS → hsS → Prop) (O : ∀ (f : Nat → Int64) (a1 : Int32) (σx σm : hsS), R σx σm → lo_18 f a1 Rn σx σm) (x4 : Int32) (hin : ∀ j : Nat, 0 < j → j < 6 → vp_in (x4 + nI j) L) (σx σm : hsS) (f : Nat → Int64) (k n6 : Nat) (hk : k + 16 ≤ 600000 ∧ n6 + 96 ≤ 7000000) (H : Heap) (locs : List Loc) (ls : Array Slot) (hR : R σx σm) (hPx : va_P D vwCl (xw cx qx σx) H) (hPm : va_P D vwCl (mw cm qm σm) H) (hPo : va_P D vwCl (hlO co o f) H) (hS : va_S (fun q : Nat => s.heap.size ≤ q) s.heap H locs) (hl : lv_has ls 7 [(0, .ref b), (1, .ref (qx 0)), (2, .ref (qm 0)), (3, .ref o), (4, .int x4)]) (hnext : ∀ (σx σm : hsS) (f : Nat → Int64) (H : Heap) (locs : List Loc) (ls : Array Slot), Rn σx σm → va_P D vwCl (xw cx qx σx) H → va_P D vwCl (mw cm qm σm) H → va_P D vwCl (hlO co o f) H → va_S (fun q : Nat => s.heap.size ≤ q) s.heap H locs → lv_has ls 7 [(0, .ref b), (1, .ref (qx 0)), (2, .ref (qm 0)), (3, .ref o), (4, .int x4)] → W p l e room_1 s m #[Value.ref b] below meth c₀ H locs (k + 16) (n6 + 96) (lw_Z below #[Value.ref b] s) (F0 m 1813 ls [])) : W p l e room_1 s m #[Value.ref b] below meth c₀ H locs k n6 (lw_Z below #[Value.ref b] s) (F0 m 967 ls []) := by
  obtain ⟨hx, hb, hr, hml, hown, hts, hXs, hbl, hlocks, hgv⟩ := C0
  obtain ⟨⟨hKx, hKm, hKo⟩, ⟨hDx, hDm⟩, ⟨hox, hmx, hom⟩, ⟨hxA, hmA, hoS⟩, ⟨hevx, hEx, hevm, hEm⟩, hXx, hF, hZx, hZm⟩ := hs
  have hbA : ¬ (fun q : Nat => s.heap.size ≤ q) b := Nat.not_le.mpr hbl
  have hoA : ∀ a, hlA qx o a → s.heap.size ≤ a := fun a h => h.elim (hxA a) (fun h => by rw [h]; exact hoS)
  have htb : ∀ w ∈ tb_L, w.before #[Value.ref b] s = true := fun w h => hts w (tb_in h)
  have hw := O f (xs (x4 + (1 : Int32)).toNatClampNeg) σx σm hR
  unfold lo_18 at hw
  refine lv_aload_n hx hb dL_law_967 rfl (lv_at hl 1 rfl) ?_
  refine lv_aload_n hx hb dL_law_968 rfl (lv_at hl 0 rfl) ?_
  refine lv_iload hx hb dL_law_969 (lv_at hl 4 rfl) ?_
  refine lv_iconst (v := (1 : Int32)) hx hb dL_law_971 (by decide) ?_
  refine lv_iadd hx hb dL_law_972 ?_
  refine va_sld hx hb hXs hbl hbA hS (hin 1 (by decide) (by decide)) dL_law_973 ?_
  refine lv_aload_n hx hb dL_law_974 rfl (lv_at hl 3 rfl) ?_
  refine va_calli (vx_runSW (As := [.ref (qx 0), .int (xs (x4 + (1 : Int32)).toNatClampNeg), .ref o]) (rest := []) ⟨hx, hb, hml, hown, htb⟩ (khL_trades l D cx qx evx hevx hst hXx co o σx f (xs (x4 + (1 : Int32)).toNatClampNeg) (fun (kk : Int32) (u : hsS × (Nat → Int64)) => wX8_trades (xs (x4 + (1 : Int32)).toNatClampNeg) (fun bb σm1 => wX8_thrown (fun th σm2 => th = kk ∧ (kk = (0 : Int32) → (u.2 0) = (bb.toInt64)) ∧ Rn u.1 σm2) σm1) σm) hw) (tb_CSW htb kw_trades tb_1033 tb_1034 ⟨Nat.le_of_ble_eq_true rfl, Nat.le_of_ble_eq_true rfl⟩) (hl_preS hevx hKx hKo hPx hPo (hDx σx) hox hEx (fun a h1 _ => hS.2.1 a h1 (Nat.not_le.mpr h1))) rfl rfl hl.1 rfl (lv_room (Nat.le_of_ble_eq_true rfl)) dL_law_975 ⟨by show k + 1 ≤ 601024; omega, by show n6 + 6 ≤ 7293034; omega⟩) hS (fun a _ h => hoA a h) (fun a h => hoA a h) (fun kk u t H1 locs1 ht hvm hw hB hz1 hk1 hS => ?_)
  have hPx : va_P D vwCl (xw cx qx u.1) H1 := ht ▸ hB.1
  have hPo : va_P D vwCl (hlO co o u.2) H1 := ht ▸ hB.2
  have hPm := va_keep hPm (hDm σm) (fun a h1 h2 => h2.elim (hmx a h1) (fun h3 => hom (h3 ▸ h1))) hk1
  refine lv_istore (lv' := [(5, .int kk), (0, .ref b), (1, .ref (qx 0)), (2, .ref (qm 0)), (3, .ref o), (4, .int x4)]) hx hb dL_law_978 hl (by decide) rfl (fun ls hl => ?_)
  refine lv_aload_n hx hb dL_law_980 rfl (lv_at hl 3 rfl) ?_
  refine lv_aload_n hx hb dL_law_981 rfl (lv_at hl 1 rfl) ?_
  refine lv_iload hx hb dL_law_982 (lv_at hl 5 rfl) ?_
  refine lv_iconst (v := (1 : Int32)) hx hb dL_law_984 (by decide) ?_
  refine lv_iadd hx hb dL_law_985 ?_
  refine va_sld hx hb hXs hbl hbA hS (hin 1 (by decide) (by decide)) dL_law_986 ?_
  refine va_calli (va_runV (As := [.int (xs (x4 + (1 : Int32)).toNatClampNeg)]) (rest := []) ⟨hx, hb, hml, hown, htb⟩ (kcX8_trades l D cm qm evm hevm σm (xs (x4 + (1 : Int32)).toNatClampNeg) _ hw) (tb_CW htb kX8_trades tb_1620 tb_1621 tb_1622 ⟨Nat.le_of_ble_eq_true rfl, Nat.le_of_ble_eq_true rfl⟩) (ml_pre hevm hKm hPm (hDm σm) hEm (fun a h1 _ => hS.2.1 a h1 (Nat.not_le.mpr h1))) rfl rfl hl.1 rfl (lv_room (Nat.le_of_ble_eq_true rfl)) dL_law_987 ⟨by show (_ : Nat) + 0 ≤ 601024; omega, by show (_ : Nat) + 0 ≤ 7293034; omega⟩) hS (fun a _ h => hmA a h) (fun a h => hmA a h) (fun bb σm1 t H1 locs1 ht hvm hw hB hz1 hk1 hS => ?_)
  have hPm : va_P D vwCl (mw cm qm σm1) H1 := ht ▸ hB
  have hPx := va_keep hPx (hDx u.1) (fun a h1 h2 => hmx a h2 h1) hk1
  have hPo := va_keep hPo hlO_D (fun a h hm9 => hom (h ▸ hm9)) hk1
  refine lv_istore (lv' := [(6, .int bb), (5, .int kk), (0, .ref b), (1, .ref (qx 0)), (2, .ref (qm 0)), (3, .ref o), (4, .int x4)]) hx hb dL_law_990 hl (by decide) rfl (fun ls hl => ?_)
  refine lv_aload_n hx hb dL_law_992 rfl (lv_at hl 4 rfl) ?_
  refine va_calli (va_runV (As := []) (rest := []) ⟨hx, hb, hml, hown, htb⟩ (kcX8_thrown l D cm qm evm hevm σm1  _ hw) (tb_CW htb kX8_thrown tb_1354 tb_1355 tb_1356 ⟨Nat.le_of_ble_eq_true rfl, Nat.le_of_ble_eq_true rfl⟩) (ml_pre hevm hKm hPm (hDm σm1) hEm (fun a h1 _ => hS.2.1 a h1 (Nat.not_le.mpr h1))) rfl rfl hl.1 rfl (lv_room (Nat.le_of_ble_eq_true rfl)) dL_law_993 ⟨by show (_ : Nat) + 0 ≤ 601024; omega, by show (_ : Nat) + 0 ≤ 7293034; omega⟩) hS (fun a _ h => hmA a h) (fun a h => hmA a h) (fun th σm2 t H1 locs1 ht hvm hw hB hz1 hk1 hS => ?_)
  have hPm : va_P D vwCl (mw cm qm σm2) H1 := ht ▸ hB
  have hPx := va_keep hPx (hDx u.1) (fun a h1 h2 => hmx a h2 h1) hk1
  have hPo := va_keep hPo hlO_D (fun a h hm9 => hom (h ▸ hm9)) hk1
  refine lv_iload hx hb dL_law_996 (lv_at hl 1 rfl) ?_
  refine lv_icmp_eq (tgt := 1003) hx hb dL_law_998 (by decide) (fun _ => ?_) (fun h9 => absurd hw.1 h9)
  refine lv_iload hx hb dL_law_1003 (lv_at hl 1 rfl) ?_
  refine lv_if_ne (tgt := 1020) hx hb dL_law_1005 (by decide) (fun c1 => ?_) (fun c1 => ?_)
  · refine lv_goto (tgt := 1813) hx hb dL_law_1020 (by decide) ?_
    refine W.widen (k := k + 16) (n := n6 + 96) (by omega) (by omega) ?_
    exact hnext u.1 σm2 u.2 _ _ _ hw.2.2 hPx hPm hPo hS (lv_sub hl [2, 3, 4, 5, 6] rfl)
  · refine lv_aload_n hx hb dL_law_1008 rfl (lv_at hl 5 rfl) ?_
    refine lv_iconst (v := (0 : Int32)) hx hb dL_law_1009 (by decide) ?_
    refine va_lald hx hb hKo hPo 0 0 rfl rfl (by unfold vp_in; decide) dL_law_1010 ?_
    refine lv_iload hx hb dL_law_1011 (lv_at hl 0 rfl) ?_
    refine lv_i2l hx hb dL_law_1013 rfl ?_
    refine W.lcmp hx hb dL_law_1014 ?_
    refine lv_if_eq (tgt := 1020) hx hb dL_law_1015 (by decide) (fun _ => ?_) (fun h9 => absurd (lcmp_eq.mpr (hw.2.1 c1)) h9)
    refine lv_goto (tgt := 1813) hx hb dL_law_1020 (by decide) ?_
    refine W.widen (k := k + 16) (n := n6 + 96) (by omega) (by omega) ?_
    exact hnext u.1 σm2 u.2 _ _ _ hw.2.2 hPx hPm hPo hS (lv_sub hl [2, 3, 4, 5, 6] rfl)
set_option maxHeartbeats 8000000 in
set_option maxRecDepth 100000 in
theorem lc_19 {p : Program} {e : Env} {s : State} {m : MethodId} {below : List Frame} {meth : Method} {c₀ : Code} {l : Launch} {b L : Nat} {xs : Nat → Int32} {D : va_G} {cx cm : Nat → ClassId} {qx qm : Nat → Nat} {co : ClassId} {o tF : Nat} {evx evm : State → Heap → Prop} {adK adV : Nat → Nat} (C0 : lw_At p s m meth c₀ b L xs) (hst : l.stackTraces = false) (hs : lwS s D cx qx cm qm co o evx evm tF adK adV) (R Rn : hsS → hsS → Prop) (O : ∀ (f : Nat → Int64) (a1 a2 : Int32) (σx σm : hsS), R σx σm → lo_19 f a1 a2 Rn σx σm) (x4 : Int32) (hin : ∀ j : Nat, 0 < j → j < 6 → vp_in (x4 + nI j) L) (σx σm : hsS) (f : Nat → Int64) (k n6 : Nat) (hk : k + 16 ≤ 600000 ∧ n6 + 96 ≤ 7000000) (H : Heap) (locs : List Loc) (ls : Array Slot) (hR : R σx σm) (hPx : va_P D vwCl (xw cx qx σx) H) (hPm : va_P D vwCl (mw cm qm σm) H) (hPo : va_P D vwCl (hlO co o f) H) (hS : va_S (fun q : Nat => s.heap.size ≤ q) s.heap H locs) (hl : lv_has ls 7 [(0, .ref b), (1, .ref (qx 0)), (2, .ref (qm 0)), (3, .ref o), (4, .int x4)]) (hnext : ∀ (σx σm : hsS) (f : Nat → Int64) (H : Heap) (locs : List Loc) (ls : Array Slot), Rn σx σm → va_P D vwCl (xw cx qx σx) H → va_P D vwCl (mw cm qm σm) H → va_P D vwCl (hlO co o f) H → va_S (fun q : Nat => s.heap.size ≤ q) s.heap H locs → lv_has ls 7 [(0, .ref b), (1, .ref (qx 0)), (2, .ref (qm 0)), (3, .ref o), (4, .int x4)] → W p l e room_1 s m #[Value.ref b] below meth c₀ H locs (k + 16) (n6 + 96) (lw_Z below #[Value.ref b] s) (F0 m 1813 ls [])) : W p l e room_1 s m #[Value.ref b] below meth c₀ H locs k n6 (lw_Z below #[Value.ref b] s) (F0 m 1023 ls []) := by
  obtain ⟨hx, hb, hr, hml, hown, hts, hXs, hbl, hlocks, hgv⟩ := C0
  obtain ⟨⟨hKx, hKm, hKo⟩, ⟨hDx, hDm⟩, ⟨hox, hmx, hom⟩, ⟨hxA, hmA, hoS⟩, ⟨hevx, hEx, hevm, hEm⟩, hXx, hF, hZx, hZm⟩ := hs
  have hbA : ¬ (fun q : Nat => s.heap.size ≤ q) b := Nat.not_le.mpr hbl
  have hoA : ∀ a, hlA qx o a → s.heap.size ≤ a := fun a h => h.elim (hxA a) (fun h => by rw [h]; exact hoS)
  have htb : ∀ w ∈ tb_L, w.before #[Value.ref b] s = true := fun w h => hts w (tb_in h)
  have hw := O f (xs (x4 + (1 : Int32)).toNatClampNeg) (xs (x4 + (2 : Int32)).toNatClampNeg) σx σm hR
  unfold lo_19 at hw
  refine lv_aload_n hx hb dL_law_1023 rfl (lv_at hl 1 rfl) ?_
  refine lv_aload_n hx hb dL_law_1024 rfl (lv_at hl 0 rfl) ?_
  refine lv_iload hx hb dL_law_1025 (lv_at hl 4 rfl) ?_
  refine lv_iconst (v := (1 : Int32)) hx hb dL_law_1027 (by decide) ?_
  refine lv_iadd hx hb dL_law_1028 ?_
  refine va_sld hx hb hXs hbl hbA hS (hin 1 (by decide) (by decide)) dL_law_1029 ?_
  refine lv_aload_n hx hb dL_law_1030 rfl (lv_at hl 0 rfl) ?_
  refine lv_iload hx hb dL_law_1031 (lv_at hl 4 rfl) ?_
  refine lv_iconst (v := (2 : Int32)) hx hb dL_law_1033 (by decide) ?_
  refine lv_iadd hx hb dL_law_1034 ?_
  refine va_sld hx hb hXs hbl hbA hS (hin 2 (by decide) (by decide)) dL_law_1035 ?_
  refine lv_aload_n hx hb dL_law_1036 rfl (lv_at hl 3 rfl) ?_
  refine va_calli (vx_runSW (As := [.ref (qx 0), .int (xs (x4 + (1 : Int32)).toNatClampNeg), .int (xs (x4 + (2 : Int32)).toNatClampNeg), .ref o]) (rest := []) ⟨hx, hb, hml, hown, htb⟩ (khL_grumble l D cx qx evx hevx hst hXx co o σx f (xs (x4 + (1 : Int32)).toNatClampNeg) (xs (x4 + (2 : Int32)).toNatClampNeg) (fun (kk : Int32) (u : hsS × (Nat → Int64)) => wX8_grumble (xs (x4 + (1 : Int32)).toNatClampNeg) (xs (x4 + (2 : Int32)).toNatClampNeg) (fun bb σm1 => wX8_thrown (fun th σm2 => th = kk ∧ (kk = (0 : Int32) → (u.2 0) = (bb.toInt64)) ∧ Rn u.1 σm2) σm1) σm) hw) (tb_CSW htb kw_grumble tb_1045 tb_1046 ⟨Nat.le_of_ble_eq_true rfl, Nat.le_of_ble_eq_true rfl⟩) (hl_preS hevx hKx hKo hPx hPo (hDx σx) hox hEx (fun a h1 _ => hS.2.1 a h1 (Nat.not_le.mpr h1))) rfl rfl hl.1 rfl (lv_room (Nat.le_of_ble_eq_true rfl)) dL_law_1037 ⟨by show k + 2 ≤ 601024; omega, by show n6 + 12 ≤ 7293034; omega⟩) hS (fun a _ h => hoA a h) (fun a h => hoA a h) (fun kk u t H1 locs1 ht hvm hw hB hz1 hk1 hS => ?_)
  have hPx : va_P D vwCl (xw cx qx u.1) H1 := ht ▸ hB.1
  have hPo : va_P D vwCl (hlO co o u.2) H1 := ht ▸ hB.2
  have hPm := va_keep hPm (hDm σm) (fun a h1 h2 => h2.elim (hmx a h1) (fun h3 => hom (h3 ▸ h1))) hk1
  refine lv_istore (lv' := [(5, .int kk), (0, .ref b), (1, .ref (qx 0)), (2, .ref (qm 0)), (3, .ref o), (4, .int x4)]) hx hb dL_law_1040 hl (by decide) rfl (fun ls hl => ?_)
  refine lv_aload_n hx hb dL_law_1042 rfl (lv_at hl 3 rfl) ?_
  refine lv_aload_n hx hb dL_law_1043 rfl (lv_at hl 1 rfl) ?_
  refine lv_iload hx hb dL_law_1044 (lv_at hl 5 rfl) ?_
  refine lv_iconst (v := (1 : Int32)) hx hb dL_law_1046 (by decide) ?_
  refine lv_iadd hx hb dL_law_1047 ?_
  refine va_sld hx hb hXs hbl hbA hS (hin 1 (by decide) (by decide)) dL_law_1048 ?_
  refine lv_aload_n hx hb dL_law_1049 rfl (lv_at hl 1 rfl) ?_
  refine lv_iload hx hb dL_law_1050 (lv_at hl 5 rfl) ?_
  refine lv_iconst (v := (2 : Int32)) hx hb dL_law_1052 (by decide) ?_
  refine lv_iadd hx hb dL_law_1053 ?_
  refine va_sld hx hb hXs hbl hbA hS (hin 2 (by decide) (by decide)) dL_law_1054 ?_
  refine va_calli (va_runV (As := [.int (xs (x4 + (1 : Int32)).toNatClampNeg), .int (xs (x4 + (2 : Int32)).toNatClampNeg)]) (rest := []) ⟨hx, hb, hml, hown, htb⟩ (kcX8_grumble l D cm qm evm hevm σm (xs (x4 + (1 : Int32)).toNatClampNeg) (xs (x4 + (2 : Int32)).toNatClampNeg) _ hw) (tb_CW htb kX8_grumble tb_1624 tb_1625 tb_1626 ⟨Nat.le_of_ble_eq_true rfl, Nat.le_of_ble_eq_true rfl⟩) (ml_pre hevm hKm hPm (hDm σm) hEm (fun a h1 _ => hS.2.1 a h1 (Nat.not_le.mpr h1))) rfl rfl hl.1 rfl (lv_room (Nat.le_of_ble_eq_true rfl)) dL_law_1055 ⟨by show (_ : Nat) + 0 ≤ 601024; omega, by show (_ : Nat) + 0 ≤ 7293034; omega⟩) hS (fun a _ h => hmA a h) (fun a h => hmA a h) (fun bb σm1 t H1 locs1 ht hvm hw hB hz1 hk1 hS => ?_)
  have hPm : va_P D vwCl (mw cm qm σm1) H1 := ht ▸ hB
  have hPx := va_keep hPx (hDx u.1) (fun a h1 h2 => hmx a h2 h1) hk1
  have hPo := va_keep hPo hlO_D (fun a h hm9 => hom (h ▸ hm9)) hk1
  refine lv_istore (lv' := [(6, .int bb), (5, .int kk), (0, .ref b), (1, .ref (qx 0)), (2, .ref (qm 0)), (3, .ref o), (4, .int x4)]) hx hb dL_law_1058 hl (by decide) rfl (fun ls hl => ?_)
  refine lv_aload_n hx hb dL_law_1060 rfl (lv_at hl 4 rfl) ?_
  refine va_calli (va_runV (As := []) (rest := []) ⟨hx, hb, hml, hown, htb⟩ (kcX8_thrown l D cm qm evm hevm σm1  _ hw) (tb_CW htb kX8_thrown tb_1354 tb_1355 tb_1356 ⟨Nat.le_of_ble_eq_true rfl, Nat.le_of_ble_eq_true rfl⟩) (ml_pre hevm hKm hPm (hDm σm1) hEm (fun a h1 _ => hS.2.1 a h1 (Nat.not_le.mpr h1))) rfl rfl hl.1 rfl (lv_room (Nat.le_of_ble_eq_true rfl)) dL_law_1061 ⟨by show (_ : Nat) + 0 ≤ 601024; omega, by show (_ : Nat) + 0 ≤ 7293034; omega⟩) hS (fun a _ h => hmA a h) (fun a h => hmA a h) (fun th σm2 t H1 locs1 ht hvm hw hB hz1 hk1 hS => ?_)
  have hPm : va_P D vwCl (mw cm qm σm2) H1 := ht ▸ hB
  have hPx := va_keep hPx (hDx u.1) (fun a h1 h2 => hmx a h2 h1) hk1
  have hPo := va_keep hPo hlO_D (fun a h hm9 => hom (h ▸ hm9)) hk1
  refine lv_iload hx hb dL_law_1064 (lv_at hl 1 rfl) ?_
  refine lv_icmp_eq (tgt := 1071) hx hb dL_law_1066 (by decide) (fun _ => ?_) (fun h9 => absurd hw.1 h9)
  refine lv_iload hx hb dL_law_1071 (lv_at hl 1 rfl) ?_
  refine lv_if_ne (tgt := 1088) hx hb dL_law_1073 (by decide) (fun c1 => ?_) (fun c1 => ?_)
  · refine lv_goto (tgt := 1813) hx hb dL_law_1088 (by decide) ?_
    refine W.widen (k := k + 16) (n := n6 + 96) (by omega) (by omega) ?_
    exact hnext u.1 σm2 u.2 _ _ _ hw.2.2 hPx hPm hPo hS (lv_sub hl [2, 3, 4, 5, 6] rfl)
  · refine lv_aload_n hx hb dL_law_1076 rfl (lv_at hl 5 rfl) ?_
    refine lv_iconst (v := (0 : Int32)) hx hb dL_law_1077 (by decide) ?_
    refine va_lald hx hb hKo hPo 0 0 rfl rfl (by unfold vp_in; decide) dL_law_1078 ?_
    refine lv_iload hx hb dL_law_1079 (lv_at hl 0 rfl) ?_
    refine lv_i2l hx hb dL_law_1081 rfl ?_
    refine W.lcmp hx hb dL_law_1082 ?_
    refine lv_if_eq (tgt := 1088) hx hb dL_law_1083 (by decide) (fun _ => ?_) (fun h9 => absurd (lcmp_eq.mpr (hw.2.1 c1)) h9)
    refine lv_goto (tgt := 1813) hx hb dL_law_1088 (by decide) ?_
    refine W.widen (k := k + 16) (n := n6 + 96) (by omega) (by omega) ?_
    exact hnext u.1 σm2 u.2 _ _ _ hw.2.2 hPx hPm hPo hS (lv_sub hl [2, 3, 4, 5, 6] rfl)
set_option maxHeartbeats 8000000 in
set_option maxRecDepth 100000 in
theorem lc_20 {p : Program} {e : Env} {s : State} {m : MethodId} {below : List Frame} {meth : Method} {c₀ : Code} {l : Launch} {b L : Nat} {xs : Nat → Int32} {D : va_G} {cx cm : Nat → ClassId} {qx qm : Nat → Nat} {co : ClassId} {o tF : Nat} {evx evm : State → Heap → Prop} {adK adV : Nat → Nat} (C0 : lw_At p s m meth c₀ b L xs) (hst : l.stackTraces = false) (hs : lwS s D cx qx cm qm co o evx evm tF adK adV) (R Rn : hsS → hsS → Prop) (O : ∀  (σx σm : hsS), R σx σm → lo_20  Rn σx σm) (x4 : Int32) (hin : ∀ j : Nat, 0 < j → j < 6 → vp_in (x4 + nI j) L) (σx σm : hsS) (f : Nat → Int64) (k n6 : Nat) (hk : k + 16 ≤ 600000 ∧ n6 + 96 ≤ 7000000) (H : Heap) (locs : List Loc) (ls : Array Slot) (hR : R σx σm) (hPx : va_P D vwCl (xw cx qx σx) H) (hPm : va_P D vwCl (mw cm qm σm) H) (hPo : va_P D vwCl (hlO co o f) H) (hS : va_S (fun q : Nat => s.heap.size ≤ q) s.heap H locs) (hl : lv_has ls 7 [(0, .ref b), (1, .ref (qx 0)), (2, .ref (qm 0)), (3, .ref o), (4, .int x4)]) (hnext : ∀ (σx σm : hsS) (f : Nat → Int64) (H : Heap) (locs : List Loc) (ls : Array Slot), Rn σx σm → va_P D vwCl (xw cx qx σx) H → va_P D vwCl (mw cm qm σm) H → va_P D vwCl (hlO co o f) H → va_S (fun q : Nat => s.heap.size ≤ q) s.heap H locs → lv_has ls 7 [(0, .ref b), (1, .ref (qx 0)), (2, .ref (qm 0)), (3, .ref o), (4, .int x4)] → W p l e room_1 s m #[Value.ref b] below meth c₀ H locs (k + 16) (n6 + 96) (lw_Z below #[Value.ref b] s) (F0 m 1813 ls [])) : W p l e room_1 s m #[Value.ref b] below meth c₀ H locs k n6 (lw_Z below #[Value.ref b] s) (F0 m 1091 ls []) := by
  obtain ⟨hx, hb, hr, hml, hown, hts, hXs, hbl, hlocks, hgv⟩ := C0
  obtain ⟨⟨hKx, hKm, hKo⟩, ⟨hDx, hDm⟩, ⟨hox, hmx, hom⟩, ⟨hxA, hmA, hoS⟩, ⟨hevx, hEx, hevm, hEm⟩, hXx, hF, hZx, hZm⟩ := hs
  have hbA : ¬ (fun q : Nat => s.heap.size ≤ q) b := Nat.not_le.mpr hbl
  have hoA : ∀ a, hlA qx o a → s.heap.size ≤ a := fun a h => h.elim (hxA a) (fun h => by rw [h]; exact hoS)
  have htb : ∀ w ∈ tb_L, w.before #[Value.ref b] s = true := fun w h => hts w (tb_in h)
  have hw := O  σx σm hR
  unfold lo_20 at hw
  refine lv_aload_n hx hb dL_law_1091 rfl (lv_at hl 1 rfl) ?_
  refine va_calli (va_runV (As := []) (rest := []) ⟨hx, hb, hml, hown, htb⟩ (kcX7_least l D cx qx evx hevx σx  _ hw) (tb_CW htb kX7_least tb_517 tb_518 tb_519 ⟨Nat.le_of_ble_eq_true rfl, Nat.le_of_ble_eq_true rfl⟩) (hl_pre hevx hKx hPx (hDx σx) hEx (fun a h1 _ => hS.2.1 a h1 (Nat.not_le.mpr h1))) rfl rfl hl.1 rfl (lv_room (Nat.le_of_ble_eq_true rfl)) dL_law_1092 ⟨by show (_ : Nat) + 0 ≤ 601024; omega, by show (_ : Nat) + 0 ≤ 7293034; omega⟩) hS (fun a _ h => hxA a h) (fun a h => hxA a h) (fun r σx1 t H1 locs1 ht hvm hw hB hz1 hk1 hS => ?_)
  have hPx : va_P D vwCl (xw cx qx σx1) H1 := ht ▸ hB
  have hPm := va_keep hPm (hDm σm) hmx hk1
  have hPo := va_keep hPo hlO_D (fun a h hx9 => hox (h ▸ hx9)) hk1
  refine lv_aload_n hx hb dL_law_1095 rfl (lv_at hl 2 rfl) ?_
  refine va_calli (va_runV (As := []) (rest := [.int r]) ⟨hx, hb, hml, hown, htb⟩ (kcX8_least l D cm qm evm hevm σm  _ hw) (tb_CW htb kX8_least tb_1636 tb_1637 tb_1638 ⟨Nat.le_of_ble_eq_true rfl, Nat.le_of_ble_eq_true rfl⟩) (ml_pre hevm hKm hPm (hDm σm) hEm (fun a h1 _ => hS.2.1 a h1 (Nat.not_le.mpr h1))) rfl rfl hl.1 rfl (lv_room (Nat.le_of_ble_eq_true rfl)) dL_law_1096 ⟨by show (_ : Nat) + 0 ≤ 601024; omega, by show (_ : Nat) + 0 ≤ 7293034; omega⟩) hS (fun a _ h => hmA a h) (fun a h => hmA a h) (fun bb σm1 t H1 locs1 ht hvm hw hB hz1 hk1 hS => ?_)
  have hPm : va_P D vwCl (mw cm qm σm1) H1 := ht ▸ hB
  have hPx := va_keep hPx (hDx σx1) (fun a h1 h2 => hmx a h2 h1) hk1
  have hPo := va_keep hPo hlO_D (fun a h hm9 => hom (h ▸ hm9)) hk1
  refine lv_icmp_eq (tgt := 1813) hx hb dL_law_1099 (by decide) (fun _ => ?_) (fun h9 => absurd hw.1 h9)
  refine W.widen (k := k + 16) (n := n6 + 96) (by omega) (by omega) ?_
  exact hnext σx1 σm1 f _ _ _ hw.2 hPx hPm hPo hS (lv_sub hl [0, 1, 2, 3, 4] rfl)
set_option maxHeartbeats 8000000 in
set_option maxRecDepth 100000 in
theorem lc_21 {p : Program} {e : Env} {s : State} {m : MethodId} {below : List Frame} {meth : Method} {c₀ : Code} {l : Launch} {b L : Nat} {xs : Nat → Int32} {D : va_G} {cx cm : Nat → ClassId} {qx qm : Nat → Nat} {co : ClassId} {o tF : Nat} {evx evm : State → Heap → Prop} {adK adV : Nat → Nat} (C0 : lw_At p s m meth c₀ b L xs) (hst : l.stackTraces = false) (hs : lwS s D cx qx cm qm co o evx evm tF adK adV) (R Rn : hsS → hsS → Prop) (O : ∀ (f : Nat → Int64) (a1 : Int32) (σx σm : hsS), R σx σm → lo_21 f a1 Rn σx σm) (x4 : Int32) (hin : ∀ j : Nat, 0 < j → j < 6 → vp_in (x4 + nI j) L) (σx σm : hsS) (f : Nat → Int64) (k n6 : Nat) (hk : k + 16 ≤ 600000 ∧ n6 + 96 ≤ 7000000) (H : Heap) (locs : List Loc) (ls : Array Slot) (hR : R σx σm) (hPx : va_P D vwCl (xw cx qx σx) H) (hPm : va_P D vwCl (mw cm qm σm) H) (hPo : va_P D vwCl (hlO co o f) H) (hS : va_S (fun q : Nat => s.heap.size ≤ q) s.heap H locs) (hl : lv_has ls 7 [(0, .ref b), (1, .ref (qx 0)), (2, .ref (qm 0)), (3, .ref o), (4, .int x4)]) (hnext : ∀ (σx σm : hsS) (f : Nat → Int64) (H : Heap) (locs : List Loc) (ls : Array Slot), Rn σx σm → va_P D vwCl (xw cx qx σx) H → va_P D vwCl (mw cm qm σm) H → va_P D vwCl (hlO co o f) H → va_S (fun q : Nat => s.heap.size ≤ q) s.heap H locs → lv_has ls 7 [(0, .ref b), (1, .ref (qx 0)), (2, .ref (qm 0)), (3, .ref o), (4, .int x4)] → W p l e room_1 s m #[Value.ref b] below meth c₀ H locs (k + 16) (n6 + 96) (lw_Z below #[Value.ref b] s) (F0 m 1813 ls [])) : W p l e room_1 s m #[Value.ref b] below meth c₀ H locs k n6 (lw_Z below #[Value.ref b] s) (F0 m 1104 ls []) := by
  obtain ⟨hx, hb, hr, hml, hown, hts, hXs, hbl, hlocks, hgv⟩ := C0
  obtain ⟨⟨hKx, hKm, hKo⟩, ⟨hDx, hDm⟩, ⟨hox, hmx, hom⟩, ⟨hxA, hmA, hoS⟩, ⟨hevx, hEx, hevm, hEm⟩, hXx, hF, hZx, hZm⟩ := hs
  have hbA : ¬ (fun q : Nat => s.heap.size ≤ q) b := Nat.not_le.mpr hbl
  have hoA : ∀ a, hlA qx o a → s.heap.size ≤ a := fun a h => h.elim (hxA a) (fun h => by rw [h]; exact hoS)
  have htb : ∀ w ∈ tb_L, w.before #[Value.ref b] s = true := fun w h => hts w (tb_in h)
  have hw := O f (xs (x4 + (1 : Int32)).toNatClampNeg) σx σm hR
  unfold lo_21 at hw
  refine lv_aload_n hx hb dL_law_1104 rfl (lv_at hl 1 rfl) ?_
  refine lv_aload_n hx hb dL_law_1105 rfl (lv_at hl 0 rfl) ?_
  refine lv_iload hx hb dL_law_1106 (lv_at hl 4 rfl) ?_
  refine lv_iconst (v := (1 : Int32)) hx hb dL_law_1108 (by decide) ?_
  refine lv_iadd hx hb dL_law_1109 ?_
  refine va_sld hx hb hXs hbl hbA hS (hin 1 (by decide) (by decide)) dL_law_1110 ?_
  refine lv_aload_n hx hb dL_law_1111 rfl (lv_at hl 3 rfl) ?_
  refine va_calli (vx_runSW (As := [.ref (qx 0), .int (xs (x4 + (1 : Int32)).toNatClampNeg), .ref o]) (rest := []) ⟨hx, hb, hml, hown, htb⟩ (khL_heads l D cx qx evx hevx hst hXx co o σx f (xs (x4 + (1 : Int32)).toNatClampNeg) (fun (kk : Int32) (u : hsS × (Nat → Int64)) => wX8_heads (xs (x4 + (1 : Int32)).toNatClampNeg) (fun bb σm1 => wX8_thrown (fun th σm2 => th = kk ∧ (kk = (0 : Int32) → (u.2 0) = (bb.toInt64)) ∧ Rn u.1 σm2) σm1) σm) hw) (tb_CSW htb kw_heads tb_1053 tb_1054 ⟨Nat.le_of_ble_eq_true rfl, Nat.le_of_ble_eq_true rfl⟩) (hl_preS hevx hKx hKo hPx hPo (hDx σx) hox hEx (fun a h1 _ => hS.2.1 a h1 (Nat.not_le.mpr h1))) rfl rfl hl.1 rfl (lv_room (Nat.le_of_ble_eq_true rfl)) dL_law_1112 ⟨by show k + 1 ≤ 601024; omega, by show n6 + 6 ≤ 7293034; omega⟩) hS (fun a _ h => hoA a h) (fun a h => hoA a h) (fun kk u t H1 locs1 ht hvm hw hB hz1 hk1 hS => ?_)
  have hPx : va_P D vwCl (xw cx qx u.1) H1 := ht ▸ hB.1
  have hPo : va_P D vwCl (hlO co o u.2) H1 := ht ▸ hB.2
  have hPm := va_keep hPm (hDm σm) (fun a h1 h2 => h2.elim (hmx a h1) (fun h3 => hom (h3 ▸ h1))) hk1
  refine lv_istore (lv' := [(5, .int kk), (0, .ref b), (1, .ref (qx 0)), (2, .ref (qm 0)), (3, .ref o), (4, .int x4)]) hx hb dL_law_1115 hl (by decide) rfl (fun ls hl => ?_)
  refine lv_aload_n hx hb dL_law_1117 rfl (lv_at hl 3 rfl) ?_
  refine lv_aload_n hx hb dL_law_1118 rfl (lv_at hl 1 rfl) ?_
  refine lv_iload hx hb dL_law_1119 (lv_at hl 5 rfl) ?_
  refine lv_iconst (v := (1 : Int32)) hx hb dL_law_1121 (by decide) ?_
  refine lv_iadd hx hb dL_law_1122 ?_
  refine va_sld hx hb hXs hbl hbA hS (hin 1 (by decide) (by decide)) dL_law_1123 ?_
  refine va_calli (va_runV (As := [.int (xs (x4 + (1 : Int32)).toNatClampNeg)]) (rest := []) ⟨hx, hb, hml, hown, htb⟩ (kcX8_heads l D cm qm evm hevm σm (xs (x4 + (1 : Int32)).toNatClampNeg) _ hw) (tb_CW htb kX8_heads tb_1644 tb_1645 tb_1646 ⟨Nat.le_of_ble_eq_true rfl, Nat.le_of_ble_eq_true rfl⟩) (ml_pre hevm hKm hPm (hDm σm) hEm (fun a h1 _ => hS.2.1 a h1 (Nat.not_le.mpr h1))) rfl rfl hl.1 rfl (lv_room (Nat.le_of_ble_eq_true rfl)) dL_law_1124 ⟨by show (_ : Nat) + 0 ≤ 601024; omega, by show (_ : Nat) + 0 ≤ 7293034; omega⟩) hS (fun a _ h => hmA a h) (fun a h => hmA a h) (fun bb σm1 t H1 locs1 ht hvm hw hB hz1 hk1 hS => ?_)
  have hPm : va_P D vwCl (mw cm qm σm1) H1 := ht ▸ hB
  have hPx := va_keep hPx (hDx u.1) (fun a h1 h2 => hmx a h2 h1) hk1
  have hPo := va_keep hPo hlO_D (fun a h hm9 => hom (h ▸ hm9)) hk1
  refine lv_istore (lv' := [(6, .int bb), (5, .int kk), (0, .ref b), (1, .ref (qx 0)), (2, .ref (qm 0)), (3, .ref o), (4, .int x4)]) hx hb dL_law_1127 hl (by decide) rfl (fun ls hl => ?_)
  refine lv_aload_n hx hb dL_law_1129 rfl (lv_at hl 4 rfl) ?_
  refine va_calli (va_runV (As := []) (rest := []) ⟨hx, hb, hml, hown, htb⟩ (kcX8_thrown l D cm qm evm hevm σm1  _ hw) (tb_CW htb kX8_thrown tb_1354 tb_1355 tb_1356 ⟨Nat.le_of_ble_eq_true rfl, Nat.le_of_ble_eq_true rfl⟩) (ml_pre hevm hKm hPm (hDm σm1) hEm (fun a h1 _ => hS.2.1 a h1 (Nat.not_le.mpr h1))) rfl rfl hl.1 rfl (lv_room (Nat.le_of_ble_eq_true rfl)) dL_law_1130 ⟨by show (_ : Nat) + 0 ≤ 601024; omega, by show (_ : Nat) + 0 ≤ 7293034; omega⟩) hS (fun a _ h => hmA a h) (fun a h => hmA a h) (fun th σm2 t H1 locs1 ht hvm hw hB hz1 hk1 hS => ?_)
  have hPm : va_P D vwCl (mw cm qm σm2) H1 := ht ▸ hB
  have hPx := va_keep hPx (hDx u.1) (fun a h1 h2 => hmx a h2 h1) hk1
  have hPo := va_keep hPo hlO_D (fun a h hm9 => hom (h ▸ hm9)) hk1
  refine lv_iload hx hb dL_law_1133 (lv_at hl 1 rfl) ?_
  refine lv_icmp_eq (tgt := 1140) hx hb dL_law_1135 (by decide) (fun _ => ?_) (fun h9 => absurd hw.1 h9)
  refine lv_iload hx hb dL_law_1140 (lv_at hl 1 rfl) ?_
  refine lv_if_ne (tgt := 1157) hx hb dL_law_1142 (by decide) (fun c1 => ?_) (fun c1 => ?_)
  · refine lv_goto (tgt := 1813) hx hb dL_law_1157 (by decide) ?_
    refine W.widen (k := k + 16) (n := n6 + 96) (by omega) (by omega) ?_
    exact hnext u.1 σm2 u.2 _ _ _ hw.2.2 hPx hPm hPo hS (lv_sub hl [2, 3, 4, 5, 6] rfl)
  · refine lv_aload_n hx hb dL_law_1145 rfl (lv_at hl 5 rfl) ?_
    refine lv_iconst (v := (0 : Int32)) hx hb dL_law_1146 (by decide) ?_
    refine va_lald hx hb hKo hPo 0 0 rfl rfl (by unfold vp_in; decide) dL_law_1147 ?_
    refine lv_iload hx hb dL_law_1148 (lv_at hl 0 rfl) ?_
    refine lv_i2l hx hb dL_law_1150 rfl ?_
    refine W.lcmp hx hb dL_law_1151 ?_
    refine lv_if_eq (tgt := 1157) hx hb dL_law_1152 (by decide) (fun _ => ?_) (fun h9 => absurd (lcmp_eq.mpr (hw.2.1 c1)) h9)
    refine lv_goto (tgt := 1813) hx hb dL_law_1157 (by decide) ?_
    refine W.widen (k := k + 16) (n := n6 + 96) (by omega) (by omega) ?_
    exact hnext u.1 σm2 u.2 _ _ _ hw.2.2 hPx hPm hPo hS (lv_sub hl [2, 3, 4, 5, 6] rfl)
