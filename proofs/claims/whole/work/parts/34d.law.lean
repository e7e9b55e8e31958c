set_option maxHeartbeats 8000000 in
set_option maxRecDepth 100000 in
theorem lc_22 {p : Program} {e : Env} {s : State} {m : MethodId} {below : List Frame} {meth : Method} {c₀ : Code} {l : Launch} {b L : Nat} {xs : Nat → Int32} {D : va_G} {cx cm : Nat → ClassId} {qx qm : Nat → Nat} {co : ClassId} {o tF : Nat} {evx evm : State → Heap → Prop} {adK adV : Nat → Nat} (C0 : lw_At p s m meth c₀ b L xs) (hst : l.stackTraces = false) (hs : lwS s D cx qx cm qm co o evx evm tF adK adV) (R Rn : hsS → hsS → Prop) (O : ∀ (f : Nat → Int64) (a1 : Int32) (σx σm : hsS), R σx σm → lo_22 f a1 Rn σx σm) (x4 : Int32) (hin : ∀ j : Nat, 0 < j → j < 6 → vp_in (x4 + nI j) L) (σx σm : hsS) (f : Nat → Int64) (k n6 : Nat) (hk : k + 16 ≤ 600000 ∧ n6 + 96 ≤ 7000000) (H : Heap) (locs : List Loc) (ls : Array Slot) (hR : R σx σm) (hPx : va_P D vwCl (xw cx qx σx) H) (hPm : va_P D vwCl (mw cm qm σm) H) (hPo : va_P D vwCl (hlO co o f) H) (hS : va_S (fun q : Nat => s.heap.size ≤ q) s.heap H locs) (hl : lv_has ls 7 [(0, .ref b), (1, .ref (qx 0)), (2, .ref (qm 0)), (3, .ref o), (4, .int x4)]) (hnext : ∀ (σx σm : hsS) (f : Nat → Int64) (H : Heap) (locs : List Loc) (ls : Array Slot), Rn σx σm → va_P D vwCl (xw cx qx σx) H → va_P D vwCl (mw cm qm σm) H → va_P D vwCl (hlO co o f) H → va_S (fun q : Nat => s.heap.size ≤ q) s.heap H locs → lv_has ls 7 [(0, .ref b), (1, .ref (qx 0)), (2, .ref (qm 0)), (3, .ref o), (4, .int x4)] → W p l e room_1 s m #[Value.ref b] below meth c₀ H locs (k + 16) (n6 + 96) (lw_Z below #[Value.ref b] s) (F0 m 1813 ls [])) : W p l e room_1 s m #[Value.ref b] below meth c₀ H locs k n6 (lw_Z below #[Value.ref b] s) (F0 m 1160 ls []) := by
  obtain ⟨hx, hb, hr, hml, hown, hts, hXs, hbl, hlocks, hgv⟩ := C0
  obtain ⟨⟨hKx, hKm, hKo⟩, ⟨hDx, hDm⟩, ⟨hox, hmx, hom⟩, ⟨hxA, hmA, hoS⟩, ⟨hevx, hEx, hevm, hEm⟩, hXx, hF, hZx, hZm⟩ := hs
  have hbA : ¬ (fun q : Nat => s.heap.size ≤ q) b := Nat.not_le.mpr hbl
  have hoA : ∀ a, hlA qx o a → s.heap.size ≤ a := fun a h => h.elim (hxA a) (fun h => by rw [h]; exact hoS)
  have htb : ∀ w ∈ tb_L, w.before #[Value.ref b] s = true := fun w h => hts w (tb_in h)
  have hw := O f (xs (x4 + (1 : Int32)).toNatClampNeg) σx σm hR
  unfold lo_22 at hw
  refine lv_aload_n hx hb dL_law_1160 rfl (lv_at hl 1 rfl) ?_
  refine lv_aload_n hx hb dL_law_1161 rfl (lv_at hl 0 rfl) ?_
  refine lv_iload hx hb dL_law_1162 (lv_at hl 4 rfl) ?_
  refine lv_iconst (v := (1 : Int32)) hx hb dL_law_1164 (by decide) ?_
  refine lv_iadd hx hb dL_law_1165 ?_
  refine va_sld hx hb hXs hbl hbA hS (hin 1 (by decide) (by decide)) dL_law_1166 ?_
  refine lv_aload_n hx hb dL_law_1167 rfl (lv_at hl 3 rfl) ?_
  refine va_calli (vx_runSW (As := [.ref (qx 0), .int (xs (x4 + (1 : Int32)).toNatClampNeg), .ref o]) (rest := []) ⟨hx, hb, hml, hown, htb⟩ (khL_head l D cx qx evx hevx hst hXx co o σx f (xs (x4 + (1 : Int32)).toNatClampNeg) (fun (kk : Int32) (u : hsS × (Nat → Int64)) => wX8_head (xs (x4 + (1 : Int32)).toNatClampNeg) (fun bb σm1 => wX8_thrown (fun th σm2 => th = kk ∧ (kk = (0 : Int32) → (u.2 0) = (bb.toInt64)) ∧ Rn u.1 σm2) σm1) σm) hw) (tb_CSW htb kw_head tb_1064 tb_1065 ⟨Nat.le_of_ble_eq_true rfl, Nat.le_of_ble_eq_true rfl⟩) (hl_preS hevx hKx hKo hPx hPo (hDx σx) hox hEx (fun a h1 _ => hS.2.1 a h1 (Nat.not_le.mpr h1))) rfl rfl hl.1 rfl (lv_room (Nat.le_of_ble_eq_true rfl)) dL_law_1168 ⟨by show k + 1 ≤ 601024; omega, by show n6 + 6 ≤ 7293034; omega⟩) hS (fun a _ h => hoA a h) (fun a h => hoA a h) (fun kk u t H1 locs1 ht hvm hw hB hz1 hk1 hS => ?_)
  have hPx : va_P D vwCl (xw cx qx u.1) H1 := ht ▸ hB.1
  have hPo : va_P D vwCl (hlO co o u.2) H1 := ht ▸ hB.2
  have hPm := va_keep hPm (hDm σm) (fun a h1 h2 => h2.elim (hmx a h1) (fun h3 => hom (h3 ▸ h1))) hk1
  refine lv_istore (lv' := [(5, .int kk), (0, .ref b), (1, .ref (qx 0)), (2, .ref (qm 0)), (3, .ref o), (4, .int x4)]) hx hb dL_law_1171 hl (by decide) rfl (fun ls hl => ?_)
  refine lv_aload_n hx hb dL_law_1173 rfl (lv_at hl 3 rfl) ?_
  refine lv_aload_n hx hb dL_law_1174 rfl (lv_at hl 1 rfl) ?_
  refine lv_iload hx hb dL_law_1175 (lv_at hl 5 rfl) ?_
  refine lv_iconst (v := (1 : Int32)) hx hb dL_law_1177 (by decide) ?_
  refine lv_iadd hx hb dL_law_1178 ?_
  refine va_sld hx hb hXs hbl hbA hS (hin 1 (by decide) (by decide)) dL_law_1179 ?_
  refine va_calli (va_runV (As := [.int (xs (x4 + (1 : Int32)).toNatClampNeg)]) (rest := []) ⟨hx, hb, hml, hown, htb⟩ (kcX8_head l D cm qm evm hevm σm (xs (x4 + (1 : Int32)).toNatClampNeg) _ hw) (tb_CW htb kX8_head tb_1652 tb_1653 tb_1654 ⟨Nat.le_of_ble_eq_true rfl, Nat.le_of_ble_eq_true rfl⟩) (ml_pre hevm hKm hPm (hDm σm) hEm (fun a h1 _ => hS.2.1 a h1 (Nat.not_le.mpr h1))) rfl rfl hl.1 rfl (lv_room (Nat.le_of_ble_eq_true rfl)) dL_law_1180 ⟨by show (_ : Nat) + 0 ≤ 601024; omega, by show (_ : Nat) + 0 ≤ 7293034; omega⟩) hS (fun a _ h => hmA a h) (fun a h => hmA a h) (fun bb σm1 t H1 locs1 ht hvm hw hB hz1 hk1 hS => ?_)
  have hPm : va_P D vwCl (mw cm qm σm1) H1 := ht ▸ hB
  have hPx := va_keep hPx (hDx u.1) (fun a h1 h2 => hmx a h2 h1) hk1
  have hPo := va_keep hPo hlO_D (fun a h hm9 => hom (h ▸ hm9)) hk1
  refine lv_istore (lv' := [(6, .int bb), (5, .int kk), (0, .ref b), (1, .ref (qx 0)), (2, .ref (qm 0)), (3, .ref o), (4, .int x4)]) hx hb dL_law_1183 hl (by decide) rfl (fun ls hl => ?_)
  refine lv_aload_n hx hb dL_law_1185 rfl (lv_at hl 4 rfl) ?_
  refine va_calli (va_runV (As := []) (rest := []) ⟨hx, hb, hml, hown, htb⟩ (kcX8_thrown l D cm qm evm hevm σm1  _ hw) (tb_CW htb kX8_thrown tb_1354 tb_1355 tb_1356 ⟨Nat.le_of_ble_eq_true rfl, Nat.le_of_ble_eq_true rfl⟩) (ml_pre hevm hKm hPm (hDm σm1) hEm (fun a h1 _ => hS.2.1 a h1 (Nat.not_le.mpr h1))) rfl rfl hl.1 rfl (lv_room (Nat.le_of_ble_eq_true rfl)) dL_law_1186 ⟨by show (_ : Nat) + 0 ≤ 601024; omega, by show (_ : Nat) + 0 ≤ 7293034; omega⟩) hS (fun a _ h => hmA a h) (fun a h => hmA a h) (fun th σm2 t H1 locs1 ht hvm hw hB hz1 hk1 hS => ?_)
  have hPm : va_P D vwCl (mw cm qm σm2) H1 := ht ▸ hB
  have hPx := va_keep hPx (hDx u.1) (fun a h1 h2 => hmx a h2 h1) hk1
  have hPo := va_keep hPo hlO_D (fun a h hm9 => hom (h ▸ hm9)) hk1
  refine lv_iload hx hb dL_law_1189 (lv_at hl 1 rfl) ?_
  refine lv_icmp_eq (tgt := 1196) hx hb dL_law_1191 (by decide) (fun _ => ?_) (fun h9 => absurd hw.1 h9)
  refine lv_iload hx hb dL_law_1196 (lv_at hl 1 rfl) ?_
  refine lv_if_ne (tgt := 1213) hx hb dL_law_1198 (by decide) (fun c1 => ?_) (fun c1 => ?_)
  · refine lv_goto (tgt := 1813) hx hb dL_law_1213 (by decide) ?_
    refine W.widen (k := k + 16) (n := n6 + 96) (by omega) (by omega) ?_
    exact hnext u.1 σm2 u.2 _ _ _ hw.2.2 hPx hPm hPo hS (lv_sub hl [2, 3, 4, 5, 6] rfl)
  · refine lv_aload_n hx hb dL_law_1201 rfl (lv_at hl 5 rfl) ?_
    refine lv_iconst (v := (0 : Int32)) hx hb dL_law_1202 (by decide) ?_
    refine va_lald hx hb hKo hPo 0 0 rfl rfl (by unfold vp_in; decide) dL_law_1203 ?_
    refine lv_iload hx hb dL_law_1204 (lv_at hl 0 rfl) ?_
    refine lv_i2l hx hb dL_law_1206 rfl ?_
    refine W.lcmp hx hb dL_law_1207 ?_
    refine lv_if_eq (tgt := 1213) hx hb dL_law_1208 (by decide) (fun _ => ?_) (fun h9 => absurd (lcmp_eq.mpr (hw.2.1 c1)) h9)
    refine lv_goto (tgt := 1813) hx hb dL_law_1213 (by decide) ?_
    refine W.widen (k := k + 16) (n := n6 + 96) (by omega) (by omega) ?_
    exact hnext u.1 σm2 u.2 _ _ _ hw.2.2 hPx hPm hPo hS (lv_sub hl [2, 3, 4, 5, 6] rfl)
set_option maxHeartbeats 8000000 in
set_option maxRecDepth 100000 in
theorem lc_23 {p : Program} {e : Env} {s : State} {m : MethodId} {below : List Frame} {meth : Method} {c₀ : Code} {l : Launch} {b L : Nat} {xs : Nat → Int32} {D : va_G} {cx cm : Nat → ClassId} {qx qm : Nat → Nat} {co : ClassId} {o tF : Nat} {evx evm : State → Heap → Prop} {adK adV : Nat → Nat} (C0 : lw_At p s m meth c₀ b L xs) (hst : l.stackTraces = false) (hs : lwS s D cx qx cm qm co o evx evm tF adK adV) (R Rn : hsS → hsS → Prop) (O : ∀ (f : Nat → Int64) (a1 : Int32) (σx σm : hsS), R σx σm → lo_23 f a1 Rn σx σm) (x4 : Int32) (hin : ∀ j : Nat, 0 < j → j < 6 → vp_in (x4 + nI j) L) (σx σm : hsS) (f : Nat → Int64) (k n6 : Nat) (hk : k + 16 ≤ 600000 ∧ n6 + 96 ≤ 7000000) (H : Heap) (locs : List Loc) (ls : Array Slot) (hR : R σx σm) (hPx : va_P D vwCl (xw cx qx σx) H) (hPm : va_P D vwCl (mw cm qm σm) H) (hPo : va_P D vwCl (hlO co o f) H) (hS : va_S (fun q : Nat => s.heap.size ≤ q) s.heap H locs) (hl : lv_has ls 7 [(0, .ref b), (1, .ref (qx 0)), (2, .ref (qm 0)), (3, .ref o), (4, .int x4)]) (hnext : ∀ (σx σm : hsS) (f : Nat → Int64) (H : Heap) (locs : List Loc) (ls : Array Slot), Rn σx σm → va_P D vwCl (xw cx qx σx) H → va_P D vwCl (mw cm qm σm) H → va_P D vwCl (hlO co o f) H → va_S (fun q : Nat => s.heap.size ≤ q) s.heap H locs → lv_has ls 7 [(0, .ref b), (1, .ref (qx 0)), (2, .ref (qm 0)), (3, .ref o), (4, .int x4)] → W p l e room_1 s m #[Value.ref b] below meth c₀ H locs (k + 16) (n6 + 96) (lw_Z below #[Value.ref b] s) (F0 m 1813 ls [])) : W p l e room_1 s m #[Value.ref b] below meth c₀ H locs k n6 (lw_Z below #[Value.ref b] s) (F0 m 1216 ls []) := by
  obtain ⟨hx, hb, hr, hml, hown, hts, hXs, hbl, hlocks, hgv⟩ := C0
  obtain ⟨⟨hKx, hKm, hKo⟩, ⟨hDx, hDm⟩, ⟨hox, hmx, hom⟩, ⟨hxA, hmA, hoS⟩, ⟨hevx, hEx, hevm, hEm⟩, hXx, hF, hZx, hZm⟩ := hs
  have hbA : ¬ (fun q : Nat => s.heap.size ≤ q) b := Nat.not_le.mpr hbl
  have hoA : ∀ a, hlA qx o a → s.heap.size ≤ a := fun a h => h.elim (hxA a) (fun h => by rw [h]; exact hoS)
  have htb : ∀ w ∈ tb_L, w.before #[Value.ref b] s = true := fun w h => hts w (tb_in h)
  have hw := O f (xs (x4 + (1 : Int32)).toNatClampNeg) σx σm hR
  unfold lo_23 at hw
  refine lv_aload_n hx hb dL_law_1216 rfl (lv_at hl 1 rfl) ?_
  refine lv_aload_n hx hb dL_law_1217 rfl (lv_at hl 0 rfl) ?_
  refine lv_iload hx hb dL_law_1218 (lv_at hl 4 rfl) ?_
  refine lv_iconst (v := (1 : Int32)) hx hb dL_law_1220 (by decide) ?_
  refine lv_iadd hx hb dL_law_1221 ?_
  refine va_sld hx hb hXs hbl hbA hS (hin 1 (by decide) (by decide)) dL_law_1222 ?_
  refine lv_aload_n hx hb dL_law_1223 rfl (lv_at hl 3 rfl) ?_
  refine va_calli (vx_runSW (As := [.ref (qx 0), .int (xs (x4 + (1 : Int32)).toNatClampNeg), .ref o]) (rest := []) ⟨hx, hb, hml, hown, htb⟩ (khL_copy l D cx qx evx hevx hst hXx co o σx f (xs (x4 + (1 : Int32)).toNatClampNeg) (fun (kk : Int32) (u : hsS × (Nat → Int64)) => wX8_copy (xs (x4 + (1 : Int32)).toNatClampNeg) (fun bb σm1 => wX8_thrown (fun th σm2 => th = kk ∧ (kk = (0 : Int32) → (u.2 0) = (bb.toInt64)) ∧ Rn u.1 σm2) σm1) σm) hw) (tb_CSW htb kw_copy tb_1077 tb_1078 ⟨Nat.le_of_ble_eq_true rfl, Nat.le_of_ble_eq_true rfl⟩) (hl_preS hevx hKx hKo hPx hPo (hDx σx) hox hEx (fun a h1 _ => hS.2.1 a h1 (Nat.not_le.mpr h1))) rfl rfl hl.1 rfl (lv_room (Nat.le_of_ble_eq_true rfl)) dL_law_1224 ⟨by show k + 1 ≤ 601024; omega, by show n6 + 6 ≤ 7293034; omega⟩) hS (fun a _ h => hoA a h) (fun a h => hoA a h) (fun kk u t H1 locs1 ht hvm hw hB hz1 hk1 hS => ?_)
  have hPx : va_P D vwCl (xw cx qx u.1) H1 := ht ▸ hB.1
  have hPo : va_P D vwCl (hlO co o u.2) H1 := ht ▸ hB.2
  have hPm := va_keep hPm (hDm σm) (fun a h1 h2 => h2.elim (hmx a h1) (fun h3 => hom (h3 ▸ h1))) hk1
  refine lv_istore (lv' := [(5, .int kk), (0, .ref b), (1, .ref (qx 0)), (2, .ref (qm 0)), (3, .ref o), (4, .int x4)]) hx hb dL_law_1227 hl (by decide) rfl (fun ls hl => ?_)
  refine lv_aload_n hx hb dL_law_1229 rfl (lv_at hl 3 rfl) ?_
  refine lv_aload_n hx hb dL_law_1230 rfl (lv_at hl 1 rfl) ?_
  refine lv_iload hx hb dL_law_1231 (lv_at hl 5 rfl) ?_
  refine lv_iconst (v := (1 : Int32)) hx hb dL_law_1233 (by decide) ?_
  refine lv_iadd hx hb dL_law_1234 ?_
  refine va_sld hx hb hXs hbl hbA hS (hin 1 (by decide) (by decide)) dL_law_1235 ?_
  refine va_calli (va_runV (As := [.int (xs (x4 + (1 : Int32)).toNatClampNeg)]) (rest := []) ⟨hx, hb, hml, hown, htb⟩ (kcX8_copy l D cm qm evm hevm σm (xs (x4 + (1 : Int32)).toNatClampNeg) _ hw) (tb_CW htb kX8_copy tb_1543 tb_1544 tb_1545 ⟨Nat.le_of_ble_eq_true rfl, Nat.le_of_ble_eq_true rfl⟩) (ml_pre hevm hKm hPm (hDm σm) hEm (fun a h1 _ => hS.2.1 a h1 (Nat.not_le.mpr h1))) rfl rfl hl.1 rfl (lv_room (Nat.le_of_ble_eq_true rfl)) dL_law_1236 ⟨by show (_ : Nat) + 0 ≤ 601024; omega, by show (_ : Nat) + 0 ≤ 7293034; omega⟩) hS (fun a _ h => hmA a h) (fun a h => hmA a h) (fun bb σm1 t H1 locs1 ht hvm hw hB hz1 hk1 hS => ?_)
  have hPm : va_P D vwCl (mw cm qm σm1) H1 := ht ▸ hB
  have hPx := va_keep hPx (hDx u.1) (fun a h1 h2 => hmx a h2 h1) hk1
  have hPo := va_keep hPo hlO_D (fun a h hm9 => hom (h ▸ hm9)) hk1
  refine lv_istore (lv' := [(6, .int bb), (5, .int kk), (0, .ref b), (1, .ref (qx 0)), (2, .ref (qm 0)), (3, .ref o), (4, .int x4)]) hx hb dL_law_1239 hl (by decide) rfl (fun ls hl => ?_)
  refine lv_aload_n hx hb dL_law_1241 rfl (lv_at hl 4 rfl) ?_
  refine va_calli (va_runV (As := []) (rest := []) ⟨hx, hb, hml, hown, htb⟩ (kcX8_thrown l D cm qm evm hevm σm1  _ hw) (tb_CW htb kX8_thrown tb_1354 tb_1355 tb_1356 ⟨Nat.le_of_ble_eq_true rfl, Nat.le_of_ble_eq_true rfl⟩) (ml_pre hevm hKm hPm (hDm σm1) hEm (fun a h1 _ => hS.2.1 a h1 (Nat.not_le.mpr h1))) rfl rfl hl.1 rfl (lv_room (Nat.le_of_ble_eq_true rfl)) dL_law_1242 ⟨by show (_ : Nat) + 0 ≤ 601024; omega, by show (_ : Nat) + 0 ≤ 7293034; omega⟩) hS (fun a _ h => hmA a h) (fun a h => hmA a h) (fun th σm2 t H1 locs1 ht hvm hw hB hz1 hk1 hS => ?_)
  have hPm : va_P D vwCl (mw cm qm σm2) H1 := ht ▸ hB
  have hPx := va_keep hPx (hDx u.1) (fun a h1 h2 => hmx a h2 h1) hk1
  have hPo := va_keep hPo hlO_D (fun a h hm9 => hom (h ▸ hm9)) hk1
  refine lv_iload hx hb dL_law_1245 (lv_at hl 1 rfl) ?_
  refine lv_icmp_eq (tgt := 1252) hx hb dL_law_1247 (by decide) (fun _ => ?_) (fun h9 => absurd hw.1 h9)
  refine lv_iload hx hb dL_law_1252 (lv_at hl 1 rfl) ?_
  refine lv_if_ne (tgt := 1269) hx hb dL_law_1254 (by decide) (fun c1 => ?_) (fun c1 => ?_)
  · refine lv_goto (tgt := 1813) hx hb dL_law_1269 (by decide) ?_
    refine W.widen (k := k + 16) (n := n6 + 96) (by omega) (by omega) ?_
    exact hnext u.1 σm2 u.2 _ _ _ hw.2.2 hPx hPm hPo hS (lv_sub hl [2, 3, 4, 5, 6] rfl)
  · refine lv_aload_n hx hb dL_law_1257 rfl (lv_at hl 5 rfl) ?_
    refine lv_iconst (v := (0 : Int32)) hx hb dL_law_1258 (by decide) ?_
    refine va_lald hx hb hKo hPo 0 0 rfl rfl (by unfold vp_in; decide) dL_law_1259 ?_
    refine lv_iload hx hb dL_law_1260 (lv_at hl 0 rfl) ?_
    refine lv_i2l hx hb dL_law_1262 rfl ?_
    refine W.lcmp hx hb dL_law_1263 ?_
    refine lv_if_eq (tgt := 1269) hx hb dL_law_1264 (by decide) (fun _ => ?_) (fun h9 => absurd (lcmp_eq.mpr (hw.2.1 c1)) h9)
    refine lv_goto (tgt := 1813) hx hb dL_law_1269 (by decide) ?_
    refine W.widen (k := k + 16) (n := n6 + 96) (by omega) (by omega) ?_
    exact hnext u.1 σm2 u.2 _ _ _ hw.2.2 hPx hPm hPo hS (lv_sub hl [2, 3, 4, 5, 6] rfl)
set_option maxHeartbeats 8000000 in
set_option maxRecDepth 100000 in
theorem lc_24 {p : Program} {e : Env} {s : State} {m : MethodId} {below : List Frame} {meth : Method} {c₀ : Code} {l : Launch} {b L : Nat} {xs : Nat → Int32} {D : va_G} {cx cm : Nat → ClassId} {qx qm : Nat → Nat} {co : ClassId} {o tF : Nat} {evx evm : State → Heap → Prop} {adK adV : Nat → Nat} (C0 : lw_At p s m meth c₀ b L xs) (hst : l.stackTraces = false) (hs : lwS s D cx qx cm qm co o evx evm tF adK adV) (R Rn : hsS → hsS → Prop) (O : ∀ (f : Nat → Int64) (a1 : Int32) (σx σm : hsS), R σx σm → lo_24 f a1 Rn σx σm) (x4 : Int32) (hin : ∀ j : Nat, 0 < j → j < 6 → vp_in (x4 + nI j) L) (σx σm : hsS) (f : Nat → Int64) (k n6 : Nat) (hk : k + 16 ≤ 600000 ∧ n6 + 96 ≤ 7000000) (H : Heap) (locs : List Loc) (ls : Array Slot) (hR : R σx σm) (hPx : va_P D vwCl (xw cx qx σx) H) (hPm : va_P D vwCl (mw cm qm σm) H) (hPo : va_P D vwCl (hlO co o f) H) (hS : va_S (fun q : Nat => s.heap.size ≤ q) s.heap H locs) (hl : lv_has ls 7 [(0, .ref b), (1, .ref (qx 0)), (2, .ref (qm 0)), (3, .ref o), (4, .int x4)]) (hnext : ∀ (σx σm : hsS) (f : Nat → Int64) (H : Heap) (locs : List Loc) (ls : Array Slot), Rn σx σm → va_P D vwCl (xw cx qx σx) H → va_P D vwCl (mw cm qm σm) H → va_P D vwCl (hlO co o f) H → va_S (fun q : Nat => s.heap.size ≤ q) s.heap H locs → lv_has ls 7 [(0, .ref b), (1, .ref (qx 0)), (2, .ref (qm 0)), (3, .ref o), (4, .int x4)] → W p l e room_1 s m #[Value.ref b] below meth c₀ H locs (k + 16) (n6 + 96) (lw_Z below #[Value.ref b] s) (F0 m 1813 ls [])) : W p l e room_1 s m #[Value.ref b] below meth c₀ H locs k n6 (lw_Z below #[Value.ref b] s) (F0 m 1272 ls []) := by
  obtain ⟨hx, hb, hr, hml, hown, hts, hXs, hbl, hlocks, hgv⟩ := C0
  obtain ⟨⟨hKx, hKm, hKo⟩, ⟨hDx, hDm⟩, ⟨hox, hmx, hom⟩, ⟨hxA, hmA, hoS⟩, ⟨hevx, hEx, hevm, hEm⟩, hXx, hF, hZx, hZm⟩ := hs
  have hbA : ¬ (fun q : Nat => s.heap.size ≤ q) b := Nat.not_le.mpr hbl
  have hoA : ∀ a, hlA qx o a → s.heap.size ≤ a := fun a h => h.elim (hxA a) (fun h => by rw [h]; exact hoS)
  have htb : ∀ w ∈ tb_L, w.before #[Value.ref b] s = true := fun w h => hts w (tb_in h)
  have hw := O f (xs (x4 + (1 : Int32)).toNatClampNeg) σx σm hR
  unfold lo_24 at hw
  refine lv_aload_n hx hb dL_law_1272 rfl (lv_at hl 1 rfl) ?_
  refine lv_aload_n hx hb dL_law_1273 rfl (lv_at hl 0 rfl) ?_
  refine lv_iload hx hb dL_law_1274 (lv_at hl 4 rfl) ?_
  refine lv_iconst (v := (1 : Int32)) hx hb dL_law_1276 (by decide) ?_
  refine lv_iadd hx hb dL_law_1277 ?_
  refine va_sld hx hb hXs hbl hbA hS (hin 1 (by decide) (by decide)) dL_law_1278 ?_
  refine lv_aload_n hx hb dL_law_1279 rfl (lv_at hl 3 rfl) ?_
  refine va_calli (vx_runSW (As := [.ref (qx 0), .int (xs (x4 + (1 : Int32)).toNatClampNeg), .ref o]) (rest := []) ⟨hx, hb, hml, hown, htb⟩ (khL_without l D cx qx evx hevx hst hXx co o σx f (xs (x4 + (1 : Int32)).toNatClampNeg) (fun (kk : Int32) (u : hsS × (Nat → Int64)) => wX8_without (xs (x4 + (1 : Int32)).toNatClampNeg) (fun bb σm1 => wX8_thrown (fun th σm2 => th = kk ∧ (kk = (0 : Int32) → (u.2 0) = (bb.toInt64)) ∧ Rn u.1 σm2) σm1) σm) hw) (tb_CSW htb kw_without tb_1089 tb_1090 ⟨Nat.le_of_ble_eq_true rfl, Nat.le_of_ble_eq_true rfl⟩) (hl_preS hevx hKx hKo hPx hPo (hDx σx) hox hEx (fun a h1 _ => hS.2.1 a h1 (Nat.not_le.mpr h1))) rfl rfl hl.1 rfl (lv_room (Nat.le_of_ble_eq_true rfl)) dL_law_1280 ⟨by show k + 1 ≤ 601024; omega, by show n6 + 6 ≤ 7293034; omega⟩) hS (fun a _ h => hoA a h) (fun a h => hoA a h) (fun kk u t H1 locs1 ht hvm hw hB hz1 hk1 hS => ?_)
  have hPx : va_P D vwCl (xw cx qx u.1) H1 := ht ▸ hB.1
  have hPo : va_P D vwCl (hlO co o u.2) H1 := ht ▸ hB.2
  have hPm := va_keep hPm (hDm σm) (fun a h1 h2 => h2.elim (hmx a h1) (fun h3 => hom (h3 ▸ h1))) hk1
  refine lv_istore (lv' := [(5, .int kk), (0, .ref b), (1, .ref (qx 0)), (2, .ref (qm 0)), (3, .ref o), (4, .int x4)]) hx hb dL_law_1283 hl (by decide) rfl (fun ls hl => ?_)
  refine lv_aload_n hx hb dL_law_1285 rfl (lv_at hl 3 rfl) ?_
  refine lv_aload_n hx hb dL_law_1286 rfl (lv_at hl 1 rfl) ?_
  refine lv_iload hx hb dL_law_1287 (lv_at hl 5 rfl) ?_
  refine lv_iconst (v := (1 : Int32)) hx hb dL_law_1289 (by decide) ?_
  refine lv_iadd hx hb dL_law_1290 ?_
  refine va_sld hx hb hXs hbl hbA hS (hin 1 (by decide) (by decide)) dL_law_1291 ?_
  refine va_calli (va_runV (As := [.int (xs (x4 + (1 : Int32)).toNatClampNeg)]) (rest := []) ⟨hx, hb, hml, hown, htb⟩ (kcX8_without l D cm qm evm hevm σm (xs (x4 + (1 : Int32)).toNatClampNeg) _ hw) (tb_CW htb kX8_without tb_1551 tb_1552 tb_1553 ⟨Nat.le_of_ble_eq_true rfl, Nat.le_of_ble_eq_true rfl⟩) (ml_pre hevm hKm hPm (hDm σm) hEm (fun a h1 _ => hS.2.1 a h1 (Nat.not_le.mpr h1))) rfl rfl hl.1 rfl (lv_room (Nat.le_of_ble_eq_true rfl)) dL_law_1292 ⟨by show (_ : Nat) + 0 ≤ 601024; omega, by show (_ : Nat) + 0 ≤ 7293034; omega⟩) hS (fun a _ h => hmA a h) (fun a h => hmA a h) (fun bb σm1 t H1 locs1 ht hvm hw hB hz1 hk1 hS => ?_)
  have hPm : va_P D vwCl (mw cm qm σm1) H1 := ht ▸ hB
  have hPx := va_keep hPx (hDx u.1) (fun a h1 h2 => hmx a h2 h1) hk1
  have hPo := va_keep hPo hlO_D (fun a h hm9 => hom (h ▸ hm9)) hk1
  refine lv_istore (lv' := [(6, .int bb), (5, .int kk), (0, .ref b), (1, .ref (qx 0)), (2, .ref (qm 0)), (3, .ref o), (4, .int x4)]) hx hb dL_law_1295 hl (by decide) rfl (fun ls hl => ?_)
  refine lv_aload_n hx hb dL_law_1297 rfl (lv_at hl 4 rfl) ?_
  refine va_calli (va_runV (As := []) (rest := []) ⟨hx, hb, hml, hown, htb⟩ (kcX8_thrown l D cm qm evm hevm σm1  _ hw) (tb_CW htb kX8_thrown tb_1354 tb_1355 tb_1356 ⟨Nat.le_of_ble_eq_true rfl, Nat.le_of_ble_eq_true rfl⟩) (ml_pre hevm hKm hPm (hDm σm1) hEm (fun a h1 _ => hS.2.1 a h1 (Nat.not_le.mpr h1))) rfl rfl hl.1 rfl (lv_room (Nat.le_of_ble_eq_true rfl)) dL_law_1298 ⟨by show (_ : Nat) + 0 ≤ 601024; omega, by show (_ : Nat) + 0 ≤ 7293034; omega⟩) hS (fun a _ h => hmA a h) (fun a h => hmA a h) (fun th σm2 t H1 locs1 ht hvm hw hB hz1 hk1 hS => ?_)
  have hPm : va_P D vwCl (mw cm qm σm2) H1 := ht ▸ hB
  have hPx := va_keep hPx (hDx u.1) (fun a h1 h2 => hmx a h2 h1) hk1
  have hPo := va_keep hPo hlO_D (fun a h hm9 => hom (h ▸ hm9)) hk1
  refine lv_iload hx hb dL_law_1301 (lv_at hl 1 rfl) ?_
  refine lv_icmp_eq (tgt := 1308) hx hb dL_law_1303 (by decide) (fun _ => ?_) (fun h9 => absurd hw.1 h9)
  refine lv_iload hx hb dL_law_1308 (lv_at hl 1 rfl) ?_
  refine lv_if_ne (tgt := 1325) hx hb dL_law_1310 (by decide) (fun c1 => ?_) (fun c1 => ?_)
  · refine lv_goto (tgt := 1813) hx hb dL_law_1325 (by decide) ?_
    refine W.widen (k := k + 16) (n := n6 + 96) (by omega) (by omega) ?_
    exact hnext u.1 σm2 u.2 _ _ _ hw.2.2 hPx hPm hPo hS (lv_sub hl [2, 3, 4, 5, 6] rfl)
  · refine lv_aload_n hx hb dL_law_1313 rfl (lv_at hl 5 rfl) ?_
    refine lv_iconst (v := (0 : Int32)) hx hb dL_law_1314 (by decide) ?_
    refine va_lald hx hb hKo hPo 0 0 rfl rfl (by unfold vp_in; decide) dL_law_1315 ?_
    refine lv_iload hx hb dL_law_1316 (lv_at hl 0 rfl) ?_
    refine lv_i2l hx hb dL_law_1318 rfl ?_
    refine W.lcmp hx hb dL_law_1319 ?_
    refine lv_if_eq (tgt := 1325) hx hb dL_law_1320 (by decide) (fun _ => ?_) (fun h9 => absurd (lcmp_eq.mpr (hw.2.1 c1)) h9)
    refine lv_goto (tgt := 1813) hx hb dL_law_1325 (by decide) ?_
    refine W.widen (k := k + 16) (n := n6 + 96) (by omega) (by omega) ?_
    exact hnext u.1 σm2 u.2 _ _ _ hw.2.2 hPx hPm hPo hS (lv_sub hl [2, 3, 4, 5, 6] rfl)
set_option maxHeartbeats 8000000 in
set_option maxRecDepth 100000 in
theorem lc_25 {p : Program} {e : Env} {s : State} {m : MethodId} {below : List Frame} {meth : Method} {c₀ : Code} {l : Launch} {b L : Nat} {xs : Nat → Int32} {D : va_G} {cx cm : Nat → ClassId} {qx qm : Nat → Nat} {co : ClassId} {o tF : Nat} {evx evm : State → Heap → Prop} {adK adV : Nat → Nat} (C0 : lw_At p s m meth c₀ b L xs) (hst : l.stackTraces = false) (hs : lwS s D cx qx cm qm co o evx evm tF adK adV) (R Rn : hsS → hsS → Prop) (O : ∀ (f : Nat → Int64) (a1 : Int32) (σx σm : hsS), R σx σm → lo_25 f a1 Rn σx σm) (x4 : Int32) (hin : ∀ j : Nat, 0 < j → j < 6 → vp_in (x4 + nI j) L) (σx σm : hsS) (f : Nat → Int64) (k n6 : Nat) (hk : k + 16 ≤ 600000 ∧ n6 + 96 ≤ 7000000) (H : Heap) (locs : List Loc) (ls : Array Slot) (hR : R σx σm) (hPx : va_P D vwCl (xw cx qx σx) H) (hPm : va_P D vwCl (mw cm qm σm) H) (hPo : va_P D vwCl (hlO co o f) H) (hS : va_S (fun q : Nat => s.heap.size ≤ q) s.heap H locs) (hl : lv_has ls 7 [(0, .ref b), (1, .ref (qx 0)), (2, .ref (qm 0)), (3, .ref o), (4, .int x4)]) (hnext : ∀ (σx σm : hsS) (f : Nat → Int64) (H : Heap) (locs : List Loc) (ls : Array Slot), Rn σx σm → va_P D vwCl (xw cx qx σx) H → va_P D vwCl (mw cm qm σm) H → va_P D vwCl (hlO co o f) H → va_S (fun q : Nat => s.heap.size ≤ q) s.heap H locs → lv_has ls 7 [(0, .ref b), (1, .ref (qx 0)), (2, .ref (qm 0)), (3, .ref o), (4, .int x4)] → W p l e room_1 s m #[Value.ref b] below meth c₀ H locs (k + 16) (n6 + 96) (lw_Z below #[Value.ref b] s) (F0 m 1813 ls [])) : W p l e room_1 s m #[Value.ref b] below meth c₀ H locs k n6 (lw_Z below #[Value.ref b] s) (F0 m 1328 ls []) := by
  obtain ⟨hx, hb, hr, hml, hown, hts, hXs, hbl, hlocks, hgv⟩ := C0
  obtain ⟨⟨hKx, hKm, hKo⟩, ⟨hDx, hDm⟩, ⟨hox, hmx, hom⟩, ⟨hxA, hmA, hoS⟩, ⟨hevx, hEx, hevm, hEm⟩, hXx, hF, hZx, hZm⟩ := hs
  have hbA : ¬ (fun q : Nat => s.heap.size ≤ q) b := Nat.not_le.mpr hbl
  have hoA : ∀ a, hlA qx o a → s.heap.size ≤ a := fun a h => h.elim (hxA a) (fun h => by rw [h]; exact hoS)
  have htb : ∀ w ∈ tb_L, w.before #[Value.ref b] s = true := fun w h => hts w (tb_in h)
  have hw := O f (xs (x4 + (1 : Int32)).toNatClampNeg) σx σm hR
  unfold lo_25 at hw
  refine lv_aload_n hx hb dL_law_1328 rfl (lv_at hl 1 rfl) ?_
  refine lv_aload_n hx hb dL_law_1329 rfl (lv_at hl 0 rfl) ?_
  refine lv_iload hx hb dL_law_1330 (lv_at hl 4 rfl) ?_
  refine lv_iconst (v := (1 : Int32)) hx hb dL_law_1332 (by decide) ?_
  refine lv_iadd hx hb dL_law_1333 ?_
  refine va_sld hx hb hXs hbl hbA hS (hin 1 (by decide) (by decide)) dL_law_1334 ?_
  refine lv_aload_n hx hb dL_law_1335 rfl (lv_at hl 3 rfl) ?_
  refine va_calli (vx_runSW (As := [.ref (qx 0), .int (xs (x4 + (1 : Int32)).toNatClampNeg), .ref o]) (rest := []) ⟨hx, hb, hml, hown, htb⟩ (khL_add l D cx qx evx hevx hst hXx co o σx f (xs (x4 + (1 : Int32)).toNatClampNeg) (fun (kk : Int32) (u : hsS × (Nat → Int64)) => wX8_add (xs (x4 + (1 : Int32)).toNatClampNeg) (fun bb σm1 => wX8_thrown (fun th σm2 => th = kk ∧ (kk = (0 : Int32) → (u.2 0) = (bb.toInt64)) ∧ Rn u.1 σm2) σm1) σm) hw) (tb_CSW htb kw_add tb_1100 tb_1101 ⟨Nat.le_of_ble_eq_true rfl, Nat.le_of_ble_eq_true rfl⟩) (hl_preS hevx hKx hKo hPx hPo (hDx σx) hox hEx (fun a h1 _ => hS.2.1 a h1 (Nat.not_le.mpr h1))) rfl rfl hl.1 rfl (lv_room (Nat.le_of_ble_eq_true rfl)) dL_law_1336 ⟨by show k + 1 ≤ 601024; omega, by show n6 + 6 ≤ 7293034; omega⟩) hS (fun a _ h => hoA a h) (fun a h => hoA a h) (fun kk u t H1 locs1 ht hvm hw hB hz1 hk1 hS => ?_)
  have hPx : va_P D vwCl (xw cx qx u.1) H1 := ht ▸ hB.1
  have hPo : va_P D vwCl (hlO co o u.2) H1 := ht ▸ hB.2
  have hPm := va_keep hPm (hDm σm) (fun a h1 h2 => h2.elim (hmx a h1) (fun h3 => hom (h3 ▸ h1))) hk1
  refine lv_istore (lv' := [(5, .int kk), (0, .ref b), (1, .ref (qx 0)), (2, .ref (qm 0)), (3, .ref o), (4, .int x4)]) hx hb dL_law_1339 hl (by decide) rfl (fun ls hl => ?_)
  refine lv_aload_n hx hb dL_law_1341 rfl (lv_at hl 3 rfl) ?_
  refine lv_aload_n hx hb dL_law_1342 rfl (lv_at hl 1 rfl) ?_
  refine lv_iload hx hb dL_law_1343 (lv_at hl 5 rfl) ?_
  refine lv_iconst (v := (1 : Int32)) hx hb dL_law_1345 (by decide) ?_
  refine lv_iadd hx hb dL_law_1346 ?_
  refine va_sld hx hb hXs hbl hbA hS (hin 1 (by decide) (by decide)) dL_law_1347 ?_
  refine va_calli (va_runV (As := [.int (xs (x4 + (1 : Int32)).toNatClampNeg)]) (rest := []) ⟨hx, hb, hml, hown, htb⟩ (kcX8_add l D cm qm evm hevm σm (xs (x4 + (1 : Int32)).toNatClampNeg) _ hw) (tb_CW htb kX8_add tb_1555 tb_1556 tb_1557 ⟨Nat.le_of_ble_eq_true rfl, Nat.le_of_ble_eq_true rfl⟩) (ml_pre hevm hKm hPm (hDm σm) hEm (fun a h1 _ => hS.2.1 a h1 (Nat.not_le.mpr h1))) rfl rfl hl.1 rfl (lv_room (Nat.le_of_ble_eq_true rfl)) dL_law_1348 ⟨by show (_ : Nat) + 0 ≤ 601024; omega, by show (_ : Nat) + 0 ≤ 7293034; omega⟩) hS (fun a _ h => hmA a h) (fun a h => hmA a h) (fun bb σm1 t H1 locs1 ht hvm hw hB hz1 hk1 hS => ?_)
  have hPm : va_P D vwCl (mw cm qm σm1) H1 := ht ▸ hB
  have hPx := va_keep hPx (hDx u.1) (fun a h1 h2 => hmx a h2 h1) hk1
  have hPo := va_keep hPo hlO_D (fun a h hm9 => hom (h ▸ hm9)) hk1
  refine lv_istore (lv' := [(6, .int bb), (5, .int kk), (0, .ref b), (1, .ref (qx 0)), (2, .ref (qm 0)), (3, .ref o), (4, .int x4)]) hx hb dL_law_1351 hl (by decide) rfl (fun ls hl => ?_)
  refine lv_aload_n hx hb dL_law_1353 rfl (lv_at hl 4 rfl) ?_
  refine va_calli (va_runV (As := []) (rest := []) ⟨hx, hb, hml, hown, htb⟩ (kcX8_thrown l D cm qm evm hevm σm1  _ hw) (tb_CW htb kX8_thrown tb_1354 tb_1355 tb_1356 ⟨Nat.le_of_ble_eq_true rfl, Nat.le_of_ble_eq_true rfl⟩) (ml_pre hevm hKm hPm (hDm σm1) hEm (fun a h1 _ => hS.2.1 a h1 (Nat.not_le.mpr h1))) rfl rfl hl.1 rfl (lv_room (Nat.le_of_ble_eq_true rfl)) dL_law_1354 ⟨by show (_ : Nat) + 0 ≤ 601024; omega, by show (_ : Nat) + 0 ≤ 7293034; omega⟩) hS (fun a _ h => hmA a h) (fun a h => hmA a h) (fun th σm2 t H1 locs1 ht hvm hw hB hz1 hk1 hS => ?_)
  have hPm : va_P D vwCl (mw cm qm σm2) H1 := ht ▸ hB
  have hPx := va_keep hPx (hDx u.1) (fun a h1 h2 => hmx a h2 h1) hk1
  have hPo := va_keep hPo hlO_D (fun a h hm9 => hom (h ▸ hm9)) hk1
  refine lv_iload hx hb dL_law_1357 (lv_at hl 1 rfl) ?_
  refine lv_icmp_eq (tgt := 1364) hx hb dL_law_1359 (by decide) (fun _ => ?_) (fun h9 => absurd hw.1 h9)
  refine lv_iload hx hb dL_law_1364 (lv_at hl 1 rfl) ?_
  refine lv_if_ne (tgt := 1381) hx hb dL_law_1366 (by decide) (fun c1 => ?_) (fun c1 => ?_)
  · refine lv_goto (tgt := 1813) hx hb dL_law_1381 (by decide) ?_
    refine W.widen (k := k + 16) (n := n6 + 96) (by omega) (by omega) ?_
    exact hnext u.1 σm2 u.2 _ _ _ hw.2.2 hPx hPm hPo hS (lv_sub hl [2, 3, 4, 5, 6] rfl)
  · refine lv_aload_n hx hb dL_law_1369 rfl (lv_at hl 5 rfl) ?_
    refine lv_iconst (v := (0 : Int32)) hx hb dL_law_1370 (by decide) ?_
    refine va_lald hx hb hKo hPo 0 0 rfl rfl (by unfold vp_in; decide) dL_law_1371 ?_
    refine lv_iload hx hb dL_law_1372 (lv_at hl 0 rfl) ?_
    refine lv_i2l hx hb dL_law_1374 rfl ?_
    refine W.lcmp hx hb dL_law_1375 ?_
    refine lv_if_eq (tgt := 1381) hx hb dL_law_1376 (by decide) (fun _ => ?_) (fun h9 => absurd (lcmp_eq.mpr (hw.2.1 c1)) h9)
    refine lv_goto (tgt := 1813) hx hb dL_law_1381 (by decide) ?_
    refine W.widen (k := k + 16) (n := n6 + 96) (by omega) (by omega) ?_
    exact hnext u.1 σm2 u.2 _ _ _ hw.2.2 hPx hPm hPo hS (lv_sub hl [2, 3, 4, 5, 6] rfl)
set_option maxHeartbeats 8000000 in
set_option maxRecDepth 100000 in
theorem lc_26 {p : Program} {e : Env} {s : State} {m : MethodId} {below : List Frame} {meth : Method} {c₀ : Code} {l : Launch} {b L : Nat} {xs : Nat → Int32} {D : va_G} {cx cm : Nat → ClassId} {qx qm : Nat → Nat} {co : ClassId} {o tF : Nat} {evx evm : State → Heap → Prop} {adK adV : Nat → Nat} (C0 : lw_At p s m meth c₀ b L xs) (hst : l.stackTraces = false) (hs : lwS s D cx qx cm qm co o evx evm tF adK adV) (R Rn : hsS → hsS → Prop) (O : ∀ (f : Nat → Int64) (a1 : Int32) (σx σm : hsS), R σx σm → lo_26 f a1 Rn σx σm) (x4 : Int32) (hin : ∀ j : Nat, 0 < j → j < 6 → vp_in (x4 + nI j) L) (σx σm : hsS) (f : Nat → Int64) (k n6 : Nat) (hk : k + 16 ≤ 600000 ∧ n6 + 96 ≤ 7000000) (H : Heap) (locs : List Loc) (ls : Array Slot) (hR : R σx σm) (hPx : va_P D vwCl (xw cx qx σx) H) (hPm : va_P D vwCl (mw cm qm σm) H) (hPo : va_P D vwCl (hlO co o f) H) (hS : va_S (fun q : Nat => s.heap.size ≤ q) s.heap H locs) (hl : lv_has ls 7 [(0, .ref b), (1, .ref (qx 0)), (2, .ref (qm 0)), (3, .ref o), (4, .int x4)]) (hnext : ∀ (σx σm : hsS) (f : Nat → Int64) (H : Heap) (locs : List Loc) (ls : Array Slot), Rn σx σm → va_P D vwCl (xw cx qx σx) H → va_P D vwCl (mw cm qm σm) H → va_P D vwCl (hlO co o f) H → va_S (fun q : Nat => s.heap.size ≤ q) s.heap H locs → lv_has ls 7 [(0, .ref b), (1, .ref (qx 0)), (2, .ref (qm 0)), (3, .ref o), (4, .int x4)] → W p l e room_1 s m #[Value.ref b] below meth c₀ H locs (k + 16) (n6 + 96) (lw_Z below #[Value.ref b] s) (F0 m 1813 ls [])) : W p l e room_1 s m #[Value.ref b] below meth c₀ H locs k n6 (lw_Z below #[Value.ref b] s) (F0 m 1384 ls []) := by
  obtain ⟨hx, hb, hr, hml, hown, hts, hXs, hbl, hlocks, hgv⟩ := C0
  obtain ⟨⟨hKx, hKm, hKo⟩, ⟨hDx, hDm⟩, ⟨hox, hmx, hom⟩, ⟨hxA, hmA, hoS⟩, ⟨hevx, hEx, hevm, hEm⟩, hXx, hF, hZx, hZm⟩ := hs
  have hbA : ¬ (fun q : Nat => s.heap.size ≤ q) b := Nat.not_le.mpr hbl
  have hoA : ∀ a, hlA qx o a → s.heap.size ≤ a := fun a h => h.elim (hxA a) (fun h => by rw [h]; exact hoS)
  have htb : ∀ w ∈ tb_L, w.before #[Value.ref b] s = true := fun w h => hts w (tb_in h)
  have hw := O f (xs (x4 + (1 : Int32)).toNatClampNeg) σx σm hR
  unfold lo_26 at hw
  refine lv_aload_n hx hb dL_law_1384 rfl (lv_at hl 1 rfl) ?_
  refine lv_aload_n hx hb dL_law_1385 rfl (lv_at hl 0 rfl) ?_
  refine lv_iload hx hb dL_law_1386 (lv_at hl 4 rfl) ?_
  refine lv_iconst (v := (1 : Int32)) hx hb dL_law_1388 (by decide) ?_
  refine lv_iadd hx hb dL_law_1389 ?_
  refine va_sld hx hb hXs hbl hbA hS (hin 1 (by decide) (by decide)) dL_law_1390 ?_
  refine lv_aload_n hx hb dL_law_1391 rfl (lv_at hl 3 rfl) ?_
  refine va_calli (vx_runSW (As := [.ref (qx 0), .int (xs (x4 + (1 : Int32)).toNatClampNeg), .ref o]) (rest := []) ⟨hx, hb, hml, hown, htb⟩ (khL_ties l D cx qx evx hevx tF hF hst hXx co o σx f (xs (x4 + (1 : Int32)).toNatClampNeg) (fun (kk : Int32) (u : hsS × (Nat → Int64)) => wX8_ties (xs (x4 + (1 : Int32)).toNatClampNeg) (fun bb σm1 => wX8_thrown (fun th σm2 => th = kk ∧ (kk = (0 : Int32) → (u.2 0) = (bb.toInt64)) ∧ Rn u.1 σm2) σm1) σm) hw) (tb_CSW htb kw_ties tb_1107 tb_1108 ⟨Nat.le_of_ble_eq_true rfl, Nat.le_of_ble_eq_true rfl⟩) (hl_preS hevx hKx hKo hPx hPo (hDx σx) hox hEx (fun a h1 _ => hS.2.1 a h1 (Nat.not_le.mpr h1))) rfl rfl hl.1 rfl (lv_room (Nat.le_of_ble_eq_true rfl)) dL_law_1392 ⟨by show k + 1 ≤ 601024; omega, by show n6 + 6 ≤ 7293034; omega⟩) hS (fun a _ h => hoA a h) (fun a h => hoA a h) (fun kk u t H1 locs1 ht hvm hw hB hz1 hk1 hS => ?_)
  have hPx : va_P D vwCl (xw cx qx u.1) H1 := ht ▸ hB.1
  have hPo : va_P D vwCl (hlO co o u.2) H1 := ht ▸ hB.2
  have hPm := va_keep hPm (hDm σm) (fun a h1 h2 => h2.elim (hmx a h1) (fun h3 => hom (h3 ▸ h1))) hk1
  refine lv_istore (lv' := [(5, .int kk), (0, .ref b), (1, .ref (qx 0)), (2, .ref (qm 0)), (3, .ref o), (4, .int x4)]) hx hb dL_law_1395 hl (by decide) rfl (fun ls hl => ?_)
  refine lv_aload_n hx hb dL_law_1397 rfl (lv_at hl 3 rfl) ?_
  refine lv_aload_n hx hb dL_law_1398 rfl (lv_at hl 1 rfl) ?_
  refine lv_iload hx hb dL_law_1399 (lv_at hl 5 rfl) ?_
  refine lv_iconst (v := (1 : Int32)) hx hb dL_law_1401 (by decide) ?_
  refine lv_iadd hx hb dL_law_1402 ?_
  refine va_sld hx hb hXs hbl hbA hS (hin 1 (by decide) (by decide)) dL_law_1403 ?_
  refine va_calli (va_runV (As := [.int (xs (x4 + (1 : Int32)).toNatClampNeg)]) (rest := []) ⟨hx, hb, hml, hown, htb⟩ (kcX8_ties l D cm qm evm hevm σm (xs (x4 + (1 : Int32)).toNatClampNeg) _ hw) (tb_CW htb kX8_ties tb_1656 tb_1657 tb_1658 ⟨Nat.le_of_ble_eq_true rfl, Nat.le_of_ble_eq_true rfl⟩) (ml_pre hevm hKm hPm (hDm σm) hEm (fun a h1 _ => hS.2.1 a h1 (Nat.not_le.mpr h1))) rfl rfl hl.1 rfl (lv_room (Nat.le_of_ble_eq_true rfl)) dL_law_1404 ⟨by show (_ : Nat) + 0 ≤ 601024; omega, by show (_ : Nat) + 0 ≤ 7293034; omega⟩) hS (fun a _ h => hmA a h) (fun a h => hmA a h) (fun bb σm1 t H1 locs1 ht hvm hw hB hz1 hk1 hS => ?_)
  have hPm : va_P D vwCl (mw cm qm σm1) H1 := ht ▸ hB
  have hPx := va_keep hPx (hDx u.1) (fun a h1 h2 => hmx a h2 h1) hk1
  have hPo := va_keep hPo hlO_D (fun a h hm9 => hom (h ▸ hm9)) hk1
  refine lv_istore (lv' := [(6, .int bb), (5, .int kk), (0, .ref b), (1, .ref (qx 0)), (2, .ref (qm 0)), (3, .ref o), (4, .int x4)]) hx hb dL_law_1407 hl (by decide) rfl (fun ls hl => ?_)
  refine lv_aload_n hx hb dL_law_1409 rfl (lv_at hl 4 rfl) ?_
  refine va_calli (va_runV (As := []) (rest := []) ⟨hx, hb, hml, hown, htb⟩ (kcX8_thrown l D cm qm evm hevm σm1  _ hw) (tb_CW htb kX8_thrown tb_1354 tb_1355 tb_1356 ⟨Nat.le_of_ble_eq_true rfl, Nat.le_of_ble_eq_true rfl⟩) (ml_pre hevm hKm hPm (hDm σm1) hEm (fun a h1 _ => hS.2.1 a h1 (Nat.not_le.mpr h1))) rfl rfl hl.1 rfl (lv_room (Nat.le_of_ble_eq_true rfl)) dL_law_1410 ⟨by show (_ : Nat) + 0 ≤ 601024; omega, by show (_ : Nat) + 0 ≤ 7293034; omega⟩) hS (fun a _ h => hmA a h) (fun a h => hmA a h) (fun th σm2 t H1 locs1 ht hvm hw hB hz1 hk1 hS => ?_)
  have hPm : va_P D vwCl (mw cm qm σm2) H1 := ht ▸ hB
  have hPx := va_keep hPx (hDx u.1) (fun a h1 h2 => hmx a h2 h1) hk1
  have hPo := va_keep hPo hlO_D (fun a h hm9 => hom (h ▸ hm9)) hk1
  refine lv_iload hx hb dL_law_1413 (lv_at hl 1 rfl) ?_
  refine lv_icmp_eq (tgt := 1420) hx hb dL_law_1415 (by decide) (fun _ => ?_) (fun h9 => absurd hw.1 h9)
  refine lv_iload hx hb dL_law_1420 (lv_at hl 1 rfl) ?_
  refine lv_if_ne (tgt := 1437) hx hb dL_law_1422 (by decide) (fun c1 => ?_) (fun c1 => ?_)
  · refine lv_goto (tgt := 1813) hx hb dL_law_1437 (by decide) ?_
    refine W.widen (k := k + 16) (n := n6 + 96) (by omega) (by omega) ?_
    exact hnext u.1 σm2 u.2 _ _ _ hw.2.2 hPx hPm hPo hS (lv_sub hl [2, 3, 4, 5, 6] rfl)
  · refine lv_aload_n hx hb dL_law_1425 rfl (lv_at hl 5 rfl) ?_
    refine lv_iconst (v := (0 : Int32)) hx hb dL_law_1426 (by decide) ?_
    refine va_lald hx hb hKo hPo 0 0 rfl rfl (by unfold vp_in; decide) dL_law_1427 ?_
    refine lv_iload hx hb dL_law_1428 (lv_at hl 0 rfl) ?_
    refine lv_i2l hx hb dL_law_1430 rfl ?_
    refine W.lcmp hx hb dL_law_1431 ?_
    refine lv_if_eq (tgt := 1437) hx hb dL_law_1432 (by decide) (fun _ => ?_) (fun h9 => absurd (lcmp_eq.mpr (hw.2.1 c1)) h9)
    refine lv_goto (tgt := 1813) hx hb dL_law_1437 (by decide) ?_
    refine W.widen (k := k + 16) (n := n6 + 96) (by omega) (by omega) ?_
    exact hnext u.1 σm2 u.2 _ _ _ hw.2.2 hPx hPm hPo hS (lv_sub hl [2, 3, 4, 5, 6] rfl)
set_option maxHeartbeats 8000000 in
set_option maxRecDepth 100000 in
theorem lc_27 {p : Program} {e : Env} {s : State} {m : MethodId} {below : List Frame} {meth : Method} {c₀ : Code} {l : Launch} {b L : Nat} {xs : Nat → Int32} {D : va_G} {cx cm : Nat → ClassId} {qx qm : Nat → Nat} {co : ClassId} {o tF : Nat} {evx evm : State → Heap → Prop} {adK adV : Nat → Nat} (C0 : lw_At p s m meth c₀ b L xs) (hst : l.stackTraces = false) (hs : lwS s D cx qx cm qm co o evx evm tF adK adV) (R Rn : hsS → hsS → Prop) (O : ∀  (σx σm : hsS), R σx σm → lo_27  Rn σx σm) (x4 : Int32) (hin : ∀ j : Nat, 0 < j → j < 6 → vp_in (x4 + nI j) L) (σx σm : hsS) (f : Nat → Int64) (k n6 : Nat) (hk : k + 16 ≤ 600000 ∧ n6 + 96 ≤ 7000000) (H : Heap) (locs : List Loc) (ls : Array Slot) (hR : R σx σm) (hPx : va_P D vwCl (xw cx qx σx) H) (hPm : va_P D vwCl (mw cm qm σm) H) (hPo : va_P D vwCl (hlO co o f) H) (hS : va_S (fun q : Nat => s.heap.size ≤ q) s.heap H locs) (hl : lv_has ls 7 [(0, .ref b), (1, .ref (qx 0)), (2, .ref (qm 0)), (3, .ref o), (4, .int x4)]) (hnext : ∀ (σx σm : hsS) (f : Nat → Int64) (H : Heap) (locs : List Loc) (ls : Array Slot), Rn σx σm → va_P D vwCl (xw cx qx σx) H → va_P D vwCl (mw cm qm σm) H → va_P D vwCl (hlO co o f) H → va_S (fun q : Nat => s.heap.size ≤ q) s.heap H locs → lv_has ls 7 [(0, .ref b), (1, .ref (qx 0)), (2, .ref (qm 0)), (3, .ref o), (4, .int x4)] → W p l e room_1 s m #[Value.ref b] below meth c₀ H locs (k + 16) (n6 + 96) (lw_Z below #[Value.ref b] s) (F0 m 1813 ls [])) : W p l e room_1 s m #[Value.ref b] below meth c₀ H locs k n6 (lw_Z below #[Value.ref b] s) (F0 m 1440 ls []) := by
  obtain ⟨hx, hb, hr, hml, hown, hts, hXs, hbl, hlocks, hgv⟩ := C0
  obtain ⟨⟨hKx, hKm, hKo⟩, ⟨hDx, hDm⟩, ⟨hox, hmx, hom⟩, ⟨hxA, hmA, hoS⟩, ⟨hevx, hEx, hevm, hEm⟩, hXx, hF, hZx, hZm⟩ := hs
  have hbA : ¬ (fun q : Nat => s.heap.size ≤ q) b := Nat.not_le.mpr hbl
  have hoA : ∀ a, hlA qx o a → s.heap.size ≤ a := fun a h => h.elim (hxA a) (fun h => by rw [h]; exact hoS)
  have htb : ∀ w ∈ tb_L, w.before #[Value.ref b] s = true := fun w h => hts w (tb_in h)
  have hw := O  σx σm hR
  unfold lo_27 at hw
  refine lv_aload_n hx hb dL_law_1440 rfl (lv_at hl 1 rfl) ?_
  refine va_calli (va_runV (As := []) (rest := []) ⟨hx, hb, hml, hown, htb⟩ (kcX7_ask l D cx qx evx hevx tF hF σx  _ hw) (tb_CW htb kX7_ask tb_538 tb_539 tb_540 ⟨Nat.le_of_ble_eq_true rfl, Nat.le_of_ble_eq_true rfl⟩) (hl_pre hevx hKx hPx (hDx σx) hEx (fun a h1 _ => hS.2.1 a h1 (Nat.not_le.mpr h1))) rfl rfl hl.1 rfl (lv_room (Nat.le_of_ble_eq_true rfl)) dL_law_1441 ⟨by show (_ : Nat) + 0 ≤ 601024; omega, by show (_ : Nat) + 0 ≤ 7293034; omega⟩) hS (fun a _ h => hxA a h) (fun a h => hxA a h) (fun r σx1 t H1 locs1 ht hvm hw hB hz1 hk1 hS => ?_)
  have hPx : va_P D vwCl (xw cx qx σx1) H1 := ht ▸ hB
  have hPm := va_keep hPm (hDm σm) hmx hk1
  have hPo := va_keep hPo hlO_D (fun a h hx9 => hox (h ▸ hx9)) hk1
  refine lv_aload_n hx hb dL_law_1444 rfl (lv_at hl 2 rfl) ?_
  refine va_calli (va_runV (As := []) (rest := [.int r]) ⟨hx, hb, hml, hown, htb⟩ (kcX8_ask l D cm qm evm hevm σm  _ hw) (tb_CW htb kX8_ask tb_1672 tb_1673 tb_1674 ⟨Nat.le_of_ble_eq_true rfl, Nat.le_of_ble_eq_true rfl⟩) (ml_pre hevm hKm hPm (hDm σm) hEm (fun a h1 _ => hS.2.1 a h1 (Nat.not_le.mpr h1))) rfl rfl hl.1 rfl (lv_room (Nat.le_of_ble_eq_true rfl)) dL_law_1445 ⟨by show (_ : Nat) + 0 ≤ 601024; omega, by show (_ : Nat) + 0 ≤ 7293034; omega⟩) hS (fun a _ h => hmA a h) (fun a h => hmA a h) (fun bb σm1 t H1 locs1 ht hvm hw hB hz1 hk1 hS => ?_)
  have hPm : va_P D vwCl (mw cm qm σm1) H1 := ht ▸ hB
  have hPx := va_keep hPx (hDx σx1) (fun a h1 h2 => hmx a h2 h1) hk1
  have hPo := va_keep hPo hlO_D (fun a h hm9 => hom (h ▸ hm9)) hk1
  refine lv_icmp_eq (tgt := 1813) hx hb dL_law_1448 (by decide) (fun _ => ?_) (fun h9 => absurd hw.1 h9)
  refine W.widen (k := k + 16) (n := n6 + 96) (by omega) (by omega) ?_
  exact hnext σx1 σm1 f _ _ _ hw.2 hPx hPm hPo hS (lv_sub hl [0, 1, 2, 3, 4] rfl)
set_option maxHeartbeats 8000000 in
set_option maxRecDepth 100000 in
theorem lc_28 {p : Program} {e : Env} {s : State} {m : MethodId} {below : List Frame} {meth : Method} {c₀ : Code} {l : Launch} {b L : Nat} {xs : Nat → Int32} {D : va_G} {cx cm : Nat → ClassId} {qx qm : Nat → Nat} {co : ClassId} {o tF : Nat} {evx evm : State → Heap → Prop} {adK adV : Nat → Nat} (C0 : lw_At p s m meth c₀ b L xs) (hst : l.stackTraces = false) (hs : lwS s D cx qx cm qm co o evx evm tF adK adV) (R Rn : hsS → hsS → Prop) (O : ∀ (a1 : Int32) (a2 : Int64) (σx σm : hsS), R σx σm → lo_28 a1 a2 Rn σx σm) (x4 : Int32) (hin : ∀ j : Nat, 0 < j → j < 6 → vp_in (x4 + nI j) L) (σx σm : hsS) (f : Nat → Int64) (k n6 : Nat) (hk : k + 16 ≤ 600000 ∧ n6 + 96 ≤ 7000000) (H : Heap) (locs : List Loc) (ls : Array Slot) (hR : R σx σm) (hPx : va_P D vwCl (xw cx qx σx) H) (hPm : va_P D vwCl (mw cm qm σm) H) (hPo : va_P D vwCl (hlO co o f) H) (hS : va_S (fun q : Nat => s.heap.size ≤ q) s.heap H locs) (hl : lv_has ls 7 [(0, .ref b), (1, .ref (qx 0)), (2, .ref (qm 0)), (3, .ref o), (4, .int x4)]) (hnext : ∀ (σx σm : hsS) (f : Nat → Int64) (H : Heap) (locs : List Loc) (ls : Array Slot), Rn σx σm → va_P D vwCl (xw cx qx σx) H → va_P D vwCl (mw cm qm σm) H → va_P D vwCl (hlO co o f) H → va_S (fun q : Nat => s.heap.size ≤ q) s.heap H locs → lv_has ls 7 [(0, .ref b), (1, .ref (qx 0)), (2, .ref (qm 0)), (3, .ref o), (4, .int x4)] → W p l e room_1 s m #[Value.ref b] below meth c₀ H locs (k + 16) (n6 + 96) (lw_Z below #[Value.ref b] s) (F0 m 1813 ls [])) : W p l e room_1 s m #[Value.ref b] below meth c₀ H locs k n6 (lw_Z below #[Value.ref b] s) (F0 m 1453 ls []) := by
  obtain ⟨hx, hb, hr, hml, hown, hts, hXs, hbl, hlocks, hgv⟩ := C0
  obtain ⟨⟨hKx, hKm, hKo⟩, ⟨hDx, hDm⟩, ⟨hox, hmx, hom⟩, ⟨hxA, hmA, hoS⟩, ⟨hevx, hEx, hevm, hEm⟩, hXx, hF, hZx, hZm⟩ := hs
  have hbA : ¬ (fun q : Nat => s.heap.size ≤ q) b := Nat.not_le.mpr hbl
  have hoA : ∀ a, hlA qx o a → s.heap.size ≤ a := fun a h => h.elim (hxA a) (fun h => by rw [h]; exact hoS)
  have htb : ∀ w ∈ tb_L, w.before #[Value.ref b] s = true := fun w h => hts w (tb_in h)
  have hw := O (xs (x4 + (1 : Int32)).toNatClampNeg) (((xs (x4 + (2 : Int32)).toNatClampNeg).toInt64 <<< ((32 : Int32).toInt64 &&& 63)) ||| ((xs (x4 + (3 : Int32)).toNatClampNeg).toInt64 &&& (4294967295 : Int64))) σx σm hR
  unfold lo_28 at hw
  refine lv_aload_n hx hb dL_law_1453 rfl (lv_at hl 1 rfl) ?_
  refine lv_aload_n hx hb dL_law_1454 rfl (lv_at hl 0 rfl) ?_
  refine lv_iload hx hb dL_law_1455 (lv_at hl 4 rfl) ?_
  refine lv_iconst (v := (1 : Int32)) hx hb dL_law_1457 (by decide) ?_
  refine lv_iadd hx hb dL_law_1458 ?_
  refine va_sld hx hb hXs hbl hbA hS (hin 1 (by decide) (by decide)) dL_law_1459 ?_
  refine lv_aload_n hx hb dL_law_1460 rfl (lv_at hl 0 rfl) ?_
  refine lv_iload hx hb dL_law_1461 (lv_at hl 4 rfl) ?_
  refine lv_iconst (v := (2 : Int32)) hx hb dL_law_1463 (by decide) ?_
  refine lv_iadd hx hb dL_law_1464 ?_
  refine va_sld hx hb hXs hbl hbA hS (hin 2 (by decide) (by decide)) dL_law_1465 ?_
  refine lv_i2l hx hb dL_law_1466 rfl ?_
  refine lv_bipush (v := (32 : Int32)) hx hb dL_law_1467 (by decide) ?_
  refine lv_lshl hx hb dL_law_1469 rfl ?_
  refine lv_aload_n hx hb dL_law_1470 rfl (lv_at hl 0 rfl) ?_
  refine lv_iload hx hb dL_law_1471 (lv_at hl 4 rfl) ?_
  refine lv_iconst (v := (3 : Int32)) hx hb dL_law_1473 (by decide) ?_
  refine lv_iadd hx hb dL_law_1474 ?_
  refine va_sld hx hb hXs hbl hbA hS (hin 3 (by decide) (by decide)) dL_law_1475 ?_
  refine lv_i2l hx hb dL_law_1476 rfl ?_
  refine lv_ldc2 hx hb hown (htb _ tb_1711) dL_law_1477 ?_
  refine lv_land hx hb dL_law_1480 ?_
  refine lv_lor hx hb dL_law_1481 ?_
  refine va_calli (va_runV (As := [.int (xs (x4 + (1 : Int32)).toNatClampNeg), .long (((xs (x4 + (2 : Int32)).toNatClampNeg).toInt64 <<< ((32 : Int32).toInt64 &&& 63)) ||| ((xs (x4 + (3 : Int32)).toNatClampNeg).toInt64 &&& (4294967295 : Int64)))]) (rest := []) ⟨hx, hb, hml, hown, htb⟩ (kcX7_row l D cx qx evx hevx σx (xs (x4 + (1 : Int32)).toNatClampNeg) (((xs (x4 + (2 : Int32)).toNatClampNeg).toInt64 <<< ((32 : Int32).toInt64 &&& 63)) ||| ((xs (x4 + (3 : Int32)).toNatClampNeg).toInt64 &&& (4294967295 : Int64))) _ hw) (tb_CW htb kX7_row tb_618 tb_619 tb_620 ⟨Nat.le_of_ble_eq_true rfl, Nat.le_of_ble_eq_true rfl⟩) (hl_pre hevx hKx hPx (hDx σx) hEx (fun a h1 _ => hS.2.1 a h1 (Nat.not_le.mpr h1))) rfl rfl hl.1 rfl (lv_room (Nat.le_of_ble_eq_true rfl)) dL_law_1482 ⟨by show (_ : Nat) + 0 ≤ 601024; omega, by show (_ : Nat) + 0 ≤ 7293034; omega⟩) hS (fun a _ h => hxA a h) (fun a h => hxA a h) (fun r σx1 t H1 locs1 ht hvm hw hB hz1 hk1 hS => ?_)
  have hPx : va_P D vwCl (xw cx qx σx1) H1 := ht ▸ hB
  have hPm := va_keep hPm (hDm σm) hmx hk1
  have hPo := va_keep hPo hlO_D (fun a h hx9 => hox (h ▸ hx9)) hk1
  refine lv_aload_n hx hb dL_law_1485 rfl (lv_at hl 2 rfl) ?_
  refine lv_aload_n hx hb dL_law_1486 rfl (lv_at hl 0 rfl) ?_
  refine lv_iload hx hb dL_law_1487 (lv_at hl 4 rfl) ?_
  refine lv_iconst (v := (1 : Int32)) hx hb dL_law_1489 (by decide) ?_
  refine lv_iadd hx hb dL_law_1490 ?_
  refine va_sld hx hb hXs hbl hbA hS (hin 1 (by decide) (by decide)) dL_law_1491 ?_
  refine lv_aload_n hx hb dL_law_1492 rfl (lv_at hl 0 rfl) ?_
  refine lv_iload hx hb dL_law_1493 (lv_at hl 4 rfl) ?_
  refine lv_iconst (v := (2 : Int32)) hx hb dL_law_1495 (by decide) ?_
  refine lv_iadd hx hb dL_law_1496 ?_
  refine va_sld hx hb hXs hbl hbA hS (hin 2 (by decide) (by decide)) dL_law_1497 ?_
  refine lv_i2l hx hb dL_law_1498 rfl ?_
  refine lv_bipush (v := (32 : Int32)) hx hb dL_law_1499 (by decide) ?_
  refine lv_lshl hx hb dL_law_1501 rfl ?_
  refine lv_aload_n hx hb dL_law_1502 rfl (lv_at hl 0 rfl) ?_
  refine lv_iload hx hb dL_law_1503 (lv_at hl 4 rfl) ?_
  refine lv_iconst (v := (3 : Int32)) hx hb dL_law_1505 (by decide) ?_
  refine lv_iadd hx hb dL_law_1506 ?_
  refine va_sld hx hb hXs hbl hbA hS (hin 3 (by decide) (by decide)) dL_law_1507 ?_
  refine lv_i2l hx hb dL_law_1508 rfl ?_
  refine lv_ldc2 hx hb hown (htb _ tb_1711) dL_law_1509 ?_
  refine lv_land hx hb dL_law_1512 ?_
  refine lv_lor hx hb dL_law_1513 ?_
  refine va_calli (va_runV (As := [.int (xs (x4 + (1 : Int32)).toNatClampNeg), .long (((xs (x4 + (2 : Int32)).toNatClampNeg).toInt64 <<< ((32 : Int32).toInt64 &&& 63)) ||| ((xs (x4 + (3 : Int32)).toNatClampNeg).toInt64 &&& (4294967295 : Int64)))]) (rest := [.int r]) ⟨hx, hb, hml, hown, htb⟩ (kcX8_row l D cm qm evm hevm σm (xs (x4 + (1 : Int32)).toNatClampNeg) (((xs (x4 + (2 : Int32)).toNatClampNeg).toInt64 <<< ((32 : Int32).toInt64 &&& 63)) ||| ((xs (x4 + (3 : Int32)).toNatClampNeg).toInt64 &&& (4294967295 : Int64))) _ hw) (tb_CW htb kX8_row tb_1676 tb_1677 tb_1678 ⟨Nat.le_of_ble_eq_true rfl, Nat.le_of_ble_eq_true rfl⟩) (ml_pre hevm hKm hPm (hDm σm) hEm (fun a h1 _ => hS.2.1 a h1 (Nat.not_le.mpr h1))) rfl rfl hl.1 rfl (lv_room (Nat.le_of_ble_eq_true rfl)) dL_law_1514 ⟨by show (_ : Nat) + 0 ≤ 601024; omega, by show (_ : Nat) + 0 ≤ 7293034; omega⟩) hS (fun a _ h => hmA a h) (fun a h => hmA a h) (fun bb σm1 t H1 locs1 ht hvm hw hB hz1 hk1 hS => ?_)
  have hPm : va_P D vwCl (mw cm qm σm1) H1 := ht ▸ hB
  have hPx := va_keep hPx (hDx σx1) (fun a h1 h2 => hmx a h2 h1) hk1
  have hPo := va_keep hPo hlO_D (fun a h hm9 => hom (h ▸ hm9)) hk1
  refine lv_icmp_eq (tgt := 1813) hx hb dL_law_1517 (by decide) (fun _ => ?_) (fun h9 => absurd hw.1 h9)
  refine W.widen (k := k + 16) (n := n6 + 96) (by omega) (by omega) ?_
  exact hnext σx1 σm1 f _ _ _ hw.2 hPx hPm hPo hS (lv_sub hl [0, 1, 2, 3, 4] rfl)
set_option maxHeartbeats 8000000 in
set_option maxRecDepth 100000 in
theorem lc_29 {p : Program} {e : Env} {s : State} {m : MethodId} {below : List Frame} {meth : Method} {c₀ : Code} {l : Launch} {b L : Nat} {xs : Nat → Int32} {D : va_G} {cx cm : Nat → ClassId} {qx qm : Nat → Nat} {co : ClassId} {o tF : Nat} {evx evm : State → Heap → Prop} {adK adV : Nat → Nat} (C0 : lw_At p s m meth c₀ b L xs) (hst : l.stackTraces = false) (hs : lwS s D cx qx cm qm co o evx evm tF adK adV) (R Rn : hsS → hsS → Prop) (O : ∀ (f : Nat → Int64) (a1 a2 : Int32) (σx σm : hsS), R σx σm → lo_29 f a1 a2 Rn σx σm) (x4 : Int32) (hin : ∀ j : Nat, 0 < j → j < 6 → vp_in (x4 + nI j) L) (σx σm : hsS) (f : Nat → Int64) (k n6 : Nat) (hk : k + 16 ≤ 600000 ∧ n6 + 96 ≤ 7000000) (H : Heap) (locs : List Loc) (ls : Array Slot) (hR : R σx σm) (hPx : va_P D vwCl (xw cx qx σx) H) (hPm : va_P D vwCl (mw cm qm σm) H) (hPo : va_P D vwCl (hlO co o f) H) (hS : va_S (fun q : Nat => s.heap.size ≤ q) s.heap H locs) (hl : lv_has ls 7 [(0, .ref b), (1, .ref (qx 0)), (2, .ref (qm 0)), (3, .ref o), (4, .int x4)]) (hnext : ∀ (σx σm : hsS) (f : Nat → Int64) (H : Heap) (locs : List Loc) (ls : Array Slot), Rn σx σm → va_P D vwCl (xw cx qx σx) H → va_P D vwCl (mw cm qm σm) H → va_P D vwCl (hlO co o f) H → va_S (fun q : Nat => s.heap.size ≤ q) s.heap H locs → lv_has ls 7 [(0, .ref b), (1, .ref (qx 0)), (2, .ref (qm 0)), (3, .ref o), (4, .int x4)] → W p l e room_1 s m #[Value.ref b] below meth c₀ H locs (k + 16) (n6 + 96) (lw_Z below #[Value.ref b] s) (F0 m 1813 ls [])) : W p l e room_1 s m #[Value.ref b] below meth c₀ H locs k n6 (lw_Z below #[Value.ref b] s) (F0 m 1522 ls []) := by
  obtain ⟨hx, hb, hr, hml, hown, hts, hXs, hbl, hlocks, hgv⟩ := C0
  obtain ⟨⟨hKx, hKm, hKo⟩, ⟨hDx, hDm⟩, ⟨hox, hmx, hom⟩, ⟨hxA, hmA, hoS⟩, ⟨hevx, hEx, hevm, hEm⟩, hXx, hF, hZx, hZm⟩ := hs
  have hbA : ¬ (fun q : Nat => s.heap.size ≤ q) b := Nat.not_le.mpr hbl
  have hoA : ∀ a, hlA qx o a → s.heap.size ≤ a := fun a h => h.elim (hxA a) (fun h => by rw [h]; exact hoS)
  have htb : ∀ w ∈ tb_L, w.before #[Value.ref b] s = true := fun w h => hts w (tb_in h)
  have hw := O f (xs (x4 + (1 : Int32)).toNatClampNeg) (xs (x4 + (2 : Int32)).toNatClampNeg) σx σm hR
  unfold lo_29 at hw
  refine lv_aload_n hx hb dL_law_1522 rfl (lv_at hl 1 rfl) ?_
  refine lv_aload_n hx hb dL_law_1523 rfl (lv_at hl 0 rfl) ?_
  refine lv_iload hx hb dL_law_1524 (lv_at hl 4 rfl) ?_
  refine lv_iconst (v := (1 : Int32)) hx hb dL_law_1526 (by decide) ?_
  refine lv_iadd hx hb dL_law_1527 ?_
  refine va_sld hx hb hXs hbl hbA hS (hin 1 (by decide) (by decide)) dL_law_1528 ?_
  refine lv_aload_n hx hb dL_law_1529 rfl (lv_at hl 0 rfl) ?_
  refine lv_iload hx hb dL_law_1530 (lv_at hl 4 rfl) ?_
  refine lv_iconst (v := (2 : Int32)) hx hb dL_law_1532 (by decide) ?_
  refine lv_iadd hx hb dL_law_1533 ?_
  refine va_sld hx hb hXs hbl hbA hS (hin 2 (by decide) (by decide)) dL_law_1534 ?_
  refine lv_aload_n hx hb dL_law_1535 rfl (lv_at hl 3 rfl) ?_
  refine va_calli (vx_runSW (As := [.ref (qx 0), .int (xs (x4 + (1 : Int32)).toNatClampNeg), .int (xs (x4 + (2 : Int32)).toNatClampNeg), .ref o]) (rest := []) ⟨hx, hb, hml, hown, htb⟩ (khL_judge l D cx qx evx hevx hst hXx co o σx f (xs (x4 + (1 : Int32)).toNatClampNeg) (xs (x4 + (2 : Int32)).toNatClampNeg) (fun (kk : Int32) (u : hsS × (Nat → Int64)) => wX8_judge (xs (x4 + (1 : Int32)).toNatClampNeg) (xs (x4 + (2 : Int32)).toNatClampNeg) (fun bb σm1 => wX8_thrown (fun th σm2 => th = kk ∧ (kk = (0 : Int32) → (u.2 0) = (bb.toInt64)) ∧ Rn u.1 σm2) σm1) σm) hw) (tb_CSW htb kw_judge tb_1115 tb_1116 ⟨Nat.le_of_ble_eq_true rfl, Nat.le_of_ble_eq_true rfl⟩) (hl_preS hevx hKx hKo hPx hPo (hDx σx) hox hEx (fun a h1 _ => hS.2.1 a h1 (Nat.not_le.mpr h1))) rfl rfl hl.1 rfl (lv_room (Nat.le_of_ble_eq_true rfl)) dL_law_1536 ⟨by show k + 2 ≤ 601024; omega, by show n6 + 12 ≤ 7293034; omega⟩) hS (fun a _ h => hoA a h) (fun a h => hoA a h) (fun kk u t H1 locs1 ht hvm hw hB hz1 hk1 hS => ?_)
  have hPx : va_P D vwCl (xw cx qx u.1) H1 := ht ▸ hB.1
  have hPo : va_P D vwCl (hlO co o u.2) H1 := ht ▸ hB.2
  have hPm := va_keep hPm (hDm σm) (fun a h1 h2 => h2.elim (hmx a h1) (fun h3 => hom (h3 ▸ h1))) hk1
  refine lv_istore (lv' := [(5, .int kk), (0, .ref b), (1, .ref (qx 0)), (2, .ref (qm 0)), (3, .ref o), (4, .int x4)]) hx hb dL_law_1539 hl (by decide) rfl (fun ls hl => ?_)
  refine lv_aload_n hx hb dL_law_1541 rfl (lv_at hl 3 rfl) ?_
  refine lv_aload_n hx hb dL_law_1542 rfl (lv_at hl 1 rfl) ?_
  refine lv_iload hx hb dL_law_1543 (lv_at hl 5 rfl) ?_
  refine lv_iconst (v := (1 : Int32)) hx hb dL_law_1545 (by decide) ?_
  refine lv_iadd hx hb dL_law_1546 ?_
  refine va_sld hx hb hXs hbl hbA hS (hin 1 (by decide) (by decide)) dL_law_1547 ?_
  refine lv_aload_n hx hb dL_law_1548 rfl (lv_at hl 1 rfl) ?_
  refine lv_iload hx hb dL_law_1549 (lv_at hl 5 rfl) ?_
  refine lv_iconst (v := (2 : Int32)) hx hb dL_law_1551 (by decide) ?_
  refine lv_iadd hx hb dL_law_1552 ?_
  refine va_sld hx hb hXs hbl hbA hS (hin 2 (by decide) (by decide)) dL_law_1553 ?_
  refine va_calli (va_runV (As := [.int (xs (x4 + (1 : Int32)).toNatClampNeg), .int (xs (x4 + (2 : Int32)).toNatClampNeg)]) (rest := []) ⟨hx, hb, hml, hown, htb⟩ (kcX8_judge l D cm qm evm hevm σm (xs (x4 + (1 : Int32)).toNatClampNeg) (xs (x4 + (2 : Int32)).toNatClampNeg) _ hw) (tb_CW htb kX8_judge tb_1680 tb_1681 tb_1682 ⟨Nat.le_of_ble_eq_true rfl, Nat.le_of_ble_eq_true rfl⟩) (ml_pre hevm hKm hPm (hDm σm) hEm (fun a h1 _ => hS.2.1 a h1 (Nat.not_le.mpr h1))) rfl rfl hl.1 rfl (lv_room (Nat.le_of_ble_eq_true rfl)) dL_law_1554 ⟨by show (_ : Nat) + 0 ≤ 601024; omega, by show (_ : Nat) + 0 ≤ 7293034; omega⟩) hS (fun a _ h => hmA a h) (fun a h => hmA a h) (fun bb σm1 t H1 locs1 ht hvm hw hB hz1 hk1 hS => ?_)
  have hPm : va_P D vwCl (mw cm qm σm1) H1 := ht ▸ hB
  have hPx := va_keep hPx (hDx u.1) (fun a h1 h2 => hmx a h2 h1) hk1
  have hPo := va_keep hPo hlO_D (fun a h hm9 => hom (h ▸ hm9)) hk1
  refine lv_istore (lv' := [(6, .int bb), (5, .int kk), (0, .ref b), (1, .ref (qx 0)), (2, .ref (qm 0)), (3, .ref o), (4, .int x4)]) hx hb dL_law_1557 hl (by decide) rfl (fun ls hl => ?_)
  refine lv_aload_n hx hb dL_law_1559 rfl (lv_at hl 4 rfl) ?_
  refine va_calli (va_runV (As := []) (rest := []) ⟨hx, hb, hml, hown, htb⟩ (kcX8_thrown l D cm qm evm hevm σm1  _ hw) (tb_CW htb kX8_thrown tb_1354 tb_1355 tb_1356 ⟨Nat.le_of_ble_eq_true rfl, Nat.le_of_ble_eq_true rfl⟩) (ml_pre hevm hKm hPm (hDm σm1) hEm (fun a h1 _ => hS.2.1 a h1 (Nat.not_le.mpr h1))) rfl rfl hl.1 rfl (lv_room (Nat.le_of_ble_eq_true rfl)) dL_law_1560 ⟨by show (_ : Nat) + 0 ≤ 601024; omega, by show (_ : Nat) + 0 ≤ 7293034; omega⟩) hS (fun a _ h => hmA a h) (fun a h => hmA a h) (fun th σm2 t H1 locs1 ht hvm hw hB hz1 hk1 hS => ?_)
  have hPm : va_P D vwCl (mw cm qm σm2) H1 := ht ▸ hB
  have hPx := va_keep hPx (hDx u.1) (fun a h1 h2 => hmx a h2 h1) hk1
  have hPo := va_keep hPo hlO_D (fun a h hm9 => hom (h ▸ hm9)) hk1
  refine lv_iload hx hb dL_law_1563 (lv_at hl 1 rfl) ?_
  refine lv_icmp_eq (tgt := 1570) hx hb dL_law_1565 (by decide) (fun _ => ?_) (fun h9 => absurd hw.1 h9)
  refine lv_iload hx hb dL_law_1570 (lv_at hl 1 rfl) ?_
  refine lv_if_ne (tgt := 1587) hx hb dL_law_1572 (by decide) (fun c1 => ?_) (fun c1 => ?_)
  · refine lv_goto (tgt := 1813) hx hb dL_law_1587 (by decide) ?_
    refine W.widen (k := k + 16) (n := n6 + 96) (by omega) (by omega) ?_
    exact hnext u.1 σm2 u.2 _ _ _ hw.2.2 hPx hPm hPo hS (lv_sub hl [2, 3, 4, 5, 6] rfl)
  · refine lv_aload_n hx hb dL_law_1575 rfl (lv_at hl 5 rfl) ?_
    refine lv_iconst (v := (0 : Int32)) hx hb dL_law_1576 (by decide) ?_
    refine va_lald hx hb hKo hPo 0 0 rfl rfl (by unfold vp_in; decide) dL_law_1577 ?_
    refine lv_iload hx hb dL_law_1578 (lv_at hl 0 rfl) ?_
    refine lv_i2l hx hb dL_law_1580 rfl ?_
    refine W.lcmp hx hb dL_law_1581 ?_
    refine lv_if_eq (tgt := 1587) hx hb dL_law_1582 (by decide) (fun _ => ?_) (fun h9 => absurd (lcmp_eq.mpr (hw.2.1 c1)) h9)
    refine lv_goto (tgt := 1813) hx hb dL_law_1587 (by decide) ?_
    refine W.widen (k := k + 16) (n := n6 + 96) (by omega) (by omega) ?_
    exact hnext u.1 σm2 u.2 _ _ _ hw.2.2 hPx hPm hPo hS (lv_sub hl [2, 3, 4, 5, 6] rfl)
set_option maxHeartbeats 8000000 in
set_option maxRecDepth 100000 in
theorem lc_30 {p : Program} {e : Env} {s : State} {m : MethodId} {below : List Frame} {meth : Method} {c₀ : Code} {l : Launch} {b L : Nat} {xs : Nat → Int32} {D : va_G} {cx cm : Nat → ClassId} {qx qm : Nat → Nat} {co : ClassId} {o tF : Nat} {evx evm : State → Heap → Prop} {adK adV : Nat → Nat} (C0 : lw_At p s m meth c₀ b L xs) (hst : l.stackTraces = false) (hs : lwS s D cx qx cm qm co o evx evm tF adK adV) (R Rn : hsS → hsS → Prop) (O : ∀ (f : Nat → Int64) (a1 a2 a3 : Int32) (σx σm : hsS), R σx σm → lo_30 f a1 a2 a3 Rn σx σm) (x4 : Int32) (hin : ∀ j : Nat, 0 < j → j < 6 → vp_in (x4 + nI j) L) (σx σm : hsS) (f : Nat → Int64) (k n6 : Nat) (hk : k + 16 ≤ 600000 ∧ n6 + 96 ≤ 7000000) (H : Heap) (locs : List Loc) (ls : Array Slot) (hR : R σx σm) (hPx : va_P D vwCl (xw cx qx σx) H) (hPm : va_P D vwCl (mw cm qm σm) H) (hPo : va_P D vwCl (hlO co o f) H) (hS : va_S (fun q : Nat => s.heap.size ≤ q) s.heap H locs) (hl : lv_has ls 7 [(0, .ref b), (1, .ref (qx 0)), (2, .ref (qm 0)), (3, .ref o), (4, .int x4)]) (hnext : ∀ (σx σm : hsS) (f : Nat → Int64) (H : Heap) (locs : List Loc) (ls : Array Slot), Rn σx σm → va_P D vwCl (xw cx qx σx) H → va_P D vwCl (mw cm qm σm) H → va_P D vwCl (hlO co o f) H → va_S (fun q : Nat => s.heap.size ≤ q) s.heap H locs → lv_has ls 7 [(0, .ref b), (1, .ref (qx 0)), (2, .ref (qm 0)), (3, .ref o), (4, .int x4)] → W p l e room_1 s m #[Value.ref b] below meth c₀ H locs (k + 16) (n6 + 96) (lw_Z below #[Value.ref b] s) (F0 m 1813 ls [])) : W p l e room_1 s m #[Value.ref b] below meth c₀ H locs k n6 (lw_Z below #[Value.ref b] s) (F0 m 1590 ls []) := by
  obtain ⟨hx, hb, hr, hml, hown, hts, hXs, hbl, hlocks, hgv⟩ := C0
  obtain ⟨⟨hKx, hKm, hKo⟩, ⟨hDx, hDm⟩, ⟨hox, hmx, hom⟩, ⟨hxA, hmA, hoS⟩, ⟨hevx, hEx, hevm, hEm⟩, hXx, hF, hZx, hZm⟩ := hs
  have hbA : ¬ (fun q : Nat => s.heap.size ≤ q) b := Nat.not_le.mpr hbl
  have hoA : ∀ a, hlA qx o a → s.heap.size ≤ a := fun a h => h.elim (hxA a) (fun h => by rw [h]; exact hoS)
  have htb : ∀ w ∈ tb_L, w.before #[Value.ref b] s = true := fun w h => hts w (tb_in h)
  have hw := O f (xs (x4 + (1 : Int32)).toNatClampNeg) (xs (x4 + (2 : Int32)).toNatClampNeg) (xs (x4 + (3 : Int32)).toNatClampNeg) σx σm hR
  unfold lo_30 at hw
  refine lv_aload_n hx hb dL_law_1590 rfl (lv_at hl 1 rfl) ?_
  refine lv_aload_n hx hb dL_law_1591 rfl (lv_at hl 0 rfl) ?_
  refine lv_iload hx hb dL_law_1592 (lv_at hl 4 rfl) ?_
  refine lv_iconst (v := (1 : Int32)) hx hb dL_law_1594 (by decide) ?_
  refine lv_iadd hx hb dL_law_1595 ?_
  refine va_sld hx hb hXs hbl hbA hS (hin 1 (by decide) (by decide)) dL_law_1596 ?_
  refine lv_aload_n hx hb dL_law_1597 rfl (lv_at hl 0 rfl) ?_
  refine lv_iload hx hb dL_law_1598 (lv_at hl 4 rfl) ?_
  refine lv_iconst (v := (2 : Int32)) hx hb dL_law_1600 (by decide) ?_
  refine lv_iadd hx hb dL_law_1601 ?_
  refine va_sld hx hb hXs hbl hbA hS (hin 2 (by decide) (by decide)) dL_law_1602 ?_
  refine lv_aload_n hx hb dL_law_1603 rfl (lv_at hl 0 rfl) ?_
  refine lv_iload hx hb dL_law_1604 (lv_at hl 4 rfl) ?_
  refine lv_iconst (v := (3 : Int32)) hx hb dL_law_1606 (by decide) ?_
  refine lv_iadd hx hb dL_law_1607 ?_
  refine va_sld hx hb hXs hbl hbA hS (hin 3 (by decide) (by decide)) dL_law_1608 ?_
  refine lv_aload_n hx hb dL_law_1609 rfl (lv_at hl 3 rfl) ?_
  refine va_calli (vx_runSW (As := [.ref (qx 0), .int (xs (x4 + (1 : Int32)).toNatClampNeg), .int (xs (x4 + (2 : Int32)).toNatClampNeg), .int (xs (x4 + (3 : Int32)).toNatClampNeg), .ref o]) (rest := []) ⟨hx, hb, hml, hown, htb⟩ (khL_hold l D cx qx evx hevx hst hXx co o σx f (xs (x4 + (1 : Int32)).toNatClampNeg) (xs (x4 + (2 : Int32)).toNatClampNeg) (xs (x4 + (3 : Int32)).toNatClampNeg) (fun (kk : Int32) (u : hsS × (Nat → Int64)) => wX8_hold (xs (x4 + (1 : Int32)).toNatClampNeg) (xs (x4 + (2 : Int32)).toNatClampNeg) (xs (x4 + (3 : Int32)).toNatClampNeg) (fun bb σm1 => wX8_thrown (fun th σm2 => th = kk ∧ (kk = (0 : Int32) → (u.2 0) = (if bb = 0 then 0 else 1)) ∧ Rn u.1 σm2) σm1) σm) hw) (tb_CSW htb kw_hold tb_1143 tb_1144 ⟨Nat.le_of_ble_eq_true rfl, Nat.le_of_ble_eq_true rfl⟩) (hl_preS hevx hKx hKo hPx hPo (hDx σx) hox hEx (fun a h1 _ => hS.2.1 a h1 (Nat.not_le.mpr h1))) rfl rfl hl.1 rfl (lv_room (Nat.le_of_ble_eq_true rfl)) dL_law_1610 ⟨by show k + 1 ≤ 601024; omega, by show n6 + 6 ≤ 7293034; omega⟩) hS (fun a _ h => hoA a h) (fun a h => hoA a h) (fun kk u t H1 locs1 ht hvm hw hB hz1 hk1 hS => ?_)
  have hPx : va_P D vwCl (xw cx qx u.1) H1 := ht ▸ hB.1
  have hPo : va_P D vwCl (hlO co o u.2) H1 := ht ▸ hB.2
  have hPm := va_keep hPm (hDm σm) (fun a h1 h2 => h2.elim (hmx a h1) (fun h3 => hom (h3 ▸ h1))) hk1
  refine lv_istore (lv' := [(5, .int kk), (0, .ref b), (1, .ref (qx 0)), (2, .ref (qm 0)), (3, .ref o), (4, .int x4)]) hx hb dL_law_1613 hl (by decide) rfl (fun ls hl => ?_)
  refine lv_aload_n hx hb dL_law_1615 rfl (lv_at hl 3 rfl) ?_
  refine lv_aload_n hx hb dL_law_1616 rfl (lv_at hl 1 rfl) ?_
  refine lv_iload hx hb dL_law_1617 (lv_at hl 5 rfl) ?_
  refine lv_iconst (v := (1 : Int32)) hx hb dL_law_1619 (by decide) ?_
  refine lv_iadd hx hb dL_law_1620 ?_
  refine va_sld hx hb hXs hbl hbA hS (hin 1 (by decide) (by decide)) dL_law_1621 ?_
  refine lv_aload_n hx hb dL_law_1622 rfl (lv_at hl 1 rfl) ?_
  refine lv_iload hx hb dL_law_1623 (lv_at hl 5 rfl) ?_
  refine lv_iconst (v := (2 : Int32)) hx hb dL_law_1625 (by decide) ?_
  refine lv_iadd hx hb dL_law_1626 ?_
  refine va_sld hx hb hXs hbl hbA hS (hin 2 (by decide) (by decide)) dL_law_1627 ?_
  refine lv_aload_n hx hb dL_law_1628 rfl (lv_at hl 1 rfl) ?_
  refine lv_iload hx hb dL_law_1629 (lv_at hl 5 rfl) ?_
  refine lv_iconst (v := (3 : Int32)) hx hb dL_law_1631 (by decide) ?_
  refine lv_iadd hx hb dL_law_1632 ?_
  refine va_sld hx hb hXs hbl hbA hS (hin 3 (by decide) (by decide)) dL_law_1633 ?_
  refine va_calli (va_runV (As := [.int (xs (x4 + (1 : Int32)).toNatClampNeg), .int (xs (x4 + (2 : Int32)).toNatClampNeg), .int (xs (x4 + (3 : Int32)).toNatClampNeg)]) (rest := []) ⟨hx, hb, hml, hown, htb⟩ (kcX8_hold l D cm qm evm hevm σm (xs (x4 + (1 : Int32)).toNatClampNeg) (xs (x4 + (2 : Int32)).toNatClampNeg) (xs (x4 + (3 : Int32)).toNatClampNeg) _ hw) (tb_CW htb kX8_hold tb_1692 tb_1693 tb_1694 ⟨Nat.le_of_ble_eq_true rfl, Nat.le_of_ble_eq_true rfl⟩) (ml_pre hevm hKm hPm (hDm σm) hEm (fun a h1 _ => hS.2.1 a h1 (Nat.not_le.mpr h1))) rfl rfl hl.1 rfl (lv_room (Nat.le_of_ble_eq_true rfl)) dL_law_1634 ⟨by show (_ : Nat) + 0 ≤ 601024; omega, by show (_ : Nat) + 0 ≤ 7293034; omega⟩) hS (fun a _ h => hmA a h) (fun a h => hmA a h) (fun bb σm1 t H1 locs1 ht hvm hw hB hz1 hk1 hS => ?_)
  have hPm : va_P D vwCl (mw cm qm σm1) H1 := ht ▸ hB
  have hPx := va_keep hPx (hDx u.1) (fun a h1 h2 => hmx a h2 h1) hk1
  have hPo := va_keep hPo hlO_D (fun a h hm9 => hom (h ▸ hm9)) hk1
  refine lv_istore (lv' := [(6, .int bb), (5, .int kk), (0, .ref b), (1, .ref (qx 0)), (2, .ref (qm 0)), (3, .ref o), (4, .int x4)]) hx hb dL_law_1637 hl (by decide) rfl (fun ls hl => ?_)
  refine lv_aload_n hx hb dL_law_1639 rfl (lv_at hl 4 rfl) ?_
  refine va_calli (va_runV (As := []) (rest := []) ⟨hx, hb, hml, hown, htb⟩ (kcX8_thrown l D cm qm evm hevm σm1  _ hw) (tb_CW htb kX8_thrown tb_1354 tb_1355 tb_1356 ⟨Nat.le_of_ble_eq_true rfl, Nat.le_of_ble_eq_true rfl⟩) (ml_pre hevm hKm hPm (hDm σm1) hEm (fun a h1 _ => hS.2.1 a h1 (Nat.not_le.mpr h1))) rfl rfl hl.1 rfl (lv_room (Nat.le_of_ble_eq_true rfl)) dL_law_1640 ⟨by show (_ : Nat) + 0 ≤ 601024; omega, by show (_ : Nat) + 0 ≤ 7293034; omega⟩) hS (fun a _ h => hmA a h) (fun a h => hmA a h) (fun th σm2 t H1 locs1 ht hvm hw hB hz1 hk1 hS => ?_)
  have hPm : va_P D vwCl (mw cm qm σm2) H1 := ht ▸ hB
  have hPx := va_keep hPx (hDx u.1) (fun a h1 h2 => hmx a h2 h1) hk1
  have hPo := va_keep hPo hlO_D (fun a h hm9 => hom (h ▸ hm9)) hk1
  refine lv_iload hx hb dL_law_1643 (lv_at hl 1 rfl) ?_
  refine lv_icmp_eq (tgt := 1650) hx hb dL_law_1645 (by decide) (fun _ => ?_) (fun h9 => absurd hw.1 h9)
  refine lv_iload hx hb dL_law_1650 (lv_at hl 1 rfl) ?_
  refine lv_if_ne (tgt := 1674) hx hb dL_law_1652 (by decide) (fun c1 => ?_) (fun c1 => ?_)
  · refine lv_goto (tgt := 1813) hx hb dL_law_1674 (by decide) ?_
    refine W.widen (k := k + 16) (n := n6 + 96) (by omega) (by omega) ?_
    exact hnext u.1 σm2 u.2 _ _ _ hw.2.2 hPx hPm hPo hS (lv_sub hl [2, 3, 4, 5, 6] rfl)
  · refine lv_aload_n hx hb dL_law_1655 rfl (lv_at hl 5 rfl) ?_
    refine lv_iconst (v := (0 : Int32)) hx hb dL_law_1656 (by decide) ?_
    refine va_lald hx hb hKo hPo 0 0 rfl rfl (by unfold vp_in; decide) dL_law_1657 ?_
    refine lv_iload hx hb dL_law_1658 (lv_at hl 0 rfl) ?_
    refine lv_if_eq (tgt := 1667) hx hb dL_law_1660 (by decide) (fun c2 => ?_) (fun c2 => ?_)
    · refine lv_lconst (v := (0 : Int64)) hx hb dL_law_1667 (by decide) ?_
      refine W.lcmp hx hb dL_law_1668 ?_
      refine lv_if_eq (tgt := 1674) hx hb dL_law_1669 (by decide) (fun _ => ?_) (fun h9 => absurd (lcmp_eq.mpr (by have h8 := hw.2.1 c1; rw [if_pos c2] at h8; exact h8)) h9)
      refine lv_goto (tgt := 1813) hx hb dL_law_1674 (by decide) ?_
      refine W.widen (k := k + 16) (n := n6 + 96) (by omega) (by omega) ?_
      exact hnext u.1 σm2 u.2 _ _ _ hw.2.2 hPx hPm hPo hS (lv_sub hl [2, 3, 4, 5, 6] rfl)
    · refine lv_lconst (v := (1 : Int64)) hx hb dL_law_1663 (by decide) ?_
      refine lv_goto (tgt := 1668) hx hb dL_law_1664 (by decide) ?_
      refine W.lcmp hx hb dL_law_1668 ?_
      refine lv_if_eq (tgt := 1674) hx hb dL_law_1669 (by decide) (fun _ => ?_) (fun h9 => absurd (lcmp_eq.mpr (by have h8 := hw.2.1 c1; rw [if_neg c2] at h8; exact h8)) h9)
      refine lv_goto (tgt := 1813) hx hb dL_law_1674 (by decide) ?_
      refine W.widen (k := k + 16) (n := n6 + 96) (by omega) (by omega) ?_
      exact hnext u.1 σm2 u.2 _ _ _ hw.2.2 hPx hPm hPo hS (lv_sub hl [2, 3, 4, 5, 6] rfl)
set_option maxHeartbeats 8000000 in
set_option maxRecDepth 100000 in
theorem lc_31 {p : Program} {e : Env} {s : State} {m : MethodId} {below : List Frame} {meth : Method} {c₀ : Code} {l : Launch} {b L : Nat} {xs : Nat → Int32} {D : va_G} {cx cm : Nat → ClassId} {qx qm : Nat → Nat} {co : ClassId} {o tF : Nat} {evx evm : State → Heap → Prop} {adK adV : Nat → Nat} (C0 : lw_At p s m meth c₀ b L xs) (hst : l.stackTraces = false) (hs : lwS s D cx qx cm qm co o evx evm tF adK adV) (R Rn : hsS → hsS → Prop) (O : ∀ (f : Nat → Int64) (a1 a2 : Int32) (σx σm : hsS), R σx σm → lo_31 f a1 a2 Rn σx σm) (x4 : Int32) (hin : ∀ j : Nat, 0 < j → j < 6 → vp_in (x4 + nI j) L) (σx σm : hsS) (f : Nat → Int64) (k n6 : Nat) (hk : k + 16 ≤ 600000 ∧ n6 + 96 ≤ 7000000) (H : Heap) (locs : List Loc) (ls : Array Slot) (hR : R σx σm) (hPx : va_P D vwCl (xw cx qx σx) H) (hPm : va_P D vwCl (mw cm qm σm) H) (hPo : va_P D vwCl (hlO co o f) H) (hS : va_S (fun q : Nat => s.heap.size ≤ q) s.heap H locs) (hl : lv_has ls 7 [(0, .ref b), (1, .ref (qx 0)), (2, .ref (qm 0)), (3, .ref o), (4, .int x4)]) (hnext : ∀ (σx σm : hsS) (f : Nat → Int64) (H : Heap) (locs : List Loc) (ls : Array Slot), Rn σx σm → va_P D vwCl (xw cx qx σx) H → va_P D vwCl (mw cm qm σm) H → va_P D vwCl (hlO co o f) H → va_S (fun q : Nat => s.heap.size ≤ q) s.heap H locs → lv_has ls 7 [(0, .ref b), (1, .ref (qx 0)), (2, .ref (qm 0)), (3, .ref o), (4, .int x4)] → W p l e room_1 s m #[Value.ref b] below meth c₀ H locs (k + 16) (n6 + 96) (lw_Z below #[Value.ref b] s) (F0 m 1813 ls [])) : W p l e room_1 s m #[Value.ref b] below meth c₀ H locs k n6 (lw_Z below #[Value.ref b] s) (F0 m 1677 ls []) := by
  obtain ⟨hx, hb, hr, hml, hown, hts, hXs, hbl, hlocks, hgv⟩ := C0
  obtain ⟨⟨hKx, hKm, hKo⟩, ⟨hDx, hDm⟩, ⟨hox, hmx, hom⟩, ⟨hxA, hmA, hoS⟩, ⟨hevx, hEx, hevm, hEm⟩, hXx, hF, hZx, hZm⟩ := hs
  have hbA : ¬ (fun q : Nat => s.heap.size ≤ q) b := Nat.not_le.mpr hbl
  have hoA : ∀ a, hlA qx o a → s.heap.size ≤ a := fun a h => h.elim (hxA a) (fun h => by rw [h]; exact hoS)
  have htb : ∀ w ∈ tb_L, w.before #[Value.ref b] s = true := fun w h => hts w (tb_in h)
  have hw := O f (xs (x4 + (1 : Int32)).toNatClampNeg) (xs (x4 + (2 : Int32)).toNatClampNeg) σx σm hR
  unfold lo_31 at hw
  refine lv_aload_n hx hb dL_law_1677 rfl (lv_at hl 1 rfl) ?_
  refine lv_aload_n hx hb dL_law_1678 rfl (lv_at hl 0 rfl) ?_
  refine lv_iload hx hb dL_law_1679 (lv_at hl 4 rfl) ?_
  refine lv_iconst (v := (1 : Int32)) hx hb dL_law_1681 (by decide) ?_
  refine lv_iadd hx hb dL_law_1682 ?_
  refine va_sld hx hb hXs hbl hbA hS (hin 1 (by decide) (by decide)) dL_law_1683 ?_
  refine lv_aload_n hx hb dL_law_1684 rfl (lv_at hl 0 rfl) ?_
  refine lv_iload hx hb dL_law_1685 (lv_at hl 4 rfl) ?_
  refine lv_iconst (v := (2 : Int32)) hx hb dL_law_1687 (by decide) ?_
  refine lv_iadd hx hb dL_law_1688 ?_
  refine va_sld hx hb hXs hbl hbA hS (hin 2 (by decide) (by decide)) dL_law_1689 ?_
  refine lv_aload_n hx hb dL_law_1690 rfl (lv_at hl 3 rfl) ?_
  refine va_calli (vx_runSW (As := [.ref (qx 0), .int (xs (x4 + (1 : Int32)).toNatClampNeg), .int (xs (x4 + (2 : Int32)).toNatClampNeg), .ref o]) (rest := []) ⟨hx, hb, hml, hown, htb⟩ (khL_held l D cx qx evx hevx hst hXx co o σx f (xs (x4 + (1 : Int32)).toNatClampNeg) (xs (x4 + (2 : Int32)).toNatClampNeg) (fun (kk : Int32) (u : hsS × (Nat → Int64)) => wX8_held (xs (x4 + (1 : Int32)).toNatClampNeg) (xs (x4 + (2 : Int32)).toNatClampNeg) (fun bb σm1 => wX8_thrown (fun th σm2 => th = kk ∧ (kk = (0 : Int32) → (u.2 0) = (bb.toInt64)) ∧ Rn u.1 σm2) σm1) σm) hw) (tb_CSW htb kw_held tb_1151 tb_1152 ⟨Nat.le_of_ble_eq_true rfl, Nat.le_of_ble_eq_true rfl⟩) (hl_preS hevx hKx hKo hPx hPo (hDx σx) hox hEx (fun a h1 _ => hS.2.1 a h1 (Nat.not_le.mpr h1))) rfl rfl hl.1 rfl (lv_room (Nat.le_of_ble_eq_true rfl)) dL_law_1691 ⟨by show k + 1 ≤ 601024; omega, by show n6 + 6 ≤ 7293034; omega⟩) hS (fun a _ h => hoA a h) (fun a h => hoA a h) (fun kk u t H1 locs1 ht hvm hw hB hz1 hk1 hS => ?_)
  have hPx : va_P D vwCl (xw cx qx u.1) H1 := ht ▸ hB.1
  have hPo : va_P D vwCl (hlO co o u.2) H1 := ht ▸ hB.2
  have hPm := va_keep hPm (hDm σm) (fun a h1 h2 => h2.elim (hmx a h1) (fun h3 => hom (h3 ▸ h1))) hk1
  refine lv_istore (lv' := [(5, .int kk), (0, .ref b), (1, .ref (qx 0)), (2, .ref (qm 0)), (3, .ref o), (4, .int x4)]) hx hb dL_law_1694 hl (by decide) rfl (fun ls hl => ?_)
  refine lv_aload_n hx hb dL_law_1696 rfl (lv_at hl 3 rfl) ?_
  refine lv_aload_n hx hb dL_law_1697 rfl (lv_at hl 1 rfl) ?_
  refine lv_iload hx hb dL_law_1698 (lv_at hl 5 rfl) ?_
  refine lv_iconst (v := (1 : Int32)) hx hb dL_law_1700 (by decide) ?_
  refine lv_iadd hx hb dL_law_1701 ?_
  refine va_sld hx hb hXs hbl hbA hS (hin 1 (by decide) (by decide)) dL_law_1702 ?_
  refine lv_aload_n hx hb dL_law_1703 rfl (lv_at hl 1 rfl) ?_
  refine lv_iload hx hb dL_law_1704 (lv_at hl 5 rfl) ?_
  refine lv_iconst (v := (2 : Int32)) hx hb dL_law_1706 (by decide) ?_
  refine lv_iadd hx hb dL_law_1707 ?_
  refine va_sld hx hb hXs hbl hbA hS (hin 2 (by decide) (by decide)) dL_law_1708 ?_
  refine va_calli (va_runV (As := [.int (xs (x4 + (1 : Int32)).toNatClampNeg), .int (xs (x4 + (2 : Int32)).toNatClampNeg)]) (rest := []) ⟨hx, hb, hml, hown, htb⟩ (kcX8_held l D cm qm evm hevm σm (xs (x4 + (1 : Int32)).toNatClampNeg) (xs (x4 + (2 : Int32)).toNatClampNeg) _ hw) (tb_CW htb kX8_held tb_1699 tb_1700 tb_1701 ⟨Nat.le_of_ble_eq_true rfl, Nat.le_of_ble_eq_true rfl⟩) (ml_pre hevm hKm hPm (hDm σm) hEm (fun a h1 _ => hS.2.1 a h1 (Nat.not_le.mpr h1))) rfl rfl hl.1 rfl (lv_room (Nat.le_of_ble_eq_true rfl)) dL_law_1709 ⟨by show (_ : Nat) + 0 ≤ 601024; omega, by show (_ : Nat) + 0 ≤ 7293034; omega⟩) hS (fun a _ h => hmA a h) (fun a h => hmA a h) (fun bb σm1 t H1 locs1 ht hvm hw hB hz1 hk1 hS => ?_)
  have hPm : va_P D vwCl (mw cm qm σm1) H1 := ht ▸ hB
  have hPx := va_keep hPx (hDx u.1) (fun a h1 h2 => hmx a h2 h1) hk1
  have hPo := va_keep hPo hlO_D (fun a h hm9 => hom (h ▸ hm9)) hk1
  refine lv_istore (lv' := [(6, .int bb), (5, .int kk), (0, .ref b), (1, .ref (qx 0)), (2, .ref (qm 0)), (3, .ref o), (4, .int x4)]) hx hb dL_law_1712 hl (by decide) rfl (fun ls hl => ?_)
  refine lv_aload_n hx hb dL_law_1714 rfl (lv_at hl 4 rfl) ?_
  refine va_calli (va_runV (As := []) (rest := []) ⟨hx, hb, hml, hown, htb⟩ (kcX8_thrown l D cm qm evm hevm σm1  _ hw) (tb_CW htb kX8_thrown tb_1354 tb_1355 tb_1356 ⟨Nat.le_of_ble_eq_true rfl, Nat.le_of_ble_eq_true rfl⟩) (ml_pre hevm hKm hPm (hDm σm1) hEm (fun a h1 _ => hS.2.1 a h1 (Nat.not_le.mpr h1))) rfl rfl hl.1 rfl (lv_room (Nat.le_of_ble_eq_true rfl)) dL_law_1715 ⟨by show (_ : Nat) + 0 ≤ 601024; omega, by show (_ : Nat) + 0 ≤ 7293034; omega⟩) hS (fun a _ h => hmA a h) (fun a h => hmA a h) (fun th σm2 t H1 locs1 ht hvm hw hB hz1 hk1 hS => ?_)
  have hPm : va_P D vwCl (mw cm qm σm2) H1 := ht ▸ hB
  have hPx := va_keep hPx (hDx u.1) (fun a h1 h2 => hmx a h2 h1) hk1
  have hPo := va_keep hPo hlO_D (fun a h hm9 => hom (h ▸ hm9)) hk1
  refine lv_iload hx hb dL_law_1718 (lv_at hl 1 rfl) ?_
  refine lv_icmp_eq (tgt := 1725) hx hb dL_law_1720 (by decide) (fun _ => ?_) (fun h9 => absurd hw.1 h9)
  refine lv_iload hx hb dL_law_1725 (lv_at hl 1 rfl) ?_
  refine lv_if_ne (tgt := 1742) hx hb dL_law_1727 (by decide) (fun c1 => ?_) (fun c1 => ?_)
  · refine lv_goto (tgt := 1813) hx hb dL_law_1742 (by decide) ?_
    refine W.widen (k := k + 16) (n := n6 + 96) (by omega) (by omega) ?_
    exact hnext u.1 σm2 u.2 _ _ _ hw.2.2 hPx hPm hPo hS (lv_sub hl [2, 3, 4, 5, 6] rfl)
  · refine lv_aload_n hx hb dL_law_1730 rfl (lv_at hl 5 rfl) ?_
    refine lv_iconst (v := (0 : Int32)) hx hb dL_law_1731 (by decide) ?_
    refine va_lald hx hb hKo hPo 0 0 rfl rfl (by unfold vp_in; decide) dL_law_1732 ?_
    refine lv_iload hx hb dL_law_1733 (lv_at hl 0 rfl) ?_
    refine lv_i2l hx hb dL_law_1735 rfl ?_
    refine W.lcmp hx hb dL_law_1736 ?_
    refine lv_if_eq (tgt := 1742) hx hb dL_law_1737 (by decide) (fun _ => ?_) (fun h9 => absurd (lcmp_eq.mpr (hw.2.1 c1)) h9)
    refine lv_goto (tgt := 1813) hx hb dL_law_1742 (by decide) ?_
    refine W.widen (k := k + 16) (n := n6 + 96) (by omega) (by omega) ?_
    exact hnext u.1 σm2 u.2 _ _ _ hw.2.2 hPx hPm hPo hS (lv_sub hl [2, 3, 4, 5, 6] rfl)
set_option maxHeartbeats 8000000 in
set_option maxRecDepth 100000 in
theorem lc_32 {p : Program} {e : Env} {s : State} {m : MethodId} {below : List Frame} {meth : Method} {c₀ : Code} {l : Launch} {b L : Nat} {xs : Nat → Int32} {D : va_G} {cx cm : Nat → ClassId} {qx qm : Nat → Nat} {co : ClassId} {o tF : Nat} {evx evm : State → Heap → Prop} {adK adV : Nat → Nat} (C0 : lw_At p s m meth c₀ b L xs) (hst : l.stackTraces = false) (hs : lwS s D cx qx cm qm co o evx evm tF adK adV) (R Rn : hsS → hsS → Prop) (O : ∀ (f : Nat → Int64) (a1 a2 : Int32) (σx σm : hsS), R σx σm → lo_32 f a1 a2 Rn σx σm) (x4 : Int32) (hin : ∀ j : Nat, 0 < j → j < 6 → vp_in (x4 + nI j) L) (σx σm : hsS) (f : Nat → Int64) (k n6 : Nat) (hk : k + 16 ≤ 600000 ∧ n6 + 96 ≤ 7000000) (H : Heap) (locs : List Loc) (ls : Array Slot) (hR : R σx σm) (hPx : va_P D vwCl (xw cx qx σx) H) (hPm : va_P D vwCl (mw cm qm σm) H) (hPo : va_P D vwCl (hlO co o f) H) (hS : va_S (fun q : Nat => s.heap.size ≤ q) s.heap H locs) (hl : lv_has ls 7 [(0, .ref b), (1, .ref (qx 0)), (2, .ref (qm 0)), (3, .ref o), (4, .int x4)]) (hnext : ∀ (σx σm : hsS) (f : Nat → Int64) (H : Heap) (locs : List Loc) (ls : Array Slot), Rn σx σm → va_P D vwCl (xw cx qx σx) H → va_P D vwCl (mw cm qm σm) H → va_P D vwCl (hlO co o f) H → va_S (fun q : Nat => s.heap.size ≤ q) s.heap H locs → lv_has ls 7 [(0, .ref b), (1, .ref (qx 0)), (2, .ref (qm 0)), (3, .ref o), (4, .int x4)] → W p l e room_1 s m #[Value.ref b] below meth c₀ H locs (k + 16) (n6 + 96) (lw_Z below #[Value.ref b] s) (F0 m 1813 ls [])) : W p l e room_1 s m #[Value.ref b] below meth c₀ H locs k n6 (lw_Z below #[Value.ref b] s) (F0 m 1745 ls []) := by
  obtain ⟨hx, hb, hr, hml, hown, hts, hXs, hbl, hlocks, hgv⟩ := C0
  obtain ⟨⟨hKx, hKm, hKo⟩, ⟨hDx, hDm⟩, ⟨hox, hmx, hom⟩, ⟨hxA, hmA, hoS⟩, ⟨hevx, hEx, hevm, hEm⟩, hXx, hF, hZx, hZm⟩ := hs
  have hbA : ¬ (fun q : Nat => s.heap.size ≤ q) b := Nat.not_le.mpr hbl
  have hoA : ∀ a, hlA qx o a → s.heap.size ≤ a := fun a h => h.elim (hxA a) (fun h => by rw [h]; exact hoS)
  have htb : ∀ w ∈ tb_L, w.before #[Value.ref b] s = true := fun w h => hts w (tb_in h)
  have hw := O f (xs (x4 + (1 : Int32)).toNatClampNeg) (xs (x4 + (2 : Int32)).toNatClampNeg) σx σm hR
  unfold lo_32 at hw
  refine lv_aload_n hx hb dL_law_1745 rfl (lv_at hl 1 rfl) ?_
  refine lv_aload_n hx hb dL_law_1746 rfl (lv_at hl 0 rfl) ?_
  refine lv_iload hx hb dL_law_1747 (lv_at hl 4 rfl) ?_
  refine lv_iconst (v := (1 : Int32)) hx hb dL_law_1749 (by decide) ?_
  refine lv_iadd hx hb dL_law_1750 ?_
  refine va_sld hx hb hXs hbl hbA hS (hin 1 (by decide) (by decide)) dL_law_1751 ?_
  refine lv_aload_n hx hb dL_law_1752 rfl (lv_at hl 0 rfl) ?_
  refine lv_iload hx hb dL_law_1753 (lv_at hl 4 rfl) ?_
  refine lv_iconst (v := (2 : Int32)) hx hb dL_law_1755 (by decide) ?_
  refine lv_iadd hx hb dL_law_1756 ?_
  refine va_sld hx hb hXs hbl hbA hS (hin 2 (by decide) (by decide)) dL_law_1757 ?_
  refine lv_aload_n hx hb dL_law_1758 rfl (lv_at hl 3 rfl) ?_
  refine va_calli (vx_runSW (As := [.ref (qx 0), .int (xs (x4 + (1 : Int32)).toNatClampNeg), .int (xs (x4 + (2 : Int32)).toNatClampNeg), .ref o]) (rest := []) ⟨hx, hb, hml, hown, htb⟩ (khL_left l D cx qx evx hevx hst hXx co o σx f (xs (x4 + (1 : Int32)).toNatClampNeg) (xs (x4 + (2 : Int32)).toNatClampNeg) (fun (kk : Int32) (u : hsS × (Nat → Int64)) => wX8_left (xs (x4 + (1 : Int32)).toNatClampNeg) (xs (x4 + (2 : Int32)).toNatClampNeg) (fun bb σm1 => wX8_thrown (fun th σm2 => th = kk ∧ (kk = (0 : Int32) → (u.2 0) = (bb.toInt64)) ∧ Rn u.1 σm2) σm1) σm) hw) (tb_CSW htb kw_left tb_1167 tb_1168 ⟨Nat.le_of_ble_eq_true rfl, Nat.le_of_ble_eq_true rfl⟩) (hl_preS hevx hKx hKo hPx hPo (hDx σx) hox hEx (fun a h1 _ => hS.2.1 a h1 (Nat.not_le.mpr h1))) rfl rfl hl.1 rfl (lv_room (Nat.le_of_ble_eq_true rfl)) dL_law_1759 ⟨by show k + 2 ≤ 601024; omega, by show n6 + 12 ≤ 7293034; omega⟩) hS (fun a _ h => hoA a h) (fun a h => hoA a h) (fun kk u t H1 locs1 ht hvm hw hB hz1 hk1 hS => ?_)
  have hPx : va_P D vwCl (xw cx qx u.1) H1 := ht ▸ hB.1
  have hPo : va_P D vwCl (hlO co o u.2) H1 := ht ▸ hB.2
  have hPm := va_keep hPm (hDm σm) (fun a h1 h2 => h2.elim (hmx a h1) (fun h3 => hom (h3 ▸ h1))) hk1
  refine lv_istore (lv' := [(5, .int kk), (0, .ref b), (1, .ref (qx 0)), (2, .ref (qm 0)), (3, .ref o), (4, .int x4)]) hx hb dL_law_1762 hl (by decide) rfl (fun ls hl => ?_)
  refine lv_aload_n hx hb dL_law_1764 rfl (lv_at hl 3 rfl) ?_
  refine lv_aload_n hx hb dL_law_1765 rfl (lv_at hl 1 rfl) ?_
  refine lv_iload hx hb dL_law_1766 (lv_at hl 5 rfl) ?_
  refine lv_iconst (v := (1 : Int32)) hx hb dL_law_1768 (by decide) ?_
  refine lv_iadd hx hb dL_law_1769 ?_
  refine va_sld hx hb hXs hbl hbA hS (hin 1 (by decide) (by decide)) dL_law_1770 ?_
  refine lv_aload_n hx hb dL_law_1771 rfl (lv_at hl 1 rfl) ?_
  refine lv_iload hx hb dL_law_1772 (lv_at hl 5 rfl) ?_
  refine lv_iconst (v := (2 : Int32)) hx hb dL_law_1774 (by decide) ?_
  refine lv_iadd hx hb dL_law_1775 ?_
  refine va_sld hx hb hXs hbl hbA hS (hin 2 (by decide) (by decide)) dL_law_1776 ?_
  refine va_calli (va_runV (As := [.int (xs (x4 + (1 : Int32)).toNatClampNeg), .int (xs (x4 + (2 : Int32)).toNatClampNeg)]) (rest := []) ⟨hx, hb, hml, hown, htb⟩ (kcX8_left l D cm qm evm hevm σm (xs (x4 + (1 : Int32)).toNatClampNeg) (xs (x4 + (2 : Int32)).toNatClampNeg) _ hw) (tb_CW htb kX8_left tb_1707 tb_1708 tb_1709 ⟨Nat.le_of_ble_eq_true rfl, Nat.le_of_ble_eq_true rfl⟩) (ml_pre hevm hKm hPm (hDm σm) hEm (fun a h1 _ => hS.2.1 a h1 (Nat.not_le.mpr h1))) rfl rfl hl.1 rfl (lv_room (Nat.le_of_ble_eq_true rfl)) dL_law_1777 ⟨by show (_ : Nat) + 0 ≤ 601024; omega, by show (_ : Nat) + 0 ≤ 7293034; omega⟩) hS (fun a _ h => hmA a h) (fun a h => hmA a h) (fun bb σm1 t H1 locs1 ht hvm hw hB hz1 hk1 hS => ?_)
  have hPm : va_P D vwCl (mw cm qm σm1) H1 := ht ▸ hB
  have hPx := va_keep hPx (hDx u.1) (fun a h1 h2 => hmx a h2 h1) hk1
  have hPo := va_keep hPo hlO_D (fun a h hm9 => hom (h ▸ hm9)) hk1
  refine lv_istore (lv' := [(6, .int bb), (5, .int kk), (0, .ref b), (1, .ref (qx 0)), (2, .ref (qm 0)), (3, .ref o), (4, .int x4)]) hx hb dL_law_1780 hl (by decide) rfl (fun ls hl => ?_)
  refine lv_aload_n hx hb dL_law_1782 rfl (lv_at hl 4 rfl) ?_
  refine va_calli (va_runV (As := []) (rest := []) ⟨hx, hb, hml, hown, htb⟩ (kcX8_thrown l D cm qm evm hevm σm1  _ hw) (tb_CW htb kX8_thrown tb_1354 tb_1355 tb_1356 ⟨Nat.le_of_ble_eq_true rfl, Nat.le_of_ble_eq_true rfl⟩) (ml_pre hevm hKm hPm (hDm σm1) hEm (fun a h1 _ => hS.2.1 a h1 (Nat.not_le.mpr h1))) rfl rfl hl.1 rfl (lv_room (Nat.le_of_ble_eq_true rfl)) dL_law_1783 ⟨by show (_ : Nat) + 0 ≤ 601024; omega, by show (_ : Nat) + 0 ≤ 7293034; omega⟩) hS (fun a _ h => hmA a h) (fun a h => hmA a h) (fun th σm2 t H1 locs1 ht hvm hw hB hz1 hk1 hS => ?_)
  have hPm : va_P D vwCl (mw cm qm σm2) H1 := ht ▸ hB
  have hPx := va_keep hPx (hDx u.1) (fun a h1 h2 => hmx a h2 h1) hk1
  have hPo := va_keep hPo hlO_D (fun a h hm9 => hom (h ▸ hm9)) hk1
  refine lv_iload hx hb dL_law_1786 (lv_at hl 1 rfl) ?_
  refine lv_icmp_eq (tgt := 1793) hx hb dL_law_1788 (by decide) (fun _ => ?_) (fun h9 => absurd hw.1 h9)
  refine lv_iload hx hb dL_law_1793 (lv_at hl 1 rfl) ?_
  refine lv_if_ne (tgt := 1810) hx hb dL_law_1795 (by decide) (fun c1 => ?_) (fun c1 => ?_)
  · refine lv_goto (tgt := 1813) hx hb dL_law_1810 (by decide) ?_
    refine W.widen (k := k + 16) (n := n6 + 96) (by omega) (by omega) ?_
    exact hnext u.1 σm2 u.2 _ _ _ hw.2.2 hPx hPm hPo hS (lv_sub hl [2, 3, 4, 5, 6] rfl)
  · refine lv_aload_n hx hb dL_law_1798 rfl (lv_at hl 5 rfl) ?_
    refine lv_iconst (v := (0 : Int32)) hx hb dL_law_1799 (by decide) ?_
    refine va_lald hx hb hKo hPo 0 0 rfl rfl (by unfold vp_in; decide) dL_law_1800 ?_
    refine lv_iload hx hb dL_law_1801 (lv_at hl 0 rfl) ?_
    refine lv_i2l hx hb dL_law_1803 rfl ?_
    refine W.lcmp hx hb dL_law_1804 ?_
    refine lv_if_eq (tgt := 1810) hx hb dL_law_1805 (by decide) (fun _ => ?_) (fun h9 => absurd (lcmp_eq.mpr (hw.2.1 c1)) h9)
    refine lv_goto (tgt := 1813) hx hb dL_law_1810 (by decide) ?_
    refine W.widen (k := k + 16) (n := n6 + 96) (by omega) (by omega) ?_
    exact hnext u.1 σm2 u.2 _ _ _ hw.2.2 hPx hPm hPo hS (lv_sub hl [2, 3, 4, 5, 6] rfl)
