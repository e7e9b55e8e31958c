set_option maxHeartbeats 8000000 in
set_option maxRecDepth 100000 in
theorem lc_0 {p : Program} {e : Env} {s : State} {m : MethodId} {below : List Frame} {meth : Method} {c₀ : Code} {l : Launch} {b L : Nat} {xs : Nat → Int32} {D : va_G} {cx cm : Nat → ClassId} {qx qm : Nat → Nat} {co : ClassId} {o tF : Nat} {evx evm : State → Heap → Prop} {adK adV : Nat → Nat} (C0 : lw_At p s m meth c₀ b L xs) (hst : l.stackTraces = false) (hs : lwS s D cx qx cm qm co o evx evm tF adK adV) (R Rn : hsS → hsS → Prop) (O : ∀ (a1 : Int32) (a2 : Int32) (a3 : Int32) (a4 : Int32) (a5 : Int32) (σx σm : hsS), R σx σm → lo_0 a1 a2 a3 a4 a5 Rn σx σm) (x4 : Int32) (hin : ∀ j : Nat, 0 < j → j < 6 → vp_in (x4 + nI j) L) (σx σm : hsS) (f : Nat → Int64) (k n6 : Nat) (hk : k + 16 ≤ 600000 ∧ n6 + 96 ≤ 7000000) (H : Heap) (locs : List Loc) (ls : Array Slot) (hR : R σx σm) (hPx : va_P D vwCl (xw cx qx σx) H) (hPm : va_P D vwCl (mw cm qm σm) H) (hPo : va_P D vwCl (hlO co o f) H) (hS : va_S (fun q : Nat => s.heap.size ≤ q) s.heap H locs) (hl : lv_has ls 7 [(0, .ref b), (1, .ref (qx 0)), (2, .ref (qm 0)), (3, .ref o), (4, .int x4)]) (hnext : ∀ (σx σm : hsS) (f : Nat → Int64) (H : Heap) (locs : List Loc) (ls : Array Slot), Rn σx σm → va_P D vwCl (xw cx qx σx) H → va_P D vwCl (mw cm qm σm) H → va_P D vwCl (hlO co o f) H → va_S (fun q : Nat => s.heap.size ≤ q) s.heap H locs → lv_has ls 7 [(0, .ref b), (1, .ref (qx 0)), (2, .ref (qm 0)), (3, .ref o), (4, .int x4)] → W p l e room_1 s m #[Value.ref b] below meth c₀ H locs (k + 16) (n6 + 96) (lw_Z below #[Value.ref b] s) (F0 m 1813 ls [])) : W p l e room_1 s m #[Value.ref b] below meth c₀ H locs k n6 (lw_Z below #[Value.ref b] s) (F0 m 188 ls []) := by
  obtain ⟨hx, hb, hr, hml, hown, hts, hXs, hbl, hlocks, hgv⟩ := C0
  obtain ⟨⟨hKx, hKm, hKo⟩, ⟨hDx, hDm⟩, ⟨hox, hmx, hom⟩, ⟨hxA, hmA, hoS⟩, ⟨hevx, hEx, hevm, hEm⟩, hXx, hF, hZx, hZm⟩ := hs
  have hbA : ¬ (fun q : Nat => s.heap.size ≤ q) b := Nat.not_le.mpr hbl
  have hoA : ∀ a, hlA qx o a → s.heap.size ≤ a := fun a h => h.elim (hxA a) (fun h => by rw [h]; exact hoS)
  have htb : ∀ w ∈ tb_L, w.before #[Value.ref b] s = true := fun w h => hts w (tb_in h)
  have hw := O (xs (x4 + (1 : Int32)).toNatClampNeg) (xs (x4 + (2 : Int32)).toNatClampNeg) (xs (x4 + (3 : Int32)).toNatClampNeg) (xs (x4 + (4 : Int32)).toNatClampNeg) (xs (x4 + (5 : Int32)).toNatClampNeg) σx σm hR
  unfold lo_0 at hw
  refine lv_aload_n hx hb dL_law_188 rfl (lv_at hl 1 rfl) ?_
  refine lv_aload_n hx hb dL_law_189 rfl (lv_at hl 0 rfl) ?_
  refine lv_iload hx hb dL_law_190 (lv_at hl 4 rfl) ?_
  refine lv_iconst (v := (1 : Int32)) hx hb dL_law_192 (by decide) ?_
  refine lv_iadd hx hb dL_law_193 ?_
  refine va_sld hx hb hXs hbl hbA hS (hin 1 (by decide) (by decide)) dL_law_194 ?_
  refine lv_aload_n hx hb dL_law_195 rfl (lv_at hl 0 rfl) ?_
  refine lv_iload hx hb dL_law_196 (lv_at hl 4 rfl) ?_
  refine lv_iconst (v := (2 : Int32)) hx hb dL_law_198 (by decide) ?_
  refine lv_iadd hx hb dL_law_199 ?_
  refine va_sld hx hb hXs hbl hbA hS (hin 2 (by decide) (by decide)) dL_law_200 ?_
  refine lv_aload_n hx hb dL_law_201 rfl (lv_at hl 0 rfl) ?_
  refine lv_iload hx hb dL_law_202 (lv_at hl 4 rfl) ?_
  refine lv_iconst (v := (3 : Int32)) hx hb dL_law_204 (by decide) ?_
  refine lv_iadd hx hb dL_law_205 ?_
  refine va_sld hx hb hXs hbl hbA hS (hin 3 (by decide) (by decide)) dL_law_206 ?_
  refine lv_aload_n hx hb dL_law_207 rfl (lv_at hl 0 rfl) ?_
  refine lv_iload hx hb dL_law_208 (lv_at hl 4 rfl) ?_
  refine lv_iconst (v := (4 : Int32)) hx hb dL_law_210 (by decide) ?_
  refine lv_iadd hx hb dL_law_211 ?_
  refine va_sld hx hb hXs hbl hbA hS (hin 4 (by decide) (by decide)) dL_law_212 ?_
  refine lv_aload_n hx hb dL_law_213 rfl (lv_at hl 0 rfl) ?_
  refine lv_iload hx hb dL_law_214 (lv_at hl 4 rfl) ?_
  refine lv_iconst (v := (5 : Int32)) hx hb dL_law_216 (by decide) ?_
  refine lv_iadd hx hb dL_law_217 ?_
  refine va_sld hx hb hXs hbl hbA hS (hin 5 (by decide) (by decide)) dL_law_218 ?_
  refine va_calli (va_runV (As := [.int (xs (x4 + (1 : Int32)).toNatClampNeg), .int (xs (x4 + (2 : Int32)).toNatClampNeg), .int (xs (x4 + (3 : Int32)).toNatClampNeg), .int (xs (x4 + (4 : Int32)).toNatClampNeg), .int (xs (x4 + (5 : Int32)).toNatClampNeg)]) (rest := []) ⟨hx, hb, hml, hown, htb⟩ (kcX7_feed l D cx qx evx hevx σx (xs (x4 + (1 : Int32)).toNatClampNeg) (xs (x4 + (2 : Int32)).toNatClampNeg) (xs (x4 + (3 : Int32)).toNatClampNeg) (xs (x4 + (4 : Int32)).toNatClampNeg) (xs (x4 + (5 : Int32)).toNatClampNeg) _ hw) (tb_CW htb kX7_feed tb_370 tb_371 tb_372 ⟨Nat.le_of_ble_eq_true rfl, Nat.le_of_ble_eq_true rfl⟩) (hl_pre hevx hKx hPx (hDx σx) hEx (fun a h1 _ => hS.2.1 a h1 (Nat.not_le.mpr h1))) rfl rfl hl.1 rfl (lv_room (Nat.le_of_ble_eq_true rfl)) dL_law_219 ⟨by show (_ : Nat) + 0 ≤ 601024; omega, by show (_ : Nat) + 0 ≤ 7293034; omega⟩) hS (fun a _ h => hxA a h) (fun a h => hxA a h) (fun r σx1 t H1 locs1 ht hvm hw hB hz1 hk1 hS => ?_)
  have hPx : va_P D vwCl (xw cx qx σx1) H1 := ht ▸ hB
  have hPm := va_keep hPm (hDm σm) hmx hk1
  have hPo := va_keep hPo hlO_D (fun a h hx9 => hox (h ▸ hx9)) hk1
  refine lv_aload_n hx hb dL_law_222 rfl (lv_at hl 2 rfl) ?_
  refine lv_aload_n hx hb dL_law_223 rfl (lv_at hl 0 rfl) ?_
  refine lv_iload hx hb dL_law_224 (lv_at hl 4 rfl) ?_
  refine lv_iconst (v := (1 : Int32)) hx hb dL_law_226 (by decide) ?_
  refine lv_iadd hx hb dL_law_227 ?_
  refine va_sld hx hb hXs hbl hbA hS (hin 1 (by decide) (by decide)) dL_law_228 ?_
  refine lv_aload_n hx hb dL_law_229 rfl (lv_at hl 0 rfl) ?_
  refine lv_iload hx hb dL_law_230 (lv_at hl 4 rfl) ?_
  refine lv_iconst (v := (2 : Int32)) hx hb dL_law_232 (by decide) ?_
  refine lv_iadd hx hb dL_law_233 ?_
  refine va_sld hx hb hXs hbl hbA hS (hin 2 (by decide) (by decide)) dL_law_234 ?_
  refine lv_aload_n hx hb dL_law_235 rfl (lv_at hl 0 rfl) ?_
  refine lv_iload hx hb dL_law_236 (lv_at hl 4 rfl) ?_
  refine lv_iconst (v := (3 : Int32)) hx hb dL_law_238 (by decide) ?_
  refine lv_iadd hx hb dL_law_239 ?_
  refine va_sld hx hb hXs hbl hbA hS (hin 3 (by decide) (by decide)) dL_law_240 ?_
  refine lv_aload_n hx hb dL_law_241 rfl (lv_at hl 0 rfl) ?_
  refine lv_iload hx hb dL_law_242 (lv_at hl 4 rfl) ?_
  refine lv_iconst (v := (4 : Int32)) hx hb dL_law_244 (by decide) ?_
  refine lv_iadd hx hb dL_law_245 ?_
  refine va_sld hx hb hXs hbl hbA hS (hin 4 (by decide) (by decide)) dL_law_246 ?_
  refine lv_aload_n hx hb dL_law_247 rfl (lv_at hl 0 rfl) ?_
  refine lv_iload hx hb dL_law_248 (lv_at hl 4 rfl) ?_
  refine lv_iconst (v := (5 : Int32)) hx hb dL_law_250 (by decide) ?_
  refine lv_iadd hx hb dL_law_251 ?_
  refine va_sld hx hb hXs hbl hbA hS (hin 5 (by decide) (by decide)) dL_law_252 ?_
  refine va_calli (va_runV (As := [.int (xs (x4 + (1 : Int32)).toNatClampNeg), .int (xs (x4 + (2 : Int32)).toNatClampNeg), .int (xs (x4 + (3 : Int32)).toNatClampNeg), .int (xs (x4 + (4 : Int32)).toNatClampNeg), .int (xs (x4 + (5 : Int32)).toNatClampNeg)]) (rest := [.int r]) ⟨hx, hb, hml, hown, htb⟩ (kcX8_feed l D cm qm evm hevm σm (xs (x4 + (1 : Int32)).toNatClampNeg) (xs (x4 + (2 : Int32)).toNatClampNeg) (xs (x4 + (3 : Int32)).toNatClampNeg) (xs (x4 + (4 : Int32)).toNatClampNeg) (xs (x4 + (5 : Int32)).toNatClampNeg) _ hw) (tb_CW htb kX8_feed tb_1358 tb_1359 tb_1360 ⟨Nat.le_of_ble_eq_true rfl, Nat.le_of_ble_eq_true rfl⟩) (ml_pre hevm hKm hPm (hDm σm) hEm (fun a h1 _ => hS.2.1 a h1 (Nat.not_le.mpr h1))) rfl rfl hl.1 rfl (lv_room (Nat.le_of_ble_eq_true rfl)) dL_law_253 ⟨by show (_ : Nat) + 0 ≤ 601024; omega, by show (_ : Nat) + 0 ≤ 7293034; omega⟩) hS (fun a _ h => hmA a h) (fun a h => hmA a h) (fun bb σm1 t H1 locs1 ht hvm hw hB hz1 hk1 hS => ?_)
  have hPm : va_P D vwCl (mw cm qm σm1) H1 := ht ▸ hB
  have hPx := va_keep hPx (hDx σx1) (fun a h1 h2 => hmx a h2 h1) hk1
  have hPo := va_keep hPo hlO_D (fun a h hm9 => hom (h ▸ hm9)) hk1
  refine lv_icmp_eq (tgt := 1813) hx hb dL_law_256 (by decide) (fun _ => ?_) (fun h9 => absurd hw.1 h9)
  refine W.widen (k := k + 16) (n := n6 + 96) (by omega) (by omega) ?_
  exact hnext σx1 σm1 f _ _ _ hw.2 hPx hPm hPo hS (lv_sub hl [0, 1, 2, 3, 4] rfl)
set_option maxHeartbeats 8000000 in
set_option maxRecDepth 100000 in
theorem lc_1 {p : Program} {e : Env} {s : State} {m : MethodId} {below : List Frame} {meth : Method} {c₀ : Code} {l : Launch} {b L : Nat} {xs : Nat → Int32} {D : va_G} {cx cm : Nat → ClassId} {qx qm : Nat → Nat} {co : ClassId} {o tF : Nat} {evx evm : State → Heap → Prop} {adK adV : Nat → Nat} (C0 : lw_At p s m meth c₀ b L xs) (hst : l.stackTraces = false) (hs : lwS s D cx qx cm qm co o evx evm tF adK adV) (R Rn : hsS → hsS → Prop) (O : ∀ (f : Nat → Int64) (a1 : Int32) (σx σm : hsS), R σx σm → lo_1 f a1 Rn σx σm) (x4 : Int32) (hin : ∀ j : Nat, 0 < j → j < 6 → vp_in (x4 + nI j) L) (σx σm : hsS) (f : Nat → Int64) (k n6 : Nat) (hk : k + 16 ≤ 600000 ∧ n6 + 96 ≤ 7000000) (H : Heap) (locs : List Loc) (ls : Array Slot) (hR : R σx σm) (hPx : va_P D vwCl (xw cx qx σx) H) (hPm : va_P D vwCl (mw cm qm σm) H) (hPo : va_P D vwCl (hlO co o f) H) (hS : va_S (fun q : Nat => s.heap.size ≤ q) s.heap H locs) (hl : lv_has ls 7 [(0, .ref b), (1, .ref (qx 0)), (2, .ref (qm 0)), (3, .ref o), (4, .int x4)]) (hnext : ∀ (σx σm : hsS) (f : Nat → Int64) (H : Heap) (locs : List Loc) (ls : Array Slot), Rn σx σm → va_P D vwCl (xw cx qx σx) H → va_P D vwCl (mw cm qm σm) H → va_P D vwCl (hlO co o f) H → va_S (fun q : Nat => s.heap.size ≤ q) s.heap H locs → lv_has ls 7 [(0, .ref b), (1, .ref (qx 0)), (2, .ref (qm 0)), (3, .ref o), (4, .int x4)] → W p l e room_1 s m #[Value.ref b] below meth c₀ H locs (k + 16) (n6 + 96) (lw_Z below #[Value.ref b] s) (F0 m 1813 ls [])) : W p l e room_1 s m #[Value.ref b] below meth c₀ H locs k n6 (lw_Z below #[Value.ref b] s) (F0 m 261 ls []) := by
  obtain ⟨hx, hb, hr, hml, hown, hts, hXs, hbl, hlocks, hgv⟩ := C0
  obtain ⟨⟨hKx, hKm, hKo⟩, ⟨hDx, hDm⟩, ⟨hox, hmx, hom⟩, ⟨hxA, hmA, hoS⟩, ⟨hevx, hEx, hevm, hEm⟩, hXx, hF, hZx, hZm⟩ := hs
  have hbA : ¬ (fun q : Nat => s.heap.size ≤ q) b := Nat.not_le.mpr hbl
  have hoA : ∀ a, hlA qx o a → s.heap.size ≤ a := fun a h => h.elim (hxA a) (fun h => by rw [h]; exact hoS)
  have htb : ∀ w ∈ tb_L, w.before #[Value.ref b] s = true := fun w h => hts w (tb_in h)
  have hw := O f (xs (x4 + (1 : Int32)).toNatClampNeg) σx σm hR
  unfold lo_1 at hw
  refine lv_aload_n hx hb dL_law_261 rfl (lv_at hl 1 rfl) ?_
  refine lv_aload_n hx hb dL_law_262 rfl (lv_at hl 0 rfl) ?_
  refine lv_iload hx hb dL_law_263 (lv_at hl 4 rfl) ?_
  refine lv_iconst (v := (1 : Int32)) hx hb dL_law_265 (by decide) ?_
  refine lv_iadd hx hb dL_law_266 ?_
  refine va_sld hx hb hXs hbl hbA hS (hin 1 (by decide) (by decide)) dL_law_267 ?_
  refine lv_aload_n hx hb dL_law_268 rfl (lv_at hl 3 rfl) ?_
  refine va_calli (vx_runSW (As := [.ref (qx 0), .int (xs (x4 + (1 : Int32)).toNatClampNeg), .ref o]) (rest := []) ⟨hx, hb, hml, hown, htb⟩ (khL_hall l D cx qx evx hevx adK adV hZx hst hXx co o σx f (xs (x4 + (1 : Int32)).toNatClampNeg) (fun (kk : Int32) (u : hsS × (Nat → Int64)) => wX8_hall (xs (x4 + (1 : Int32)).toNatClampNeg) (fun bb σm1 => wX8_thrown (fun th σm2 => th = kk ∧ (kk = (0 : Int32) → (u.2 0) = (bb.toInt64)) ∧ Rn u.1 σm2) σm1) σm) hw) (tb_CSW htb kw_hall tb_629 tb_630 ⟨Nat.le_of_ble_eq_true rfl, Nat.le_of_ble_eq_true rfl⟩) (hl_preS hevx hKx hKo hPx hPo (hDx σx) hox hEx (fun a h1 _ => hS.2.1 a h1 (Nat.not_le.mpr h1))) rfl rfl hl.1 rfl (lv_room (Nat.le_of_ble_eq_true rfl)) dL_law_269 ⟨by show k + 1 ≤ 601024; omega, by show n6 + 6 ≤ 7293034; omega⟩) hS (fun a _ h => hoA a h) (fun a h => hoA a h) (fun kk u t H1 locs1 ht hvm hw hB hz1 hk1 hS => ?_)
  have hPx : va_P D vwCl (xw cx qx u.1) H1 := ht ▸ hB.1
  have hPo : va_P D vwCl (hlO co o u.2) H1 := ht ▸ hB.2
  have hPm := va_keep hPm (hDm σm) (fun a h1 h2 => h2.elim (hmx a h1) (fun h3 => hom (h3 ▸ h1))) hk1
  refine lv_istore (lv' := [(5, .int kk), (0, .ref b), (1, .ref (qx 0)), (2, .ref (qm 0)), (3, .ref o), (4, .int x4)]) hx hb dL_law_272 hl (by decide) rfl (fun ls hl => ?_)
  refine lv_aload_n hx hb dL_law_274 rfl (lv_at hl 3 rfl) ?_
  refine lv_aload_n hx hb dL_law_275 rfl (lv_at hl 1 rfl) ?_
  refine lv_iload hx hb dL_law_276 (lv_at hl 5 rfl) ?_
  refine lv_iconst (v := (1 : Int32)) hx hb dL_law_278 (by decide) ?_
  refine lv_iadd hx hb dL_law_279 ?_
  refine va_sld hx hb hXs hbl hbA hS (hin 1 (by decide) (by decide)) dL_law_280 ?_
  refine va_calli (va_runV (As := [.int (xs (x4 + (1 : Int32)).toNatClampNeg)]) (rest := []) ⟨hx, hb, hml, hown, htb⟩ (kcX8_hall l D cm qm evm hevm adK adV hZm σm (xs (x4 + (1 : Int32)).toNatClampNeg) _ hw) (tb_CW htb kX8_hall tb_1362 tb_1363 tb_1364 ⟨Nat.le_of_ble_eq_true rfl, Nat.le_of_ble_eq_true rfl⟩) (ml_pre hevm hKm hPm (hDm σm) hEm (fun a h1 _ => hS.2.1 a h1 (Nat.not_le.mpr h1))) rfl rfl hl.1 rfl (lv_room (Nat.le_of_ble_eq_true rfl)) dL_law_281 ⟨by show (_ : Nat) + 0 ≤ 601024; omega, by show (_ : Nat) + 0 ≤ 7293034; omega⟩) hS (fun a _ h => hmA a h) (fun a h => hmA a h) (fun bb σm1 t H1 locs1 ht hvm hw hB hz1 hk1 hS => ?_)
  have hPm : va_P D vwCl (mw cm qm σm1) H1 := ht ▸ hB
  have hPx := va_keep hPx (hDx u.1) (fun a h1 h2 => hmx a h2 h1) hk1
  have hPo := va_keep hPo hlO_D (fun a h hm9 => hom (h ▸ hm9)) hk1
  refine lv_istore (lv' := [(6, .int bb), (5, .int kk), (0, .ref b), (1, .ref (qx 0)), (2, .ref (qm 0)), (3, .ref o), (4, .int x4)]) hx hb dL_law_284 hl (by decide) rfl (fun ls hl => ?_)
  refine lv_aload_n hx hb dL_law_286 rfl (lv_at hl 4 rfl) ?_
  refine va_calli (va_runV (As := []) (rest := []) ⟨hx, hb, hml, hown, htb⟩ (kcX8_thrown l D cm qm evm hevm σm1  _ hw) (tb_CW htb kX8_thrown tb_1354 tb_1355 tb_1356 ⟨Nat.le_of_ble_eq_true rfl, Nat.le_of_ble_eq_true rfl⟩) (ml_pre hevm hKm hPm (hDm σm1) hEm (fun a h1 _ => hS.2.1 a h1 (Nat.not_le.mpr h1))) rfl rfl hl.1 rfl (lv_room (Nat.le_of_ble_eq_true rfl)) dL_law_287 ⟨by show (_ : Nat) + 0 ≤ 601024; omega, by show (_ : Nat) + 0 ≤ 7293034; omega⟩) hS (fun a _ h => hmA a h) (fun a h => hmA a h) (fun th σm2 t H1 locs1 ht hvm hw hB hz1 hk1 hS => ?_)
  have hPm : va_P D vwCl (mw cm qm σm2) H1 := ht ▸ hB
  have hPx := va_keep hPx (hDx u.1) (fun a h1 h2 => hmx a h2 h1) hk1
  have hPo := va_keep hPo hlO_D (fun a h hm9 => hom (h ▸ hm9)) hk1
  refine lv_iload hx hb dL_law_290 (lv_at hl 1 rfl) ?_
  refine lv_icmp_eq (tgt := 297) hx hb dL_law_292 (by decide) (fun _ => ?_) (fun h9 => absurd hw.1 h9)
  refine lv_iload hx hb dL_law_297 (lv_at hl 1 rfl) ?_
  refine lv_if_ne (tgt := 314) hx hb dL_law_299 (by decide) (fun c1 => ?_) (fun c1 => ?_)
  · refine lv_goto (tgt := 1813) hx hb dL_law_314 (by decide) ?_
    refine W.widen (k := k + 16) (n := n6 + 96) (by omega) (by omega) ?_
    exact hnext u.1 σm2 u.2 _ _ _ hw.2.2 hPx hPm hPo hS (lv_sub hl [2, 3, 4, 5, 6] rfl)
  · refine lv_aload_n hx hb dL_law_302 rfl (lv_at hl 5 rfl) ?_
    refine lv_iconst (v := (0 : Int32)) hx hb dL_law_303 (by decide) ?_
    refine va_lald hx hb hKo hPo 0 0 rfl rfl (by unfold vp_in; decide) dL_law_304 ?_
    refine lv_iload hx hb dL_law_305 (lv_at hl 0 rfl) ?_
    refine lv_i2l hx hb dL_law_307 rfl ?_
    refine W.lcmp hx hb dL_law_308 ?_
    refine lv_if_eq (tgt := 314) hx hb dL_law_309 (by decide) (fun _ => ?_) (fun h9 => absurd (lcmp_eq.mpr (hw.2.1 c1)) h9)
    refine lv_goto (tgt := 1813) hx hb dL_law_314 (by decide) ?_
    refine W.widen (k := k + 16) (n := n6 + 96) (by omega) (by omega) ?_
    exact hnext u.1 σm2 u.2 _ _ _ hw.2.2 hPx hPm hPo hS (lv_sub hl [2, 3, 4, 5, 6] rfl)
set_option maxHeartbeats 8000000 in
set_option maxRecDepth 100000 in
theorem lc_2 {p : Program} {e : Env} {s : State} {m : MethodId} {below : List Frame} {meth : Method} {c₀ : Code} {l : Launch} {b L : Nat} {xs : Nat → Int32} {D : va_G} {cx cm : Nat → ClassId} {qx qm : Nat → Nat} {co : ClassId} {o tF : Nat} {evx evm : State → Heap → Prop} {adK adV : Nat → Nat} (C0 : lw_At p s m meth c₀ b L xs) (hst : l.stackTraces = false) (hs : lwS s D cx qx cm qm co o evx evm tF adK adV) (R Rn : hsS → hsS → Prop) (O : ∀  (σx σm : hsS), R σx σm → lo_2  Rn σx σm) (x4 : Int32) (hin : ∀ j : Nat, 0 < j → j < 6 → vp_in (x4 + nI j) L) (σx σm : hsS) (f : Nat → Int64) (k n6 : Nat) (hk : k + 16 ≤ 600000 ∧ n6 + 96 ≤ 7000000) (H : Heap) (locs : List Loc) (ls : Array Slot) (hR : R σx σm) (hPx : va_P D vwCl (xw cx qx σx) H) (hPm : va_P D vwCl (mw cm qm σm) H) (hPo : va_P D vwCl (hlO co o f) H) (hS : va_S (fun q : Nat => s.heap.size ≤ q) s.heap H locs) (hl : lv_has ls 7 [(0, .ref b), (1, .ref (qx 0)), (2, .ref (qm 0)), (3, .ref o), (4, .int x4)]) (hnext : ∀ (σx σm : hsS) (f : Nat → Int64) (H : Heap) (locs : List Loc) (ls : Array Slot), Rn σx σm → va_P D vwCl (xw cx qx σx) H → va_P D vwCl (mw cm qm σm) H → va_P D vwCl (hlO co o f) H → va_S (fun q : Nat => s.heap.size ≤ q) s.heap H locs → lv_has ls 7 [(0, .ref b), (1, .ref (qx 0)), (2, .ref (qm 0)), (3, .ref o), (4, .int x4)] → W p l e room_1 s m #[Value.ref b] below meth c₀ H locs (k + 16) (n6 + 96) (lw_Z below #[Value.ref b] s) (F0 m 1813 ls [])) : W p l e room_1 s m #[Value.ref b] below meth c₀ H locs k n6 (lw_Z below #[Value.ref b] s) (F0 m 317 ls []) := by
  obtain ⟨hx, hb, hr, hml, hown, hts, hXs, hbl, hlocks, hgv⟩ := C0
  obtain ⟨⟨hKx, hKm, hKo⟩, ⟨hDx, hDm⟩, ⟨hox, hmx, hom⟩, ⟨hxA, hmA, hoS⟩, ⟨hevx, hEx, hevm, hEm⟩, hXx, hF, hZx, hZm⟩ := hs
  have hbA : ¬ (fun q : Nat => s.heap.size ≤ q) b := Nat.not_le.mpr hbl
  have hoA : ∀ a, hlA qx o a → s.heap.size ≤ a := fun a h => h.elim (hxA a) (fun h => by rw [h]; exact hoS)
  have htb : ∀ w ∈ tb_L, w.before #[Value.ref b] s = true := fun w h => hts w (tb_in h)
  have hw := O  σx σm hR
  unfold lo_2 at hw
  refine lv_aload_n hx hb dL_law_317 rfl (lv_at hl 1 rfl) ?_
  refine va_calli (va_runV (As := []) (rest := []) ⟨hx, hb, hml, hown, htb⟩ (kcX7_fault l D cx qx evx hevx σx  _ hw) (tb_CW htb kX7_fault tb_382 tb_383 tb_384 ⟨Nat.le_of_ble_eq_true rfl, Nat.le_of_ble_eq_true rfl⟩) (hl_pre hevx hKx hPx (hDx σx) hEx (fun a h1 _ => hS.2.1 a h1 (Nat.not_le.mpr h1))) rfl rfl hl.1 rfl (lv_room (Nat.le_of_ble_eq_true rfl)) dL_law_318 ⟨by show (_ : Nat) + 0 ≤ 601024; omega, by show (_ : Nat) + 0 ≤ 7293034; omega⟩) hS (fun a _ h => hxA a h) (fun a h => hxA a h) (fun r σx1 t H1 locs1 ht hvm hw hB hz1 hk1 hS => ?_)
  have hPx : va_P D vwCl (xw cx qx σx1) H1 := ht ▸ hB
  have hPm := va_keep hPm (hDm σm) hmx hk1
  have hPo := va_keep hPo hlO_D (fun a h hx9 => hox (h ▸ hx9)) hk1
  refine lv_aload_n hx hb dL_law_321 rfl (lv_at hl 2 rfl) ?_
  refine va_calli (va_runV (As := []) (rest := [.int r]) ⟨hx, hb, hml, hown, htb⟩ (kcX8_fault l D cm qm evm hevm σm  _ hw) (tb_CW htb kX8_fault tb_1446 tb_1447 tb_1448 ⟨Nat.le_of_ble_eq_true rfl, Nat.le_of_ble_eq_true rfl⟩) (ml_pre hevm hKm hPm (hDm σm) hEm (fun a h1 _ => hS.2.1 a h1 (Nat.not_le.mpr h1))) rfl rfl hl.1 rfl (lv_room (Nat.le_of_ble_eq_true rfl)) dL_law_322 ⟨by show (_ : Nat) + 0 ≤ 601024; omega, by show (_ : Nat) + 0 ≤ 7293034; omega⟩) hS (fun a _ h => hmA a h) (fun a h => hmA a h) (fun bb σm1 t H1 locs1 ht hvm hw hB hz1 hk1 hS => ?_)
  have hPm : va_P D vwCl (mw cm qm σm1) H1 := ht ▸ hB
  have hPx := va_keep hPx (hDx σx1) (fun a h1 h2 => hmx a h2 h1) hk1
  have hPo := va_keep hPo hlO_D (fun a h hm9 => hom (h ▸ hm9)) hk1
  refine lv_icmp_eq (tgt := 1813) hx hb dL_law_325 (by decide) (fun _ => ?_) (fun h9 => absurd hw.1 h9)
  refine W.widen (k := k + 16) (n := n6 + 96) (by omega) (by omega) ?_
  exact hnext σx1 σm1 f _ _ _ hw.2 hPx hPm hPo hS (lv_sub hl [0, 1, 2, 3, 4] rfl)
set_option maxHeartbeats 8000000 in
set_option maxRecDepth 100000 in
theorem lc_3 {p : Program} {e : Env} {s : State} {m : MethodId} {below : List Frame} {meth : Method} {c₀ : Code} {l : Launch} {b L : Nat} {xs : Nat → Int32} {D : va_G} {cx cm : Nat → ClassId} {qx qm : Nat → Nat} {co : ClassId} {o tF : Nat} {evx evm : State → Heap → Prop} {adK adV : Nat → Nat} (C0 : lw_At p s m meth c₀ b L xs) (hst : l.stackTraces = false) (hs : lwS s D cx qx cm qm co o evx evm tF adK adV) (R Rn : hsS → hsS → Prop) (O : ∀ (f : Nat → Int64) (a1 : Int32) (σx σm : hsS), R σx σm → lo_3 f a1 Rn σx σm) (x4 : Int32) (hin : ∀ j : Nat, 0 < j → j < 6 → vp_in (x4 + nI j) L) (σx σm : hsS) (f : Nat → Int64) (k n6 : Nat) (hk : k + 16 ≤ 600000 ∧ n6 + 96 ≤ 7000000) (H : Heap) (locs : List Loc) (ls : Array Slot) (hR : R σx σm) (hPx : va_P D vwCl (xw cx qx σx) H) (hPm : va_P D vwCl (mw cm qm σm) H) (hPo : va_P D vwCl (hlO co o f) H) (hS : va_S (fun q : Nat => s.heap.size ≤ q) s.heap H locs) (hl : lv_has ls 7 [(0, .ref b), (1, .ref (qx 0)), (2, .ref (qm 0)), (3, .ref o), (4, .int x4)]) (hnext : ∀ (σx σm : hsS) (f : Nat → Int64) (H : Heap) (locs : List Loc) (ls : Array Slot), Rn σx σm → va_P D vwCl (xw cx qx σx) H → va_P D vwCl (mw cm qm σm) H → va_P D vwCl (hlO co o f) H → va_S (fun q : Nat => s.heap.size ≤ q) s.heap H locs → lv_has ls 7 [(0, .ref b), (1, .ref (qx 0)), (2, .ref (qm 0)), (3, .ref o), (4, .int x4)] → W p l e room_1 s m #[Value.ref b] below meth c₀ H locs (k + 16) (n6 + 96) (lw_Z below #[Value.ref b] s) (F0 m 1813 ls [])) : W p l e room_1 s m #[Value.ref b] below meth c₀ H locs k n6 (lw_Z below #[Value.ref b] s) (F0 m 330 ls []) := by
  obtain ⟨hx, hb, hr, hml, hown, hts, hXs, hbl, hlocks, hgv⟩ := C0
  obtain ⟨⟨hKx, hKm, hKo⟩, ⟨hDx, hDm⟩, ⟨hox, hmx, hom⟩, ⟨hxA, hmA, hoS⟩, ⟨hevx, hEx, hevm, hEm⟩, hXx, hF, hZx, hZm⟩ := hs
  have hbA : ¬ (fun q : Nat => s.heap.size ≤ q) b := Nat.not_le.mpr hbl
  have hoA : ∀ a, hlA qx o a → s.heap.size ≤ a := fun a h => h.elim (hxA a) (fun h => by rw [h]; exact hoS)
  have htb : ∀ w ∈ tb_L, w.before #[Value.ref b] s = true := fun w h => hts w (tb_in h)
  have hw := O f (xs (x4 + (1 : Int32)).toNatClampNeg) σx σm hR
  unfold lo_3 at hw
  refine lv_aload_n hx hb dL_law_330 rfl (lv_at hl 1 rfl) ?_
  refine lv_aload_n hx hb dL_law_331 rfl (lv_at hl 0 rfl) ?_
  refine lv_iload hx hb dL_law_332 (lv_at hl 4 rfl) ?_
  refine lv_iconst (v := (1 : Int32)) hx hb dL_law_334 (by decide) ?_
  refine lv_iadd hx hb dL_law_335 ?_
  refine va_sld hx hb hXs hbl hbA hS (hin 1 (by decide) (by decide)) dL_law_336 ?_
  refine lv_aload_n hx hb dL_law_337 rfl (lv_at hl 3 rfl) ?_
  refine va_calli (vx_runSW (As := [.ref (qx 0), .int (xs (x4 + (1 : Int32)).toNatClampNeg), .ref o]) (rest := []) ⟨hx, hb, hml, hown, htb⟩ (khL_count l D cx qx evx hevx hst hXx co o σx f (xs (x4 + (1 : Int32)).toNatClampNeg) (fun (kk : Int32) (u : hsS × (Nat → Int64)) => wX8_count (xs (x4 + (1 : Int32)).toNatClampNeg) (fun bb σm1 => wX8_thrown (fun th σm2 => th = kk ∧ (kk = (0 : Int32) → (u.2 0) = (bb.toInt64)) ∧ Rn u.1 σm2) σm1) σm) hw) (tb_CSW htb kw_count tb_875 tb_876 ⟨Nat.le_of_ble_eq_true rfl, Nat.le_of_ble_eq_true rfl⟩) (hl_preS hevx hKx hKo hPx hPo (hDx σx) hox hEx (fun a h1 _ => hS.2.1 a h1 (Nat.not_le.mpr h1))) rfl rfl hl.1 rfl (lv_room (Nat.le_of_ble_eq_true rfl)) dL_law_338 ⟨by show k + 1 ≤ 601024; omega, by show n6 + 6 ≤ 7293034; omega⟩) hS (fun a _ h => hoA a h) (fun a h => hoA a h) (fun kk u t H1 locs1 ht hvm hw hB hz1 hk1 hS => ?_)
  have hPx : va_P D vwCl (xw cx qx u.1) H1 := ht ▸ hB.1
  have hPo : va_P D vwCl (hlO co o u.2) H1 := ht ▸ hB.2
  have hPm := va_keep hPm (hDm σm) (fun a h1 h2 => h2.elim (hmx a h1) (fun h3 => hom (h3 ▸ h1))) hk1
  refine lv_istore (lv' := [(5, .int kk), (0, .ref b), (1, .ref (qx 0)), (2, .ref (qm 0)), (3, .ref o), (4, .int x4)]) hx hb dL_law_341 hl (by decide) rfl (fun ls hl => ?_)
  refine lv_aload_n hx hb dL_law_343 rfl (lv_at hl 3 rfl) ?_
  refine lv_aload_n hx hb dL_law_344 rfl (lv_at hl 1 rfl) ?_
  refine lv_iload hx hb dL_law_345 (lv_at hl 5 rfl) ?_
  refine lv_iconst (v := (1 : Int32)) hx hb dL_law_347 (by decide) ?_
  refine lv_iadd hx hb dL_law_348 ?_
  refine va_sld hx hb hXs hbl hbA hS (hin 1 (by decide) (by decide)) dL_law_349 ?_
  refine va_calli (va_runV (As := [.int (xs (x4 + (1 : Int32)).toNatClampNeg)]) (rest := []) ⟨hx, hb, hml, hown, htb⟩ (kcX8_count l D cm qm evm hevm σm (xs (x4 + (1 : Int32)).toNatClampNeg) _ hw) (tb_CW htb kX8_count tb_1450 tb_1451 tb_1452 ⟨Nat.le_of_ble_eq_true rfl, Nat.le_of_ble_eq_true rfl⟩) (ml_pre hevm hKm hPm (hDm σm) hEm (fun a h1 _ => hS.2.1 a h1 (Nat.not_le.mpr h1))) rfl rfl hl.1 rfl (lv_room (Nat.le_of_ble_eq_true rfl)) dL_law_350 ⟨by show (_ : Nat) + 0 ≤ 601024; omega, by show (_ : Nat) + 0 ≤ 7293034; omega⟩) hS (fun a _ h => hmA a h) (fun a h => hmA a h) (fun bb σm1 t H1 locs1 ht hvm hw hB hz1 hk1 hS => ?_)
  have hPm : va_P D vwCl (mw cm qm σm1) H1 := ht ▸ hB
  have hPx := va_keep hPx (hDx u.1) (fun a h1 h2 => hmx a h2 h1) hk1
  have hPo := va_keep hPo hlO_D (fun a h hm9 => hom (h ▸ hm9)) hk1
  refine lv_istore (lv' := [(6, .int bb), (5, .int kk), (0, .ref b), (1, .ref (qx 0)), (2, .ref (qm 0)), (3, .ref o), (4, .int x4)]) hx hb dL_law_353 hl (by decide) rfl (fun ls hl => ?_)
  refine lv_aload_n hx hb dL_law_355 rfl (lv_at hl 4 rfl) ?_
  refine va_calli (va_runV (As := []) (rest := []) ⟨hx, hb, hml, hown, htb⟩ (kcX8_thrown l D cm qm evm hevm σm1  _ hw) (tb_CW htb kX8_thrown tb_1354 tb_1355 tb_1356 ⟨Nat.le_of_ble_eq_true rfl, Nat.le_of_ble_eq_true rfl⟩) (ml_pre hevm hKm hPm (hDm σm1) hEm (fun a h1 _ => hS.2.1 a h1 (Nat.not_le.mpr h1))) rfl rfl hl.1 rfl (lv_room (Nat.le_of_ble_eq_true rfl)) dL_law_356 ⟨by show (_ : Nat) + 0 ≤ 601024; omega, by show (_ : Nat) + 0 ≤ 7293034; omega⟩) hS (fun a _ h => hmA a h) (fun a h => hmA a h) (fun th σm2 t H1 locs1 ht hvm hw hB hz1 hk1 hS => ?_)
  have hPm : va_P D vwCl (mw cm qm σm2) H1 := ht ▸ hB
  have hPx := va_keep hPx (hDx u.1) (fun a h1 h2 => hmx a h2 h1) hk1
  have hPo := va_keep hPo hlO_D (fun a h hm9 => hom (h ▸ hm9)) hk1
  refine lv_iload hx hb dL_law_359 (lv_at hl 1 rfl) ?_
  refine lv_icmp_eq (tgt := 366) hx hb dL_law_361 (by decide) (fun _ => ?_) (fun h9 => absurd hw.1 h9)
  refine lv_iload hx hb dL_law_366 (lv_at hl 1 rfl) ?_
  refine lv_if_ne (tgt := 383) hx hb dL_law_368 (by decide) (fun c1 => ?_) (fun c1 => ?_)
  · refine lv_goto (tgt := 1813) hx hb dL_law_383 (by decide) ?_
    refine W.widen (k := k + 16) (n := n6 + 96) (by omega) (by omega) ?_
    exact hnext u.1 σm2 u.2 _ _ _ hw.2.2 hPx hPm hPo hS (lv_sub hl [2, 3, 4, 5, 6] rfl)
  · refine lv_aload_n hx hb dL_law_371 rfl (lv_at hl 5 rfl) ?_
    refine lv_iconst (v := (0 : Int32)) hx hb dL_law_372 (by decide) ?_
    refine va_lald hx hb hKo hPo 0 0 rfl rfl (by unfold vp_in; decide) dL_law_373 ?_
    refine lv_iload hx hb dL_law_374 (lv_at hl 0 rfl) ?_
    refine lv_i2l hx hb dL_law_376 rfl ?_
    refine W.lcmp hx hb dL_law_377 ?_
    refine lv_if_eq (tgt := 383) hx hb dL_law_378 (by decide) (fun _ => ?_) (fun h9 => absurd (lcmp_eq.mpr (hw.2.1 c1)) h9)
    refine lv_goto (tgt := 1813) hx hb dL_law_383 (by decide) ?_
    refine W.widen (k := k + 16) (n := n6 + 96) (by omega) (by omega) ?_
    exact hnext u.1 σm2 u.2 _ _ _ hw.2.2 hPx hPm hPo hS (lv_sub hl [2, 3, 4, 5, 6] rfl)
set_option maxHeartbeats 8000000 in
set_option maxRecDepth 100000 in
theorem lc_4 {p : Program} {e : Env} {s : State} {m : MethodId} {below : List Frame} {meth : Method} {c₀ : Code} {l : Launch} {b L : Nat} {xs : Nat → Int32} {D : va_G} {cx cm : Nat → ClassId} {qx qm : Nat → Nat} {co : ClassId} {o tF : Nat} {evx evm : State → Heap → Prop} {adK adV : Nat → Nat} (C0 : lw_At p s m meth c₀ b L xs) (hst : l.stackTraces = false) (hs : lwS s D cx qx cm qm co o evx evm tF adK adV) (R Rn : hsS → hsS → Prop) (O : ∀ (f : Nat → Int64) (a1 a2 : Int32) (σx σm : hsS), R σx σm → lo_4 f a1 a2 Rn σx σm) (x4 : Int32) (hin : ∀ j : Nat, 0 < j → j < 6 → vp_in (x4 + nI j) L) (σx σm : hsS) (f : Nat → Int64) (k n6 : Nat) (hk : k + 16 ≤ 600000 ∧ n6 + 96 ≤ 7000000) (H : Heap) (locs : List Loc) (ls : Array Slot) (hR : R σx σm) (hPx : va_P D vwCl (xw cx qx σx) H) (hPm : va_P D vwCl (mw cm qm σm) H) (hPo : va_P D vwCl (hlO co o f) H) (hS : va_S (fun q : Nat => s.heap.size ≤ q) s.heap H locs) (hl : lv_has ls 7 [(0, .ref b), (1, .ref (qx 0)), (2, .ref (qm 0)), (3, .ref o), (4, .int x4)]) (hnext : ∀ (σx σm : hsS) (f : Nat → Int64) (H : Heap) (locs : List Loc) (ls : Array Slot), Rn σx σm → va_P D vwCl (xw cx qx σx) H → va_P D vwCl (mw cm qm σm) H → va_P D vwCl (hlO co o f) H → va_S (fun q : Nat => s.heap.size ≤ q) s.heap H locs → lv_has ls 7 [(0, .ref b), (1, .ref (qx 0)), (2, .ref (qm 0)), (3, .ref o), (4, .int x4)] → W p l e room_1 s m #[Value.ref b] below meth c₀ H locs (k + 16) (n6 + 96) (lw_Z below #[Value.ref b] s) (F0 m 1813 ls [])) : W p l e room_1 s m #[Value.ref b] below meth c₀ H locs k n6 (lw_Z below #[Value.ref b] s) (F0 m 386 ls []) := by
  obtain ⟨hx, hb, hr, hml, hown, hts, hXs, hbl, hlocks, hgv⟩ := C0
  obtain ⟨⟨hKx, hKm, hKo⟩, ⟨hDx, hDm⟩, ⟨hox, hmx, hom⟩, ⟨hxA, hmA, hoS⟩, ⟨hevx, hEx, hevm, hEm⟩, hXx, hF, hZx, hZm⟩ := hs
  have hbA : ¬ (fun q : Nat => s.heap.size ≤ q) b := Nat.not_le.mpr hbl
  have hoA : ∀ a, hlA qx o a → s.heap.size ≤ a := fun a h => h.elim (hxA a) (fun h => by rw [h]; exact hoS)
  have htb : ∀ w ∈ tb_L, w.before #[Value.ref b] s = true := fun w h => hts w (tb_in h)
  have hw := O f (xs (x4 + (1 : Int32)).toNatClampNeg) (xs (x4 + (2 : Int32)).toNatClampNeg) σx σm hR
  unfold lo_4 at hw
  refine lv_aload_n hx hb dL_law_386 rfl (lv_at hl 1 rfl) ?_
  refine lv_aload_n hx hb dL_law_387 rfl (lv_at hl 0 rfl) ?_
  refine lv_iload hx hb dL_law_388 (lv_at hl 4 rfl) ?_
  refine lv_iconst (v := (1 : Int32)) hx hb dL_law_390 (by decide) ?_
  refine lv_iadd hx hb dL_law_391 ?_
  refine va_sld hx hb hXs hbl hbA hS (hin 1 (by decide) (by decide)) dL_law_392 ?_
  refine lv_aload_n hx hb dL_law_393 rfl (lv_at hl 0 rfl) ?_
  refine lv_iload hx hb dL_law_394 (lv_at hl 4 rfl) ?_
  refine lv_iconst (v := (2 : Int32)) hx hb dL_law_396 (by decide) ?_
  refine lv_iadd hx hb dL_law_397 ?_
  refine va_sld hx hb hXs hbl hbA hS (hin 2 (by decide) (by decide)) dL_law_398 ?_
  refine lv_aload_n hx hb dL_law_399 rfl (lv_at hl 3 rfl) ?_
  refine va_calli (vx_runSW (As := [.ref (qx 0), .int (xs (x4 + (1 : Int32)).toNatClampNeg), .int (xs (x4 + (2 : Int32)).toNatClampNeg), .ref o]) (rest := []) ⟨hx, hb, hml, hown, htb⟩ (khL_place l D cx qx evx hevx hst hXx co o σx f (xs (x4 + (1 : Int32)).toNatClampNeg) (xs (x4 + (2 : Int32)).toNatClampNeg) (fun (kk : Int32) (u : hsS × (Nat → Int64)) => wX8_place (xs (x4 + (1 : Int32)).toNatClampNeg) (xs (x4 + (2 : Int32)).toNatClampNeg) (fun bb σm1 => wX8_thrown (fun th σm2 => th = kk ∧ (kk = (0 : Int32) → (u.2 0) = (bb.toInt64)) ∧ Rn u.1 σm2) σm1) σm) hw) (tb_CSW htb kw_place tb_899 tb_900 ⟨Nat.le_of_ble_eq_true rfl, Nat.le_of_ble_eq_true rfl⟩) (hl_preS hevx hKx hKo hPx hPo (hDx σx) hox hEx (fun a h1 _ => hS.2.1 a h1 (Nat.not_le.mpr h1))) rfl rfl hl.1 rfl (lv_room (Nat.le_of_ble_eq_true rfl)) dL_law_400 ⟨by show k + 2 ≤ 601024; omega, by show n6 + 12 ≤ 7293034; omega⟩) hS (fun a _ h => hoA a h) (fun a h => hoA a h) (fun kk u t H1 locs1 ht hvm hw hB hz1 hk1 hS => ?_)
  have hPx : va_P D vwCl (xw cx qx u.1) H1 := ht ▸ hB.1
  have hPo : va_P D vwCl (hlO co o u.2) H1 := ht ▸ hB.2
  have hPm := va_keep hPm (hDm σm) (fun a h1 h2 => h2.elim (hmx a h1) (fun h3 => hom (h3 ▸ h1))) hk1
  refine lv_istore (lv' := [(5, .int kk), (0, .ref b), (1, .ref (qx 0)), (2, .ref (qm 0)), (3, .ref o), (4, .int x4)]) hx hb dL_law_403 hl (by decide) rfl (fun ls hl => ?_)
  refine lv_aload_n hx hb dL_law_405 rfl (lv_at hl 3 rfl) ?_
  refine lv_aload_n hx hb dL_law_406 rfl (lv_at hl 1 rfl) ?_
  refine lv_iload hx hb dL_law_407 (lv_at hl 5 rfl) ?_
  refine lv_iconst (v := (1 : Int32)) hx hb dL_law_409 (by decide) ?_
  refine lv_iadd hx hb dL_law_410 ?_
  refine va_sld hx hb hXs hbl hbA hS (hin 1 (by decide) (by decide)) dL_law_411 ?_
  refine lv_aload_n hx hb dL_law_412 rfl (lv_at hl 1 rfl) ?_
  refine lv_iload hx hb dL_law_413 (lv_at hl 5 rfl) ?_
  refine lv_iconst (v := (2 : Int32)) hx hb dL_law_415 (by decide) ?_
  refine lv_iadd hx hb dL_law_416 ?_
  refine va_sld hx hb hXs hbl hbA hS (hin 2 (by decide) (by decide)) dL_law_417 ?_
  refine va_calli (va_runV (As := [.int (xs (x4 + (1 : Int32)).toNatClampNeg), .int (xs (x4 + (2 : Int32)).toNatClampNeg)]) (rest := []) ⟨hx, hb, hml, hown, htb⟩ (kcX8_place l D cm qm evm hevm σm (xs (x4 + (1 : Int32)).toNatClampNeg) (xs (x4 + (2 : Int32)).toNatClampNeg) _ hw) (tb_CW htb kX8_place tb_1465 tb_1466 tb_1467 ⟨Nat.le_of_ble_eq_true rfl, Nat.le_of_ble_eq_true rfl⟩) (ml_pre hevm hKm hPm (hDm σm) hEm (fun a h1 _ => hS.2.1 a h1 (Nat.not_le.mpr h1))) rfl rfl hl.1 rfl (lv_room (Nat.le_of_ble_eq_true rfl)) dL_law_418 ⟨by show (_ : Nat) + 0 ≤ 601024; omega, by show (_ : Nat) + 0 ≤ 7293034; omega⟩) hS (fun a _ h => hmA a h) (fun a h => hmA a h) (fun bb σm1 t H1 locs1 ht hvm hw hB hz1 hk1 hS => ?_)
  have hPm : va_P D vwCl (mw cm qm σm1) H1 := ht ▸ hB
  have hPx := va_keep hPx (hDx u.1) (fun a h1 h2 => hmx a h2 h1) hk1
  have hPo := va_keep hPo hlO_D (fun a h hm9 => hom (h ▸ hm9)) hk1
  refine lv_istore (lv' := [(6, .int bb), (5, .int kk), (0, .ref b), (1, .ref (qx 0)), (2, .ref (qm 0)), (3, .ref o), (4, .int x4)]) hx hb dL_law_421 hl (by decide) rfl (fun ls hl => ?_)
  refine lv_aload_n hx hb dL_law_423 rfl (lv_at hl 4 rfl) ?_
  refine va_calli (va_runV (As := []) (rest := []) ⟨hx, hb, hml, hown, htb⟩ (kcX8_thrown l D cm qm evm hevm σm1  _ hw) (tb_CW htb kX8_thrown tb_1354 tb_1355 tb_1356 ⟨Nat.le_of_ble_eq_true rfl, Nat.le_of_ble_eq_true rfl⟩) (ml_pre hevm hKm hPm (hDm σm1) hEm (fun a h1 _ => hS.2.1 a h1 (Nat.not_le.mpr h1))) rfl rfl hl.1 rfl (lv_room (Nat.le_of_ble_eq_true rfl)) dL_law_424 ⟨by show (_ : Nat) + 0 ≤ 601024; omega, by show (_ : Nat) + 0 ≤ 7293034; omega⟩) hS (fun a _ h => hmA a h) (fun a h => hmA a h) (fun th σm2 t H1 locs1 ht hvm hw hB hz1 hk1 hS => ?_)
  have hPm : va_P D vwCl (mw cm qm σm2) H1 := ht ▸ hB
  have hPx := va_keep hPx (hDx u.1) (fun a h1 h2 => hmx a h2 h1) hk1
  have hPo := va_keep hPo hlO_D (fun a h hm9 => hom (h ▸ hm9)) hk1
  refine lv_iload hx hb dL_law_427 (lv_at hl 1 rfl) ?_
  refine lv_icmp_eq (tgt := 434) hx hb dL_law_429 (by decide) (fun _ => ?_) (fun h9 => absurd hw.1 h9)
  refine lv_iload hx hb dL_law_434 (lv_at hl 1 rfl) ?_
  refine lv_if_ne (tgt := 451) hx hb dL_law_436 (by decide) (fun c1 => ?_) (fun c1 => ?_)
  · refine lv_goto (tgt := 1813) hx hb dL_law_451 (by decide) ?_
    refine W.widen (k := k + 16) (n := n6 + 96) (by omega) (by omega) ?_
    exact hnext u.1 σm2 u.2 _ _ _ hw.2.2 hPx hPm hPo hS (lv_sub hl [2, 3, 4, 5, 6] rfl)
  · refine lv_aload_n hx hb dL_law_439 rfl (lv_at hl 5 rfl) ?_
    refine lv_iconst (v := (0 : Int32)) hx hb dL_law_440 (by decide) ?_
    refine va_lald hx hb hKo hPo 0 0 rfl rfl (by unfold vp_in; decide) dL_law_441 ?_
    refine lv_iload hx hb dL_law_442 (lv_at hl 0 rfl) ?_
    refine lv_i2l hx hb dL_law_444 rfl ?_
    refine W.lcmp hx hb dL_law_445 ?_
    refine lv_if_eq (tgt := 451) hx hb dL_law_446 (by decide) (fun _ => ?_) (fun h9 => absurd (lcmp_eq.mpr (hw.2.1 c1)) h9)
    refine lv_goto (tgt := 1813) hx hb dL_law_451 (by decide) ?_
    refine W.widen (k := k + 16) (n := n6 + 96) (by omega) (by omega) ?_
    exact hnext u.1 σm2 u.2 _ _ _ hw.2.2 hPx hPm hPo hS (lv_sub hl [2, 3, 4, 5, 6] rfl)
set_option maxHeartbeats 8000000 in
set_option maxRecDepth 100000 in
theorem lc_5 {p : Program} {e : Env} {s : State} {m : MethodId} {below : List Frame} {meth : Method} {c₀ : Code} {l : Launch} {b L : Nat} {xs : Nat → Int32} {D : va_G} {cx cm : Nat → ClassId} {qx qm : Nat → Nat} {co : ClassId} {o tF : Nat} {evx evm : State → Heap → Prop} {adK adV : Nat → Nat} (C0 : lw_At p s m meth c₀ b L xs) (hst : l.stackTraces = false) (hs : lwS s D cx qx cm qm co o evx evm tF adK adV) (R Rn : hsS → hsS → Prop) (O : ∀ (f : Nat → Int64) (a1 : Int32) (σx σm : hsS), R σx σm → lo_5 f a1 Rn σx σm) (x4 : Int32) (hin : ∀ j : Nat, 0 < j → j < 6 → vp_in (x4 + nI j) L) (σx σm : hsS) (f : Nat → Int64) (k n6 : Nat) (hk : k + 16 ≤ 600000 ∧ n6 + 96 ≤ 7000000) (H : Heap) (locs : List Loc) (ls : Array Slot) (hR : R σx σm) (hPx : va_P D vwCl (xw cx qx σx) H) (hPm : va_P D vwCl (mw cm qm σm) H) (hPo : va_P D vwCl (hlO co o f) H) (hS : va_S (fun q : Nat => s.heap.size ≤ q) s.heap H locs) (hl : lv_has ls 7 [(0, .ref b), (1, .ref (qx 0)), (2, .ref (qm 0)), (3, .ref o), (4, .int x4)]) (hnext : ∀ (σx σm : hsS) (f : Nat → Int64) (H : Heap) (locs : List Loc) (ls : Array Slot), Rn σx σm → va_P D vwCl (xw cx qx σx) H → va_P D vwCl (mw cm qm σm) H → va_P D vwCl (hlO co o f) H → va_S (fun q : Nat => s.heap.size ≤ q) s.heap H locs → lv_has ls 7 [(0, .ref b), (1, .ref (qx 0)), (2, .ref (qm 0)), (3, .ref o), (4, .int x4)] → W p l e room_1 s m #[Value.ref b] below meth c₀ H locs (k + 16) (n6 + 96) (lw_Z below #[Value.ref b] s) (F0 m 1813 ls [])) : W p l e room_1 s m #[Value.ref b] below meth c₀ H locs k n6 (lw_Z below #[Value.ref b] s) (F0 m 454 ls []) := by
  obtain ⟨hx, hb, hr, hml, hown, hts, hXs, hbl, hlocks, hgv⟩ := C0
  obtain ⟨⟨hKx, hKm, hKo⟩, ⟨hDx, hDm⟩, ⟨hox, hmx, hom⟩, ⟨hxA, hmA, hoS⟩, ⟨hevx, hEx, hevm, hEm⟩, hXx, hF, hZx, hZm⟩ := hs
  have hbA : ¬ (fun q : Nat => s.heap.size ≤ q) b := Nat.not_le.mpr hbl
  have hoA : ∀ a, hlA qx o a → s.heap.size ≤ a := fun a h => h.elim (hxA a) (fun h => by rw [h]; exact hoS)
  have htb : ∀ w ∈ tb_L, w.before #[Value.ref b] s = true := fun w h => hts w (tb_in h)
  have hw := O f (xs (x4 + (1 : Int32)).toNatClampNeg) σx σm hR
  unfold lo_5 at hw
  refine lv_aload_n hx hb dL_law_454 rfl (lv_at hl 1 rfl) ?_
  refine lv_aload_n hx hb dL_law_455 rfl (lv_at hl 0 rfl) ?_
  refine lv_iload hx hb dL_law_456 (lv_at hl 4 rfl) ?_
  refine lv_iconst (v := (1 : Int32)) hx hb dL_law_458 (by decide) ?_
  refine lv_iadd hx hb dL_law_459 ?_
  refine va_sld hx hb hXs hbl hbA hS (hin 1 (by decide) (by decide)) dL_law_460 ?_
  refine lv_aload_n hx hb dL_law_461 rfl (lv_at hl 3 rfl) ?_
  refine va_calli (vx_runSW (As := [.ref (qx 0), .int (xs (x4 + (1 : Int32)).toNatClampNeg), .ref o]) (rest := []) ⟨hx, hb, hml, hown, htb⟩ (khL_turn l D cx qx evx hevx hst hXx co o σx f (xs (x4 + (1 : Int32)).toNatClampNeg) (fun (kk : Int32) (u : hsS × (Nat → Int64)) => wX8_turn (xs (x4 + (1 : Int32)).toNatClampNeg) (fun bb σm1 => wX8_thrown (fun th σm2 => th = kk ∧ (kk = (0 : Int32) → (u.2 0) = (bb.toInt64)) ∧ Rn u.1 σm2) σm1) σm) hw) (tb_CSW htb kw_turn tb_917 tb_918 ⟨Nat.le_of_ble_eq_true rfl, Nat.le_of_ble_eq_true rfl⟩) (hl_preS hevx hKx hKo hPx hPo (hDx σx) hox hEx (fun a h1 _ => hS.2.1 a h1 (Nat.not_le.mpr h1))) rfl rfl hl.1 rfl (lv_room (Nat.le_of_ble_eq_true rfl)) dL_law_462 ⟨by show k + 1 ≤ 601024; omega, by show n6 + 6 ≤ 7293034; omega⟩) hS (fun a _ h => hoA a h) (fun a h => hoA a h) (fun kk u t H1 locs1 ht hvm hw hB hz1 hk1 hS => ?_)
  have hPx : va_P D vwCl (xw cx qx u.1) H1 := ht ▸ hB.1
  have hPo : va_P D vwCl (hlO co o u.2) H1 := ht ▸ hB.2
  have hPm := va_keep hPm (hDm σm) (fun a h1 h2 => h2.elim (hmx a h1) (fun h3 => hom (h3 ▸ h1))) hk1
  refine lv_istore (lv' := [(5, .int kk), (0, .ref b), (1, .ref (qx 0)), (2, .ref (qm 0)), (3, .ref o), (4, .int x4)]) hx hb dL_law_465 hl (by decide) rfl (fun ls hl => ?_)
  refine lv_aload_n hx hb dL_law_467 rfl (lv_at hl 3 rfl) ?_
  refine lv_aload_n hx hb dL_law_468 rfl (lv_at hl 1 rfl) ?_
  refine lv_iload hx hb dL_law_469 (lv_at hl 5 rfl) ?_
  refine lv_iconst (v := (1 : Int32)) hx hb dL_law_471 (by decide) ?_
  refine lv_iadd hx hb dL_law_472 ?_
  refine va_sld hx hb hXs hbl hbA hS (hin 1 (by decide) (by decide)) dL_law_473 ?_
  refine va_calli (va_runV (As := [.int (xs (x4 + (1 : Int32)).toNatClampNeg)]) (rest := []) ⟨hx, hb, hml, hown, htb⟩ (kcX8_turn l D cm qm evm hevm σm (xs (x4 + (1 : Int32)).toNatClampNeg) _ hw) (tb_CW htb kX8_turn tb_1458 tb_1459 tb_1460 ⟨Nat.le_of_ble_eq_true rfl, Nat.le_of_ble_eq_true rfl⟩) (ml_pre hevm hKm hPm (hDm σm) hEm (fun a h1 _ => hS.2.1 a h1 (Nat.not_le.mpr h1))) rfl rfl hl.1 rfl (lv_room (Nat.le_of_ble_eq_true rfl)) dL_law_474 ⟨by show (_ : Nat) + 0 ≤ 601024; omega, by show (_ : Nat) + 0 ≤ 7293034; omega⟩) hS (fun a _ h => hmA a h) (fun a h => hmA a h) (fun bb σm1 t H1 locs1 ht hvm hw hB hz1 hk1 hS => ?_)
  have hPm : va_P D vwCl (mw cm qm σm1) H1 := ht ▸ hB
  have hPx := va_keep hPx (hDx u.1) (fun a h1 h2 => hmx a h2 h1) hk1
  have hPo := va_keep hPo hlO_D (fun a h hm9 => hom (h ▸ hm9)) hk1
  refine lv_istore (lv' := [(6, .int bb), (5, .int kk), (0, .ref b), (1, .ref (qx 0)), (2, .ref (qm 0)), (3, .ref o), (4, .int x4)]) hx hb dL_law_477 hl (by decide) rfl (fun ls hl => ?_)
  refine lv_aload_n hx hb dL_law_479 rfl (lv_at hl 4 rfl) ?_
  refine va_calli (va_runV (As := []) (rest := []) ⟨hx, hb, hml, hown, htb⟩ (kcX8_thrown l D cm qm evm hevm σm1  _ hw) (tb_CW htb kX8_thrown tb_1354 tb_1355 tb_1356 ⟨Nat.le_of_ble_eq_true rfl, Nat.le_of_ble_eq_true rfl⟩) (ml_pre hevm hKm hPm (hDm σm1) hEm (fun a h1 _ => hS.2.1 a h1 (Nat.not_le.mpr h1))) rfl rfl hl.1 rfl (lv_room (Nat.le_of_ble_eq_true rfl)) dL_law_480 ⟨by show (_ : Nat) + 0 ≤ 601024; omega, by show (_ : Nat) + 0 ≤ 7293034; omega⟩) hS (fun a _ h => hmA a h) (fun a h => hmA a h) (fun th σm2 t H1 locs1 ht hvm hw hB hz1 hk1 hS => ?_)
  have hPm : va_P D vwCl (mw cm qm σm2) H1 := ht ▸ hB
  have hPx := va_keep hPx (hDx u.1) (fun a h1 h2 => hmx a h2 h1) hk1
  have hPo := va_keep hPo hlO_D (fun a h hm9 => hom (h ▸ hm9)) hk1
  refine lv_iload hx hb dL_law_483 (lv_at hl 1 rfl) ?_
  refine lv_icmp_eq (tgt := 490) hx hb dL_law_485 (by decide) (fun _ => ?_) (fun h9 => absurd hw.1 h9)
  refine lv_iload hx hb dL_law_490 (lv_at hl 1 rfl) ?_
  refine lv_if_ne (tgt := 507) hx hb dL_law_492 (by decide) (fun c1 => ?_) (fun c1 => ?_)
  · refine lv_goto (tgt := 1813) hx hb dL_law_507 (by decide) ?_
    refine W.widen (k := k + 16) (n := n6 + 96) (by omega) (by omega) ?_
    exact hnext u.1 σm2 u.2 _ _ _ hw.2.2 hPx hPm hPo hS (lv_sub hl [2, 3, 4, 5, 6] rfl)
  · refine lv_aload_n hx hb dL_law_495 rfl (lv_at hl 5 rfl) ?_
    refine lv_iconst (v := (0 : Int32)) hx hb dL_law_496 (by decide) ?_
    refine va_lald hx hb hKo hPo 0 0 rfl rfl (by unfold vp_in; decide) dL_law_497 ?_
    refine lv_iload hx hb dL_law_498 (lv_at hl 0 rfl) ?_
    refine lv_i2l hx hb dL_law_500 rfl ?_
    refine W.lcmp hx hb dL_law_501 ?_
    refine lv_if_eq (tgt := 507) hx hb dL_law_502 (by decide) (fun _ => ?_) (fun h9 => absurd (lcmp_eq.mpr (hw.2.1 c1)) h9)
    refine lv_goto (tgt := 1813) hx hb dL_law_507 (by decide) ?_
    refine W.widen (k := k + 16) (n := n6 + 96) (by omega) (by omega) ?_
    exact hnext u.1 σm2 u.2 _ _ _ hw.2.2 hPx hPm hPo hS (lv_sub hl [2, 3, 4, 5, 6] rfl)
set_option maxHeartbeats 8000000 in
set_option maxRecDepth 100000 in
theorem lc_6 {p : Program} {e : Env} {s : State} {m : MethodId} {below : List Frame} {meth : Method} {c₀ : Code} {l : Launch} {b L : Nat} {xs : Nat → Int32} {D : va_G} {cx cm : Nat → ClassId} {qx qm : Nat → Nat} {co : ClassId} {o tF : Nat} {evx evm : State → Heap → Prop} {adK adV : Nat → Nat} (C0 : lw_At p s m meth c₀ b L xs) (hst : l.stackTraces = false) (hs : lwS s D cx qx cm qm co o evx evm tF adK adV) (R Rn : hsS → hsS → Prop) (O : ∀ (a1 : Int32) (σx σm : hsS), R σx σm → lo_6 a1 Rn σx σm) (x4 : Int32) (hin : ∀ j : Nat, 0 < j → j < 6 → vp_in (x4 + nI j) L) (σx σm : hsS) (f : Nat → Int64) (k n6 : Nat) (hk : k + 16 ≤ 600000 ∧ n6 + 96 ≤ 7000000) (H : Heap) (locs : List Loc) (ls : Array Slot) (hR : R σx σm) (hPx : va_P D vwCl (xw cx qx σx) H) (hPm : va_P D vwCl (mw cm qm σm) H) (hPo : va_P D vwCl (hlO co o f) H) (hS : va_S (fun q : Nat => s.heap.size ≤ q) s.heap H locs) (hl : lv_has ls 7 [(0, .ref b), (1, .ref (qx 0)), (2, .ref (qm 0)), (3, .ref o), (4, .int x4)]) (hnext : ∀ (σx σm : hsS) (f : Nat → Int64) (H : Heap) (locs : List Loc) (ls : Array Slot), Rn σx σm → va_P D vwCl (xw cx qx σx) H → va_P D vwCl (mw cm qm σm) H → va_P D vwCl (hlO co o f) H → va_S (fun q : Nat => s.heap.size ≤ q) s.heap H locs → lv_has ls 7 [(0, .ref b), (1, .ref (qx 0)), (2, .ref (qm 0)), (3, .ref o), (4, .int x4)] → W p l e room_1 s m #[Value.ref b] below meth c₀ H locs (k + 16) (n6 + 96) (lw_Z below #[Value.ref b] s) (F0 m 1813 ls [])) : W p l e room_1 s m #[Value.ref b] below meth c₀ H locs k n6 (lw_Z below #[Value.ref b] s) (F0 m 510 ls []) := by
  obtain ⟨hx, hb, hr, hml, hown, hts, hXs, hbl, hlocks, hgv⟩ := C0
  obtain ⟨⟨hKx, hKm, hKo⟩, ⟨hDx, hDm⟩, ⟨hox, hmx, hom⟩, ⟨hxA, hmA, hoS⟩, ⟨hevx, hEx, hevm, hEm⟩, hXx, hF, hZx, hZm⟩ := hs
  have hbA : ¬ (fun q : Nat => s.heap.size ≤ q) b := Nat.not_le.mpr hbl
  have hoA : ∀ a, hlA qx o a → s.heap.size ≤ a := fun a h => h.elim (hxA a) (fun h => by rw [h]; exact hoS)
  have htb : ∀ w ∈ tb_L, w.before #[Value.ref b] s = true := fun w h => hts w (tb_in h)
  have hw := O (xs (x4 + (1 : Int32)).toNatClampNeg) σx σm hR
  unfold lo_6 at hw
  refine lv_aload_n hx hb dL_law_510 rfl (lv_at hl 1 rfl) ?_
  refine lv_aload_n hx hb dL_law_511 rfl (lv_at hl 0 rfl) ?_
  refine lv_iload hx hb dL_law_512 (lv_at hl 4 rfl) ?_
  refine lv_iconst (v := (1 : Int32)) hx hb dL_law_514 (by decide) ?_
  refine lv_iadd hx hb dL_law_515 ?_
  refine va_sld hx hb hXs hbl hbA hS (hin 1 (by decide) (by decide)) dL_law_516 ?_
  refine va_calli (va_runV (As := [.int (xs (x4 + (1 : Int32)).toNatClampNeg)]) (rest := []) ⟨hx, hb, hml, hown, htb⟩ (kcX7_may l D cx qx evx hevx σx (xs (x4 + (1 : Int32)).toNatClampNeg) _ hw) (tb_CW htb kX7_may tb_386 tb_387 tb_388 ⟨Nat.le_of_ble_eq_true rfl, Nat.le_of_ble_eq_true rfl⟩) (hl_pre hevx hKx hPx (hDx σx) hEx (fun a h1 _ => hS.2.1 a h1 (Nat.not_le.mpr h1))) rfl rfl hl.1 rfl (lv_room (Nat.le_of_ble_eq_true rfl)) dL_law_517 ⟨by show (_ : Nat) + 0 ≤ 601024; omega, by show (_ : Nat) + 0 ≤ 7293034; omega⟩) hS (fun a _ h => hxA a h) (fun a h => hxA a h) (fun r σx1 t H1 locs1 ht hvm hw hB hz1 hk1 hS => ?_)
  have hPx : va_P D vwCl (xw cx qx σx1) H1 := ht ▸ hB
  have hPm := va_keep hPm (hDm σm) hmx hk1
  have hPo := va_keep hPo hlO_D (fun a h hx9 => hox (h ▸ hx9)) hk1
  refine lv_aload_n hx hb dL_law_520 rfl (lv_at hl 2 rfl) ?_
  refine lv_aload_n hx hb dL_law_521 rfl (lv_at hl 0 rfl) ?_
  refine lv_iload hx hb dL_law_522 (lv_at hl 4 rfl) ?_
  refine lv_iconst (v := (1 : Int32)) hx hb dL_law_524 (by decide) ?_
  refine lv_iadd hx hb dL_law_525 ?_
  refine va_sld hx hb hXs hbl hbA hS (hin 1 (by decide) (by decide)) dL_law_526 ?_
  refine va_calli (va_runV (As := [.int (xs (x4 + (1 : Int32)).toNatClampNeg)]) (rest := [.int r]) ⟨hx, hb, hml, hown, htb⟩ (kcX8_may l D cm qm evm hevm σm (xs (x4 + (1 : Int32)).toNatClampNeg) _ hw) (tb_CW htb kX8_may tb_1481 tb_1482 tb_1483 ⟨Nat.le_of_ble_eq_true rfl, Nat.le_of_ble_eq_true rfl⟩) (ml_pre hevm hKm hPm (hDm σm) hEm (fun a h1 _ => hS.2.1 a h1 (Nat.not_le.mpr h1))) rfl rfl hl.1 rfl (lv_room (Nat.le_of_ble_eq_true rfl)) dL_law_527 ⟨by show (_ : Nat) + 0 ≤ 601024; omega, by show (_ : Nat) + 0 ≤ 7293034; omega⟩) hS (fun a _ h => hmA a h) (fun a h => hmA a h) (fun bb σm1 t H1 locs1 ht hvm hw hB hz1 hk1 hS => ?_)
  have hPm : va_P D vwCl (mw cm qm σm1) H1 := ht ▸ hB
  have hPx := va_keep hPx (hDx σx1) (fun a h1 h2 => hmx a h2 h1) hk1
  have hPo := va_keep hPo hlO_D (fun a h hm9 => hom (h ▸ hm9)) hk1
  refine lv_icmp_eq (tgt := 1813) hx hb dL_law_530 (by decide) (fun _ => ?_) (fun h9 => absurd hw.1 h9)
  refine W.widen (k := k + 16) (n := n6 + 96) (by omega) (by omega) ?_
  exact hnext σx1 σm1 f _ _ _ hw.2 hPx hPm hPo hS (lv_sub hl [0, 1, 2, 3, 4] rfl)
set_option maxHeartbeats 8000000 in
set_option maxRecDepth 100000 in
theorem lc_7 {p : Program} {e : Env} {s : State} {m : MethodId} {below : List Frame} {meth : Method} {c₀ : Code} {l : Launch} {b L : Nat} {xs : Nat → Int32} {D : va_G} {cx cm : Nat → ClassId} {qx qm : Nat → Nat} {co : ClassId} {o tF : Nat} {evx evm : State → Heap → Prop} {adK adV : Nat → Nat} (C0 : lw_At p s m meth c₀ b L xs) (hst : l.stackTraces = false) (hs : lwS s D cx qx cm qm co o evx evm tF adK adV) (R Rn : hsS → hsS → Prop) (O : ∀ (f : Nat → Int64) (a1 a2 : Int32) (σx σm : hsS), R σx σm → lo_7 f a1 a2 Rn σx σm) (x4 : Int32) (hin : ∀ j : Nat, 0 < j → j < 6 → vp_in (x4 + nI j) L) (σx σm : hsS) (f : Nat → Int64) (k n6 : Nat) (hk : k + 16 ≤ 600000 ∧ n6 + 96 ≤ 7000000) (H : Heap) (locs : List Loc) (ls : Array Slot) (hR : R σx σm) (hPx : va_P D vwCl (xw cx qx σx) H) (hPm : va_P D vwCl (mw cm qm σm) H) (hPo : va_P D vwCl (hlO co o f) H) (hS : va_S (fun q : Nat => s.heap.size ≤ q) s.heap H locs) (hl : lv_has ls 7 [(0, .ref b), (1, .ref (qx 0)), (2, .ref (qm 0)), (3, .ref o), (4, .int x4)]) (hnext : ∀ (σx σm : hsS) (f : Nat → Int64) (H : Heap) (locs : List Loc) (ls : Array Slot), Rn σx σm → va_P D vwCl (xw cx qx σx) H → va_P D vwCl (mw cm qm σm) H → va_P D vwCl (hlO co o f) H → va_S (fun q : Nat => s.heap.size ≤ q) s.heap H locs → lv_has ls 7 [(0, .ref b), (1, .ref (qx 0)), (2, .ref (qm 0)), (3, .ref o), (4, .int x4)] → W p l e room_1 s m #[Value.ref b] below meth c₀ H locs (k + 16) (n6 + 96) (lw_Z below #[Value.ref b] s) (F0 m 1813 ls [])) : W p l e room_1 s m #[Value.ref b] below meth c₀ H locs k n6 (lw_Z below #[Value.ref b] s) (F0 m 535 ls []) := by
  obtain ⟨hx, hb, hr, hml, hown, hts, hXs, hbl, hlocks, hgv⟩ := C0
  obtain ⟨⟨hKx, hKm, hKo⟩, ⟨hDx, hDm⟩, ⟨hox, hmx, hom⟩, ⟨hxA, hmA, hoS⟩, ⟨hevx, hEx, hevm, hEm⟩, hXx, hF, hZx, hZm⟩ := hs
  have hbA : ¬ (fun q : Nat => s.heap.size ≤ q) b := Nat.not_le.mpr hbl
  have hoA : ∀ a, hlA qx o a → s.heap.size ≤ a := fun a h => h.elim (hxA a) (fun h => by rw [h]; exact hoS)
  have htb : ∀ w ∈ tb_L, w.before #[Value.ref b] s = true := fun w h => hts w (tb_in h)
  have hw := O f (xs (x4 + (1 : Int32)).toNatClampNeg) (xs (x4 + (2 : Int32)).toNatClampNeg) σx σm hR
  unfold lo_7 at hw
  refine lv_aload_n hx hb dL_law_535 rfl (lv_at hl 1 rfl) ?_
  refine lv_aload_n hx hb dL_law_536 rfl (lv_at hl 0 rfl) ?_
  refine lv_iload hx hb dL_law_537 (lv_at hl 4 rfl) ?_
  refine lv_iconst (v := (1 : Int32)) hx hb dL_law_539 (by decide) ?_
  refine lv_iadd hx hb dL_law_540 ?_
  refine va_sld hx hb hXs hbl hbA hS (hin 1 (by decide) (by decide)) dL_law_541 ?_
  refine lv_aload_n hx hb dL_law_542 rfl (lv_at hl 0 rfl) ?_
  refine lv_iload hx hb dL_law_543 (lv_at hl 4 rfl) ?_
  refine lv_iconst (v := (2 : Int32)) hx hb dL_law_545 (by decide) ?_
  refine lv_iadd hx hb dL_law_546 ?_
  refine va_sld hx hb hXs hbl hbA hS (hin 2 (by decide) (by decide)) dL_law_547 ?_
  refine lv_aload_n hx hb dL_law_548 rfl (lv_at hl 3 rfl) ?_
  refine va_calli (vx_runSW (As := [.ref (qx 0), .int (xs (x4 + (1 : Int32)).toNatClampNeg), .int (xs (x4 + (2 : Int32)).toNatClampNeg), .ref o]) (rest := []) ⟨hx, hb, hml, hown, htb⟩ (khL_keep l D cx qx evx hevx hst hXx co o σx f (xs (x4 + (1 : Int32)).toNatClampNeg) (xs (x4 + (2 : Int32)).toNatClampNeg) (fun (kk : Int32) (u : hsS × (Nat → Int64)) => wX8_keep (xs (x4 + (1 : Int32)).toNatClampNeg) (xs (x4 + (2 : Int32)).toNatClampNeg) (fun bb σm1 => wX8_thrown (fun th σm2 => th = kk ∧ (kk = (0 : Int32) → (u.2 0) = (bb.toInt64)) ∧ Rn u.1 σm2) σm1) σm) hw) (tb_CSW htb kw_keep tb_925 tb_926 ⟨Nat.le_of_ble_eq_true rfl, Nat.le_of_ble_eq_true rfl⟩) (hl_preS hevx hKx hKo hPx hPo (hDx σx) hox hEx (fun a h1 _ => hS.2.1 a h1 (Nat.not_le.mpr h1))) rfl rfl hl.1 rfl (lv_room (Nat.le_of_ble_eq_true rfl)) dL_law_549 ⟨by show k + 1 ≤ 601024; omega, by show n6 + 6 ≤ 7293034; omega⟩) hS (fun a _ h => hoA a h) (fun a h => hoA a h) (fun kk u t H1 locs1 ht hvm hw hB hz1 hk1 hS => ?_)
  have hPx : va_P D vwCl (xw cx qx u.1) H1 := ht ▸ hB.1
  have hPo : va_P D vwCl (hlO co o u.2) H1 := ht ▸ hB.2
  have hPm := va_keep hPm (hDm σm) (fun a h1 h2 => h2.elim (hmx a h1) (fun h3 => hom (h3 ▸ h1))) hk1
  refine lv_istore (lv' := [(5, .int kk), (0, .ref b), (1, .ref (qx 0)), (2, .ref (qm 0)), (3, .ref o), (4, .int x4)]) hx hb dL_law_552 hl (by decide) rfl (fun ls hl => ?_)
  refine lv_aload_n hx hb dL_law_554 rfl (lv_at hl 3 rfl) ?_
  refine lv_aload_n hx hb dL_law_555 rfl (lv_at hl 1 rfl) ?_
  refine lv_iload hx hb dL_law_556 (lv_at hl 5 rfl) ?_
  refine lv_iconst (v := (1 : Int32)) hx hb dL_law_558 (by decide) ?_
  refine lv_iadd hx hb dL_law_559 ?_
  refine va_sld hx hb hXs hbl hbA hS (hin 1 (by decide) (by decide)) dL_law_560 ?_
  refine lv_aload_n hx hb dL_law_561 rfl (lv_at hl 1 rfl) ?_
  refine lv_iload hx hb dL_law_562 (lv_at hl 5 rfl) ?_
  refine lv_iconst (v := (2 : Int32)) hx hb dL_law_564 (by decide) ?_
  refine lv_iadd hx hb dL_law_565 ?_
  refine va_sld hx hb hXs hbl hbA hS (hin 2 (by decide) (by decide)) dL_law_566 ?_
  refine va_calli (va_runV (As := [.int (xs (x4 + (1 : Int32)).toNatClampNeg), .int (xs (x4 + (2 : Int32)).toNatClampNeg)]) (rest := []) ⟨hx, hb, hml, hown, htb⟩ (kcX8_keep l D cm qm evm hevm σm (xs (x4 + (1 : Int32)).toNatClampNeg) (xs (x4 + (2 : Int32)).toNatClampNeg) _ hw) (tb_CW htb kX8_keep tb_1496 tb_1497 tb_1498 ⟨Nat.le_of_ble_eq_true rfl, Nat.le_of_ble_eq_true rfl⟩) (ml_pre hevm hKm hPm (hDm σm) hEm (fun a h1 _ => hS.2.1 a h1 (Nat.not_le.mpr h1))) rfl rfl hl.1 rfl (lv_room (Nat.le_of_ble_eq_true rfl)) dL_law_567 ⟨by show (_ : Nat) + 0 ≤ 601024; omega, by show (_ : Nat) + 0 ≤ 7293034; omega⟩) hS (fun a _ h => hmA a h) (fun a h => hmA a h) (fun bb σm1 t H1 locs1 ht hvm hw hB hz1 hk1 hS => ?_)
  have hPm : va_P D vwCl (mw cm qm σm1) H1 := ht ▸ hB
  have hPx := va_keep hPx (hDx u.1) (fun a h1 h2 => hmx a h2 h1) hk1
  have hPo := va_keep hPo hlO_D (fun a h hm9 => hom (h ▸ hm9)) hk1
  refine lv_istore (lv' := [(6, .int bb), (5, .int kk), (0, .ref b), (1, .ref (qx 0)), (2, .ref (qm 0)), (3, .ref o), (4, .int x4)]) hx hb dL_law_570 hl (by decide) rfl (fun ls hl => ?_)
  refine lv_aload_n hx hb dL_law_572 rfl (lv_at hl 4 rfl) ?_
  refine va_calli (va_runV (As := []) (rest := []) ⟨hx, hb, hml, hown, htb⟩ (kcX8_thrown l D cm qm evm hevm σm1  _ hw) (tb_CW htb kX8_thrown tb_1354 tb_1355 tb_1356 ⟨Nat.le_of_ble_eq_true rfl, Nat.le_of_ble_eq_true rfl⟩) (ml_pre hevm hKm hPm (hDm σm1) hEm (fun a h1 _ => hS.2.1 a h1 (Nat.not_le.mpr h1))) rfl rfl hl.1 rfl (lv_room (Nat.le_of_ble_eq_true rfl)) dL_law_573 ⟨by show (_ : Nat) + 0 ≤ 601024; omega, by show (_ : Nat) + 0 ≤ 7293034; omega⟩) hS (fun a _ h => hmA a h) (fun a h => hmA a h) (fun th σm2 t H1 locs1 ht hvm hw hB hz1 hk1 hS => ?_)
  have hPm : va_P D vwCl (mw cm qm σm2) H1 := ht ▸ hB
  have hPx := va_keep hPx (hDx u.1) (fun a h1 h2 => hmx a h2 h1) hk1
  have hPo := va_keep hPo hlO_D (fun a h hm9 => hom (h ▸ hm9)) hk1
  refine lv_iload hx hb dL_law_576 (lv_at hl 1 rfl) ?_
  refine lv_icmp_eq (tgt := 583) hx hb dL_law_578 (by decide) (fun _ => ?_) (fun h9 => absurd hw.1 h9)
  refine lv_iload hx hb dL_law_583 (lv_at hl 1 rfl) ?_
  refine lv_if_ne (tgt := 600) hx hb dL_law_585 (by decide) (fun c1 => ?_) (fun c1 => ?_)
  · refine lv_goto (tgt := 1813) hx hb dL_law_600 (by decide) ?_
    refine W.widen (k := k + 16) (n := n6 + 96) (by omega) (by omega) ?_
    exact hnext u.1 σm2 u.2 _ _ _ hw.2.2 hPx hPm hPo hS (lv_sub hl [2, 3, 4, 5, 6] rfl)
  · refine lv_aload_n hx hb dL_law_588 rfl (lv_at hl 5 rfl) ?_
    refine lv_iconst (v := (0 : Int32)) hx hb dL_law_589 (by decide) ?_
    refine va_lald hx hb hKo hPo 0 0 rfl rfl (by unfold vp_in; decide) dL_law_590 ?_
    refine lv_iload hx hb dL_law_591 (lv_at hl 0 rfl) ?_
    refine lv_i2l hx hb dL_law_593 rfl ?_
    refine W.lcmp hx hb dL_law_594 ?_
    refine lv_if_eq (tgt := 600) hx hb dL_law_595 (by decide) (fun _ => ?_) (fun h9 => absurd (lcmp_eq.mpr (hw.2.1 c1)) h9)
    refine lv_goto (tgt := 1813) hx hb dL_law_600 (by decide) ?_
    refine W.widen (k := k + 16) (n := n6 + 96) (by omega) (by omega) ?_
    exact hnext u.1 σm2 u.2 _ _ _ hw.2.2 hPx hPm hPo hS (lv_sub hl [2, 3, 4, 5, 6] rfl)
set_option maxHeartbeats 8000000 in
set_option maxRecDepth 100000 in
theorem lc_8 {p : Program} {e : Env} {s : State} {m : MethodId} {below : List Frame} {meth : Method} {c₀ : Code} {l : Launch} {b L : Nat} {xs : Nat → Int32} {D : va_G} {cx cm : Nat → ClassId} {qx qm : Nat → Nat} {co : ClassId} {o tF : Nat} {evx evm : State → Heap → Prop} {adK adV : Nat → Nat} (C0 : lw_At p s m meth c₀ b L xs) (hst : l.stackTraces = false) (hs : lwS s D cx qx cm qm co o evx evm tF adK adV) (R Rn : hsS → hsS → Prop) (O : ∀ (f : Nat → Int64) (a1 a2 : Int32) (σx σm : hsS), R σx σm → lo_8 f a1 a2 Rn σx σm) (x4 : Int32) (hin : ∀ j : Nat, 0 < j → j < 6 → vp_in (x4 + nI j) L) (σx σm : hsS) (f : Nat → Int64) (k n6 : Nat) (hk : k + 16 ≤ 600000 ∧ n6 + 96 ≤ 7000000) (H : Heap) (locs : List Loc) (ls : Array Slot) (hR : R σx σm) (hPx : va_P D vwCl (xw cx qx σx) H) (hPm : va_P D vwCl (mw cm qm σm) H) (hPo : va_P D vwCl (hlO co o f) H) (hS : va_S (fun q : Nat => s.heap.size ≤ q) s.heap H locs) (hl : lv_has ls 7 [(0, .ref b), (1, .ref (qx 0)), (2, .ref (qm 0)), (3, .ref o), (4, .int x4)]) (hnext : ∀ (σx σm : hsS) (f : Nat → Int64) (H : Heap) (locs : List Loc) (ls : Array Slot), Rn σx σm → va_P D vwCl (xw cx qx σx) H → va_P D vwCl (mw cm qm σm) H → va_P D vwCl (hlO co o f) H → va_S (fun q : Nat => s.heap.size ≤ q) s.heap H locs → lv_has ls 7 [(0, .ref b), (1, .ref (qx 0)), (2, .ref (qm 0)), (3, .ref o), (4, .int x4)] → W p l e room_1 s m #[Value.ref b] below meth c₀ H locs (k + 16) (n6 + 96) (lw_Z below #[Value.ref b] s) (F0 m 1813 ls [])) : W p l e room_1 s m #[Value.ref b] below meth c₀ H locs k n6 (lw_Z below #[Value.ref b] s) (F0 m 603 ls []) := by
  obtain ⟨hx, hb, hr, hml, hown, hts, hXs, hbl, hlocks, hgv⟩ := C0
  obtain ⟨⟨hKx, hKm, hKo⟩, ⟨hDx, hDm⟩, ⟨hox, hmx, hom⟩, ⟨hxA, hmA, hoS⟩, ⟨hevx, hEx, hevm, hEm⟩, hXx, hF, hZx, hZm⟩ := hs
  have hbA : ¬ (fun q : Nat => s.heap.size ≤ q) b := Nat.not_le.mpr hbl
  have hoA : ∀ a, hlA qx o a → s.heap.size ≤ a := fun a h => h.elim (hxA a) (fun h => by rw [h]; exact hoS)
  have htb : ∀ w ∈ tb_L, w.before #[Value.ref b] s = true := fun w h => hts w (tb_in h)
  have hw := O f (xs (x4 + (1 : Int32)).toNatClampNeg) (xs (x4 + (2 : Int32)).toNatClampNeg) σx σm hR
  unfold lo_8 at hw
  refine lv_aload_n hx hb dL_law_603 rfl (lv_at hl 1 rfl) ?_
  refine lv_aload_n hx hb dL_law_604 rfl (lv_at hl 0 rfl) ?_
  refine lv_iload hx hb dL_law_605 (lv_at hl 4 rfl) ?_
  refine lv_iconst (v := (1 : Int32)) hx hb dL_law_607 (by decide) ?_
  refine lv_iadd hx hb dL_law_608 ?_
  refine va_sld hx hb hXs hbl hbA hS (hin 1 (by decide) (by decide)) dL_law_609 ?_
  refine lv_aload_n hx hb dL_law_610 rfl (lv_at hl 0 rfl) ?_
  refine lv_iload hx hb dL_law_611 (lv_at hl 4 rfl) ?_
  refine lv_iconst (v := (2 : Int32)) hx hb dL_law_613 (by decide) ?_
  refine lv_iadd hx hb dL_law_614 ?_
  refine va_sld hx hb hXs hbl hbA hS (hin 2 (by decide) (by decide)) dL_law_615 ?_
  refine lv_aload_n hx hb dL_law_616 rfl (lv_at hl 3 rfl) ?_
  refine va_calli (vx_runSW (As := [.ref (qx 0), .int (xs (x4 + (1 : Int32)).toNatClampNeg), .int (xs (x4 + (2 : Int32)).toNatClampNeg), .ref o]) (rest := []) ⟨hx, hb, hml, hown, htb⟩ (khL_strikes l D cx qx evx hevx hst hXx co o σx f (xs (x4 + (1 : Int32)).toNatClampNeg) (xs (x4 + (2 : Int32)).toNatClampNeg) (fun (kk : Int32) (u : hsS × (Nat → Int64)) => wX8_strikes (xs (x4 + (1 : Int32)).toNatClampNeg) (xs (x4 + (2 : Int32)).toNatClampNeg) (fun bb σm1 => wX8_thrown (fun th σm2 => th = kk ∧ (kk = (0 : Int32) → (u.2 0) = (if bb = 0 then 0 else 1)) ∧ Rn u.1 σm2) σm1) σm) hw) (tb_CSW htb kw_strikes tb_937 tb_938 ⟨Nat.le_of_ble_eq_true rfl, Nat.le_of_ble_eq_true rfl⟩) (hl_preS hevx hKx hKo hPx hPo (hDx σx) hox hEx (fun a h1 _ => hS.2.1 a h1 (Nat.not_le.mpr h1))) rfl rfl hl.1 rfl (lv_room (Nat.le_of_ble_eq_true rfl)) dL_law_617 ⟨by show k + 1 ≤ 601024; omega, by show n6 + 6 ≤ 7293034; omega⟩) hS (fun a _ h => hoA a h) (fun a h => hoA a h) (fun kk u t H1 locs1 ht hvm hw hB hz1 hk1 hS => ?_)
  have hPx : va_P D vwCl (xw cx qx u.1) H1 := ht ▸ hB.1
  have hPo : va_P D vwCl (hlO co o u.2) H1 := ht ▸ hB.2
  have hPm := va_keep hPm (hDm σm) (fun a h1 h2 => h2.elim (hmx a h1) (fun h3 => hom (h3 ▸ h1))) hk1
  refine lv_istore (lv' := [(5, .int kk), (0, .ref b), (1, .ref (qx 0)), (2, .ref (qm 0)), (3, .ref o), (4, .int x4)]) hx hb dL_law_620 hl (by decide) rfl (fun ls hl => ?_)
  refine lv_aload_n hx hb dL_law_622 rfl (lv_at hl 3 rfl) ?_
  refine lv_aload_n hx hb dL_law_623 rfl (lv_at hl 1 rfl) ?_
  refine lv_iload hx hb dL_law_624 (lv_at hl 5 rfl) ?_
  refine lv_iconst (v := (1 : Int32)) hx hb dL_law_626 (by decide) ?_
  refine lv_iadd hx hb dL_law_627 ?_
  refine va_sld hx hb hXs hbl hbA hS (hin 1 (by decide) (by decide)) dL_law_628 ?_
  refine lv_aload_n hx hb dL_law_629 rfl (lv_at hl 1 rfl) ?_
  refine lv_iload hx hb dL_law_630 (lv_at hl 5 rfl) ?_
  refine lv_iconst (v := (2 : Int32)) hx hb dL_law_632 (by decide) ?_
  refine lv_iadd hx hb dL_law_633 ?_
  refine va_sld hx hb hXs hbl hbA hS (hin 2 (by decide) (by decide)) dL_law_634 ?_
  refine va_calli (va_runV (As := [.int (xs (x4 + (1 : Int32)).toNatClampNeg), .int (xs (x4 + (2 : Int32)).toNatClampNeg)]) (rest := []) ⟨hx, hb, hml, hown, htb⟩ (kcX8_strikes l D cm qm evm hevm σm (xs (x4 + (1 : Int32)).toNatClampNeg) (xs (x4 + (2 : Int32)).toNatClampNeg) _ hw) (tb_CW htb kX8_strikes tb_1512 tb_1513 tb_1514 ⟨Nat.le_of_ble_eq_true rfl, Nat.le_of_ble_eq_true rfl⟩) (ml_pre hevm hKm hPm (hDm σm) hEm (fun a h1 _ => hS.2.1 a h1 (Nat.not_le.mpr h1))) rfl rfl hl.1 rfl (lv_room (Nat.le_of_ble_eq_true rfl)) dL_law_635 ⟨by show (_ : Nat) + 0 ≤ 601024; omega, by show (_ : Nat) + 0 ≤ 7293034; omega⟩) hS (fun a _ h => hmA a h) (fun a h => hmA a h) (fun bb σm1 t H1 locs1 ht hvm hw hB hz1 hk1 hS => ?_)
  have hPm : va_P D vwCl (mw cm qm σm1) H1 := ht ▸ hB
  have hPx := va_keep hPx (hDx u.1) (fun a h1 h2 => hmx a h2 h1) hk1
  have hPo := va_keep hPo hlO_D (fun a h hm9 => hom (h ▸ hm9)) hk1
  refine lv_istore (lv' := [(6, .int bb), (5, .int kk), (0, .ref b), (1, .ref (qx 0)), (2, .ref (qm 0)), (3, .ref o), (4, .int x4)]) hx hb dL_law_638 hl (by decide) rfl (fun ls hl => ?_)
  refine lv_aload_n hx hb dL_law_640 rfl (lv_at hl 4 rfl) ?_
  refine va_calli (va_runV (As := []) (rest := []) ⟨hx, hb, hml, hown, htb⟩ (kcX8_thrown l D cm qm evm hevm σm1  _ hw) (tb_CW htb kX8_thrown tb_1354 tb_1355 tb_1356 ⟨Nat.le_of_ble_eq_true rfl, Nat.le_of_ble_eq_true rfl⟩) (ml_pre hevm hKm hPm (hDm σm1) hEm (fun a h1 _ => hS.2.1 a h1 (Nat.not_le.mpr h1))) rfl rfl hl.1 rfl (lv_room (Nat.le_of_ble_eq_true rfl)) dL_law_641 ⟨by show (_ : Nat) + 0 ≤ 601024; omega, by show (_ : Nat) + 0 ≤ 7293034; omega⟩) hS (fun a _ h => hmA a h) (fun a h => hmA a h) (fun th σm2 t H1 locs1 ht hvm hw hB hz1 hk1 hS => ?_)
  have hPm : va_P D vwCl (mw cm qm σm2) H1 := ht ▸ hB
  have hPx := va_keep hPx (hDx u.1) (fun a h1 h2 => hmx a h2 h1) hk1
  have hPo := va_keep hPo hlO_D (fun a h hm9 => hom (h ▸ hm9)) hk1
  refine lv_iload hx hb dL_law_644 (lv_at hl 1 rfl) ?_
  refine lv_icmp_eq (tgt := 651) hx hb dL_law_646 (by decide) (fun _ => ?_) (fun h9 => absurd hw.1 h9)
  refine lv_iload hx hb dL_law_651 (lv_at hl 1 rfl) ?_
  refine lv_if_ne (tgt := 675) hx hb dL_law_653 (by decide) (fun c1 => ?_) (fun c1 => ?_)
  · refine lv_goto (tgt := 1813) hx hb dL_law_675 (by decide) ?_
    refine W.widen (k := k + 16) (n := n6 + 96) (by omega) (by omega) ?_
    exact hnext u.1 σm2 u.2 _ _ _ hw.2.2 hPx hPm hPo hS (lv_sub hl [2, 3, 4, 5, 6] rfl)
  · refine lv_aload_n hx hb dL_law_656 rfl (lv_at hl 5 rfl) ?_
    refine lv_iconst (v := (0 : Int32)) hx hb dL_law_657 (by decide) ?_
    refine va_lald hx hb hKo hPo 0 0 rfl rfl (by unfold vp_in; decide) dL_law_658 ?_
    refine lv_iload hx hb dL_law_659 (lv_at hl 0 rfl) ?_
    refine lv_if_eq (tgt := 668) hx hb dL_law_661 (by decide) (fun c2 => ?_) (fun c2 => ?_)
    · refine lv_lconst (v := (0 : Int64)) hx hb dL_law_668 (by decide) ?_
      refine W.lcmp hx hb dL_law_669 ?_
      refine lv_if_eq (tgt := 675) hx hb dL_law_670 (by decide) (fun _ => ?_) (fun h9 => absurd (lcmp_eq.mpr (by have h8 := hw.2.1 c1; rw [if_pos c2] at h8; exact h8)) h9)
      refine lv_goto (tgt := 1813) hx hb dL_law_675 (by decide) ?_
      refine W.widen (k := k + 16) (n := n6 + 96) (by omega) (by omega) ?_
      exact hnext u.1 σm2 u.2 _ _ _ hw.2.2 hPx hPm hPo hS (lv_sub hl [2, 3, 4, 5, 6] rfl)
    · refine lv_lconst (v := (1 : Int64)) hx hb dL_law_664 (by decide) ?_
      refine lv_goto (tgt := 669) hx hb dL_law_665 (by decide) ?_
      refine W.lcmp hx hb dL_law_669 ?_
      refine lv_if_eq (tgt := 675) hx hb dL_law_670 (by decide) (fun _ => ?_) (fun h9 => absurd (lcmp_eq.mpr (by have h8 := hw.2.1 c1; rw [if_neg c2] at h8; exact h8)) h9)
      refine lv_goto (tgt := 1813) hx hb dL_law_675 (by decide) ?_
      refine W.widen (k := k + 16) (n := n6 + 96) (by omega) (by omega) ?_
      exact hnext u.1 σm2 u.2 _ _ _ hw.2.2 hPx hPm hPo hS (lv_sub hl [2, 3, 4, 5, 6] rfl)
set_option maxHeartbeats 8000000 in
set_option maxRecDepth 100000 in
theorem lc_9 {p : Program} {e : Env} {s : State} {m : MethodId} {below : List Frame} {meth : Method} {c₀ : Code} {l : Launch} {b L : Nat} {xs : Nat → Int32} {D : va_G} {cx cm : Nat → ClassId} {qx qm : Nat → Nat} {co : ClassId} {o tF : Nat} {evx evm : State → Heap → Prop} {adK adV : Nat → Nat} (C0 : lw_At p s m meth c₀ b L xs) (hst : l.stackTraces = false) (hs : lwS s D cx qx cm qm co o evx evm tF adK adV) (R Rn : hsS → hsS → Prop) (O : ∀ (f : Nat → Int64) (a1 : Int32) (σx σm : hsS), R σx σm → lo_9 f a1 Rn σx σm) (x4 : Int32) (hin : ∀ j : Nat, 0 < j → j < 6 → vp_in (x4 + nI j) L) (σx σm : hsS) (f : Nat → Int64) (k n6 : Nat) (hk : k + 16 ≤ 600000 ∧ n6 + 96 ≤ 7000000) (H : Heap) (locs : List Loc) (ls : Array Slot) (hR : R σx σm) (hPx : va_P D vwCl (xw cx qx σx) H) (hPm : va_P D vwCl (mw cm qm σm) H) (hPo : va_P D vwCl (hlO co o f) H) (hS : va_S (fun q : Nat => s.heap.size ≤ q) s.heap H locs) (hl : lv_has ls 7 [(0, .ref b), (1, .ref (qx 0)), (2, .ref (qm 0)), (3, .ref o), (4, .int x4)]) (hnext : ∀ (σx σm : hsS) (f : Nat → Int64) (H : Heap) (locs : List Loc) (ls : Array Slot), Rn σx σm → va_P D vwCl (xw cx qx σx) H → va_P D vwCl (mw cm qm σm) H → va_P D vwCl (hlO co o f) H → va_S (fun q : Nat => s.heap.size ≤ q) s.heap H locs → lv_has ls 7 [(0, .ref b), (1, .ref (qx 0)), (2, .ref (qm 0)), (3, .ref o), (4, .int x4)] → W p l e room_1 s m #[Value.ref b] below meth c₀ H locs (k + 16) (n6 + 96) (lw_Z below #[Value.ref b] s) (F0 m 1813 ls [])) : W p l e room_1 s m #[Value.ref b] below meth c₀ H locs k n6 (lw_Z below #[Value.ref b] s) (F0 m 678 ls []) := by
  obtain ⟨hx, hb, hr, hml, hown, hts, hXs, hbl, hlocks, hgv⟩ := C0
  obtain ⟨⟨hKx, hKm, hKo⟩, ⟨hDx, hDm⟩, ⟨hox, hmx, hom⟩, ⟨hxA, hmA, hoS⟩, ⟨hevx, hEx, hevm, hEm⟩, hXx, hF, hZx, hZm⟩ := hs
  have hbA : ¬ (fun q : Nat => s.heap.size ≤ q) b := Nat.not_le.mpr hbl
  have hoA : ∀ a, hlA qx o a → s.heap.size ≤ a := fun a h => h.elim (hxA a) (fun h => by rw [h]; exact hoS)
  have htb : ∀ w ∈ tb_L, w.before #[Value.ref b] s = true := fun w h => hts w (tb_in h)
  have hw := O f (xs (x4 + (1 : Int32)).toNatClampNeg) σx σm hR
  unfold lo_9 at hw
  refine lv_aload_n hx hb dL_law_678 rfl (lv_at hl 1 rfl) ?_
  refine lv_aload_n hx hb dL_law_679 rfl (lv_at hl 0 rfl) ?_
  refine lv_iload hx hb dL_law_680 (lv_at hl 4 rfl) ?_
  refine lv_iconst (v := (1 : Int32)) hx hb dL_law_682 (by decide) ?_
  refine lv_iadd hx hb dL_law_683 ?_
  refine va_sld hx hb hXs hbl hbA hS (hin 1 (by decide) (by decide)) dL_law_684 ?_
  refine lv_aload_n hx hb dL_law_685 rfl (lv_at hl 3 rfl) ?_
  refine va_calli (vx_runSW (As := [.ref (qx 0), .int (xs (x4 + (1 : Int32)).toNatClampNeg), .ref o]) (rest := []) ⟨hx, hb, hml, hown, htb⟩ (khL_striker l D cx qx evx hevx hst hXx co o σx f (xs (x4 + (1 : Int32)).toNatClampNeg) (fun (kk : Int32) (u : hsS × (Nat → Int64)) => wX8_striker (xs (x4 + (1 : Int32)).toNatClampNeg) (fun bb σm1 => wX8_thrown (fun th σm2 => th = kk ∧ (kk = (0 : Int32) → (u.2 0) = (bb.toInt64)) ∧ Rn u.1 σm2) σm1) σm) hw) (tb_CSW htb kw_striker tb_946 tb_947 ⟨Nat.le_of_ble_eq_true rfl, Nat.le_of_ble_eq_true rfl⟩) (hl_preS hevx hKx hKo hPx hPo (hDx σx) hox hEx (fun a h1 _ => hS.2.1 a h1 (Nat.not_le.mpr h1))) rfl rfl hl.1 rfl (lv_room (Nat.le_of_ble_eq_true rfl)) dL_law_686 ⟨by show k + 1 ≤ 601024; omega, by show n6 + 6 ≤ 7293034; omega⟩) hS (fun a _ h => hoA a h) (fun a h => hoA a h) (fun kk u t H1 locs1 ht hvm hw hB hz1 hk1 hS => ?_)
  have hPx : va_P D vwCl (xw cx qx u.1) H1 := ht ▸ hB.1
  have hPo : va_P D vwCl (hlO co o u.2) H1 := ht ▸ hB.2
  have hPm := va_keep hPm (hDm σm) (fun a h1 h2 => h2.elim (hmx a h1) (fun h3 => hom (h3 ▸ h1))) hk1
  refine lv_istore (lv' := [(5, .int kk), (0, .ref b), (1, .ref (qx 0)), (2, .ref (qm 0)), (3, .ref o), (4, .int x4)]) hx hb dL_law_689 hl (by decide) rfl (fun ls hl => ?_)
  refine lv_aload_n hx hb dL_law_691 rfl (lv_at hl 3 rfl) ?_
  refine lv_aload_n hx hb dL_law_692 rfl (lv_at hl 1 rfl) ?_
  refine lv_iload hx hb dL_law_693 (lv_at hl 5 rfl) ?_
  refine lv_iconst (v := (1 : Int32)) hx hb dL_law_695 (by decide) ?_
  refine lv_iadd hx hb dL_law_696 ?_
  refine va_sld hx hb hXs hbl hbA hS (hin 1 (by decide) (by decide)) dL_law_697 ?_
  refine va_calli (va_runV (As := [.int (xs (x4 + (1 : Int32)).toNatClampNeg)]) (rest := []) ⟨hx, hb, hml, hown, htb⟩ (kcX8_striker l D cm qm evm hevm σm (xs (x4 + (1 : Int32)).toNatClampNeg) _ hw) (tb_CW htb kX8_striker tb_1524 tb_1525 tb_1526 ⟨Nat.le_of_ble_eq_true rfl, Nat.le_of_ble_eq_true rfl⟩) (ml_pre hevm hKm hPm (hDm σm) hEm (fun a h1 _ => hS.2.1 a h1 (Nat.not_le.mpr h1))) rfl rfl hl.1 rfl (lv_room (Nat.le_of_ble_eq_true rfl)) dL_law_698 ⟨by show (_ : Nat) + 0 ≤ 601024; omega, by show (_ : Nat) + 0 ≤ 7293034; omega⟩) hS (fun a _ h => hmA a h) (fun a h => hmA a h) (fun bb σm1 t H1 locs1 ht hvm hw hB hz1 hk1 hS => ?_)
  have hPm : va_P D vwCl (mw cm qm σm1) H1 := ht ▸ hB
  have hPx := va_keep hPx (hDx u.1) (fun a h1 h2 => hmx a h2 h1) hk1
  have hPo := va_keep hPo hlO_D (fun a h hm9 => hom (h ▸ hm9)) hk1
  refine lv_istore (lv' := [(6, .int bb), (5, .int kk), (0, .ref b), (1, .ref (qx 0)), (2, .ref (qm 0)), (3, .ref o), (4, .int x4)]) hx hb dL_law_701 hl (by decide) rfl (fun ls hl => ?_)
  refine lv_aload_n hx hb dL_law_703 rfl (lv_at hl 4 rfl) ?_
  refine va_calli (va_runV (As := []) (rest := []) ⟨hx, hb, hml, hown, htb⟩ (kcX8_thrown l D cm qm evm hevm σm1  _ hw) (tb_CW htb kX8_thrown tb_1354 tb_1355 tb_1356 ⟨Nat.le_of_ble_eq_true rfl, Nat.le_of_ble_eq_true rfl⟩) (ml_pre hevm hKm hPm (hDm σm1) hEm (fun a h1 _ => hS.2.1 a h1 (Nat.not_le.mpr h1))) rfl rfl hl.1 rfl (lv_room (Nat.le_of_ble_eq_true rfl)) dL_law_704 ⟨by show (_ : Nat) + 0 ≤ 601024; omega, by show (_ : Nat) + 0 ≤ 7293034; omega⟩) hS (fun a _ h => hmA a h) (fun a h => hmA a h) (fun th σm2 t H1 locs1 ht hvm hw hB hz1 hk1 hS => ?_)
  have hPm : va_P D vwCl (mw cm qm σm2) H1 := ht ▸ hB
  have hPx := va_keep hPx (hDx u.1) (fun a h1 h2 => hmx a h2 h1) hk1
  have hPo := va_keep hPo hlO_D (fun a h hm9 => hom (h ▸ hm9)) hk1
  refine lv_iload hx hb dL_law_707 (lv_at hl 1 rfl) ?_
  refine lv_icmp_eq (tgt := 714) hx hb dL_law_709 (by decide) (fun _ => ?_) (fun h9 => absurd hw.1 h9)
  refine lv_iload hx hb dL_law_714 (lv_at hl 1 rfl) ?_
  refine lv_if_ne (tgt := 731) hx hb dL_law_716 (by decide) (fun c1 => ?_) (fun c1 => ?_)
  · refine lv_goto (tgt := 1813) hx hb dL_law_731 (by decide) ?_
    refine W.widen (k := k + 16) (n := n6 + 96) (by omega) (by omega) ?_
    exact hnext u.1 σm2 u.2 _ _ _ hw.2.2 hPx hPm hPo hS (lv_sub hl [2, 3, 4, 5, 6] rfl)
  · refine lv_aload_n hx hb dL_law_719 rfl (lv_at hl 5 rfl) ?_
    refine lv_iconst (v := (0 : Int32)) hx hb dL_law_720 (by decide) ?_
    refine va_lald hx hb hKo hPo 0 0 rfl rfl (by unfold vp_in; decide) dL_law_721 ?_
    refine lv_iload hx hb dL_law_722 (lv_at hl 0 rfl) ?_
    refine lv_i2l hx hb dL_law_724 rfl ?_
    refine W.lcmp hx hb dL_law_725 ?_
    refine lv_if_eq (tgt := 731) hx hb dL_law_726 (by decide) (fun _ => ?_) (fun h9 => absurd (lcmp_eq.mpr (hw.2.1 c1)) h9)
    refine lv_goto (tgt := 1813) hx hb dL_law_731 (by decide) ?_
    refine W.widen (k := k + 16) (n := n6 + 96) (by omega) (by omega) ?_
    exact hnext u.1 σm2 u.2 _ _ _ hw.2.2 hPx hPm hPo hS (lv_sub hl [2, 3, 4, 5, 6] rfl)
set_option maxHeartbeats 8000000 in
set_option maxRecDepth 100000 in
theorem lc_10 {p : Program} {e : Env} {s : State} {m : MethodId} {below : List Frame} {meth : Method} {c₀ : Code} {l : Launch} {b L : Nat} {xs : Nat → Int32} {D : va_G} {cx cm : Nat → ClassId} {qx qm : Nat → Nat} {co : ClassId} {o tF : Nat} {evx evm : State → Heap → Prop} {adK adV : Nat → Nat} (C0 : lw_At p s m meth c₀ b L xs) (hst : l.stackTraces = false) (hs : lwS s D cx qx cm qm co o evx evm tF adK adV) (R Rn : hsS → hsS → Prop) (O : ∀  (σx σm : hsS), R σx σm → lo_10  Rn σx σm) (x4 : Int32) (hin : ∀ j : Nat, 0 < j → j < 6 → vp_in (x4 + nI j) L) (σx σm : hsS) (f : Nat → Int64) (k n6 : Nat) (hk : k + 16 ≤ 600000 ∧ n6 + 96 ≤ 7000000) (H : Heap) (locs : List Loc) (ls : Array Slot) (hR : R σx σm) (hPx : va_P D vwCl (xw cx qx σx) H) (hPm : va_P D vwCl (mw cm qm σm) H) (hPo : va_P D vwCl (hlO co o f) H) (hS : va_S (fun q : Nat => s.heap.size ≤ q) s.heap H locs) (hl : lv_has ls 7 [(0, .ref b), (1, .ref (qx 0)), (2, .ref (qm 0)), (3, .ref o), (4, .int x4)]) (hnext : ∀ (σx σm : hsS) (f : Nat → Int64) (H : Heap) (locs : List Loc) (ls : Array Slot), Rn σx σm → va_P D vwCl (xw cx qx σx) H → va_P D vwCl (mw cm qm σm) H → va_P D vwCl (hlO co o f) H → va_S (fun q : Nat => s.heap.size ≤ q) s.heap H locs → lv_has ls 7 [(0, .ref b), (1, .ref (qx 0)), (2, .ref (qm 0)), (3, .ref o), (4, .int x4)] → W p l e room_1 s m #[Value.ref b] below meth c₀ H locs (k + 16) (n6 + 96) (lw_Z below #[Value.ref b] s) (F0 m 1813 ls [])) : W p l e room_1 s m #[Value.ref b] below meth c₀ H locs k n6 (lw_Z below #[Value.ref b] s) (F0 m 734 ls []) := by
  obtain ⟨hx, hb, hr, hml, hown, hts, hXs, hbl, hlocks, hgv⟩ := C0
  obtain ⟨⟨hKx, hKm, hKo⟩, ⟨hDx, hDm⟩, ⟨hox, hmx, hom⟩, ⟨hxA, hmA, hoS⟩, ⟨hevx, hEx, hevm, hEm⟩, hXx, hF, hZx, hZm⟩ := hs
  have hbA : ¬ (fun q : Nat => s.heap.size ≤ q) b := Nat.not_le.mpr hbl
  have hoA : ∀ a, hlA qx o a → s.heap.size ≤ a := fun a h => h.elim (hxA a) (fun h => by rw [h]; exact hoS)
  have htb : ∀ w ∈ tb_L, w.before #[Value.ref b] s = true := fun w h => hts w (tb_in h)
  have hw := O  σx σm hR
  unfold lo_10 at hw
  refine lv_aload_n hx hb dL_law_734 rfl (lv_at hl 1 rfl) ?_
  refine va_calli (va_runV (As := []) (rest := []) ⟨hx, hb, hml, hown, htb⟩ (kcX7_core l D cx qx evx hevx σx  _ hw) (tb_CW htb kX7_core tb_415 tb_416 tb_417 ⟨Nat.le_of_ble_eq_true rfl, Nat.le_of_ble_eq_true rfl⟩) (hl_pre hevx hKx hPx (hDx σx) hEx (fun a h1 _ => hS.2.1 a h1 (Nat.not_le.mpr h1))) rfl rfl hl.1 rfl (lv_room (Nat.le_of_ble_eq_true rfl)) dL_law_735 ⟨by show (_ : Nat) + 0 ≤ 601024; omega, by show (_ : Nat) + 0 ≤ 7293034; omega⟩) hS (fun a _ h => hxA a h) (fun a h => hxA a h) (fun r σx1 t H1 locs1 ht hvm hw hB hz1 hk1 hS => ?_)
  have hPx : va_P D vwCl (xw cx qx σx1) H1 := ht ▸ hB
  have hPm := va_keep hPm (hDm σm) hmx hk1
  have hPo := va_keep hPo hlO_D (fun a h hx9 => hox (h ▸ hx9)) hk1
  refine lv_aload_n hx hb dL_law_738 rfl (lv_at hl 2 rfl) ?_
  refine va_calli (va_runV (As := []) (rest := [.int r]) ⟨hx, hb, hml, hown, htb⟩ (kcX8_core l D cm qm evm hevm σm  _ hw) (tb_CW htb kX8_core tb_1531 tb_1532 tb_1533 ⟨Nat.le_of_ble_eq_true rfl, Nat.le_of_ble_eq_true rfl⟩) (ml_pre hevm hKm hPm (hDm σm) hEm (fun a h1 _ => hS.2.1 a h1 (Nat.not_le.mpr h1))) rfl rfl hl.1 rfl (lv_room (Nat.le_of_ble_eq_true rfl)) dL_law_739 ⟨by show (_ : Nat) + 0 ≤ 601024; omega, by show (_ : Nat) + 0 ≤ 7293034; omega⟩) hS (fun a _ h => hmA a h) (fun a h => hmA a h) (fun bb σm1 t H1 locs1 ht hvm hw hB hz1 hk1 hS => ?_)
  have hPm : va_P D vwCl (mw cm qm σm1) H1 := ht ▸ hB
  have hPx := va_keep hPx (hDx σx1) (fun a h1 h2 => hmx a h2 h1) hk1
  have hPo := va_keep hPo hlO_D (fun a h hm9 => hom (h ▸ hm9)) hk1
  refine lv_icmp_eq (tgt := 1813) hx hb dL_law_742 (by decide) (fun _ => ?_) (fun h9 => absurd hw.1 h9)
  refine W.widen (k := k + 16) (n := n6 + 96) (by omega) (by omega) ?_
  exact hnext σx1 σm1 f _ _ _ hw.2 hPx hPm hPo hS (lv_sub hl [0, 1, 2, 3, 4] rfl)
