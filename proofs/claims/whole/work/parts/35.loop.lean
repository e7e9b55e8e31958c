theorem ll_sub {L i : Nat} (hL : L ≤ 3072) (hi : i ≤ L + 6) : (nI L - 6 < nI i) ↔ L < i + 6 := by
  have h1 : (nI L - 6).toInt = (L : Int) - 6 := pk_sub_toInt (a := L) (b := 6) (by omega) (by omega)
  have h2 : (nI i).toInt = (i : Int) := nI_toInt (by omega)
  rw [Int32.lt_iff_toInt_lt, h1, h2]
  omega
set_option maxHeartbeats 16000000 in
set_option maxRecDepth 100000 in
/-- THE LAW'S LOOP: at its head, with i ints read, class and reference stand in the relation R -/
theorem law_loop {p : Program} {e : Env} {s : State} {m : MethodId} {below : List Frame} {meth : Method} {c₀ : Code} {l : Launch} {b L : Nat} {xs : Nat → Int32} {D : va_G} {cx cm : Nat → ClassId} {qx qm : Nat → Nat} {co : ClassId} {o tF : Nat} {evx evm : State → Heap → Prop} {adK adV : Nat → Nat} (hL : L ≤ 3072) (C0 : lw_At p s m meth c₀ b L xs) (hst : l.stackTraces = false) (hs : lwS s D cx qx cm qm co o evx evm tF adK adV) (R : Nat → hsS → hsS → Prop) (hRm : ∀ (i : Nat) (σx σm : hsS), R i σx σm → R (i + 6) σx σm) (O0 : ∀ i : Nat, i + 6 ≤ 3072 → ∀ (a1 : Int32) (a2 : Int32) (a3 : Int32) (a4 : Int32) (a5 : Int32) (σx σm : hsS), R i σx σm → lo_0 a1 a2 a3 a4 a5 (R (i + 6)) σx σm) (O1 : ∀ i : Nat, i + 6 ≤ 3072 → ∀ (f : Nat → Int64) (a1 : Int32) (σx σm : hsS), R i σx σm → lo_1 f a1 (R (i + 6)) σx σm) (O2 : ∀ i : Nat, i + 6 ≤ 3072 → ∀  (σx σm : hsS), R i σx σm → lo_2  (R (i + 6)) σx σm) (O3 : ∀ i : Nat, i + 6 ≤ 3072 → ∀ (f : Nat → Int64) (a1 : Int32) (σx σm : hsS), R i σx σm → lo_3 f a1 (R (i + 6)) σx σm) (O4 : ∀ i : Nat, i + 6 ≤ 3072 → ∀ (f : Nat → Int64) (a1 a2 : Int32) (σx σm : hsS), R i σx σm → lo_4 f a1 a2 (R (i + 6)) σx σm) (O5 : ∀ i : Nat, i + 6 ≤ 3072 → ∀ (f : Nat → Int64) (a1 : Int32) (σx σm : hsS), R i σx σm → lo_5 f a1 (R (i + 6)) σx σm) (O6 : ∀ i : Nat, i + 6 ≤ 3072 → ∀ (a1 : Int32) (σx σm : hsS), R i σx σm → lo_6 a1 (R (i + 6)) σx σm) (O7 : ∀ i : Nat, i + 6 ≤ 3072 → ∀ (f : Nat → Int64) (a1 a2 : Int32) (σx σm : hsS), R i σx σm → lo_7 f a1 a2 (R (i + 6)) σx σm) (O8 : ∀ i : Nat, i + 6 ≤ 3072 → ∀ (f : Nat → Int64) (a1 a2 : Int32) (σx σm : hsS), R i σx σm → lo_8 f a1 a2 (R (i + 6)) σx σm) (O9 : ∀ i : Nat, i + 6 ≤ 3072 → ∀ (f : Nat → Int64) (a1 : Int32) (σx σm : hsS), R i σx σm → lo_9 f a1 (R (i + 6)) σx σm) (O10 : ∀ i : Nat, i + 6 ≤ 3072 → ∀  (σx σm : hsS), R i σx σm → lo_10  (R (i + 6)) σx σm) (O11 : ∀ i : Nat, i + 6 ≤ 3072 → ∀ (f : Nat → Int64) (a1 : Int32) (σx σm : hsS), R i σx σm → lo_11 f a1 (R (i + 6)) σx σm) (O12 : ∀ i : Nat, i + 6 ≤ 3072 → ∀  (σx σm : hsS), R i σx σm → lo_12  (R (i + 6)) σx σm) (O13 : ∀ i : Nat, i + 6 ≤ 3072 → ∀ (f : Nat → Int64) (a1 : Int32) (σx σm : hsS), R i σx σm → lo_13 f a1 (R (i + 6)) σx σm) (O14 : ∀ i : Nat, i + 6 ≤ 3072 → ∀  (σx σm : hsS), R i σx σm → lo_14  (R (i + 6)) σx σm) (O15 : ∀ i : Nat, i + 6 ≤ 3072 → ∀  (σx σm : hsS), R i σx σm → lo_15  (R (i + 6)) σx σm) (O16 : ∀ i : Nat, i + 6 ≤ 3072 → ∀  (σx σm : hsS), R i σx σm → lo_16  (R (i + 6)) σx σm) (O17 : ∀ i : Nat, i + 6 ≤ 3072 → ∀ (f : Nat → Int64) (a1 : Int32) (σx σm : hsS), R i σx σm → lo_17 f a1 (R (i + 6)) σx σm) (O18 : ∀ i : Nat, i + 6 ≤ 3072 → ∀ (f : Nat → Int64) (a1 : Int32) (σx σm : hsS), R i σx σm → lo_18 f a1 (R (i + 6)) σx σm) (O19 : ∀ i : Nat, i + 6 ≤ 3072 → ∀ (f : Nat → Int64) (a1 a2 : Int32) (σx σm : hsS), R i σx σm → lo_19 f a1 a2 (R (i + 6)) σx σm) (O20 : ∀ i : Nat, i + 6 ≤ 3072 → ∀  (σx σm : hsS), R i σx σm → lo_20  (R (i + 6)) σx σm) (O21 : ∀ i : Nat, i + 6 ≤ 3072 → ∀ (f : Nat → Int64) (a1 : Int32) (σx σm : hsS), R i σx σm → lo_21 f a1 (R (i + 6)) σx σm) (O22 : ∀ i : Nat, i + 6 ≤ 3072 → ∀ (f : Nat → Int64) (a1 : Int32) (σx σm : hsS), R i σx σm → lo_22 f a1 (R (i + 6)) σx σm) (O23 : ∀ i : Nat, i + 6 ≤ 3072 → ∀ (f : Nat → Int64) (a1 : Int32) (σx σm : hsS), R i σx σm → lo_23 f a1 (R (i + 6)) σx σm) (O24 : ∀ i : Nat, i + 6 ≤ 3072 → ∀ (f : Nat → Int64) (a1 : Int32) (σx σm : hsS), R i σx σm → lo_24 f a1 (R (i + 6)) σx σm) (O25 : ∀ i : Nat, i + 6 ≤ 3072 → ∀ (f : Nat → Int64) (a1 : Int32) (σx σm : hsS), R i σx σm → lo_25 f a1 (R (i + 6)) σx σm) (O26 : ∀ i : Nat, i + 6 ≤ 3072 → ∀ (f : Nat → Int64) (a1 : Int32) (σx σm : hsS), R i σx σm → lo_26 f a1 (R (i + 6)) σx σm) (O27 : ∀ i : Nat, i + 6 ≤ 3072 → ∀  (σx σm : hsS), R i σx σm → lo_27  (R (i + 6)) σx σm) (O28 : ∀ i : Nat, i + 6 ≤ 3072 → ∀ (a1 : Int32) (a2 : Int64) (σx σm : hsS), R i σx σm → lo_28 a1 a2 (R (i + 6)) σx σm) (O29 : ∀ i : Nat, i + 6 ≤ 3072 → ∀ (f : Nat → Int64) (a1 a2 : Int32) (σx σm : hsS), R i σx σm → lo_29 f a1 a2 (R (i + 6)) σx σm) (O30 : ∀ i : Nat, i + 6 ≤ 3072 → ∀ (f : Nat → Int64) (a1 a2 a3 : Int32) (σx σm : hsS), R i σx σm → lo_30 f a1 a2 a3 (R (i + 6)) σx σm) (O31 : ∀ i : Nat, i + 6 ≤ 3072 → ∀ (f : Nat → Int64) (a1 a2 : Int32) (σx σm : hsS), R i σx σm → lo_31 f a1 a2 (R (i + 6)) σx σm) (O32 : ∀ i : Nat, i + 6 ≤ 3072 → ∀ (f : Nat → Int64) (a1 a2 : Int32) (σx σm : hsS), R i σx σm → lo_32 f a1 a2 (R (i + 6)) σx σm) :
    ∀ (n i : Nat) (x4 : Int32) (σx σm : hsS) (f : Nat → Int64) (k n6 : Nat) (H : Heap) (locs : List Loc) (ls : Array Slot), i ≤ L + 6 → L + 7 ≤ i + 6 * n → x4 = nI i → k + 16 * n ≤ 600000 ∧ n6 + 96 * n ≤ 7000000 → R i σx σm → va_P D vwCl (xw cx qx σx) H → va_P D vwCl (mw cm qm σm) H → va_P D vwCl (hlO co o f) H → va_S (fun q : Nat => s.heap.size ≤ q) s.heap H locs → lv_has ls 7 [(0, .ref b), (1, .ref (qx 0)), (2, .ref (qm 0)), (3, .ref o), (4, .int x4)] → W p l e room_1 s m #[Value.ref b] below meth c₀ H locs k n6 (lw_Z below #[Value.ref b] s) (F0 m 23 ls []) := by
  intro n
  induction n with
  | zero =>
    intro i x4 σx σm f k n6 H locs ls h1 h2
    exact absurd h2 (by omega)
  | succ n ih =>
    intro i x4 σx σm f k n6 H locs ls hi hin0 ex4 hk hR hPx hPm hPo hS hl
    obtain ⟨hx, hb, hr, hml, hown, hts, hXs, hbl, hlocks, hgv⟩ := id C0
    have hbA : ¬ (fun q : Nat => s.heap.size ≤ q) b := Nat.not_le.mpr hbl
    refine lv_iload hx hb dL_law_23 (lv_at hl 4 rfl) ?_
    refine lv_aload_n hx hb dL_law_25 rfl (lv_at hl 0 rfl) ?_
    refine va_slen hx hb hXs hbl hbA hS dL_law_26 ?_
    refine lv_bipush (v := (6 : Int32)) hx hb dL_law_27 (by decide) ?_
    refine lv_isub hx hb dL_law_29 ?_
    refine lv_icmp_gt (tgt := 1819) hx hb dL_law_30 (by decide) (fun c1 => ?_) (fun c1 => ?_)
    · refine lv_iconst (v := (1 : Int32)) hx hb dL_law_1819 (by decide) ?_
      refine va_forget (fun q hq => hS.2.2 q hq) ?_
      refine W.widen (k := 601024) (n := 7293034) (by omega) (by omega) ?_
      exact lw_ret hx hb hr hlocks dL_law_1820
    · have hlt : i + 6 ≤ L := by
        rcases Nat.lt_or_ge L (i + 6) with h9 | h9
        · exact absurd (by rw [ex4]; exact (ll_sub hL hi).mpr h9) c1
        · exact h9
      have hin : ∀ j : Nat, 0 < j → j < 6 → vp_in (x4 + nI j) L := fun j _ hj => by rw [ex4, nI_add]; exact vp_in_nI (by omega) (by omega)
      have hin1 : vp_in x4 L := by rw [ex4]; exact vp_in_nI (by omega) (by omega)
      refine lv_aload_n hx hb dL_law_33 rfl (lv_at hl 0 rfl) ?_
      refine lv_iload hx hb dL_law_34 (lv_at hl 4 rfl) ?_
      refine va_sld hx hb hXs hbl hbA hS hin1 dL_law_36 ?_
      refine lv_bipush (v := (63 : Int32)) hx hb dL_law_37 (by decide) ?_
      refine lv_iand hx hb dL_law_39 ?_
      refine lv_topi (fun v ev => ?_)
      have hnext : ∀ (σx σm : hsS) (f : Nat → Int64) (H : Heap) (locs : List Loc) (ls : Array Slot), R (i + 6) σx σm → va_P D vwCl (xw cx qx σx) H → va_P D vwCl (mw cm qm σm) H → va_P D vwCl (hlO co o f) H → va_S (fun q : Nat => s.heap.size ≤ q) s.heap H locs → lv_has ls 7 [(0, .ref b), (1, .ref (qx 0)), (2, .ref (qm 0)), (3, .ref o), (4, .int x4)] → W p l e room_1 s m #[Value.ref b] below meth c₀ H locs (k + 16) (n6 + 96) (lw_Z below #[Value.ref b] s) (F0 m 1813 ls []) := by
        intro σx σm f H locs ls hR hPx hPm hPo hS hl
        obtain ⟨x5, ex5⟩ : ∃ z : Int32, z = x4 + (6 : Int32) := ⟨_, rfl⟩
        refine lv_iinc (v := x5) (lv' := [(4, .int x5), (0, .ref b), (1, .ref (qx 0)), (2, .ref (qm 0)), (3, .ref o)]) hx hb dL_law_1813 hl (k := 4) rfl (by rw [ex5]; rfl) (by decide) rfl (fun ls hl => ?_)
        refine lv_goto (tgt := 23) hx hb dL_law_1816 (by decide) ?_
        exact ih (i + 6) x5 σx σm f (k + 16) (n6 + 96) H locs ls (by omega) (by omega) (by rw [ex5, ex4]; exact nI_add i 6) (by omega) hR hPx hPm hPo hS (lv_sub hl [1, 2, 3, 4, 0] rfl)
      by_cases c2 : v = (0 : Int32)
      · refine lv_tableIn (off := 148) (tgt := 188) hx hb dL_law_40 (by rw [c2]; decide) (by rw [c2]; decide) (by rw [c2]; rfl) (by decide) ?_
        exact lc_0 C0 hst hs (R i) (R (i + 6)) (O0 i (by omega)) x4 hin σx σm f k n6 (by omega) H locs ls hR hPx hPm hPo hS hl hnext
      by_cases c3 : v = (1 : Int32)
      · refine lv_tableIn (off := 221) (tgt := 261) hx hb dL_law_40 (by rw [c3]; decide) (by rw [c3]; decide) (by rw [c3]; rfl) (by decide) ?_
        exact lc_1 C0 hst hs (R i) (R (i + 6)) (O1 i (by omega)) x4 hin σx σm f k n6 (by omega) H locs ls hR hPx hPm hPo hS hl hnext
      by_cases c4 : v = (2 : Int32)
      · refine lv_tableIn (off := 277) (tgt := 317) hx hb dL_law_40 (by rw [c4]; decide) (by rw [c4]; decide) (by rw [c4]; rfl) (by decide) ?_
        exact lc_2 C0 hst hs (R i) (R (i + 6)) (O2 i (by omega)) x4 hin σx σm f k n6 (by omega) H locs ls hR hPx hPm hPo hS hl hnext
      by_cases c5 : v = (3 : Int32)
      · refine lv_tableIn (off := 290) (tgt := 330) hx hb dL_law_40 (by rw [c5]; decide) (by rw [c5]; decide) (by rw [c5]; rfl) (by decide) ?_
        exact lc_3 C0 hst hs (R i) (R (i + 6)) (O3 i (by omega)) x4 hin σx σm f k n6 (by omega) H locs ls hR hPx hPm hPo hS hl hnext
      by_cases c6 : v = (4 : Int32)
      · refine lv_tableIn (off := 346) (tgt := 386) hx hb dL_law_40 (by rw [c6]; decide) (by rw [c6]; decide) (by rw [c6]; rfl) (by decide) ?_
        exact lc_4 C0 hst hs (R i) (R (i + 6)) (O4 i (by omega)) x4 hin σx σm f k n6 (by omega) H locs ls hR hPx hPm hPo hS hl hnext
      by_cases c7 : v = (5 : Int32)
      · refine lv_tableIn (off := 414) (tgt := 454) hx hb dL_law_40 (by rw [c7]; decide) (by rw [c7]; decide) (by rw [c7]; rfl) (by decide) ?_
        exact lc_5 C0 hst hs (R i) (R (i + 6)) (O5 i (by omega)) x4 hin σx σm f k n6 (by omega) H locs ls hR hPx hPm hPo hS hl hnext
      by_cases c8 : v = (6 : Int32)
      · refine lv_tableIn (off := 470) (tgt := 510) hx hb dL_law_40 (by rw [c8]; decide) (by rw [c8]; decide) (by rw [c8]; rfl) (by decide) ?_
        exact lc_6 C0 hst hs (R i) (R (i + 6)) (O6 i (by omega)) x4 hin σx σm f k n6 (by omega) H locs ls hR hPx hPm hPo hS hl hnext
      by_cases c9 : v = (7 : Int32)
      · refine lv_tableIn (off := 495) (tgt := 535) hx hb dL_law_40 (by rw [c9]; decide) (by rw [c9]; decide) (by rw [c9]; rfl) (by decide) ?_
        exact lc_7 C0 hst hs (R i) (R (i + 6)) (O7 i (by omega)) x4 hin σx σm f k n6 (by omega) H locs ls hR hPx hPm hPo hS hl hnext
      by_cases c10 : v = (8 : Int32)
      · refine lv_tableIn (off := 563) (tgt := 603) hx hb dL_law_40 (by rw [c10]; decide) (by rw [c10]; decide) (by rw [c10]; rfl) (by decide) ?_
        exact lc_8 C0 hst hs (R i) (R (i + 6)) (O8 i (by omega)) x4 hin σx σm f k n6 (by omega) H locs ls hR hPx hPm hPo hS hl hnext
      by_cases c11 : v = (9 : Int32)
      · refine lv_tableIn (off := 638) (tgt := 678) hx hb dL_law_40 (by rw [c11]; decide) (by rw [c11]; decide) (by rw [c11]; rfl) (by decide) ?_
        exact lc_9 C0 hst hs (R i) (R (i + 6)) (O9 i (by omega)) x4 hin σx σm f k n6 (by omega) H locs ls hR hPx hPm hPo hS hl hnext
      by_cases c12 : v = (10 : Int32)
      · refine lv_tableIn (off := 694) (tgt := 734) hx hb dL_law_40 (by rw [c12]; decide) (by rw [c12]; decide) (by rw [c12]; rfl) (by decide) ?_
        exact lc_10 C0 hst hs (R i) (R (i + 6)) (O10 i (by omega)) x4 hin σx σm f k n6 (by omega) H locs ls hR hPx hPm hPo hS hl hnext
      by_cases c13 : v = (11 : Int32)
      · refine lv_tableIn (off := 707) (tgt := 747) hx hb dL_law_40 (by rw [c13]; decide) (by rw [c13]; decide) (by rw [c13]; rfl) (by decide) ?_
        exact lc_11 C0 hst hs (R i) (R (i + 6)) (O11 i (by omega)) x4 hin σx σm f k n6 (by omega) H locs ls hR hPx hPm hPo hS hl hnext
      by_cases c14 : v = (12 : Int32)
      · refine lv_tableIn (off := 763) (tgt := 803) hx hb dL_law_40 (by rw [c14]; decide) (by rw [c14]; decide) (by rw [c14]; rfl) (by decide) ?_
        exact lc_12 C0 hst hs (R i) (R (i + 6)) (O12 i (by omega)) x4 hin σx σm f k n6 (by omega) H locs ls hR hPx hPm hPo hS hl hnext
      by_cases c15 : v = (13 : Int32)
      · refine lv_tableIn (off := 776) (tgt := 816) hx hb dL_law_40 (by rw [c15]; decide) (by rw [c15]; decide) (by rw [c15]; rfl) (by decide) ?_
        exact lc_13 C0 hst hs (R i) (R (i + 6)) (O13 i (by omega)) x4 hin σx σm f k n6 (by omega) H locs ls hR hPx hPm hPo hS hl hnext
      by_cases c16 : v = (14 : Int32)
      · refine lv_tableIn (off := 832) (tgt := 872) hx hb dL_law_40 (by rw [c16]; decide) (by rw [c16]; decide) (by rw [c16]; rfl) (by decide) ?_
        exact lc_14 C0 hst hs (R i) (R (i + 6)) (O14 i (by omega)) x4 hin σx σm f k n6 (by omega) H locs ls hR hPx hPm hPo hS hl hnext
      by_cases c17 : v = (15 : Int32)
      · refine lv_tableIn (off := 845) (tgt := 885) hx hb dL_law_40 (by rw [c17]; decide) (by rw [c17]; decide) (by rw [c17]; rfl) (by decide) ?_
        exact lc_15 C0 hst hs (R i) (R (i + 6)) (O15 i (by omega)) x4 hin σx σm f k n6 (by omega) H locs ls hR hPx hPm hPo hS hl hnext
      by_cases c18 : v = (16 : Int32)
      · refine lv_tableIn (off := 858) (tgt := 898) hx hb dL_law_40 (by rw [c18]; decide) (by rw [c18]; decide) (by rw [c18]; rfl) (by decide) ?_
        exact lc_16 C0 hst hs (R i) (R (i + 6)) (O16 i (by omega)) x4 hin σx σm f k n6 (by omega) H locs ls hR hPx hPm hPo hS hl hnext
      by_cases c19 : v = (17 : Int32)
      · refine lv_tableIn (off := 871) (tgt := 911) hx hb dL_law_40 (by rw [c19]; decide) (by rw [c19]; decide) (by rw [c19]; rfl) (by decide) ?_
        exact lc_17 C0 hst hs (R i) (R (i + 6)) (O17 i (by omega)) x4 hin σx σm f k n6 (by omega) H locs ls hR hPx hPm hPo hS hl hnext
      by_cases c20 : v = (18 : Int32)
      · refine lv_tableIn (off := 927) (tgt := 967) hx hb dL_law_40 (by rw [c20]; decide) (by rw [c20]; decide) (by rw [c20]; rfl) (by decide) ?_
        exact lc_18 C0 hst hs (R i) (R (i + 6)) (O18 i (by omega)) x4 hin σx σm f k n6 (by omega) H locs ls hR hPx hPm hPo hS hl hnext
      by_cases c21 : v = (19 : Int32)
      · refine lv_tableIn (off := 983) (tgt := 1023) hx hb dL_law_40 (by rw [c21]; decide) (by rw [c21]; decide) (by rw [c21]; rfl) (by decide) ?_
        exact lc_19 C0 hst hs (R i) (R (i + 6)) (O19 i (by omega)) x4 hin σx σm f k n6 (by omega) H locs ls hR hPx hPm hPo hS hl hnext
      by_cases c22 : v = (20 : Int32)
      · refine lv_tableIn (off := 1051) (tgt := 1091) hx hb dL_law_40 (by rw [c22]; decide) (by rw [c22]; decide) (by rw [c22]; rfl) (by decide) ?_
        exact lc_20 C0 hst hs (R i) (R (i + 6)) (O20 i (by omega)) x4 hin σx σm f k n6 (by omega) H locs ls hR hPx hPm hPo hS hl hnext
      by_cases c23 : v = (21 : Int32)
      · refine lv_tableIn (off := 1064) (tgt := 1104) hx hb dL_law_40 (by rw [c23]; decide) (by rw [c23]; decide) (by rw [c23]; rfl) (by decide) ?_
        exact lc_21 C0 hst hs (R i) (R (i + 6)) (O21 i (by omega)) x4 hin σx σm f k n6 (by omega) H locs ls hR hPx hPm hPo hS hl hnext
      by_cases c24 : v = (22 : Int32)
      · refine lv_tableIn (off := 1120) (tgt := 1160) hx hb dL_law_40 (by rw [c24]; decide) (by rw [c24]; decide) (by rw [c24]; rfl) (by decide) ?_
        exact lc_22 C0 hst hs (R i) (R (i + 6)) (O22 i (by omega)) x4 hin σx σm f k n6 (by omega) H locs ls hR hPx hPm hPo hS hl hnext
      by_cases c25 : v = (23 : Int32)
      · refine lv_tableIn (off := 1176) (tgt := 1216) hx hb dL_law_40 (by rw [c25]; decide) (by rw [c25]; decide) (by rw [c25]; rfl) (by decide) ?_
        exact lc_23 C0 hst hs (R i) (R (i + 6)) (O23 i (by omega)) x4 hin σx σm f k n6 (by omega) H locs ls hR hPx hPm hPo hS hl hnext
      by_cases c26 : v = (24 : Int32)
      · refine lv_tableIn (off := 1232) (tgt := 1272) hx hb dL_law_40 (by rw [c26]; decide) (by rw [c26]; decide) (by rw [c26]; rfl) (by decide) ?_
        exact lc_24 C0 hst hs (R i) (R (i + 6)) (O24 i (by omega)) x4 hin σx σm f k n6 (by omega) H locs ls hR hPx hPm hPo hS hl hnext
      by_cases c27 : v = (25 : Int32)
      · refine lv_tableIn (off := 1288) (tgt := 1328) hx hb dL_law_40 (by rw [c27]; decide) (by rw [c27]; decide) (by rw [c27]; rfl) (by decide) ?_
        exact lc_25 C0 hst hs (R i) (R (i + 6)) (O25 i (by omega)) x4 hin σx σm f k n6 (by omega) H locs ls hR hPx hPm hPo hS hl hnext
      by_cases c28 : v = (26 : Int32)
      · refine lv_tableIn (off := 1344) (tgt := 1384) hx hb dL_law_40 (by rw [c28]; decide) (by rw [c28]; decide) (by rw [c28]; rfl) (by decide) ?_
        exact lc_26 C0 hst hs (R i) (R (i + 6)) (O26 i (by omega)) x4 hin σx σm f k n6 (by omega) H locs ls hR hPx hPm hPo hS hl hnext
      by_cases c29 : v = (27 : Int32)
      · refine lv_tableIn (off := 1400) (tgt := 1440) hx hb dL_law_40 (by rw [c29]; decide) (by rw [c29]; decide) (by rw [c29]; rfl) (by decide) ?_
        exact lc_27 C0 hst hs (R i) (R (i + 6)) (O27 i (by omega)) x4 hin σx σm f k n6 (by omega) H locs ls hR hPx hPm hPo hS hl hnext
      by_cases c30 : v = (28 : Int32)
      · refine lv_tableIn (off := 1413) (tgt := 1453) hx hb dL_law_40 (by rw [c30]; decide) (by rw [c30]; decide) (by rw [c30]; rfl) (by decide) ?_
        exact lc_28 C0 hst hs (R i) (R (i + 6)) (O28 i (by omega)) x4 hin σx σm f k n6 (by omega) H locs ls hR hPx hPm hPo hS hl hnext
      by_cases c31 : v = (29 : Int32)
      · refine lv_tableIn (off := 1482) (tgt := 1522) hx hb dL_law_40 (by rw [c31]; decide) (by rw [c31]; decide) (by rw [c31]; rfl) (by decide) ?_
        exact lc_29 C0 hst hs (R i) (R (i + 6)) (O29 i (by omega)) x4 hin σx σm f k n6 (by omega) H locs ls hR hPx hPm hPo hS hl hnext
      by_cases c32 : v = (30 : Int32)
      · refine lv_tableIn (off := 1550) (tgt := 1590) hx hb dL_law_40 (by rw [c32]; decide) (by rw [c32]; decide) (by rw [c32]; rfl) (by decide) ?_
        exact lc_30 C0 hst hs (R i) (R (i + 6)) (O30 i (by omega)) x4 hin σx σm f k n6 (by omega) H locs ls hR hPx hPm hPo hS hl hnext
      by_cases c33 : v = (31 : Int32)
      · refine lv_tableIn (off := 1637) (tgt := 1677) hx hb dL_law_40 (by rw [c33]; decide) (by rw [c33]; decide) (by rw [c33]; rfl) (by decide) ?_
        exact lc_31 C0 hst hs (R i) (R (i + 6)) (O31 i (by omega)) x4 hin σx σm f k n6 (by omega) H locs ls hR hPx hPm hPo hS hl hnext
      by_cases c34 : v = (32 : Int32)
      · refine lv_tableIn (off := 1705) (tgt := 1745) hx hb dL_law_40 (by rw [c34]; decide) (by rw [c34]; decide) (by rw [c34]; rfl) (by decide) ?_
        exact lc_32 C0 hst hs (R i) (R (i + 6)) (O32 i (by omega)) x4 hin σx σm f k n6 (by omega) H locs ls hR hPx hPm hPo hS hl hnext
      have hz : ¬ v.toInt = 0 ∧ ¬ v.toInt = 1 ∧ ¬ v.toInt = 2 ∧ ¬ v.toInt = 3 ∧ ¬ v.toInt = 4 ∧ ¬ v.toInt = 5 ∧ ¬ v.toInt = 6 ∧ ¬ v.toInt = 7 ∧ ¬ v.toInt = 8 ∧ ¬ v.toInt = 9 ∧ ¬ v.toInt = 10 ∧ ¬ v.toInt = 11 ∧ ¬ v.toInt = 12 ∧ ¬ v.toInt = 13 ∧ ¬ v.toInt = 14 ∧ ¬ v.toInt = 15 ∧ ¬ v.toInt = 16 ∧ ¬ v.toInt = 17 ∧ ¬ v.toInt = 18 ∧ ¬ v.toInt = 19 ∧ ¬ v.toInt = 20 ∧ ¬ v.toInt = 21 ∧ ¬ v.toInt = 22 ∧ ¬ v.toInt = 23 ∧ ¬ v.toInt = 24 ∧ ¬ v.toInt = 25 ∧ ¬ v.toInt = 26 ∧ ¬ v.toInt = 27 ∧ ¬ v.toInt = 28 ∧ ¬ v.toInt = 29 ∧ ¬ v.toInt = 30 ∧ ¬ v.toInt = 31 ∧ ¬ v.toInt = 32 := ⟨lv_neT (a := 0) c2 rfl, lv_neT (a := 1) c3 rfl, lv_neT (a := 2) c4 rfl, lv_neT (a := 3) c5 rfl, lv_neT (a := 4) c6 rfl, lv_neT (a := 5) c7 rfl, lv_neT (a := 6) c8 rfl, lv_neT (a := 7) c9 rfl, lv_neT (a := 8) c10 rfl, lv_neT (a := 9) c11 rfl, lv_neT (a := 10) c12 rfl, lv_neT (a := 11) c13 rfl, lv_neT (a := 12) c14 rfl, lv_neT (a := 13) c15 rfl, lv_neT (a := 14) c16 rfl, lv_neT (a := 15) c17 rfl, lv_neT (a := 16) c18 rfl, lv_neT (a := 17) c19 rfl, lv_neT (a := 18) c20 rfl, lv_neT (a := 19) c21 rfl, lv_neT (a := 20) c22 rfl, lv_neT (a := 21) c23 rfl, lv_neT (a := 22) c24 rfl, lv_neT (a := 23) c25 rfl, lv_neT (a := 24) c26 rfl, lv_neT (a := 25) c27 rfl, lv_neT (a := 26) c28 rfl, lv_neT (a := 27) c29 rfl, lv_neT (a := 28) c30 rfl, lv_neT (a := 29) c31 rfl, lv_neT (a := 30) c32 rfl, lv_neT (a := 31) c33 rfl, lv_neT (a := 32) c34 rfl⟩
      refine lv_tableOut (tgt := 1813) hx hb dL_law_40 (by omega) (by decide) ?_
      refine W.widen (k := k + 16) (n := n6 + 96) (by omega) (by omega) ?_
      exact hnext σx σm f H locs ls (hRm i σx σm hR) hPx hPm hPo hS hl
