theorem va_A_one {q : Nat} {e : va_E} {sz a : Nat} (h : va_A [(q, e)] sz a) : a = q ∨ sz ≤ a := by
  rcases h with ⟨k, e9, hk⟩ | h
  · match k, hk with
    | 0, hk => exact Or.inl (congrArg Prod.fst (Option.some.inj hk)).symm
    | k + 1, hk => exact absurd hk (by simp)
  · exact Or.inr h
theorem wdA_of2 {N : Nat} {q : Nat → Nat} {ws : va_W} {A : Nat → Prop} (hD : va_D A ws) (hlen : ws.length = N) (key : ∀ k, k < N → ∃ x, ws[k]? = some x ∧ x.1 = q k) : va_D (wdA N q) ws ∧ (∀ a, wdA N q a → A a) ∧ ∀ a, wdA N q a → ∃ (k : Nat) (x : Nat × va_E), ws[k]? = some x ∧ x.1 = a := by
  refine ⟨⟨hD.1, fun k x hk => ?_⟩, fun a ⟨k, hk, ea⟩ => ?_, fun a ⟨k, hk, ea⟩ => ?_⟩
  · have hlt : k < N := by rw [← hlen]; exact (List.getElem?_eq_some_iff.mp hk).1
    obtain ⟨y, hy, ey⟩ := key k hlt
    rw [hk] at hy
    cases Option.some.inj hy
    exact ⟨k, hlt, ey⟩
  · obtain ⟨x, hx, ex⟩ := key k hk
    rw [ea, ← ex]; exact hD.2 k x hx
  · obtain ⟨x, hx, ex⟩ := key k hk
    exact ⟨k, x, hx, by rw [ex, ea]⟩
theorem xw_len (c : Nat → ClassId) (q : Nat → Nat) (σ : hsS) : (xw c q σ).length = 36 := rfl
theorem mw_len (c : Nat → ClassId) (q : Nat → Nat) (σ : hsS) : (mw c q σ).length = 31 := rfl
theorem xm_len (c c' : Nat → ClassId) (q q' : Nat → Nat) (σ σ' : hsS) : (xw c q σ ++ mw c' q' σ').length = 67 := by rw [List.length_append, xw_len, mw_len]
theorem xmT_len (c c' : Nat → ClassId) : (xwT c ++ mwT c').length = 56 := by rw [List.length_append]; rfl
theorem xw_key (c : Nat → ClassId) (q : Nat → Nat) (σ : hsS) : ∀ k, k < 36 → ∃ x, (xw c q σ)[k]? = some x ∧ x.1 = q k := by
  intro k hk
  match k, hk with
  | 0, _ => exact ⟨_, xw_0 c q σ, rfl⟩
  | 1, _ => exact ⟨_, xw_1 c q σ, rfl⟩
  | 2, _ => exact ⟨_, xw_2 c q σ, rfl⟩
  | 3, _ => exact ⟨_, xw_3 c q σ, rfl⟩
  | 4, _ => exact ⟨_, xw_4 c q σ, rfl⟩
  | 5, _ => exact ⟨_, xw_5 c q σ, rfl⟩
  | 6, _ => exact ⟨_, xw_6 c q σ, rfl⟩
  | 7, _ => exact ⟨_, xw_7 c q σ, rfl⟩
  | 8, _ => exact ⟨_, xw_8 c q σ, rfl⟩
  | 9, _ => exact ⟨_, xw_9 c q σ, rfl⟩
  | 10, _ => exact ⟨_, xw_10 c q σ, rfl⟩
  | 11, _ => exact ⟨_, xw_11 c q σ, rfl⟩
  | 12, _ => exact ⟨_, xw_12 c q σ, rfl⟩
  | 13, _ => exact ⟨_, xw_13 c q σ, rfl⟩
  | 14, _ => exact ⟨_, xw_14 c q σ, rfl⟩
  | 15, _ => exact ⟨_, xw_15 c q σ, rfl⟩
  | 16, _ => exact ⟨_, xw_16 c q σ, rfl⟩
  | 17, _ => exact ⟨_, xw_17 c q σ, rfl⟩
  | 18, _ => exact ⟨_, xw_18 c q σ, rfl⟩
  | 19, _ => exact ⟨_, xw_19 c q σ, rfl⟩
  | 20, _ => exact ⟨_, xw_20 c q σ, rfl⟩
  | 21, _ => exact ⟨_, xw_21 c q σ, rfl⟩
  | 22, _ => exact ⟨_, xw_22 c q σ, rfl⟩
  | 23, _ => exact ⟨_, xw_23 c q σ, rfl⟩
  | 24, _ => exact ⟨_, xw_24 c q σ, rfl⟩
  | 25, _ => exact ⟨_, xw_25 c q σ, rfl⟩
  | 26, _ => exact ⟨_, xw_26 c q σ, rfl⟩
  | 27, _ => exact ⟨_, xw_27 c q σ, rfl⟩
  | 28, _ => exact ⟨_, xw_28 c q σ, rfl⟩
  | 29, _ => exact ⟨_, xw_29 c q σ, rfl⟩
  | 30, _ => exact ⟨_, xw_30 c q σ, rfl⟩
  | 31, _ => exact ⟨_, xw_31 c q σ, rfl⟩
  | 32, _ => exact ⟨_, xw_32 c q σ, rfl⟩
  | 33, _ => exact ⟨_, xw_33 c q σ, rfl⟩
  | 34, _ => exact ⟨_, xw_34 c q σ, rfl⟩
  | 35, _ => exact ⟨_, xw_35 c q σ, rfl⟩
  | n + 36, h => exact absurd h (by omega)
theorem mw_key (c : Nat → ClassId) (q : Nat → Nat) (σ : hsS) : ∀ k, k < 31 → ∃ x, (mw c q σ)[k]? = some x ∧ x.1 = q k := by
  intro k hk
  match k, hk with
  | 0, _ => exact ⟨_, mw_0 c q σ, rfl⟩
  | 1, _ => exact ⟨_, mw_1 c q σ, rfl⟩
  | 2, _ => exact ⟨_, mw_2 c q σ, rfl⟩
  | 3, _ => exact ⟨_, mw_3 c q σ, rfl⟩
  | 4, _ => exact ⟨_, mw_4 c q σ, rfl⟩
  | 5, _ => exact ⟨_, mw_5 c q σ, rfl⟩
  | 6, _ => exact ⟨_, mw_6 c q σ, rfl⟩
  | 7, _ => exact ⟨_, mw_7 c q σ, rfl⟩
  | 8, _ => exact ⟨_, mw_8 c q σ, rfl⟩
  | 9, _ => exact ⟨_, mw_9 c q σ, rfl⟩
  | 10, _ => exact ⟨_, mw_10 c q σ, rfl⟩
  | 11, _ => exact ⟨_, mw_11 c q σ, rfl⟩
  | 12, _ => exact ⟨_, mw_12 c q σ, rfl⟩
  | 13, _ => exact ⟨_, mw_13 c q σ, rfl⟩
  | 14, _ => exact ⟨_, mw_14 c q σ, rfl⟩
  | 15, _ => exact ⟨_, mw_15 c q σ, rfl⟩
  | 16, _ => exact ⟨_, mw_16 c q σ, rfl⟩
  | 17, _ => exact ⟨_, mw_17 c q σ, rfl⟩
  | 18, _ => exact ⟨_, mw_18 c q σ, rfl⟩
  | 19, _ => exact ⟨_, mw_19 c q σ, rfl⟩
  | 20, _ => exact ⟨_, mw_20 c q σ, rfl⟩
  | 21, _ => exact ⟨_, mw_21 c q σ, rfl⟩
  | 22, _ => exact ⟨_, mw_22 c q σ, rfl⟩
  | 23, _ => exact ⟨_, mw_23 c q σ, rfl⟩
  | 24, _ => exact ⟨_, mw_24 c q σ, rfl⟩
  | 25, _ => exact ⟨_, mw_25 c q σ, rfl⟩
  | 26, _ => exact ⟨_, mw_26 c q σ, rfl⟩
  | 27, _ => exact ⟨_, mw_27 c q σ, rfl⟩
  | 28, _ => exact ⟨_, mw_28 c q σ, rfl⟩
  | 29, _ => exact ⟨_, mw_29 c q σ, rfl⟩
  | 30, _ => exact ⟨_, mw_30 c q σ, rfl⟩
  | n + 31, h => exact absurd h (by omega)
set_option maxHeartbeats 16000000 in
set_option maxRecDepth 100000 in
/-- THE LAW from its entry, over any relation of the two states that holds at the start and that every call keeps -/
theorem whole_open {p : Program} {e : Env} {s : State} {m : MethodId} {below : List Frame} {meth : Method} {c : Code} (l : Launch) {b L : Nat} {xs : Nat → Int32} (hL : L ≤ 3072) (C0 : lw_At p s m meth c b L xs) (hst : l.stackTraces = false) (R : Nat → hsS → hsS → Prop) (hR0 : R 0 xs0 ms0) (hRm : ∀ (i : Nat) (σx σm : hsS), R i σx σm → R (i + 6) σx σm) (O0 : ∀ i : Nat, i + 6 ≤ 3072 → ∀ (a1 : Int32) (a2 : Int32) (a3 : Int32) (a4 : Int32) (a5 : Int32) (σx σm : hsS), R i σx σm → lo_0 a1 a2 a3 a4 a5 (R (i + 6)) σx σm) (O1 : ∀ i : Nat, i + 6 ≤ 3072 → ∀ (f : Nat → Int64) (a1 : Int32) (σx σm : hsS), R i σx σm → lo_1 f a1 (R (i + 6)) σx σm) (O2 : ∀ i : Nat, i + 6 ≤ 3072 → ∀  (σx σm : hsS), R i σx σm → lo_2  (R (i + 6)) σx σm) (O3 : ∀ i : Nat, i + 6 ≤ 3072 → ∀ (f : Nat → Int64) (a1 : Int32) (σx σm : hsS), R i σx σm → lo_3 f a1 (R (i + 6)) σx σm) (O4 : ∀ i : Nat, i + 6 ≤ 3072 → ∀ (f : Nat → Int64) (a1 a2 : Int32) (σx σm : hsS), R i σx σm → lo_4 f a1 a2 (R (i + 6)) σx σm) (O5 : ∀ i : Nat, i + 6 ≤ 3072 → ∀ (f : Nat → Int64) (a1 : Int32) (σx σm : hsS), R i σx σm → lo_5 f a1 (R (i + 6)) σx σm) (O6 : ∀ i : Nat, i + 6 ≤ 3072 → ∀ (a1 : Int32) (σx σm : hsS), R i σx σm → lo_6 a1 (R (i + 6)) σx σm) (O7 : ∀ i : Nat, i + 6 ≤ 3072 → ∀ (f : Nat → Int64) (a1 a2 : Int32) (σx σm : hsS), R i σx σm → lo_7 f a1 a2 (R (i + 6)) σx σm) (O8 : ∀ i : Nat, i + 6 ≤ 3072 → ∀ (f : Nat → Int64) (a1 a2 : Int32) (σx σm : hsS), R i σx σm → lo_8 f a1 a2 (R (i + 6)) σx σm) (O9 : ∀ i : Nat, i + 6 ≤ 3072 → ∀ (f : Nat → Int64) (a1 : Int32) (σx σm : hsS), R i σx σm → lo_9 f a1 (R (i + 6)) σx σm) (O10 : ∀ i : Nat, i + 6 ≤ 3072 → ∀  (σx σm : hsS), R i σx σm → lo_10  (R (i + 6)) σx σm) (O11 : ∀ i : Nat, i + 6 ≤ 3072 → ∀ (f : Nat → Int64) (a1 : Int32) (σx σm : hsS), R i σx σm → lo_11 f a1 (R (i + 6)) σx σm) (O12 : ∀ i : Nat, i + 6 ≤ 3072 → ∀  (σx σm : hsS), R i σx σm → lo_12  (R (i + 6)) σx σm) (O13 : ∀ i : Nat, i + 6 ≤ 3072 → ∀ (f : Nat → Int64) (a1 : Int32) (σx σm : hsS), R i σx σm → lo_13 f a1 (R (i + 6)) σx σm) (O14 : ∀ i : Nat, i + 6 ≤ 3072 → ∀  (σx σm : hsS), R i σx σm → lo_14  (R (i + 6)) σx σm) (O15 : ∀ i : Nat, i + 6 ≤ 3072 → ∀  (σx σm : hsS), R i σx σm → lo_15  (R (i + 6)) σx σm) (O16 : ∀ i : Nat, i + 6 ≤ 3072 → ∀  (σx σm : hsS), R i σx σm → lo_16  (R (i + 6)) σx σm) (O17 : ∀ i : Nat, i + 6 ≤ 3072 → ∀ (f : Nat → Int64) (a1 : Int32) (σx σm : hsS), R i σx σm → lo_17 f a1 (R (i + 6)) σx σm) (O18 : ∀ i : Nat, i + 6 ≤ 3072 → ∀ (f : Nat → Int64) (a1 : Int32) (σx σm : hsS), R i σx σm → lo_18 f a1 (R (i + 6)) σx σm) (O19 : ∀ i : Nat, i + 6 ≤ 3072 → ∀ (f : Nat → Int64) (a1 a2 : Int32) (σx σm : hsS), R i σx σm → lo_19 f a1 a2 (R (i + 6)) σx σm) (O20 : ∀ i : Nat, i + 6 ≤ 3072 → ∀  (σx σm : hsS), R i σx σm → lo_20  (R (i + 6)) σx σm) (O21 : ∀ i : Nat, i + 6 ≤ 3072 → ∀ (f : Nat → Int64) (a1 : Int32) (σx σm : hsS), R i σx σm → lo_21 f a1 (R (i + 6)) σx σm) (O22 : ∀ i : Nat, i + 6 ≤ 3072 → ∀ (f : Nat → Int64) (a1 : Int32) (σx σm : hsS), R i σx σm → lo_22 f a1 (R (i + 6)) σx σm) (O23 : ∀ i : Nat, i + 6 ≤ 3072 → ∀ (f : Nat → Int64) (a1 : Int32) (σx σm : hsS), R i σx σm → lo_23 f a1 (R (i + 6)) σx σm) (O24 : ∀ i : Nat, i + 6 ≤ 3072 → ∀ (f : Nat → Int64) (a1 : Int32) (σx σm : hsS), R i σx σm → lo_24 f a1 (R (i + 6)) σx σm) (O25 : ∀ i : Nat, i + 6 ≤ 3072 → ∀ (f : Nat → Int64) (a1 : Int32) (σx σm : hsS), R i σx σm → lo_25 f a1 (R (i + 6)) σx σm) (O26 : ∀ i : Nat, i + 6 ≤ 3072 → ∀ (f : Nat → Int64) (a1 : Int32) (σx σm : hsS), R i σx σm → lo_26 f a1 (R (i + 6)) σx σm) (O27 : ∀ i : Nat, i + 6 ≤ 3072 → ∀  (σx σm : hsS), R i σx σm → lo_27  (R (i + 6)) σx σm) (O28 : ∀ i : Nat, i + 6 ≤ 3072 → ∀ (a1 : Int32) (a2 : Int64) (σx σm : hsS), R i σx σm → lo_28 a1 a2 (R (i + 6)) σx σm) (O29 : ∀ i : Nat, i + 6 ≤ 3072 → ∀ (f : Nat → Int64) (a1 a2 : Int32) (σx σm : hsS), R i σx σm → lo_29 f a1 a2 (R (i + 6)) σx σm) (O30 : ∀ i : Nat, i + 6 ≤ 3072 → ∀ (f : Nat → Int64) (a1 a2 a3 : Int32) (σx σm : hsS), R i σx σm → lo_30 f a1 a2 a3 (R (i + 6)) σx σm) (O31 : ∀ i : Nat, i + 6 ≤ 3072 → ∀ (f : Nat → Int64) (a1 a2 : Int32) (σx σm : hsS), R i σx σm → lo_31 f a1 a2 (R (i + 6)) σx σm) (O32 : ∀ i : Nat, i + 6 ≤ 3072 → ∀ (f : Nat → Int64) (a1 a2 : Int32) (σx σm : hsS), R i σx σm → lo_32 f a1 a2 (R (i + 6)) σx σm) : W p l e room_1 s m #[Value.ref b] below meth c s.heap [] 0 0 (lw_Z below #[Value.ref b] s) (entryFrame m ([Value.ref b] : List Value).toArray 7) := by
  obtain ⟨hx, hb, hr, hml, hown, hts, hXs, hbl, hlocks, hgv⟩ := id C0
  have hA : ∀ q : Nat, s.heap.size ≤ q → (fun q : Nat => s.heap.size ≤ q) q := fun _ h => h
  have htb : ∀ w ∈ tb_L, w.before #[Value.ref b] s = true := fun w h => hts w (tb_in h)
  obtain ⟨tF, adK, adV, hEnv⟩ := start_env hts hgv
  obtain ⟨k0, iS0, hKn0⟩ := u_known (C := RX0) (T := TX0) (N := 5) (n := 5) htb inX0 (htb _ tb_314)
  obtain ⟨k1, iS1, hKn1⟩ := u_known (C := RX1) (T := TX1) (N := 12) (n := 12) htb inX1 (htb _ tb_121)
  obtain ⟨k2, iS2, hKn2⟩ := u_known (C := RX2) (T := TX2) (N := 8) (n := 8) htb inX2 (htb _ tb_280)
  obtain ⟨k3, iS3, hKn3⟩ := u_known (C := RX3) (T := TX3) (N := 10) (n := 10) htb inX3 (htb _ tb_194)
  obtain ⟨k4, iS4, hKn4⟩ := u_known (C := RX4) (T := TX4) (N := 2) (n := 2) htb inX4 (htb _ tb_237)
  obtain ⟨k5, iS5, hKn5⟩ := u_known (C := RX5) (T := TX5) (N := 1) (n := 1) htb inX5 (htb _ tb_250)
  obtain ⟨k6, iS6, hKn6⟩ := u_known (C := RX6) (T := TX6) (N := 4) (n := 4) htb inX6 (htb _ tb_260)
  obtain ⟨k7, iS7, hKn7⟩ := u_known (C := RX7) (T := TX7) (N := 9) (n := 9) htb inX7 (htb _ tb_113)
  obtain ⟨k8, iS8, hKn8⟩ := u_known (C := RX8) (T := TX8) (N := 57) (n := 57) htb inX8 (htb _ tb_1176)
  obtain ⟨dC, dI, hKc⟩ : ∃ (dC : Nat → ClassId) (dI : Nat → Nat → Nat), ∀ (k : Nat) (q : vw_C), vwCl[k]? = some q → u_Kn s q.1 q.2.1 q.2.2 (dC k) (dI k) := by
    refine ⟨fun k => if k = 0 then k0 else if k = 1 then k1 else if k = 2 then k2 else if k = 3 then k3 else if k = 4 then k4 else if k = 5 then k5 else if k = 6 then k6 else if k = 7 then k7 else k8, fun k => if k = 0 then iS0 else if k = 1 then iS1 else if k = 2 then iS2 else if k = 3 then iS3 else if k = 4 then iS4 else if k = 5 then iS5 else if k = 6 then iS6 else if k = 7 then iS7 else iS8, ?_⟩
    intro k q hq
    match k, hq with
    | 0, hq => cases hq; exact hKn0
    | 1, hq => cases hq; exact hKn1
    | 2, hq => cases hq; exact hKn2
    | 3, hq => cases hq; exact hKn3
    | 4, hq => cases hq; exact hKn4
    | 5, hq => cases hq; exact hKn5
    | 6, hq => cases hq; exact hKn6
    | 7, hq => cases hq; exact hKn7
    | 8, hq => cases hq; exact hKn8
    | k + 9, hq => simp [vwCl] at hq
  obtain ⟨D, eD⟩ : ∃ z : va_G, z = (dC, dI) := ⟨_, rfl⟩
  have hS : va_S (fun q : Nat => s.heap.size ≤ q) s.heap s.heap [] := va_S.rf
  have hK : va_K D vwCl [] s := by rw [eD]; exact ⟨hKc, fun k q h => by simp at h⟩
  have hP : va_P D vwCl [] s.heap := fun k q h => by simp at h
  have hD : va_D (fun q : Nat => s.heap.size ≤ q) [] := ⟨fun i j p q h => by simp at h, fun k q h => by simp at h⟩
  have hl := lv_entry ([.ref b]) (n := 7) (Nat.le_of_ble_eq_true rfl)
  rw [lg_entry_eq]
  generalize (lg_sl ([.ref b]) ++ List.replicate (7 - (lg_sl ([.ref b])).length) Slot.unset).toArray = ls at hl ⊢
  have hl : lv_has ls 7 [(0, .ref b)] := hl
  refine va_new (ci := 7) (fs := [.null, .null, .null, .null, .null, .null, .null, .null, .null]) (C := RX7) (T := TX7) (N := 9) hx hb htb inX7 tyX7 tyX7_ok hown (htb _ tb_112) (htb _ tb_113) (htb _ tb_90) hK hP hD hS hA rfl (fun j hj => by rcases (show j = 0 ∨ j = 1 ∨ j = 2 ∨ j = 3 ∨ j = 4 ∨ j = 5 ∨ j = 6 ∨ j = 7 ∨ j = 8 by omega) with rfl | rfl | rfl | rfl | rfl | rfl | rfl | rfl | rfl <;> rfl) (Nat.le_of_ble_eq_true rfl) (Nat.le_of_ble_eq_true rfl) dL_law_0 (fun qv H hP hD hS => ?_)
  have hP : va_P D vwCl [(qv, .inr (7, [.null, .null, .null, .null, .null, .null, .null, .null, .null]))] H := hP
  have hD : va_D (fun q : Nat => s.heap.size ≤ q) [(qv, .inr (7, [.null, .null, .null, .null, .null, .null, .null, .null, .null]))] := hD
  refine lv_dup hx hb dL_law_3 rfl ?_
  have hPn := hP
  have hDn := hD
  have hFc : ∀ a, va_A [(qv, .inr (7, [.null, .null, .null, .null, .null, .null, .null, .null, .null]))] H.size a → s.heap.size ≤ a := fun a h => h.elim (fun ⟨k, e, hk⟩ => hDn.2 k _ hk) (fun h => Nat.le_trans hS.1 h)
  refine va_callv (va_runI (As := []) (rest := [.ref qv]) ⟨hx, hb, hml, hown, htb⟩ (kiX7_init l D qv H.size) ⟨tb_CB htb kX7_init tb_114 ⟨Nat.le_of_ble_eq_true rfl, Nat.le_of_ble_eq_true rfl⟩, rfl, htb _ tb_115⟩ ⟨fun a U g mk q => by obtain ⟨q0, q1, qP, qK, qD⟩ := q; exact ⟨q0, q1, qP, va_K.moved (u := U) (U := U.calling g mk a) (Vm.Alike.refl U.vm) qK, qD⟩, fun U hU hW => ⟨rfl, by rw [hU], by rw [hU]; exact hPn, va_K.moved hW.alike ⟨hK.1, fun k q h => by simp at h⟩, hDn.weaken (fun _ _ _ _ => trivial)⟩⟩ rfl rfl hl.1 rfl (lv_room (Nat.le_of_ble_eq_true rfl)) dL_law_4 ⟨Nat.le_of_ble_eq_true rfl, Nat.le_of_ble_eq_true rfl⟩) hS (fun a _ h => hFc a h) hFc (fun u t H1 locs1 ht hvm hw hB hz1 hk1 hS => ?_)
  obtain ⟨cx, qx, eqx, hPx, hKx, hDx0⟩ := gX7 hB
  rw [ht] at hPx
  have hKx := va_K.moved hvm.symm hKx
  obtain ⟨hDx, hxA0, hxK⟩ := wdA_of2 (N := 36) (q := qx) hDx0 (xw_len _ _ _) (xw_key _ _ _)
  have hxA : ∀ a, wdA 36 qx a → s.heap.size ≤ a := fun a h => hFc a (hxA0 a h)
  have hDxs : va_D (fun q : Nat => s.heap.size ≤ q) (xw cx qx xs0) := ⟨hDx.1, fun k q hk => hxA _ (hDx.2 k q hk)⟩
  subst eqx
  refine lv_astore_n (lv' := [(1, .ref (qx 0)), (0, .ref b)]) hx hb dL_law_7 rfl hl (by decide) rfl (fun ls hl => ?_)
  clear hP hD hK hPn hDn hFc
  have hK := hKx
  have hP := hPx
  have hD := hDxs
  generalize H1 = H at hP hPx hS ⊢
  refine va_new (ci := 8) (fs := [.int 0, .null, .null, .null, .null, .null, .null, .null, .null, .null, .null, .null, .int 0, .null, .int 0, .int 0, .int 0, .int 0, .int 0, .int 0, .int 0, .int 0, .int 0, .int 0, .null, .int 0, .null, .null, .int 0, .int 0, .int 0, .null, .null, .int 0, .int 0, .int 0, .int 0, .null, .null, .int 0, .null, .null, .null, .null, .null, .null, .null, .int 0, .int 0, .int 0, .int 0, .int 0, .int 0, .null, .null, .null, .null]) (C := RX8) (T := TX8) (N := 57) hx hb htb inX8 tyX8 tyX8_ok hown (htb _ tb_1175) (htb _ tb_1176) (htb _ tb_99) hK hP hD hS hA rfl (fun j hj => by rcases (show j = 0 ∨ j = 1 ∨ j = 2 ∨ j = 3 ∨ j = 4 ∨ j = 5 ∨ j = 6 ∨ j = 7 ∨ j = 8 ∨ j = 9 ∨ j = 10 ∨ j = 11 ∨ j = 12 ∨ j = 13 ∨ j = 14 ∨ j = 15 ∨ j = 16 ∨ j = 17 ∨ j = 18 ∨ j = 19 ∨ j = 20 ∨ j = 21 ∨ j = 22 ∨ j = 23 ∨ j = 24 ∨ j = 25 ∨ j = 26 ∨ j = 27 ∨ j = 28 ∨ j = 29 ∨ j = 30 ∨ j = 31 ∨ j = 32 ∨ j = 33 ∨ j = 34 ∨ j = 35 ∨ j = 36 ∨ j = 37 ∨ j = 38 ∨ j = 39 ∨ j = 40 ∨ j = 41 ∨ j = 42 ∨ j = 43 ∨ j = 44 ∨ j = 45 ∨ j = 46 ∨ j = 47 ∨ j = 48 ∨ j = 49 ∨ j = 50 ∨ j = 51 ∨ j = 52 ∨ j = 53 ∨ j = 54 ∨ j = 55 ∨ j = 56 by omega) with rfl | rfl | rfl | rfl | rfl | rfl | rfl | rfl | rfl | rfl | rfl | rfl | rfl | rfl | rfl | rfl | rfl | rfl | rfl | rfl | rfl | rfl | rfl | rfl | rfl | rfl | rfl | rfl | rfl | rfl | rfl | rfl | rfl | rfl | rfl | rfl | rfl | rfl | rfl | rfl | rfl | rfl | rfl | rfl | rfl | rfl | rfl | rfl | rfl | rfl | rfl | rfl | rfl | rfl | rfl | rfl | rfl <;> rfl) (Nat.le_of_ble_eq_true rfl) (Nat.le_of_ble_eq_true rfl) dL_law_8 (fun qw H hP hD hS => ?_)
  have hP : va_P D vwCl (xw cx qx xs0 ++ [(qw, .inr (8, [.int 0, .null, .null, .null, .null, .null, .null, .null, .null, .null, .null, .null, .int 0, .null, .int 0, .int 0, .int 0, .int 0, .int 0, .int 0, .int 0, .int 0, .int 0, .int 0, .null, .int 0, .null, .null, .int 0, .int 0, .int 0, .null, .null, .int 0, .int 0, .int 0, .int 0, .null, .null, .int 0, .null, .null, .null, .null, .null, .null, .null, .int 0, .int 0, .int 0, .int 0, .int 0, .int 0, .null, .null, .null, .null]))]) H := hP
  have hD : va_D (fun q : Nat => s.heap.size ≤ q) (xw cx qx xs0 ++ [(qw, .inr (8, [.int 0, .null, .null, .null, .null, .null, .null, .null, .null, .null, .null, .null, .int 0, .null, .int 0, .int 0, .int 0, .int 0, .int 0, .int 0, .int 0, .int 0, .int 0, .int 0, .null, .int 0, .null, .null, .int 0, .int 0, .int 0, .null, .null, .int 0, .int 0, .int 0, .int 0, .null, .null, .int 0, .null, .null, .null, .null, .null, .null, .null, .int 0, .int 0, .int 0, .int 0, .int 0, .int 0, .null, .null, .null, .null]))]) := hD
  refine lv_dup hx hb dL_law_11 rfl ?_
  have hPx := va_P_l hP
  have hPn : va_P D vwCl [(qw, .inr (8, [.int 0, .null, .null, .null, .null, .null, .null, .null, .null, .null, .null, .null, .int 0, .null, .int 0, .int 0, .int 0, .int 0, .int 0, .int 0, .int 0, .int 0, .int 0, .int 0, .null, .int 0, .null, .null, .int 0, .int 0, .int 0, .null, .null, .int 0, .int 0, .int 0, .int 0, .null, .null, .int 0, .null, .null, .null, .null, .null, .null, .null, .int 0, .int 0, .int 0, .int 0, .int 0, .int 0, .null, .null, .null, .null]))] H := va_P_r hP
  have hDn : va_D (fun q : Nat => s.heap.size ≤ q) [(qw, .inr (8, [.int 0, .null, .null, .null, .null, .null, .null, .null, .null, .null, .null, .null, .int 0, .null, .int 0, .int 0, .int 0, .int 0, .int 0, .int 0, .int 0, .int 0, .int 0, .int 0, .null, .int 0, .null, .null, .int 0, .int 0, .int 0, .null, .null, .int 0, .int 0, .int 0, .int 0, .null, .null, .int 0, .null, .null, .null, .null, .null, .null, .null, .int 0, .int 0, .int 0, .int 0, .int 0, .int 0, .null, .null, .null, .null]))] := ⟨fun i j p q hi hj _ => by have a1 := (List.getElem?_eq_some_iff.mp hi).1; have a2 := (List.getElem?_eq_some_iff.mp hj).1; simp at a1 a2; omega, fun k q hk => hD.2 (36 + k) q (by rw [List.getElem?_append_right (by rw [xw_len]; omega), xw_len, Nat.add_sub_cancel_left]; exact hk)⟩
  have hlx : (xw cx qx xs0).length = 36 := xw_len _ _ _
  have hqx : ∀ a, wdA 36 qx a → a ≠ qw := by
    intro a ha h9
    obtain ⟨k, x, h1, h2⟩ := hxK a ha
    have hlt := (List.getElem?_eq_some_iff.mp h1).1
    have h3 := hD.1 k 36 x _ (by rw [List.getElem?_append_left hlt]; exact h1) (by rw [List.getElem?_append_right (by rw [hlx]; exact Nat.le_refl _), hlx]; rfl) (by rw [h2, h9])
    omega
  have hxlt : ∀ a, wdA 36 qx a → a < H.size := by
    intro a ha
    obtain ⟨k, x, h1, h2⟩ := hxK a ha
    rw [← h2]; exact (hPx k x h1).lt
  have hFc : ∀ a, va_A [(qw, .inr (8, [.int 0, .null, .null, .null, .null, .null, .null, .null, .null, .null, .null, .null, .int 0, .null, .int 0, .int 0, .int 0, .int 0, .int 0, .int 0, .int 0, .int 0, .int 0, .int 0, .null, .int 0, .null, .null, .int 0, .int 0, .int 0, .null, .null, .int 0, .int 0, .int 0, .int 0, .null, .null, .int 0, .null, .null, .null, .null, .null, .null, .null, .int 0, .int 0, .int 0, .int 0, .int 0, .int 0, .null, .null, .null, .null]))] H.size a → s.heap.size ≤ a := fun a h => h.elim (fun ⟨k, e, hk⟩ => hDn.2 k _ hk) (fun h => Nat.le_trans hS.1 h)
  refine va_callv (va_runI (As := []) (rest := [.ref qw]) ⟨hx, hb, hml, hown, htb⟩ (kiX8_init l D qw H.size) ⟨tb_CB htb kX8_init tb_1177 ⟨Nat.le_of_ble_eq_true rfl, Nat.le_of_ble_eq_true rfl⟩, rfl, htb _ tb_1178⟩ ⟨fun a U g mk q => by obtain ⟨q0, q1, qP, qK, qD⟩ := q; exact ⟨q0, q1, qP, va_K.moved (u := U) (U := U.calling g mk a) (Vm.Alike.refl U.vm) qK, qD⟩, fun U hU hW => ⟨rfl, by rw [hU], by rw [hU]; exact hPn, va_K.moved hW.alike ⟨hK.1, fun k q h => by simp at h⟩, hDn.weaken (fun _ _ _ _ => trivial)⟩⟩ rfl rfl hl.1 rfl (lv_room (Nat.le_of_ble_eq_true rfl)) dL_law_12 ⟨Nat.le_of_ble_eq_true rfl, Nat.le_of_ble_eq_true rfl⟩) hS (fun a _ h => hFc a h) hFc (fun u t H1 locs1 ht hvm hw hB hz1 hk1 hS => ?_)
  obtain ⟨cm, qm, eqm, hPm, hKm, hDm0⟩ := gX8 hB
  rw [ht] at hPm
  have hKm := va_K.moved hvm.symm hKm
  have hmiss : ∀ a, wdA 36 qx a → ¬ va_A [(qw, .inr (8, [.int 0, .null, .null, .null, .null, .null, .null, .null, .null, .null, .null, .null, .int 0, .null, .int 0, .int 0, .int 0, .int 0, .int 0, .int 0, .int 0, .int 0, .int 0, .int 0, .null, .int 0, .null, .null, .int 0, .int 0, .int 0, .null, .null, .int 0, .int 0, .int 0, .int 0, .null, .null, .int 0, .null, .null, .null, .null, .null, .null, .null, .int 0, .int 0, .int 0, .int 0, .int 0, .int 0, .null, .null, .null, .null]))] H.size a := fun a h1 h2 => (va_A_one h2).elim (hqx a h1) (fun h3 => absurd (hxlt a h1) (Nat.not_lt.mpr h3))
  have hPx := va_keep hPx hDx hmiss hk1
  obtain ⟨hDm, hmA0, hmK⟩ := wdA_of2 (N := 31) (q := qm) hDm0 (mw_len _ _ _) (mw_key _ _ _)
  have hmA : ∀ a, wdA 31 qm a → s.heap.size ≤ a := fun a h => hFc a (hmA0 a h)
  have hmx : ∀ a, wdA 31 qm a → ¬ wdA 36 qx a := fun a h1 h2 => hmiss a h2 (hmA0 a h1)
  clear hP hD hPn hDn hqx hmiss hmA0 hDm0 hB hk1
  clear hFc
  subst eqm
  refine lv_astore_n (lv' := [(2, .ref (qm 0)), (1, .ref (qx 0)), (0, .ref b)]) hx hb dL_law_15 rfl hl (by decide) rfl (fun ls hl => ?_)
  refine lv_iconst (v := (1 : Int32)) hx hb dL_law_16 (by decide) ?_
  have hPP : va_P D vwCl (xw cx qx xs0 ++ mw cm qm ms0) H1 := hPx.app hPm
  have hDD : va_D (fun q : Nat => s.heap.size ≤ q) (xw cx qx xs0 ++ mw cm qm ms0) := by
    have h9 := hl_D hDx hDm (fun a h1 h2 => hmx a h2 h1)
    exact ⟨h9.1, fun k q hk => (h9.2 k q hk).elim (hxA _) (hmA _)⟩
  have hKK : va_K D vwCl (xwT cx ++ mwT cm) s := hKx.app hKm
  refine va_newa (atype := .long) (a0 := (1, .inr (.inl (fun _ => 0)))) hx hb (htb _ tb_278) (ty := .long) rfl hKK hPP hDD hS hA (fun _ => rfl) (by decide) (N' := 1) (by decide) (by decide) (Nat.le_of_ble_eq_true rfl) (Nat.le_of_ble_eq_true rfl) dL_law_17 (fun o co H hK hP hD hS => ?_)
  have hP : va_P D vwCl ((xw cx qx xs0 ++ mw cm qm ms0) ++ [(o, va_E_long co)]) H := hP
  have hD : va_D (fun q : Nat => s.heap.size ≤ q) ((xw cx qx xs0 ++ mw cm qm ms0) ++ [(o, va_E_long co)]) := hD
  have hPx := va_P_l (va_P_l hP)
  have hPm := va_P_r (va_P_l hP)
  have hPo : va_P D vwCl (hlO co o (fun _ => 0)) H := va_P_r hP
  have hKo : va_K D vwCl [(co, .long)] s := ⟨hK.1, fun k q hk => hK.2 (56 + k) q (by rw [List.getElem?_append_right (by rw [xmT_len]; omega), xmT_len, Nat.add_sub_cancel_left]; exact hk)⟩
  have hl2 : (xw cx qx xs0 ++ mw cm qm ms0).length = 67 := xm_len _ _ _ _ _ _
  have h67 : ((xw cx qx xs0 ++ mw cm qm ms0) ++ [(o, va_E_long co)])[67]? = some (o, va_E_long co) := by rw [List.getElem?_append_right (by rw [hl2]; exact Nat.le_refl _), hl2]; rfl
  have hoD : ∀ (k : Nat) (x : Nat × va_E), (xw cx qx xs0 ++ mw cm qm ms0)[k]? = some x → x.1 ≠ o := by
    intro k x hk h9
    have hlt := (List.getElem?_eq_some_iff.mp hk).1
    have h3 := hD.1 k 67 x _ (by rw [List.getElem?_append_left hlt]; exact hk) h67 h9
    omega
  have hox : ¬ wdA 36 qx o := by
    intro ha
    obtain ⟨k, x, h1, h2⟩ := hxK o ha
    exact hoD k x (by rw [List.getElem?_append_left (List.getElem?_eq_some_iff.mp h1).1]; exact h1) h2
  have hom : ¬ wdA 31 qm o := by
    intro ha
    obtain ⟨k, x, h1, h2⟩ := hmK o ha
    exact hoD (36 + k) x (by rw [List.getElem?_append_right (by rw [hlx]; omega), hlx, Nat.add_sub_cancel_left]; exact h1) h2
  have hoS : s.heap.size ≤ o := hD.2 67 _ h67
  refine lv_astore_n (lv' := [(3, .ref o), (2, .ref (qm 0)), (1, .ref (qx 0)), (0, .ref b)]) hx hb dL_law_19 rfl hl (by decide) rfl (fun ls hl => ?_)
  refine lv_iconst (v := (0 : Int32)) hx hb dL_law_20 (by decide) ?_
  refine lv_istore (lv' := [(4, .int (0 : Int32)), (3, .ref o), (2, .ref (qm 0)), (1, .ref (qx 0)), (0, .ref b)]) hx hb dL_law_21 hl (by decide) rfl (fun ls hl => ?_)
  have hsS : lwS s D cx qx cm qm co o (exX (wdA 36 qx) tF adK adV) (evS (wdA 31 qm) adK adV) tF adK adV :=
    ⟨⟨hKx, hKm, hKo⟩, ⟨fun σ => xw_D hDx, fun σ => mw_D hDm⟩, ⟨hox, hmx, hom⟩, ⟨hxA, hmA, hoS⟩, ⟨exX_ok, hEnv _ hxA, exM_ok, (hEnv _ hmA).2.2⟩, fun U H h => h.1, fun U H h => h.2.1, fun U H h => h.2.2, fun U H h => h⟩
  exact law_loop hL C0 hst hsS R hRm O0 O1 O2 O3 O4 O5 O6 O7 O8 O9 O10 O11 O12 O13 O14 O15 O16 O17 O18 O19 O20 O21 O22 O23 O24 O25 O26 O27 O28 O29 O30 O31 O32 (L + 7) 0 0 xs0 ms0 (fun _ => 0) _ _ H _ ls (Nat.zero_le _) (by omega) nI_0.symm (by constructor <;> (show (_ : Nat) ≤ _) <;> omega) hR0 hPx hPm hPo hS (lv_sub hl [4, 3, 2, 1, 0] rfl)
