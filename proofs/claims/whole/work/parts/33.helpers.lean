/-! The law's own methods that catch: x's world and the row out -/
def hlA (q : Nat → Nat) (o : Nat) : Nat → Prop := fun a => wdA 36 q a ∨ a = o
def hlO (co : ClassId) (o : Nat) (f : Nat → Int64) : va_W := [(o, .inl (co, 1, .inr (.inl f)))]
def hlPc (D : va_G) (c : Nat → ClassId) (q : Nat → Nat) (co : ClassId) (o : Nat) (ev : State → Heap → Prop) (σ : hsS) (f : Nat → Int64) (av : List Value) : Array Value → State → Prop :=
  va_Pc av (fun U => va_P D vwCl (xw c q σ) U.heap ∧ va_P D vwCl (hlO co o f) U.heap ∧ va_K D vwCl (xwT c) U ∧ va_K D vwCl [(co, .long)] U ∧ va_D (wdA 36 q) (xw c q σ) ∧ ¬ wdA 36 q o ∧ ev U U.heap)
def hlB (D : va_G) (c : Nat → ClassId) (q : Nat → Nat) (co : ClassId) (o : Nat) (u : hsS × (Nat → Int64)) (t : State) : Prop := va_P D vwCl (xw c q u.1) t.heap ∧ va_P D vwCl (hlO co o u.2) t.heap
theorem va_P_l {D : va_G} {cl : List vw_C} {w1 w2 : va_W} {H : Heap} (h : va_P D cl (w1 ++ w2) H) : va_P D cl w1 H := fun k q hk => h k q (by
  have hlt : k < w1.length := (List.getElem?_eq_some_iff.mp hk).1
  rw [List.getElem?_append_left hlt]; exact hk)
theorem va_P_r {D : va_G} {cl : List vw_C} {w1 w2 : va_W} {H : Heap} (h : va_P D cl (w1 ++ w2) H) : va_P D cl w2 H := fun k q hk => h (w1.length + k) q (by
  rw [List.getElem?_append_right (Nat.le_add_right _ _), Nat.add_sub_cancel_left]; exact hk)
section HL
variable {p : Program} {l : Launch} {e : Env} {R : Room} {s : State} {m : MethodId} {args : Array Value} {below : List Frame} {meth : Method} {c₀ : Code} {H : Heap} {locs : List Loc} {cells slots : Nat} {Q : State → Prop} {cc : ByteArray} {ls : Array Slot} {rest : List Value} {pc : Nat}
variable {D : va_G} {c : Nat → ClassId} {q : Nat → Nat} {co : ClassId} {o : Nat} {ev : State → Heap → Prop} {σ : hsS} {f : Nat → Int64}
theorem xm_ofWH {y : MethodName} {ws ws' : List Cond} {rm : Room} {Pc : Array Value → State → Prop} {Qc : Array Value → State → Outcome → State → Prop} {mc ms : Nat} {free : Addr → Prop} {maxL : Nat} {ret : Option FieldType} {hh : List (Nat × Nat × Nat × Nat)}
    (hy : plainName y.cls = true) (hw : ws = Cond.codeWith y cc maxL ret hh :: ws')
    (body : ∀ p e s m args below meth c s₁, BodyLoose p l y (headSpec ws rm) cc maxL ret e s m args below meth c s₁ → c.maxLocals = maxL → Pc args s →
      W p l e (headSpec ws rm).room s m args below meth c s.heap [] 0 0 (MQ below Qc args s mc ms free) (entryFrame m args maxL)) : Met l y ws rm Pc Qc mc ms free := by
  refine MetFree.of_bodyS (code := cc) (maxLocals := maxL) (ret := ret) hy ?_ ?_
  · intro args s m h hn
    obtain ⟨m9, meth, c, hn9, h1, h2, h3, h4, -, h5, h6, -⟩ := Cond.codeWith_spec (atoms_spec (ws := ws) h _ (by rw [hw]; exact List.mem_cons_self))
    cases hn.symm.trans hn9
    exact ⟨meth, c, h1, h2, h3, h4, h5, h6⟩
  · intro p e s m args below meth c s₁ B hml hP _
    have hh0 : s₁.heap = s.heap := by rw [B.state]; rfl
    obtain ⟨t, a1, o, b1, b2, b3⟩ := body p e s m args below meth c s₁ B hml hP s₁ hh0 (Stand.of_body B)
    exact ⟨t, o, a1, b1, b2, ⟨b3.1, b3.2⟩⟩
theorem hl_D {w1 w2 : va_W} {A1 A2 : Nat → Prop} (h1 : va_D A1 w1) (h2 : va_D A2 w2) (hd : ∀ a, A1 a → ¬ A2 a) : va_D (fun a => A1 a ∨ A2 a) (w1 ++ w2) := by
  have key : ∀ (k : Nat) (x : Nat × va_E), (w1 ++ w2)[k]? = some x → (k < w1.length ∧ w1[k]? = some x) ∨ (w1.length ≤ k ∧ w2[k - w1.length]? = some x) := by
    intro k x hk
    rcases Nat.lt_or_ge k w1.length with hlt | hge
    · rw [List.getElem?_append_left hlt] at hk; exact Or.inl ⟨hlt, hk⟩
    · rw [List.getElem?_append_right hge] at hk; exact Or.inr ⟨hge, hk⟩
  refine ⟨fun i j x y hi hj hxy => ?_, fun k x hk => ?_⟩
  · rcases key i x hi with ⟨a1, a2⟩ | ⟨a1, a2⟩ <;> rcases key j y hj with ⟨b1, b2⟩ | ⟨b1, b2⟩
    · exact h1.1 i j x y a2 b2 hxy
    · exact absurd (hxy ▸ h2.2 _ _ b2) (hd _ (h1.2 _ _ a2))
    · exact absurd (hxy ▸ h2.2 _ _ a2) (hd _ (h1.2 _ _ b2))
    · have := h2.1 _ _ x y a2 b2 hxy; omega
  · rcases key k x hk with ⟨a1, a2⟩ | ⟨a1, a2⟩
    · exact Or.inl (h1.2 _ _ a2)
    · exact Or.inr (h2.2 _ _ a2)
theorem hlO_D : va_D (fun a => a = o) (hlO co o f) := by
  refine ⟨fun i j x y hi hj _ => ?_, fun k x hk => ?_⟩
  · have a := (List.getElem?_eq_some_iff.mp hi).1
    have b := (List.getElem?_eq_some_iff.mp hj).1
    simp [hlO] at a b
    omega
  · match k, hk with
    | 0, hk => cases hk; rfl
    | k + 1, hk => simp [hlO] at hk
/-- the answer goes into the row out -/
theorem hl_last (hx : p.tables.exec = Jvm.exec) (hb : c₀.code = cc) (hK : va_K D vwCl (xwT c) s) (hKo : va_K D vwCl [(co, .long)] s) (hPx : va_P D vwCl (xw c q σ) H) (hPo : va_P D vwCl (hlO co o f) H) (hD : va_D (wdA 36 q) (xw c q σ)) (ho : ¬ wdA 36 q o) (hS : va_S (hlA q o) s.heap H locs) {x : Int64} (hdg : decode cc pc = .ok (.lastore, 1))
    (kk : ∀ (H1 : Heap) (locs1 : List Loc), va_P D vwCl (xw c q σ) H1 → va_P D vwCl (hlO co o (vp_updL f 0 x)) H1 → va_S (hlA q o) s.heap H1 locs1 → W p l e R s m args below meth c₀ H1 locs1 cells slots Q (F0 m (pc + 1) ls rest)) :
    W p l e R s m args below meth c₀ H locs cells slots Q (F0 m pc ls (.long x :: .int 0 :: .ref o :: rest)) := by
  have hP : va_P D vwCl (xw c q σ ++ hlO co o f) H := hPx.app hPo
  have hDD : va_D (hlA q o) (xw c q σ ++ hlO co o f) := hl_D hD hlO_D (fun a ha h => ho (h ▸ ha))
  have hKK : va_K D vwCl (xwT c ++ [(co, .long)]) s := hK.app hKo
  refine va_last hx hb hKK hP hDD hS 36 26 rfl rfl (by unfold vp_in; decide) hdg (fun H locs hP hD hS => ?_)
  have hP : va_P D vwCl (xw c q σ ++ hlO co o (vp_updL f 0 x)) H := hP
  exact kk H locs (va_P_l hP) (va_P_r hP) hS
theorem hl_pre (hev : evOK (wdA 36 q) ev) (hK : va_K D vwCl (xwT c) s) (hP : va_P D vwCl (xw c q σ) H) (hD : va_D (wdA 36 q) (xw c q σ)) (hE : ev s s.heap) (hk : ∀ a : Nat, a < s.heap.size → ¬ wdA 36 q a → H[a]? = s.heap[a]?) {As : List Value} :
    PreV s H "StrikeHall" (q 0) (wdPc D (xw c q) (xwT c) (wdA 36 q) ev σ (.ref (q 0) :: As)) As := ⟨wd_blind hev, va_recv hK hP (ci := 7) rfl (xw_0 c q σ), fun U hU hW =>
  ⟨rfl, by rw [hU]; exact hP, va_K.moved hW.alike hK, hD, by rw [hU]; exact hev.2 s U H hE hW hU hk⟩⟩
end HL
theorem tb_631 : Cond.codeWith ⟨"StrikeHallLaw", "hall", "(LStrikeHall;I[J)I"⟩ method_3_code 4 (some .int) [(0, 9, 12, 13)] ∈ tb_L := tb_mem 631 (by decide +kernel) rfl
set_option maxHeartbeats 4000000 in
set_option maxRecDepth 100000 in
theorem khL_hall (l : Launch) (D : va_G) (c : Nat → ClassId) (q : Nat → Nat) (ev : State → Heap → Prop) (hev : evOK (wdA 36 q) ev) (adK adV : Nat → Nat) (hZ : ∀ (U : State) (H : Heap), ev U H → evS (wdA 36 q) adK adV U H) (hst : l.stackTraces = false) (hX : ∀ (U : State) (H : Heap), ev U H → evT (wdA 36 q) U H) (co : ClassId) (o : Nat) (σ : hsS) (f : Nat → Int64) (x1 : Int32) (post : Int32 → hsS × (Nat → Int64) → Prop) (hw : wX7_hall x1 (fun r σ1 => post 0 (σ1, vp_updL f 0 (r.toInt64))) (fun σ1 => post 1 (σ1, f)) σ) : Met l yL_hall (Cond.codeWith yL_hall cL_hall 4 (some .int) [(0, 9, 12, 13)] :: tb_L) ({ frames := 10, cells := 1, slots := 6, locals := 218 }) (hlPc D c q co o ev σ f [.ref (q 0), .int x1, .ref o]) (va_Qi post (hlB D c q co o) (hlA q o)) 1 6 (hlA q o) := by
  refine xm_ofWH (cc := cL_hall) (maxL := 4) (ret := (some .int)) (hh := [(0, 9, 12, 13)]) (by decide) rfl ?_
  intro p e s m args below meth c₀ s₁ Bd hml hv
  obtain ⟨rfl, hP, hPo, hK, hKo, hD, ho, hE⟩ := hv
  have hx := Bd.exec
  have hb := Bd.bytes
  have hr := Bd.returns
  have hts := atoms_spec (ws := Cond.codeWith yL_hall cL_hall 4 (some .int) [(0, 9, 12, 13)] :: tb_L) Bd.pre
  have htab := vx_table (x := yL_hall) Bd (hts _ List.mem_cons_self)
  have htb : ∀ w ∈ tb_L, w.before [.ref (q 0), .int x1, .ref o].toArray s = true := fun w h => hts w (List.mem_cons_of_mem _ h)
  have hown : s.vm.findClass RL = some m.cls := findClass_of_methodNamed Bd.named
  have hlocks := Bd.notSynchronized
  have hS : va_S (hlA q o) s.heap s.heap [] := va_S.rf
  have hl := lv_entry ([.ref (q 0), .int x1, .ref o]) (n := 4) (Nat.le_of_ble_eq_true rfl)
  rw [lg_entry_eq]
  generalize (lg_sl ([.ref (q 0), .int x1, .ref o]) ++ List.replicate (4 - (lg_sl ([.ref (q 0), .int x1, .ref o])).length) Slot.unset).toArray = ls at hl ⊢
  have hl : lv_has ls 4 [(0, .ref (q 0)), (1, .int x1), (2, .ref o)] := hl
  refine lv_aload_n hx hb dL_hall_0 rfl (lv_at hl 2 rfl) ?_
  refine lv_iconst (v := (0 : Int32)) hx hb dL_hall_1 (by decide) ?_
  refine lv_aload_n hx hb dL_hall_2 rfl (lv_at hl 0 rfl) ?_
  refine lv_iload_n hx hb dL_hall_3 rfl (lv_at hl 1 rfl) ?_
  refine vx_calli (vx_runV (As := [.int x1]) (rest := [.int (0 : Int32), .ref o]) ⟨hx, hb, hml, hown, htb⟩ (kcX7_hall l D c q ev hev adK adV hZ hst hX σ x1 _ _ hw) (tb_CW htb kX7_hall tb_633 tb_634 tb_635 ⟨Nat.le_of_ble_eq_true rfl, Nat.le_of_ble_eq_true rfl⟩) (hl_pre hev hK hP hD hE (fun _ _ _ => rfl)) rfl rfl hl.1 rfl (lv_room (Nat.le_of_ble_eq_true rfl)) dL_hall_4 ⟨Nat.le_of_ble_eq_true rfl, Nat.le_of_ble_eq_true rfl⟩) hS (fun a _ h => Or.inl h) (fun a h => Or.inl h) (fun a _ h => Or.inl h) (fun E9 ce9 q9 σx t H1 locs1 ht hvm hpx hBX hz1 hk1 hS hce hcv hcl => ?_) (fun r σ1 t H1 locs1 ht hvm hw hB hz1 hk1 hS => ?_)
  · obtain ⟨rfl, hPx⟩ := hBX
    have hPx : va_P D vwCl (xw c q σx) H1 := ht ▸ hPx
    have hPo : va_P D vwCl (hlO co o f) H1 := hPo.kept (fun k z hz => hk1 z.1 ((hPo k z hz).lt) (by match k, hz with | 0, hz => cases hz; exact ho | k + 1, hz => simp [hlO] at hz))
    refine xc_catch (own := "StrikeHallLaw") (name := "java/lang/IllegalArgumentException") hown ⟨0, 9, 12, 13⟩ htab rfl (by decide) (htb _ tb_632) (tb_useF (hX s s.heap hE).2.2.1 _ tbF_639) hce hcv hcl ?_
    refine lv_astore_n (lv' := [(3, .ref q9), (0, .ref (q 0)), (1, .int x1), (2, .ref o)]) hx hb dL_hall_12 rfl hl (by decide) rfl (fun ls hl => ?_)
    refine lv_iconst (v := (1 : Int32)) hx hb dL_hall_13 (by decide) ?_
    exact W.iret hx hb hr (fun t2 ht2 hW => ⟨⟨_, (σx, f), rfl, hpx, by rw [ht2]; exact hPx, by rw [ht2]; exact hPo⟩, hS.F ht2⟩) hS.2.2 dL_hall_14
  · have hP1 : va_P D vwCl (xw c q σ1) H1 := ht ▸ hB
    have hPo : va_P D vwCl (hlO co o f) H1 := hPo.kept (fun k z hz => hk1 z.1 ((hPo k z hz).lt) (by match k, hz with | 0, hz => cases hz; exact ho | k + 1, hz => simp [hlO] at hz))
    have hD1 : va_D (wdA 36 q) (xw c q σ1) := xw_D hD
    refine lv_i2l hx hb dL_hall_7 rfl ?_
    refine hl_last hx hb hK hKo hP1 hPo hD1 ho hS dL_hall_8 (fun H2 locs2 hP2 hPo2 hS => ?_)
    refine lv_goto (tgt := 15) hx hb dL_hall_9 (by decide) ?_
    refine lv_iconst (v := (0 : Int32)) hx hb dL_hall_15 (by decide) ?_
    exact W.iret hx hb hr (fun t2 ht2 hW => ⟨⟨_, (σ1, vp_updL f 0 (r.toInt64)), rfl, hw, by rw [ht2]; exact hP2, by rw [ht2]; exact hPo2⟩, hS.F ht2⟩) hS.2.2 dL_hall_16
theorem tb_877 : Cond.codeWith ⟨"StrikeHallLaw", "count", "(LStrikeHall;I[J)I"⟩ method_4_code 4 (some .int) [(0, 9, 12, 18)] ∈ tb_L := tb_mem 877 (by decide +kernel) rfl
set_option maxHeartbeats 4000000 in
set_option maxRecDepth 100000 in
theorem khL_count (l : Launch) (D : va_G) (c : Nat → ClassId) (q : Nat → Nat) (ev : State → Heap → Prop) (hev : evOK (wdA 36 q) ev) (hst : l.stackTraces = false) (hX : ∀ (U : State) (H : Heap), ev U H → evT (wdA 36 q) U H) (co : ClassId) (o : Nat) (σ : hsS) (f : Nat → Int64) (x1 : Int32) (post : Int32 → hsS × (Nat → Int64) → Prop) (hw : wX7_count x1 (fun r σ1 => post 0 (σ1, vp_updL f 0 (r.toInt64))) (fun σ1 => post 1 (σ1, f)) σ) : Met l yL_count (Cond.codeWith yL_count cL_count 4 (some .int) [(0, 9, 12, 18)] :: tb_L) ({ frames := 9, cells := 1, slots := 6, locals := 149 }) (hlPc D c q co o ev σ f [.ref (q 0), .int x1, .ref o]) (va_Qi post (hlB D c q co o) (hlA q o)) 1 6 (hlA q o) := by
  refine xm_ofWH (cc := cL_count) (maxL := 4) (ret := (some .int)) (hh := [(0, 9, 12, 18)]) (by decide) rfl ?_
  intro p e s m args below meth c₀ s₁ Bd hml hv
  obtain ⟨rfl, hP, hPo, hK, hKo, hD, ho, hE⟩ := hv
  have hx := Bd.exec
  have hb := Bd.bytes
  have hr := Bd.returns
  have hts := atoms_spec (ws := Cond.codeWith yL_count cL_count 4 (some .int) [(0, 9, 12, 18)] :: tb_L) Bd.pre
  have htab := vx_table (x := yL_count) Bd (hts _ List.mem_cons_self)
  have htb : ∀ w ∈ tb_L, w.before [.ref (q 0), .int x1, .ref o].toArray s = true := fun w h => hts w (List.mem_cons_of_mem _ h)
  have hown : s.vm.findClass RL = some m.cls := findClass_of_methodNamed Bd.named
  have hlocks := Bd.notSynchronized
  have hS : va_S (hlA q o) s.heap s.heap [] := va_S.rf
  have hl := lv_entry ([.ref (q 0), .int x1, .ref o]) (n := 4) (Nat.le_of_ble_eq_true rfl)
  rw [lg_entry_eq]
  generalize (lg_sl ([.ref (q 0), .int x1, .ref o]) ++ List.replicate (4 - (lg_sl ([.ref (q 0), .int x1, .ref o])).length) Slot.unset).toArray = ls at hl ⊢
  have hl : lv_has ls 4 [(0, .ref (q 0)), (1, .int x1), (2, .ref o)] := hl
  refine lv_aload_n hx hb dL_count_0 rfl (lv_at hl 2 rfl) ?_
  refine lv_iconst (v := (0 : Int32)) hx hb dL_count_1 (by decide) ?_
  refine lv_aload_n hx hb dL_count_2 rfl (lv_at hl 0 rfl) ?_
  refine lv_iload_n hx hb dL_count_3 rfl (lv_at hl 1 rfl) ?_
  refine vx_calli (vx_runV (As := [.int x1]) (rest := [.int (0 : Int32), .ref o]) ⟨hx, hb, hml, hown, htb⟩ (kcX7_count l D c q ev hev hst hX σ x1 _ _ hw) (tb_CW htb kX7_count tb_879 tb_880 tb_881 ⟨Nat.le_of_ble_eq_true rfl, Nat.le_of_ble_eq_true rfl⟩) (hl_pre hev hK hP hD hE (fun _ _ _ => rfl)) rfl rfl hl.1 rfl (lv_room (Nat.le_of_ble_eq_true rfl)) dL_count_4 ⟨Nat.le_of_ble_eq_true rfl, Nat.le_of_ble_eq_true rfl⟩) hS (fun a _ h => Or.inl h) (fun a h => Or.inl h) (fun a _ h => Or.inl h) (fun E9 ce9 q9 σx t H1 locs1 ht hvm hpx hBX hz1 hk1 hS hce hcv hcl => ?_) (fun r σ1 t H1 locs1 ht hvm hw hB hz1 hk1 hS => ?_)
  · obtain ⟨rfl, hPx⟩ := hBX
    have hPx : va_P D vwCl (xw c q σx) H1 := ht ▸ hPx
    have hPo : va_P D vwCl (hlO co o f) H1 := hPo.kept (fun k z hz => hk1 z.1 ((hPo k z hz).lt) (by match k, hz with | 0, hz => cases hz; exact ho | k + 1, hz => simp [hlO] at hz))
    refine xc_catch (own := "StrikeHallLaw") (name := "java/util/NoSuchElementException") hown ⟨0, 9, 12, 18⟩ htab rfl (by decide) (htb _ tb_878) (tb_useF (hX s s.heap hE).2.2.1 _ tbF_885) hce hcv hcl ?_
    refine lv_astore_n (lv' := [(3, .ref q9), (0, .ref (q 0)), (1, .int x1), (2, .ref o)]) hx hb dL_count_12 rfl hl (by decide) rfl (fun ls hl => ?_)
    refine lv_iconst (v := (1 : Int32)) hx hb dL_count_13 (by decide) ?_
    exact W.iret hx hb hr (fun t2 ht2 hW => ⟨⟨_, (σx, f), rfl, hpx, by rw [ht2]; exact hPx, by rw [ht2]; exact hPo⟩, hS.F ht2⟩) hS.2.2 dL_count_14
  · have hP1 : va_P D vwCl (xw c q σ1) H1 := ht ▸ hB
    have hPo : va_P D vwCl (hlO co o f) H1 := hPo.kept (fun k z hz => hk1 z.1 ((hPo k z hz).lt) (by match k, hz with | 0, hz => cases hz; exact ho | k + 1, hz => simp [hlO] at hz))
    have hD1 : va_D (wdA 36 q) (xw c q σ1) := xw_D hD
    refine lv_i2l hx hb dL_count_7 rfl ?_
    refine hl_last hx hb hK hKo hP1 hPo hD1 ho hS dL_count_8 (fun H2 locs2 hP2 hPo2 hS => ?_)
    refine lv_goto (tgt := 15) hx hb dL_count_9 (by decide) ?_
    refine lv_iconst (v := (0 : Int32)) hx hb dL_count_15 (by decide) ?_
    exact W.iret hx hb hr (fun t2 ht2 hW => ⟨⟨_, (σ1, vp_updL f 0 (r.toInt64)), rfl, hw, by rw [ht2]; exact hP2, by rw [ht2]; exact hPo2⟩, hS.F ht2⟩) hS.2.2 dL_count_16
theorem tb_901 : Cond.codeWith ⟨"StrikeHallLaw", "place", "(LStrikeHall;II[J)I"⟩ method_5_code 5 (some .int) [(0, 10, 13, 18)] ∈ tb_L := tb_mem 901 (by decide +kernel) rfl
set_option maxHeartbeats 4000000 in
set_option maxRecDepth 100000 in
theorem khL_place (l : Launch) (D : va_G) (c : Nat → ClassId) (q : Nat → Nat) (ev : State → Heap → Prop) (hev : evOK (wdA 36 q) ev) (hst : l.stackTraces = false) (hX : ∀ (U : State) (H : Heap), ev U H → evT (wdA 36 q) U H) (co : ClassId) (o : Nat) (σ : hsS) (f : Nat → Int64) (x1 : Int32) (x2 : Int32) (post : Int32 → hsS × (Nat → Int64) → Prop) (hw : wX7_place x1 x2 (fun r σ1 => post 0 (σ1, vp_updL f 0 (r.toInt64))) (fun σ1 => post 1 (σ1, f)) σ) : Met l yL_place (Cond.codeWith yL_place cL_place 5 (some .int) [(0, 10, 13, 18)] :: tb_L) ({ frames := 10, cells := 2, slots := 12, locals := 171 }) (hlPc D c q co o ev σ f [.ref (q 0), .int x1, .int x2, .ref o]) (va_Qi post (hlB D c q co o) (hlA q o)) 2 12 (hlA q o) := by
  refine xm_ofWH (cc := cL_place) (maxL := 5) (ret := (some .int)) (hh := [(0, 10, 13, 18)]) (by decide) rfl ?_
  intro p e s m args below meth c₀ s₁ Bd hml hv
  obtain ⟨rfl, hP, hPo, hK, hKo, hD, ho, hE⟩ := hv
  have hx := Bd.exec
  have hb := Bd.bytes
  have hr := Bd.returns
  have hts := atoms_spec (ws := Cond.codeWith yL_place cL_place 5 (some .int) [(0, 10, 13, 18)] :: tb_L) Bd.pre
  have htab := vx_table (x := yL_place) Bd (hts _ List.mem_cons_self)
  have htb : ∀ w ∈ tb_L, w.before [.ref (q 0), .int x1, .int x2, .ref o].toArray s = true := fun w h => hts w (List.mem_cons_of_mem _ h)
  have hown : s.vm.findClass RL = some m.cls := findClass_of_methodNamed Bd.named
  have hlocks := Bd.notSynchronized
  have hS : va_S (hlA q o) s.heap s.heap [] := va_S.rf
  have hl := lv_entry ([.ref (q 0), .int x1, .int x2, .ref o]) (n := 5) (Nat.le_of_ble_eq_true rfl)
  rw [lg_entry_eq]
  generalize (lg_sl ([.ref (q 0), .int x1, .int x2, .ref o]) ++ List.replicate (5 - (lg_sl ([.ref (q 0), .int x1, .int x2, .ref o])).length) Slot.unset).toArray = ls at hl ⊢
  have hl : lv_has ls 5 [(0, .ref (q 0)), (1, .int x1), (2, .int x2), (3, .ref o)] := hl
  refine lv_aload_n hx hb dL_place_0 rfl (lv_at hl 3 rfl) ?_
  refine lv_iconst (v := (0 : Int32)) hx hb dL_place_1 (by decide) ?_
  refine lv_aload_n hx hb dL_place_2 rfl (lv_at hl 0 rfl) ?_
  refine lv_iload_n hx hb dL_place_3 rfl (lv_at hl 1 rfl) ?_
  refine lv_iload_n hx hb dL_place_4 rfl (lv_at hl 2 rfl) ?_
  refine vx_calli (vx_runV (As := [.int x1, .int x2]) (rest := [.int (0 : Int32), .ref o]) ⟨hx, hb, hml, hown, htb⟩ (kcX7_place l D c q ev hev hst hX σ x1 x2 _ _ hw) (tb_CW htb kX7_place tb_902 tb_903 tb_904 ⟨Nat.le_of_ble_eq_true rfl, Nat.le_of_ble_eq_true rfl⟩) (hl_pre hev hK hP hD hE (fun _ _ _ => rfl)) rfl rfl hl.1 rfl (lv_room (Nat.le_of_ble_eq_true rfl)) dL_place_5 ⟨Nat.le_of_ble_eq_true rfl, Nat.le_of_ble_eq_true rfl⟩) hS (fun a _ h => Or.inl h) (fun a h => Or.inl h) (fun a _ h => Or.inl h) (fun E9 ce9 q9 σx t H1 locs1 ht hvm hpx hBX hz1 hk1 hS hce hcv hcl => ?_) (fun r σ1 t H1 locs1 ht hvm hw hB hz1 hk1 hS => ?_)
  · obtain ⟨rfl, hPx⟩ := hBX
    have hPx : va_P D vwCl (xw c q σx) H1 := ht ▸ hPx
    have hPo : va_P D vwCl (hlO co o f) H1 := hPo.kept (fun k z hz => hk1 z.1 ((hPo k z hz).lt) (by match k, hz with | 0, hz => cases hz; exact ho | k + 1, hz => simp [hlO] at hz))
    refine xc_catch (own := "StrikeHallLaw") (name := "java/util/NoSuchElementException") hown ⟨0, 10, 13, 18⟩ htab rfl (by decide) (htb _ tb_878) (tb_useF (hX s s.heap hE).2.2.1 _ tbF_885) hce hcv hcl ?_
    refine lv_astore (lv' := [(4, .ref q9), (0, .ref (q 0)), (1, .int x1), (2, .int x2), (3, .ref o)]) hx hb dL_place_13 hl (by decide) rfl (fun ls hl => ?_)
    refine lv_iconst (v := (1 : Int32)) hx hb dL_place_15 (by decide) ?_
    exact W.iret hx hb hr (fun t2 ht2 hW => ⟨⟨_, (σx, f), rfl, hpx, by rw [ht2]; exact hPx, by rw [ht2]; exact hPo⟩, hS.F ht2⟩) hS.2.2 dL_place_16
  · have hP1 : va_P D vwCl (xw c q σ1) H1 := ht ▸ hB
    have hPo : va_P D vwCl (hlO co o f) H1 := hPo.kept (fun k z hz => hk1 z.1 ((hPo k z hz).lt) (by match k, hz with | 0, hz => cases hz; exact ho | k + 1, hz => simp [hlO] at hz))
    have hD1 : va_D (wdA 36 q) (xw c q σ1) := xw_D hD
    refine lv_i2l hx hb dL_place_8 rfl ?_
    refine hl_last hx hb hK hKo hP1 hPo hD1 ho hS dL_place_9 (fun H2 locs2 hP2 hPo2 hS => ?_)
    refine lv_goto (tgt := 17) hx hb dL_place_10 (by decide) ?_
    refine lv_iconst (v := (0 : Int32)) hx hb dL_place_17 (by decide) ?_
    exact W.iret hx hb hr (fun t2 ht2 hW => ⟨⟨_, (σ1, vp_updL f 0 (r.toInt64)), rfl, hw, by rw [ht2]; exact hP2, by rw [ht2]; exact hPo2⟩, hS.F ht2⟩) hS.2.2 dL_place_18
theorem tb_919 : Cond.codeWith ⟨"StrikeHallLaw", "turn", "(LStrikeHall;I[J)I"⟩ method_6_code 4 (some .int) [(0, 9, 12, 18)] ∈ tb_L := tb_mem 919 (by decide +kernel) rfl
set_option maxHeartbeats 4000000 in
set_option maxRecDepth 100000 in
theorem khL_turn (l : Launch) (D : va_G) (c : Nat → ClassId) (q : Nat → Nat) (ev : State → Heap → Prop) (hev : evOK (wdA 36 q) ev) (hst : l.stackTraces = false) (hX : ∀ (U : State) (H : Heap), ev U H → evT (wdA 36 q) U H) (co : ClassId) (o : Nat) (σ : hsS) (f : Nat → Int64) (x1 : Int32) (post : Int32 → hsS × (Nat → Int64) → Prop) (hw : wX7_turn x1 (fun r σ1 => post 0 (σ1, vp_updL f 0 (r.toInt64))) (fun σ1 => post 1 (σ1, f)) σ) : Met l yL_turn (Cond.codeWith yL_turn cL_turn 4 (some .int) [(0, 9, 12, 18)] :: tb_L) ({ frames := 9, cells := 1, slots := 6, locals := 149 }) (hlPc D c q co o ev σ f [.ref (q 0), .int x1, .ref o]) (va_Qi post (hlB D c q co o) (hlA q o)) 1 6 (hlA q o) := by
  refine xm_ofWH (cc := cL_turn) (maxL := 4) (ret := (some .int)) (hh := [(0, 9, 12, 18)]) (by decide) rfl ?_
  intro p e s m args below meth c₀ s₁ Bd hml hv
  obtain ⟨rfl, hP, hPo, hK, hKo, hD, ho, hE⟩ := hv
  have hx := Bd.exec
  have hb := Bd.bytes
  have hr := Bd.returns
  have hts := atoms_spec (ws := Cond.codeWith yL_turn cL_turn 4 (some .int) [(0, 9, 12, 18)] :: tb_L) Bd.pre
  have htab := vx_table (x := yL_turn) Bd (hts _ List.mem_cons_self)
  have htb : ∀ w ∈ tb_L, w.before [.ref (q 0), .int x1, .ref o].toArray s = true := fun w h => hts w (List.mem_cons_of_mem _ h)
  have hown : s.vm.findClass RL = some m.cls := findClass_of_methodNamed Bd.named
  have hlocks := Bd.notSynchronized
  have hS : va_S (hlA q o) s.heap s.heap [] := va_S.rf
  have hl := lv_entry ([.ref (q 0), .int x1, .ref o]) (n := 4) (Nat.le_of_ble_eq_true rfl)
  rw [lg_entry_eq]
  generalize (lg_sl ([.ref (q 0), .int x1, .ref o]) ++ List.replicate (4 - (lg_sl ([.ref (q 0), .int x1, .ref o])).length) Slot.unset).toArray = ls at hl ⊢
  have hl : lv_has ls 4 [(0, .ref (q 0)), (1, .int x1), (2, .ref o)] := hl
  refine lv_aload_n hx hb dL_turn_0 rfl (lv_at hl 2 rfl) ?_
  refine lv_iconst (v := (0 : Int32)) hx hb dL_turn_1 (by decide) ?_
  refine lv_aload_n hx hb dL_turn_2 rfl (lv_at hl 0 rfl) ?_
  refine lv_iload_n hx hb dL_turn_3 rfl (lv_at hl 1 rfl) ?_
  refine vx_calli (vx_runV (As := [.int x1]) (rest := [.int (0 : Int32), .ref o]) ⟨hx, hb, hml, hown, htb⟩ (kcX7_turn l D c q ev hev hst hX σ x1 _ _ hw) (tb_CW htb kX7_turn tb_920 tb_921 tb_922 ⟨Nat.le_of_ble_eq_true rfl, Nat.le_of_ble_eq_true rfl⟩) (hl_pre hev hK hP hD hE (fun _ _ _ => rfl)) rfl rfl hl.1 rfl (lv_room (Nat.le_of_ble_eq_true rfl)) dL_turn_4 ⟨Nat.le_of_ble_eq_true rfl, Nat.le_of_ble_eq_true rfl⟩) hS (fun a _ h => Or.inl h) (fun a h => Or.inl h) (fun a _ h => Or.inl h) (fun E9 ce9 q9 σx t H1 locs1 ht hvm hpx hBX hz1 hk1 hS hce hcv hcl => ?_) (fun r σ1 t H1 locs1 ht hvm hw hB hz1 hk1 hS => ?_)
  · obtain ⟨rfl, hPx⟩ := hBX
    have hPx : va_P D vwCl (xw c q σx) H1 := ht ▸ hPx
    have hPo : va_P D vwCl (hlO co o f) H1 := hPo.kept (fun k z hz => hk1 z.1 ((hPo k z hz).lt) (by match k, hz with | 0, hz => cases hz; exact ho | k + 1, hz => simp [hlO] at hz))
    refine xc_catch (own := "StrikeHallLaw") (name := "java/util/NoSuchElementException") hown ⟨0, 9, 12, 18⟩ htab rfl (by decide) (htb _ tb_878) (tb_useF (hX s s.heap hE).2.2.1 _ tbF_885) hce hcv hcl ?_
    refine lv_astore_n (lv' := [(3, .ref q9), (0, .ref (q 0)), (1, .int x1), (2, .ref o)]) hx hb dL_turn_12 rfl hl (by decide) rfl (fun ls hl => ?_)
    refine lv_iconst (v := (1 : Int32)) hx hb dL_turn_13 (by decide) ?_
    exact W.iret hx hb hr (fun t2 ht2 hW => ⟨⟨_, (σx, f), rfl, hpx, by rw [ht2]; exact hPx, by rw [ht2]; exact hPo⟩, hS.F ht2⟩) hS.2.2 dL_turn_14
  · have hP1 : va_P D vwCl (xw c q σ1) H1 := ht ▸ hB
    have hPo : va_P D vwCl (hlO co o f) H1 := hPo.kept (fun k z hz => hk1 z.1 ((hPo k z hz).lt) (by match k, hz with | 0, hz => cases hz; exact ho | k + 1, hz => simp [hlO] at hz))
    have hD1 : va_D (wdA 36 q) (xw c q σ1) := xw_D hD
    refine lv_i2l hx hb dL_turn_7 rfl ?_
    refine hl_last hx hb hK hKo hP1 hPo hD1 ho hS dL_turn_8 (fun H2 locs2 hP2 hPo2 hS => ?_)
    refine lv_goto (tgt := 15) hx hb dL_turn_9 (by decide) ?_
    refine lv_iconst (v := (0 : Int32)) hx hb dL_turn_15 (by decide) ?_
    exact W.iret hx hb hr (fun t2 ht2 hW => ⟨⟨_, (σ1, vp_updL f 0 (r.toInt64)), rfl, hw, by rw [ht2]; exact hP2, by rw [ht2]; exact hPo2⟩, hS.F ht2⟩) hS.2.2 dL_turn_16
theorem tb_927 : Cond.codeWith ⟨"StrikeHallLaw", "keep", "(LStrikeHall;II[J)I"⟩ method_7_code 5 (some .int) [(0, 10, 13, 18)] ∈ tb_L := tb_mem 927 (by decide +kernel) rfl
set_option maxHeartbeats 4000000 in
set_option maxRecDepth 100000 in
theorem khL_keep (l : Launch) (D : va_G) (c : Nat → ClassId) (q : Nat → Nat) (ev : State → Heap → Prop) (hev : evOK (wdA 36 q) ev) (hst : l.stackTraces = false) (hX : ∀ (U : State) (H : Heap), ev U H → evT (wdA 36 q) U H) (co : ClassId) (o : Nat) (σ : hsS) (f : Nat → Int64) (x1 : Int32) (x2 : Int32) (post : Int32 → hsS × (Nat → Int64) → Prop) (hw : wX7_keep x1 x2 (fun r σ1 => post 0 (σ1, vp_updL f 0 (r.toInt64))) (fun σ1 => post 1 (σ1, f)) σ) : Met l yL_keep (Cond.codeWith yL_keep cL_keep 5 (some .int) [(0, 10, 13, 18)] :: tb_L) ({ frames := 10, cells := 1, slots := 6, locals := 171 }) (hlPc D c q co o ev σ f [.ref (q 0), .int x1, .int x2, .ref o]) (va_Qi post (hlB D c q co o) (hlA q o)) 1 6 (hlA q o) := by
  refine xm_ofWH (cc := cL_keep) (maxL := 5) (ret := (some .int)) (hh := [(0, 10, 13, 18)]) (by decide) rfl ?_
  intro p e s m args below meth c₀ s₁ Bd hml hv
  obtain ⟨rfl, hP, hPo, hK, hKo, hD, ho, hE⟩ := hv
  have hx := Bd.exec
  have hb := Bd.bytes
  have hr := Bd.returns
  have hts := atoms_spec (ws := Cond.codeWith yL_keep cL_keep 5 (some .int) [(0, 10, 13, 18)] :: tb_L) Bd.pre
  have htab := vx_table (x := yL_keep) Bd (hts _ List.mem_cons_self)
  have htb : ∀ w ∈ tb_L, w.before [.ref (q 0), .int x1, .int x2, .ref o].toArray s = true := fun w h => hts w (List.mem_cons_of_mem _ h)
  have hown : s.vm.findClass RL = some m.cls := findClass_of_methodNamed Bd.named
  have hlocks := Bd.notSynchronized
  have hS : va_S (hlA q o) s.heap s.heap [] := va_S.rf
  have hl := lv_entry ([.ref (q 0), .int x1, .int x2, .ref o]) (n := 5) (Nat.le_of_ble_eq_true rfl)
  rw [lg_entry_eq]
  generalize (lg_sl ([.ref (q 0), .int x1, .int x2, .ref o]) ++ List.replicate (5 - (lg_sl ([.ref (q 0), .int x1, .int x2, .ref o])).length) Slot.unset).toArray = ls at hl ⊢
  have hl : lv_has ls 5 [(0, .ref (q 0)), (1, .int x1), (2, .int x2), (3, .ref o)] := hl
  refine lv_aload_n hx hb dL_keep_0 rfl (lv_at hl 3 rfl) ?_
  refine lv_iconst (v := (0 : Int32)) hx hb dL_keep_1 (by decide) ?_
  refine lv_aload_n hx hb dL_keep_2 rfl (lv_at hl 0 rfl) ?_
  refine lv_iload_n hx hb dL_keep_3 rfl (lv_at hl 1 rfl) ?_
  refine lv_iload_n hx hb dL_keep_4 rfl (lv_at hl 2 rfl) ?_
  refine vx_calli (vx_runV (As := [.int x1, .int x2]) (rest := [.int (0 : Int32), .ref o]) ⟨hx, hb, hml, hown, htb⟩ (kcX7_keep l D c q ev hev hst hX σ x1 x2 _ _ hw) (tb_CW htb kX7_keep tb_928 tb_929 tb_930 ⟨Nat.le_of_ble_eq_true rfl, Nat.le_of_ble_eq_true rfl⟩) (hl_pre hev hK hP hD hE (fun _ _ _ => rfl)) rfl rfl hl.1 rfl (lv_room (Nat.le_of_ble_eq_true rfl)) dL_keep_5 ⟨Nat.le_of_ble_eq_true rfl, Nat.le_of_ble_eq_true rfl⟩) hS (fun a _ h => Or.inl h) (fun a h => Or.inl h) (fun a _ h => Or.inl h) (fun E9 ce9 q9 σx t H1 locs1 ht hvm hpx hBX hz1 hk1 hS hce hcv hcl => ?_) (fun r σ1 t H1 locs1 ht hvm hw hB hz1 hk1 hS => ?_)
  · obtain ⟨rfl, hPx⟩ := hBX
    have hPx : va_P D vwCl (xw c q σx) H1 := ht ▸ hPx
    have hPo : va_P D vwCl (hlO co o f) H1 := hPo.kept (fun k z hz => hk1 z.1 ((hPo k z hz).lt) (by match k, hz with | 0, hz => cases hz; exact ho | k + 1, hz => simp [hlO] at hz))
    refine xc_catch (own := "StrikeHallLaw") (name := "java/util/NoSuchElementException") hown ⟨0, 10, 13, 18⟩ htab rfl (by decide) (htb _ tb_878) (tb_useF (hX s s.heap hE).2.2.1 _ tbF_885) hce hcv hcl ?_
    refine lv_astore (lv' := [(4, .ref q9), (0, .ref (q 0)), (1, .int x1), (2, .int x2), (3, .ref o)]) hx hb dL_keep_13 hl (by decide) rfl (fun ls hl => ?_)
    refine lv_iconst (v := (1 : Int32)) hx hb dL_keep_15 (by decide) ?_
    exact W.iret hx hb hr (fun t2 ht2 hW => ⟨⟨_, (σx, f), rfl, hpx, by rw [ht2]; exact hPx, by rw [ht2]; exact hPo⟩, hS.F ht2⟩) hS.2.2 dL_keep_16
  · have hP1 : va_P D vwCl (xw c q σ1) H1 := ht ▸ hB
    have hPo : va_P D vwCl (hlO co o f) H1 := hPo.kept (fun k z hz => hk1 z.1 ((hPo k z hz).lt) (by match k, hz with | 0, hz => cases hz; exact ho | k + 1, hz => simp [hlO] at hz))
    have hD1 : va_D (wdA 36 q) (xw c q σ1) := xw_D hD
    refine lv_i2l hx hb dL_keep_8 rfl ?_
    refine hl_last hx hb hK hKo hP1 hPo hD1 ho hS dL_keep_9 (fun H2 locs2 hP2 hPo2 hS => ?_)
    refine lv_goto (tgt := 17) hx hb dL_keep_10 (by decide) ?_
    refine lv_iconst (v := (0 : Int32)) hx hb dL_keep_17 (by decide) ?_
    exact W.iret hx hb hr (fun t2 ht2 hW => ⟨⟨_, (σ1, vp_updL f 0 (r.toInt64)), rfl, hw, by rw [ht2]; exact hP2, by rw [ht2]; exact hPo2⟩, hS.F ht2⟩) hS.2.2 dL_keep_18
theorem tb_939 : Cond.codeWith ⟨"StrikeHallLaw", "strikes", "(LStrikeHall;II[J)I"⟩ method_8_code 5 (some .int) [(0, 17, 20, 18)] ∈ tb_L := tb_mem 939 (by decide +kernel) rfl
set_option maxHeartbeats 4000000 in
set_option maxRecDepth 100000 in
theorem khL_strikes (l : Launch) (D : va_G) (c : Nat → ClassId) (q : Nat → Nat) (ev : State → Heap → Prop) (hev : evOK (wdA 36 q) ev) (hst : l.stackTraces = false) (hX : ∀ (U : State) (H : Heap), ev U H → evT (wdA 36 q) U H) (co : ClassId) (o : Nat) (σ : hsS) (f : Nat → Int64) (x1 : Int32) (x2 : Int32) (post : Int32 → hsS × (Nat → Int64) → Prop) (hw : wX7_strikes x1 x2 (fun r σ1 => post 0 (σ1, vp_updL f 0 (if r = 0 then 0 else 1))) (fun σ1 => post 1 (σ1, f)) σ) : Met l yL_strikes (Cond.codeWith yL_strikes cL_strikes 5 (some .int) [(0, 17, 20, 18)] :: tb_L) ({ frames := 10, cells := 1, slots := 6, locals := 172 }) (hlPc D c q co o ev σ f [.ref (q 0), .int x1, .int x2, .ref o]) (va_Qi post (hlB D c q co o) (hlA q o)) 1 6 (hlA q o) := by
  refine xm_ofWH (cc := cL_strikes) (maxL := 5) (ret := (some .int)) (hh := [(0, 17, 20, 18)]) (by decide) rfl ?_
  intro p e s m args below meth c₀ s₁ Bd hml hv
  obtain ⟨rfl, hP, hPo, hK, hKo, hD, ho, hE⟩ := hv
  have hx := Bd.exec
  have hb := Bd.bytes
  have hr := Bd.returns
  have hts := atoms_spec (ws := Cond.codeWith yL_strikes cL_strikes 5 (some .int) [(0, 17, 20, 18)] :: tb_L) Bd.pre
  have htab := vx_table (x := yL_strikes) Bd (hts _ List.mem_cons_self)
  have htb : ∀ w ∈ tb_L, w.before [.ref (q 0), .int x1, .int x2, .ref o].toArray s = true := fun w h => hts w (List.mem_cons_of_mem _ h)
  have hown : s.vm.findClass RL = some m.cls := findClass_of_methodNamed Bd.named
  have hlocks := Bd.notSynchronized
  have hS : va_S (hlA q o) s.heap s.heap [] := va_S.rf
  have hl := lv_entry ([.ref (q 0), .int x1, .int x2, .ref o]) (n := 5) (Nat.le_of_ble_eq_true rfl)
  rw [lg_entry_eq]
  generalize (lg_sl ([.ref (q 0), .int x1, .int x2, .ref o]) ++ List.replicate (5 - (lg_sl ([.ref (q 0), .int x1, .int x2, .ref o])).length) Slot.unset).toArray = ls at hl ⊢
  have hl : lv_has ls 5 [(0, .ref (q 0)), (1, .int x1), (2, .int x2), (3, .ref o)] := hl
  refine lv_aload_n hx hb dL_strikes_0 rfl (lv_at hl 3 rfl) ?_
  refine lv_iconst (v := (0 : Int32)) hx hb dL_strikes_1 (by decide) ?_
  refine lv_aload_n hx hb dL_strikes_2 rfl (lv_at hl 0 rfl) ?_
  refine lv_iload_n hx hb dL_strikes_3 rfl (lv_at hl 1 rfl) ?_
  refine lv_iload_n hx hb dL_strikes_4 rfl (lv_at hl 2 rfl) ?_
  refine vx_calli (vx_runV (As := [.int x1, .int x2]) (rest := [.int (0 : Int32), .ref o]) ⟨hx, hb, hml, hown, htb⟩ (kcX7_strikes l D c q ev hev hst hX σ x1 x2 _ _ hw) (tb_CW htb kX7_strikes tb_940 tb_941 tb_942 ⟨Nat.le_of_ble_eq_true rfl, Nat.le_of_ble_eq_true rfl⟩) (hl_pre hev hK hP hD hE (fun _ _ _ => rfl)) rfl rfl hl.1 rfl (lv_room (Nat.le_of_ble_eq_true rfl)) dL_strikes_5 ⟨Nat.le_of_ble_eq_true rfl, Nat.le_of_ble_eq_true rfl⟩) hS (fun a _ h => Or.inl h) (fun a h => Or.inl h) (fun a _ h => Or.inl h) (fun E9 ce9 q9 σx t H1 locs1 ht hvm hpx hBX hz1 hk1 hS hce hcv hcl => ?_) (fun r σ1 t H1 locs1 ht hvm hw hB hz1 hk1 hS => ?_)
  · obtain ⟨rfl, hPx⟩ := hBX
    have hPx : va_P D vwCl (xw c q σx) H1 := ht ▸ hPx
    have hPo : va_P D vwCl (hlO co o f) H1 := hPo.kept (fun k z hz => hk1 z.1 ((hPo k z hz).lt) (by match k, hz with | 0, hz => cases hz; exact ho | k + 1, hz => simp [hlO] at hz))
    refine xc_catch (own := "StrikeHallLaw") (name := "java/util/NoSuchElementException") hown ⟨0, 17, 20, 18⟩ htab rfl (by decide) (htb _ tb_878) (tb_useF (hX s s.heap hE).2.2.1 _ tbF_885) hce hcv hcl ?_
    refine lv_astore (lv' := [(4, .ref q9), (0, .ref (q 0)), (1, .int x1), (2, .int x2), (3, .ref o)]) hx hb dL_strikes_20 hl (by decide) rfl (fun ls hl => ?_)
    refine lv_iconst (v := (1 : Int32)) hx hb dL_strikes_22 (by decide) ?_
    exact W.iret hx hb hr (fun t2 ht2 hW => ⟨⟨_, (σx, f), rfl, hpx, by rw [ht2]; exact hPx, by rw [ht2]; exact hPo⟩, hS.F ht2⟩) hS.2.2 dL_strikes_23
  · have hP1 : va_P D vwCl (xw c q σ1) H1 := ht ▸ hB
    have hPo : va_P D vwCl (hlO co o f) H1 := hPo.kept (fun k z hz => hk1 z.1 ((hPo k z hz).lt) (by match k, hz with | 0, hz => cases hz; exact ho | k + 1, hz => simp [hlO] at hz))
    have hD1 : va_D (wdA 36 q) (xw c q σ1) := xw_D hD
    refine lv_if_eq (tgt := 15) hx hb dL_strikes_8 (by decide) (fun c1 => ?_) (fun c1 => ?_)
    · have hw : post 0 (σ1, vp_updL f 0 0) := by have h := hw; simp only [c1, if_true] at h; exact h
      refine lv_lconst (v := (0 : Int64)) hx hb dL_strikes_15 (by decide) ?_
      refine hl_last hx hb hK hKo hP1 hPo hD1 ho hS dL_strikes_16 (fun H2 locs2 hP2 hPo2 hS => ?_)
      refine lv_goto (tgt := 24) hx hb dL_strikes_17 (by decide) ?_
      refine lv_iconst (v := (0 : Int32)) hx hb dL_strikes_24 (by decide) ?_
      exact W.iret hx hb hr (fun t2 ht2 hW => ⟨⟨_, (σ1, vp_updL f 0 (0)), rfl, hw, by rw [ht2]; exact hP2, by rw [ht2]; exact hPo2⟩, hS.F ht2⟩) hS.2.2 dL_strikes_25
    · have hw : post 0 (σ1, vp_updL f 0 1) := by have h := hw; simp only [c1, if_false] at h; exact h
      refine lv_lconst (v := (1 : Int64)) hx hb dL_strikes_11 (by decide) ?_
      refine lv_goto (tgt := 16) hx hb dL_strikes_12 (by decide) ?_
      refine hl_last hx hb hK hKo hP1 hPo hD1 ho hS dL_strikes_16 (fun H2 locs2 hP2 hPo2 hS => ?_)
      refine lv_goto (tgt := 24) hx hb dL_strikes_17 (by decide) ?_
      refine lv_iconst (v := (0 : Int32)) hx hb dL_strikes_24 (by decide) ?_
      exact W.iret hx hb hr (fun t2 ht2 hW => ⟨⟨_, (σ1, vp_updL f 0 (1)), rfl, hw, by rw [ht2]; exact hP2, by rw [ht2]; exact hPo2⟩, hS.F ht2⟩) hS.2.2 dL_strikes_25
theorem tb_948 : Cond.codeWith ⟨"StrikeHallLaw", "striker", "(LStrikeHall;I[J)I"⟩ method_9_code 4 (some .int) [(0, 9, 12, 18)] ∈ tb_L := tb_mem 948 (by decide +kernel) rfl
set_option maxHeartbeats 4000000 in
set_option maxRecDepth 100000 in
theorem khL_striker (l : Launch) (D : va_G) (c : Nat → ClassId) (q : Nat → Nat) (ev : State → Heap → Prop) (hev : evOK (wdA 36 q) ev) (hst : l.stackTraces = false) (hX : ∀ (U : State) (H : Heap), ev U H → evT (wdA 36 q) U H) (co : ClassId) (o : Nat) (σ : hsS) (f : Nat → Int64) (x1 : Int32) (post : Int32 → hsS × (Nat → Int64) → Prop) (hw : wX7_striker x1 (fun r σ1 => post 0 (σ1, vp_updL f 0 (r.toInt64))) (fun σ1 => post 1 (σ1, f)) σ) : Met l yL_striker (Cond.codeWith yL_striker cL_striker 4 (some .int) [(0, 9, 12, 18)] :: tb_L) ({ frames := 10, cells := 1, slots := 6, locals := 170 }) (hlPc D c q co o ev σ f [.ref (q 0), .int x1, .ref o]) (va_Qi post (hlB D c q co o) (hlA q o)) 1 6 (hlA q o) := by
  refine xm_ofWH (cc := cL_striker) (maxL := 4) (ret := (some .int)) (hh := [(0, 9, 12, 18)]) (by decide) rfl ?_
  intro p e s m args below meth c₀ s₁ Bd hml hv
  obtain ⟨rfl, hP, hPo, hK, hKo, hD, ho, hE⟩ := hv
  have hx := Bd.exec
  have hb := Bd.bytes
  have hr := Bd.returns
  have hts := atoms_spec (ws := Cond.codeWith yL_striker cL_striker 4 (some .int) [(0, 9, 12, 18)] :: tb_L) Bd.pre
  have htab := vx_table (x := yL_striker) Bd (hts _ List.mem_cons_self)
  have htb : ∀ w ∈ tb_L, w.before [.ref (q 0), .int x1, .ref o].toArray s = true := fun w h => hts w (List.mem_cons_of_mem _ h)
  have hown : s.vm.findClass RL = some m.cls := findClass_of_methodNamed Bd.named
  have hlocks := Bd.notSynchronized
  have hS : va_S (hlA q o) s.heap s.heap [] := va_S.rf
  have hl := lv_entry ([.ref (q 0), .int x1, .ref o]) (n := 4) (Nat.le_of_ble_eq_true rfl)
  rw [lg_entry_eq]
  generalize (lg_sl ([.ref (q 0), .int x1, .ref o]) ++ List.replicate (4 - (lg_sl ([.ref (q 0), .int x1, .ref o])).length) Slot.unset).toArray = ls at hl ⊢
  have hl : lv_has ls 4 [(0, .ref (q 0)), (1, .int x1), (2, .ref o)] := hl
  refine lv_aload_n hx hb dL_striker_0 rfl (lv_at hl 2 rfl) ?_
  refine lv_iconst (v := (0 : Int32)) hx hb dL_striker_1 (by decide) ?_
  refine lv_aload_n hx hb dL_striker_2 rfl (lv_at hl 0 rfl) ?_
  refine lv_iload_n hx hb dL_striker_3 rfl (lv_at hl 1 rfl) ?_
  refine vx_calli (vx_runV (As := [.int x1]) (rest := [.int (0 : Int32), .ref o]) ⟨hx, hb, hml, hown, htb⟩ (kcX7_striker l D c q ev hev hst hX σ x1 _ _ hw) (tb_CW htb kX7_striker tb_949 tb_950 tb_951 ⟨Nat.le_of_ble_eq_true rfl, Nat.le_of_ble_eq_true rfl⟩) (hl_pre hev hK hP hD hE (fun _ _ _ => rfl)) rfl rfl hl.1 rfl (lv_room (Nat.le_of_ble_eq_true rfl)) dL_striker_4 ⟨Nat.le_of_ble_eq_true rfl, Nat.le_of_ble_eq_true rfl⟩) hS (fun a _ h => Or.inl h) (fun a h => Or.inl h) (fun a _ h => Or.inl h) (fun E9 ce9 q9 σx t H1 locs1 ht hvm hpx hBX hz1 hk1 hS hce hcv hcl => ?_) (fun r σ1 t H1 locs1 ht hvm hw hB hz1 hk1 hS => ?_)
  · obtain ⟨rfl, hPx⟩ := hBX
    have hPx : va_P D vwCl (xw c q σx) H1 := ht ▸ hPx
    have hPo : va_P D vwCl (hlO co o f) H1 := hPo.kept (fun k z hz => hk1 z.1 ((hPo k z hz).lt) (by match k, hz with | 0, hz => cases hz; exact ho | k + 1, hz => simp [hlO] at hz))
    refine xc_catch (own := "StrikeHallLaw") (name := "java/util/NoSuchElementException") hown ⟨0, 9, 12, 18⟩ htab rfl (by decide) (htb _ tb_878) (tb_useF (hX s s.heap hE).2.2.1 _ tbF_885) hce hcv hcl ?_
    refine lv_astore_n (lv' := [(3, .ref q9), (0, .ref (q 0)), (1, .int x1), (2, .ref o)]) hx hb dL_striker_12 rfl hl (by decide) rfl (fun ls hl => ?_)
    refine lv_iconst (v := (1 : Int32)) hx hb dL_striker_13 (by decide) ?_
    exact W.iret hx hb hr (fun t2 ht2 hW => ⟨⟨_, (σx, f), rfl, hpx, by rw [ht2]; exact hPx, by rw [ht2]; exact hPo⟩, hS.F ht2⟩) hS.2.2 dL_striker_14
  · have hP1 : va_P D vwCl (xw c q σ1) H1 := ht ▸ hB
    have hPo : va_P D vwCl (hlO co o f) H1 := hPo.kept (fun k z hz => hk1 z.1 ((hPo k z hz).lt) (by match k, hz with | 0, hz => cases hz; exact ho | k + 1, hz => simp [hlO] at hz))
    have hD1 : va_D (wdA 36 q) (xw c q σ1) := xw_D hD
    refine lv_i2l hx hb dL_striker_7 rfl ?_
    refine hl_last hx hb hK hKo hP1 hPo hD1 ho hS dL_striker_8 (fun H2 locs2 hP2 hPo2 hS => ?_)
    refine lv_goto (tgt := 15) hx hb dL_striker_9 (by decide) ?_
    refine lv_iconst (v := (0 : Int32)) hx hb dL_striker_15 (by decide) ?_
    exact W.iret hx hb hr (fun t2 ht2 hW => ⟨⟨_, (σ1, vp_updL f 0 (r.toInt64)), rfl, hw, by rw [ht2]; exact hP2, by rw [ht2]; exact hPo2⟩, hS.F ht2⟩) hS.2.2 dL_striker_16
theorem tb_957 : Cond.codeWith ⟨"StrikeHallLaw", "some", "(LStrikeHall;I[J)I"⟩ method_10_code 4 (some .int) [(0, 9, 12, 18)] ∈ tb_L := tb_mem 957 (by decide +kernel) rfl
set_option maxHeartbeats 4000000 in
set_option maxRecDepth 100000 in
theorem khL_some (l : Launch) (D : va_G) (c : Nat → ClassId) (q : Nat → Nat) (ev : State → Heap → Prop) (hev : evOK (wdA 36 q) ev) (hst : l.stackTraces = false) (hX : ∀ (U : State) (H : Heap), ev U H → evT (wdA 36 q) U H) (co : ClassId) (o : Nat) (σ : hsS) (f : Nat → Int64) (x1 : Int32) (post : Int32 → hsS × (Nat → Int64) → Prop) (hw : wX7_some x1 (fun r σ1 => post 0 (σ1, vp_updL f 0 (r.toInt64))) (fun σ1 => post 1 (σ1, f)) σ) : Met l yL_some (Cond.codeWith yL_some cL_some 4 (some .int) [(0, 9, 12, 18)] :: tb_L) ({ frames := 11, cells := 10, slots := 60, locals := 197 }) (hlPc D c q co o ev σ f [.ref (q 0), .int x1, .ref o]) (va_Qi post (hlB D c q co o) (hlA q o)) 10 60 (hlA q o) := by
  refine xm_ofWH (cc := cL_some) (maxL := 4) (ret := (some .int)) (hh := [(0, 9, 12, 18)]) (by decide) rfl ?_
  intro p e s m args below meth c₀ s₁ Bd hml hv
  obtain ⟨rfl, hP, hPo, hK, hKo, hD, ho, hE⟩ := hv
  have hx := Bd.exec
  have hb := Bd.bytes
  have hr := Bd.returns
  have hts := atoms_spec (ws := Cond.codeWith yL_some cL_some 4 (some .int) [(0, 9, 12, 18)] :: tb_L) Bd.pre
  have htab := vx_table (x := yL_some) Bd (hts _ List.mem_cons_self)
  have htb : ∀ w ∈ tb_L, w.before [.ref (q 0), .int x1, .ref o].toArray s = true := fun w h => hts w (List.mem_cons_of_mem _ h)
  have hown : s.vm.findClass RL = some m.cls := findClass_of_methodNamed Bd.named
  have hlocks := Bd.notSynchronized
  have hS : va_S (hlA q o) s.heap s.heap [] := va_S.rf
  have hl := lv_entry ([.ref (q 0), .int x1, .ref o]) (n := 4) (Nat.le_of_ble_eq_true rfl)
  rw [lg_entry_eq]
  generalize (lg_sl ([.ref (q 0), .int x1, .ref o]) ++ List.replicate (4 - (lg_sl ([.ref (q 0), .int x1, .ref o])).length) Slot.unset).toArray = ls at hl ⊢
  have hl : lv_has ls 4 [(0, .ref (q 0)), (1, .int x1), (2, .ref o)] := hl
  refine lv_aload_n hx hb dL_some_0 rfl (lv_at hl 2 rfl) ?_
  refine lv_iconst (v := (0 : Int32)) hx hb dL_some_1 (by decide) ?_
  refine lv_aload_n hx hb dL_some_2 rfl (lv_at hl 0 rfl) ?_
  refine lv_iload_n hx hb dL_some_3 rfl (lv_at hl 1 rfl) ?_
  refine vx_calli (vx_runV (As := [.int x1]) (rest := [.int (0 : Int32), .ref o]) ⟨hx, hb, hml, hown, htb⟩ (kcX7_some l D c q ev hev hst hX σ x1 _ _ hw) (tb_CW htb kX7_some tb_958 tb_959 tb_960 ⟨Nat.le_of_ble_eq_true rfl, Nat.le_of_ble_eq_true rfl⟩) (hl_pre hev hK hP hD hE (fun _ _ _ => rfl)) rfl rfl hl.1 rfl (lv_room (Nat.le_of_ble_eq_true rfl)) dL_some_4 ⟨Nat.le_of_ble_eq_true rfl, Nat.le_of_ble_eq_true rfl⟩) hS (fun a _ h => Or.inl h) (fun a h => Or.inl h) (fun a _ h => Or.inl h) (fun E9 ce9 q9 σx t H1 locs1 ht hvm hpx hBX hz1 hk1 hS hce hcv hcl => ?_) (fun r σ1 t H1 locs1 ht hvm hw hB hz1 hk1 hS => ?_)
  · obtain ⟨rfl, hPx⟩ := hBX
    have hPx : va_P D vwCl (xw c q σx) H1 := ht ▸ hPx
    have hPo : va_P D vwCl (hlO co o f) H1 := hPo.kept (fun k z hz => hk1 z.1 ((hPo k z hz).lt) (by match k, hz with | 0, hz => cases hz; exact ho | k + 1, hz => simp [hlO] at hz))
    refine xc_catch (own := "StrikeHallLaw") (name := "java/util/NoSuchElementException") hown ⟨0, 9, 12, 18⟩ htab rfl (by decide) (htb _ tb_878) (tb_useF (hX s s.heap hE).2.2.1 _ tbF_885) hce hcv hcl ?_
    refine lv_astore_n (lv' := [(3, .ref q9), (0, .ref (q 0)), (1, .int x1), (2, .ref o)]) hx hb dL_some_12 rfl hl (by decide) rfl (fun ls hl => ?_)
    refine lv_iconst (v := (1 : Int32)) hx hb dL_some_13 (by decide) ?_
    exact W.iret hx hb hr (fun t2 ht2 hW => ⟨⟨_, (σx, f), rfl, hpx, by rw [ht2]; exact hPx, by rw [ht2]; exact hPo⟩, hS.F ht2⟩) hS.2.2 dL_some_14
  · have hP1 : va_P D vwCl (xw c q σ1) H1 := ht ▸ hB
    have hPo : va_P D vwCl (hlO co o f) H1 := hPo.kept (fun k z hz => hk1 z.1 ((hPo k z hz).lt) (by match k, hz with | 0, hz => cases hz; exact ho | k + 1, hz => simp [hlO] at hz))
    have hD1 : va_D (wdA 36 q) (xw c q σ1) := xw_D hD
    refine lv_i2l hx hb dL_some_7 rfl ?_
    refine hl_last hx hb hK hKo hP1 hPo hD1 ho hS dL_some_8 (fun H2 locs2 hP2 hPo2 hS => ?_)
    refine lv_goto (tgt := 15) hx hb dL_some_9 (by decide) ?_
    refine lv_iconst (v := (0 : Int32)) hx hb dL_some_15 (by decide) ?_
    exact W.iret hx hb hr (fun t2 ht2 hW => ⟨⟨_, (σ1, vp_updL f 0 (r.toInt64)), rfl, hw, by rw [ht2]; exact hP2, by rw [ht2]; exact hPo2⟩, hS.F ht2⟩) hS.2.2 dL_some_16
theorem tb_976 : Cond.codeWith ⟨"StrikeHallLaw", "rows", "(LStrikeHall;I[J)I"⟩ method_11_code 4 (some .int) [(0, 9, 12, 18)] ∈ tb_L := tb_mem 976 (by decide +kernel) rfl
set_option maxHeartbeats 4000000 in
set_option maxRecDepth 100000 in
theorem khL_rows (l : Launch) (D : va_G) (c : Nat → ClassId) (q : Nat → Nat) (ev : State → Heap → Prop) (hev : evOK (wdA 36 q) ev) (tF : Nat) (hF : ∀ (U : State) (H : Heap), ev U H → va_Z "StrikeHall" "FACTORIALS" "[I" (.ref tF) (wdA 36 q) U H ∧ va_T .int tF 10 (fun j => .int (xfact j)) (wdA 36 q) U H) (hst : l.stackTraces = false) (hX : ∀ (U : State) (H : Heap), ev U H → evT (wdA 36 q) U H) (co : ClassId) (o : Nat) (σ : hsS) (f : Nat → Int64) (x1 : Int32) (post : Int32 → hsS × (Nat → Int64) → Prop) (hw : wX7_rows x1 (fun r σ1 => post 0 (σ1, vp_updL f 0 (r.toInt64))) (fun σ1 => post 1 (σ1, f)) σ) : Met l yL_rows (Cond.codeWith yL_rows cL_rows 4 (some .int) [(0, 9, 12, 18)] :: tb_L) ({ frames := 9, cells := 1, slots := 6, locals := 186 }) (hlPc D c q co o ev σ f [.ref (q 0), .int x1, .ref o]) (va_Qi post (hlB D c q co o) (hlA q o)) 1 6 (hlA q o) := by
  refine xm_ofWH (cc := cL_rows) (maxL := 4) (ret := (some .int)) (hh := [(0, 9, 12, 18)]) (by decide) rfl ?_
  intro p e s m args below meth c₀ s₁ Bd hml hv
  obtain ⟨rfl, hP, hPo, hK, hKo, hD, ho, hE⟩ := hv
  have hx := Bd.exec
  have hb := Bd.bytes
  have hr := Bd.returns
  have hts := atoms_spec (ws := Cond.codeWith yL_rows cL_rows 4 (some .int) [(0, 9, 12, 18)] :: tb_L) Bd.pre
  have htab := vx_table (x := yL_rows) Bd (hts _ List.mem_cons_self)
  have htb : ∀ w ∈ tb_L, w.before [.ref (q 0), .int x1, .ref o].toArray s = true := fun w h => hts w (List.mem_cons_of_mem _ h)
  have hown : s.vm.findClass RL = some m.cls := findClass_of_methodNamed Bd.named
  have hlocks := Bd.notSynchronized
  have hS : va_S (hlA q o) s.heap s.heap [] := va_S.rf
  have hl := lv_entry ([.ref (q 0), .int x1, .ref o]) (n := 4) (Nat.le_of_ble_eq_true rfl)
  rw [lg_entry_eq]
  generalize (lg_sl ([.ref (q 0), .int x1, .ref o]) ++ List.replicate (4 - (lg_sl ([.ref (q 0), .int x1, .ref o])).length) Slot.unset).toArray = ls at hl ⊢
  have hl : lv_has ls 4 [(0, .ref (q 0)), (1, .int x1), (2, .ref o)] := hl
  refine lv_aload_n hx hb dL_rows_0 rfl (lv_at hl 2 rfl) ?_
  refine lv_iconst (v := (0 : Int32)) hx hb dL_rows_1 (by decide) ?_
  refine lv_aload_n hx hb dL_rows_2 rfl (lv_at hl 0 rfl) ?_
  refine lv_iload_n hx hb dL_rows_3 rfl (lv_at hl 1 rfl) ?_
  refine vx_calli (vx_runV (As := [.int x1]) (rest := [.int (0 : Int32), .ref o]) ⟨hx, hb, hml, hown, htb⟩ (kcX7_rows l D c q ev hev tF hF hst hX σ x1 _ _ hw) (tb_CW htb kX7_rows tb_977 tb_978 tb_979 ⟨Nat.le_of_ble_eq_true rfl, Nat.le_of_ble_eq_true rfl⟩) (hl_pre hev hK hP hD hE (fun _ _ _ => rfl)) rfl rfl hl.1 rfl (lv_room (Nat.le_of_ble_eq_true rfl)) dL_rows_4 ⟨Nat.le_of_ble_eq_true rfl, Nat.le_of_ble_eq_true rfl⟩) hS (fun a _ h => Or.inl h) (fun a h => Or.inl h) (fun a _ h => Or.inl h) (fun E9 ce9 q9 σx t H1 locs1 ht hvm hpx hBX hz1 hk1 hS hce hcv hcl => ?_) (fun r σ1 t H1 locs1 ht hvm hw hB hz1 hk1 hS => ?_)
  · obtain ⟨rfl, hPx⟩ := hBX
    have hPx : va_P D vwCl (xw c q σx) H1 := ht ▸ hPx
    have hPo : va_P D vwCl (hlO co o f) H1 := hPo.kept (fun k z hz => hk1 z.1 ((hPo k z hz).lt) (by match k, hz with | 0, hz => cases hz; exact ho | k + 1, hz => simp [hlO] at hz))
    refine xc_catch (own := "StrikeHallLaw") (name := "java/util/NoSuchElementException") hown ⟨0, 9, 12, 18⟩ htab rfl (by decide) (htb _ tb_878) (tb_useF (hX s s.heap hE).2.2.1 _ tbF_885) hce hcv hcl ?_
    refine lv_astore_n (lv' := [(3, .ref q9), (0, .ref (q 0)), (1, .int x1), (2, .ref o)]) hx hb dL_rows_12 rfl hl (by decide) rfl (fun ls hl => ?_)
    refine lv_iconst (v := (1 : Int32)) hx hb dL_rows_13 (by decide) ?_
    exact W.iret hx hb hr (fun t2 ht2 hW => ⟨⟨_, (σx, f), rfl, hpx, by rw [ht2]; exact hPx, by rw [ht2]; exact hPo⟩, hS.F ht2⟩) hS.2.2 dL_rows_14
  · have hP1 : va_P D vwCl (xw c q σ1) H1 := ht ▸ hB
    have hPo : va_P D vwCl (hlO co o f) H1 := hPo.kept (fun k z hz => hk1 z.1 ((hPo k z hz).lt) (by match k, hz with | 0, hz => cases hz; exact ho | k + 1, hz => simp [hlO] at hz))
    have hD1 : va_D (wdA 36 q) (xw c q σ1) := xw_D hD
    refine lv_i2l hx hb dL_rows_7 rfl ?_
    refine hl_last hx hb hK hKo hP1 hPo hD1 ho hS dL_rows_8 (fun H2 locs2 hP2 hPo2 hS => ?_)
    refine lv_goto (tgt := 15) hx hb dL_rows_9 (by decide) ?_
    refine lv_iconst (v := (0 : Int32)) hx hb dL_rows_15 (by decide) ?_
    exact W.iret hx hb hr (fun t2 ht2 hW => ⟨⟨_, (σ1, vp_updL f 0 (r.toInt64)), rfl, hw, by rw [ht2]; exact hP2, by rw [ht2]; exact hPo2⟩, hS.F ht2⟩) hS.2.2 dL_rows_16
theorem tb_1018 : Cond.codeWith ⟨"StrikeHallLaw", "lie", "(LStrikeHall;I[J)I"⟩ method_12_code 4 (some .int) [(0, 9, 12, 18)] ∈ tb_L := tb_mem 1018 (by decide +kernel) rfl
set_option maxHeartbeats 4000000 in
set_option maxRecDepth 100000 in
theorem khL_lie (l : Launch) (D : va_G) (c : Nat → ClassId) (q : Nat → Nat) (ev : State → Heap → Prop) (hev : evOK (wdA 36 q) ev) (tF : Nat) (hF : ∀ (U : State) (H : Heap), ev U H → va_Z "StrikeHall" "FACTORIALS" "[I" (.ref tF) (wdA 36 q) U H ∧ va_T .int tF 10 (fun j => .int (xfact j)) (wdA 36 q) U H) (hst : l.stackTraces = false) (hX : ∀ (U : State) (H : Heap), ev U H → evT (wdA 36 q) U H) (co : ClassId) (o : Nat) (σ : hsS) (f : Nat → Int64) (x1 : Int32) (post : Int32 → hsS × (Nat → Int64) → Prop) (hw : wX7_lie x1 (fun r σ1 => post 0 (σ1, vp_updL f 0 (r.toInt64))) (fun σ1 => post 1 (σ1, f)) σ) : Met l yL_lie (Cond.codeWith yL_lie cL_lie 4 (some .int) [(0, 9, 12, 18)] :: tb_L) ({ frames := 10, cells := 1, slots := 6, locals := 173 }) (hlPc D c q co o ev σ f [.ref (q 0), .int x1, .ref o]) (va_Qi post (hlB D c q co o) (hlA q o)) 1 6 (hlA q o) := by
  refine xm_ofWH (cc := cL_lie) (maxL := 4) (ret := (some .int)) (hh := [(0, 9, 12, 18)]) (by decide) rfl ?_
  intro p e s m args below meth c₀ s₁ Bd hml hv
  obtain ⟨rfl, hP, hPo, hK, hKo, hD, ho, hE⟩ := hv
  have hx := Bd.exec
  have hb := Bd.bytes
  have hr := Bd.returns
  have hts := atoms_spec (ws := Cond.codeWith yL_lie cL_lie 4 (some .int) [(0, 9, 12, 18)] :: tb_L) Bd.pre
  have htab := vx_table (x := yL_lie) Bd (hts _ List.mem_cons_self)
  have htb : ∀ w ∈ tb_L, w.before [.ref (q 0), .int x1, .ref o].toArray s = true := fun w h => hts w (List.mem_cons_of_mem _ h)
  have hown : s.vm.findClass RL = some m.cls := findClass_of_methodNamed Bd.named
  have hlocks := Bd.notSynchronized
  have hS : va_S (hlA q o) s.heap s.heap [] := va_S.rf
  have hl := lv_entry ([.ref (q 0), .int x1, .ref o]) (n := 4) (Nat.le_of_ble_eq_true rfl)
  rw [lg_entry_eq]
  generalize (lg_sl ([.ref (q 0), .int x1, .ref o]) ++ List.replicate (4 - (lg_sl ([.ref (q 0), .int x1, .ref o])).length) Slot.unset).toArray = ls at hl ⊢
  have hl : lv_has ls 4 [(0, .ref (q 0)), (1, .int x1), (2, .ref o)] := hl
  refine lv_aload_n hx hb dL_lie_0 rfl (lv_at hl 2 rfl) ?_
  refine lv_iconst (v := (0 : Int32)) hx hb dL_lie_1 (by decide) ?_
  refine lv_aload_n hx hb dL_lie_2 rfl (lv_at hl 0 rfl) ?_
  refine lv_iload_n hx hb dL_lie_3 rfl (lv_at hl 1 rfl) ?_
  refine vx_calli (vx_runV (As := [.int x1]) (rest := [.int (0 : Int32), .ref o]) ⟨hx, hb, hml, hown, htb⟩ (kcX7_lie l D c q ev hev tF hF hst hX σ x1 _ _ hw) (tb_CW htb kX7_lie tb_1019 tb_1020 tb_1021 ⟨Nat.le_of_ble_eq_true rfl, Nat.le_of_ble_eq_true rfl⟩) (hl_pre hev hK hP hD hE (fun _ _ _ => rfl)) rfl rfl hl.1 rfl (lv_room (Nat.le_of_ble_eq_true rfl)) dL_lie_4 ⟨Nat.le_of_ble_eq_true rfl, Nat.le_of_ble_eq_true rfl⟩) hS (fun a _ h => Or.inl h) (fun a h => Or.inl h) (fun a _ h => Or.inl h) (fun E9 ce9 q9 σx t H1 locs1 ht hvm hpx hBX hz1 hk1 hS hce hcv hcl => ?_) (fun r σ1 t H1 locs1 ht hvm hw hB hz1 hk1 hS => ?_)
  · obtain ⟨rfl, hPx⟩ := hBX
    have hPx : va_P D vwCl (xw c q σx) H1 := ht ▸ hPx
    have hPo : va_P D vwCl (hlO co o f) H1 := hPo.kept (fun k z hz => hk1 z.1 ((hPo k z hz).lt) (by match k, hz with | 0, hz => cases hz; exact ho | k + 1, hz => simp [hlO] at hz))
    refine xc_catch (own := "StrikeHallLaw") (name := "java/util/NoSuchElementException") hown ⟨0, 9, 12, 18⟩ htab rfl (by decide) (htb _ tb_878) (tb_useF (hX s s.heap hE).2.2.1 _ tbF_885) hce hcv hcl ?_
    refine lv_astore_n (lv' := [(3, .ref q9), (0, .ref (q 0)), (1, .int x1), (2, .ref o)]) hx hb dL_lie_12 rfl hl (by decide) rfl (fun ls hl => ?_)
    refine lv_iconst (v := (1 : Int32)) hx hb dL_lie_13 (by decide) ?_
    exact W.iret hx hb hr (fun t2 ht2 hW => ⟨⟨_, (σx, f), rfl, hpx, by rw [ht2]; exact hPx, by rw [ht2]; exact hPo⟩, hS.F ht2⟩) hS.2.2 dL_lie_14
  · have hP1 : va_P D vwCl (xw c q σ1) H1 := ht ▸ hB
    have hPo : va_P D vwCl (hlO co o f) H1 := hPo.kept (fun k z hz => hk1 z.1 ((hPo k z hz).lt) (by match k, hz with | 0, hz => cases hz; exact ho | k + 1, hz => simp [hlO] at hz))
    have hD1 : va_D (wdA 36 q) (xw c q σ1) := xw_D hD
    refine lv_i2l hx hb dL_lie_7 rfl ?_
    refine hl_last hx hb hK hKo hP1 hPo hD1 ho hS dL_lie_8 (fun H2 locs2 hP2 hPo2 hS => ?_)
    refine lv_goto (tgt := 15) hx hb dL_lie_9 (by decide) ?_
    refine lv_iconst (v := (0 : Int32)) hx hb dL_lie_15 (by decide) ?_
    exact W.iret hx hb hr (fun t2 ht2 hW => ⟨⟨_, (σ1, vp_updL f 0 (r.toInt64)), rfl, hw, by rw [ht2]; exact hP2, by rw [ht2]; exact hPo2⟩, hS.F ht2⟩) hS.2.2 dL_lie_16
theorem tb_1035 : Cond.codeWith ⟨"StrikeHallLaw", "trades", "(LStrikeHall;I[J)I"⟩ method_13_code 4 (some .int) [(0, 9, 12, 18)] ∈ tb_L := tb_mem 1035 (by decide +kernel) rfl
set_option maxHeartbeats 4000000 in
set_option maxRecDepth 100000 in
theorem khL_trades (l : Launch) (D : va_G) (c : Nat → ClassId) (q : Nat → Nat) (ev : State → Heap → Prop) (hev : evOK (wdA 36 q) ev) (hst : l.stackTraces = false) (hX : ∀ (U : State) (H : Heap), ev U H → evT (wdA 36 q) U H) (co : ClassId) (o : Nat) (σ : hsS) (f : Nat → Int64) (x1 : Int32) (post : Int32 → hsS × (Nat → Int64) → Prop) (hw : wX7_trades x1 (fun r σ1 => post 0 (σ1, vp_updL f 0 (r.toInt64))) (fun σ1 => post 1 (σ1, f)) σ) : Met l yL_trades (Cond.codeWith yL_trades cL_trades 4 (some .int) [(0, 9, 12, 18)] :: tb_L) ({ frames := 9, cells := 1, slots := 6, locals := 154 }) (hlPc D c q co o ev σ f [.ref (q 0), .int x1, .ref o]) (va_Qi post (hlB D c q co o) (hlA q o)) 1 6 (hlA q o) := by
  refine xm_ofWH (cc := cL_trades) (maxL := 4) (ret := (some .int)) (hh := [(0, 9, 12, 18)]) (by decide) rfl ?_
  intro p e s m args below meth c₀ s₁ Bd hml hv
  obtain ⟨rfl, hP, hPo, hK, hKo, hD, ho, hE⟩ := hv
  have hx := Bd.exec
  have hb := Bd.bytes
  have hr := Bd.returns
  have hts := atoms_spec (ws := Cond.codeWith yL_trades cL_trades 4 (some .int) [(0, 9, 12, 18)] :: tb_L) Bd.pre
  have htab := vx_table (x := yL_trades) Bd (hts _ List.mem_cons_self)
  have htb : ∀ w ∈ tb_L, w.before [.ref (q 0), .int x1, .ref o].toArray s = true := fun w h => hts w (List.mem_cons_of_mem _ h)
  have hown : s.vm.findClass RL = some m.cls := findClass_of_methodNamed Bd.named
  have hlocks := Bd.notSynchronized
  have hS : va_S (hlA q o) s.heap s.heap [] := va_S.rf
  have hl := lv_entry ([.ref (q 0), .int x1, .ref o]) (n := 4) (Nat.le_of_ble_eq_true rfl)
  rw [lg_entry_eq]
  generalize (lg_sl ([.ref (q 0), .int x1, .ref o]) ++ List.replicate (4 - (lg_sl ([.ref (q 0), .int x1, .ref o])).length) Slot.unset).toArray = ls at hl ⊢
  have hl : lv_has ls 4 [(0, .ref (q 0)), (1, .int x1), (2, .ref o)] := hl
  refine lv_aload_n hx hb dL_trades_0 rfl (lv_at hl 2 rfl) ?_
  refine lv_iconst (v := (0 : Int32)) hx hb dL_trades_1 (by decide) ?_
  refine lv_aload_n hx hb dL_trades_2 rfl (lv_at hl 0 rfl) ?_
  refine lv_iload_n hx hb dL_trades_3 rfl (lv_at hl 1 rfl) ?_
  refine vx_calli (vx_runV (As := [.int x1]) (rest := [.int (0 : Int32), .ref o]) ⟨hx, hb, hml, hown, htb⟩ (kcX7_trades l D c q ev hev hst hX σ x1 _ _ hw) (tb_CW htb kX7_trades tb_1036 tb_1037 tb_1038 ⟨Nat.le_of_ble_eq_true rfl, Nat.le_of_ble_eq_true rfl⟩) (hl_pre hev hK hP hD hE (fun _ _ _ => rfl)) rfl rfl hl.1 rfl (lv_room (Nat.le_of_ble_eq_true rfl)) dL_trades_4 ⟨Nat.le_of_ble_eq_true rfl, Nat.le_of_ble_eq_true rfl⟩) hS (fun a _ h => Or.inl h) (fun a h => Or.inl h) (fun a _ h => Or.inl h) (fun E9 ce9 q9 σx t H1 locs1 ht hvm hpx hBX hz1 hk1 hS hce hcv hcl => ?_) (fun r σ1 t H1 locs1 ht hvm hw hB hz1 hk1 hS => ?_)
  · obtain ⟨rfl, hPx⟩ := hBX
    have hPx : va_P D vwCl (xw c q σx) H1 := ht ▸ hPx
    have hPo : va_P D vwCl (hlO co o f) H1 := hPo.kept (fun k z hz => hk1 z.1 ((hPo k z hz).lt) (by match k, hz with | 0, hz => cases hz; exact ho | k + 1, hz => simp [hlO] at hz))
    refine xc_catch (own := "StrikeHallLaw") (name := "java/util/NoSuchElementException") hown ⟨0, 9, 12, 18⟩ htab rfl (by decide) (htb _ tb_878) (tb_useF (hX s s.heap hE).2.2.1 _ tbF_885) hce hcv hcl ?_
    refine lv_astore_n (lv' := [(3, .ref q9), (0, .ref (q 0)), (1, .int x1), (2, .ref o)]) hx hb dL_trades_12 rfl hl (by decide) rfl (fun ls hl => ?_)
    refine lv_iconst (v := (1 : Int32)) hx hb dL_trades_13 (by decide) ?_
    exact W.iret hx hb hr (fun t2 ht2 hW => ⟨⟨_, (σx, f), rfl, hpx, by rw [ht2]; exact hPx, by rw [ht2]; exact hPo⟩, hS.F ht2⟩) hS.2.2 dL_trades_14
  · have hP1 : va_P D vwCl (xw c q σ1) H1 := ht ▸ hB
    have hPo : va_P D vwCl (hlO co o f) H1 := hPo.kept (fun k z hz => hk1 z.1 ((hPo k z hz).lt) (by match k, hz with | 0, hz => cases hz; exact ho | k + 1, hz => simp [hlO] at hz))
    have hD1 : va_D (wdA 36 q) (xw c q σ1) := xw_D hD
    refine lv_i2l hx hb dL_trades_7 rfl ?_
    refine hl_last hx hb hK hKo hP1 hPo hD1 ho hS dL_trades_8 (fun H2 locs2 hP2 hPo2 hS => ?_)
    refine lv_goto (tgt := 15) hx hb dL_trades_9 (by decide) ?_
    refine lv_iconst (v := (0 : Int32)) hx hb dL_trades_15 (by decide) ?_
    exact W.iret hx hb hr (fun t2 ht2 hW => ⟨⟨_, (σ1, vp_updL f 0 (r.toInt64)), rfl, hw, by rw [ht2]; exact hP2, by rw [ht2]; exact hPo2⟩, hS.F ht2⟩) hS.2.2 dL_trades_16
theorem tb_1047 : Cond.codeWith ⟨"StrikeHallLaw", "grumble", "(LStrikeHall;II[J)I"⟩ method_14_code 5 (some .int) [(0, 10, 13, 18)] ∈ tb_L := tb_mem 1047 (by decide +kernel) rfl
set_option maxHeartbeats 4000000 in
set_option maxRecDepth 100000 in
theorem khL_grumble (l : Launch) (D : va_G) (c : Nat → ClassId) (q : Nat → Nat) (ev : State → Heap → Prop) (hev : evOK (wdA 36 q) ev) (hst : l.stackTraces = false) (hX : ∀ (U : State) (H : Heap), ev U H → evT (wdA 36 q) U H) (co : ClassId) (o : Nat) (σ : hsS) (f : Nat → Int64) (x1 : Int32) (x2 : Int32) (post : Int32 → hsS × (Nat → Int64) → Prop) (hw : wX7_grumble x1 x2 (fun r σ1 => post 0 (σ1, vp_updL f 0 (r.toInt64))) (fun σ1 => post 1 (σ1, f)) σ) : Met l yL_grumble (Cond.codeWith yL_grumble cL_grumble 5 (some .int) [(0, 10, 13, 18)] :: tb_L) ({ frames := 10, cells := 2, slots := 12, locals := 171 }) (hlPc D c q co o ev σ f [.ref (q 0), .int x1, .int x2, .ref o]) (va_Qi post (hlB D c q co o) (hlA q o)) 2 12 (hlA q o) := by
  refine xm_ofWH (cc := cL_grumble) (maxL := 5) (ret := (some .int)) (hh := [(0, 10, 13, 18)]) (by decide) rfl ?_
  intro p e s m args below meth c₀ s₁ Bd hml hv
  obtain ⟨rfl, hP, hPo, hK, hKo, hD, ho, hE⟩ := hv
  have hx := Bd.exec
  have hb := Bd.bytes
  have hr := Bd.returns
  have hts := atoms_spec (ws := Cond.codeWith yL_grumble cL_grumble 5 (some .int) [(0, 10, 13, 18)] :: tb_L) Bd.pre
  have htab := vx_table (x := yL_grumble) Bd (hts _ List.mem_cons_self)
  have htb : ∀ w ∈ tb_L, w.before [.ref (q 0), .int x1, .int x2, .ref o].toArray s = true := fun w h => hts w (List.mem_cons_of_mem _ h)
  have hown : s.vm.findClass RL = some m.cls := findClass_of_methodNamed Bd.named
  have hlocks := Bd.notSynchronized
  have hS : va_S (hlA q o) s.heap s.heap [] := va_S.rf
  have hl := lv_entry ([.ref (q 0), .int x1, .int x2, .ref o]) (n := 5) (Nat.le_of_ble_eq_true rfl)
  rw [lg_entry_eq]
  generalize (lg_sl ([.ref (q 0), .int x1, .int x2, .ref o]) ++ List.replicate (5 - (lg_sl ([.ref (q 0), .int x1, .int x2, .ref o])).length) Slot.unset).toArray = ls at hl ⊢
  have hl : lv_has ls 5 [(0, .ref (q 0)), (1, .int x1), (2, .int x2), (3, .ref o)] := hl
  refine lv_aload_n hx hb dL_grumble_0 rfl (lv_at hl 3 rfl) ?_
  refine lv_iconst (v := (0 : Int32)) hx hb dL_grumble_1 (by decide) ?_
  refine lv_aload_n hx hb dL_grumble_2 rfl (lv_at hl 0 rfl) ?_
  refine lv_iload_n hx hb dL_grumble_3 rfl (lv_at hl 1 rfl) ?_
  refine lv_iload_n hx hb dL_grumble_4 rfl (lv_at hl 2 rfl) ?_
  refine vx_calli (vx_runV (As := [.int x1, .int x2]) (rest := [.int (0 : Int32), .ref o]) ⟨hx, hb, hml, hown, htb⟩ (kcX7_grumble l D c q ev hev hst hX σ x1 x2 _ _ hw) (tb_CW htb kX7_grumble tb_1048 tb_1049 tb_1050 ⟨Nat.le_of_ble_eq_true rfl, Nat.le_of_ble_eq_true rfl⟩) (hl_pre hev hK hP hD hE (fun _ _ _ => rfl)) rfl rfl hl.1 rfl (lv_room (Nat.le_of_ble_eq_true rfl)) dL_grumble_5 ⟨Nat.le_of_ble_eq_true rfl, Nat.le_of_ble_eq_true rfl⟩) hS (fun a _ h => Or.inl h) (fun a h => Or.inl h) (fun a _ h => Or.inl h) (fun E9 ce9 q9 σx t H1 locs1 ht hvm hpx hBX hz1 hk1 hS hce hcv hcl => ?_) (fun r σ1 t H1 locs1 ht hvm hw hB hz1 hk1 hS => ?_)
  · obtain ⟨rfl, hPx⟩ := hBX
    have hPx : va_P D vwCl (xw c q σx) H1 := ht ▸ hPx
    have hPo : va_P D vwCl (hlO co o f) H1 := hPo.kept (fun k z hz => hk1 z.1 ((hPo k z hz).lt) (by match k, hz with | 0, hz => cases hz; exact ho | k + 1, hz => simp [hlO] at hz))
    refine xc_catch (own := "StrikeHallLaw") (name := "java/util/NoSuchElementException") hown ⟨0, 10, 13, 18⟩ htab rfl (by decide) (htb _ tb_878) (tb_useF (hX s s.heap hE).2.2.1 _ tbF_885) hce hcv hcl ?_
    refine lv_astore (lv' := [(4, .ref q9), (0, .ref (q 0)), (1, .int x1), (2, .int x2), (3, .ref o)]) hx hb dL_grumble_13 hl (by decide) rfl (fun ls hl => ?_)
    refine lv_iconst (v := (1 : Int32)) hx hb dL_grumble_15 (by decide) ?_
    exact W.iret hx hb hr (fun t2 ht2 hW => ⟨⟨_, (σx, f), rfl, hpx, by rw [ht2]; exact hPx, by rw [ht2]; exact hPo⟩, hS.F ht2⟩) hS.2.2 dL_grumble_16
  · have hP1 : va_P D vwCl (xw c q σ1) H1 := ht ▸ hB
    have hPo : va_P D vwCl (hlO co o f) H1 := hPo.kept (fun k z hz => hk1 z.1 ((hPo k z hz).lt) (by match k, hz with | 0, hz => cases hz; exact ho | k + 1, hz => simp [hlO] at hz))
    have hD1 : va_D (wdA 36 q) (xw c q σ1) := xw_D hD
    refine lv_i2l hx hb dL_grumble_8 rfl ?_
    refine hl_last hx hb hK hKo hP1 hPo hD1 ho hS dL_grumble_9 (fun H2 locs2 hP2 hPo2 hS => ?_)
    refine lv_goto (tgt := 17) hx hb dL_grumble_10 (by decide) ?_
    refine lv_iconst (v := (0 : Int32)) hx hb dL_grumble_17 (by decide) ?_
    exact W.iret hx hb hr (fun t2 ht2 hW => ⟨⟨_, (σ1, vp_updL f 0 (r.toInt64)), rfl, hw, by rw [ht2]; exact hP2, by rw [ht2]; exact hPo2⟩, hS.F ht2⟩) hS.2.2 dL_grumble_18
theorem tb_1055 : Cond.codeWith ⟨"StrikeHallLaw", "heads", "(LStrikeHall;I[J)I"⟩ method_15_code 4 (some .int) [(0, 9, 12, 18)] ∈ tb_L := tb_mem 1055 (by decide +kernel) rfl
set_option maxHeartbeats 4000000 in
set_option maxRecDepth 100000 in
theorem khL_heads (l : Launch) (D : va_G) (c : Nat → ClassId) (q : Nat → Nat) (ev : State → Heap → Prop) (hev : evOK (wdA 36 q) ev) (hst : l.stackTraces = false) (hX : ∀ (U : State) (H : Heap), ev U H → evT (wdA 36 q) U H) (co : ClassId) (o : Nat) (σ : hsS) (f : Nat → Int64) (x1 : Int32) (post : Int32 → hsS × (Nat → Int64) → Prop) (hw : wX7_heads x1 (fun r σ1 => post 0 (σ1, vp_updL f 0 (r.toInt64))) (fun σ1 => post 1 (σ1, f)) σ) : Met l yL_heads (Cond.codeWith yL_heads cL_heads 4 (some .int) [(0, 9, 12, 18)] :: tb_L) ({ frames := 10, cells := 1, slots := 6, locals := 170 }) (hlPc D c q co o ev σ f [.ref (q 0), .int x1, .ref o]) (va_Qi post (hlB D c q co o) (hlA q o)) 1 6 (hlA q o) := by
  refine xm_ofWH (cc := cL_heads) (maxL := 4) (ret := (some .int)) (hh := [(0, 9, 12, 18)]) (by decide) rfl ?_
  intro p e s m args below meth c₀ s₁ Bd hml hv
  obtain ⟨rfl, hP, hPo, hK, hKo, hD, ho, hE⟩ := hv
  have hx := Bd.exec
  have hb := Bd.bytes
  have hr := Bd.returns
  have hts := atoms_spec (ws := Cond.codeWith yL_heads cL_heads 4 (some .int) [(0, 9, 12, 18)] :: tb_L) Bd.pre
  have htab := vx_table (x := yL_heads) Bd (hts _ List.mem_cons_self)
  have htb : ∀ w ∈ tb_L, w.before [.ref (q 0), .int x1, .ref o].toArray s = true := fun w h => hts w (List.mem_cons_of_mem _ h)
  have hown : s.vm.findClass RL = some m.cls := findClass_of_methodNamed Bd.named
  have hlocks := Bd.notSynchronized
  have hS : va_S (hlA q o) s.heap s.heap [] := va_S.rf
  have hl := lv_entry ([.ref (q 0), .int x1, .ref o]) (n := 4) (Nat.le_of_ble_eq_true rfl)
  rw [lg_entry_eq]
  generalize (lg_sl ([.ref (q 0), .int x1, .ref o]) ++ List.replicate (4 - (lg_sl ([.ref (q 0), .int x1, .ref o])).length) Slot.unset).toArray = ls at hl ⊢
  have hl : lv_has ls 4 [(0, .ref (q 0)), (1, .int x1), (2, .ref o)] := hl
  refine lv_aload_n hx hb dL_heads_0 rfl (lv_at hl 2 rfl) ?_
  refine lv_iconst (v := (0 : Int32)) hx hb dL_heads_1 (by decide) ?_
  refine lv_aload_n hx hb dL_heads_2 rfl (lv_at hl 0 rfl) ?_
  refine lv_iload_n hx hb dL_heads_3 rfl (lv_at hl 1 rfl) ?_
  refine vx_calli (vx_runV (As := [.int x1]) (rest := [.int (0 : Int32), .ref o]) ⟨hx, hb, hml, hown, htb⟩ (kcX7_heads l D c q ev hev hst hX σ x1 _ _ hw) (tb_CW htb kX7_heads tb_1056 tb_1057 tb_1058 ⟨Nat.le_of_ble_eq_true rfl, Nat.le_of_ble_eq_true rfl⟩) (hl_pre hev hK hP hD hE (fun _ _ _ => rfl)) rfl rfl hl.1 rfl (lv_room (Nat.le_of_ble_eq_true rfl)) dL_heads_4 ⟨Nat.le_of_ble_eq_true rfl, Nat.le_of_ble_eq_true rfl⟩) hS (fun a _ h => Or.inl h) (fun a h => Or.inl h) (fun a _ h => Or.inl h) (fun E9 ce9 q9 σx t H1 locs1 ht hvm hpx hBX hz1 hk1 hS hce hcv hcl => ?_) (fun r σ1 t H1 locs1 ht hvm hw hB hz1 hk1 hS => ?_)
  · obtain ⟨rfl, hPx⟩ := hBX
    have hPx : va_P D vwCl (xw c q σx) H1 := ht ▸ hPx
    have hPo : va_P D vwCl (hlO co o f) H1 := hPo.kept (fun k z hz => hk1 z.1 ((hPo k z hz).lt) (by match k, hz with | 0, hz => cases hz; exact ho | k + 1, hz => simp [hlO] at hz))
    refine xc_catch (own := "StrikeHallLaw") (name := "java/util/NoSuchElementException") hown ⟨0, 9, 12, 18⟩ htab rfl (by decide) (htb _ tb_878) (tb_useF (hX s s.heap hE).2.2.1 _ tbF_885) hce hcv hcl ?_
    refine lv_astore_n (lv' := [(3, .ref q9), (0, .ref (q 0)), (1, .int x1), (2, .ref o)]) hx hb dL_heads_12 rfl hl (by decide) rfl (fun ls hl => ?_)
    refine lv_iconst (v := (1 : Int32)) hx hb dL_heads_13 (by decide) ?_
    exact W.iret hx hb hr (fun t2 ht2 hW => ⟨⟨_, (σx, f), rfl, hpx, by rw [ht2]; exact hPx, by rw [ht2]; exact hPo⟩, hS.F ht2⟩) hS.2.2 dL_heads_14
  · have hP1 : va_P D vwCl (xw c q σ1) H1 := ht ▸ hB
    have hPo : va_P D vwCl (hlO co o f) H1 := hPo.kept (fun k z hz => hk1 z.1 ((hPo k z hz).lt) (by match k, hz with | 0, hz => cases hz; exact ho | k + 1, hz => simp [hlO] at hz))
    have hD1 : va_D (wdA 36 q) (xw c q σ1) := xw_D hD
    refine lv_i2l hx hb dL_heads_7 rfl ?_
    refine hl_last hx hb hK hKo hP1 hPo hD1 ho hS dL_heads_8 (fun H2 locs2 hP2 hPo2 hS => ?_)
    refine lv_goto (tgt := 15) hx hb dL_heads_9 (by decide) ?_
    refine lv_iconst (v := (0 : Int32)) hx hb dL_heads_15 (by decide) ?_
    exact W.iret hx hb hr (fun t2 ht2 hW => ⟨⟨_, (σ1, vp_updL f 0 (r.toInt64)), rfl, hw, by rw [ht2]; exact hP2, by rw [ht2]; exact hPo2⟩, hS.F ht2⟩) hS.2.2 dL_heads_16
theorem tb_1066 : Cond.codeWith ⟨"StrikeHallLaw", "head", "(LStrikeHall;I[J)I"⟩ method_16_code 4 (some .int) [(0, 9, 12, 18)] ∈ tb_L := tb_mem 1066 (by decide +kernel) rfl
set_option maxHeartbeats 4000000 in
set_option maxRecDepth 100000 in
theorem khL_head (l : Launch) (D : va_G) (c : Nat → ClassId) (q : Nat → Nat) (ev : State → Heap → Prop) (hev : evOK (wdA 36 q) ev) (hst : l.stackTraces = false) (hX : ∀ (U : State) (H : Heap), ev U H → evT (wdA 36 q) U H) (co : ClassId) (o : Nat) (σ : hsS) (f : Nat → Int64) (x1 : Int32) (post : Int32 → hsS × (Nat → Int64) → Prop) (hw : wX7_head x1 (fun r σ1 => post 0 (σ1, vp_updL f 0 (r.toInt64))) (fun σ1 => post 1 (σ1, f)) σ) : Met l yL_head (Cond.codeWith yL_head cL_head 4 (some .int) [(0, 9, 12, 18)] :: tb_L) ({ frames := 9, cells := 1, slots := 6, locals := 172 }) (hlPc D c q co o ev σ f [.ref (q 0), .int x1, .ref o]) (va_Qi post (hlB D c q co o) (hlA q o)) 1 6 (hlA q o) := by
  refine xm_ofWH (cc := cL_head) (maxL := 4) (ret := (some .int)) (hh := [(0, 9, 12, 18)]) (by decide) rfl ?_
  intro p e s m args below meth c₀ s₁ Bd hml hv
  obtain ⟨rfl, hP, hPo, hK, hKo, hD, ho, hE⟩ := hv
  have hx := Bd.exec
  have hb := Bd.bytes
  have hr := Bd.returns
  have hts := atoms_spec (ws := Cond.codeWith yL_head cL_head 4 (some .int) [(0, 9, 12, 18)] :: tb_L) Bd.pre
  have htab := vx_table (x := yL_head) Bd (hts _ List.mem_cons_self)
  have htb : ∀ w ∈ tb_L, w.before [.ref (q 0), .int x1, .ref o].toArray s = true := fun w h => hts w (List.mem_cons_of_mem _ h)
  have hown : s.vm.findClass RL = some m.cls := findClass_of_methodNamed Bd.named
  have hlocks := Bd.notSynchronized
  have hS : va_S (hlA q o) s.heap s.heap [] := va_S.rf
  have hl := lv_entry ([.ref (q 0), .int x1, .ref o]) (n := 4) (Nat.le_of_ble_eq_true rfl)
  rw [lg_entry_eq]
  generalize (lg_sl ([.ref (q 0), .int x1, .ref o]) ++ List.replicate (4 - (lg_sl ([.ref (q 0), .int x1, .ref o])).length) Slot.unset).toArray = ls at hl ⊢
  have hl : lv_has ls 4 [(0, .ref (q 0)), (1, .int x1), (2, .ref o)] := hl
  refine lv_aload_n hx hb dL_head_0 rfl (lv_at hl 2 rfl) ?_
  refine lv_iconst (v := (0 : Int32)) hx hb dL_head_1 (by decide) ?_
  refine lv_aload_n hx hb dL_head_2 rfl (lv_at hl 0 rfl) ?_
  refine lv_iload_n hx hb dL_head_3 rfl (lv_at hl 1 rfl) ?_
  refine vx_calli (vx_runV (As := [.int x1]) (rest := [.int (0 : Int32), .ref o]) ⟨hx, hb, hml, hown, htb⟩ (kcX7_head l D c q ev hev hst hX σ x1 _ _ hw) (tb_CW htb kX7_head tb_1067 tb_1068 tb_1069 ⟨Nat.le_of_ble_eq_true rfl, Nat.le_of_ble_eq_true rfl⟩) (hl_pre hev hK hP hD hE (fun _ _ _ => rfl)) rfl rfl hl.1 rfl (lv_room (Nat.le_of_ble_eq_true rfl)) dL_head_4 ⟨Nat.le_of_ble_eq_true rfl, Nat.le_of_ble_eq_true rfl⟩) hS (fun a _ h => Or.inl h) (fun a h => Or.inl h) (fun a _ h => Or.inl h) (fun E9 ce9 q9 σx t H1 locs1 ht hvm hpx hBX hz1 hk1 hS hce hcv hcl => ?_) (fun r σ1 t H1 locs1 ht hvm hw hB hz1 hk1 hS => ?_)
  · obtain ⟨rfl, hPx⟩ := hBX
    have hPx : va_P D vwCl (xw c q σx) H1 := ht ▸ hPx
    have hPo : va_P D vwCl (hlO co o f) H1 := hPo.kept (fun k z hz => hk1 z.1 ((hPo k z hz).lt) (by match k, hz with | 0, hz => cases hz; exact ho | k + 1, hz => simp [hlO] at hz))
    refine xc_catch (own := "StrikeHallLaw") (name := "java/util/NoSuchElementException") hown ⟨0, 9, 12, 18⟩ htab rfl (by decide) (htb _ tb_878) (tb_useF (hX s s.heap hE).2.2.1 _ tbF_885) hce hcv hcl ?_
    refine lv_astore_n (lv' := [(3, .ref q9), (0, .ref (q 0)), (1, .int x1), (2, .ref o)]) hx hb dL_head_12 rfl hl (by decide) rfl (fun ls hl => ?_)
    refine lv_iconst (v := (1 : Int32)) hx hb dL_head_13 (by decide) ?_
    exact W.iret hx hb hr (fun t2 ht2 hW => ⟨⟨_, (σx, f), rfl, hpx, by rw [ht2]; exact hPx, by rw [ht2]; exact hPo⟩, hS.F ht2⟩) hS.2.2 dL_head_14
  · have hP1 : va_P D vwCl (xw c q σ1) H1 := ht ▸ hB
    have hPo : va_P D vwCl (hlO co o f) H1 := hPo.kept (fun k z hz => hk1 z.1 ((hPo k z hz).lt) (by match k, hz with | 0, hz => cases hz; exact ho | k + 1, hz => simp [hlO] at hz))
    have hD1 : va_D (wdA 36 q) (xw c q σ1) := xw_D hD
    refine lv_i2l hx hb dL_head_7 rfl ?_
    refine hl_last hx hb hK hKo hP1 hPo hD1 ho hS dL_head_8 (fun H2 locs2 hP2 hPo2 hS => ?_)
    refine lv_goto (tgt := 15) hx hb dL_head_9 (by decide) ?_
    refine lv_iconst (v := (0 : Int32)) hx hb dL_head_15 (by decide) ?_
    exact W.iret hx hb hr (fun t2 ht2 hW => ⟨⟨_, (σ1, vp_updL f 0 (r.toInt64)), rfl, hw, by rw [ht2]; exact hP2, by rw [ht2]; exact hPo2⟩, hS.F ht2⟩) hS.2.2 dL_head_16
theorem tb_1079 : Cond.codeWith ⟨"StrikeHallLaw", "copy", "(LStrikeHall;I[J)I"⟩ method_17_code 4 (some .int) [(0, 9, 12, 18)] ∈ tb_L := tb_mem 1079 (by decide +kernel) rfl
set_option maxHeartbeats 4000000 in
set_option maxRecDepth 100000 in
theorem khL_copy (l : Launch) (D : va_G) (c : Nat → ClassId) (q : Nat → Nat) (ev : State → Heap → Prop) (hev : evOK (wdA 36 q) ev) (hst : l.stackTraces = false) (hX : ∀ (U : State) (H : Heap), ev U H → evT (wdA 36 q) U H) (co : ClassId) (o : Nat) (σ : hsS) (f : Nat → Int64) (x1 : Int32) (post : Int32 → hsS × (Nat → Int64) → Prop) (hw : wX7_copy x1 (fun r σ1 => post 0 (σ1, vp_updL f 0 (r.toInt64))) (fun σ1 => post 1 (σ1, f)) σ) : Met l yL_copy (Cond.codeWith yL_copy cL_copy 4 (some .int) [(0, 9, 12, 18)] :: tb_L) ({ frames := 10, cells := 1, slots := 6, locals := 170 }) (hlPc D c q co o ev σ f [.ref (q 0), .int x1, .ref o]) (va_Qi post (hlB D c q co o) (hlA q o)) 1 6 (hlA q o) := by
  refine xm_ofWH (cc := cL_copy) (maxL := 4) (ret := (some .int)) (hh := [(0, 9, 12, 18)]) (by decide) rfl ?_
  intro p e s m args below meth c₀ s₁ Bd hml hv
  obtain ⟨rfl, hP, hPo, hK, hKo, hD, ho, hE⟩ := hv
  have hx := Bd.exec
  have hb := Bd.bytes
  have hr := Bd.returns
  have hts := atoms_spec (ws := Cond.codeWith yL_copy cL_copy 4 (some .int) [(0, 9, 12, 18)] :: tb_L) Bd.pre
  have htab := vx_table (x := yL_copy) Bd (hts _ List.mem_cons_self)
  have htb : ∀ w ∈ tb_L, w.before [.ref (q 0), .int x1, .ref o].toArray s = true := fun w h => hts w (List.mem_cons_of_mem _ h)
  have hown : s.vm.findClass RL = some m.cls := findClass_of_methodNamed Bd.named
  have hlocks := Bd.notSynchronized
  have hS : va_S (hlA q o) s.heap s.heap [] := va_S.rf
  have hl := lv_entry ([.ref (q 0), .int x1, .ref o]) (n := 4) (Nat.le_of_ble_eq_true rfl)
  rw [lg_entry_eq]
  generalize (lg_sl ([.ref (q 0), .int x1, .ref o]) ++ List.replicate (4 - (lg_sl ([.ref (q 0), .int x1, .ref o])).length) Slot.unset).toArray = ls at hl ⊢
  have hl : lv_has ls 4 [(0, .ref (q 0)), (1, .int x1), (2, .ref o)] := hl
  refine lv_aload_n hx hb dL_copy_0 rfl (lv_at hl 2 rfl) ?_
  refine lv_iconst (v := (0 : Int32)) hx hb dL_copy_1 (by decide) ?_
  refine lv_aload_n hx hb dL_copy_2 rfl (lv_at hl 0 rfl) ?_
  refine lv_iload_n hx hb dL_copy_3 rfl (lv_at hl 1 rfl) ?_
  refine vx_calli (vx_runV (As := [.int x1]) (rest := [.int (0 : Int32), .ref o]) ⟨hx, hb, hml, hown, htb⟩ (kcX7_copy l D c q ev hev hst hX σ x1 _ _ hw) (tb_CW htb kX7_copy tb_1080 tb_1081 tb_1082 ⟨Nat.le_of_ble_eq_true rfl, Nat.le_of_ble_eq_true rfl⟩) (hl_pre hev hK hP hD hE (fun _ _ _ => rfl)) rfl rfl hl.1 rfl (lv_room (Nat.le_of_ble_eq_true rfl)) dL_copy_4 ⟨Nat.le_of_ble_eq_true rfl, Nat.le_of_ble_eq_true rfl⟩) hS (fun a _ h => Or.inl h) (fun a h => Or.inl h) (fun a _ h => Or.inl h) (fun E9 ce9 q9 σx t H1 locs1 ht hvm hpx hBX hz1 hk1 hS hce hcv hcl => ?_) (fun r σ1 t H1 locs1 ht hvm hw hB hz1 hk1 hS => ?_)
  · obtain ⟨rfl, hPx⟩ := hBX
    have hPx : va_P D vwCl (xw c q σx) H1 := ht ▸ hPx
    have hPo : va_P D vwCl (hlO co o f) H1 := hPo.kept (fun k z hz => hk1 z.1 ((hPo k z hz).lt) (by match k, hz with | 0, hz => cases hz; exact ho | k + 1, hz => simp [hlO] at hz))
    refine xc_catch (own := "StrikeHallLaw") (name := "java/util/NoSuchElementException") hown ⟨0, 9, 12, 18⟩ htab rfl (by decide) (htb _ tb_878) (tb_useF (hX s s.heap hE).2.2.1 _ tbF_885) hce hcv hcl ?_
    refine lv_astore_n (lv' := [(3, .ref q9), (0, .ref (q 0)), (1, .int x1), (2, .ref o)]) hx hb dL_copy_12 rfl hl (by decide) rfl (fun ls hl => ?_)
    refine lv_iconst (v := (1 : Int32)) hx hb dL_copy_13 (by decide) ?_
    exact W.iret hx hb hr (fun t2 ht2 hW => ⟨⟨_, (σx, f), rfl, hpx, by rw [ht2]; exact hPx, by rw [ht2]; exact hPo⟩, hS.F ht2⟩) hS.2.2 dL_copy_14
  · have hP1 : va_P D vwCl (xw c q σ1) H1 := ht ▸ hB
    have hPo : va_P D vwCl (hlO co o f) H1 := hPo.kept (fun k z hz => hk1 z.1 ((hPo k z hz).lt) (by match k, hz with | 0, hz => cases hz; exact ho | k + 1, hz => simp [hlO] at hz))
    have hD1 : va_D (wdA 36 q) (xw c q σ1) := xw_D hD
    refine lv_i2l hx hb dL_copy_7 rfl ?_
    refine hl_last hx hb hK hKo hP1 hPo hD1 ho hS dL_copy_8 (fun H2 locs2 hP2 hPo2 hS => ?_)
    refine lv_goto (tgt := 15) hx hb dL_copy_9 (by decide) ?_
    refine lv_iconst (v := (0 : Int32)) hx hb dL_copy_15 (by decide) ?_
    exact W.iret hx hb hr (fun t2 ht2 hW => ⟨⟨_, (σ1, vp_updL f 0 (r.toInt64)), rfl, hw, by rw [ht2]; exact hP2, by rw [ht2]; exact hPo2⟩, hS.F ht2⟩) hS.2.2 dL_copy_16
theorem tb_1091 : Cond.codeWith ⟨"StrikeHallLaw", "without", "(LStrikeHall;I[J)I"⟩ method_18_code 4 (some .int) [(0, 9, 12, 18)] ∈ tb_L := tb_mem 1091 (by decide +kernel) rfl
set_option maxHeartbeats 4000000 in
set_option maxRecDepth 100000 in
theorem khL_without (l : Launch) (D : va_G) (c : Nat → ClassId) (q : Nat → Nat) (ev : State → Heap → Prop) (hev : evOK (wdA 36 q) ev) (hst : l.stackTraces = false) (hX : ∀ (U : State) (H : Heap), ev U H → evT (wdA 36 q) U H) (co : ClassId) (o : Nat) (σ : hsS) (f : Nat → Int64) (x1 : Int32) (post : Int32 → hsS × (Nat → Int64) → Prop) (hw : wX7_without x1 (fun r σ1 => post 0 (σ1, vp_updL f 0 (r.toInt64))) (fun σ1 => post 1 (σ1, f)) σ) : Met l yL_without (Cond.codeWith yL_without cL_without 4 (some .int) [(0, 9, 12, 18)] :: tb_L) ({ frames := 10, cells := 1, slots := 6, locals := 170 }) (hlPc D c q co o ev σ f [.ref (q 0), .int x1, .ref o]) (va_Qi post (hlB D c q co o) (hlA q o)) 1 6 (hlA q o) := by
  refine xm_ofWH (cc := cL_without) (maxL := 4) (ret := (some .int)) (hh := [(0, 9, 12, 18)]) (by decide) rfl ?_
  intro p e s m args below meth c₀ s₁ Bd hml hv
  obtain ⟨rfl, hP, hPo, hK, hKo, hD, ho, hE⟩ := hv
  have hx := Bd.exec
  have hb := Bd.bytes
  have hr := Bd.returns
  have hts := atoms_spec (ws := Cond.codeWith yL_without cL_without 4 (some .int) [(0, 9, 12, 18)] :: tb_L) Bd.pre
  have htab := vx_table (x := yL_without) Bd (hts _ List.mem_cons_self)
  have htb : ∀ w ∈ tb_L, w.before [.ref (q 0), .int x1, .ref o].toArray s = true := fun w h => hts w (List.mem_cons_of_mem _ h)
  have hown : s.vm.findClass RL = some m.cls := findClass_of_methodNamed Bd.named
  have hlocks := Bd.notSynchronized
  have hS : va_S (hlA q o) s.heap s.heap [] := va_S.rf
  have hl := lv_entry ([.ref (q 0), .int x1, .ref o]) (n := 4) (Nat.le_of_ble_eq_true rfl)
  rw [lg_entry_eq]
  generalize (lg_sl ([.ref (q 0), .int x1, .ref o]) ++ List.replicate (4 - (lg_sl ([.ref (q 0), .int x1, .ref o])).length) Slot.unset).toArray = ls at hl ⊢
  have hl : lv_has ls 4 [(0, .ref (q 0)), (1, .int x1), (2, .ref o)] := hl
  refine lv_aload_n hx hb dL_without_0 rfl (lv_at hl 2 rfl) ?_
  refine lv_iconst (v := (0 : Int32)) hx hb dL_without_1 (by decide) ?_
  refine lv_aload_n hx hb dL_without_2 rfl (lv_at hl 0 rfl) ?_
  refine lv_iload_n hx hb dL_without_3 rfl (lv_at hl 1 rfl) ?_
  refine vx_calli (vx_runV (As := [.int x1]) (rest := [.int (0 : Int32), .ref o]) ⟨hx, hb, hml, hown, htb⟩ (kcX7_without l D c q ev hev hst hX σ x1 _ _ hw) (tb_CW htb kX7_without tb_1092 tb_1093 tb_1094 ⟨Nat.le_of_ble_eq_true rfl, Nat.le_of_ble_eq_true rfl⟩) (hl_pre hev hK hP hD hE (fun _ _ _ => rfl)) rfl rfl hl.1 rfl (lv_room (Nat.le_of_ble_eq_true rfl)) dL_without_4 ⟨Nat.le_of_ble_eq_true rfl, Nat.le_of_ble_eq_true rfl⟩) hS (fun a _ h => Or.inl h) (fun a h => Or.inl h) (fun a _ h => Or.inl h) (fun E9 ce9 q9 σx t H1 locs1 ht hvm hpx hBX hz1 hk1 hS hce hcv hcl => ?_) (fun r σ1 t H1 locs1 ht hvm hw hB hz1 hk1 hS => ?_)
  · obtain ⟨rfl, hPx⟩ := hBX
    have hPx : va_P D vwCl (xw c q σx) H1 := ht ▸ hPx
    have hPo : va_P D vwCl (hlO co o f) H1 := hPo.kept (fun k z hz => hk1 z.1 ((hPo k z hz).lt) (by match k, hz with | 0, hz => cases hz; exact ho | k + 1, hz => simp [hlO] at hz))
    refine xc_catch (own := "StrikeHallLaw") (name := "java/util/NoSuchElementException") hown ⟨0, 9, 12, 18⟩ htab rfl (by decide) (htb _ tb_878) (tb_useF (hX s s.heap hE).2.2.1 _ tbF_885) hce hcv hcl ?_
    refine lv_astore_n (lv' := [(3, .ref q9), (0, .ref (q 0)), (1, .int x1), (2, .ref o)]) hx hb dL_without_12 rfl hl (by decide) rfl (fun ls hl => ?_)
    refine lv_iconst (v := (1 : Int32)) hx hb dL_without_13 (by decide) ?_
    exact W.iret hx hb hr (fun t2 ht2 hW => ⟨⟨_, (σx, f), rfl, hpx, by rw [ht2]; exact hPx, by rw [ht2]; exact hPo⟩, hS.F ht2⟩) hS.2.2 dL_without_14
  · have hP1 : va_P D vwCl (xw c q σ1) H1 := ht ▸ hB
    have hPo : va_P D vwCl (hlO co o f) H1 := hPo.kept (fun k z hz => hk1 z.1 ((hPo k z hz).lt) (by match k, hz with | 0, hz => cases hz; exact ho | k + 1, hz => simp [hlO] at hz))
    have hD1 : va_D (wdA 36 q) (xw c q σ1) := xw_D hD
    refine lv_i2l hx hb dL_without_7 rfl ?_
    refine hl_last hx hb hK hKo hP1 hPo hD1 ho hS dL_without_8 (fun H2 locs2 hP2 hPo2 hS => ?_)
    refine lv_goto (tgt := 15) hx hb dL_without_9 (by decide) ?_
    refine lv_iconst (v := (0 : Int32)) hx hb dL_without_15 (by decide) ?_
    exact W.iret hx hb hr (fun t2 ht2 hW => ⟨⟨_, (σ1, vp_updL f 0 (r.toInt64)), rfl, hw, by rw [ht2]; exact hP2, by rw [ht2]; exact hPo2⟩, hS.F ht2⟩) hS.2.2 dL_without_16
theorem tb_1102 : Cond.codeWith ⟨"StrikeHallLaw", "add", "(LStrikeHall;I[J)I"⟩ method_19_code 4 (some .int) [(0, 9, 12, 18)] ∈ tb_L := tb_mem 1102 (by decide +kernel) rfl
set_option maxHeartbeats 4000000 in
set_option maxRecDepth 100000 in
theorem khL_add (l : Launch) (D : va_G) (c : Nat → ClassId) (q : Nat → Nat) (ev : State → Heap → Prop) (hev : evOK (wdA 36 q) ev) (hst : l.stackTraces = false) (hX : ∀ (U : State) (H : Heap), ev U H → evT (wdA 36 q) U H) (co : ClassId) (o : Nat) (σ : hsS) (f : Nat → Int64) (x1 : Int32) (post : Int32 → hsS × (Nat → Int64) → Prop) (hw : wX7_add x1 (fun r σ1 => post 0 (σ1, vp_updL f 0 (r.toInt64))) (fun σ1 => post 1 (σ1, f)) σ) : Met l yL_add (Cond.codeWith yL_add cL_add 4 (some .int) [(0, 9, 12, 18)] :: tb_L) ({ frames := 10, cells := 1, slots := 6, locals := 170 }) (hlPc D c q co o ev σ f [.ref (q 0), .int x1, .ref o]) (va_Qi post (hlB D c q co o) (hlA q o)) 1 6 (hlA q o) := by
  refine xm_ofWH (cc := cL_add) (maxL := 4) (ret := (some .int)) (hh := [(0, 9, 12, 18)]) (by decide) rfl ?_
  intro p e s m args below meth c₀ s₁ Bd hml hv
  obtain ⟨rfl, hP, hPo, hK, hKo, hD, ho, hE⟩ := hv
  have hx := Bd.exec
  have hb := Bd.bytes
  have hr := Bd.returns
  have hts := atoms_spec (ws := Cond.codeWith yL_add cL_add 4 (some .int) [(0, 9, 12, 18)] :: tb_L) Bd.pre
  have htab := vx_table (x := yL_add) Bd (hts _ List.mem_cons_self)
  have htb : ∀ w ∈ tb_L, w.before [.ref (q 0), .int x1, .ref o].toArray s = true := fun w h => hts w (List.mem_cons_of_mem _ h)
  have hown : s.vm.findClass RL = some m.cls := findClass_of_methodNamed Bd.named
  have hlocks := Bd.notSynchronized
  have hS : va_S (hlA q o) s.heap s.heap [] := va_S.rf
  have hl := lv_entry ([.ref (q 0), .int x1, .ref o]) (n := 4) (Nat.le_of_ble_eq_true rfl)
  rw [lg_entry_eq]
  generalize (lg_sl ([.ref (q 0), .int x1, .ref o]) ++ List.replicate (4 - (lg_sl ([.ref (q 0), .int x1, .ref o])).length) Slot.unset).toArray = ls at hl ⊢
  have hl : lv_has ls 4 [(0, .ref (q 0)), (1, .int x1), (2, .ref o)] := hl
  refine lv_aload_n hx hb dL_add_0 rfl (lv_at hl 2 rfl) ?_
  refine lv_iconst (v := (0 : Int32)) hx hb dL_add_1 (by decide) ?_
  refine lv_aload_n hx hb dL_add_2 rfl (lv_at hl 0 rfl) ?_
  refine lv_iload_n hx hb dL_add_3 rfl (lv_at hl 1 rfl) ?_
  refine vx_calli (vx_runV (As := [.int x1]) (rest := [.int (0 : Int32), .ref o]) ⟨hx, hb, hml, hown, htb⟩ (kcX7_add l D c q ev hev hst hX σ x1 _ _ hw) (tb_CW htb kX7_add tb_1103 tb_1104 tb_1105 ⟨Nat.le_of_ble_eq_true rfl, Nat.le_of_ble_eq_true rfl⟩) (hl_pre hev hK hP hD hE (fun _ _ _ => rfl)) rfl rfl hl.1 rfl (lv_room (Nat.le_of_ble_eq_true rfl)) dL_add_4 ⟨Nat.le_of_ble_eq_true rfl, Nat.le_of_ble_eq_true rfl⟩) hS (fun a _ h => Or.inl h) (fun a h => Or.inl h) (fun a _ h => Or.inl h) (fun E9 ce9 q9 σx t H1 locs1 ht hvm hpx hBX hz1 hk1 hS hce hcv hcl => ?_) (fun r σ1 t H1 locs1 ht hvm hw hB hz1 hk1 hS => ?_)
  · obtain ⟨rfl, hPx⟩ := hBX
    have hPx : va_P D vwCl (xw c q σx) H1 := ht ▸ hPx
    have hPo : va_P D vwCl (hlO co o f) H1 := hPo.kept (fun k z hz => hk1 z.1 ((hPo k z hz).lt) (by match k, hz with | 0, hz => cases hz; exact ho | k + 1, hz => simp [hlO] at hz))
    refine xc_catch (own := "StrikeHallLaw") (name := "java/util/NoSuchElementException") hown ⟨0, 9, 12, 18⟩ htab rfl (by decide) (htb _ tb_878) (tb_useF (hX s s.heap hE).2.2.1 _ tbF_885) hce hcv hcl ?_
    refine lv_astore_n (lv' := [(3, .ref q9), (0, .ref (q 0)), (1, .int x1), (2, .ref o)]) hx hb dL_add_12 rfl hl (by decide) rfl (fun ls hl => ?_)
    refine lv_iconst (v := (1 : Int32)) hx hb dL_add_13 (by decide) ?_
    exact W.iret hx hb hr (fun t2 ht2 hW => ⟨⟨_, (σx, f), rfl, hpx, by rw [ht2]; exact hPx, by rw [ht2]; exact hPo⟩, hS.F ht2⟩) hS.2.2 dL_add_14
  · have hP1 : va_P D vwCl (xw c q σ1) H1 := ht ▸ hB
    have hPo : va_P D vwCl (hlO co o f) H1 := hPo.kept (fun k z hz => hk1 z.1 ((hPo k z hz).lt) (by match k, hz with | 0, hz => cases hz; exact ho | k + 1, hz => simp [hlO] at hz))
    have hD1 : va_D (wdA 36 q) (xw c q σ1) := xw_D hD
    refine lv_i2l hx hb dL_add_7 rfl ?_
    refine hl_last hx hb hK hKo hP1 hPo hD1 ho hS dL_add_8 (fun H2 locs2 hP2 hPo2 hS => ?_)
    refine lv_goto (tgt := 15) hx hb dL_add_9 (by decide) ?_
    refine lv_iconst (v := (0 : Int32)) hx hb dL_add_15 (by decide) ?_
    exact W.iret hx hb hr (fun t2 ht2 hW => ⟨⟨_, (σ1, vp_updL f 0 (r.toInt64)), rfl, hw, by rw [ht2]; exact hP2, by rw [ht2]; exact hPo2⟩, hS.F ht2⟩) hS.2.2 dL_add_16
theorem tb_1109 : Cond.codeWith ⟨"StrikeHallLaw", "ties", "(LStrikeHall;I[J)I"⟩ method_20_code 4 (some .int) [(0, 9, 12, 18)] ∈ tb_L := tb_mem 1109 (by decide +kernel) rfl
set_option maxHeartbeats 4000000 in
set_option maxRecDepth 100000 in
theorem khL_ties (l : Launch) (D : va_G) (c : Nat → ClassId) (q : Nat → Nat) (ev : State → Heap → Prop) (hev : evOK (wdA 36 q) ev) (tF : Nat) (hF : ∀ (U : State) (H : Heap), ev U H → va_Z "StrikeHall" "FACTORIALS" "[I" (.ref tF) (wdA 36 q) U H ∧ va_T .int tF 10 (fun j => .int (xfact j)) (wdA 36 q) U H) (hst : l.stackTraces = false) (hX : ∀ (U : State) (H : Heap), ev U H → evT (wdA 36 q) U H) (co : ClassId) (o : Nat) (σ : hsS) (f : Nat → Int64) (x1 : Int32) (post : Int32 → hsS × (Nat → Int64) → Prop) (hw : wX7_ties x1 (fun r σ1 => post 0 (σ1, vp_updL f 0 (r.toInt64))) (fun σ1 => post 1 (σ1, f)) σ) : Met l yL_ties (Cond.codeWith yL_ties cL_ties 4 (some .int) [(0, 9, 12, 18)] :: tb_L) ({ frames := 9, cells := 1, slots := 6, locals := 161 }) (hlPc D c q co o ev σ f [.ref (q 0), .int x1, .ref o]) (va_Qi post (hlB D c q co o) (hlA q o)) 1 6 (hlA q o) := by
  refine xm_ofWH (cc := cL_ties) (maxL := 4) (ret := (some .int)) (hh := [(0, 9, 12, 18)]) (by decide) rfl ?_
  intro p e s m args below meth c₀ s₁ Bd hml hv
  obtain ⟨rfl, hP, hPo, hK, hKo, hD, ho, hE⟩ := hv
  have hx := Bd.exec
  have hb := Bd.bytes
  have hr := Bd.returns
  have hts := atoms_spec (ws := Cond.codeWith yL_ties cL_ties 4 (some .int) [(0, 9, 12, 18)] :: tb_L) Bd.pre
  have htab := vx_table (x := yL_ties) Bd (hts _ List.mem_cons_self)
  have htb : ∀ w ∈ tb_L, w.before [.ref (q 0), .int x1, .ref o].toArray s = true := fun w h => hts w (List.mem_cons_of_mem _ h)
  have hown : s.vm.findClass RL = some m.cls := findClass_of_methodNamed Bd.named
  have hlocks := Bd.notSynchronized
  have hS : va_S (hlA q o) s.heap s.heap [] := va_S.rf
  have hl := lv_entry ([.ref (q 0), .int x1, .ref o]) (n := 4) (Nat.le_of_ble_eq_true rfl)
  rw [lg_entry_eq]
  generalize (lg_sl ([.ref (q 0), .int x1, .ref o]) ++ List.replicate (4 - (lg_sl ([.ref (q 0), .int x1, .ref o])).length) Slot.unset).toArray = ls at hl ⊢
  have hl : lv_has ls 4 [(0, .ref (q 0)), (1, .int x1), (2, .ref o)] := hl
  refine lv_aload_n hx hb dL_ties_0 rfl (lv_at hl 2 rfl) ?_
  refine lv_iconst (v := (0 : Int32)) hx hb dL_ties_1 (by decide) ?_
  refine lv_aload_n hx hb dL_ties_2 rfl (lv_at hl 0 rfl) ?_
  refine lv_iload_n hx hb dL_ties_3 rfl (lv_at hl 1 rfl) ?_
  refine vx_calli (vx_runV (As := [.int x1]) (rest := [.int (0 : Int32), .ref o]) ⟨hx, hb, hml, hown, htb⟩ (kcX7_ties l D c q ev hev tF hF hst hX σ x1 _ _ hw) (tb_CW htb kX7_ties tb_1110 tb_1111 tb_1112 ⟨Nat.le_of_ble_eq_true rfl, Nat.le_of_ble_eq_true rfl⟩) (hl_pre hev hK hP hD hE (fun _ _ _ => rfl)) rfl rfl hl.1 rfl (lv_room (Nat.le_of_ble_eq_true rfl)) dL_ties_4 ⟨Nat.le_of_ble_eq_true rfl, Nat.le_of_ble_eq_true rfl⟩) hS (fun a _ h => Or.inl h) (fun a h => Or.inl h) (fun a _ h => Or.inl h) (fun E9 ce9 q9 σx t H1 locs1 ht hvm hpx hBX hz1 hk1 hS hce hcv hcl => ?_) (fun r σ1 t H1 locs1 ht hvm hw hB hz1 hk1 hS => ?_)
  · obtain ⟨rfl, hPx⟩ := hBX
    have hPx : va_P D vwCl (xw c q σx) H1 := ht ▸ hPx
    have hPo : va_P D vwCl (hlO co o f) H1 := hPo.kept (fun k z hz => hk1 z.1 ((hPo k z hz).lt) (by match k, hz with | 0, hz => cases hz; exact ho | k + 1, hz => simp [hlO] at hz))
    refine xc_catch (own := "StrikeHallLaw") (name := "java/util/NoSuchElementException") hown ⟨0, 9, 12, 18⟩ htab rfl (by decide) (htb _ tb_878) (tb_useF (hX s s.heap hE).2.2.1 _ tbF_885) hce hcv hcl ?_
    refine lv_astore_n (lv' := [(3, .ref q9), (0, .ref (q 0)), (1, .int x1), (2, .ref o)]) hx hb dL_ties_12 rfl hl (by decide) rfl (fun ls hl => ?_)
    refine lv_iconst (v := (1 : Int32)) hx hb dL_ties_13 (by decide) ?_
    exact W.iret hx hb hr (fun t2 ht2 hW => ⟨⟨_, (σx, f), rfl, hpx, by rw [ht2]; exact hPx, by rw [ht2]; exact hPo⟩, hS.F ht2⟩) hS.2.2 dL_ties_14
  · have hP1 : va_P D vwCl (xw c q σ1) H1 := ht ▸ hB
    have hPo : va_P D vwCl (hlO co o f) H1 := hPo.kept (fun k z hz => hk1 z.1 ((hPo k z hz).lt) (by match k, hz with | 0, hz => cases hz; exact ho | k + 1, hz => simp [hlO] at hz))
    have hD1 : va_D (wdA 36 q) (xw c q σ1) := xw_D hD
    refine lv_i2l hx hb dL_ties_7 rfl ?_
    refine hl_last hx hb hK hKo hP1 hPo hD1 ho hS dL_ties_8 (fun H2 locs2 hP2 hPo2 hS => ?_)
    refine lv_goto (tgt := 15) hx hb dL_ties_9 (by decide) ?_
    refine lv_iconst (v := (0 : Int32)) hx hb dL_ties_15 (by decide) ?_
    exact W.iret hx hb hr (fun t2 ht2 hW => ⟨⟨_, (σ1, vp_updL f 0 (r.toInt64)), rfl, hw, by rw [ht2]; exact hP2, by rw [ht2]; exact hPo2⟩, hS.F ht2⟩) hS.2.2 dL_ties_16
theorem tb_1117 : Cond.codeWith ⟨"StrikeHallLaw", "judge", "(LStrikeHall;II[J)I"⟩ method_21_code 5 (some .int) [(0, 10, 13, 18)] ∈ tb_L := tb_mem 1117 (by decide +kernel) rfl
set_option maxHeartbeats 4000000 in
set_option maxRecDepth 100000 in
theorem khL_judge (l : Launch) (D : va_G) (c : Nat → ClassId) (q : Nat → Nat) (ev : State → Heap → Prop) (hev : evOK (wdA 36 q) ev) (hst : l.stackTraces = false) (hX : ∀ (U : State) (H : Heap), ev U H → evT (wdA 36 q) U H) (co : ClassId) (o : Nat) (σ : hsS) (f : Nat → Int64) (x1 : Int32) (x2 : Int32) (post : Int32 → hsS × (Nat → Int64) → Prop) (hw : wX7_judge x1 x2 (fun r σ1 => post 0 (σ1, vp_updL f 0 (r.toInt64))) (fun σ1 => post 1 (σ1, f)) σ) : Met l yL_judge (Cond.codeWith yL_judge cL_judge 5 (some .int) [(0, 10, 13, 18)] :: tb_L) ({ frames := 10, cells := 2, slots := 12, locals := 171 }) (hlPc D c q co o ev σ f [.ref (q 0), .int x1, .int x2, .ref o]) (va_Qi post (hlB D c q co o) (hlA q o)) 2 12 (hlA q o) := by
  refine xm_ofWH (cc := cL_judge) (maxL := 5) (ret := (some .int)) (hh := [(0, 10, 13, 18)]) (by decide) rfl ?_
  intro p e s m args below meth c₀ s₁ Bd hml hv
  obtain ⟨rfl, hP, hPo, hK, hKo, hD, ho, hE⟩ := hv
  have hx := Bd.exec
  have hb := Bd.bytes
  have hr := Bd.returns
  have hts := atoms_spec (ws := Cond.codeWith yL_judge cL_judge 5 (some .int) [(0, 10, 13, 18)] :: tb_L) Bd.pre
  have htab := vx_table (x := yL_judge) Bd (hts _ List.mem_cons_self)
  have htb : ∀ w ∈ tb_L, w.before [.ref (q 0), .int x1, .int x2, .ref o].toArray s = true := fun w h => hts w (List.mem_cons_of_mem _ h)
  have hown : s.vm.findClass RL = some m.cls := findClass_of_methodNamed Bd.named
  have hlocks := Bd.notSynchronized
  have hS : va_S (hlA q o) s.heap s.heap [] := va_S.rf
  have hl := lv_entry ([.ref (q 0), .int x1, .int x2, .ref o]) (n := 5) (Nat.le_of_ble_eq_true rfl)
  rw [lg_entry_eq]
  generalize (lg_sl ([.ref (q 0), .int x1, .int x2, .ref o]) ++ List.replicate (5 - (lg_sl ([.ref (q 0), .int x1, .int x2, .ref o])).length) Slot.unset).toArray = ls at hl ⊢
  have hl : lv_has ls 5 [(0, .ref (q 0)), (1, .int x1), (2, .int x2), (3, .ref o)] := hl
  refine lv_aload_n hx hb dL_judge_0 rfl (lv_at hl 3 rfl) ?_
  refine lv_iconst (v := (0 : Int32)) hx hb dL_judge_1 (by decide) ?_
  refine lv_aload_n hx hb dL_judge_2 rfl (lv_at hl 0 rfl) ?_
  refine lv_iload_n hx hb dL_judge_3 rfl (lv_at hl 1 rfl) ?_
  refine lv_iload_n hx hb dL_judge_4 rfl (lv_at hl 2 rfl) ?_
  refine vx_calli (vx_runV (As := [.int x1, .int x2]) (rest := [.int (0 : Int32), .ref o]) ⟨hx, hb, hml, hown, htb⟩ (kcX7_judge l D c q ev hev hst hX σ x1 x2 _ _ hw) (tb_CW htb kX7_judge tb_1118 tb_1119 tb_1120 ⟨Nat.le_of_ble_eq_true rfl, Nat.le_of_ble_eq_true rfl⟩) (hl_pre hev hK hP hD hE (fun _ _ _ => rfl)) rfl rfl hl.1 rfl (lv_room (Nat.le_of_ble_eq_true rfl)) dL_judge_5 ⟨Nat.le_of_ble_eq_true rfl, Nat.le_of_ble_eq_true rfl⟩) hS (fun a _ h => Or.inl h) (fun a h => Or.inl h) (fun a _ h => Or.inl h) (fun E9 ce9 q9 σx t H1 locs1 ht hvm hpx hBX hz1 hk1 hS hce hcv hcl => ?_) (fun r σ1 t H1 locs1 ht hvm hw hB hz1 hk1 hS => ?_)
  · obtain ⟨rfl, hPx⟩ := hBX
    have hPx : va_P D vwCl (xw c q σx) H1 := ht ▸ hPx
    have hPo : va_P D vwCl (hlO co o f) H1 := hPo.kept (fun k z hz => hk1 z.1 ((hPo k z hz).lt) (by match k, hz with | 0, hz => cases hz; exact ho | k + 1, hz => simp [hlO] at hz))
    refine xc_catch (own := "StrikeHallLaw") (name := "java/util/NoSuchElementException") hown ⟨0, 10, 13, 18⟩ htab rfl (by decide) (htb _ tb_878) (tb_useF (hX s s.heap hE).2.2.1 _ tbF_885) hce hcv hcl ?_
    refine lv_astore (lv' := [(4, .ref q9), (0, .ref (q 0)), (1, .int x1), (2, .int x2), (3, .ref o)]) hx hb dL_judge_13 hl (by decide) rfl (fun ls hl => ?_)
    refine lv_iconst (v := (1 : Int32)) hx hb dL_judge_15 (by decide) ?_
    exact W.iret hx hb hr (fun t2 ht2 hW => ⟨⟨_, (σx, f), rfl, hpx, by rw [ht2]; exact hPx, by rw [ht2]; exact hPo⟩, hS.F ht2⟩) hS.2.2 dL_judge_16
  · have hP1 : va_P D vwCl (xw c q σ1) H1 := ht ▸ hB
    have hPo : va_P D vwCl (hlO co o f) H1 := hPo.kept (fun k z hz => hk1 z.1 ((hPo k z hz).lt) (by match k, hz with | 0, hz => cases hz; exact ho | k + 1, hz => simp [hlO] at hz))
    have hD1 : va_D (wdA 36 q) (xw c q σ1) := xw_D hD
    refine lv_i2l hx hb dL_judge_8 rfl ?_
    refine hl_last hx hb hK hKo hP1 hPo hD1 ho hS dL_judge_9 (fun H2 locs2 hP2 hPo2 hS => ?_)
    refine lv_goto (tgt := 17) hx hb dL_judge_10 (by decide) ?_
    refine lv_iconst (v := (0 : Int32)) hx hb dL_judge_17 (by decide) ?_
    exact W.iret hx hb hr (fun t2 ht2 hW => ⟨⟨_, (σ1, vp_updL f 0 (r.toInt64)), rfl, hw, by rw [ht2]; exact hP2, by rw [ht2]; exact hPo2⟩, hS.F ht2⟩) hS.2.2 dL_judge_18
theorem tb_1145 : Cond.codeWith ⟨"StrikeHallLaw", "hold", "(LStrikeHall;III[J)I"⟩ method_22_code 6 (some .int) [(0, 19, 22, 18)] ∈ tb_L := tb_mem 1145 (by decide +kernel) rfl
set_option maxHeartbeats 4000000 in
set_option maxRecDepth 100000 in
theorem khL_hold (l : Launch) (D : va_G) (c : Nat → ClassId) (q : Nat → Nat) (ev : State → Heap → Prop) (hev : evOK (wdA 36 q) ev) (hst : l.stackTraces = false) (hX : ∀ (U : State) (H : Heap), ev U H → evT (wdA 36 q) U H) (co : ClassId) (o : Nat) (σ : hsS) (f : Nat → Int64) (x1 : Int32) (x2 : Int32) (x3 : Int32) (post : Int32 → hsS × (Nat → Int64) → Prop) (hw : wX7_hold x1 x2 x3 (fun r σ1 => post 0 (σ1, vp_updL f 0 (if r = 0 then 0 else 1))) (fun σ1 => post 1 (σ1, f)) σ) : Met l yL_hold (Cond.codeWith yL_hold cL_hold 6 (some .int) [(0, 19, 22, 18)] :: tb_L) ({ frames := 10, cells := 1, slots := 6, locals := 172 }) (hlPc D c q co o ev σ f [.ref (q 0), .int x1, .int x2, .int x3, .ref o]) (va_Qi post (hlB D c q co o) (hlA q o)) 1 6 (hlA q o) := by
  refine xm_ofWH (cc := cL_hold) (maxL := 6) (ret := (some .int)) (hh := [(0, 19, 22, 18)]) (by decide) rfl ?_
  intro p e s m args below meth c₀ s₁ Bd hml hv
  obtain ⟨rfl, hP, hPo, hK, hKo, hD, ho, hE⟩ := hv
  have hx := Bd.exec
  have hb := Bd.bytes
  have hr := Bd.returns
  have hts := atoms_spec (ws := Cond.codeWith yL_hold cL_hold 6 (some .int) [(0, 19, 22, 18)] :: tb_L) Bd.pre
  have htab := vx_table (x := yL_hold) Bd (hts _ List.mem_cons_self)
  have htb : ∀ w ∈ tb_L, w.before [.ref (q 0), .int x1, .int x2, .int x3, .ref o].toArray s = true := fun w h => hts w (List.mem_cons_of_mem _ h)
  have hown : s.vm.findClass RL = some m.cls := findClass_of_methodNamed Bd.named
  have hlocks := Bd.notSynchronized
  have hS : va_S (hlA q o) s.heap s.heap [] := va_S.rf
  have hl := lv_entry ([.ref (q 0), .int x1, .int x2, .int x3, .ref o]) (n := 6) (Nat.le_of_ble_eq_true rfl)
  rw [lg_entry_eq]
  generalize (lg_sl ([.ref (q 0), .int x1, .int x2, .int x3, .ref o]) ++ List.replicate (6 - (lg_sl ([.ref (q 0), .int x1, .int x2, .int x3, .ref o])).length) Slot.unset).toArray = ls at hl ⊢
  have hl : lv_has ls 6 [(0, .ref (q 0)), (1, .int x1), (2, .int x2), (3, .int x3), (4, .ref o)] := hl
  refine lv_aload hx hb dL_hold_0 (lv_at hl 4 rfl) ?_
  refine lv_iconst (v := (0 : Int32)) hx hb dL_hold_2 (by decide) ?_
  refine lv_aload_n hx hb dL_hold_3 rfl (lv_at hl 0 rfl) ?_
  refine lv_iload_n hx hb dL_hold_4 rfl (lv_at hl 1 rfl) ?_
  refine lv_iload_n hx hb dL_hold_5 rfl (lv_at hl 2 rfl) ?_
  refine lv_iload_n hx hb dL_hold_6 rfl (lv_at hl 3 rfl) ?_
  refine vx_calli (vx_runV (As := [.int x1, .int x2, .int x3]) (rest := [.int (0 : Int32), .ref o]) ⟨hx, hb, hml, hown, htb⟩ (kcX7_hold l D c q ev hev hst hX σ x1 x2 x3 _ _ hw) (tb_CW htb kX7_hold tb_1146 tb_1147 tb_1148 ⟨Nat.le_of_ble_eq_true rfl, Nat.le_of_ble_eq_true rfl⟩) (hl_pre hev hK hP hD hE (fun _ _ _ => rfl)) rfl rfl hl.1 rfl (lv_room (Nat.le_of_ble_eq_true rfl)) dL_hold_7 ⟨Nat.le_of_ble_eq_true rfl, Nat.le_of_ble_eq_true rfl⟩) hS (fun a _ h => Or.inl h) (fun a h => Or.inl h) (fun a _ h => Or.inl h) (fun E9 ce9 q9 σx t H1 locs1 ht hvm hpx hBX hz1 hk1 hS hce hcv hcl => ?_) (fun r σ1 t H1 locs1 ht hvm hw hB hz1 hk1 hS => ?_)
  · obtain ⟨rfl, hPx⟩ := hBX
    have hPx : va_P D vwCl (xw c q σx) H1 := ht ▸ hPx
    have hPo : va_P D vwCl (hlO co o f) H1 := hPo.kept (fun k z hz => hk1 z.1 ((hPo k z hz).lt) (by match k, hz with | 0, hz => cases hz; exact ho | k + 1, hz => simp [hlO] at hz))
    refine xc_catch (own := "StrikeHallLaw") (name := "java/util/NoSuchElementException") hown ⟨0, 19, 22, 18⟩ htab rfl (by decide) (htb _ tb_878) (tb_useF (hX s s.heap hE).2.2.1 _ tbF_885) hce hcv hcl ?_
    refine lv_astore (lv' := [(5, .ref q9), (0, .ref (q 0)), (1, .int x1), (2, .int x2), (3, .int x3), (4, .ref o)]) hx hb dL_hold_22 hl (by decide) rfl (fun ls hl => ?_)
    refine lv_iconst (v := (1 : Int32)) hx hb dL_hold_24 (by decide) ?_
    exact W.iret hx hb hr (fun t2 ht2 hW => ⟨⟨_, (σx, f), rfl, hpx, by rw [ht2]; exact hPx, by rw [ht2]; exact hPo⟩, hS.F ht2⟩) hS.2.2 dL_hold_25
  · have hP1 : va_P D vwCl (xw c q σ1) H1 := ht ▸ hB
    have hPo : va_P D vwCl (hlO co o f) H1 := hPo.kept (fun k z hz => hk1 z.1 ((hPo k z hz).lt) (by match k, hz with | 0, hz => cases hz; exact ho | k + 1, hz => simp [hlO] at hz))
    have hD1 : va_D (wdA 36 q) (xw c q σ1) := xw_D hD
    refine lv_if_eq (tgt := 17) hx hb dL_hold_10 (by decide) (fun c1 => ?_) (fun c1 => ?_)
    · have hw : post 0 (σ1, vp_updL f 0 0) := by have h := hw; simp only [c1, if_true] at h; exact h
      refine lv_lconst (v := (0 : Int64)) hx hb dL_hold_17 (by decide) ?_
      refine hl_last hx hb hK hKo hP1 hPo hD1 ho hS dL_hold_18 (fun H2 locs2 hP2 hPo2 hS => ?_)
      refine lv_goto (tgt := 26) hx hb dL_hold_19 (by decide) ?_
      refine lv_iconst (v := (0 : Int32)) hx hb dL_hold_26 (by decide) ?_
      exact W.iret hx hb hr (fun t2 ht2 hW => ⟨⟨_, (σ1, vp_updL f 0 (0)), rfl, hw, by rw [ht2]; exact hP2, by rw [ht2]; exact hPo2⟩, hS.F ht2⟩) hS.2.2 dL_hold_27
    · have hw : post 0 (σ1, vp_updL f 0 1) := by have h := hw; simp only [c1, if_false] at h; exact h
      refine lv_lconst (v := (1 : Int64)) hx hb dL_hold_13 (by decide) ?_
      refine lv_goto (tgt := 18) hx hb dL_hold_14 (by decide) ?_
      refine hl_last hx hb hK hKo hP1 hPo hD1 ho hS dL_hold_18 (fun H2 locs2 hP2 hPo2 hS => ?_)
      refine lv_goto (tgt := 26) hx hb dL_hold_19 (by decide) ?_
      refine lv_iconst (v := (0 : Int32)) hx hb dL_hold_26 (by decide) ?_
      exact W.iret hx hb hr (fun t2 ht2 hW => ⟨⟨_, (σ1, vp_updL f 0 (1)), rfl, hw, by rw [ht2]; exact hP2, by rw [ht2]; exact hPo2⟩, hS.F ht2⟩) hS.2.2 dL_hold_27
theorem tb_1153 : Cond.codeWith ⟨"StrikeHallLaw", "held", "(LStrikeHall;II[J)I"⟩ method_23_code 5 (some .int) [(0, 10, 13, 18)] ∈ tb_L := tb_mem 1153 (by decide +kernel) rfl
set_option maxHeartbeats 4000000 in
set_option maxRecDepth 100000 in
theorem khL_held (l : Launch) (D : va_G) (c : Nat → ClassId) (q : Nat → Nat) (ev : State → Heap → Prop) (hev : evOK (wdA 36 q) ev) (hst : l.stackTraces = false) (hX : ∀ (U : State) (H : Heap), ev U H → evT (wdA 36 q) U H) (co : ClassId) (o : Nat) (σ : hsS) (f : Nat → Int64) (x1 : Int32) (x2 : Int32) (post : Int32 → hsS × (Nat → Int64) → Prop) (hw : wX7_held x1 x2 (fun r σ1 => post 0 (σ1, vp_updL f 0 (r.toInt64))) (fun σ1 => post 1 (σ1, f)) σ) : Met l yL_held (Cond.codeWith yL_held cL_held 5 (some .int) [(0, 10, 13, 18)] :: tb_L) ({ frames := 10, cells := 1, slots := 6, locals := 172 }) (hlPc D c q co o ev σ f [.ref (q 0), .int x1, .int x2, .ref o]) (va_Qi post (hlB D c q co o) (hlA q o)) 1 6 (hlA q o) := by
  refine xm_ofWH (cc := cL_held) (maxL := 5) (ret := (some .int)) (hh := [(0, 10, 13, 18)]) (by decide) rfl ?_
  intro p e s m args below meth c₀ s₁ Bd hml hv
  obtain ⟨rfl, hP, hPo, hK, hKo, hD, ho, hE⟩ := hv
  have hx := Bd.exec
  have hb := Bd.bytes
  have hr := Bd.returns
  have hts := atoms_spec (ws := Cond.codeWith yL_held cL_held 5 (some .int) [(0, 10, 13, 18)] :: tb_L) Bd.pre
  have htab := vx_table (x := yL_held) Bd (hts _ List.mem_cons_self)
  have htb : ∀ w ∈ tb_L, w.before [.ref (q 0), .int x1, .int x2, .ref o].toArray s = true := fun w h => hts w (List.mem_cons_of_mem _ h)
  have hown : s.vm.findClass RL = some m.cls := findClass_of_methodNamed Bd.named
  have hlocks := Bd.notSynchronized
  have hS : va_S (hlA q o) s.heap s.heap [] := va_S.rf
  have hl := lv_entry ([.ref (q 0), .int x1, .int x2, .ref o]) (n := 5) (Nat.le_of_ble_eq_true rfl)
  rw [lg_entry_eq]
  generalize (lg_sl ([.ref (q 0), .int x1, .int x2, .ref o]) ++ List.replicate (5 - (lg_sl ([.ref (q 0), .int x1, .int x2, .ref o])).length) Slot.unset).toArray = ls at hl ⊢
  have hl : lv_has ls 5 [(0, .ref (q 0)), (1, .int x1), (2, .int x2), (3, .ref o)] := hl
  refine lv_aload_n hx hb dL_held_0 rfl (lv_at hl 3 rfl) ?_
  refine lv_iconst (v := (0 : Int32)) hx hb dL_held_1 (by decide) ?_
  refine lv_aload_n hx hb dL_held_2 rfl (lv_at hl 0 rfl) ?_
  refine lv_iload_n hx hb dL_held_3 rfl (lv_at hl 1 rfl) ?_
  refine lv_iload_n hx hb dL_held_4 rfl (lv_at hl 2 rfl) ?_
  refine vx_calli (vx_runV (As := [.int x1, .int x2]) (rest := [.int (0 : Int32), .ref o]) ⟨hx, hb, hml, hown, htb⟩ (kcX7_held l D c q ev hev hst hX σ x1 x2 _ _ hw) (tb_CW htb kX7_held tb_1154 tb_1155 tb_1156 ⟨Nat.le_of_ble_eq_true rfl, Nat.le_of_ble_eq_true rfl⟩) (hl_pre hev hK hP hD hE (fun _ _ _ => rfl)) rfl rfl hl.1 rfl (lv_room (Nat.le_of_ble_eq_true rfl)) dL_held_5 ⟨Nat.le_of_ble_eq_true rfl, Nat.le_of_ble_eq_true rfl⟩) hS (fun a _ h => Or.inl h) (fun a h => Or.inl h) (fun a _ h => Or.inl h) (fun E9 ce9 q9 σx t H1 locs1 ht hvm hpx hBX hz1 hk1 hS hce hcv hcl => ?_) (fun r σ1 t H1 locs1 ht hvm hw hB hz1 hk1 hS => ?_)
  · obtain ⟨rfl, hPx⟩ := hBX
    have hPx : va_P D vwCl (xw c q σx) H1 := ht ▸ hPx
    have hPo : va_P D vwCl (hlO co o f) H1 := hPo.kept (fun k z hz => hk1 z.1 ((hPo k z hz).lt) (by match k, hz with | 0, hz => cases hz; exact ho | k + 1, hz => simp [hlO] at hz))
    refine xc_catch (own := "StrikeHallLaw") (name := "java/util/NoSuchElementException") hown ⟨0, 10, 13, 18⟩ htab rfl (by decide) (htb _ tb_878) (tb_useF (hX s s.heap hE).2.2.1 _ tbF_885) hce hcv hcl ?_
    refine lv_astore (lv' := [(4, .ref q9), (0, .ref (q 0)), (1, .int x1), (2, .int x2), (3, .ref o)]) hx hb dL_held_13 hl (by decide) rfl (fun ls hl => ?_)
    refine lv_iconst (v := (1 : Int32)) hx hb dL_held_15 (by decide) ?_
    exact W.iret hx hb hr (fun t2 ht2 hW => ⟨⟨_, (σx, f), rfl, hpx, by rw [ht2]; exact hPx, by rw [ht2]; exact hPo⟩, hS.F ht2⟩) hS.2.2 dL_held_16
  · have hP1 : va_P D vwCl (xw c q σ1) H1 := ht ▸ hB
    have hPo : va_P D vwCl (hlO co o f) H1 := hPo.kept (fun k z hz => hk1 z.1 ((hPo k z hz).lt) (by match k, hz with | 0, hz => cases hz; exact ho | k + 1, hz => simp [hlO] at hz))
    have hD1 : va_D (wdA 36 q) (xw c q σ1) := xw_D hD
    refine lv_i2l hx hb dL_held_8 rfl ?_
    refine hl_last hx hb hK hKo hP1 hPo hD1 ho hS dL_held_9 (fun H2 locs2 hP2 hPo2 hS => ?_)
    refine lv_goto (tgt := 17) hx hb dL_held_10 (by decide) ?_
    refine lv_iconst (v := (0 : Int32)) hx hb dL_held_17 (by decide) ?_
    exact W.iret hx hb hr (fun t2 ht2 hW => ⟨⟨_, (σ1, vp_updL f 0 (r.toInt64)), rfl, hw, by rw [ht2]; exact hP2, by rw [ht2]; exact hPo2⟩, hS.F ht2⟩) hS.2.2 dL_held_18
theorem tb_1169 : Cond.codeWith ⟨"StrikeHallLaw", "left", "(LStrikeHall;II[J)I"⟩ method_24_code 5 (some .int) [(0, 10, 13, 18)] ∈ tb_L := tb_mem 1169 (by decide +kernel) rfl
set_option maxHeartbeats 4000000 in
set_option maxRecDepth 100000 in
theorem khL_left (l : Launch) (D : va_G) (c : Nat → ClassId) (q : Nat → Nat) (ev : State → Heap → Prop) (hev : evOK (wdA 36 q) ev) (hst : l.stackTraces = false) (hX : ∀ (U : State) (H : Heap), ev U H → evT (wdA 36 q) U H) (co : ClassId) (o : Nat) (σ : hsS) (f : Nat → Int64) (x1 : Int32) (x2 : Int32) (post : Int32 → hsS × (Nat → Int64) → Prop) (hw : wX7_left x1 x2 (fun r σ1 => post 0 (σ1, vp_updL f 0 (r.toInt64))) (fun σ1 => post 1 (σ1, f)) σ) : Met l yL_left (Cond.codeWith yL_left cL_left 5 (some .int) [(0, 10, 13, 18)] :: tb_L) ({ frames := 10, cells := 2, slots := 12, locals := 174 }) (hlPc D c q co o ev σ f [.ref (q 0), .int x1, .int x2, .ref o]) (va_Qi post (hlB D c q co o) (hlA q o)) 2 12 (hlA q o) := by
  refine xm_ofWH (cc := cL_left) (maxL := 5) (ret := (some .int)) (hh := [(0, 10, 13, 18)]) (by decide) rfl ?_
  intro p e s m args below meth c₀ s₁ Bd hml hv
  obtain ⟨rfl, hP, hPo, hK, hKo, hD, ho, hE⟩ := hv
  have hx := Bd.exec
  have hb := Bd.bytes
  have hr := Bd.returns
  have hts := atoms_spec (ws := Cond.codeWith yL_left cL_left 5 (some .int) [(0, 10, 13, 18)] :: tb_L) Bd.pre
  have htab := vx_table (x := yL_left) Bd (hts _ List.mem_cons_self)
  have htb : ∀ w ∈ tb_L, w.before [.ref (q 0), .int x1, .int x2, .ref o].toArray s = true := fun w h => hts w (List.mem_cons_of_mem _ h)
  have hown : s.vm.findClass RL = some m.cls := findClass_of_methodNamed Bd.named
  have hlocks := Bd.notSynchronized
  have hS : va_S (hlA q o) s.heap s.heap [] := va_S.rf
  have hl := lv_entry ([.ref (q 0), .int x1, .int x2, .ref o]) (n := 5) (Nat.le_of_ble_eq_true rfl)
  rw [lg_entry_eq]
  generalize (lg_sl ([.ref (q 0), .int x1, .int x2, .ref o]) ++ List.replicate (5 - (lg_sl ([.ref (q 0), .int x1, .int x2, .ref o])).length) Slot.unset).toArray = ls at hl ⊢
  have hl : lv_has ls 5 [(0, .ref (q 0)), (1, .int x1), (2, .int x2), (3, .ref o)] := hl
  refine lv_aload_n hx hb dL_left_0 rfl (lv_at hl 3 rfl) ?_
  refine lv_iconst (v := (0 : Int32)) hx hb dL_left_1 (by decide) ?_
  refine lv_aload_n hx hb dL_left_2 rfl (lv_at hl 0 rfl) ?_
  refine lv_iload_n hx hb dL_left_3 rfl (lv_at hl 1 rfl) ?_
  refine lv_iload_n hx hb dL_left_4 rfl (lv_at hl 2 rfl) ?_
  refine vx_calli (vx_runV (As := [.int x1, .int x2]) (rest := [.int (0 : Int32), .ref o]) ⟨hx, hb, hml, hown, htb⟩ (kcX7_left l D c q ev hev hst hX σ x1 x2 _ _ hw) (tb_CW htb kX7_left tb_1170 tb_1171 tb_1172 ⟨Nat.le_of_ble_eq_true rfl, Nat.le_of_ble_eq_true rfl⟩) (hl_pre hev hK hP hD hE (fun _ _ _ => rfl)) rfl rfl hl.1 rfl (lv_room (Nat.le_of_ble_eq_true rfl)) dL_left_5 ⟨Nat.le_of_ble_eq_true rfl, Nat.le_of_ble_eq_true rfl⟩) hS (fun a _ h => Or.inl h) (fun a h => Or.inl h) (fun a _ h => Or.inl h) (fun E9 ce9 q9 σx t H1 locs1 ht hvm hpx hBX hz1 hk1 hS hce hcv hcl => ?_) (fun r σ1 t H1 locs1 ht hvm hw hB hz1 hk1 hS => ?_)
  · obtain ⟨rfl, hPx⟩ := hBX
    have hPx : va_P D vwCl (xw c q σx) H1 := ht ▸ hPx
    have hPo : va_P D vwCl (hlO co o f) H1 := hPo.kept (fun k z hz => hk1 z.1 ((hPo k z hz).lt) (by match k, hz with | 0, hz => cases hz; exact ho | k + 1, hz => simp [hlO] at hz))
    refine xc_catch (own := "StrikeHallLaw") (name := "java/util/NoSuchElementException") hown ⟨0, 10, 13, 18⟩ htab rfl (by decide) (htb _ tb_878) (tb_useF (hX s s.heap hE).2.2.1 _ tbF_885) hce hcv hcl ?_
    refine lv_astore (lv' := [(4, .ref q9), (0, .ref (q 0)), (1, .int x1), (2, .int x2), (3, .ref o)]) hx hb dL_left_13 hl (by decide) rfl (fun ls hl => ?_)
    refine lv_iconst (v := (1 : Int32)) hx hb dL_left_15 (by decide) ?_
    exact W.iret hx hb hr (fun t2 ht2 hW => ⟨⟨_, (σx, f), rfl, hpx, by rw [ht2]; exact hPx, by rw [ht2]; exact hPo⟩, hS.F ht2⟩) hS.2.2 dL_left_16
  · have hP1 : va_P D vwCl (xw c q σ1) H1 := ht ▸ hB
    have hPo : va_P D vwCl (hlO co o f) H1 := hPo.kept (fun k z hz => hk1 z.1 ((hPo k z hz).lt) (by match k, hz with | 0, hz => cases hz; exact ho | k + 1, hz => simp [hlO] at hz))
    have hD1 : va_D (wdA 36 q) (xw c q σ1) := xw_D hD
    refine lv_i2l hx hb dL_left_8 rfl ?_
    refine hl_last hx hb hK hKo hP1 hPo hD1 ho hS dL_left_9 (fun H2 locs2 hP2 hPo2 hS => ?_)
    refine lv_goto (tgt := 17) hx hb dL_left_10 (by decide) ?_
    refine lv_iconst (v := (0 : Int32)) hx hb dL_left_17 (by decide) ?_
    exact W.iret hx hb hr (fun t2 ht2 hW => ⟨⟨_, (σ1, vp_updL f 0 (r.toInt64)), rfl, hw, by rw [ht2]; exact hP2, by rw [ht2]; exact hPo2⟩, hS.F ht2⟩) hS.2.2 dL_left_18
