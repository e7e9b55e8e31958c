/-! What a method of a world needs at its start and leaves at its end; calls that take the whole world along -/
def wdPc (D : va_G) (wd : hsS → va_W) (tys : List (ClassId × FieldType)) (A : Nat → Prop) (ev : State → Heap → Prop) (σ : hsS) (av : List Value) : Array Value → State → Prop :=
  va_Pc av (fun U => va_P D vwCl (wd σ) U.heap ∧ va_K D vwCl tys U ∧ va_D A (wd σ) ∧ ev U U.heap)
def wdB (D : va_G) (wd : hsS → va_W) (σ : hsS) (t : State) : Prop := va_P D vwCl (wd σ) t.heap
/-- an environment that stays while only cells of A change -/
def evOK (A : Nat → Prop) (ev : State → Heap → Prop) : Prop :=
  (∀ (U : State) (g : JFrame) (mk : MethodId) (a : Array Value), ev U U.heap → ev (U.calling g mk a) (U.calling g mk a).heap) ∧
  ∀ (s U : State) (H : Heap), ev s s.heap → s.WarmedH U.vm → U.heap = H → (∀ q : Nat, q < s.heap.size → ¬ A q → H[q]? = s.heap[q]?) → ev U H
theorem va_D_congr {A : Nat → Prop} {ws ws' : va_W} (e : ws.map Prod.fst = ws'.map Prod.fst) (h : va_D A ws) : va_D A ws' := by
  have key : ∀ (k : Nat) (q : Nat × va_E), ws'[k]? = some q → ∃ q', ws[k]? = some q' ∧ q'.1 = q.1 := by
    intro k q hk
    have h1 : (ws'.map Prod.fst)[k]? = some q.1 := by rw [List.getElem?_map, hk]; rfl
    rw [← e, List.getElem?_map] at h1
    cases hw : ws[k]? with
    | none => rw [hw] at h1; cases h1
    | some q' => rw [hw] at h1; exact ⟨q', rfl, Option.some.inj h1⟩
  refine ⟨fun i j p q hi hj hpq => ?_, fun k q hk => ?_⟩
  · obtain ⟨p', hp', ep⟩ := key i p hi
    obtain ⟨q', hq', eq⟩ := key j q hj
    exact h.1 i j p' q' hp' hq' (by rw [ep, eq, hpq])
  · obtain ⟨q', hq', eq⟩ := key k q hk
    rw [← eq]; exact h.2 k q' hq'
theorem xw_D {A : Nat → Prop} {c : Nat → ClassId} {q : Nat → Nat} {σ σ' : hsS} (h : va_D A (xw c q σ)) : va_D A (xw c q σ') := va_D_congr (ws := xw c q σ) (ws' := xw c q σ') rfl h
theorem mw_D {A : Nat → Prop} {c : Nat → ClassId} {q : Nat → Nat} {σ σ' : hsS} (h : va_D A (mw c q σ)) : va_D A (mw c q σ') := va_D_congr (ws := mw c q σ) (ws' := mw c q σ') rfl h
section WdCalls
variable {D : va_G} {wd : hsS → va_W} {tys : List (ClassId × FieldType)} {A : Nat → Prop} {ev : State → Heap → Prop} {σ : hsS} {s : State} {H : Heap} {locs : List Loc}
theorem wd_blind {av : List Value} (hev : evOK A ev) : FrameBlind (wdPc D wd tys A ev σ av) := fun a U g mk h =>
  ⟨h.1, h.2.1, va_K.moved (u := U) (U := U.calling g mk a) (Vm.Alike.refl U.vm) h.2.2.1, h.2.2.2.1, hev.1 U g mk a h.2.2.2.2⟩
theorem wd_pre (hev : evOK A ev) (hK : va_K D vwCl tys s) (hP : va_P D vwCl (wd σ) H) (hD : va_D A (wd σ)) (hE : ev s s.heap) (hS : va_S A s.heap H locs) (av : List Value) :
    ∀ U : State, U.heap = H → s.WarmedH U.vm → wdPc D wd tys A ev σ av av.toArray U := fun U hU hW =>
  ⟨rfl, by rw [hU]; exact hP, va_K.moved hW.alike hK, hD, by rw [hU]; exact hev.2 s U H hE hW hU hS.2.1⟩
theorem wd_preS {As : List Value} (hev : evOK A ev) (hK : va_K D vwCl tys s) (hP : va_P D vwCl (wd σ) H) (hD : va_D A (wd σ)) (hE : ev s s.heap) (hS : va_S A s.heap H locs) :
    PreS s H (wdPc D wd tys A ev σ As) As := ⟨wd_blind hev, wd_pre hev hK hP hD hE hS As⟩
theorem wd_preV {As : List Value} {b k ci : Nat} {fs : List Value} {r : vw_C} (hev : evOK A ev) (hK : va_K D vwCl tys s) (hP : va_P D vwCl (wd σ) H) (hD : va_D A (wd σ)) (hE : ev s s.heap) (hS : va_S A s.heap H locs)
    (hq : (wd σ)[k]? = some (b, .inr (ci, fs))) (hc : vwCl[ci]? = some r) :
    PreV s H r.1 b (wdPc D wd tys A ev σ (.ref b :: As)) As := ⟨wd_blind hev, va_recv hK hP hc hq, wd_pre hev hK hP hD hE hS (.ref b :: As)⟩
end WdCalls
section TbCalls
variable {R : Room} {s : State} {args : Array Value} {own C : String} {index maxL : Nat} {y : MethodName} {bytes : ByteArray} {ret : Option FieldType} {rm : Room}
/-- what stays of a method: its code, its class, how many parameters -/
def tbM (y : MethodName) (bytes : ByteArray) (maxL : Nat) (ret : Option FieldType) (n : Nat) : Prop :=
  Cond.code y bytes maxL ret ∈ tb_L ∧ Cond.initialized y.cls ∈ tb_L ∧ (y.cls ≠ "java/lang/invoke/MethodHandle" ∧ y.cls ≠ "java/lang/invoke/VarHandle") ∧ (parseMethodDescriptor y.desc).map (fun d => d.parameters.length) = some n
theorem tb_CB {n : Nat} (htb : ∀ w ∈ tb_L, w.before args s = true) (hm : tbM y bytes maxL ret n) (hl : Cond.methodLink own index y ∈ tb_L) (hR : rm.frames + 1 ≤ R.frames ∧ 8 + (maxL + 11) + rm.locals ≤ R.locals) :
    CallB R s args own index y bytes maxL ret (.code y bytes maxL ret :: tb_L) rm rm.cells rm.slots n :=
  ⟨rfl, rfl, hR.1, hR.2, tb_cons hm.1 htb, List.mem_cons_self, htb _ hm.1, htb _ hm.2.1, hm.2.2.1, fun sig h => by have h2 := hm.2.2.2; rw [h] at h2; exact (Option.some.inj h2).symm, htb _ hl⟩
theorem tb_CW {n : Nat} (htb : ∀ w ∈ tb_L, w.before args s = true) (hm : tbM y bytes maxL ret n) (hl : Cond.methodLink own index y ∈ tb_L) (hi : Cond.instanceMethod y ∈ tb_L) (hs : Cond.selects C y y ∈ tb_L) (hR : rm.frames + 1 ≤ R.frames ∧ 8 + (maxL + 11) + rm.locals ≤ R.locals) :
    CallW R s args own C index y bytes maxL ret (.code y bytes maxL ret :: tb_L) rm rm.cells rm.slots n := ⟨tb_CB htb hm hl hR, htb _ hi, htb _ hs⟩
theorem tb_CS {n : Nat} (htb : ∀ w ∈ tb_L, w.before args s = true) (hm : tbM y bytes maxL ret n) (hl : Cond.methodLink own index y ∈ tb_L) (hs : Cond.static y ∈ tb_L) (hR : rm.frames + 1 ≤ R.frames ∧ 8 + (maxL + 11) + rm.locals ≤ R.locals) :
    CallB R s args own index y bytes maxL ret (.code y bytes maxL ret :: tb_L) rm rm.cells rm.slots n ∧ (Cond.static y).before args s = true := ⟨tb_CB htb hm hl hR, htb _ hs⟩
theorem tb_CN {n : Nat} {host : String} (htb : ∀ w ∈ tb_L, w.before args s = true) (hm : tbM y bytes maxL ret n) (hl : Cond.methodLinkNest own index y host ∈ tb_L) (hR : rm.frames + 1 ≤ R.frames ∧ 8 + (maxL + 11) + rm.locals ≤ R.locals) :
    va_CN R s args own index y host bytes maxL ret (.code y bytes maxL ret :: tb_L) rm rm.cells rm.slots n :=
  ⟨⟨rfl, rfl, hR.1, hR.2, tb_cons hm.1 htb, List.mem_cons_self⟩, htb _ hm.1, htb _ hm.2.1, hm.2.2.1, fun sig h => by have h2 := hm.2.2.2; rw [h] at h2; exact (Option.some.inj h2).symm, htb _ hl⟩
theorem nar_b {v : Int32} (h : v = 0 ∨ v = 1) : narrow .boolean (.int v) = .int v := by rcases h with rfl | rfl <;> rfl
end TbCalls
theorem lcmp_eq {x y : Int64} : lg_cmp x y = 0 ↔ x = y := by
  unfold lg_cmp
  constructor
  · intro h
    split at h
    · exact absurd h (by decide)
    · split at h
      · assumption
      · exact absurd h (by decide)
  · intro h
    subst h
    rw [if_neg (by simp), if_pos rfl]
