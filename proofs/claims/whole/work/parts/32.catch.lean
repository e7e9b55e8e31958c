/-! An exception of a callee, caught by this method's own row, its class cold or warm: after the library's laws for caught exceptions -/
section XC
variable {p : Program} {l : Launch} {e : Env} {R : Room} {s : State} {m : MethodId} {args : Array Value} {below : List Frame} {meth : Method} {c : Code} {H : Heap} {locs : List Loc} {cells slots : Nat} {Q : State → Prop} {ls : Array Slot} {rest : List Value} {pc : Nat}
theorem xc_go {Qh : Handler → Pre} {E : CtlPost} {d : Bool} {acts : List Action} {t : State} {f : JFrame} {a : Addr} {x : ExceptionTableEntry} {tl : List ExceptionTableEntry} {k : ClassId} {cell : Cell} (hx : covers x f.pc = true) (h0 : x.catchType ≠ 0)
    (hl : t.vm.ClassLinks e.platform f.method.cls x.catchType k) (hcell : t.heap[a]? = some cell) (hobj : ∀ k, cell.vm ≠ .statics k)
    (hk : ∃ k, t.vm.classes[cell.cls]? = some k) (hc : ∃ k', t.vm.classes[k]? = some k') (hfit : t.vm.assignable cell.cls k = true) :
    wp (findHandler.go f a (x :: tl)) Qh E e d acts t ↔ Qh (.found x.handlerPc) d acts (t.setVm (t.vm.noted f.method.cls x.catchType (.cls k))) := by
  simp only [covers] at hx
  obtain ⟨ha, ht⟩ := (resolveClass_links e.toSetting hl).op (op := VmOp.resolveClass f.method.cls x.catchType) rfl
  have hal : t.vm.Alike (t.vm.noted f.method.cls x.catchType (.cls k)) := (Vm.Alike.refl t.vm).noted _ _ _
  obtain ⟨k1, hk1⟩ := hk
  obtain ⟨k2, hk2⟩ := hc
  obtain ⟨k1', hk1', -⟩ := hal.2.2 _ _ hk1
  obtain ⟨k2', hk2', -⟩ := hal.2.2 _ _ hk2
  have hfit' : (t.vm.noted f.method.cls x.catchType (.cls k)).assignable cell.cls k = true := by rw [hal.assignable]; exact hfit
  simp [findHandler.go, hx, h0, ha, ht, hcell, hobj, hk1', hk2', hfit', VmOp.dirties, VmOp.acts]
theorem xc_step {t : State} {a : Addr} {f : JFrame} {r : List Frame} {tg : Nat} {vm' : Vm} (hfind : ∀ (Qh : Handler → Pre) (E : CtlPost) (d : Bool) (acts : List Action), wp (findHandler f a) Qh E e d acts t ↔ Qh (.found tg) d acts (t.setVm vm')) :
    (stepThrowing e t a (.java f :: r)).Is ((t.setVm vm').setFrames (.java { f with pc := tg, stack := [.ref a] } :: r)) [] := by
  simp only [stepThrowing, searchFrame, vmDo]
  generalize hr : Sem.go _ e false [] t = res
  obtain ⟨as, rfl, ha⟩ := Sem.eq_ok_of hr (a := Handler.found tg) (s' := t.setVm vm') (acts' := []) (by simp [hfind _ _ _ _])
  exact ⟨rfl, ha⟩
theorem xc_frames (u : State) (vm' : Vm) (F G : List Frame) : ((u.setFrames F).setVm vm').setFrames G = (u.setVm vm').setFrames G := by
  have h1 : (u.setFrames F).setVm vm' = (u.setVm vm').setFrames F := rfl
  rw [h1, State.setFrames_setFrames]
/-- caught by the only row of this method's table -/
theorem xc_catch {own name : String} {E : String} {ce : Cell} {q : Addr} (hown : s.vm.findClass own = some m.cls) (x : ExceptionTableEntry) (htab : c.exceptionTable.toList = [x])
    (hx : covers x pc = true) (h0 : x.catchType ≠ 0)
    (hlink : (Cond.classLink own x.catchType name).before args s = true) (hcast : (Cond.castable E name).before args s = true) (hcell : H[q]? = some ce) (hv : ce.vm = .none) (hcl : s.vm.findClass E = some ce.cls)
    (kk : W p l e R s m args below meth c H locs cells slots Q (F0 m x.handlerPc ls [.ref q])) : vx_W p l e R s m args below meth c H locs cells slots Q (F0 m pc ls rest) q := by
  intro T hT X
  have hpl : e.platform.magicAccessors = ({} : Platform).magicAccessors := by rw [X.admits.platform]
  obtain ⟨c3, c4, hc3, hc4, hasg⟩ := Cond.castable_spec hcast
  cases Option.some.inj (hc3.symm.trans hcl)
  obtain ⟨c5, hc5, hcl5⟩ := Cond.classLink_spec hown hlink e.platform hpl
  cases Option.some.inj (hc4.symm.trans hc5)
  obtain ⟨k9, h9, -⟩ := Vm.findClass_spec hcl
  obtain ⟨dk, _, _, kt, hd, _, _, _, _, hkt, _, hopen⟩ := hcl5.here
  have hcl₀ := X.warmed.classLinks hcl5
  have hW' : s.WarmedH (T.vm.noted m.cls x.catchType (.cls c4)) := X.warmed.noted hd hopen (State.rightAt_cls hcl5)
  have hal := X.warmed.alike
  obtain ⟨kt', hkt', -⟩ := hal.2.2 _ _ hkt
  obtain ⟨k9', hk9', -⟩ := hal.2.2 _ _ h9
  have hfit' : T.vm.assignable ce.cls c4 = true := by rw [hal.assignable]; exact hasg
  have hcellT : T.heap[q]? = some ce := by rw [hT]; exact hcell
  obtain ⟨t, a1, b1⟩ := kk (T.setVm (T.vm.noted m.cls x.catchType (.cls c4))) hT (X.noted hW')
  refine ⟨t, ?_, b1⟩
  have hfind : ∀ (Qh : Handler → Pre) (E : CtlPost) (d : Bool) (acts : List Action), wp (findHandler (F0 m pc ls rest) q) Qh E e d acts ((T.setTop (F0 m pc ls rest)).pushFrame (.throwing q)) ↔ Qh (.found x.handlerPc) d acts (((T.setTop (F0 m pc ls rest)).pushFrame (.throwing q)).setVm (T.vm.noted m.cls x.catchType (.cls c4))) := by
    intro Qh E d acts
    rw [Jvm.W.findHandler_eq (meth := meth) (code := c) X.method' X.code, htab]
    exact xc_go (t := (T.setTop (F0 m pc ls rest)).pushFrame (.throwing q)) (f := F0 m pc ls rest) hx h0 hcl₀ hcellT (VmData.ne_statics_of (by rw [hv]; rfl)) ⟨k9', hk9'⟩ ⟨kt', hkt'⟩ hfit'
  obtain ⟨hgo, hw⟩ := At.throwing (g := F0 m pc ls rest) X.here q
  refine Steps.head hgo hw ?_
  rw [stepThread_throwing (frames_entered X.here.top _), (xc_step (t := (T.setTop (F0 m pc ls rest)).pushFrame (.throwing q)) hfind).1]
  obtain ⟨g₀, hg⟩ := Option.isSome_iff_exists.mp X.here.top
  obtain ⟨r, hr⟩ := State.topJava?_eq_some.mp hg
  have hr' : (T.setVm (T.vm.noted m.cls x.catchType (.cls c4))).frames = .java g₀ :: r := hr
  rw [State.setTop_of_frames _ hr'] at a1
  rw [hr, List.tail_cons, State.pushFrame, xc_frames, State.setTop_of_frames _ hr, xc_frames]
  exact a1
end XC
