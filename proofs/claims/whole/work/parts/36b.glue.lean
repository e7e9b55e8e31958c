def xs0 : hsS := (fun k => if k = 64 then 2 else if k = 68 then 1 else if k = 384 then 2 else if k = 388 then 1 else if k = 713 then (-1) else if k = 832 then 2 else if k = 836 then 1 else 0, fun p => if p = 33 then (upd (upd (upd (upd (upd (upd (upd (upd (fun _ => 0) 0 (2 : Int32)) 1 (2 : Int32)) 2 (2 : Int32)) 3 (2 : Int32)) 4 (2 : Int32)) 5 (2 : Int32)) 6 (2 : Int32)) 7 (2 : Int32)) else fun _ => 0, fun _ _ => 0)
set_option maxHeartbeats 8000000 in
set_option maxRecDepth 100000 in
theorem gX7 {D : va_G} {A : Nat → Prop} {h0 : Nat} {u : Unit} {t : State} (h : koX7 D A h0 u t) : ∃ (c : Nat → ClassId) (q : Nat → Nat), h0 = q 0 ∧ va_P D vwCl (xw c q xs0) t.heap ∧ va_K D vwCl (xwT c) t ∧ va_D A (xw c q xs0) := by
  obtain ⟨q1, q2, q3, q4, q5, q6, q7, q8, q9, q10, q11, q12, q13, q14, q15, q16, q17, q18, q19, q20, q21, q22, q23, q24, q25, q26, q27, q28, q29, q30, q31, q32, q33, q34, q35, c1x5, c2x5, c3x5, c4x5, c1x10, c2x10, c3x10, c4x10, c1x17, c1x6x17, c2x6x17, c3x6x17, c4x6x17, c1x20, c2x20, c1x22, c1x24, c1x29, c2x29, c3x29, c4x29, c1x34, c2x34, c3x34, c4x34, c35, hP, hK, hD⟩ := h
  obtain ⟨q, eq0, eq1, eq2, eq3, eq4, eq5, eq6, eq7, eq8, eq9, eq10, eq11, eq12, eq13, eq14, eq15, eq16, eq17, eq18, eq19, eq20, eq21, eq22, eq23, eq24, eq25, eq26, eq27, eq28, eq29, eq30, eq31, eq32, eq33, eq34, eq35⟩ : ∃ q : Nat → Nat, h0 = q 0 ∧ q1 = q 1 ∧ q2 = q 2 ∧ q3 = q 3 ∧ q4 = q 4 ∧ q5 = q 5 ∧ q6 = q 6 ∧ q7 = q 7 ∧ q8 = q 8 ∧ q9 = q 9 ∧ q10 = q 10 ∧ q11 = q 11 ∧ q12 = q 12 ∧ q13 = q 13 ∧ q14 = q 14 ∧ q15 = q 15 ∧ q16 = q 16 ∧ q17 = q 17 ∧ q18 = q 18 ∧ q19 = q 19 ∧ q20 = q 20 ∧ q21 = q 21 ∧ q22 = q 22 ∧ q23 = q 23 ∧ q24 = q 24 ∧ q25 = q 25 ∧ q26 = q 26 ∧ q27 = q 27 ∧ q28 = q 28 ∧ q29 = q 29 ∧ q30 = q 30 ∧ q31 = q 31 ∧ q32 = q 32 ∧ q34 = q 33 ∧ q33 = q 34 ∧ q35 = q 35 := ⟨fun k => if k = 0 then h0 else if k = 1 then q1 else if k = 2 then q2 else if k = 3 then q3 else if k = 4 then q4 else if k = 5 then q5 else if k = 6 then q6 else if k = 7 then q7 else if k = 8 then q8 else if k = 9 then q9 else if k = 10 then q10 else if k = 11 then q11 else if k = 12 then q12 else if k = 13 then q13 else if k = 14 then q14 else if k = 15 then q15 else if k = 16 then q16 else if k = 17 then q17 else if k = 18 then q18 else if k = 19 then q19 else if k = 20 then q20 else if k = 21 then q21 else if k = 22 then q22 else if k = 23 then q23 else if k = 24 then q24 else if k = 25 then q25 else if k = 26 then q26 else if k = 27 then q27 else if k = 28 then q28 else if k = 29 then q29 else if k = 30 then q30 else if k = 31 then q31 else if k = 32 then q32 else if k = 33 then q34 else if k = 34 then q33 else if k = 35 then q35 else 0, rfl, rfl, rfl, rfl, rfl, rfl, rfl, rfl, rfl, rfl, rfl, rfl, rfl, rfl, rfl, rfl, rfl, rfl, rfl, rfl, rfl, rfl, rfl, rfl, rfl, rfl, rfl, rfl, rfl, rfl, rfl, rfl, rfl, rfl, rfl, rfl⟩
  obtain ⟨c, ec2, ec3, ec4, ec5, ec7, ec8, ec9, ec10, ec12, ec14, ec15, ec16, ec17, ec19, ec20, ec22, ec24, ec26, ec27, ec28, ec29, ec31, ec32, ec33, ec34, ec35⟩ : ∃ c : Nat → ClassId, c1x5 = c 2 ∧ c2x5 = c 3 ∧ c3x5 = c 4 ∧ c4x5 = c 5 ∧ c1x10 = c 7 ∧ c2x10 = c 8 ∧ c3x10 = c 9 ∧ c4x10 = c 10 ∧ c1x17 = c 12 ∧ c1x6x17 = c 14 ∧ c2x6x17 = c 15 ∧ c3x6x17 = c 16 ∧ c4x6x17 = c 17 ∧ c1x20 = c 19 ∧ c2x20 = c 20 ∧ c1x22 = c 22 ∧ c1x24 = c 24 ∧ c1x29 = c 26 ∧ c2x29 = c 27 ∧ c3x29 = c 28 ∧ c4x29 = c 29 ∧ c1x34 = c 31 ∧ c2x34 = c 32 ∧ c3x34 = c 33 ∧ c4x34 = c 34 ∧ c35 = c 35 := ⟨fun k => if k = 2 then c1x5 else if k = 3 then c2x5 else if k = 4 then c3x5 else if k = 5 then c4x5 else if k = 7 then c1x10 else if k = 8 then c2x10 else if k = 9 then c3x10 else if k = 10 then c4x10 else if k = 12 then c1x17 else if k = 14 then c1x6x17 else if k = 15 then c2x6x17 else if k = 16 then c3x6x17 else if k = 17 then c4x6x17 else if k = 19 then c1x20 else if k = 20 then c2x20 else if k = 22 then c1x22 else if k = 24 then c1x24 else if k = 26 then c1x29 else if k = 27 then c2x29 else if k = 28 then c3x29 else if k = 29 then c4x29 else if k = 31 then c1x34 else if k = 32 then c2x34 else if k = 33 then c3x34 else if k = 34 then c4x34 else if k = 35 then c35 else c1x5, rfl, rfl, rfl, rfl, rfl, rfl, rfl, rfl, rfl, rfl, rfl, rfl, rfl, rfl, rfl, rfl, rfl, rfl, rfl, rfl, rfl, rfl, rfl, rfl, rfl, rfl⟩
  subst eq0
  subst eq1
  subst eq2
  subst eq3
  subst eq4
  subst eq5
  subst eq6
  subst eq7
  subst eq8
  subst eq9
  subst eq10
  subst eq11
  subst eq12
  subst eq13
  subst eq14
  subst eq15
  subst eq16
  subst eq17
  subst eq18
  subst eq19
  subst eq20
  subst eq21
  subst eq22
  subst eq23
  subst eq24
  subst eq25
  subst eq26
  subst eq27
  subst eq28
  subst eq29
  subst eq30
  subst eq31
  subst eq32
  subst eq33
  subst eq34
  subst eq35
  subst ec2
  subst ec3
  subst ec4
  subst ec5
  subst ec7
  subst ec8
  subst ec9
  subst ec10
  subst ec12
  subst ec14
  subst ec15
  subst ec16
  subst ec17
  subst ec19
  subst ec20
  subst ec22
  subst ec24
  subst ec26
  subst ec27
  subst ec28
  subst ec29
  subst ec31
  subst ec32
  subst ec33
  subst ec34
  subst ec35
  have hP9 := hP.sub (ws' := xw c q xs0) [0, 1, 2, 3, 4, 5, 6, 7, 8, 9, 10, 11, 12, 13, 14, 15, 16, 17, 18, 19, 20, 21, 22, 23, 24, 25, 26, 27, 28, 29, 30, 31, 32, 34, 33, 35] rfl
  have hK9 := hK.sub (tys' := xwT c) [0, 1, 2, 3, 4, 5, 6, 7, 8, 9, 10, 11, 12, 13, 14, 15, 16, 17, 18, 19, 20, 21, 22, 23, 24, 25] rfl
  have hD9 := hD.sub (ws' := xw c q xs0) [0, 1, 2, 3, 4, 5, 6, 7, 8, 9, 10, 11, 12, 13, 14, 15, 16, 17, 18, 19, 20, 21, 22, 23, 24, 25, 26, 27, 28, 29, 30, 31, 32, 34, 33, 35] (by decide) rfl
  exact ⟨c, q, rfl, hP9, hK9, hD9⟩
def ms0 : hsS := (fun k => if k = 23 then (-1) else if k = 28 then (-1) else if k = 36 then (-1) else if k = 39 then (-1) else if k = 50 then (-1) else 0, fun p => if p = 1 then (upd (upd (fun _ => 0) 0 2) 1 2) else if p = 4 then (upd (upd (fun _ => 0) 0 1) 1 1) else if p = 29 then (upd (upd (upd (upd (upd (upd (upd (upd (fun _ => 0) 0 (-1)) 1 (-1)) 2 (-1)) 3 (-1)) 4 (-1)) 5 (-1)) 6 (-1)) 7 (-1)) else fun _ => 0, fun _ _ => 0)
set_option maxHeartbeats 8000000 in
set_option maxRecDepth 100000 in
theorem gX8 {D : va_G} {A : Nat → Prop} {h0 : Nat} {u : Unit} {t : State} (h : koX8 D A h0 u t) : ∃ (c : Nat → ClassId) (q : Nat → Nat), h0 = q 0 ∧ va_P D vwCl (mw c q ms0) t.heap ∧ va_K D vwCl (mwT c) t ∧ va_D A (mw c q ms0) := by
  obtain ⟨q1, q2, q3, q4, q5, q6, q7, q8, q9, q10, q11, q12, q13, q14, q15, q16, q17, q18, q19, q20, q21, q22, q23, q24, q25, q26, q27, q28, q29, q30, c1, c2, c3, c4, c5, c6, c7, c8, c9, c10, c11, c12, c13, c14, c15, c16, c17, c18, c19, c20, c21, c22, c23, c24, c25, c26, c27, c28, c29, c30, hP, hK, hD⟩ := h
  obtain ⟨q, eq0, eq1, eq2, eq3, eq4, eq5, eq6, eq7, eq8, eq9, eq10, eq11, eq12, eq13, eq14, eq15, eq16, eq17, eq18, eq19, eq20, eq21, eq22, eq23, eq24, eq25, eq26, eq27, eq28, eq29, eq30⟩ : ∃ q : Nat → Nat, h0 = q 0 ∧ q1 = q 1 ∧ q2 = q 2 ∧ q3 = q 3 ∧ q4 = q 4 ∧ q5 = q 5 ∧ q6 = q 6 ∧ q7 = q 7 ∧ q8 = q 8 ∧ q9 = q 9 ∧ q10 = q 10 ∧ q11 = q 11 ∧ q12 = q 12 ∧ q13 = q 13 ∧ q14 = q 14 ∧ q15 = q 15 ∧ q16 = q 16 ∧ q17 = q 17 ∧ q18 = q 18 ∧ q19 = q 19 ∧ q20 = q 20 ∧ q21 = q 21 ∧ q22 = q 22 ∧ q23 = q 23 ∧ q24 = q 24 ∧ q25 = q 25 ∧ q26 = q 26 ∧ q27 = q 27 ∧ q28 = q 28 ∧ q29 = q 29 ∧ q30 = q 30 := ⟨fun k => if k = 0 then h0 else if k = 1 then q1 else if k = 2 then q2 else if k = 3 then q3 else if k = 4 then q4 else if k = 5 then q5 else if k = 6 then q6 else if k = 7 then q7 else if k = 8 then q8 else if k = 9 then q9 else if k = 10 then q10 else if k = 11 then q11 else if k = 12 then q12 else if k = 13 then q13 else if k = 14 then q14 else if k = 15 then q15 else if k = 16 then q16 else if k = 17 then q17 else if k = 18 then q18 else if k = 19 then q19 else if k = 20 then q20 else if k = 21 then q21 else if k = 22 then q22 else if k = 23 then q23 else if k = 24 then q24 else if k = 25 then q25 else if k = 26 then q26 else if k = 27 then q27 else if k = 28 then q28 else if k = 29 then q29 else if k = 30 then q30 else 0, rfl, rfl, rfl, rfl, rfl, rfl, rfl, rfl, rfl, rfl, rfl, rfl, rfl, rfl, rfl, rfl, rfl, rfl, rfl, rfl, rfl, rfl, rfl, rfl, rfl, rfl, rfl, rfl, rfl, rfl, rfl⟩
  obtain ⟨c, ec1, ec2, ec3, ec4, ec5, ec6, ec7, ec8, ec9, ec10, ec11, ec12, ec13, ec14, ec15, ec16, ec17, ec18, ec19, ec20, ec21, ec22, ec23, ec24, ec25, ec26, ec27, ec28, ec29, ec30⟩ : ∃ c : Nat → ClassId, c1 = c 1 ∧ c2 = c 2 ∧ c3 = c 3 ∧ c4 = c 4 ∧ c5 = c 5 ∧ c6 = c 6 ∧ c7 = c 7 ∧ c8 = c 8 ∧ c9 = c 9 ∧ c10 = c 10 ∧ c11 = c 11 ∧ c12 = c 12 ∧ c13 = c 13 ∧ c14 = c 14 ∧ c15 = c 15 ∧ c16 = c 16 ∧ c17 = c 17 ∧ c18 = c 18 ∧ c19 = c 19 ∧ c20 = c 20 ∧ c21 = c 21 ∧ c22 = c 22 ∧ c23 = c 23 ∧ c24 = c 24 ∧ c25 = c 25 ∧ c26 = c 26 ∧ c27 = c 27 ∧ c28 = c 28 ∧ c29 = c 29 ∧ c30 = c 30 := ⟨fun k => if k = 1 then c1 else if k = 2 then c2 else if k = 3 then c3 else if k = 4 then c4 else if k = 5 then c5 else if k = 6 then c6 else if k = 7 then c7 else if k = 8 then c8 else if k = 9 then c9 else if k = 10 then c10 else if k = 11 then c11 else if k = 12 then c12 else if k = 13 then c13 else if k = 14 then c14 else if k = 15 then c15 else if k = 16 then c16 else if k = 17 then c17 else if k = 18 then c18 else if k = 19 then c19 else if k = 20 then c20 else if k = 21 then c21 else if k = 22 then c22 else if k = 23 then c23 else if k = 24 then c24 else if k = 25 then c25 else if k = 26 then c26 else if k = 27 then c27 else if k = 28 then c28 else if k = 29 then c29 else if k = 30 then c30 else c1, rfl, rfl, rfl, rfl, rfl, rfl, rfl, rfl, rfl, rfl, rfl, rfl, rfl, rfl, rfl, rfl, rfl, rfl, rfl, rfl, rfl, rfl, rfl, rfl, rfl, rfl, rfl, rfl, rfl, rfl⟩
  subst eq0
  subst eq1
  subst eq2
  subst eq3
  subst eq4
  subst eq5
  subst eq6
  subst eq7
  subst eq8
  subst eq9
  subst eq10
  subst eq11
  subst eq12
  subst eq13
  subst eq14
  subst eq15
  subst eq16
  subst eq17
  subst eq18
  subst eq19
  subst eq20
  subst eq21
  subst eq22
  subst eq23
  subst eq24
  subst eq25
  subst eq26
  subst eq27
  subst eq28
  subst eq29
  subst eq30
  subst ec1
  subst ec2
  subst ec3
  subst ec4
  subst ec5
  subst ec6
  subst ec7
  subst ec8
  subst ec9
  subst ec10
  subst ec11
  subst ec12
  subst ec13
  subst ec14
  subst ec15
  subst ec16
  subst ec17
  subst ec18
  subst ec19
  subst ec20
  subst ec21
  subst ec22
  subst ec23
  subst ec24
  subst ec25
  subst ec26
  subst ec27
  subst ec28
  subst ec29
  subst ec30
  have hP9 := hP.sub (ws' := mw c q ms0) [0, 1, 2, 3, 4, 5, 6, 7, 8, 9, 10, 11, 12, 13, 14, 15, 16, 17, 18, 19, 20, 21, 22, 23, 24, 25, 26, 27, 28, 29, 30] rfl
  have hK9 := hK.sub (tys' := mwT c) [0, 1, 2, 3, 4, 5, 6, 7, 8, 9, 10, 11, 12, 13, 14, 15, 16, 17, 18, 19, 20, 21, 22, 23, 24, 25, 26, 27, 28, 29] rfl
  have hD9 := hD.sub (ws' := mw c q ms0) [0, 1, 2, 3, 4, 5, 6, 7, 8, 9, 10, 11, 12, 13, 14, 15, 16, 17, 18, 19, 20, 21, 22, 23, 24, 25, 26, 27, 28, 29, 30] (by decide) rfl
  exact ⟨c, q, rfl, hP9, hK9, hD9⟩
def va_E_long (co : ClassId) : va_E := .inl (co, 1, .inr (.inl (fun _ => 0)))
theorem wdA_of {N : Nat} {q : Nat → Nat} {ws : va_W} {A : Nat → Prop} (hD : va_D A ws) (e : ws.map Prod.fst = (List.range N).map q) : va_D (wdA N q) ws ∧ (∀ a, wdA N q a → A a) ∧ ∀ a, wdA N q a → ∃ (k : Nat) (x : Nat × va_E), ws[k]? = some x ∧ x.1 = a := by
  have key : ∀ k, k < N → ∃ x, ws[k]? = some x ∧ x.1 = q k := by
    intro k hk
    have h1 : (ws.map Prod.fst)[k]? = some (q k) := by rw [e, List.getElem?_map, List.getElem?_range hk]; rfl
    rw [List.getElem?_map] at h1
    cases hw : ws[k]? with
    | none => rw [hw] at h1; cases h1
    | some x => rw [hw] at h1; exact ⟨x, rfl, Option.some.inj h1⟩
  have hlen : ws.length = N := by
    have := congrArg List.length e
    simpa using this
  refine ⟨⟨hD.1, fun k x hk => ?_⟩, fun a ⟨k, hk, ea⟩ => ?_, fun a ⟨k, hk, ea⟩ => ?_⟩
  · have hlt : k < N := by rw [← hlen]; exact (List.getElem?_eq_some_iff.mp hk).1
    obtain ⟨y, hy, ey⟩ := key k hlt
    rw [hk] at hy
    cases Option.some.inj hy
    exact ⟨k, hlt, ey⟩
  · obtain ⟨x, hx, ex⟩ := key k hk
    rw [ea, ← ex]; exact hD.2 k x hx
  · obtain ⟨x, hx, ex⟩ := key k hk
    exact ⟨k, x, hx, by rw [ex, ea]⟩
