/-! ===== hall: what a text tells ===== -/
abbrev FT : Type := Nat × Nat
def lkO (T : Nat → Nat) (n m : Nat) : Nat → TK → Nat → Nat → Nat → (Nat → Nat) → (Nat → Nat) → Sum FT (TK × Nat × Nat × (Nat → Nat) × (Nat → Nat))
  | 0, _, _, _, _, _, _ => Sum.inl (1, 0)
  | f + 1, w, tk, pl, gi, pf, gf =>
    if nbO w 0 999 m false ≠ 0 then Sum.inl (nbO w 0 999 m false, tF w)
    else if tk.testBit (tV w) = true then Sum.inl (4, tF w)
    else if wdO T (tokO T n (tT w)) 4 = true then lkO T n m f (tokO T n (tT (tokO T n (tT w)))) (tk ||| 2 ^ tV w) (qs_sz (tk ||| 2 ^ tV w)) (gi + 1) (fun t => if t = tV w then pl else pf t) (fun t => if t = tV w then gi else gf t)
    else if wdO T (tokO T n (tT w)) 5 = true then lkO T n m f (tokO T n (tT (tokO T n (tT w)))) (tk ||| 2 ^ tV w) pl gi (fun t => if t = tV w then pl else pf t) (fun t => if t = tV w then gi else gf t)
    else Sum.inr (tokO T n (tT w), tk ||| 2 ^ tV w, gi, fun t => if t = tV w then pl else pf t, fun t => if t = tV w then gi else gf t)
def tdO (T : Nat → Nat) (n : Nat) : Nat → TK → Nat → (Nat → Nat) → Sum FT (TK × Nat × (Nat → Nat))
  | 0, _, _, _ => Sum.inl (1, 0)
  | f + 1, w, c, tf =>
    if nbO w 0 9 1000 (decide (c = 8)) ≠ 0 then Sum.inl (nbO w 0 9 1000 (decide (c = 8)), tF w)
    else if tK (tokO T n (tT w)) = 2 then tdO T n f (tokO T n (tT w)) (c + 1) (fun k => if k = c then tV w else tf k)
    else Sum.inr (tokO T n (tT w), c + 1, fun k => if k = c then tV w else tf k)
def tnO (T : Nat → Nat) (n m np : Nat) : Nat → TK → Nat → (Nat → Nat) → Sum FT (TK × Nat × (Nat → Nat))
  | 0, _, _, _ => Sum.inl (1, 0)
  | f + 1, w, c, uf =>
    if nbO w 0 999 np (decide (c = m - 1)) ≠ 0 then Sum.inl (nbO w 0 999 np (decide (c = m - 1)), tF w)
    else if tK (tokO T n (tT w)) = 2 then tnO T n m np f (tokO T n (tT w)) (c + 1) (fun k => if k = c then tV w else uf k)
    else Sum.inr (tokO T n (tT w), c + 1, fun k => if k = c then tV w else uf k)
def addA (A : AH) (w : Nat) (nm : Bool) (pf : Nat → Nat) : AH := (fun j => if j = 1 then aN A + 1 else if j = 2 then aAW A + w else if j = 7 then (if nm = true then aNm A ||| 2 ^ aN A else aNm A) else A.1 j, fun r k => if r = 0 then (if k = aN A then w else aW A k) else if r < 3 then A.2 r k else if r = aN A + 3 then pf k else A.2 r k)
def lawA (A : AH) (l : Nat) : AH := (fun j => if j = 3 then l else A.1 j, A.2)
def stpA (A : AH) (v : Nat) : AH := (fun j => if j = 3 then 1 else if j = 4 then v else A.1 j, A.2)
def tolA (A : AH) (c : Nat) (tf : Nat → Nat) : AH := (fun j => if j = 3 then 2 else if j = 5 then c else A.1 j, fun r k => if r = 1 then tf k else A.2 r k)
def turA (A : AH) (c : Nat) (uf : Nat → Nat) : AH := (fun j => if j = 6 then c else A.1 j, fun r k => if r = 2 then uf k else A.2 r k)
def thgA (A : AH) (m : Nat) : AH := (fun j => if j = 0 then m else A.1 j, A.2)
abbrev DR : Type := AH × (Nat → Nat → Nat)
def ordP (tk : Nat) (pf : Nat → Nat) (t : Nat) : Nat := if tk.testBit t = true then pf t else qs_sz tk
def ordG (tk gi : Nat) (gf : Nat → Nat) (t : Nat) : Nat := if tk.testBit t = true then gf t else gi + 1
def putG (g : Nat → Nat → Nat) (q : Nat) (f : Nat → Nat) (p t : Nat) : Nat := if p = q then f t else g p t
def perO (T : Nat → Nat) (n : Nat) (w : TK) (D : DR) : Sum FT (TK × DR) :=
  if 8 ≤ aN D.1 then Sum.inl (2, tF w)
  else if wdO T (tokO T n (tT w)) 2 = false then Sum.inl (1, tF (tokO T n (tT w)))
  else if nbO (tokO T n (tT (tokO T n (tT w)))) 1 99 1000 false ≠ 0 then Sum.inl (nbO (tokO T n (tT (tokO T n (tT w)))) 1 99 1000 false, tF (tokO T n (tT (tokO T n (tT w)))))
  else if wdO T (tokO T n (tT (tokO T n (tT (tokO T n (tT w)))))) 3 = true then
    match lkO T n (aM D.1) 10 (tokO T n (tT (tokO T n (tT (tokO T n (tT (tokO T n (tT w)))))))) 0 0 0 (fun _ => 0) (fun _ => 0) with
    | Sum.inl e => Sum.inl e
    | Sum.inr r => Sum.inr (r.1, addA D.1 (tV (tokO T n (tT (tokO T n (tT w))))) true (ordP r.2.1 r.2.2.2.1), putG D.2 (aN D.1) (ordG r.2.1 r.2.2.1 r.2.2.2.2))
  else Sum.inr (tokO T n (tT (tokO T n (tT (tokO T n (tT w))))), addA D.1 (tV (tokO T n (tT (tokO T n (tT w))))) false (fun _ => 0), putG D.2 (aN D.1) (fun _ => 0))
/-- w is the token behind 'law' -/
def lwO (T : Nat → Nat) (n : Nat) (w : TK) (D : DR) : Sum FT (TK × DR) :=
  if wdO T w 7 = true then Sum.inr (tokO T n (tT w), lawA D.1 0, D.2)
  else if wdO T w 8 = true then
    (if nbO (tokO T n (tT w)) 1 999 1000 false ≠ 0 then Sum.inl (nbO (tokO T n (tT w)) 1 999 1000 false, tF (tokO T n (tT w)))
     else Sum.inr (tokO T n (tT (tokO T n (tT w))), stpA D.1 (tV (tokO T n (tT w))), D.2))
  else if wdO T w 9 = true then
    match tdO T n 9 (tokO T n (tT w)) 0 (fun _ => 0) with
    | Sum.inl e => Sum.inl e
    | Sum.inr r => Sum.inr (r.1, tolA D.1 r.2.1 r.2.2, D.2)
  else Sum.inl (1, tF w)
/-- w is the token behind 'turns' -/
def ltO (T : Nat → Nat) (n : Nat) (w : TK) (D : DR) : Sum FT (TK × DR) :=
  match tnO T n (aM D.1) (aN D.1) 9 w 0 (fun _ => 0) with
  | Sum.inl e => Sum.inl e
  | Sum.inr r => Sum.inr (r.1, turA D.1 r.2.1 r.2.2, D.2)
def lnO (T : Nat → Nat) (n : Nat) (w : TK) (D : DR) : Sum FT (TK × DR) :=
  if wdO T w 1 = true then perO T n w D
  else if wdO T w 6 = true then lwO T n (tokO T n (tT w)) D
  else if wdO T w 10 = true then ltO T n (tokO T n (tT w)) D
  else Sum.inl (1, tF w)
/-- a line and its sign -/
def smO2 (T : Nat → Nat) (n : Nat) (r : Sum FT (TK × DR)) : Sum FT (TK × DR) :=
  match r with
  | Sum.inl e => Sum.inl e
  | Sum.inr q => if tK q.1 = 3 then Sum.inr (tokO T n (tT q.1), q.2) else Sum.inl (1, tF q.1)
def hallO (T : Nat → Nat) (n : Nat) : Nat → TK → DR → Sum FT DR
  | 0, _, _ => Sum.inl (1, 0)
  | f + 1, w, D => if tK w = 0 then Sum.inr D else match smO2 T n (lnO T n w D) with | Sum.inl e => Sum.inl e | Sum.inr q => hallO T n f q.1 q.2
def A00 : AH := (fun j => if j = 0 then 2 else if j = 4 then 1 else 0, fun _ _ => 0)
def D00 (m : Nat) : DR := (thgA A00 m, fun _ _ => 0)
/-- the whole text -/
def txO (T : Nat → Nat) (n : Nat) : Sum FT DR :=
  if wdO T (tokO T n 0) 0 = false then Sum.inl (1, tF (tokO T n 0))
  else if nbO (tokO T n (tT (tokO T n 0))) 2 9 1000 false ≠ 0 then Sum.inl (nbO (tokO T n (tT (tokO T n 0))) 2 9 1000 false, tF (tokO T n (tT (tokO T n 0))))
  else match smO2 T n (Sum.inr (tokO T n (tT (tokO T n (tT (tokO T n 0)))), D00 (tV (tokO T n (tT (tokO T n 0)))))) with
    | Sum.inl e => Sum.inl e
    | Sum.inr q => hallO T n 601 q.1 q.2
/-! what holds of what is told -/
theorem nb_ok {w : TK} {l mo th : Nat} {o : Bool} (h : nbO w l mo th o = 0) : tK w = 2 ∧ tT w - tF w ≤ 3 ∧ l ≤ tV w ∧ tV w ≤ mo ∧ o = false ∧ tV w < th := by
  unfold nbO at h
  by_cases c : tK w = 2
  · rw [if_pos c] at h
    by_cases c1 : 3 < tT w - tF w
    · rw [if_pos c1] at h; exact absurd h (by decide)
    · rw [if_neg c1] at h
      by_cases c2 : tV w < l
      · rw [if_pos c2] at h; exact absurd h (by decide)
      · rw [if_neg c2] at h
        by_cases c3 : mo < tV w
        · rw [if_pos c3] at h; exact absurd h (by decide)
        · rw [if_neg c3] at h
          by_cases c4 : o = true
          · rw [if_pos c4] at h; exact absurd h (by decide)
          · rw [if_neg c4] at h
            by_cases c5 : th ≤ tV w
            · rw [if_pos c5] at h; exact absurd h (by decide)
            · exact ⟨c, by omega, by omega, by omega, ts_nt c4, by omega⟩
  · rw [if_neg c] at h; exact absurd h (by decide)
theorem nb_le (w : TK) (l mo th : Nat) (o : Bool) : nbO w l mo th o ≤ 3 := by
  unfold nbO
  split
  · split
    · decide
    · split
      · decide
      · split
        · decide
        · split
          · decide
          · split <;> decide
  · decide
/-- the order so far -/
def OI (m tk gi : Nat) (pf gf : Nat → Nat) : Prop := tk < 2 ^ m ∧ gi ≤ qs_sz tk ∧ ∀ t, t < m → tk.testBit t = true → gf t ≤ gi ∧ pf t = fb_ct (fun k => tk.testBit k && decide (gf k < gf t)) m
theorem sz_set {m tk v : Nat} (hm : m ≤ 9) (hv : v < m) (h : tk.testBit v = false) : qs_sz (tk ||| 2 ^ v) = qs_sz tk + 1 := by
  have e := qs_sz_cl (s := tk ||| 2 ^ v) (t := v) (by omega) (by rw [fb_bit_set]; simp)
  have e2 : qs_cl (tk ||| 2 ^ v) v = tk := by
    apply Nat.eq_of_testBit_eq; intro i
    rw [qs_cl_bit, fb_bit_set]
    rcases Nat.decEq i v with z | z
    · simp [z]
    · subst z; rw [h]; simp
  rw [e2] at e; omega
theorem OI.step {m tk gi v : Nat} {pf gf : Nat → Nat} (hm : m ≤ 9) (hv : v < m) (hn : tk.testBit v = false) (h : OI m tk gi pf gf) {pl : Nat} (hp : pl = fb_ct (fun k => tk.testBit k && decide (gf k < gi)) m) : OI m (tk ||| 2 ^ v) gi (fun t => if t = v then pl else pf t) (fun t => if t = v then gi else gf t) ∧ (pl = fb_ct (fun k => (tk ||| 2 ^ v).testBit k && decide ((if k = v then gi else gf k) < gi)) m) := by
  obtain ⟨h1, h2, h3⟩ := h
  have hsz := sz_set hm hv hn
  have cnt : ∀ x, x ≤ gi → fb_ct (fun k => (tk ||| 2 ^ v).testBit k && decide ((if k = v then gi else gf k) < x)) m = fb_ct (fun k => tk.testBit k && decide (gf k < x)) m := fun x hx => fb_ct_cong (fun k hk => by
    rw [fb_bit_set]
    rcases Nat.decEq k v with z | z
    · simp [z]
    · subst z
      rw [hn]; simp; omega)
  refine ⟨⟨Nat.or_lt_two_pow h1 (Nat.pow_lt_pow_right (by decide) hv), by omega, fun t ht hb => ?_⟩, ?_⟩
  · dsimp only
    rcases Nat.decEq t v with z | z
    · have hb2 : tk.testBit t = true := by rw [fb_bit_set] at hb; simpa [z] using hb
      have h4 := h3 t ht hb2
      simp only [if_neg z]
      refine ⟨h4.1, ?_⟩
      rw [h4.2]
      exact (cnt (gf t) h4.1).symm
    · simp only [if_pos z]
      refine ⟨Nat.le_refl _, ?_⟩
      rw [hp]; exact (cnt gi (Nat.le_refl _)).symm
  · rw [hp]; exact (cnt gi (Nat.le_refl _)).symm
theorem sz_ct {m tk : Nat} (hm : m ≤ 12) (h : tk < 2 ^ m) : qs_sz tk = fb_ct tk.testBit m := by
  unfold qs_sz
  have e := fb_ct_split tk.testBit m (12 - m)
  rw [show m + (12 - m) = 12 by omega] at e
  have z : fb_ct (fun k => tk.testBit (m + k)) (12 - m) = 0 := fb_ct_zero.mpr (fun k _ => qs_hi h (by omega))
  omega
theorem OI.over {m tk gi : Nat} {pf gf : Nat → Nat} (hm : m ≤ 9) (h : OI m tk gi pf gf) (hg : gi + 1 ≤ qs_sz tk) : OI m tk (gi + 1) pf gf ∧ qs_sz tk = fb_ct (fun k => tk.testBit k && decide (gf k < gi + 1)) m := by
  obtain ⟨h1, h2, h3⟩ := h
  refine ⟨⟨h1, hg, fun t ht hb => ⟨by have := (h3 t ht hb).1; omega, (h3 t ht hb).2⟩⟩, ?_⟩
  rw [sz_ct (by omega) h1]
  refine fb_ct_cong (fun k hk => ?_)
  cases e : tk.testBit k with
  | false => rfl
  | true => have := (h3 k hk e).1; simp; omega
/-- positions of what is read -/
theorem tok_pos (T : Nat → Nat) {n a : Nat} (h : a ≤ n) : TG n (tokO T n a) ∧ a ≤ tF (tokO T n a) := ⟨tg_ok T h, (tk_ok T h).2.2.2.1⟩
theorem lk_ok {T : Nat → Nat} {n m : Nat} (hm : m ≤ 9) : ∀ (f : Nat) (w : TK) (tk pl gi : Nat) (pf gf : Nat → Nat), TG n w → OI m tk gi pf gf → pl = fb_ct (fun k => tk.testBit k && decide (gf k < gi)) m → ∀ r, lkO T n m f w tk pl gi pf gf = Sum.inr r → TG n r.1 ∧ tT w ≤ tF r.1 ∧ OI m r.2.1 r.2.2.1 r.2.2.2.1 r.2.2.2.2
  | 0, w, tk, pl, gi, pf, gf, hw, ho, hp, r, e => by cases e
  | f + 1, w, tk, pl, gi, pf, gf, hw, ho, hp, r, e => by
    have hw2 := hw.2.1
    have e : (if nbO w 0 999 m false ≠ 0 then Sum.inl (nbO w 0 999 m false, tF w) else if tk.testBit (tV w) = true then Sum.inl (4, tF w) else if wdO T (tokO T n (tT w)) 4 = true then lkO T n m f (tokO T n (tT (tokO T n (tT w)))) (tk ||| 2 ^ tV w) (qs_sz (tk ||| 2 ^ tV w)) (gi + 1) (fun t => if t = tV w then pl else pf t) (fun t => if t = tV w then gi else gf t) else if wdO T (tokO T n (tT w)) 5 = true then lkO T n m f (tokO T n (tT (tokO T n (tT w)))) (tk ||| 2 ^ tV w) pl gi (fun t => if t = tV w then pl else pf t) (fun t => if t = tV w then gi else gf t) else Sum.inr (tokO T n (tT w), tk ||| 2 ^ tV w, gi, fun t => if t = tV w then pl else pf t, fun t => if t = tV w then gi else gf t) : Sum FT (TK × Nat × Nat × (Nat → Nat) × (Nat → Nat))) = Sum.inr r := e
    by_cases c1 : nbO w 0 999 m false ≠ 0
    · rw [if_pos c1] at e; cases e
    · rw [if_neg c1] at e
      have hv := (nb_ok (Classical.not_not.mp c1)).2.2.2.2.2
      by_cases c2 : tk.testBit (tV w) = true
      · rw [if_pos c2] at e; cases e
      · rw [if_neg c2] at e
        have c2' := ts_nt c2
        obtain ⟨o1, o2⟩ := ho.step hm hv c2' hp
        have hsz := sz_set hm hv c2'
        have t1 := tok_pos T hw2
        have t2 := tok_pos T t1.1.2.1
        have h11 := t1.1.1; have h21 := t2.1.1
        by_cases c3 : wdO T (tokO T n (tT w)) 4 = true
        · rw [if_pos c3] at e
          have hgi : gi + 1 ≤ qs_sz (tk ||| 2 ^ tV w) := by have := ho.2.1; omega
          obtain ⟨o3, o4⟩ := o1.over hm hgi
          obtain ⟨q1, q2, q3⟩ := lk_ok hm f _ _ _ _ _ _ t2.1 o3 o4 r e
          exact ⟨q1, by omega, q3⟩
        · rw [if_neg c3] at e
          by_cases c4 : wdO T (tokO T n (tT w)) 5 = true
          · rw [if_pos c4] at e
            obtain ⟨q1, q2, q3⟩ := lk_ok hm f _ _ _ _ _ _ t2.1 o1 o2 r e
            exact ⟨q1, by omega, q3⟩
          · rw [if_neg c4] at e
            have := Sum.inr.inj e
            rw [← this]
            exact ⟨t1.1, t1.2, o1⟩
theorem td_ok {T : Nat → Nat} {n : Nat} : ∀ (f : Nat) (w : TK) (c : Nat) (tf : Nat → Nat), TG n w → c ≤ 8 → (∀ k, k < c → tf k ≤ 9) → ∀ r, tdO T n f w c tf = Sum.inr r → TG n r.1 ∧ tT w ≤ tF r.1 ∧ 1 ≤ r.2.1 ∧ r.2.1 ≤ 8 ∧ ∀ k, k < r.2.1 → r.2.2 k ≤ 9
  | 0, w, c, tf, hw, hc, ht, r, e => by cases e
  | f + 1, w, c, tf, hw, hc, ht, r, e => by
    have hw2 := hw.2.1
    have e : (if nbO w 0 9 1000 (decide (c = 8)) ≠ 0 then Sum.inl (nbO w 0 9 1000 (decide (c = 8)), tF w) else if tK (tokO T n (tT w)) = 2 then tdO T n f (tokO T n (tT w)) (c + 1) (fun k => if k = c then tV w else tf k) else Sum.inr (tokO T n (tT w), c + 1, fun k => if k = c then tV w else tf k) : Sum FT (TK × Nat × (Nat → Nat))) = Sum.inr r := e
    by_cases c1 : nbO w 0 9 1000 (decide (c = 8)) ≠ 0
    · rw [if_pos c1] at e; cases e
    · rw [if_neg c1] at e
      obtain ⟨_, _, _, v9, o8, _⟩ := nb_ok (Classical.not_not.mp c1)
      have hc8 : c ≠ 8 := by simpa using o8
      have t1 := tok_pos T hw2
      have h11 := t1.1.1
      have htf : ∀ k, k < c + 1 → (if k = c then tV w else tf k) ≤ 9 := fun k hk => by
        split
        · exact v9
        · exact ht k (by omega)
      by_cases c2 : tK (tokO T n (tT w)) = 2
      · rw [if_pos c2] at e
        obtain ⟨q1, q2, q3⟩ := td_ok f _ _ _ t1.1 (by omega) htf r e
        exact ⟨q1, by omega, q3⟩
      · rw [if_neg c2] at e
        have := Sum.inr.inj e
        rw [← this]
        exact ⟨t1.1, t1.2, Nat.succ_le_succ (Nat.zero_le _), by show c + 1 ≤ 8; omega, htf⟩
theorem tn_ok {T : Nat → Nat} {n m np : Nat} : ∀ (f : Nat) (w : TK) (c : Nat) (uf : Nat → Nat), TG n w → c + 1 ≤ m → (∀ k, k < c → uf k < np) → ∀ r, tnO T n m np f w c uf = Sum.inr r → TG n r.1 ∧ tT w ≤ tF r.1 ∧ r.2.1 + 1 ≤ m ∧ ∀ k, k < r.2.1 → r.2.2 k < np
  | 0, w, c, uf, hw, hc, ht, r, e => by cases e
  | f + 1, w, c, uf, hw, hc, ht, r, e => by
    have hw2 := hw.2.1
    have e : (if nbO w 0 999 np (decide (c = m - 1)) ≠ 0 then Sum.inl (nbO w 0 999 np (decide (c = m - 1)), tF w) else if tK (tokO T n (tT w)) = 2 then tnO T n m np f (tokO T n (tT w)) (c + 1) (fun k => if k = c then tV w else uf k) else Sum.inr (tokO T n (tT w), c + 1, fun k => if k = c then tV w else uf k) : Sum FT (TK × Nat × (Nat → Nat))) = Sum.inr r := e
    by_cases c1 : nbO w 0 999 np (decide (c = m - 1)) ≠ 0
    · rw [if_pos c1] at e; cases e
    · rw [if_neg c1] at e
      obtain ⟨_, _, _, _, o8, vn⟩ := nb_ok (Classical.not_not.mp c1)
      have hc8 : c ≠ m - 1 := by simpa using o8
      have t1 := tok_pos T hw2
      have h11 := t1.1.1
      have htf : ∀ k, k < c + 1 → (if k = c then tV w else uf k) < np := fun k hk => by
        split
        · exact vn
        · exact ht k (by omega)
      by_cases c2 : tK (tokO T n (tT w)) = 2
      · rw [if_pos c2] at e
        obtain ⟨q1, q2, q3⟩ := tn_ok f _ _ _ t1.1 (by omega) htf r e
        exact ⟨q1, by omega, q3⟩
      · rw [if_neg c2] at e
        have := Sum.inr.inj e
        rw [← this]
        exact ⟨t1.1, t1.2, by show c + 1 + 1 ≤ m; omega, htf⟩
/-- a draft that is well told -/
def DG (D : DR) : Prop := AW D.1 ∧ aTc D.1 ≤ 8 ∧ GW D.1 D.2 ∧ aNm D.1 < 2 ^ aN D.1
theorem addA_P (A : AH) (w : Nat) (nm : Bool) (pf : Nat → Nat) (p t : Nat) : aP (addA A w nm pf) p t = if p = aN A then pf t else aP A p t := by
  show (if p + 3 = 0 then (if t = aN A then w else aW A t) else if p + 3 < 3 then A.2 (p + 3) t else if p + 3 = aN A + 3 then pf t else A.2 (p + 3) t) = if p = aN A then pf t else A.2 (p + 3) t
  rw [if_neg (by omega), if_neg (by omega)]
  rcases Nat.decEq p (aN A) with z | z
  · rw [if_neg (by omega), if_neg z]
  · rw [if_pos (by omega), if_pos z]
theorem tolA_P (A : AH) (c : Nat) (tf : Nat → Nat) (p t : Nat) : aP (tolA A c tf) p t = aP A p t := by
  show (if p + 3 = 1 then tf t else A.2 (p + 3) t) = A.2 (p + 3) t
  exact if_neg (by omega)
theorem turA_P (A : AH) (c : Nat) (uf : Nat → Nat) (p t : Nat) : aP (turA A c uf) p t = aP A p t := by
  show (if p + 3 = 2 then uf t else A.2 (p + 3) t) = A.2 (p + 3) t
  exact if_neg (by omega)
theorem add_dg {A : AH} {g : Nat → Nat → Nat} (h : DG (A, g)) (hn : aN A < 8) {w : Nat} (hw : 1 ≤ w ∧ w ≤ 99) (nm : Bool) {pf gf : Nat → Nat} (hg : ∀ t, t < aM A → gf t ≤ 9 + aM A ∧ pf t = fb_ct (fun k => decide (gf k < gf t)) (aM A)) : DG (addA A w nm pf, putG g (aN A) gf) := by
  have ha : AW A := h.1
  have htc : aTc A ≤ 8 := h.2.1
  have hG : GW A g := h.2.2.1
  have hNm : aNm A < 2 ^ aN A := h.2.2.2
  have hm := aw_m ha
  refine ⟨⟨hm, ?_, ?_, aw_law (A := A) ha, aw_step (A := A) ha, aw_told (A := A) ha, ⟨aw_nt (A := A) ha, fun k hk => ?_⟩, ?_, fun p hp => ?_, fun p t hp ht => ?_⟩, htc, fun p t hp ht => ?_, ?_⟩
  · show aN A + 1 ≤ 8; exact hn
  · show aAW A + w = fb_sm (aW (addA A w nm pf)) (aN A + 1)
    rw [fb_sm_succ, aw_aw ha]
    have e1 : fb_sm (aW (addA A w nm pf)) (aN A) = fb_sm (aW A) (aN A) := fb_sm_cong (fun k hk => by
      show (if k = aN A then w else aW A k) = _
      rw [if_neg (by omega)])
    have e2 : aW (addA A w nm pf) (aN A) = w := if_pos rfl
    rw [e1, e2]
  · show aU A k < aN A + 1
    have := aw_u ha (k := k) hk; omega
  · show (if nm = true then aNm A ||| 2 ^ aN A else aNm A) < 256
    have h8 := aw_nm ha
    split
    · exact Nat.or_lt_two_pow (n := 8) h8 (Nat.pow_lt_pow_right (by decide) hn)
    · exact h8
  · have hp : p < aN A + 1 := hp
    show 1 ≤ (if p = aN A then w else aW A p) ∧ (if p = aN A then w else aW A p) ≤ 99
    rcases Nat.decEq p (aN A) with z | z
    · rw [if_neg z]; exact aw_w ha (by omega)
    · rw [if_pos z]; exact hw
  · have hp : p < aN A + 1 := hp
    have ht : t < aM A := ht
    show aP (addA A w nm pf) p t < aM A
    rw [addA_P]
    rcases Nat.decEq p (aN A) with z | z
    · rw [if_neg z]; exact aw_p ha (by omega) ht
    · rw [if_pos z, (hg t ht).2]
      have h1 := fb_ct_le (fun k => decide (gf k < gf t)) (aM A)
      rcases Nat.lt_or_ge (fb_ct (fun k => decide (gf k < gf t)) (aM A)) (aM A) with y | y
      · exact y
      · have := fb_ct_all.mp (show fb_ct (fun k => decide (gf k < gf t)) (aM A) = aM A by omega) t ht
        simp at this
  · have hp : p < aN A + 1 := hp
    have ht : t < aM A := ht
    show putG g (aN A) gf p t ≤ 9 + aM A ∧ aP (addA A w nm pf) p t = fb_ct (fun k => decide (putG g (aN A) gf p k < putG g (aN A) gf p t)) (aM A)
    rw [addA_P]
    unfold putG
    rcases Nat.decEq p (aN A) with z | z
    · simp only [if_neg z]
      have := hG p t (by show p < aN A; omega) ht
      exact this
    · simp only [if_pos z]
      exact hg t ht
  · show (if nm = true then aNm A ||| 2 ^ aN A else aNm A) < 2 ^ (aN A + 1)
    have h2 : 2 ^ aN A < 2 ^ (aN A + 1) := Nat.pow_lt_pow_right (by decide) (by omega)
    split
    · exact Nat.or_lt_two_pow (by omega) h2
    · omega
theorem ord_ok {m tk gi : Nat} {pf gf : Nat → Nat} (hm : 2 ≤ m ∧ m ≤ 9) (h : OI m tk gi pf gf) : ∀ t, t < m → ordG tk gi gf t ≤ 9 + m ∧ ordP tk pf t = fb_ct (fun k => decide (ordG tk gi gf k < ordG tk gi gf t)) m := by
  obtain ⟨h1, h2, h3⟩ := h
  have hsz := qs_sz_lt (by omega) h1
  intro t ht
  unfold ordP ordG
  cases e : tk.testBit t with
  | true =>
    rw [if_pos rfl, if_pos rfl]
    have h4 := h3 t ht e
    refine ⟨by omega, h4.2.trans (fb_ct_cong (fun k hk => ?_))⟩
    cases e2 : tk.testBit k with
    | true => simp
    | false => simp; omega
  | false =>
    rw [if_neg (by decide), if_neg (by decide)]
    refine ⟨by omega, (sz_ct (by omega) h1).trans (fb_ct_cong (fun k hk => ?_))⟩
    cases e2 : tk.testBit k with
    | true => have := (h3 k hk e2).1; simp; omega
    | false => simp
theorem OI.zero (m : Nat) : OI m 0 0 (fun _ => 0) (fun _ => 0) := ⟨Nat.two_pow_pos _, Nat.zero_le _, fun t ht hb => by simp at hb⟩
theorem ln_ok {T : Nat → Nat} {n : Nat} {w : TK} {A : AH} {g : Nat → Nat → Nat} (hw : TG n w) (hD : DG (A, g)) : ∀ r, lnO T n w (A, g) = Sum.inr r → TG n r.1 ∧ tT w ≤ tF r.1 ∧ DG r.2 := by
  intro r e
  have ha : AW A := hD.1
  have htc : aTc A ≤ 8 := hD.2.1
  have hG : GW A g := hD.2.2.1
  have hNm : aNm A < 2 ^ aN A := hD.2.2.2
  have hm := aw_m ha
  have t1 := tok_pos T hw.2.1
  have t2 := tok_pos T t1.1.2.1
  have t3 := tok_pos T t2.1.2.1
  have t4 := tok_pos T t3.1.2.1
  have h11 := t1.1.1; have h21 := t2.1.1; have h31 := t3.1.1; have h41 := t4.1.1
  unfold lnO at e
  by_cases c1 : wdO T w 1 = true
  · rw [if_pos c1] at e
    unfold perO at e
    dsimp only at e
    by_cases c2 : 8 ≤ aN A
    · rw [if_pos c2] at e; cases e
    · rw [if_neg c2] at e
      by_cases c3 : wdO T (tokO T n (tT w)) 2 = false
      · rw [if_pos c3] at e; cases e
      · rw [if_neg c3] at e
        by_cases c4 : nbO (tokO T n (tT (tokO T n (tT w)))) 1 99 1000 false ≠ 0
        · rw [if_pos c4] at e; cases e
        · rw [if_neg c4] at e
          obtain ⟨_, _, v1, v2, _, _⟩ := nb_ok (Classical.not_not.mp c4)
          by_cases c5 : wdO T (tokO T n (tT (tokO T n (tT (tokO T n (tT w)))))) 3 = true
          · rw [if_pos c5] at e
            cases q : lkO T n (aM A) 10 (tokO T n (tT (tokO T n (tT (tokO T n (tT (tokO T n (tT w)))))))) 0 0 0 (fun _ => 0) (fun _ => 0) with
            | inl x => rw [q] at e; cases e
            | inr x =>
              rw [q] at e
              have e := Sum.inr.inj e
              obtain ⟨q1, q2, q3⟩ := lk_ok hm.2 10 _ 0 0 0 _ _ t4.1 (OI.zero _) (by symm; exact fb_ct_zero.mpr (fun k _ => by simp)) x q
              rw [← e]
              exact ⟨q1, by show tT w ≤ tF x.1; omega, add_dg hD (by omega) ⟨v1, v2⟩ true (ord_ok hm q3)⟩
          · rw [if_neg c5] at e
            have e := Sum.inr.inj e
            rw [← e]
            exact ⟨t3.1, by show tT w ≤ tF (tokO T n (tT (tokO T n (tT (tokO T n (tT w)))))); omega, add_dg hD (by omega) ⟨v1, v2⟩ false (fun t ht => ⟨Nat.zero_le _, by symm; exact fb_ct_zero.mpr (fun k _ => by simp)⟩)⟩
  · rw [if_neg c1] at e
    by_cases c2 : wdO T w 6 = true
    · rw [if_pos c2] at e
      unfold lwO at e
      dsimp only at e
      by_cases c3 : wdO T (tokO T n (tT w)) 7 = true
      · rw [if_pos c3] at e
        have e := Sum.inr.inj e
        rw [← e]
        obtain ⟨h1, h2, h3, h4, h5, h6, h7, h8, h9, h10⟩ := ha
        exact ⟨t2.1, by show tT w ≤ tF (tokO T n (tT (tokO T n (tT w)))); omega, ⟨h1, h2, h3, Nat.zero_le _, fun z => absurd z (by show ¬ (0 : Nat) = 1; decide), fun z => absurd z (by show ¬ (0 : Nat) = 2; decide), h7, h8, h9, h10⟩, htc, hG, hNm⟩
      · rw [if_neg c3] at e
        by_cases c4 : wdO T (tokO T n (tT w)) 8 = true
        · rw [if_pos c4] at e
          by_cases c5 : nbO (tokO T n (tT (tokO T n (tT w)))) 1 999 1000 false ≠ 0
          · rw [if_pos c5] at e; cases e
          · rw [if_neg c5] at e
            obtain ⟨_, _, v1, v2, _, _⟩ := nb_ok (Classical.not_not.mp c5)
            have e := Sum.inr.inj e
            rw [← e]
            obtain ⟨h1, h2, h3, h4, h5, h6, h7, h8, h9, h10⟩ := ha
            exact ⟨t3.1, by show tT w ≤ tF (tokO T n (tT (tokO T n (tT (tokO T n (tT w)))))); omega, ⟨h1, h2, h3, (by decide : (1 : Nat) ≤ 2), fun _ => ⟨v1, v2⟩, fun z => absurd z (by show ¬ (1 : Nat) = 2; decide), h7, h8, h9, h10⟩, htc, hG, hNm⟩
        · rw [if_neg c4] at e
          by_cases c5 : wdO T (tokO T n (tT w)) 9 = true
          · rw [if_pos c5] at e
            cases q : tdO T n 9 (tokO T n (tT (tokO T n (tT w)))) 0 (fun _ => 0) with
            | inl x => rw [q] at e; cases e
            | inr x =>
              rw [q] at e
              have e := Sum.inr.inj e
              obtain ⟨q1, q2, q3, q4, q5⟩ := td_ok 9 _ 0 _ t2.1 (by decide) (fun k hk => absurd hk (Nat.not_lt_zero _)) x q
              rw [← e]
              obtain ⟨h1, h2, h3, h4, h5, h6, h7, h8, h9, h10⟩ := ha
              refine ⟨q1, by show tT w ≤ tF x.1; omega, ⟨h1, h2, h3, Nat.le_refl _, fun z => absurd z (by show ¬ (2 : Nat) = 1; decide), fun _ => ⟨q3, q4, q5⟩, h7, h8, h9, fun p t hp ht => ?_⟩, q4, fun p t hp ht => ?_, hNm⟩
              · have : aP (tolA A x.2.1 x.2.2) p t = aP A p t := tolA_P A _ _ p t
                show aP (tolA A x.2.1 x.2.2) p t < aM A
                rw [this]; exact h10 p t hp ht
              · have : aP (tolA A x.2.1 x.2.2) p t = aP A p t := tolA_P A _ _ p t
                show g p t ≤ 9 + aM A ∧ aP (tolA A x.2.1 x.2.2) p t = _
                rw [this]; exact hG p t hp ht
          · rw [if_neg c5] at e; cases e
    · rw [if_neg c2] at e
      by_cases c3 : wdO T w 10 = true
      · rw [if_pos c3] at e
        unfold ltO at e
        dsimp only at e
        cases q : tnO T n (aM A) (aN A) 9 (tokO T n (tT w)) 0 (fun _ => 0) with
        | inl x => rw [q] at e; cases e
        | inr x =>
          rw [q] at e
          have e := Sum.inr.inj e
          obtain ⟨q1, q2, q3, q4⟩ := tn_ok 9 _ 0 _ t1.1 (by omega) (fun k hk => absurd hk (Nat.not_lt_zero _)) x q
          rw [← e]
          obtain ⟨h1, h2, h3, h4, h5, h6, h7, h8, h9, h10⟩ := ha
          refine ⟨q1, by show tT w ≤ tF x.1; omega, ⟨h1, h2, h3, h4, h5, h6, ⟨q3, q4⟩, h8, h9, fun p t hp ht => ?_⟩, htc, fun p t hp ht => ?_, hNm⟩
          · have : aP (turA A x.2.1 x.2.2) p t = aP A p t := turA_P A _ _ p t
            show aP (turA A x.2.1 x.2.2) p t < aM A
            rw [this]; exact h10 p t hp ht
          · have : aP (turA A x.2.1 x.2.2) p t = aP A p t := turA_P A _ _ p t
            show g p t ≤ 9 + aM A ∧ aP (turA A x.2.1 x.2.2) p t = _
            rw [this]; exact hG p t hp ht
      · rw [if_neg c3] at e; cases e
theorem sm_ok {T : Nat → Nat} {n a : Nat} {q : Sum FT (TK × DR)} (h : ∀ r, q = Sum.inr r → TG n r.1 ∧ a ≤ tF r.1 ∧ DG r.2) : ∀ r, smO2 T n q = Sum.inr r → TG n r.1 ∧ a + 1 ≤ tT r.1 ∧ DG r.2 := by
  intro r e
  cases q with
  | inl x => cases e
  | inr x =>
    obtain ⟨h1, h2, h3⟩ := h x rfl
    have e : (if tK x.1 = 3 then Sum.inr (tokO T n (tT x.1), x.2) else Sum.inl (1, tF x.1) : Sum FT (TK × DR)) = Sum.inr r := e
    by_cases c : tK x.1 = 3
    · rw [if_pos c] at e
      have e := Sum.inr.inj e
      have t1 := tok_pos T h1.2.1
      have h5 := h1.2.2.2.2 (by rw [c]; decide)
      have h11 := t1.1.1
      rw [← e]
      exact ⟨t1.1, by show a + 1 ≤ tT (tokO T n (tT x.1)); omega, h3⟩
    · rw [if_neg c] at e; cases e
theorem D00_ok {m : Nat} (h : 2 ≤ m ∧ m ≤ 9) : DG (D00 m) := by
  refine ⟨⟨h, Nat.zero_le _, rfl, Nat.zero_le _, fun z => absurd z (by show ¬ (0 : Nat) = 1; decide), fun z => absurd z (by show ¬ (0 : Nat) = 2; decide), ⟨by show 0 + 1 ≤ m; omega, fun k hk => absurd hk (Nat.not_lt_zero _)⟩, (by decide : (0 : Nat) < 256), fun p hp => absurd hp (Nat.not_lt_zero _), fun p t hp => absurd hp (Nat.not_lt_zero _)⟩, Nat.zero_le _, fun p t hp => absurd hp (Nat.not_lt_zero _), (by decide : (0 : Nat) < 2 ^ 0)⟩
