/-! ===== what the calls answer, in numbers: rows, sight, ties ===== -/
/-- f 0 ++ f 1 ++ .. ++ f (n - 1) -/
def fmO (f : Nat → List Nat) : Nat → List Nat
  | 0 => []
  | n + 1 => fmO f n ++ f n
def decO (due : Nat → Nat) (p : Nat) : Nat → Nat := fun q => if q = p then due q - 1 else due q
/-- the ends of all rows of k turns, due p of them p's -/
def rgL (P : Nat → Nat → Nat) (m n : Nat) : Nat → (Nat → Nat) → Nat → List Nat
  | 0, _, left => [left]
  | k + 1, due, left => fmO (fun p => if due p = 0 then [] else rgL P m n k (decO due p) (spO (P p) m left)) n
def orL (a : Nat) (l : List Nat) : Nat := l.foldl (fun x y => x ||| y) a
def andL (a : Nat) (l : List Nat) : Nat := l.foldl (fun x y => x &&& y) a
def dueO (u : Nat → Nat) (nt : Nat) (p : Nat) : Nat := fb_ct (fun i => decide (u i = p)) nt
def rwL (A : AH) : List Nat := rgL (aP A) (aM A) (aN A) (aNt A) (dueO (aU A) (aNt A)) (2 ^ aM A - 1)
def rwS (A : AH) : Nat := orL 0 (rwL A)
def rwA (A : AH) : Nat := andL (2 ^ aM A - 1) (rwL A)
def rwN (A : AH) : Nat := (rwL A).length
/-- who sees to the end: is e better than own -/
def betO (f : Nat → Nat) (m e own : Nat) : Bool := decide (gpO f e m < gpO f own m) || (decide (gpO f e m = gpO f own m) && decide (suO f e m < suO f own m))
def dfO (f : Nat → Nat) (m : Nat) (ends : Nat → Nat) (left : Nat) : Nat → Nat × Option Nat
  | 0 => (left, none)
  | t + 1 => if left.testBit t = true then (if (dfO f m ends left t).2 = none then (ends t, some t) else if betO f m (ends t) (dfO f m ends left t).1 = true then (ends t, some t) else dfO f m ends left t) else dfO f m ends left t
/-- k turns are left, and the things 'left' -/
def deO (P : Nat → Nat → Nat) (m : Nat) (u : Nat → Nat) (nt : Nat) : Nat → Nat → Nat × Option Nat
  | 0, left => (left, none)
  | k + 1, left => dfO (P (u (nt - (k + 1)))) m (fun t => (deO P m u nt k (qs_cl left t)).1) left m
def deA (A : AH) (left : Nat) : Nat × Option Nat := deO (aP A) (aM A) (aU A) (aNt A) (aNt A - (aM A - qs_sz left)) left
/-! ties -/
def faO : Nat → Nat
  | 0 => 1
  | n + 1 => (n + 1) * faO n
/-- how many have place q -/
def gsO (f : Nat → Nat) (m q : Nat) : Nat := fb_ct (fun t => decide (f t = q)) m
def prO (f : Nat → Nat) : Nat → Nat
  | 0 => 1
  | n + 1 => prO f n * f n
/-- the orders of one, all of them -/
def odO (f : Nat → Nat) (m : Nat) : Nat := prO (fun q => faO (gsO f m q)) m
def orA (A : AH) (p : Nat) : Nat := min 241 (odO (aP A p) (aM A))
/-- the ways of the first j people, cut at 241 -/
def wyO (A : AH) : Nat → Nat
  | 0 => 1
  | j + 1 => min 241 (wyO A j * orA A j)
def wyA (A : AH) : Nat := wyO A (aN A)
def oiO (A : AH) (w p : Nat) : Nat := w / wyO A p % orA A p
/-- the digit of the order k at place q -/
def dgO (f : Nat → Nat) (m k q : Nat) : Nat := k / prO (fun r => faO (gsO f m r)) q % faO (gsO f m q)
/-- the things of t's place that come ahead of t -/
def ixO (f : Nat → Nat) (t : Nat) : Nat := fb_ct (fun s => decide (f s = f t)) t
/-- places in the order k: rk size digit member is the member's rank in its group -/
def plO (rk : Nat → Nat → Nat → Nat) (f : Nat → Nat) (m k t : Nat) : Nat := f t + rk (gsO f m (f t)) (dgO f m k (f t)) (ixO f t)
/-- the c-th row of 0 .. s - 1: which is at place j -/
def nuO (used : Nat) : Nat → Nat → Nat → Nat
  | 0, _, _ => 0
  | f + 1, skip, t => if used.testBit t = true then nuO used f skip (t + 1) else if skip = 0 then t else nuO used f (skip - 1) (t + 1)
def noO (s : Nat) : Nat → Nat → Nat → List Nat
  | 0, _, _ => []
  | k + 1, used, rest => nuO used s (rest / faO k) 0 :: noO s k (used ||| 2 ^ nuO used s (rest / faO k) 0) (rest % faO k)
def rkX (s c j : Nat) : Nat := (noO s s 0 c).getD j 0
/-- the reference's: members ms, digits of c; who comes when -/
def lmO : Nat → List Nat → Nat → List Nat
  | 0, _, _ => []
  | k + 1, ms, c => ms.getD (c % (k + 1)) 0 :: lmO k (ms.eraseIdx (c % (k + 1))) (c / (k + 1))
def rkM (s c j : Nat) : Nat := (lmO s (List.range s) c).idxOf j
def wpO (rk : Nat → Nat → Nat → Nat) (A : AH) (w p t : Nat) : Nat := plO rk (aP A p) (aM A) (oiO A w p) t
def wcO (rk : Nat → Nat → Nat → Nat) (A : AH) (w : Nat) : Nat := coO (wpO rk A w) (aM A) (aN A) (aMay A (aM A) (aAW A))
/-- over the ways below w (those with order k of p): all, some -/
def waO (rk : Nat → Nat → Nat → Nat) (A : AH) : Nat → Nat
  | 0 => 2 ^ aM A - 1
  | w + 1 => waO rk A w &&& wcO rk A w
def wsO (rk : Nat → Nat → Nat → Nat) (A : AH) : Nat → Nat
  | 0 => 0
  | w + 1 => wsO rk A w ||| wcO rk A w
def kaO (rk : Nat → Nat → Nat → Nat) (A : AH) (p k : Nat) : Nat → Nat
  | 0 => 2 ^ aM A - 1
  | w + 1 => if oiO A w p = k then kaO rk A p k w &&& wcO rk A w else kaO rk A p k w
def ksO (rk : Nat → Nat → Nat → Nat) (A : AH) (p k : Nat) : Nat → Nat
  | 0 => 0
  | w + 1 => if oiO A w p = k then ksO rk A p k w ||| wcO rk A w else ksO rk A p k w
/-! ===== the relation of the two states ===== -/
/-- the tape: how long, its bytes -/
def TP (lx lm : Int32) (tx tm : Nat → Int32) : Prop := ∃ (len : Nat) (T : Nat → Nat), len ≤ 600 ∧ lx = nI len ∧ lm = nI len ∧ ∀ k, k < len → T k < 256 ∧ tx k &&& 255 = nI (T k) ∧ tm k = nI (T k)
def skO (x : Int64) (i : Nat) : Int32 := ((x >>> (((4 : Int32) * nI i).toInt64 &&& 63)).toInt32) &&& (15 : Int32)
/-- rows told -/
def BD (m nt rc : Nat) (mn : Nat → Nat) (th : Nat → Nat → Nat) (cx cm : Int32) (mx mm : Nat → Int32) (sx : Nat → Int64) (tm : Nat → Int32) : Prop := rc ≤ 12 ∧ cx = nI rc ∧ cm = nI rc ∧ ∀ r, r < rc → mn r ≤ nt ∧ mx r = nI (mn r) ∧ mm r = nI (mn r) ∧ ∀ i, i < mn r → th r i < m ∧ skO (sx r) i = nI (th r i) ∧ tm (9 * r + i) = nI (th r i)
/-- holders -/
def HD (m rc : Nat) (kx nx km nm : Nat → Int32) : Prop := ∀ h, h < 8 → (kx h = 2 ∧ km h = -1) ∨ (∃ n, n < m ∧ kx h = 0 ∧ km h = 0 ∧ nx h = nI n ∧ nm h = nI n) ∨ (∃ n, n < rc ∧ kx h = 1 ∧ km h = 1 ∧ nx h = nI n ∧ nm h = nI n)
/-- a version kept: none, or not above v -/
def VS (v : Nat) (x : Int32) : Prop := x = -1 ∨ ∃ w, w ≤ v ∧ x = nI w
/-- what the class keeps of rows, the reference of rows, of sight -/
def XR (A : AH) (kn s a : Int32) : Prop := kn = 0 ∨ (s = nI (rwS A) ∧ a = nI (rwA A))
def MR (A : AH) (rv v s a c : Int32) : Prop := rv = v → s = nI (rwS A) ∧ a = nI (rwA A) ∧ c = nI (rwN A)
def MD (A : AH) (dv v : Int32) (de ds : Nat → Int32) : Prop := dv = v → de (2 ^ aM A - 1) = nI (deA A (2 ^ aM A - 1)).1 ∧ ds (2 ^ aM A - 1) = eO (deA A (2 ^ aM A - 1)).2
/-- what they keep of ties -/
def XT (A : AH) (kn w al so : Int32) (co od st : Nat → Int32) : Prop := kn = 0 ∨ (w = nI (wyA A) ∧ (∀ p, p < aN A → od p = nI (orA A p) ∧ st p = nI (wyO A p)) ∧ (wyA A ≤ 240 → al = nI (waO rkX A (wyA A)) ∧ so = nI (wsO rkX A (wyA A)) ∧ ∀ j, j < wyA A → co j = nI (wcO rkX A j)))
def MT (A : AH) (tv v w so al sp : Int32) (od ks ka : Nat → Int32) : Prop := tv = v → (w = nI (wyA A) ∧ (∀ p, p < aN A → od p = nI (orA A p)) ∧ sp = (if wyA A ≤ 240 then 0 else 1) ∧ (wyA A ≤ 240 → al = nI (waO rkM A (wyA A)) ∧ so = nI (wsO rkM A (wyA A)) ∧ ∀ p k, p < aN A → k < orA A p → ks (240 * p + k) = nI (ksO rkM A p k (wyA A)) ∧ ka (240 * p + k) = nI (kaO rkM A p k (wyA A))))
def RB (A : AH) (g : Nat → Nat → Nat) (v i : Nat) (σx σm : hsS) : Prop :=
  ((AW A ∧ aTc A ≤ 8) ∧ GW A g ∧ HX 1 A σx ∧ MH A g σm) ∧
  (σm.1 12 = nI v ∧ 6 * v ≤ i ∧ VS v (σm.1 28) ∧ VS v (σm.1 36) ∧ VS v (σm.1 39) ∧ VS v (σm.1 50)) ∧
  (TP (σx.1 706) (σm.1 14) (σx.2.1 12) (σm.2.1 12) ∧ σx.1 713 = σm.1 23) ∧
  (∃ rc mn th, BD (aM A) (aNt A) rc mn th (σx.1 1922) (σm.1 52) (σx.2.1 31) (σm.2.1 27) (σx.2.2 32) (σm.2.1 28) ∧ HD (aM A) rc (σx.2.1 33) (σx.2.1 34) (σm.2.1 29) (σm.2.1 30)) ∧
  σx.2.1 22 0 = 0 ∧
  (XR A (σx.1 1473) (σx.1 1474) (σx.1 1475) ∧ MR A (σm.1 36) (σm.1 12) (σm.1 33) (σm.1 34) (σm.1 35) ∧ MD A (σm.1 39) (σm.1 12) (σm.2.1 18) (σm.2.1 19)) ∧
  MM A σm ∧
  XT A (σx.1 1604) (σx.1 1605) (σx.1 1606) (σx.1 1607) (σx.2.1 26) (σx.2.1 27) (σx.2.1 28) ∧
  MT A (σm.1 50) (σm.1 12) (σm.1 47) (σm.1 48) (σm.1 49) (σm.1 51) (σm.2.1 22) (σm.2.1 24) (σm.2.1 25)
def RR (i : Nat) (σx σm : hsS) : Prop := ∃ A g v, RB A g v i σx σm
section RbG
variable {A : AH} {g : Nat → Nat → Nat} {v i : Nat} {σx σm : hsS}
theorem rb_aw (h : RB A g v i σx σm) : AW A := h.1.1.1
theorem rb_tc (h : RB A g v i σx σm) : aTc A ≤ 8 := h.1.1.2
theorem rb_gw (h : RB A g v i σx σm) : GW A g := h.1.2.1
theorem rb_hx (h : RB A g v i σx σm) : HX 1 A σx := h.1.2.2.1
theorem rb_mh (h : RB A g v i σx σm) : MH A g σm := h.1.2.2.2
theorem rb_v (h : RB A g v i σx σm) : σm.1 12 = nI v ∧ 6 * v ≤ i ∧ VS v (σm.1 28) ∧ VS v (σm.1 36) ∧ VS v (σm.1 39) ∧ VS v (σm.1 50) := h.2.1
theorem rb_tp (h : RB A g v i σx σm) : TP (σx.1 706) (σm.1 14) (σx.2.1 12) (σm.2.1 12) := h.2.2.1.1
theorem rb_fl (h : RB A g v i σx σm) : σx.1 713 = σm.1 23 := h.2.2.1.2
theorem rb_bd (h : RB A g v i σx σm) : ∃ rc mn th, BD (aM A) (aNt A) rc mn th (σx.1 1922) (σm.1 52) (σx.2.1 31) (σm.2.1 27) (σx.2.2 32) (σm.2.1 28) ∧ HD (aM A) rc (σx.2.1 33) (σx.2.1 34) (σm.2.1 29) (σm.2.1 30) := h.2.2.2.1
theorem rb_e0 (h : RB A g v i σx σm) : σx.2.1 22 0 = 0 := h.2.2.2.2.1
theorem rb_xr (h : RB A g v i σx σm) : XR A (σx.1 1473) (σx.1 1474) (σx.1 1475) := h.2.2.2.2.2.1.1
theorem rb_mr (h : RB A g v i σx σm) : MR A (σm.1 36) (σm.1 12) (σm.1 33) (σm.1 34) (σm.1 35) := h.2.2.2.2.2.1.2.1
theorem rb_md (h : RB A g v i σx σm) : MD A (σm.1 39) (σm.1 12) (σm.2.1 18) (σm.2.1 19) := h.2.2.2.2.2.1.2.2
theorem rb_mm (h : RB A g v i σx σm) : MM A σm := h.2.2.2.2.2.2.1
theorem rb_xt (h : RB A g v i σx σm) : XT A (σx.1 1604) (σx.1 1605) (σx.1 1606) (σx.1 1607) (σx.2.1 26) (σx.2.1 27) (σx.2.1 28) := h.2.2.2.2.2.2.2.1
theorem rb_mt (h : RB A g v i σx σm) : MT A (σm.1 50) (σm.1 12) (σm.1 47) (σm.1 48) (σm.1 49) (σm.1 51) (σm.2.1 22) (σm.2.1 24) (σm.2.1 25) := h.2.2.2.2.2.2.2.2
/-- time goes by -/
theorem RB.up (h : RB A g v i σx σm) {j : Nat} (hj : i ≤ j) : RB A g v j σx σm :=
  ⟨h.1, ⟨h.2.1.1, Nat.le_trans h.2.1.2.1 hj, h.2.1.2.2⟩, h.2.2⟩
/-- the class's cells that nothing of the relation looks at: the spare hall, sets, ranks, a false order -/
theorem RB.frx (h : RB A g v i σx σm) {σ' : hsS} (hf : FRm [384, 385, 386, 387, 388, 389, 390, 391] [7, 8, 9, 10, 19, 20, 29, 35] σx σ') : RB A g v i σ' σm := by
  obtain ⟨⟨h1, h2, h3, h4⟩, h5, ⟨h6, h7⟩, h8, h9, ⟨h10, h11, h12⟩, h13, h14, h15⟩ := h
  refine ⟨⟨h1, h2, h3.fr hf (by decide) (by decide), h4⟩, h5, ⟨?_, ?_⟩, ?_, ?_, ⟨?_, h11, h12⟩, h13, ?_, h15⟩
  · rw [hf.1 706 (by decide), hf.2.1 12 (by decide)]; exact h6
  · rw [hf.1 713 (by decide)]; exact h7
  · rw [hf.1 1922 (by decide), hf.2.1 31 (by decide), hf.2.1 33 (by decide), hf.2.1 34 (by decide), hf.2.2]; exact h8
  · rw [hf.2.1 22 (by decide)]; exact h9
  · rw [hf.1 1473 (by decide), hf.1 1474 (by decide), hf.1 1475 (by decide)]; exact h10
  · rw [hf.1 1604 (by decide), hf.1 1605 (by decide), hf.1 1606 (by decide), hf.1 1607 (by decide), hf.2.1 26 (by decide), hf.2.1 27 (by decide), hf.2.1 28 (by decide)]; exact h14
/-- the reference's -/
theorem RB.frm (h : RB A g v i σx σm) {σ' : hsS} (hf : FRm [0, 25, 28, 29, 30] [13, 14, 15, 16, 17, 20, 21, 26] σm σ') (hv : VS v (σ'.1 28)) (hM : MM A σ') : RB A g v i σx σ' := by
  obtain ⟨⟨h1, h2, h3, h4⟩, ⟨h5, h5a, h5b, h5c, h5d, h5e⟩, ⟨h6, h7⟩, h8, h9, ⟨h10, h11, h12⟩, h13, h14, h15⟩ := h
  refine ⟨⟨h1, h2, h3, h4.fr hf (by decide)⟩, ⟨?_, h5a, hv, ?_, ?_, ?_⟩, ⟨?_, ?_⟩, ?_, h9, ⟨h10, ?_, ?_⟩, hM, h14, ?_⟩
  · rw [hf.1 12 (by decide)]; exact h5
  · rw [hf.1 36 (by decide)]; exact h5c
  · rw [hf.1 39 (by decide)]; exact h5d
  · rw [hf.1 50 (by decide)]; exact h5e
  · rw [hf.1 14 (by decide), hf.2.1 12 (by decide)]; exact h6
  · rw [hf.1 23 (by decide)]; exact h7
  · rw [hf.1 52 (by decide), hf.2.1 27 (by decide), hf.2.1 28 (by decide), hf.2.1 29 (by decide), hf.2.1 30 (by decide)]; exact h8
  · rw [hf.1 36 (by decide), hf.1 12 (by decide), hf.1 33 (by decide), hf.1 34 (by decide), hf.1 35 (by decide)]; exact h11
  · rw [hf.1 39 (by decide), hf.1 12 (by decide), hf.2.1 18 (by decide), hf.2.1 19 (by decide)]; exact h12
  · rw [hf.1 50 (by decide), hf.1 12 (by decide), hf.1 47 (by decide), hf.1 48 (by decide), hf.1 49 (by decide), hf.1 51 (by decide), hf.2.1 22 (by decide), hf.2.1 24 (by decide), hf.2.1 25 (by decide)]; exact h15
/-- .. and where the mays aren't touched -/
theorem RB.frs (h : RB A g v i σx σm) {σ' : hsS} (hf : FRm [0, 25] [13, 15, 16, 17, 20, 21, 26] σm σ') : RB A g v i σx σ' :=
  h.frm (hf.weak (by decide) (by decide)) (by rw [hf.1 28 (by decide)]; exact (rb_v h).2.2.1) ((rb_mm h).fr hf (by decide) (by decide) (by decide) (by decide) (by decide))
end RbG
