/-! ===== turns in all rows: how many; the reference; the call ===== -/
theorem prO_cong {f f' : Nat → Nat} : ∀ {n : Nat}, (∀ k, k < n → f k = f' k) → prO f n = prO f' n
  | 0, _ => rfl
  | n + 1, h => by
    show prO f n * f n = prO f' n * f' n
    rw [prO_cong (fun k hk => h k (by omega)), h n (by omega)]
theorem prO_one {f : Nat → Nat} : ∀ {n : Nat}, (∀ k, k < n → f k = 1) → prO f n = 1
  | 0, _ => rfl
  | n + 1, h => by
    show prO f n * f n = 1
    rw [prO_one (fun k hk => h k (by omega)), h n (by omega)]
theorem prO_pos {f : Nat → Nat} : ∀ {n : Nat}, (∀ k, k < n → 0 < f k) → 0 < prO f n
  | 0, _ => Nat.one_pos
  | n + 1, h => Nat.mul_pos (prO_pos (fun k hk => h k (by omega))) (h n (by omega))
theorem faO_pos : ∀ n, 0 < faO n
  | 0 => Nat.one_pos
  | n + 1 => Nat.mul_pos (by omega) (faO_pos n)
theorem prO_dec {due : Nat → Nat} {p : Nat} (h : due p ≠ 0) : ∀ {n : Nat}, p < n → prO (fun q => faO (due q)) n = prO (fun q => faO (decO due p q)) n * due p
  | 0, hp => absurd hp (Nat.not_lt_zero _)
  | n + 1, hp => by
    show prO (fun q => faO (due q)) n * faO (due n) = prO (fun q => faO (decO due p q)) n * faO (decO due p n) * due p
    rcases Nat.decEq p n with z | z
    · have ih := prO_dec h (n := n) (by omega)
      rw [ih, show decO due p n = due n from if_neg (fun c => z c.symm), Nat.mul_assoc, Nat.mul_assoc, Nat.mul_comm (due p)]
    · subst z
      have e1 : prO (fun q => faO (decO due p q)) p = prO (fun q => faO (due q)) p := prO_cong (fun k hk => by
        rw [show decO due p k = due k from if_neg (by omega)])
      rw [e1, show decO due p p = due p - 1 from if_pos rfl]
      obtain ⟨d, hd⟩ : ∃ d, due p = d + 1 := ⟨due p - 1, by omega⟩
      rw [hd, Nat.add_sub_cancel]
      show _ * ((d + 1) * faO d) = _ * faO d * (d + 1)
      rw [Nat.mul_assoc, Nat.mul_comm (d + 1)]
theorem fmO_len (f : Nat → List Nat) : ∀ n, (fmO f n).length = fb_sm (fun p => (f p).length) n
  | 0 => rfl
  | n + 1 => by
    show (fmO f n ++ f n).length = _
    rw [List.length_append, fmO_len f n, fb_sm_succ]
theorem fb_sm_mul (f : Nat → Nat) (c : Nat) : ∀ n, fb_sm f n * c = fb_sm (fun p => f p * c) n
  | 0 => Nat.zero_mul c
  | n + 1 => by rw [fb_sm_succ, fb_sm_succ, Nat.add_mul, fb_sm_mul f c n]
theorem decO_sum {due : Nat → Nat} {p n : Nat} (hp : p < n) (h : due p ≠ 0) : fb_sm (decO due p) n + 1 = fb_sm due n := by
  have e := fb_sm_upd due (due p - 1) (i := p) (n := n) hp
  have e2 : fb_sm (fun k => if k = p then due p - 1 else due k) n = fb_sm (decO due p) n := fb_sm_cong (fun k _ => by
    unfold decO
    rcases Nat.decEq k p with z | z
    · rw [if_neg z, if_neg z]
    · rw [if_pos z, if_pos z, z])
  rw [e2] at e; omega
theorem rg_len (P : Nat → Nat → Nat) (m n : Nat) : ∀ (k : Nat) (due : Nat → Nat) (left : Nat), fb_sm due n = k → (rgL P m n k due left).length * prO (fun p => faO (due p)) n = faO k
  | 0, due, left, h => by
    have h0 := fb_sm_zero h
    show 1 * _ = 1
    rw [prO_one (fun k hk => by rw [h0 k hk]; rfl)]
  | k + 1, due, left, h => by
    show (fmO (fun p => if due p = 0 then [] else rgL P m n k (decO due p) (spO (P p) m left)) n).length * _ = (k + 1) * faO k
    rw [fmO_len, fb_sm_mul]
    have e : fb_sm (fun p => (if due p = 0 then [] else rgL P m n k (decO due p) (spO (P p) m left)).length * prO (fun p => faO (due p)) n) n = fb_sm (fun p => due p * faO k) n := fb_sm_cong (fun p hp => by
      by_cases hz : due p = 0
      · rw [if_pos hz, hz]; simp
      · rw [if_neg hz, prO_dec hz hp, ← Nat.mul_assoc, rg_len P m n k (decO due p) _ (by have := decO_sum hp hz; omega), Nat.mul_comm])
    rw [e, ← fb_sm_mul, h]
theorem fb_sm_unit {q n : Nat} (h : q < n) : fb_sm (fun p => if q = p then 1 else 0) n = 1 := by
  have e := fb_sm_upd (fun _ => 0) 1 (i := q) (n := n) h
  have e2 : fb_sm (fun k => if k = q then 1 else (fun _ => 0) k) n = fb_sm (fun p => if q = p then 1 else 0) n := fb_sm_cong (fun k _ => by
    rcases Nat.decEq k q with z | z
    · rw [if_neg z, if_neg (fun c => z c.symm)]
    · rw [if_pos z, if_pos z.symm])
  rw [e2, fb_sm_const] at e
  omega
theorem due_sum {u : Nat → Nat} {n : Nat} : ∀ {nt : Nat}, (∀ i, i < nt → u i < n) → fb_sm (dueO u nt) n = nt
  | 0, _ => by
    have : fb_sm (dueO u 0) n = fb_sm (fun _ => 0) n := fb_sm_cong (fun _ _ => rfl)
    rw [this, fb_sm_const, Nat.mul_zero]
  | nt + 1, h => by
    have e : fb_sm (dueO u (nt + 1)) n = fb_sm (fun p => dueO u nt p + (if u nt = p then 1 else 0)) n := fb_sm_cong (fun p _ => by
      unfold dueO; rw [fb_ct_succ]; simp)
    rw [e, fb_sm_add, due_sum (fun i hi => h i (by omega)), fb_sm_unit (h nt (by omega))]
theorem rw_len {A : AH} (ha : AW A) : rwN A * prO (fun p => faO (dueO (aU A) (aNt A) p)) (aN A) = faO (aNt A) := rg_len _ _ _ _ _ _ (due_sum (fun _ hi => aw_u ha hi))
theorem fa_x : ∀ j, j < 10 → (if (1 : Int32) < xfact j then xfact j else 1) = nI (faO j) := by decide +kernel
theorem faO_lt : ∀ j, j < 10 → faO j < 2 ^ 30 := by decide +kernel
theorem qx_factorial {σ : hsS} {j : Nat} (hj : j < 10) {post : Int32 → hsS → Prop} (k : post (nI (faO j)) σ) : wX7_factorial (nI j) post σ := by
  refine br_f (nI_pos (by omega)) (br_f (nI_ge (b := 10) hj (by decide)) ⟨pk_in j 10 hj, ?_⟩)
  rw [nI_clamp (by omega), fa_x j hj]; exact k
theorem prO_tail (f : Nat → Nat) {j : Nat} : ∀ {n : Nat}, j ≤ n → ∃ R, prO f n = prO f j * R
  | 0, h => ⟨1, by rw [show j = 0 by omega]; rfl⟩
  | n + 1, h => by
    rcases Nat.decEq j (n + 1) with z | z
    · obtain ⟨R, hR⟩ := prO_tail f (n := n) (j := j) (by omega)
      exact ⟨R * f n, by show prO f n * f n = _; rw [hR, Nat.mul_assoc]⟩
    · exact ⟨1, by rw [z, Nat.mul_one]⟩
section RowY
variable {A : AH} {g : Nat → Nat → Nat} {σ : hsS}
theorem qx_rowsOf (ha : AW A) (hx : HX 1 A σ) {post : Int32 → hsS → Prop} (k : post (nI (rwN A)) σ) : wX6_rowsOf 1 post σ := by
  have hm := aw_m ha; have hnt := aw_nt ha; have hn := aw_n ha
  have hlen := rw_len ha
  have hdl : ∀ p, dueO (aU A) (aNt A) p < 10 := fun p => by have := fb_ct_le (fun i => decide (aU A i = p)) (aNt A); unfold dueO; omega
  have hf0 : ∀ p, 0 < faO (dueO (aU A) (aNt A) p) := fun p => faO_pos _
  unfold wX6_rowsOf
  rw [hx_nt hx]
  refine qx_factorial (by omega) ?_
  have LI : ∀ (p : Nat), p < aN A → ∀ (z1 : Int32) (K : Int32 → Int32 → hsS → Prop), (∀ z, K (nI (dueO (aU A) (aNt A) p)) z σ) → ∃ n, wX6_rowsOf_L23 1 z1 (nI p) K post n 0 0 σ := fun p hp z1 K kk =>
    pk_loop (fun n j (y : Int32) => wX6_rowsOf_L23 1 z1 (nI p) K post n y (nI j) σ) (fun j y => y = nI (fb_ct (fun i => decide (aU A i = p)) j)) (aNt A) 0 0 (Nat.zero_le _) rfl
      (fun n y e => by
        rw [wX6_rowsOf_L23]
        exact br_t (by rw [hx_nt hx]; exact nI_le (Nat.le_refl _) (by omega)) (by rw [e]; exact kk _))
      (fun n j y hj e ih => by
        rw [wX6_rowsOf_L23]
        have hu := aw_u ha hj
        refine br_f (by rw [hx_nt hx]; exact nI_ge hj (by omega)) ⟨pk_in j 8 (by omega), ?_⟩
        rw [nI_clamp (by omega), hx_u hx hj]
        refine pk_eq (aU A j) p (fun c => nm_e (nm_e ?_)) (fun c => nm_e ?_)
        · rw [e, nI_1, nI_1]
          refine ih _ ?_
          rw [fb_ct_succ]; simp [c]
        · rw [nI_1]
          refine ih _ ?_
          rw [fb_ct_succ, e]; simp [c])
  have L : ∀ K : Int32 → Int32 → hsS → Prop, (∀ z, K (nI (rwN A)) z σ) → ∃ n, wX6_rowsOf_L10 1 K post n (nI (faO (aNt A))) 0 σ := fun K kk =>
    pk_loop (fun n p (y : Int32) => wX6_rowsOf_L10 1 K post n y (nI p) σ) (fun p y => ∃ R, prO (fun p => faO (dueO (aU A) (aNt A) p)) (aN A) = prO (fun p => faO (dueO (aU A) (aNt A) p)) p * R ∧ y = nI (rwN A * R)) (aN A) 0 (nI (faO (aNt A))) (Nat.zero_le _) ⟨prO (fun p => faO (dueO (aU A) (aNt A) p)) (aN A), by show _ = 1 * _; rw [Nat.one_mul], by rw [hlen]⟩
      (fun n y e => by
        obtain ⟨R, e1, e2⟩ := e
        rw [wX6_rowsOf_L10]
        have hR : R = 1 := by
          have hp := prO_pos (f := fun p => faO (dueO (aU A) (aNt A) p)) (n := aN A) (fun k _ => hf0 k)
          exact Nat.eq_of_mul_eq_mul_left hp (by rw [Nat.mul_one]; exact e1.symm)
        refine br_t (by rw [hx_n hx]; exact nI_le (Nat.le_refl _) (by omega)) ?_
        rw [e2, hR, Nat.mul_one]; exact kk _)
      (fun n p y hp e ih => by
        obtain ⟨R, e1, e2⟩ := e
        rw [wX6_rowsOf_L10]
        refine br_f (by rw [hx_n hx]; exact nI_ge hp (by omega)) (LI p hp _ _ (fun z => qx_factorial (hdl p) ?_))
        have hfl := faO_lt _ (hdl p)
        refine ⟨nI_ne0 (hf0 p) (by omega), ?_⟩
        obtain ⟨R', hR'⟩ := prO_tail (fun p => faO (dueO (aU A) (aNt A) p)) (n := aN A) (j := p + 1) hp
        have hRR : R = faO (dueO (aU A) (aNt A) p) * R' := by
          have hpp := prO_pos (f := fun p => faO (dueO (aU A) (aNt A) p)) (n := p) (fun k _ => hf0 k)
          refine Nat.eq_of_mul_eq_mul_left hpp ?_
          rw [← e1, hR']
          show prO _ p * faO (dueO (aU A) (aNt A) p) * R' = _
          rw [Nat.mul_assoc]
        have hb : rwN A * R ≤ faO (aNt A) := by
          rw [← hlen, e1]
          have hpp := prO_pos (f := fun p => faO (dueO (aU A) (aNt A) p)) (n := p) (fun k _ => hf0 k)
          exact Nat.mul_le_mul_left _ (Nat.le_mul_of_pos_left _ hpp)
        have hb2 := faO_lt (aNt A) (by omega)
        refine nm_r (e' := nI (rwN A * R')) ?_ (nm_e ?_)
        · rw [e2, pk_div (by omega) (hf0 p) (by omega), hRR, Nat.mul_left_comm, Nat.mul_div_cancel_left _ (hf0 p)]
        · rw [nI_1]
          exact ih _ ⟨R', hR', rfl⟩)
  exact L _ (fun _ => k)
theorem orL_app (a : Nat) (l l' : List Nat) : orL a (l ++ l') = orL (orL a l) l' := List.foldl_append
theorem andL_app (a : Nat) (l l' : List Nat) : andL a (l ++ l') = andL (andL a l) l' := List.foldl_append
theorem qm_go {P : Nat → Nat → Nat} {m n nt : Nat} (hn : n ≤ 8) (hnt : nt ≤ 8) : ∀ (k d i : Nat), k < d → i + k = nt → ∀ (due : Nat → Nat) (left : Nat) (σ : hsS) (post : hsS → Prop) (a b c : Nat), LK P m n σ → σ.2.1 2 (0 : Int32).toNatClampNeg = nI n → σ.2.1 6 (0 : Int32).toNatClampNeg = nI nt → (∀ p, p < n → σ.2.1 17 p = nI (due p) ∧ due p < 2 ^ 30) → left < 2 ^ m → k + 1 ≤ qs_sz left → σ.1 33 = nI a → σ.1 34 = nI b → σ.1 35 = nI c → (∀ σ', FRm [33, 34, 35] [17] σ σ' → (∀ p, p < n → σ'.2.1 17 p = nI (due p)) → σ'.1 33 = nI (orL a (rgL P m n k due left)) → σ'.1 34 = nI (andL b (rgL P m n k due left)) → σ'.1 35 = nI (c + (rgL P m n k due left).length) → post σ') → wX8_go d (nI i) (nI left) post σ
  | 0, d + 1, i, hd, hi, due, left, σ, post, a, b, c, hl, h2, h6, hdue, hlt, hsz, ha, hb, hc, kk => by
    rw [wX8_go, h6]
    refine br_t (by rw [show i = nt by omega]) (fun s2 e2 s3 e3 s4 e4 => ?_)
    have f4 : FRm [33, 34, 35] [17] σ s4 := by rw [e4, e3, e2]; exact ((FRm.int _ (by decide)).trans (FRm.int _ (by decide))).trans (FRm.int _ (by decide))
    refine kk s4 f4 (fun p hp => by rw [show s4.2.1 = σ.2.1 from by rw [e4, e3, e2]; rfl]; exact (hdue p hp).1) ?_ ?_ ?_
    · rw [e4, hsI_ne _ _ (by decide), e3, hsI_ne _ _ (by decide), e2, hsI_at, ha, fa_or]; rfl
    · rw [e4, hsI_ne _ _ (by decide), e3, hsI_at, e2, hsI_ne _ _ (by decide), hb, fa_and]; rfl
    · rw [e4, hsI_at, e3, hsI_ne _ _ (by decide), e2, hsI_ne _ _ (by decide), hc, nI_1]; rfl
  | k + 1, d + 1, i, hd, hi, due, left, σ, post, a, b, c, hl, h2, h6, hdue, hlt, hsz, ha, hb, hc, kk => by
    have hm := hl.2.1
    have hm10 : 2 ^ m ≤ 2 ^ 10 := Nat.pow_le_pow_right (by decide) hm
    rw [wX8_go, h6]
    refine br_f (fun e => by have := (nI_eq (by omega) (by omega)).mp e; omega) ?_
    let F : Nat → List Nat := fun p => if due p = 0 then [] else rgL P m n k (decO due p) (spO (P p) m left)
    have eF : rgL P m n (k + 1) due left = fmO F n := rfl
    refine pk_loop (fun f p (s : hsS) => wX8_go_L43 (nI i) (nI left) _ post (wX8_go d) f (nI p) s) (fun p s => FRm [33, 34, 35] [17] σ s ∧ (∀ q, q < n → s.2.1 17 q = nI (due q)) ∧ s.1 33 = nI (orL a (fmO F p)) ∧ s.1 34 = nI (andL b (fmO F p)) ∧ s.1 35 = nI (c + (fmO F p).length)) n 0 σ (Nat.zero_le _) ⟨FRm.rf, fun q hq => (hdue q hq).1, ha, hb, hc⟩ ?_ ?_
    · intro f s e
      obtain ⟨e1, e2, e3, e4, e5⟩ := e
      rw [wX8_go_L43]
      exact br_t (by rw [e1.2.1 2 (by decide), h2]; exact nI_le (Nat.le_refl _) (by omega)) (kk s e1 e2 (by rw [eF]; exact e3) (by rw [eF]; exact e4) (by rw [eF]; exact e5))
    · intro f p s hp e ih
      obtain ⟨e1, e2, e3, e4, e5⟩ := e
      rw [wX8_go_L43]
      have hdp := (hdue p hp).2
      refine br_f (by rw [e1.2.1 2 (by decide), h2]; exact nI_ge hp (by omega)) ⟨pk_in p 8 (by omega), ?_⟩
      rw [nI_clamp (by omega), e2 p hp]
      refine pk_eq (due p) 0 (fun c0 => nm_e ?_) (fun c0 => ⟨pk_in p 8 (by omega), pk_in p 8 (by omega), fun s8 e8 => ?_⟩)
      · rw [nI_1]
        have hF : fmO F (p + 1) = fmO F p := by
          show fmO F p ++ F p = _
          rw [show F p = [] from if_pos c0, List.append_nil]
        exact ih s ⟨e1, e2, by rw [hF]; exact e3, by rw [hF]; exact e4, by rw [hF]; exact e5⟩
      · rw [show nI (due p) - (1 : Int32) = nI (due p - 1) from pk_sub (a := due p) (b := 1) (by omega)] at e8
        have f8 : FRm [33, 34, 35] [17] σ s8 := by rw [e8]; exact e1.trans (FRm.arr _ (by decide))
        have a8 : s8.2.1 17 = upd (s.2.1 17) p (nI (due p - 1)) := by rw [e8, hsA_at]
        have i8 : s8.1 = s.1 := by rw [e8]; rfl
        have l8 : LK P m n s8 := hl.fr f8 (by decide) (by decide)
        obtain ⟨t, ht, hbt⟩ := qs_some hlt (fun e => by rw [e] at hsz; revert hsz; have : qs_sz 0 = 0 := by decide
                                                        omega)
        obtain ⟨w, ew⟩ := psO_some (P p) left m t ht hbt
        have hw := psO_in _ _ _ _ ew
        have hsp : spO (P p) m left = qs_cl left w := by unfold spO; rw [if_neg (by omega), ew]
        refine qm_plainly l8 hp (by omega) ?_
        rw [ew]
        show wX8_go d (nI i + 1) (nI left &&& (((1 : Int32) <<< (nI w &&& 31)) ^^^ (-1 : Int32))) _ s8
        rw [qb_cl _ (by omega), ← hsp, nI_1]
        have hs1 := spO_sz (f := P p) (m := m) (by omega) hlt (by omega)
        have eFp : F p = rgL P m n k (decO due p) (spO (P p) m left) := if_neg c0
        refine qm_go hn hnt k d (i + 1) (by omega) (by omega) (decO due p) (spO (P p) m left) s8 _ (orL a (fmO F p)) (andL b (fmO F p)) (c + (fmO F p).length) l8 (by rw [f8.2.1 2 (by decide)]; exact h2) (by rw [f8.2.1 6 (by decide)]; exact h6) (fun q hq => ?_) (spO_lt hlt) (by omega) (by rw [i8]; exact e3) (by rw [i8]; exact e4) (by rw [i8]; exact e5) (fun s12 g1 g2 g3 g4 g5 => ⟨pk_in p 8 (by omega), pk_in p 8 (by omega), fun s13 e13 => nm_e ?_⟩)
        · rw [a8]
          unfold decO
          rcases Nat.decEq q p with z | z
          · rw [pk_un z, if_neg z]; exact ⟨e2 q hq, (hdue q hq).2⟩
          · rw [if_pos z, z, pk_us]; exact ⟨rfl, by omega⟩
        · rw [nI_1 p]
          rw [g2 p hp, show decO due p p = due p - 1 from if_pos rfl, nI_1, show due p - 1 + 1 = due p by omega] at e13
          have a13 : s13.2.1 17 = upd (s12.2.1 17) p (nI (due p)) := by rw [e13, hsA_at]
          have i13 : s13.1 = s12.1 := by rw [e13]; rfl
          have hF : fmO F (p + 1) = fmO F p ++ rgL P m n k (decO due p) (spO (P p) m left) := by
            show fmO F p ++ F p = _
            rw [eFp]
          refine ih s13 ⟨by rw [e13]; exact (f8.trans g1).trans (FRm.arr _ (by decide)), fun q hq => ?_, ?_, ?_, ?_⟩
          · rw [a13]
            rcases Nat.decEq q p with z | z
            · rw [pk_un z, g2 q hq, show decO due p q = due q from if_neg z]
            · rw [z, pk_us]
          · rw [i13, hF, orL_app]; exact g3
          · rw [i13, hF, andL_app]; exact g4
          · rw [i13, hF, List.length_append, ← Nat.add_assoc]; exact g5
theorem qm_rowsDue (ha : AW A) (h : MH A g σ) {z1 : Int32} {post : Int32 → hsS → Prop} (K : Int32 → hsS → Prop) (k : ∀ σ', FRm [] [17] σ σ' → (∀ p, p < 8 → σ'.2.1 17 p = nI (dueO (aU A) (aNt A) p)) → ∀ z, K z σ') : ∃ n, wX8_rows_L45 z1 (fun v16 σ17 => ∃ n21, wX8_rows_L66 z1 K post n21 (0 : Int32) σ17) post n 0 σ := by
  have hm := aw_m ha; have hnt := aw_nt ha; have hn := aw_n ha
  refine pk_loop (fun n j (s : hsS) => wX8_rows_L45 z1 _ post n (nI j) s) (fun j s => FRm [] [17] σ s ∧ ∀ q, q < j → s.2.1 17 q = 0) 8 0 σ (Nat.zero_le _) ⟨FRm.rf, fun q hq => absurd hq (Nat.not_lt_zero _)⟩ ?_ ?_
  · intro n s e
    obtain ⟨e1, e2⟩ := e
    rw [wX8_rows_L45]
    refine br_t (nI_le (a := 8) (Nat.le_refl _) (by decide)) ?_
    have hM := h.fr e1 (by decide)
    refine pk_loop (fun n j (t : hsS) => wX8_rows_L66 z1 K post n (nI j) t) (fun j t => FRm [] [17] s t ∧ ∀ p, p < 8 → t.2.1 17 p = nI (dueO (aU A) j p)) (aNt A) 0 s (Nat.zero_le _) ⟨FRm.rf, fun p hp => by rw [e2 p hp]; rfl⟩ ?_ ?_
    · intro n t d
      rw [wX8_rows_L66]
      exact br_t (by rw [mh_nt (hM.fr d.1 (by decide))]; exact nI_le (Nat.le_refl _) (by omega)) (k t (e1.trans d.1) d.2 _)
    · intro n j t hj d ih
      rw [wX8_rows_L66]
      have hMt := hM.fr d.1 (by decide)
      have hu := aw_u ha hj
      refine br_f (by rw [mh_nt hMt]; exact nI_ge hj (by omega)) ⟨pk_in j 18 (by omega), ?_⟩
      rw [nI_clamp (by omega), mh_u hMt hj]
      refine ⟨pk_in (aU A j) 8 (by omega), pk_in (aU A j) 8 (by omega), fun S hS => nm_e ?_⟩
      rw [nI_1]
      rw [nI_clamp (by omega), d.2 _ (by omega), nI_1] at hS
      have hat : S.2.1 17 = upd (t.2.1 17) (aU A j) (nI (dueO (aU A) j (aU A j) + 1)) := by rw [hS, hsA_at]
      refine ih S ⟨by rw [hS]; exact d.1.trans (FRm.arr _ (by decide)), fun p hp => ?_⟩
      rw [hat]
      unfold dueO
      rw [fb_ct_succ]
      rcases Nat.decEq p (aU A j) with z | z
      · rw [pk_un z, d.2 p hp]
        have z2 : ¬ aU A j = p := fun c => z c.symm
        simp [z2, dueO]
      · rw [z, pk_us]; simp [dueO]
  · intro n j s hj e ih
    rw [wX8_rows_L45]
    refine br_f (nI_ge (b := 8) hj (by decide)) ⟨pk_in j 8 hj, fun S hS => nm_e ?_⟩
    rw [nI_1]
    rw [nI_clamp (by omega)] at hS
    have hat : S.2.1 17 = upd (s.2.1 17) j 0 := by rw [hS, hsA_at]
    refine ih S ⟨by rw [hS]; exact e.1.trans (FRm.arr _ (by decide)), fun q hq => ?_⟩
    rw [hat]
    rcases Nat.decEq q j with z | z
    · rw [pk_un z]; exact e.2 q (by omega)
    · subst z; exact pk_us
def pickO (w : Nat) (a b c : Int32) : Int32 := if w = 0 then a else if w = 1 then b else c
theorem pick_br {w : Nat} (hw : w < 3) {a b c : Int32} {post : Int32 → hsS → Prop} {s : hsS} (k : post (pickO w a b c) s) : (nI w = (0 : Int32) → post a s) ∧ (¬ nI w = (0 : Int32) → ((nI w = (1 : Int32) → post b s) ∧ (¬ nI w = (1 : Int32) → post c s))) := by
  unfold pickO at k
  refine pk_eq w 0 (fun z => ?_) (fun z => pk_eq w 1 (fun z1 => ?_) (fun z1 => ?_))
  · rw [if_pos z] at k; exact k
  · rw [if_neg z, if_pos z1] at k; exact k
  · rw [if_neg z, if_neg z1] at k; exact k
theorem qm_rows (ha : AW A) (hg : GW A g) (h : MH A g σ) (hr : MR A (σ.1 36) (σ.1 12) (σ.1 33) (σ.1 34) (σ.1 35)) {w : Nat} (hw : w < 3) {post : Int32 → hsS → Prop} (k : ∀ σ', FRm [0, 25, 33, 34, 35, 36] [13, 17] σ σ' → σ'.1 0 = 0 → σ'.1 36 = σ.1 12 → σ'.1 33 = nI (rwS A) → σ'.1 34 = nI (rwA A) → σ'.1 35 = nI (rwN A) → post (pickO w (nI (rwS A)) (nI (rwA A)) (nI (rwN A))) σ') : wX8_rows (nI w) post σ := by
  have hm := aw_m ha; have hnt := aw_nt ha; have hn := aw_n ha
  have hpp := Nat.two_pow_pos (aM A)
  intro s1 e1
  obtain ⟨f1, h0⟩ := m0 e1
  refine br_f (nI_pos (by omega)) (br_t (nI_le (b := 2) (by omega) (by decide)) (br_c (fun c => ?_) (fun c => fun s9 e9 => ?_)))
  · have hh := hr (by rw [← f1.1 36 (by decide), ← f1.1 12 (by decide)]; exact c)
    have b1 : s1.1 33 = nI (rwS A) := by rw [f1.1 33 (by decide)]; exact hh.1
    have b2 : s1.1 34 = nI (rwA A) := by rw [f1.1 34 (by decide)]; exact hh.2.1
    have b3 : s1.1 35 = nI (rwN A) := by rw [f1.1 35 (by decide)]; exact hh.2.2
    rw [b1, b2, b3]
    exact pick_br hw (k s1 (f1.weak (by decide) (by decide)) h0 (by rw [c, f1.1 12 (by decide)]) b1 b2 b3)
  · have f9 : FRm [0, 36] [] σ s9 := by rw [e9]; exact (f1.weak (by decide) (by decide)).trans (FRm.int _ (by decide))
    have v9 : s9.1 36 = σ.1 12 := by rw [e9, hsI_at, f1.1 12 (by decide)]
    have z9 : s9.1 0 = 0 := by rw [e9, hsI_ne _ _ (by decide)]; exact h0
    refine qm_look ha hg (h.fr f9 (by decide)) (fun s11 f11 l11 => qm_rowsDue ha ((h.fr f9 (by decide)).fr f11 (by decide)) _ (fun s23 f23 d23 _ => fun s24 e24 s25 e25 s26 e26 => ?_))
    have hl24 : s24.1 25 = nI (aM A) := by rw [e24, hsI_ne _ _ (by decide), f23.1 25 (by decide)]; exact lk_m l11
    rw [hl24, qb_all (by omega)] at e25
    have f26 : FRm [33, 34, 35] [] s23 s26 := by rw [e26, e25, e24]; exact ((FRm.int _ (by decide)).trans (FRm.int _ (by decide))).trans (FRm.int _ (by decide))
    have q33 : s26.1 33 = nI 0 := by rw [e26, hsI_ne _ _ (by decide), e25, hsI_ne _ _ (by decide), e24, hsI_at, nI_0]
    have q34 : s26.1 34 = nI (2 ^ aM A - 1) := by rw [e26, hsI_ne _ _ (by decide), e25, hsI_at]
    have q35 : s26.1 35 = nI 0 := by rw [e26, hsI_at, nI_0]
    have hM26 := (((h.fr f9 (by decide)).fr f11 (by decide)).fr f23 (by decide)).fr f26 (by decide)
    have l26 := (l11.fr f23 (by decide) (by decide)).fr f26 (by decide) (by decide)
    rw [q34]
    refine qm_go hn (show aNt A ≤ 8 by omega) (aNt A) 12 0 (by omega) (by omega) (dueO (aU A) (aNt A)) (2 ^ aM A - 1) s26 _ 0 (2 ^ aM A - 1) 0 l26 (mh_n hM26) (mh_nt hM26) (fun p hp => ⟨by rw [f26.2.1 17 (by decide)]; exact d23 p (by omega), by have := fb_ct_le (fun i => decide (aU A i = p)) (aNt A); unfold dueO; omega⟩) (by omega) (by rw [qs_sz_full _ (by omega)]; omega) q33 q34 q35 (fun s28 g1 _ g3 g4 g5 => ?_)
    have b1 : s28.1 33 = nI (rwS A) := g3
    have b2 : s28.1 34 = nI (rwA A) := g4
    have b3 : s28.1 35 = nI (rwN A) := by rw [g5, Nat.zero_add]; rfl
    rw [b1, b2, b3]
    refine pick_br hw (k s28 (((((f9.weak (by decide) (by decide)).trans (f11.weak (by decide) (by decide))).trans (f23.weak (by decide) (by decide))).trans (f26.weak (by decide) (by decide))).trans (g1.weak (by decide) (by decide))) ?_ ?_ b1 b2 b3)
    · rw [g1.1 0 (by decide), f26.1 0 (by decide), f23.1 0 (by decide), f11.1 0 (by decide)]; exact z9
    · rw [g1.1 36 (by decide), f26.1 36 (by decide), f23.1 36 (by decide), f11.1 36 (by decide)]; exact v9
end RowY
section OpM
variable {A : AH} {g : Nat → Nat → Nat} {v i : Nat} {σx σm : hsS}
theorem RB.xrw (h : RB A g v i σx σm) {σ' : hsS} (hf : FRl [1473, 1474, 1475] σx σ') (a1 : σ'.1 1474 = nI (rwS A)) (a2 : σ'.1 1475 = nI (rwA A)) : RB A g v i σ' σm := by
  obtain ⟨⟨h1, h2, h3, h4⟩, h5, ⟨h6, h7⟩, h8, h9, ⟨h10, h11, h12⟩, h13, h14, h15⟩ := h
  refine ⟨⟨h1, h2, h3.frl hf (by decide), h4⟩, h5, ⟨?_, ?_⟩, ?_, ?_, ⟨Or.inr ⟨a1, a2⟩, h11, h12⟩, h13, ?_, h15⟩
  · rw [hf.1 706 (by decide), hf.2.1]; exact h6
  · rw [hf.1 713 (by decide)]; exact h7
  · rw [hf.1 1922 (by decide), hf.2.1, hf.2.2 32 (by decide)]; exact h8
  · rw [hf.2.1]; exact h9
  · rw [hf.1 1604 (by decide), hf.1 1605 (by decide), hf.1 1606 (by decide), hf.1 1607 (by decide), hf.2.1]; exact h14
theorem RB.mrw (h : RB A g v i σx σm) {σ' : hsS} (hf : FRm [0, 25, 33, 34, 35, 36] [13, 17] σm σ') (h36 : σ'.1 36 = σm.1 12) (d1 : σ'.1 33 = nI (rwS A)) (d2 : σ'.1 34 = nI (rwA A)) (d3 : σ'.1 35 = nI (rwN A)) : RB A g v i σx σ' := by
  obtain ⟨⟨h1, h2, h3, h4⟩, ⟨h5, h5a, h5b, h5c, h5d, h5e⟩, ⟨h6, h7⟩, h8, h9, ⟨h10, h11, h12⟩, h13, h14, h15⟩ := h
  refine ⟨⟨h1, h2, h3, h4.fr hf (by decide)⟩, ⟨?_, h5a, ?_, Or.inr ⟨v, Nat.le_refl _, ?_⟩, ?_, ?_⟩, ⟨?_, ?_⟩, ?_, h9, ⟨h10, fun _ => ⟨d1, d2, d3⟩, ?_⟩, h13.fr hf (by decide) (by decide) (by decide) (by decide) (by decide), h14, ?_⟩
  · rw [hf.1 12 (by decide)]; exact h5
  · rw [hf.1 28 (by decide)]; exact h5b
  · rw [h36]; exact h5
  · rw [hf.1 39 (by decide)]; exact h5d
  · rw [hf.1 50 (by decide)]; exact h5e
  · rw [hf.1 14 (by decide), hf.2.1 12 (by decide)]; exact h6
  · rw [hf.1 23 (by decide)]; exact h7
  · rw [hf.1 52 (by decide), hf.2.1 27 (by decide), hf.2.1 28 (by decide), hf.2.1 29 (by decide), hf.2.1 30 (by decide)]; exact h8
  · rw [hf.1 39 (by decide), hf.1 12 (by decide), hf.2.1 18 (by decide), hf.2.1 19 (by decide)]; exact h12
  · rw [hf.1 50 (by decide), hf.1 12 (by decide), hf.1 47 (by decide), hf.1 48 (by decide), hf.1 49 (by decide), hf.1 51 (by decide), hf.2.1 22 (by decide), hf.2.1 24 (by decide), hf.2.1 25 (by decide)]; exact h15
theorem op_13 (f : Nat → Int64) (a1 : Int32) (h : RR i σx σm) : lo_13 f a1 (RR (i + 6)) σx σm := by
  obtain ⟨A, g, v, h⟩ := h
  unfold lo_13 wX7_rows
  have ha := rb_aw h; have hx := rb_hx h
  rcases ix_of a1 (n := 3) (by decide) with z | ⟨w, hw, rfl⟩
  · refine br_f (ix_ne (j := 0) z (by decide) (by decide)) (br_f (ix_ne (j := 1) z (by decide) (by decide)) (br_f (ix_ne (j := 2) z (by decide) (by decide)) (fun S hS => ?_)))
    obtain ⟨h1, h2⟩ := m0 hS
    exact ix_le (k := 2) (by decide) z (qm_fail h1 (fun S' g1 g2 => thr_ok g2 ⟨rfl, fun e => absurd e (by decide), h.m g1⟩))
  · have hmod : ∀ (s1 : hsS) (r : Int32), RB A g v i s1 σm → r = pickO w (nI (rwS A)) (nI (rwA A)) (nI (rwN A)) → wX8_rows (nI w) (fun bb σm1 => wX8_thrown (fun th σm2 => th = (0 : Int32) ∧ ((0 : Int32) = (0 : Int32) → (vp_updL f 0 (r.toInt64) 0) = (bb.toInt64)) ∧ RR (i + 6) s1 σm2) σm1) σm := fun s1 r hX hr =>
      qm_rows ha (rb_gw h) (rb_mh h) (rb_mr h) hw (fun S2 g1 g2 g3 g4 g5 g6 => thr_ok g2 ⟨rfl, fun _ => by rw [hr]; rfl, A, g, v, (hX.mrw g1 g3 g4 g5 g6).up (by omega)⟩)
    refine pk_eq w 0 (fun c => ?_) (fun c => pk_eq w 1 (fun c1 => ?_) (fun c1 => br_t (by rw [show w = 2 by omega]; rfl) ?_))
    · refine qx_learn ha hx (rb_xr h) (fun s1 f1 y1 y2 => hmod s1 _ (h.xrw f1 y1 y2) ?_)
      unfold pickO; rw [if_pos c]; exact y1
    · refine qx_learn ha hx (rb_xr h) (fun s1 f1 y1 y2 => hmod s1 _ (h.xrw f1 y1 y2) ?_)
      unfold pickO; rw [if_neg c, if_pos c1]; exact y2
    · refine qx_rowsOf ha hx (hmod σx _ h ?_)
      unfold pickO; rw [if_neg c, if_neg c1]
end OpM
