/-! ===== all the calls ===== -/
theorem rr_start : RR 0 xs0 ms0 := by
  refine ⟨A00, fun _ _ => 0, 0, ⟨⟨?_, Nat.zero_le _⟩, fun p t hp => absurd hp (Nat.not_lt_zero _), ⟨?_, fun p hp => absurd hp (Nat.not_lt_zero _), fun p t hp => absurd hp (Nat.not_lt_zero _), fun k hk => absurd hk (Nat.not_lt_zero _), fun k hk => absurd hk (Nat.not_lt_zero _)⟩, ⟨rfl, rfl, rfl, fun z => absurd z (by show ¬ (0 : Nat) = 1; decide), fun z => absurd z (by show ¬ (0 : Nat) = 2; decide), rfl, fun p hp => absurd hp (Nat.not_lt_zero _), fun p t hp => absurd hp (Nat.not_lt_zero _), fun z => absurd z (by show ¬ (0 : Nat) = 2; decide), fun k hk => absurd hk (Nat.not_lt_zero _), fun p hp => absurd hp (Nat.not_lt_zero _)⟩⟩, ⟨rfl, Nat.zero_le _, Or.inl rfl, Or.inl rfl, Or.inl rfl, Or.inl rfl⟩, ⟨⟨0, fun _ => 0, by decide, rfl, rfl, fun k hk => absurd hk (Nat.not_lt_zero _)⟩, rfl⟩, ⟨0, fun _ => 0, fun _ _ => 0, ⟨by decide, rfl, rfl, fun r hr => absurd hr (Nat.not_lt_zero _)⟩, fun j hj => Or.inl ?_⟩, rfl, ⟨Or.inl rfl, fun e => absurd e (by decide), fun e => absurd e (by decide)⟩, fun e => absurd e (by decide), Or.inl rfl, fun e => absurd e (by decide)⟩
  · exact (D00_ok (m := 2) ⟨by decide, by decide⟩).1
  · decide
  · exact (by decide : ∀ j, j < 8 → xs0.2.1 33 j = 2 ∧ ms0.2.1 29 j = -1) j hj
theorem rr_up {i : Nat} {σx σm : hsS} (h : RR i σx σm) : RR (i + 6) σx σm := by
  obtain ⟨A, g, v, h⟩ := h
  exact ⟨A, g, v, h.up (by omega)⟩
theorem rr_ops : lw_Ops RR :=
  ⟨rr_start, fun _ _ _ h => rr_up h,
   fun _ _ a1 a2 a3 a4 a5 _ _ h => op_0 a1 a2 a3 a4 a5 h,
   fun _ hi f a1 _ _ h => op_1 hi f a1 h,
   fun _ _ _ _ h => op_2 h,
   fun _ _ f a1 _ _ h => op_3 f a1 h,
   fun _ _ f a1 a2 _ _ h => op_4 f a1 a2 h,
   fun _ _ f a1 _ _ h => op_5 f a1 h,
   fun _ _ a1 _ _ h => op_6 a1 h,
   fun _ _ f a1 a2 _ _ h => op_7 f a1 a2 h,
   fun _ _ f a1 a2 _ _ h => op_8 f a1 a2 h,
   fun _ _ f a1 _ _ h => op_9 f a1 h,
   fun _ _ _ _ h => op_10 h,
   fun _ _ f a1 _ _ h => op_11 f a1 h,
   fun _ _ _ _ h => op_12 h,
   fun _ _ f a1 _ _ h => op_13 f a1 h,
   fun _ _ _ _ h => op_14 h,
   fun _ _ _ _ h => op_15 h,
   fun _ _ _ _ h => op_16 h,
   fun _ _ f a1 _ _ h => op_17 f a1 h,
   fun _ _ f a1 _ _ h => op_18 f a1 h,
   fun _ _ f a1 a2 _ _ h => op_19 f a1 a2 h,
   fun _ _ _ _ h => op_20 h,
   fun _ _ f a1 _ _ h => op_21 f a1 h,
   fun _ _ f a1 _ _ h => op_22 f a1 h,
   fun _ _ f a1 _ _ h => op_23 f a1 h,
   fun _ _ f a1 _ _ h => op_24 f a1 h,
   fun _ hi f a1 _ _ h => op_25 hi f a1 h,
   fun _ _ f a1 _ _ h => op_26 f a1 h,
   fun _ _ _ _ h => op_27 h,
   fun _ _ a1 a2 _ _ h => op_28 a1 a2 h,
   fun _ _ f a1 a2 _ _ h => op_29 f a1 a2 h,
   fun _ _ f a1 a2 a3 _ _ h => op_30 f a1 a2 a3 h,
   fun _ _ f a1 a2 _ _ h => op_31 f a1 a2 h,
   fun _ _ f a1 a2 _ _ h => op_32 f a1 a2 h⟩
theorem i_vc : Claimed_1_1 ∧ Claimed_1_2 := i_vc_of rr_ops
