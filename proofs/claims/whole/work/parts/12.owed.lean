/-- the same program, variables and prints; the program is one that add let in; the variables are in the range of nine trits; X's tables and the passes of loops are free between the calls -/
def i_Rel (k : Nat) (u : SX) (v : SY) : Prop := ∃ (N : Nat) (q : Int32) (V K A B C O oa op en ze po pl L : Nat → Int32), u = (nI N, q, V, K, A, B, C, O, oa, op, en, ze, po, pl) ∧ v = (nI N, q, K, A, B, C, V, O, L) ∧ N ≤ 40 ∧ (∀ i, i < N → tc_fit (K i) (A i) (B i) (C i)) ∧ (∀ y, tc_rg (V y))
theorem i_up {k : Nat} {u : SX} {v : SY} (h : i_Rel k u v) : i_Rel (k + 5) u v := h
theorem i_vc0 : wpX_init (fun u => wpY_init (fun v => i_Rel 0 u v)) :=
  ⟨0, 0, _, _, _, _, _, _, _, _, _, _, _, _, _, rfl, rfl, by omega, fun i hi => absurd hi (by omega), fun y => by unfold tc_rg; decide⟩
theorem i_vc_add {k : Nat} {u : SX} {v : SY} (I : i_Rel k u v) (hk : k + 5 ≤ 2560) (v1 : Int32) (v2 : Int32) (v3 : Int32) (v4 : Int32) : wpX_add (fun r u' => wpY_add (fun r' v' => r' = r ∧ i_Rel (k + 5) u' v') v v1 v2 v3 v4) u v1 v2 v3 v4 := by
  obtain ⟨N, q, V, K, A, B, C, O, oa, op, en, ze, po, pl, L, rfl, rfl, hN, hf, hV⟩ := I
  by_cases h : N < 40
  · refine tc_addX h (fun f => tc_addY h (fun _ => ⟨rfl, ?_⟩) (fun g => absurd f g)) (fun f => tc_addY h (fun g => absurd g f) (fun _ => ⟨rfl, ?_⟩))
    · refine ⟨N + 1, q, V, _, _, _, _, O, oa, op, en, ze, po, pl, L, rfl, rfl, by omega, fun i hi => ?_, hV⟩
      by_cases g : i = N
      · subst g; rw [pk_us, pk_us, pk_us, pk_us]; exact f
      · rw [pk_un g, pk_un g, pk_un g, pk_un g]; exact hf i (by omega)
    · exact ⟨N, q, V, K, A, B, C, O, oa, op, en, ze, po, pl, L, rfl, rfl, hN, hf, hV⟩
  · have e : N = 40 := by omega
    subst e
    exact br_f (by decide) (br_t rfl ⟨rfl, 40, q, V, K, A, B, C, O, oa, op, en, ze, po, pl, L, rfl, rfl, hN, hf, hV⟩)
theorem i_vc_retract {k : Nat} {u : SX} {v : SY} (I : i_Rel k u v) (hk : k + 5 ≤ 2560) : wpX_retract (fun r u' => wpY_retract (fun r' v' => r' = r ∧ i_Rel (k + 5) u' v') v) u := by
  obtain ⟨N, q, V, K, A, B, C, O, oa, op, en, ze, po, pl, L, rfl, rfl, hN, hf, hV⟩ := I
  cases N with
  | zero => exact br_f (by decide) (br_t rfl ⟨rfl, 0, q, V, K, A, B, C, O, oa, op, en, ze, po, pl, L, rfl, rfl, hN, hf, hV⟩)
  | succ N =>
    exact br_t (nI_lt (a := 0) (by omega) (by omega)) (nm_r (nI_pred N) (br_f (nI_ne0 (by omega) (by omega)) (nm_r (nI_pred N) ⟨rfl, N, q, V, K, A, B, C, O, oa, op, en, ze, po, pl, L, rfl, rfl, by omega, fun i hi => hf i (by omega), hV⟩)))
theorem i_vc_sound {k : Nat} {u : SX} {v : SY} (I : i_Rel k u v) (hk : k + 5 ≤ 2560) : wpX_sound (fun r u' => wpY_sound (fun r' => r' = r ∧ i_Rel (k + 5) u' v) v) u := by
  obtain ⟨N, q, V, K, A, B, C, O, oa, op, en, ze, po, pl, L, rfl, rfl, hN, hf, hV⟩ := I
  obtain ⟨r, oa', op', en', ze', po', h1, hX, hY⟩ := tc_lnk (p := q) (K := K) (A := A) (B := B) (C := C) (V := V) (O := O) (L := L) (pl := pl) hN oa op en ze po
  unfold wpX_sound
  dsimp only
  refine hX _ ⟨?_, hY _ ⟨rfl, N, q, V, K, A, B, C, O, oa', op', en', ze', po', pl, L, rfl, rfl, hN, hf, hV⟩⟩
  rcases h1 with h | h
  · rw [h]; rfl
  · rw [h.1]; rfl
theorem i_vc_put {k : Nat} {u : SX} {v : SY} (I : i_Rel k u v) (hk : k + 5 ≤ 2560) (v1 : Int32) (v2 : Int32) : wpX_put (fun r u' => wpY_put (fun r' v' => r' = r ∧ i_Rel (k + 5) u' v') v v1 v2) u v1 v2 := by
  obtain ⟨N, q, V, K, A, B, C, O, oa, op, en, ze, po, pl, L, rfl, rfl, hN, hf, hV⟩ := I
  obtain ⟨w, hw, hX, hY⟩ := tc_wrap v2 v2.toInt64 (Jvm.Kit.i64_of_i32 _)
  unfold wpX_put wpY_put
  dsimp only
  refine tc_isX _ (fun z => br_f (by decide) (hX _ ⟨z, nm_e ?_⟩)) (fun z => br_t rfl ?_)
  · refine tc_isY _ _ (fun z => br_f (by decide) (hY _ _ ⟨z, nm_e ⟨rfl, ?_⟩⟩)) (fun g => absurd z g)
    exact ⟨N, q, _, K, A, B, C, O, oa, op, en, ze, po, pl, L, rfl, rfl, hN, hf, tc_rg_u hV hw _⟩
  · refine tc_isY _ _ (fun g => absurd g z) (fun _ => br_t rfl ⟨rfl, ?_⟩)
    exact ⟨N, q, V, K, A, B, C, O, oa, op, en, ze, po, pl, L, rfl, rfl, hN, hf, hV⟩
theorem i_vc_run {k : Nat} {u : SX} {v : SY} (I : i_Rel k u v) (hk : k + 5 ≤ 2560) : wpX_run (fun r u' => wpY_run (fun r' v' => r' = r ∧ i_Rel (k + 5) u' v') v) u := by
  obtain ⟨N, q, V, K, A, B, C, O, oa, op, en, ze, po, pl, L, rfl, rfl, hN, hf, hV⟩ := I
  obtain ⟨r, oa', op', en', ze', po', h1, hX, hY⟩ := tc_lnk (p := q) (K := K) (A := A) (B := B) (C := C) (V := V) (O := O) (L := L) (pl := pl) hN oa op en ze po
  unfold wpX_run wpY_run
  dsimp only
  refine hX _ ?_
  rcases h1 with h | ⟨h, hT, hz⟩
  · refine br_t h (hY _ (br_t h ⟨rfl, ?_⟩))
    exact ⟨N, q, V, K, A, B, C, O, oa', op', en', ze', po', pl, L, rfl, rfl, hN, hf, hV⟩
  · obtain ⟨c', V', O', pl', L', g1, g2, g3⟩ := tc_run (oa := oa') hN hf hT hz 5000 0 0 0 V O pl L (by omega) (by omega) (by omega) hV (fun j hj => nomatch hj)
    refine br_f (by rw [h]; decide) ⟨5001, g2 _ 5001 (by omega) (hY _ (br_f (by rw [h]; decide) ⟨5001, g3 _ 5001 (by omega) ⟨rfl, ?_⟩⟩))⟩
    exact ⟨N, nI c', V', K, A, B, C, O', oa', op', en', ze', po', pl', L', rfl, rfl, hN, hf, g1⟩
theorem i_vc_variable {k : Nat} {u : SX} {v : SY} (I : i_Rel k u v) (hk : k + 5 ≤ 2560) (v1 : Int32) : wpX_variable (fun r => wpY_variable (fun r' => r' = r ∧ i_Rel (k + 5) u v) v v1) u v1 := by
  obtain ⟨N, q, V, K, A, B, C, O, oa, op, en, ze, po, pl, L, rfl, rfl, hN, hf, hV⟩ := I
  have R : i_Rel (k + 5) (nI N, q, V, K, A, B, C, O, oa, op, en, ze, po, pl) (nI N, q, K, A, B, C, V, O, L) := ⟨N, q, V, K, A, B, C, O, oa, op, en, ze, po, pl, L, rfl, rfl, hN, hf, hV⟩
  unfold wpX_variable wpY_variable
  dsimp only
  refine tc_isX _ (fun z => br_f (by decide) ⟨z, ?_⟩) (fun z => br_t rfl ?_)
  · exact tc_isY _ _ (fun z => br_f (by decide) ⟨z, rfl, R⟩) (fun g => absurd z g)
  · exact tc_isY _ _ (fun g => absurd g z) (fun _ => br_t rfl ⟨rfl, R⟩)
theorem i_vc_trit {k : Nat} {u : SX} {v : SY} (I : i_Rel k u v) (hk : k + 5 ≤ 2560) (v1 : Int32) (v2 : Int32) : wpX_trit (fun r => wpY_trit (fun r' => r' = r ∧ i_Rel (k + 5) u v) v v1 v2) u v1 v2 := by
  obtain ⟨N, q, V, K, A, B, C, O, oa, op, en, ze, po, pl, L, rfl, rfl, hN, hf, hV⟩ := I
  have R : i_Rel (k + 5) (nI N, q, V, K, A, B, C, O, oa, op, en, ze, po, pl) (nI N, q, K, A, B, C, V, O, L) := ⟨N, q, V, K, A, B, C, O, oa, op, en, ze, po, pl, L, rfl, rfl, hN, hf, hV⟩
  unfold wpX_trit wpY_trit
  dsimp only
  refine tc_isX _ (fun z => br_f (by decide) ?_) (fun z => br_t rfl ?_)
  · by_cases h0 : v2 < 0
    · exact br_t h0 (tc_isY _ _ (fun _ => br_f (by decide) (br_t h0 ⟨rfl, R⟩)) (fun g => absurd z g))
    · obtain ⟨j, hj, rfl⟩ := nI_of h0
      by_cases h9 : j < 9
      · refine br_f h0 (br_t (nI_lt (b := 9) h9 (by decide)) ⟨z, nm_e ⟨j + 1, tc_trX h9 j 0 (j + 1) _ _ (by omega) (by omega) ?_⟩⟩)
        exact tc_isY _ _ (fun _ => br_f (by decide) (br_f h0 (br_f (nI_nlt (a := 8) (by omega) (by omega)) ⟨z, tc_tritY h9 _ _ ⟨rfl, R⟩⟩))) (fun g => absurd z g)
      · refine br_f h0 (br_f (nI_nlt (b := 9) (by omega) hj) ?_)
        exact tc_isY _ _ (fun _ => br_f (by decide) (br_f h0 (br_t (nI_lt (a := 8) (by omega) hj) ⟨rfl, R⟩))) (fun g => absurd z g)
  · exact tc_isY _ _ (fun g => absurd g z) (fun _ => br_t rfl ⟨rfl, R⟩)
theorem i_vc_printed {k : Nat} {u : SX} {v : SY} (I : i_Rel k u v) (hk : k + 5 ≤ 2560) : wpX_printed (fun r => wpY_printed (fun r' => r' = r ∧ i_Rel (k + 5) u v) v) u := by
  obtain ⟨N, q, V, K, A, B, C, O, oa, op, en, ze, po, pl, L, rfl, rfl, hN, hf, hV⟩ := I
  exact ⟨rfl, N, q, V, K, A, B, C, O, oa, op, en, ze, po, pl, L, rfl, rfl, hN, hf, hV⟩
theorem i_vc_output {k : Nat} {u : SX} {v : SY} (I : i_Rel k u v) (hk : k + 5 ≤ 2560) (v1 : Int32) : wpX_output (fun r => wpY_output (fun r' => r' = r ∧ i_Rel (k + 5) u v) v v1) u v1 := by
  obtain ⟨N, q, V, K, A, B, C, O, oa, op, en, ze, po, pl, L, rfl, rfl, hN, hf, hV⟩ := I
  have R : i_Rel (k + 5) (nI N, q, V, K, A, B, C, O, oa, op, en, ze, po, pl) (nI N, q, K, A, B, C, V, O, L) := ⟨N, q, V, K, A, B, C, O, oa, op, en, ze, po, pl, L, rfl, rfl, hN, hf, hV⟩
  by_cases h0 : v1 < 0
  · exact br_t h0 (br_t h0 ⟨rfl, R⟩)
  · by_cases hq : q ≤ v1
    · exact br_f h0 (br_t hq (br_f h0 (br_t hq ⟨rfl, R⟩)))
    · by_cases h48 : v1 < 48
      · have hn : ¬ (48 : Int32) ≤ v1 := Int32.not_le.mpr h48
        have hi : vp_in v1 48 := by
          obtain ⟨j, hj, rfl⟩ := nI_of h0
          exact vp_in_nI ((nI_ltI (b := 48) hj (by omega)).mp h48) (by omega)
        exact br_f h0 (br_f hq (br_t h48 ⟨hi, br_f h0 (br_f hq (br_f hn ⟨hi, rfl, R⟩))⟩))
      · have hn : (48 : Int32) ≤ v1 := Int32.not_lt.mp h48
        exact br_f h0 (br_f hq (br_f h48 (br_f h0 (br_f hq (br_t hn ⟨rfl, R⟩)))))
theorem i_vc_clear {k : Nat} {u : SX} {v : SY} (I : i_Rel k u v) (hk : k + 5 ≤ 2560) : wpX_clear (fun u' => wpY_clear (fun v' => i_Rel (k + 5) u' v') v) u := by
  obtain ⟨N, q, V, K, A, B, C, O, oa, op, en, ze, po, pl, L, rfl, rfl, hN, hf, hV⟩ := I
  obtain ⟨V', h1, hX, hY⟩ := tc_clr (K := K) (A := A) (B := B) (C := C) (O := O) (L := L) (oa := oa) (op := op) (en := en) (ze := ze) (po := po) (pl := pl) 6 0 V (by omega) hV
  refine ⟨7, hX _ 7 (by omega) ⟨7, hY _ 7 (by omega) ?_⟩⟩
  exact ⟨0, 0, V', K, A, B, C, O, oa, op, en, ze, po, pl, L, rfl, rfl, by omega, fun i hi => absurd hi (by omega), h1⟩
