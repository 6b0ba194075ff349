section
variable {N : Nat} {K A B C oa op en ze po : Nat → Int32}
theorem tc_run (hN : N ≤ 40) (hf : ∀ i, i < N → tc_fit (K i) (A i) (B i) (C i)) (hT : tc_T K N op en ze po) (hz : tc_st K N = []) : ∀ (d t i c : Nat) (V O pl L : Nat → Int32), t + d = 5000 → i ≤ N → c ≤ t → (∀ y, tc_rg (V y)) → (∀ j, j ∈ tc_st K i → K j = 10 → pl j = L j) → ∃ (c' : Nat) (V' O' pl' L' : Nat → Int32), (∀ y, tc_rg (V' y)) ∧ (∀ (post : Int32 → SX → Prop) (n : Nat), d < n → post (nI c') (nI N, nI c', V', K, A, B, C, O', oa, op, en, ze, po, pl') → wX_run_20 post n (nI i) (nI t) (nI N) (nI c) V K A B C O oa op en ze po pl) ∧ (∀ (post : Int32 → SY → Prop) (n : Nat), d < n → post (nI c') (nI N, nI c', K, A, B, C, V', O', L') → wY_run_20 post n (nI i) (nI t) (nI N) (nI c) K A B C V O L) := by
  intro d
  induction d with
  | zero =>
    intro t i c V O pl L ht hi hc hV hL
    have e : t = 5000 := by omega
    subst e
    have h5 : (5000 : Int32) ≤ nI 5000 := nI_le (a := 5000) (by omega) (by omega)
    refine ⟨c, V, O, pl, L, hV, fun post n hn hp => ?_, fun post n hn hp => ?_⟩
    · obtain ⟨n, rfl⟩ : ∃ z, n = z + 1 := ⟨n - 1, by omega⟩
      exact br_t h5 hp
    · obtain ⟨n, rfl⟩ : ∃ z, n = z + 1 := ⟨n - 1, by omega⟩
      exact br_t h5 hp
  | succ d ih =>
    intro t i c V O pl L ht hi hc hV hL
    have h5 : ¬ (5000 : Int32) ≤ nI t := nI_ge (b := 5000) (by omega) (by decide)
    by_cases hiN : i < N
    · obtain ⟨i', c1, V1, O1, pl1, L1, g1, g2, g3, g4, gX, gY⟩ := tc_step (c := c) (O := O) (oa := oa) hN hiN (by omega) (hf i hiN) hV hT hz hL
      obtain ⟨c', V', O', pl', L', h1, h2, h3⟩ := ih (t + 1) i' c1 V1 O1 pl1 L1 (by omega) g1 (by omega) g3 g4
      refine ⟨c', V', O', pl', L', h1, fun post n hn hp => ?_, fun post n hn hp => ?_⟩
      · obtain ⟨n, rfl⟩ : ∃ z, n = z + 1 := ⟨n - 1, by omega⟩
        refine br_f h5 (br_f (nI_ge hiN (by omega)) (gX _ (nm_r (nI_1 t) ?_)))
        exact h2 post n (by omega) hp
      · obtain ⟨n, rfl⟩ : ∃ z, n = z + 1 := ⟨n - 1, by omega⟩
        refine br_f h5 (br_f (nI_ge hiN (by omega)) (gY _ (nm_r (nI_1 t) ?_)))
        exact h3 post n (by omega) hp
    · have hle : nI N ≤ nI i := nI_le (by omega) (by omega)
      refine ⟨c, V, O, pl, L, hV, fun post n hn hp => ?_, fun post n hn hp => ?_⟩
      · obtain ⟨n, rfl⟩ : ∃ z, n = z + 1 := ⟨n - 1, by omega⟩
        exact br_f h5 (br_t hle hp)
      · obtain ⟨n, rfl⟩ : ∃ z, n = z + 1 := ⟨n - 1, by omega⟩
        exact br_f h5 (br_t hle hp)
end
/-! variables, and what add lets in -/
theorem tc_vin {v : Int32} (h0 : ¬ v < 0) (h6 : v.toInt < 6) : vp_in v 6 := by
  rw [vp_in_iff]
  rw [tc_lt, show (0 : Int32).toInt = 0 from by decide] at h0
  exact ⟨by omega, by omega⟩
theorem tc_isX {v : Int32} (post : Int32 → Prop) (h1 : vp_in v 6 → post 1) (h0 : ¬ vp_in v 6 → post 0) : wpX_isVariable post v := by
  have e0 : (0 : Int32).toInt = 0 := by decide
  have e6 : (6 : Int32).toInt = 6 := by decide
  refine br_c (fun a => h0 (fun z => ?_)) (fun a => br_c (fun b => h0 (fun z => ?_)) (fun b => h1 (tc_vin a ?_)))
  · rw [vp_in_iff] at z
    rw [tc_lt, e0] at a
    omega
  · rw [vp_in_iff] at z
    rw [tc_le, e6] at b
    omega
  · rw [tc_le, e6] at b
    omega
theorem tc_isY {v : Int32} (post : Int32 → Prop) (s : SY) (h1 : vp_in v 6 → post 1) (h0 : ¬ vp_in v 6 → post 0) : wpY_isVariable post s v := by
  have e0 : (0 : Int32).toInt = 0 := by decide
  have e5 : (5 : Int32).toInt = 5 := by decide
  refine br_c (fun a => h0 (fun z => ?_)) (fun a => br_c (fun b => h0 (fun z => ?_)) (fun b => h1 (tc_vin a ?_)))
  · rw [vp_in_iff] at z
    rw [tc_lt, e0] at a
    omega
  · rw [vp_in_iff] at z
    rw [tc_lt, e5] at b
    omega
  · rw [tc_lt, e5] at b
    omega
section
variable {N : Nat} {q k a b c : Int32} {K A B C V O L oa op en ze po pl : Nat → Int32}
theorem tc_a82 (hN : N < 40) {post : Int32 → SX → Prop} (h : post (nI (N + 1)) (nI (N + 1), q, V, upd K N k, upd A N a, upd B N b, upd C N c, O, oa, op, en, ze, po, pl)) : wX_add_82 post k a b c (nI N) q V K A B C O oa op en ze po pl := by
  have hv : vp_in (nI N) 40 := vp_in_nI hN (by omega)
  have hc : (nI N).toNatClampNeg = N := nI_clamp (by omega)
  unfold wX_add_82
  rw [hc]
  exact ⟨hv, nm_e ⟨hv, nm_e ⟨hv, nm_e ⟨hv, nm_e (nm_r (nI_1 N) h)⟩⟩⟩⟩
theorem tc_a63 (h0 : ¬ k < 0) (h12 : k ≤ 12) (ha : ¬ k = 8 → ¬ k = 9 → ¬ k = 11 → vp_in a 6) (hb : ¬ k < 1 → ¬ 6 < k → vp_in b 6) {post : Int32 → SX → Prop} (yes : tc_fit k a b c → wX_add_82 post k a b c (nI N) q V K A B C O oa op en ze po pl) (no : ¬ tc_fit k a b c → post (-10000) (nI N, q, V, K, A, B, C, O, oa, op, en, ze, po, pl)) : wX_add_63 post k a b c (nI N) q V K A B C O oa op en ze po pl := by
  have h3 : ∀ m : k = 1 ∨ k = 2 ∨ k = 3 ∨ k = 6, wpX_isVariable (fun r => ((r = 0 → post (-10000) (nI N, q, V, K, A, B, C, O, oa, op, en, ze, po, pl)) ∧ (¬ r = 0 → wX_add_82 post k a b c (nI N) q V K A B C O oa op en ze po pl))) c :=
    fun m => tc_isX _ (fun z => br_f (by decide) (yes ⟨h0, h12, ha, hb, fun _ => z⟩)) (fun z => br_t rfl (no (fun f => z (f.2.2.2.2 m))))
  exact br_c (fun m => br_f (by decide) (h3 (Or.inl m))) (fun m1 => br_c (fun m => br_f (by decide) (h3 (Or.inr (Or.inl m)))) (fun m2 => br_c (fun m => br_f (by decide) (h3 (Or.inr (Or.inr (Or.inl m))))) (fun m3 => br_c (fun m => br_f (by decide) (h3 (Or.inr (Or.inr (Or.inr m))))) (fun m4 => br_t rfl (yes ⟨h0, h12, ha, hb, fun z => (z.elim m1 (fun z => z.elim m2 (fun z => z.elim m3 m4))).elim⟩)))))
theorem tc_a45 (h0 : ¬ k < 0) (h12 : k ≤ 12) (ha : ¬ k = 8 → ¬ k = 9 → ¬ k = 11 → vp_in a 6) {post : Int32 → SX → Prop} (yes : tc_fit k a b c → wX_add_82 post k a b c (nI N) q V K A B C O oa op en ze po pl) (no : ¬ tc_fit k a b c → post (-10000) (nI N, q, V, K, A, B, C, O, oa, op, en, ze, po, pl)) : wX_add_45 post k a b c (nI N) q V K A B C O oa op en ze po pl := by
  refine br_c (fun m => br_t rfl (tc_a63 h0 h12 ha (fun z => absurd m z) yes no)) (fun m1 => br_c (fun m => br_t rfl (tc_a63 h0 h12 ha (fun _ z => absurd m z) yes no)) (fun m2 => br_f (by decide) ?_))
  exact tc_isX _ (fun z => br_f (by decide) (tc_a63 h0 h12 ha (fun _ _ => z) yes no)) (fun z => br_t rfl (no (fun f => z (f.2.2.2.1 m1 m2))))
theorem tc_addX (hN : N < 40) {post : Int32 → SX → Prop} (yes : tc_fit k a b c → post (nI (N + 1)) (nI (N + 1), q, V, upd K N k, upd A N a, upd B N b, upd C N c, O, oa, op, en, ze, po, pl)) (no : ¬ tc_fit k a b c → post (-10000) (nI N, q, V, K, A, B, C, O, oa, op, en, ze, po, pl)) : wpX_add post (nI N, q, V, K, A, B, C, O, oa, op, en, ze, po, pl) k a b c := by
  have yes' : tc_fit k a b c → wX_add_82 post k a b c (nI N) q V K A B C O oa op en ze po pl := fun f => tc_a82 hN (yes f)
  refine br_t (nI_lt (b := 40) hN (by decide)) (br_c (fun m => no (fun f => f.1 m)) (fun h0 => br_c (fun h12 => ?_) (fun m => no (fun f => m f.2.1))))
  refine br_c (fun m => br_t rfl (tc_a45 h0 h12 (fun z => absurd m z) yes' no)) (fun m1 => br_c (fun m => br_t rfl (tc_a45 h0 h12 (fun _ z => absurd m z) yes' no)) (fun m2 => br_c (fun m => br_t rfl (tc_a45 h0 h12 (fun _ _ z => absurd m z) yes' no)) (fun m3 => br_f (by decide) ?_)))
  exact tc_isX _ (fun z => br_f (by decide) (tc_a45 h0 h12 (fun _ _ _ => z) yes' no)) (fun z => br_t rfl (no (fun f => z (f.2.2.1 m1 m2 m3))))
theorem tc_f63 (h0 : ¬ k < 0) (h12 : k ≤ 12) (ha : vp_in a 6) (hb : ¬ k < 1 → ¬ 6 < k → vp_in b 6) {post : Int32 → Prop} (yes : tc_fit k a b c → post 1) (no : ¬ tc_fit k a b c → post 0) : wY_fits_63 post k c (nI N) q K A B C V O L := by
  have h3 : ∀ m : k = 1 ∨ k = 2 ∨ k = 3 ∨ k = 6, wY_fits_84 post c (nI N) q K A B C V O L :=
    fun m => tc_isY _ _ (fun z => br_f (by decide) (yes ⟨h0, h12, fun _ _ _ => ha, hb, fun _ => z⟩)) (fun z => br_t rfl (no (fun f => z (f.2.2.2.2 m))))
  exact br_c (fun m => h3 (Or.inl m)) (fun m1 => br_c (fun m => h3 (Or.inr (Or.inl m))) (fun m2 => br_c (fun m => h3 (Or.inr (Or.inr (Or.inl m)))) (fun m3 => br_c (fun m => h3 (Or.inr (Or.inr (Or.inr m)))) (fun m4 => yes ⟨h0, h12, fun _ _ _ => ha, hb, fun z => (z.elim m1 (fun z => z.elim m2 (fun z => z.elim m3 m4))).elim⟩))))
theorem tc_fitsYY {post : Int32 → Prop} (yes : tc_fit k a b c → post 1) (no : ¬ tc_fit k a b c → post 0) : wpY_fits post (nI N, q, K, A, B, C, V, O, L) k a b c := by
  have y8 : ∀ {m : Int32}, k = m → (m = 8 ∨ m = 9 ∨ m = 11) → post 1 := by
    intro m e hm
    subst e
    refine yes ?_
    rcases hm with e | e | e <;> rw [e]
    · exact ⟨by decide, by decide, fun z => absurd rfl z, fun _ z => absurd (by decide) z, fun z => absurd z (by decide)⟩
    · exact ⟨by decide, by decide, fun _ z => absurd rfl z, fun _ z => absurd (by decide) z, fun z => absurd z (by decide)⟩
    · exact ⟨by decide, by decide, fun _ _ z => absurd rfl z, fun _ z => absurd (by decide) z, fun z => absurd z (by decide)⟩
  refine br_c (fun m => no (fun f => f.1 m)) (fun h0 => br_c (fun h12 => ?_) (fun m => no (fun f => m f.2.1)))
  refine br_c (fun m => y8 m (Or.inl rfl)) (fun m1 => br_c (fun m => y8 m (Or.inr (Or.inl rfl))) (fun m2 => br_c (fun m => y8 m (Or.inr (Or.inr rfl))) (fun m3 => ?_)))
  refine tc_isY _ _ (fun ha => br_f (by decide) ?_) (fun z => br_t rfl (no (fun f => z (f.2.2.1 m1 m2 m3))))
  refine br_c (fun m => tc_f63 h0 h12 ha (fun z => absurd m z) yes no) (fun n1 => br_c (fun m => tc_f63 h0 h12 ha (fun _ z => absurd m z) yes no) (fun n2 => ?_))
  exact tc_isY _ _ (fun z => br_f (by decide) (tc_f63 h0 h12 ha (fun _ _ => z) yes no)) (fun z => br_t rfl (no (fun f => z (f.2.2.2.1 n1 n2))))
theorem tc_addY (hN : N < 40) {post : Int32 → SY → Prop} (yes : tc_fit k a b c → post (nI (N + 1)) (nI (N + 1), q, upd K N k, upd A N a, upd B N b, upd C N c, V, O, L)) (no : ¬ tc_fit k a b c → post (-10000) (nI N, q, K, A, B, C, V, O, L)) : wpY_add post (nI N, q, K, A, B, C, V, O, L) k a b c := by
  have hv : vp_in (nI N) 40 := vp_in_nI hN (by omega)
  have hc : (nI N).toNatClampNeg = N := nI_clamp (by omega)
  have ne : ¬ nI N = 40 := fun z => by
    have := (nI_eq (a := N) (b := 40) (by omega) (by omega)).mp z
    omega
  unfold wpY_add
  dsimp only
  rw [hc]
  refine br_f ne (tc_fitsYY (fun f => br_f (by decide) ?_) (fun f => br_t rfl (no f)))
  exact ⟨hv, nm_e ⟨hv, nm_e ⟨hv, nm_e ⟨hv, nm_e (nm_r (nI_1 N) (yes f))⟩⟩⟩⟩
/-- clear -/
theorem tc_clr : ∀ (d i : Nat) (V : Nat → Int32), i + d = 6 → (∀ y, tc_rg (V y)) → ∃ V' : Nat → Int32, (∀ y, tc_rg (V' y)) ∧ (∀ (post : SX → Prop) (n : Nat), d < n → post (0, 0, V', K, A, B, C, O, oa, op, en, ze, po, pl) → wX_clear_12 post 0 0 n (nI i) V K A B C O oa op en ze po pl) ∧ (∀ (post : SY → Prop) (n : Nat), d < n → post (0, 0, K, A, B, C, V', O, L) → wY_clear_12 post 0 0 n (nI i) K A B C V O L) := by
  intro d
  induction d with
  | zero =>
    intro i V hi hV
    have e : i = 6 := by omega
    subst e
    refine ⟨V, hV, fun post n hn hp => ?_, fun post n hn hp => ?_⟩
    · obtain ⟨n, rfl⟩ : ∃ z, n = z + 1 := ⟨n - 1, by omega⟩
      exact br_t (by decide) hp
    · obtain ⟨n, rfl⟩ : ∃ z, n = z + 1 := ⟨n - 1, by omega⟩
      exact br_t (by decide) hp
  | succ d ih =>
    intro i V hi hV
    have h6 : ¬ (6 : Int32) ≤ nI i := nI_ge (b := 6) (by omega) (by decide)
    have hv : vp_in (nI i) 6 := vp_in_nI (by omega) (by omega)
    obtain ⟨V', h1, h2, h3⟩ := ih (i + 1) (upd V (nI i).toNatClampNeg 0) (by omega) (tc_rg_u hV (by unfold tc_rg; decide) _)
    refine ⟨V', h1, fun post n hn hp => ?_, fun post n hn hp => ?_⟩
    · obtain ⟨n, rfl⟩ : ∃ z, n = z + 1 := ⟨n - 1, by omega⟩
      exact br_f h6 ⟨hv, nm_e (nm_r (nI_1 i) (h2 post n (by omega) hp))⟩
    · obtain ⟨n, rfl⟩ : ∃ z, n = z + 1 := ⟨n - 1, by omega⟩
      exact br_f h6 ⟨hv, nm_e (nm_r (nI_1 i) (h3 post n (by omega) hp))⟩
end
