section
variable {N : Nat} {q : Int32} {K A B C V O L oa op en ze po pl : Nat → Int32}
theorem tc_trL {i : Nat} (hi : i < 9) : ∀ (d k n : Nat) (y : Int32) (post : Int32 → Prop), k + d = i → d < n → post (tc_t (tc_it d y)) → wY_tritOf_5 post (nI i) (nI N) q K A B C V O L n y (nI k) := by
  intro d
  induction d with
  | zero =>
    intro k n y post hk hn hp
    obtain ⟨n, rfl⟩ : ∃ z, n = z + 1 := ⟨n - 1, by omega⟩
    have e : k = i := by omega
    subst e
    exact br_f (nI_ge (b := 9) hi (by decide)) ⟨by decide, by decide, nm_e (br_t rfl hp)⟩
  | succ d ih =>
    intro k n y post hk hn hp
    obtain ⟨n, rfl⟩ : ∃ z, n = z + 1 := ⟨n - 1, by omega⟩
    have ne : ¬ nI k = nI i := fun z => by
      have := (nI_eq (by omega) (by omega)).mp z
      omega
    exact br_f (nI_ge (b := 9) (by omega) (by decide)) ⟨by decide, by decide, nm_e (br_f ne ⟨by decide, nm_e (nm_r (nI_1 k) (ih (k + 1) n (tc_w y) post (by omega) (by omega) hp))⟩)⟩
theorem tc_tritY {i : Nat} (hi : i < 9) (y : Int32) (post : Int32 → Prop) (hp : post (tc_t (tc_it i y))) : wpY_tritOf post (nI N, q, K, A, B, C, V, O, L) y (nI i) :=
  ⟨i + 1, tc_trL hi i 0 (i + 1) y post (by omega) (by omega) hp⟩
theorem tc_trX {i : Nat} (hi : i < 9) : ∀ (d k n : Nat) (y : Int32) (post : Int32 → Prop), k + d = i → d < n → post (tc_t (tc_it d y)) → wX_trit_31 post (nI i) (nI N) q V K A B C O oa op en ze po pl n y (nI k) := by
  intro d
  induction d with
  | zero =>
    intro k n y post hk hn hp
    obtain ⟨n, rfl⟩ : ∃ z, n = z + 1 := ⟨n - 1, by omega⟩
    exact br_t (nI_le (by omega) (by omega)) (tc_low y _ hp)
  | succ d ih =>
    intro k n y post hk hn hp
    obtain ⟨n, rfl⟩ : ∃ z, n = z + 1 := ⟨n - 1, by omega⟩
    exact br_f (nI_ge (by omega) (by omega)) (tc_wol y _ (nm_r (nI_1 k) (ih (k + 1) n (tc_w y) post (by omega) (by omega) hp)))
theorem tc_sm (W : Nat) (hW : W ≤ 19683) (s z : Int32) (h1 : -9841 ≤ s.toInt) (h2 : s.toInt ≤ 9841) (hz : z = -1 ∨ z = 0 ∨ z = 1) : (s + nI W * z).toInt = s.toInt + W * z.toInt ∧ (z.toInt = -1 ∨ z.toInt = 0 ∨ z.toInt = 1) := by
  have e : (nI W).toInt = W := nI_toInt (by omega)
  have m1 : (-1 : Int32).toInt = -1 := by decide
  have m0 : (0 : Int32).toInt = 0 := by decide
  have p1 : (1 : Int32).toInt = 1 := by decide
  rcases hz with rfl | rfl | rfl
  · have k : (nI W * -1).toInt = W * -1 := by
      rw [Jvm.Kit.i32_mul (by rw [e, m1]; omega) (by rw [e, m1]; omega), e, m1]
    rw [Jvm.Kit.i32_add (by rw [k]; omega) (by rw [k]; omega), k, m1]
    exact ⟨rfl, Or.inl rfl⟩
  · have k : (nI W * 0).toInt = W * 0 := by
      rw [Jvm.Kit.i32_mul (by rw [e, m0]; omega) (by rw [e, m0]; omega), e, m0]
    rw [Jvm.Kit.i32_add (by rw [k]; omega) (by rw [k]; omega), k, m0]
    exact ⟨rfl, Or.inr (Or.inl rfl)⟩
  · have k : (nI W * 1).toInt = W * 1 := by
      rw [Jvm.Kit.i32_mul (by rw [e, p1]; omega) (by rw [e, p1]; omega), e, p1]
    rw [Jvm.Kit.i32_add (by rw [k]; omega) (by rw [k]; omega), k, p1]
    exact ⟨rfl, Or.inr (Or.inr rfl)⟩
theorem tc_loL (x y : Int32) : ∀ (d k : Nat) (s : Int32), k + d = 9 → 1 - (3 ^ k : Nat) ≤ 2 * s.toInt → 2 * s.toInt ≤ (3 ^ k : Nat) - 1 → ∃ r : Int32, tc_rg r ∧ (∀ (post : Int32 → Prop) (n : Nat), d < n → post r → wX_lowerTrits_7 post n (tc_it k x) (tc_it k y) s (nI (3 ^ k)) (nI k)) ∧ (∀ (post : Int32 → Prop) (n : Nat), d < n → post r → wY_low_8 post x y (nI N) q K A B C V O L n s (nI (3 ^ k)) (nI k)) := by
  intro d
  induction d with
  | zero =>
    intro k s hk h1 h2
    have e : k = 9 := by omega
    subst e
    have e9 : (3 ^ 9 : Nat) = 19683 := by decide
    rw [e9] at h1 h2
    refine ⟨s, ⟨by omega, by omega⟩, fun post n hn hp => ?_, fun post n hn hp => ?_⟩
    · obtain ⟨n, rfl⟩ : ∃ z, n = z + 1 := ⟨n - 1, by omega⟩
      exact br_t (by decide) hp
    · obtain ⟨n, rfl⟩ : ∃ z, n = z + 1 := ⟨n - 1, by omega⟩
      exact br_t (by decide) hp
  | succ d ih =>
    intro k s hk h1 h2
    have hW : 3 ^ k ≤ 3 ^ 9 := Nat.pow_le_pow_right (by decide) (by omega)
    have e9 : (3 ^ 9 : Nat) = 19683 := by decide
    rw [e9] at hW
    have eW : 3 ^ (k + 1) = 3 ^ k * 3 := rfl
    have h9 : ¬ (9 : Int32) ≤ nI k := nI_ge (b := 9) (by omega) (by decide)
    have key : ∀ z : Int32, (z = -1 ∨ z = 0 ∨ z = 1) → ∃ r : Int32, tc_rg r ∧ (∀ (post : Int32 → Prop) (n : Nat), d < n → post r → wX_lowerTrits_7 post n (tc_it (k + 1) x) (tc_it (k + 1) y) (s + nI (3 ^ k) * z) (nI (3 ^ (k + 1))) (nI (k + 1))) ∧ (∀ (post : Int32 → Prop) (n : Nat), d < n → post r → wY_low_8 post x y (nI N) q K A B C V O L n (s + nI (3 ^ k) * z) (nI (3 ^ (k + 1))) (nI (k + 1))) := by
      intro z hz
      obtain ⟨g1, g2⟩ := tc_sm (3 ^ k) hW s z (by omega) (by omega) hz
      refine ih (k + 1) (s + nI (3 ^ k) * z) (by omega) ?_ ?_
      · rw [g1, eW]
        generalize 3 ^ k = W at *
        rcases g2 with g | g | g <;> rw [g] <;> omega
      · rw [g1, eW]
        generalize 3 ^ k = W at *
        rcases g2 with g | g | g <;> rw [g] <;> omega
    have t3 : ∀ v : Int32, tc_t v = -1 ∨ tc_t v = 0 ∨ tc_t v = 1 := fun v => (tc_t3 v).elim (fun h => Or.inl h.1) (fun h => h.elim (fun h => Or.inr (Or.inl h.1)) (fun h => Or.inr (Or.inr h.1)))
    have e3 : nI (3 ^ k) * 3 = nI (3 ^ (k + 1)) := pk_mul (3 ^ k) 3
    by_cases c : tc_t (tc_it k y) ≤ tc_t (tc_it k x)
    · obtain ⟨r, hr, hX, hY⟩ := key (tc_t (tc_it k y)) (t3 _)
      refine ⟨r, hr, fun post n hn hp => ?_, fun post n hn hp => ?_⟩
      · obtain ⟨n, rfl⟩ : ∃ z, n = z + 1 := ⟨n - 1, by omega⟩
        refine br_f h9 (tc_low _ _ (tc_low _ _ (br_t c (nm_e (tc_wol _ _ (tc_wol _ _ (nm_r e3 (nm_r (nI_1 k) ?_))))))))
        rw [← tc_it_s, ← tc_it_s]
        exact hX post n (by omega) hp
      · obtain ⟨n, rfl⟩ : ∃ z, n = z + 1 := ⟨n - 1, by omega⟩
        exact br_f h9 (tc_tritY (by omega) _ _ (tc_tritY (by omega) _ _ (br_t c (nm_e (nm_r e3 (nm_r (nI_1 k) (hY post n (by omega) hp)))))))
    · obtain ⟨r, hr, hX, hY⟩ := key (tc_t (tc_it k x)) (t3 _)
      refine ⟨r, hr, fun post n hn hp => ?_, fun post n hn hp => ?_⟩
      · obtain ⟨n, rfl⟩ : ∃ z, n = z + 1 := ⟨n - 1, by omega⟩
        refine br_f h9 (tc_low _ _ (tc_low _ _ (br_f c (nm_e (tc_wol _ _ (tc_wol _ _ (nm_r e3 (nm_r (nI_1 k) ?_))))))))
        rw [← tc_it_s, ← tc_it_s]
        exact hX post n (by omega) hp
      · obtain ⟨n, rfl⟩ : ∃ z, n = z + 1 := ⟨n - 1, by omega⟩
        exact br_f h9 (tc_tritY (by omega) _ _ (tc_tritY (by omega) _ _ (br_f c (nm_e (nm_r e3 (nm_r (nI_1 k) (hY post n (by omega) hp)))))))
theorem tc_lowXY (x y : Int32) : ∃ r : Int32, tc_rg r ∧ (∀ (post : Int32 → Prop), post r → wpX_lowerTrits post x y) ∧ (∀ (post : Int32 → Prop), post r → wpY_low post (nI N, q, K, A, B, C, V, O, L) x y) := by
  obtain ⟨r, hr, hX, hY⟩ := tc_loL (N := N) (q := q) (K := K) (A := A) (B := B) (C := C) (V := V) (O := O) (L := L) x y 9 0 0 (by omega) (by decide) (by decide)
  exact ⟨r, hr, fun post hp => ⟨10, hX post 10 (by omega) hp⟩, fun post hp => ⟨10, hY post 10 (by omega) hp⟩⟩
theorem tc_mulXY {x y : Int32} (hx : tc_rg x) (hy : tc_rg y) : (x.toInt64 * y.toInt64).toInt = (x * y).toInt := by
  obtain ⟨a1, a2⟩ := hx
  obtain ⟨b1, b2⟩ := hy
  have h : (x.toInt * y.toInt).natAbs ≤ 9841 * 9841 := by
    rw [Int.natAbs_mul]
    exact Nat.mul_le_mul (by omega) (by omega)
  have e1 := Jvm.Kit.i64_of_i32 x
  have e2 := Jvm.Kit.i64_of_i32 y
  generalize hP : x.toInt * y.toInt = P at h
  rw [Jvm.Kit.i64_mul (by rw [e1, e2, hP]; omega) (by rw [e1, e2, hP]; omega), Jvm.Kit.i32_mul (by rw [hP]; omega) (by rw [hP]; omega), e1, e2]
end
