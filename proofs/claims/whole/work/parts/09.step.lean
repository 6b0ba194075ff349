/-- what add lets in -/
def tc_fit (k a b c : Int32) : Prop := ¬ k < 0 ∧ k ≤ 12 ∧ (¬ k = 8 → ¬ k = 9 → ¬ k = 11 → vp_in a 6) ∧ (¬ k < 1 → ¬ 6 < k → vp_in b 6) ∧ (k = 1 ∨ k = 2 ∨ k = 3 ∨ k = 6 → vp_in c 6)
theorem tc_k13 {k : Int32} (h0 : ¬ k < 0) (h : k ≤ 12) : k = 0 ∨ k = 1 ∨ k = 2 ∨ k = 3 ∨ k = 4 ∨ k = 5 ∨ k = 6 ∨ k = 7 ∨ k = 8 ∨ k = 9 ∨ k = 10 ∨ k = 11 ∨ k = 12 := by
  obtain ⟨j, hj, rfl⟩ := nI_of2 (M := 12) (n := 12) (by decide) h0 h
  have : ∀ j, j < 13 → (nI j = 0 ∨ nI j = 1 ∨ nI j = 2 ∨ nI j = 3 ∨ nI j = 4 ∨ nI j = 5 ∨ nI j = 6 ∨ nI j = 7 ∨ nI j = 8 ∨ nI j = 9 ∨ nI j = 10 ∨ nI j = 11 ∨ nI j = 12) := by decide
  exact this j (by omega)
theorem tc_rg_u {V : Nat → Int32} (hV : ∀ y, tc_rg (V y)) {w : Int32} (hw : tc_rg w) (a : Nat) : ∀ y, tc_rg (upd V a w y) := by
  intro y
  by_cases h : y = a
  · subst h; rw [pk_us]; exact hw
  · rw [pk_un h]; exact hV y
section
variable {N : Nat} {q x : Int32} {K A B C V O L oa op en ze po pl : Nat → Int32} {i : Nat}
/-- print -/
theorem tc_prX (hv : vp_in x 40) (hk : K x.toNatClampNeg = 12) (ha : vp_in (A x.toNatClampNeg) 6) {post : Int32 → SX → Prop} (h : (48 ≤ q → post (x + 1) (nI N, q + 1, V, K, A, B, C, O, oa, op, en, ze, po, pl)) ∧ (¬ 48 ≤ q → vp_in q 48 ∧ post (x + 1) (nI N, q + 1, V, K, A, B, C, upd O q.toNatClampNeg (V (A x.toNatClampNeg).toNatClampNeg), oa, op, en, ze, po, pl))) : wpX_pass post (nI N, q, V, K, A, B, C, O, oa, op, en, ze, po, pl) x :=
  ⟨hv, nm_e (br_f (by rw [hk]; decide) (br_f (by rw [hk]; decide) (br_f (by rw [hk]; decide) (br_f (by rw [hk]; decide) (br_f (by rw [hk]; decide) (br_f (by rw [hk]; decide) (br_f (by rw [hk]; decide) (br_t hk ⟨hv, ha, br_c (fun a => nm_e (h.1 a)) (fun a => ⟨(h.2 a).1, nm_e (nm_e (h.2 a).2)⟩)⟩))))))))⟩
theorem tc_prY (hv : vp_in x 40) (hk : K x.toNatClampNeg = 12) (ha : vp_in (A x.toNatClampNeg) 6) {post : SY → Prop} (h : (48 ≤ q → post (nI N, q + 1, K, A, B, C, V, O, L)) ∧ (¬ 48 ≤ q → vp_in q 48 ∧ post (nI N, q + 1, K, A, B, C, V, upd O q.toNatClampNeg (V (A x.toNatClampNeg).toNatClampNeg), L))) : wpY_plain post (nI N, q, K, A, B, C, V, O, L) x :=
  ⟨hv, br_f (by rw [hk]; decide) ⟨hv, br_t hk ⟨hv, br_f (by rw [hk]; decide) ⟨hv, br_f (by rw [hk]; decide) ⟨hv, br_f (by rw [hk]; decide) ⟨hv, br_f (by rw [hk]; decide) ⟨hv, br_f (by rw [hk]; decide) ⟨hv, br_f (by rw [hk]; decide) ⟨hv, br_f (by rw [hk]; decide) ⟨hv, br_f (by rw [hk]; decide) ⟨hv, br_f (by rw [hk]; decide) ⟨hv, br_f (by rw [hk]; decide) ⟨hv, br_f (by rw [hk]; decide) ⟨hv, br_t hk (br_c (fun a => nm_e (h.1 a)) (fun a => ⟨hv, ha, (h.2 a).1, nm_e (nm_e (h.2 a).2)⟩))⟩⟩⟩⟩⟩⟩⟩⟩⟩⟩⟩⟩⟩⟩
theorem tc_plY (hv : vp_in x 40) (h7 : ¬ K x.toNatClampNeg = 7) (h8 : ¬ K x.toNatClampNeg = 8) (h9 : ¬ K x.toNatClampNeg = 9) (h10 : ¬ K x.toNatClampNeg = 10) (h11 : ¬ K x.toNatClampNeg = 11) {post : Int32 → SY → Prop} (h : wpY_plain (fun u => match u with | (a1, a2, a3, a4, a5, a6, a7, a8, a9) => post (x + 1) (a1, a2, a3, a4, a5, a6, a7, a8, a9)) (nI N, q, K, A, B, C, V, O, L) x) : wpY_pass post (nI N, q, K, A, B, C, V, O, L) x :=
  ⟨hv, br_f h7 ⟨hv, br_f h10 ⟨hv, br_f h8 ⟨hv, br_f h9 ⟨hv, br_f h11 h⟩⟩⟩⟩⟩
theorem tc_plX (hv : vp_in x 40) (h7 : K x.toNatClampNeg < 7) (ha : vp_in (A x.toNatClampNeg) 6) {w : Int32} (hX : ∀ post : Int32 → Prop, post w → wpX_result post (nI N, q, V, K, A, B, C, O, oa, op, en, ze, po, pl) x) {post : Int32 → SX → Prop} (h : post (x + 1) (nI N, q, upd V (A x.toNatClampNeg).toNatClampNeg w, K, A, B, C, O, oa, op, en, ze, po, pl)) : wpX_pass post (nI N, q, V, K, A, B, C, O, oa, op, en, ze, po, pl) x :=
  ⟨hv, nm_e (br_t h7 ⟨hv, hX _ ⟨ha, nm_e h⟩⟩)⟩
/-- the kinds that set a variable, in one -/
theorem tc_pl (hv : vp_in x 40) (hf : tc_fit (K x.toNatClampNeg) (A x.toNatClampNeg) (B x.toNatClampNeg) (C x.toNatClampNeg)) (h7 : K x.toNatClampNeg < 7) (hV : ∀ y, tc_rg (V y)) : ∃ w : Int32, tc_rg w ∧ (∀ post : Int32 → SX → Prop, post (x + 1) (nI N, q, upd V (A x.toNatClampNeg).toNatClampNeg w, K, A, B, C, O, oa, op, en, ze, po, pl) → wpX_pass post (nI N, q, V, K, A, B, C, O, oa, op, en, ze, po, pl) x) ∧ (∀ post : Int32 → SY → Prop, post (x + 1) (nI N, q, K, A, B, C, upd V (A x.toNatClampNeg).toNatClampNeg w, O, L) → wpY_pass post (nI N, q, K, A, B, C, V, O, L) x) := by
  obtain ⟨f0, f1, fa, fb, fc⟩ := hf
  have n8 : ¬ K x.toNatClampNeg = 8 := fun z => by rw [z] at h7; revert h7; decide
  have n9 : ¬ K x.toNatClampNeg = 9 := fun z => by rw [z] at h7; revert h7; decide
  have n10 : ¬ K x.toNatClampNeg = 10 := fun z => by rw [z] at h7; revert h7; decide
  have n11 : ¬ K x.toNatClampNeg = 11 := fun z => by rw [z] at h7; revert h7; decide
  have n7 : ¬ K x.toNatClampNeg = 7 := fun z => by rw [z] at h7; revert h7; decide
  have ha := fa n8 n9 n11
  have key : ∃ w : Int32, tc_rg w ∧ (∀ post : Int32 → Prop, post w → wpX_result post (nI N, q, V, K, A, B, C, O, oa, op, en, ze, po, pl) x) ∧ (∀ post : SY → Prop, post (nI N, q, K, A, B, C, upd V (A x.toNatClampNeg).toNatClampNeg w, O, L) → wpY_plain post (nI N, q, K, A, B, C, V, O, L) x) := by
    rcases tc_k13 f0 f1 with k | k | k | k | k | k | k | k | k | k | k | k | k
    · exact tc_pl0 hv k ha
    · exact tc_pl1 hv k ha (fb (by rw [k]; decide) (by rw [k]; decide)) (fc (Or.inl k))
    · exact tc_pl2 hv k ha (fb (by rw [k]; decide) (by rw [k]; decide)) (fc (Or.inr (Or.inl k)))
    · exact tc_pl3 hv k ha (fb (by rw [k]; decide) (by rw [k]; decide)) (fc (Or.inr (Or.inr (Or.inl k)))) hV
    · exact tc_pl4 hv k ha (fb (by rw [k]; decide) (by rw [k]; decide))
    · exact tc_pl5 hv k ha (fb (by rw [k]; decide) (by rw [k]; decide)) hV
    · exact tc_pl6 hv k ha (fb (by rw [k]; decide) (by rw [k]; decide)) (fc (Or.inr (Or.inr (Or.inr k))))
    · exact absurd k n7
    · exact absurd k n8
    · exact absurd k n9
    · exact absurd k n10
    · exact absurd k n11
    · rw [k] at h7; exact absurd h7 (by decide)
  obtain ⟨w, hw, hX, hY⟩ := key
  exact ⟨w, hw, fun post hp => tc_plX hv h7 ha hX hp, fun post hp => tc_plY hv n7 n8 n9 n10 n11 (hY _ hp)⟩
/-- the chosen section, or the end -/
theorem tc_sec (hN : N ≤ 40) {e : Nat} {m r : Int32} (hi : i < e) (he : e < N) (h11 : K e = 11) (hh : (tc_st K e).head? = some i) (hm : m = 8 ∨ m = 9) (hen : en i = nI e) (hM : tc_M K i m N r) : ∃ i' : Nat, i' ≤ N ∧ (∀ j, j ∈ tc_st K i' → j = i ∨ j ∈ tc_st K i) ∧ (∀ post : Int32 → Prop, post (nI i') → wX_chosenSection_39 post (nI i) r (nI N) q V K A B C O oa op en ze po pl) ∧ (∀ post : Int32 → Prop, post (nI i') → wY_choose_39 post (nI e) m (nI i) (nI N) q K A B C V O L) := by
  have hv : vp_in (nI i) 40 := vp_in_nI (by omega) (by omega)
  have hc : (nI i).toNatClampNeg = i := nI_clamp (by omega)
  have hM' := tc_M_cut hM he h11 hh (by rcases hm with a | a <;> rw [a] <;> decide)
  rcases hM with ⟨h1, h2⟩ | ⟨k, h1, h2, h3, h4, h5⟩
  · refine ⟨e + 1, by omega, fun j hj => ?_, fun post hp => ?_, fun post hp => ?_⟩
    · have es := tc_mem_hd hh
      rw [tc_st_e h11, tc_st_hd es] at hj
      exact Or.inr hj
    · refine br_t h1 ⟨hv, ?_⟩
      rw [hc, hen, nI_1]
      exact hp
    · refine tc_markY (by omega) hi hM' _ (br_f (by rw [h1]; decide) ?_)
      rw [nI_1]
      exact hp
  · have hk9 : ¬ nI k < 0 := nI_pos (by omega)
    refine ⟨k + 1, by omega, fun j hj => ?_, fun post hp => ?_, fun post hp => ?_⟩
    · have es := tc_mem_hd h4
      have n7 : ¬ K k = 7 := by rw [h3]; rcases hm with a | a <;> rw [a] <;> decide
      have n10 : ¬ K k = 10 := by rw [h3]; rcases hm with a | a <;> rw [a] <;> decide
      have n11 : ¬ K k = 11 := by rw [h3]; rcases hm with a | a <;> rw [a] <;> decide
      rw [tc_st_p n7 n10 n11, es, tc_st_hd es] at hj
      exact List.mem_cons.mp hj
    · refine br_f (fun z => ?_) ?_
      · rw [h2] at z
        rw [z] at hk9
        exact hk9 (by decide)
      · rw [h2, nI_1]
        exact hp
    · refine tc_markY (by omega) hi hM' _ (br_t (by rw [h2]; exact nI_pos' (by omega)) ?_)
      rw [h2, nI_1]
      exact hp
end
