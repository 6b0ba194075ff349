/-! X's tables, place by place, and Y's sound beside X's link -/
def tc_oa : List Nat → (Nat → Int32) → Prop
  | [], _ => True
  | j :: l, oa => oa l.length = nI j ∧ tc_oa l oa
theorem tc_oa_upd {oa : Nat → Int32} {d : Nat} {x : Int32} : ∀ (l : List Nat), l.length ≤ d → tc_oa l oa → tc_oa l (upd oa d x)
  | [], _, _ => True.intro
  | j :: l, hl, h => by
    have hl' : l.length + 1 ≤ d := hl
    exact ⟨by rw [pk_un (by omega)]; exact h.1, tc_oa_upd l (by omega) h.2⟩
def tc_T (K : Nat → Int32) (i : Nat) (op en ze po : Nat → Int32) : Prop :=
  (∀ k, k < i → (K k = 8 ∨ K k = 9 ∨ K k = 11) → ∃ j, (tc_st K k).head? = some j ∧ op k = nI j) ∧
  (∀ k, k < i → K k = 11 → ∀ j, (tc_st K k).head? = some j → en j = nI k) ∧
  (∀ j, j < i → (K j = 7 ∨ K j = 10) → tc_M K j 8 i (ze j) ∧ tc_M K j 9 i (po j)) ∧
  (∀ k, k < i → (K k = 8 ∨ K k = 9) → ∀ j, (tc_st K k).head? = some j → K j = 7)
section
variable {K op en ze po : Nat → Int32} {i : Nat}
theorem tc_T_o (h : tc_T K i op en ze po) (ho : K i = 7 ∨ K i = 10) : tc_T K (i + 1) op en (upd ze i (-1)) (upd po i (-1)) := by
  obtain ⟨h1, h2, h3, h4⟩ := h
  refine ⟨fun k hk hq => ?_, fun k hk hq => ?_, fun j hj hq => ?_, fun k hk hq => ?_⟩
  · by_cases g : k = i
    · subst g; exfalso; rcases ho with a | a <;> rw [a] at hq <;> revert hq <;> decide
    · exact h1 k (by omega) hq
  · by_cases g : k = i
    · subst g; exfalso; rcases ho with a | a <;> rw [a] at hq <;> revert hq <;> decide
    · exact h2 k (by omega) hq
  · by_cases g : j = i
    · subst g; rw [pk_us, pk_us]; exact ⟨tc_M_new, tc_M_new⟩
    · rw [pk_un g, pk_un g]
      have := h3 j (by omega) hq
      exact ⟨tc_M_next this.1 (fun z => by exfalso; rcases ho with a | a <;> rw [a] at z <;> revert z <;> decide), tc_M_next this.2 (fun z => by exfalso; rcases ho with a | a <;> rw [a] at z <;> revert z <;> decide)⟩
  · by_cases g : k = i
    · subst g; exfalso; rcases ho with a | a <;> rw [a] at hq <;> revert hq <;> decide
    · exact h4 k (by omega) hq
theorem tc_T_p (h : tc_T K i op en ze po) (h7 : ¬ K i = 7) (h8 : ¬ K i = 8) (h9 : ¬ K i = 9) (h10 : ¬ K i = 10) (h11 : ¬ K i = 11) : tc_T K (i + 1) op en ze po := by
  obtain ⟨g1, g2, g3, g4⟩ := h
  refine ⟨fun k hk hq => ?_, fun k hk hq => ?_, fun j hj hq => ?_, fun k hk hq => ?_⟩
  · by_cases g : k = i
    · subst g; exact (hq.elim h8 (fun z => z.elim h9 h11)).elim
    · exact g1 k (by omega) hq
  · by_cases g : k = i
    · subst g; exact absurd hq h11
    · exact g2 k (by omega) hq
  · by_cases g : j = i
    · subst g; exact (hq.elim h7 h10).elim
    · have := g3 j (by omega) hq
      exact ⟨tc_M_next this.1 (fun z => absurd z h8), tc_M_next this.2 (fun z => absurd z h9)⟩
  · by_cases g : k = i
    · subst g; exact (hq.elim h8 h9).elim
    · exact g4 k (by omega) hq
theorem tc_T_e (h : tc_T K i op en ze po) (h11 : K i = 11) {j : Nat} (hh : (tc_st K i).head? = some j) : tc_T K (i + 1) (upd op i (nI j)) (upd en j (nI i)) ze po := by
  obtain ⟨g1, g2, g3, g4⟩ := h
  refine ⟨fun k hk hq => ?_, fun k hk hq x hx => ?_, fun x hx hq => ?_, fun k hk hq => ?_⟩
  · by_cases g : k = i
    · subst g; exact ⟨j, hh, pk_us⟩
    · rw [pk_un g]; exact g1 k (by omega) hq
  · by_cases g : k = i
    · subst g
      have : x = j := Option.some.inj (hx.symm.trans hh)
      rw [this, pk_us]
    · by_cases c : x = j
      · exfalso
        subst c
        exact tc_st_gone hq (tc_mem_hd hx) (show k < i by omega) (by rw [tc_mem_hd hh]; exact List.mem_cons_self)
      · rw [pk_un c]; exact g2 k (by omega) hq x hx
  · by_cases g : x = i
    · subst g; exfalso; rw [h11] at hq; revert hq; decide
    · have := g3 x (by omega) hq
      exact ⟨tc_M_next this.1 (fun z => by exfalso; rw [h11] at z; revert z; decide), tc_M_next this.2 (fun z => by exfalso; rw [h11] at z; revert z; decide)⟩
  · by_cases g : k = i
    · subst g; exfalso; rw [h11] at hq; revert hq; decide
    · exact g4 k (by omega) hq
theorem tc_T_9 (h : tc_T K i op en ze po) (hi : i < 40) (h9 : K i = 9) {j : Nat} (hh : (tc_st K i).head? = some j) (h7 : K j = 7) (hp : po j = -1) : tc_T K (i + 1) (upd op i (nI j)) en ze (upd po j (nI i)) := by
  obtain ⟨g1, g2, g3, g4⟩ := h
  refine ⟨fun k hk hq => ?_, fun k hk hq => ?_, fun x hx hq => ?_, fun k hk hq x hx => ?_⟩
  · by_cases g : k = i
    · subst g; exact ⟨j, hh, pk_us⟩
    · rw [pk_un g]; exact g1 k (by omega) hq
  · by_cases g : k = i
    · subst g; exfalso; rw [h9] at hq; revert hq; decide
    · exact g2 k (by omega) hq
  · by_cases g : x = i
    · subst g; exfalso; rw [h9] at hq; revert hq; decide
    · have := g3 x (by omega) hq
      refine ⟨tc_M_next this.1 (fun z => by exfalso; rw [h9] at z; revert z; decide), ?_⟩
      by_cases c : x = j
      · subst c
        rw [pk_us]
        exact tc_M_here (by rw [← hp]; exact this.2) hi h9 hh
      · rw [pk_un c]
        exact tc_M_next this.2 (fun _ z => c (Option.some.inj (z.symm.trans hh)))
  · by_cases g : k = i
    · subst g
      rw [show x = j from Option.some.inj (hx.symm.trans hh)]
      exact h7
    · exact g4 k (by omega) hq x hx
theorem tc_T_8 (h : tc_T K i op en ze po) (hi : i < 40) (h8 : K i = 8) {j : Nat} (hh : (tc_st K i).head? = some j) (h7 : K j = 7) (hp : ze j = -1) : tc_T K (i + 1) (upd op i (nI j)) en (upd ze j (nI i)) po := by
  obtain ⟨g1, g2, g3, g4⟩ := h
  refine ⟨fun k hk hq => ?_, fun k hk hq => ?_, fun x hx hq => ?_, fun k hk hq x hx => ?_⟩
  · by_cases g : k = i
    · subst g; exact ⟨j, hh, pk_us⟩
    · rw [pk_un g]; exact g1 k (by omega) hq
  · by_cases g : k = i
    · subst g; exfalso; rw [h8] at hq; revert hq; decide
    · exact g2 k (by omega) hq
  · by_cases g : x = i
    · subst g; exfalso; rw [h8] at hq; revert hq; decide
    · have := g3 x (by omega) hq
      refine ⟨?_, tc_M_next this.2 (fun z => by exfalso; rw [h8] at z; revert z; decide)⟩
      by_cases c : x = j
      · subst c
        rw [pk_us]
        exact tc_M_here (by rw [← hp]; exact this.1) hi h8 hh
      · rw [pk_un c]
        exact tc_M_next this.1 (fun _ z => c (Option.some.inj (z.symm.trans hh)))
  · by_cases g : k = i
    · subst g
      rw [show x = j from Option.some.inj (hx.symm.trans hh)]
      exact h7
    · exact g4 k (by omega) hq x hx
end
