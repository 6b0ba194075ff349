/-! the things that stand open before a place, innermost first -/
def tc_st (K : Nat → Int32) : Nat → List Nat
  | 0 => []
  | i + 1 => if K i = 7 ∨ K i = 10 then i :: tc_st K i else if K i = 11 then (tc_st K i).tail else tc_st K i
theorem tc_st_o {K : Nat → Int32} {i : Nat} (h : K i = 7 ∨ K i = 10) : tc_st K (i + 1) = i :: tc_st K i := if_pos h
theorem tc_st_e {K : Nat → Int32} {i : Nat} (h : K i = 11) : tc_st K (i + 1) = (tc_st K i).tail := by
  have n : ¬ (K i = 7 ∨ K i = 10) := by rw [h]; decide
  exact (if_neg n).trans (if_pos h)
theorem tc_st_p {K : Nat → Int32} {i : Nat} (h7 : ¬ K i = 7) (h10 : ¬ K i = 10) (h11 : ¬ K i = 11) : tc_st K (i + 1) = tc_st K i :=
  (if_neg (fun h => h.elim h7 h10)).trans (if_neg h11)
/-- three ways of a step -/
theorem tc_st_c (K : Nat → Int32) (i : Nat) : ((K i = 7 ∨ K i = 10) ∧ tc_st K (i + 1) = i :: tc_st K i) ∨ (K i = 11 ∧ tc_st K (i + 1) = (tc_st K i).tail) ∨ (¬ (K i = 7 ∨ K i = 10) ∧ ¬ K i = 11 ∧ tc_st K (i + 1) = tc_st K i) := by
  by_cases h : K i = 7 ∨ K i = 10
  · exact Or.inl ⟨h, tc_st_o h⟩
  · by_cases g : K i = 11
    · exact Or.inr (Or.inl ⟨g, tc_st_e g⟩)
    · exact Or.inr (Or.inr ⟨h, g, tc_st_p (fun z => h (Or.inl z)) (fun z => h (Or.inr z)) g⟩)
theorem tc_st_lt (K : Nat → Int32) : ∀ (i j : Nat), j ∈ tc_st K i → j < i ∧ (K j = 7 ∨ K j = 10)
  | 0, j, h => nomatch h
  | i + 1, j, h => by
    rcases tc_st_c K i with ⟨a, e⟩ | ⟨a, e⟩ | ⟨a, b, e⟩ <;> rw [e] at h
    · rcases List.mem_cons.mp h with rfl | h
      · exact ⟨by omega, a⟩
      · have := tc_st_lt K i j h
        exact ⟨by omega, this.2⟩
    · have := tc_st_lt K i j (List.mem_of_mem_tail h)
      exact ⟨by omega, this.2⟩
    · have := tc_st_lt K i j h
      exact ⟨by omega, this.2⟩
/-- behind an open thing stands what stood open before it -/
theorem tc_st_suf (K : Nat → Int32) : ∀ (i : Nat) (l1 : List Nat) (j : Nat) (l : List Nat), tc_st K i = l1 ++ j :: l → l = tc_st K j
  | 0, l1, j, l, h => by
    have : ([] : List Nat) = l1 ++ j :: l := h
    cases l1 <;> cases this
  | i + 1, l1, j, l, h => by
    rcases tc_st_c K i with ⟨a, e⟩ | ⟨a, e⟩ | ⟨a, b, e⟩ <;> rw [e] at h
    · cases l1 with
      | nil =>
        have h' : i :: tc_st K i = j :: l := h
        injection h' with h1 h2
        rw [← h1, h2]
      | cons x l1 =>
        have h' : i :: tc_st K i = x :: (l1 ++ j :: l) := h
        injection h' with h1 h2
        exact tc_st_suf K i l1 j l h2
    · cases hs : tc_st K i with
      | nil =>
        rw [hs] at h
        have h' : ([] : List Nat) = l1 ++ j :: l := h
        cases l1 <;> cases h'
      | cons x t =>
        rw [hs] at h
        have h' : t = l1 ++ j :: l := h
        refine tc_st_suf K i (x :: l1) j l ?_
        rw [hs, h']
        rfl
    · exact tc_st_suf K i l1 j l h
theorem tc_st_hd {K : Nat → Int32} {i j : Nat} {l : List Nat} (h : tc_st K i = j :: l) : l = tc_st K j := tc_st_suf K i [] j l h
/-- what has gone doesn't come back -/
theorem tc_st_keep {K : Nat → Int32} {j k : Nat} (hj : j < k) (h : ¬ j ∈ tc_st K k) : ∀ d, ¬ j ∈ tc_st K (k + d)
  | 0 => h
  | d + 1 => by
    intro m
    have ih := tc_st_keep hj h d
    rcases tc_st_c K (k + d) with ⟨a, e⟩ | ⟨a, e⟩ | ⟨a, b, e⟩
    · have m' : j ∈ (k + d) :: tc_st K (k + d) := by rw [← e]; exact m
      rcases List.mem_cons.mp m' with h' | h'
      · omega
      · exact ih h'
    · have m' : j ∈ (tc_st K (k + d)).tail := by rw [← e]; exact m
      exact ih (List.mem_of_mem_tail m')
    · have m' : j ∈ tc_st K (k + d) := by rw [← e]; exact m
      exact ih m'
theorem tc_st_gone {K : Nat → Int32} {j k k' : Nat} {l : List Nat} (h11 : K k = 11) (h : tc_st K k = j :: l) (hk : k < k') : ¬ j ∈ tc_st K k' := by
  have hj : j < k := (tc_st_lt K k j (by rw [h]; exact List.mem_cons_self)).1
  have e : tc_st K (k + 1) = tc_st K j := by rw [tc_st_e h11, h]; exact tc_st_hd h
  have n : ¬ j ∈ tc_st K (k + 1) := by
    rw [e]
    intro m
    have := (tc_st_lt K j j m).1
    omega
  have := tc_st_keep (show j < k + 1 by omega) n (k' - (k + 1))
  rw [show k + 1 + (k' - (k + 1)) = k' by omega] at this
  exact this
/-- the innermost open thing, as a number; -1: none -/
def tc_v : Option Nat → Int32
  | none => -1
  | some j => nI j
/-- the first mark q of the thing j below t -/
def tc_M (K : Nat → Int32) (j : Nat) (q : Int32) (t : Nat) (r : Int32) : Prop :=
  (r = -1 ∧ ∀ k, k < t → K k = q → (tc_st K k).head? ≠ some j) ∨
  (∃ k, k < t ∧ r = nI k ∧ K k = q ∧ (tc_st K k).head? = some j ∧ ∀ k', k' < k → K k' = q → (tc_st K k').head? ≠ some j)
theorem tc_mem_hd {l : List Nat} {j : Nat} (h : l.head? = some j) : l = j :: l.tail := by
  cases l with
  | nil => cases h
  | cons x t =>
    have : x = j := Option.some.inj h
    rw [this]
    rfl
/-- no mark stands at i: the table's entry lasts -/
theorem tc_M_next {K : Nat → Int32} {j : Nat} {q : Int32} {i : Nat} {r : Int32} (h : tc_M K j q i r) (hn : K i = q → (tc_st K i).head? ≠ some j) : tc_M K j q (i + 1) r := by
  rcases h with ⟨h1, h2⟩ | ⟨k, h1, h2⟩
  · refine Or.inl ⟨h1, fun k hk hq => ?_⟩
    by_cases g : k = i
    · subst g; exact hn hq
    · exact h2 k (by omega) hq
  · exact Or.inr ⟨k, by omega, h2⟩
/-- the first mark stands at i -/
theorem tc_M_here {K : Nat → Int32} {j : Nat} {q : Int32} {i : Nat} (h : tc_M K j q i (-1)) (hi : i < 40) (hq : K i = q) (hh : (tc_st K i).head? = some j) : tc_M K j q (i + 1) (nI i) := by
  rcases h with ⟨h1, h2⟩ | ⟨k, h1, h2, h3⟩
  · exact Or.inr ⟨i, by omega, rfl, hq, hh, h2⟩
  · exfalso
    have := nI_pos (n := k) (by omega)
    rw [← h2] at this
    exact this (by decide)
/-- behind the END of j no mark of j stands -/
theorem tc_M_cut {K : Nat → Int32} {j : Nat} {q : Int32} {t e : Nat} {r : Int32} (h : tc_M K j q t r) (he : e < t) (h11 : K e = 11) (hh : (tc_st K e).head? = some j) (hq : q ≠ 11) : tc_M K j q e r := by
  rcases h with ⟨h1, h2⟩ | ⟨k, h1, h2, h3, h4, h5⟩
  · exact Or.inl ⟨h1, fun k hk hq => h2 k (by omega) hq⟩
  · refine Or.inr ⟨k, ?_, h2, h3, h4, h5⟩
    by_cases g : k < e
    · exact g
    · exfalso
      by_cases g2 : k = e
      · subst g2
        exact hq (h3.symm.trans h11)
      · have n := tc_st_gone h11 (tc_mem_hd hh) (show e < k by omega)
        exact n (by rw [tc_mem_hd h4]; exact List.mem_cons_self)
/-- before j and at j no mark of j stands -/
theorem tc_M_new {K : Nat → Int32} {j : Nat} {q : Int32} : tc_M K j q (j + 1) (-1) := by
  refine Or.inl ⟨rfl, fun k hk _ hh => ?_⟩
  have := (tc_st_lt K k j (by rw [tc_mem_hd hh]; exact List.mem_cons_self)).1
  omega
