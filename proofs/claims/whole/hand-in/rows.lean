section
/-! rows pasted from kit/rows -/
theorem pk_us {f : Nat → Int32} {k : Nat} {x : Int32} : upd f k x k = x := if_pos rfl
theorem pk_un {f : Nat → Int32} {k j : Nat} {x : Int32} (h : j ≠ k) : upd f k x j = f j := if_neg h
theorem pk_m1 (n : Nat) : nI (n + 1) + (-1) = nI n := by
  rw [← nI_1, Int32.add_assoc, show (1 : Int32) + (-1) = 0 from rfl, Int32.add_zero]
theorem pk_mul (a b : Nat) : nI a * nI b = nI (a * b) := (Int32.ofNat_mul a b).symm
theorem pk_le {x y : Int32} {A B : Prop} (a b : Nat) (f : a ≤ b → A) (g : b < a → B) (hx : x = nI a := by rfl) (hy : y = nI b := by rfl) (ha : a < 2 ^ 31 := by omega) (hb : b < 2 ^ 31 := by omega) : (x ≤ y → A) ∧ (¬ x ≤ y → B) := by
  subst hx hy
  rw [nI_leI ha hb]
  exact ⟨f, fun z => g (by omega)⟩
theorem pk_lt {x y : Int32} {A B : Prop} (a b : Nat) (f : a < b → A) (g : b ≤ a → B) (hx : x = nI a := by rfl) (hy : y = nI b := by rfl) (ha : a < 2 ^ 31 := by omega) (hb : b < 2 ^ 31 := by omega) : (x < y → A) ∧ (¬ x < y → B) := by
  subst hx hy
  rw [nI_ltI ha hb]
  exact ⟨f, fun z => g (by omega)⟩
theorem pk_eq {x y : Int32} {A B : Prop} (a b : Nat) (f : a = b → A) (g : a ≠ b → B) (hx : x = nI a := by rfl) (hy : y = nI b := by rfl) (ha : a < 2 ^ 31 := by omega) (hb : b < 2 ^ 31 := by omega) : (x = y → A) ∧ (¬ x = y → B) := by
  subst hx hy
  rw [nI_eq ha hb]
  exact ⟨f, g⟩
/-! numbers: the wrap into the range of nine trits -/
/-- a value of nine trits -/
def tc_rg (x : Int32) : Prop := -9841 ≤ x.toInt ∧ x.toInt ≤ 9841
theorem tc_tm (a M : Int) (hM : 0 < M) : a.tmod M = if 0 ≤ a then a % M else -((-a) % M) := by
  by_cases h : 0 ≤ a
  · rw [if_pos h, Int.tmod_eq_emod_of_nonneg h]
  · rw [if_neg h, ← Int.tmod_eq_emod_of_nonneg (a := -a) (by omega), Int.neg_tmod, Int.neg_neg]
theorem tc_i {x y : Int32} (h : x.toInt = y.toInt) : x = y := Int32.toInt_inj.mp h
theorem tc_le {x y : Int32} : x ≤ y ↔ x.toInt ≤ y.toInt := Int32.le_iff_toInt_le
theorem tc_lt {x y : Int32} : x < y ↔ x.toInt < y.toInt := Int32.lt_iff_toInt_lt
/-- one wrapped value: what X's wrap of an int and Y's wrap of a long of the same number answer -/
theorem tc_wrap (x : Int32) (z : Int64) (hz : z.toInt = x.toInt) : ∃ w : Int32, tc_rg w ∧ (∀ post : Int32 → Prop, post w → wpX_wrap post x) ∧ (∀ (post : Int32 → Prop) (v : SY), post w → wpY_wrap post v z) := by
  have b1 := x.toInt_lt
  have b2 := x.le_toInt
  have hm : (x - x / 19683 * 19683).toInt = if 0 ≤ x.toInt then x.toInt % 19683 else -((-x.toInt) % 19683) := by
    rw [rem_toInt, show (19683 : Int32).toInt = 19683 from by decide, tc_tm _ _ (by decide)]
  have h9 : (z + 9841).toInt = x.toInt + 9841 := by
    rw [Int64.toInt_add, hz, show (9841 : Int64).toInt = 9841 from by decide]
    exact Int.bmod_eq_of_le (by omega) (by omega)
  have hn : ((z + 9841) - (z + 9841) / 19683 * 19683).toInt = if 0 ≤ x.toInt + 9841 then (x.toInt + 9841) % 19683 else -((-(x.toInt + 9841)) % 19683) := by
    rw [Jvm.Kit.i64_rem, show (19683 : Int64).toInt = 19683 from by decide, tc_tm _ _ (by decide), h9]
  generalize hM : x - x / 19683 * 19683 = m at hm
  generalize hN : (z + 9841) - (z + 9841) / 19683 * 19683 = n at hn
  generalize x.toInt = I at *
  have e1 : (9841 : Int32).toInt = 9841 := by decide
  have e2 : (-9841 : Int32).toInt = -9841 := by decide
  have e3 : (19683 : Int32).toInt = 19683 := by decide
  have e4 : (19683 : Int64).toInt = 19683 := by decide
  -- the wrapped value itself
  have hw : ∃ w : Int32, tc_rg w ∧ ((m ≤ 9841 → ((-9841 ≤ m → w = m) ∧ (¬ -9841 ≤ m → w = m + 19683))) ∧ (¬ m ≤ 9841 → w = m - 19683)) ∧ ((0 ≤ n → w = n.toInt32 - 9841) ∧ (¬ 0 ≤ n → w = (n + 19683).toInt32 - 9841)) := by
    have hy : ∃ w : Int32, w.toInt = (I + 9841) % 19683 - 9841 ∧ ((0 ≤ n → w = n.toInt32 - 9841) ∧ (¬ 0 ≤ n → w = (n + 19683).toInt32 - 9841)) := by
      by_cases h : 0 ≤ n
      · have h' : 0 ≤ n.toInt := Jvm.Kit.i64_nonneg.mp h
        refine ⟨n.toInt32 - 9841, ?_, fun _ => rfl, fun g => absurd h g⟩
        have k : n.toInt32.toInt = n.toInt := Jvm.Kit.i32_of_i64 (by omega) (by split at hn <;> omega)
        rw [Jvm.Kit.i32_sub (by rw [k, e1]; split at hn <;> omega) (by rw [k, e1]; split at hn <;> omega), k, e1]
        split at hn <;> omega
      · have h' : ¬ 0 ≤ n.toInt := mt Jvm.Kit.i64_nonneg.mpr h
        refine ⟨(n + 19683).toInt32 - 9841, ?_, fun g => absurd g h, fun _ => rfl⟩
        have k0 : (n + 19683).toInt = n.toInt + 19683 := by
          rw [Int64.toInt_add, e4]
          exact Int.bmod_eq_of_le (by split at hn <;> omega) (by split at hn <;> omega)
        have k : (n + 19683).toInt32.toInt = n.toInt + 19683 := by
          rw [← k0]
          exact Jvm.Kit.i32_of_i64 (by rw [k0]; split at hn <;> omega) (by rw [k0]; split at hn <;> omega)
        rw [Jvm.Kit.i32_sub (by rw [k, e1]; split at hn <;> omega) (by rw [k, e1]; split at hn <;> omega), k, e1]
        split at hn <;> omega
    obtain ⟨w, hw, hy⟩ := hy
    refine ⟨w, ⟨by omega, by omega⟩, ⟨fun h => ⟨fun g => tc_i ?_, fun g => tc_i ?_⟩, fun h => tc_i ?_⟩, hy⟩
    · rw [tc_le, e1] at h
      rw [tc_le, e2] at g
      split at hm <;> omega
    · rw [tc_le, e1] at h
      rw [tc_le, e2] at g
      rw [Jvm.Kit.i32_add (by rw [e3]; split at hm <;> omega) (by rw [e3]; split at hm <;> omega), e3]
      split at hm <;> omega
    · rw [tc_le, e1] at h
      rw [Jvm.Kit.i32_sub (by rw [e3]; split at hm <;> omega) (by rw [e3]; split at hm <;> omega), e3]
      split at hm <;> omega
  obtain ⟨w, h1, ⟨h2, h3⟩, h4, h5⟩ := hw
  refine ⟨w, h1, fun post hp => ⟨by decide, nm_r hM (br_c (fun a => br_c (fun b => ?_) (fun b => ?_)) (fun a => ?_))⟩, fun post v hp => ⟨by decide, nm_r hN (br_c (fun a => ?_) (fun a => ?_))⟩⟩
  · rw [← (h2 a).1 b]; exact hp
  · rw [← (h2 a).2 b]; exact hp
  · rw [← h3 a]; exact hp
  · rw [← h4 a]; exact hp
  · rw [← h5 a]; exact hp
/-! trits -/
def tc_t (x : Int32) : Int32 := (((x - x / 3 * 3) + 4) - ((x - x / 3 * 3) + 4) / 3 * 3) - 1
def tc_w (x : Int32) : Int32 := (x - tc_t x) / 3
def tc_it : Nat → Int32 → Int32
  | 0, x => x
  | k + 1, x => tc_it k (tc_w x)
theorem tc_it_s : ∀ (k : Nat) (x : Int32), tc_it (k + 1) x = tc_w (tc_it k x)
  | 0, _ => rfl
  | k + 1, x => tc_it_s k (tc_w x)
theorem tc_m5 (x : Int32) : x - x / 3 * 3 = -2 ∨ x - x / 3 * 3 = -1 ∨ x - x / 3 * 3 = 0 ∨ x - x / 3 * 3 = 1 ∨ x - x / 3 * 3 = 2 := by
  have h := rem_toInt x 3
  rw [show (3 : Int32).toInt = 3 from by decide, tc_tm _ _ (by decide)] at h
  generalize x - x / 3 * 3 = m at *
  have c : m.toInt = -2 ∨ m.toInt = -1 ∨ m.toInt = 0 ∨ m.toInt = 1 ∨ m.toInt = 2 := by split at h <;> omega
  rcases c with c | c | c | c | c
  · exact Or.inl (tc_i c)
  · exact Or.inr (Or.inl (tc_i c))
  · exact Or.inr (Or.inr (Or.inl (tc_i c)))
  · exact Or.inr (Or.inr (Or.inr (Or.inl (tc_i c))))
  · exact Or.inr (Or.inr (Or.inr (Or.inr (tc_i c))))
theorem tc_low (x : Int32) (post : Int32 → Prop) (h : post (tc_t x)) : wpX_lowestTrit post x := by
  refine ⟨by decide, nm_e ?_⟩
  unfold tc_t at h
  rcases tc_m5 x with c | c | c | c | c <;> rw [c] at h ⊢
  · exact br_f (by decide) (br_t rfl h)
  · exact br_f (by decide) (br_f (by decide) h)
  · exact br_f (by decide) (br_f (by decide) h)
  · exact br_f (by decide) (br_f (by decide) h)
  · exact br_t rfl h
theorem tc_wol (x : Int32) (post : Int32 → Prop) (h : post (tc_w x)) : wpX_withoutLowest post x := tc_low x _ ⟨by decide, h⟩
theorem tc_t3 (x : Int32) : (tc_t x = -1 ∧ x.toInt % 3 = 2) ∨ (tc_t x = 0 ∧ x.toInt % 3 = 0) ∨ (tc_t x = 1 ∧ x.toInt % 3 = 1) := by
  have h := rem_toInt x 3
  rw [show (3 : Int32).toInt = 3 from by decide, tc_tm _ _ (by decide)] at h
  unfold tc_t
  rcases tc_m5 x with c | c | c | c | c <;> rw [c] at h ⊢
  · exact Or.inr (Or.inr ⟨by decide, by rw [show (-2 : Int32).toInt = -2 from by decide] at h; split at h <;> omega⟩)
  · exact Or.inl ⟨by decide, by rw [show (-1 : Int32).toInt = -1 from by decide] at h; split at h <;> omega⟩
  · exact Or.inr (Or.inl ⟨by decide, by rw [show (0 : Int32).toInt = 0 from by decide] at h; split at h <;> omega⟩)
  · exact Or.inr (Or.inr ⟨by decide, by rw [show (1 : Int32).toInt = 1 from by decide] at h; split at h <;> omega⟩)
  · exact Or.inl ⟨by decide, by rw [show (2 : Int32).toInt = 2 from by decide] at h; split at h <;> omega⟩
theorem tc_w_rg {x : Int32} (h : tc_rg x) : tc_rg (tc_w x) := by
  obtain ⟨h1, h2⟩ := h
  have ht : (tc_t x).toInt = -1 ∨ (tc_t x).toInt = 0 ∨ (tc_t x).toInt = 1 := by
    rcases tc_t3 x with c | c | c
    · exact Or.inl (by rw [c.1]; decide)
    · exact Or.inr (Or.inl (by rw [c.1]; decide))
    · exact Or.inr (Or.inr (by rw [c.1]; decide))
  have hs : (x - tc_t x).toInt = x.toInt - (tc_t x).toInt := Jvm.Kit.i32_sub (by omega) (by omega)
  have e3 : (3 : Int32).toInt = 3 := by decide
  have hd : (tc_w x).toInt = ((x - tc_t x).toInt.tdiv 3).bmod (2 ^ 32) := by
    unfold tc_w
    rw [Int32.toInt_div, e3]
  have q1 := Int.mul_tdiv_add_tmod (x - tc_t x).toInt 3
  have q2 := tmod_bounds (a := (x - tc_t x).toInt) (M := 3) (by decide)
  rw [Int.bmod_eq_of_le (by omega) (by omega)] at hd
  exact ⟨by omega, by omega⟩
end
section
/-! the things that stand open before a place, innermost first -/
def tc_st (K : Nat → Int32) : Nat → List Nat
  | 0 => []
  | i + 1 => if K i = 7 ∨ K i = 10 then i :: tc_st K i else if K i = 11 then (tc_st K i).tail else tc_st K i
theorem tc_st_o {K : Nat → Int32} {i : Nat} (h : K i = 7 ∨ K i = 10) : tc_st K (i + 1) = i :: tc_st K i := if_pos h
theorem tc_st_e {K : Nat → Int32} {i : Nat} (h : K i = 11) : tc_st K (i + 1) = (tc_st K i).tail := by
  have n : ¬ (K i = 7 ∨ K i = 10) := by rw [h]; decide
  exact (if_neg n).trans (if_pos h)
theorem tc_st_p {K : Nat → Int32} {i : Nat} (h7 : ¬ K i = 7) (h10 : ¬ K i = 10) (h11 : ¬ K i = 11) : tc_st K (i + 1) = tc_st K i :=
  (if_neg (fun h => h.elim h7 h10)).trans (if_neg h11)
/-- three ways of a step -/
theorem tc_st_c (K : Nat → Int32) (i : Nat) : ((K i = 7 ∨ K i = 10) ∧ tc_st K (i + 1) = i :: tc_st K i) ∨ (K i = 11 ∧ tc_st K (i + 1) = (tc_st K i).tail) ∨ (¬ (K i = 7 ∨ K i = 10) ∧ ¬ K i = 11 ∧ tc_st K (i + 1) = tc_st K i) := by
  by_cases h : K i = 7 ∨ K i = 10
  · exact Or.inl ⟨h, tc_st_o h⟩
  · by_cases g : K i = 11
    · exact Or.inr (Or.inl ⟨g, tc_st_e g⟩)
    · exact Or.inr (Or.inr ⟨h, g, tc_st_p (fun z => h (Or.inl z)) (fun z => h (Or.inr z)) g⟩)
theorem tc_st_lt (K : Nat → Int32) : ∀ (i j : Nat), j ∈ tc_st K i → j < i ∧ (K j = 7 ∨ K j = 10)
  | 0, j, h => nomatch h
  | i + 1, j, h => by
    rcases tc_st_c K i with ⟨a, e⟩ | ⟨a, e⟩ | ⟨a, b, e⟩ <;> rw [e] at h
    · rcases List.mem_cons.mp h with rfl | h
      · exact ⟨by omega, a⟩
      · have := tc_st_lt K i j h
        exact ⟨by omega, this.2⟩
    · have := tc_st_lt K i j (List.mem_of_mem_tail h)
      exact ⟨by omega, this.2⟩
    · have := tc_st_lt K i j h
      exact ⟨by omega, this.2⟩
/-- behind an open thing stands what stood open before it -/
theorem tc_st_suf (K : Nat → Int32) : ∀ (i : Nat) (l1 : List Nat) (j : Nat) (l : List Nat), tc_st K i = l1 ++ j :: l → l = tc_st K j
  | 0, l1, j, l, h => by
    have : ([] : List Nat) = l1 ++ j :: l := h
    cases l1 <;> cases this
  | i + 1, l1, j, l, h => by
    rcases tc_st_c K i with ⟨a, e⟩ | ⟨a, e⟩ | ⟨a, b, e⟩ <;> rw [e] at h
    · cases l1 with
      | nil =>
        have h' : i :: tc_st K i = j :: l := h
        injection h' with h1 h2
        rw [← h1, h2]
      | cons x l1 =>
        have h' : i :: tc_st K i = x :: (l1 ++ j :: l) := h
        injection h' with h1 h2
        exact tc_st_suf K i l1 j l h2
    · cases hs : tc_st K i with
      | nil =>
        rw [hs] at h
        have h' : ([] : List Nat) = l1 ++ j :: l := h
        cases l1 <;> cases h'
      | cons x t =>
        rw [hs] at h
        have h' : t = l1 ++ j :: l := h
        refine tc_st_suf K i (x :: l1) j l ?_
        rw [hs, h']
        rfl
    · exact tc_st_suf K i l1 j l h
theorem tc_st_hd {K : Nat → Int32} {i j : Nat} {l : List Nat} (h : tc_st K i = j :: l) : l = tc_st K j := tc_st_suf K i [] j l h
/-- what has gone doesn't come back -/
theorem tc_st_keep {K : Nat → Int32} {j k : Nat} (hj : j < k) (h : ¬ j ∈ tc_st K k) : ∀ d, ¬ j ∈ tc_st K (k + d)
  | 0 => h
  | d + 1 => by
    intro m
    have ih := tc_st_keep hj h d
    rcases tc_st_c K (k + d) with ⟨a, e⟩ | ⟨a, e⟩ | ⟨a, b, e⟩
    · have m' : j ∈ (k + d) :: tc_st K (k + d) := by rw [← e]; exact m
      rcases List.mem_cons.mp m' with h' | h'
      · omega
      · exact ih h'
    · have m' : j ∈ (tc_st K (k + d)).tail := by rw [← e]; exact m
      exact ih (List.mem_of_mem_tail m')
    · have m' : j ∈ tc_st K (k + d) := by rw [← e]; exact m
      exact ih m'
theorem tc_st_gone {K : Nat → Int32} {j k k' : Nat} {l : List Nat} (h11 : K k = 11) (h : tc_st K k = j :: l) (hk : k < k') : ¬ j ∈ tc_st K k' := by
  have hj : j < k := (tc_st_lt K k j (by rw [h]; exact List.mem_cons_self)).1
  have e : tc_st K (k + 1) = tc_st K j := by rw [tc_st_e h11, h]; exact tc_st_hd h
  have n : ¬ j ∈ tc_st K (k + 1) := by
    rw [e]
    intro m
    have := (tc_st_lt K j j m).1
    omega
  have := tc_st_keep (show j < k + 1 by omega) n (k' - (k + 1))
  rw [show k + 1 + (k' - (k + 1)) = k' by omega] at this
  exact this
/-- the innermost open thing, as a number; -1: none -/
def tc_v : Option Nat → Int32
  | none => -1
  | some j => nI j
/-- the first mark q of the thing j below t -/
def tc_M (K : Nat → Int32) (j : Nat) (q : Int32) (t : Nat) (r : Int32) : Prop :=
  (r = -1 ∧ ∀ k, k < t → K k = q → (tc_st K k).head? ≠ some j) ∨
  (∃ k, k < t ∧ r = nI k ∧ K k = q ∧ (tc_st K k).head? = some j ∧ ∀ k', k' < k → K k' = q → (tc_st K k').head? ≠ some j)
theorem tc_mem_hd {l : List Nat} {j : Nat} (h : l.head? = some j) : l = j :: l.tail := by
  cases l with
  | nil => cases h
  | cons x t =>
    have : x = j := Option.some.inj h
    rw [this]
    rfl
/-- no mark stands at i: the table's entry lasts -/
theorem tc_M_next {K : Nat → Int32} {j : Nat} {q : Int32} {i : Nat} {r : Int32} (h : tc_M K j q i r) (hn : K i = q → (tc_st K i).head? ≠ some j) : tc_M K j q (i + 1) r := by
  rcases h with ⟨h1, h2⟩ | ⟨k, h1, h2⟩
  · refine Or.inl ⟨h1, fun k hk hq => ?_⟩
    by_cases g : k = i
    · subst g; exact hn hq
    · exact h2 k (by omega) hq
  · exact Or.inr ⟨k, by omega, h2⟩
/-- the first mark stands at i -/
theorem tc_M_here {K : Nat → Int32} {j : Nat} {q : Int32} {i : Nat} (h : tc_M K j q i (-1)) (hi : i < 40) (hq : K i = q) (hh : (tc_st K i).head? = some j) : tc_M K j q (i + 1) (nI i) := by
  rcases h with ⟨h1, h2⟩ | ⟨k, h1, h2, h3⟩
  · exact Or.inr ⟨i, by omega, rfl, hq, hh, h2⟩
  · exfalso
    have := nI_pos (n := k) (by omega)
    rw [← h2] at this
    exact this (by decide)
/-- behind the END of j no mark of j stands -/
theorem tc_M_cut {K : Nat → Int32} {j : Nat} {q : Int32} {t e : Nat} {r : Int32} (h : tc_M K j q t r) (he : e < t) (h11 : K e = 11) (hh : (tc_st K e).head? = some j) (hq : q ≠ 11) : tc_M K j q e r := by
  rcases h with ⟨h1, h2⟩ | ⟨k, h1, h2, h3, h4, h5⟩
  · exact Or.inl ⟨h1, fun k hk hq => h2 k (by omega) hq⟩
  · refine Or.inr ⟨k, ?_, h2, h3, h4, h5⟩
    by_cases g : k < e
    · exact g
    · exfalso
      by_cases g2 : k = e
      · subst g2
        exact hq (h3.symm.trans h11)
      · have n := tc_st_gone h11 (tc_mem_hd hh) (show e < k by omega)
        exact n (by rw [tc_mem_hd h4]; exact List.mem_cons_self)
/-- before j and at j no mark of j stands -/
theorem tc_M_new {K : Nat → Int32} {j : Nat} {q : Int32} : tc_M K j q (j + 1) (-1) := by
  refine Or.inl ⟨rfl, fun k hk _ hh => ?_⟩
  have := (tc_st_lt K k j (by rw [tc_mem_hd hh]; exact List.mem_cons_self)).1
  omega
end
section
/-! Y's searches against the stack -/
section
variable {N : Nat} {p : Int32} {K A B C V O L : Nat → Int32}
theorem tc_opensY {i : Nat} (hi : i < 40) (post : Int32 → Prop) (h1 : (K i = 7 ∨ K i = 10) → post 1) (h0 : ¬ (K i = 7 ∨ K i = 10) → post 0) : wpY_opens post (nI N, p, K, A, B, C, V, O, L) (nI i) := by
  have hv : vp_in (nI i) 40 := vp_in_nI hi (by omega)
  have hc : (nI i).toNatClampNeg = i := nI_clamp (by omega)
  unfold wpY_opens
  dsimp only
  rw [hc]
  exact ⟨hv, br_c (fun a => h1 (Or.inl a)) (fun a => ⟨hv, br_c (fun b => h1 (Or.inr b)) (fun b => h0 (fun z => z.elim a b))⟩)⟩
theorem tc_m1 (k : Nat) : nI k + (-1) = nI k - 1 := (Int32.sub_eq_add_neg (nI k) 1).symm
theorem tc_opL : ∀ (k m n : Nat) (post : Int32 → Prop), k ≤ 40 → m + k ≤ 100 → k < n → post (tc_v (tc_st K k)[m]?) → wY_openerOf_6 post (nI N) p K A B C V O L n (nI (m + 1)) (nI k - 1) := by
  intro k
  induction k with
  | zero =>
    intro m n post hk hm hn hp
    obtain ⟨n, rfl⟩ : ∃ z, n = z + 1 := ⟨n - 1, by omega⟩
    have e : tc_v (tc_st K 0)[m]? = -1 := by
      show tc_v (([] : List Nat)[m]?) = -1
      rw [List.getElem?_nil]
      rfl
    rw [e] at hp
    exact br_t (by decide) hp
  | succ k ih =>
    intro m n post hk hm hn hp
    obtain ⟨n, rfl⟩ : ∃ z, n = z + 1 := ⟨n - 1, by omega⟩
    rw [nI_pred]
    have hv : vp_in (nI k) 40 := vp_in_nI (by omega) (by omega)
    have hc : (nI k).toNatClampNeg = k := nI_clamp (by omega)
    rcases tc_st_c K k with ⟨a, e⟩ | ⟨a, e⟩ | ⟨a, b, e⟩
    · refine br_f (nI_pos (by omega)) ⟨hv, br_f (by rw [hc]; rcases a with a | a <;> rw [a] <;> decide) ?_⟩
      unfold wY_openerOf_24
      refine tc_opensY (by omega) _ (fun _ => br_f (by decide) (nm_r (pk_m1 m) ?_)) (fun z => absurd a z)
      unfold wY_openerOf_35
      rw [e] at hp
      cases m with
      | zero => exact br_t nI_0 hp
      | succ m => exact br_f (nI_ne0 (by omega) (by omega)) (nm_r (tc_m1 k) (ih m n post (by omega) (by omega) (by omega) hp))
    · refine br_f (nI_pos (by omega)) ⟨hv, br_t (by rw [hc]; exact a) (nm_r (nI_1 (m + 1)) ?_)⟩
      unfold wY_openerOf_24
      refine tc_opensY (by omega) _ (fun z => absurd z (by rw [a]; decide)) (fun _ => br_t rfl ?_)
      unfold wY_openerOf_35
      refine br_f (nI_ne0 (by omega) (by omega)) (nm_r (tc_m1 k) (ih (m + 1) n post (by omega) (by omega) (by omega) ?_))
      rw [e, List.getElem?_tail] at hp
      exact hp
    · refine br_f (nI_pos (by omega)) ⟨hv, br_f (by rw [hc]; exact b) ?_⟩
      unfold wY_openerOf_24
      refine tc_opensY (by omega) _ (fun z => absurd z a) (fun _ => br_t rfl ?_)
      unfold wY_openerOf_35
      refine br_f (nI_ne0 (by omega) (by omega)) (nm_r (tc_m1 k) (ih m n post (by omega) (by omega) (by omega) ?_))
      rw [e] at hp
      exact hp
theorem tc_openerY {i : Nat} (hi : i ≤ 40) (post : Int32 → Prop) (hp : post (tc_v (tc_st K i).head?)) : wpY_openerOf post (nI N, p, K, A, B, C, V, O, L) (nI i) := by
  rw [List.head?_eq_getElem?] at hp
  exact nm_e ⟨i + 1, tc_opL i 0 (i + 1) post hi (by omega) (by omega) hp⟩
theorem tc_enL (hN : N ≤ 40) (hz : tc_st K N = []) (i : Nat) : ∀ (d k m : Nat), k + d = N → m ≤ k → (tc_st K k)[m]? = some i → ∃ e, k ≤ e ∧ e < N ∧ K e = 11 ∧ (tc_st K e).head? = some i ∧ ∀ (post : Int32 → Prop) (n : Nat), d < n → post (nI e) → wY_endOf_4 post (nI N) p K A B C V O L n (nI (m + 1)) (nI k) := by
  intro d
  induction d with
  | zero =>
    intro k m hk hm h
    rw [show k = N by omega, hz, List.getElem?_nil] at h
    cases h
  | succ d ih =>
    intro k m hk hm h
    have hv : vp_in (nI k) 40 := vp_in_nI (by omega) (by omega)
    have hc : (nI k).toNatClampNeg = k := nI_clamp (by omega)
    have hl : ¬ nI N ≤ nI k := nI_ge (by omega) (by omega)
    rcases tc_st_c K k with ⟨a, e⟩ | ⟨a, e⟩ | ⟨a, b, e⟩
    · obtain ⟨x, h1, h2, h3, h4, h5⟩ := ih (k + 1) (m + 1) (by omega) (by omega) (by rw [e]; exact h)
      refine ⟨x, by omega, h2, h3, h4, fun post n hn hp => ?_⟩
      obtain ⟨n, rfl⟩ : ∃ z, n = z + 1 := ⟨n - 1, by omega⟩
      refine br_f hl (tc_opensY (by omega) _ (fun _ => br_f (by decide) (nm_r (nI_1 (m + 1)) ?_)) (fun z => absurd a z))
      exact ⟨hv, br_f (by rw [hc]; rcases a with a | a <;> rw [a] <;> decide) (br_f (nI_ne0 (by omega) (by omega)) (nm_r (nI_1 k) (h5 post n (by omega) hp)))⟩
    · cases m with
      | zero =>
        refine ⟨k, by omega, by omega, a, by rw [List.head?_eq_getElem?]; exact h, fun post n hn hp => ?_⟩
        obtain ⟨n, rfl⟩ : ∃ z, n = z + 1 := ⟨n - 1, by omega⟩
        refine br_f hl (tc_opensY (by omega) _ (fun z => absurd z (by rw [a]; decide)) (fun _ => br_t rfl ?_))
        exact ⟨hv, br_t (by rw [hc]; exact a) (nm_r (pk_m1 0) (br_t nI_0 hp))⟩
      | succ m =>
        obtain ⟨x, h1, h2, h3, h4, h5⟩ := ih (k + 1) m (by omega) (by omega) (by rw [e, List.getElem?_tail]; exact h)
        refine ⟨x, by omega, h2, h3, h4, fun post n hn hp => ?_⟩
        obtain ⟨n, rfl⟩ : ∃ z, n = z + 1 := ⟨n - 1, by omega⟩
        refine br_f hl (tc_opensY (by omega) _ (fun z => absurd z (by rw [a]; decide)) (fun _ => br_t rfl ?_))
        exact ⟨hv, br_t (by rw [hc]; exact a) (nm_r (pk_m1 (m + 1)) (br_f (nI_ne0 (by omega) (by omega)) (nm_r (nI_1 k) (h5 post n (by omega) hp))))⟩
    · obtain ⟨x, h1, h2, h3, h4, h5⟩ := ih (k + 1) m (by omega) (by omega) (by rw [e]; exact h)
      refine ⟨x, by omega, h2, h3, h4, fun post n hn hp => ?_⟩
      obtain ⟨n, rfl⟩ : ∃ z, n = z + 1 := ⟨n - 1, by omega⟩
      refine br_f hl (tc_opensY (by omega) _ (fun z => absurd z a) (fun _ => br_t rfl ?_))
      exact ⟨hv, br_f (by rw [hc]; exact b) (br_f (nI_ne0 (by omega) (by omega)) (nm_r (nI_1 k) (h5 post n (by omega) hp)))⟩
/-- the END of an opener -/
theorem tc_endY (hN : N ≤ 40) (hz : tc_st K N = []) {i : Nat} (hi : i < N) (ho : K i = 7 ∨ K i = 10) : ∃ e, i < e ∧ e < N ∧ K e = 11 ∧ (tc_st K e).head? = some i ∧ ∀ (L : Nat → Int32) (post : Int32 → Prop), post (nI e) → wpY_endOf post (nI N, p, K, A, B, C, V, O, L) (nI i) := by
  obtain ⟨e, h1, h2, h3, h4, _⟩ := tc_enL (p := p) (A := A) (B := B) (C := C) (V := V) (O := O) (L := V) hN hz i (N - (i + 1)) (i + 1) 0 (by omega) (by omega) (by rw [tc_st_o ho]; rfl)
  refine ⟨e, by omega, h2, h3, h4, fun L post hp => ?_⟩
  obtain ⟨e', g1, g2, g3, g4, g5⟩ := tc_enL (p := p) (A := A) (B := B) (C := C) (V := V) (O := O) (L := L) hN hz i (N - (i + 1)) (i + 1) 0 (by omega) (by omega) (by rw [tc_st_o ho]; rfl)
  have ee : e' = e := by
    by_cases c : e' < e
    · exact absurd (by rw [tc_mem_hd h4]; exact List.mem_cons_self) (tc_st_gone g3 (tc_mem_hd g4) c)
    · by_cases c2 : e < e'
      · exact absurd (by rw [tc_mem_hd g4]; exact List.mem_cons_self) (tc_st_gone h3 (tc_mem_hd h4) c2)
      · omega
  rw [ee] at g5
  have hv : vp_in (nI i) 40 := vp_in_nI (by omega) (by omega)
  have hc : (nI i).toNatClampNeg = i := nI_clamp (by omega)
  have hl : ¬ nI N ≤ nI i := nI_ge (by omega) (by omega)
  refine ⟨N - (i + 1) + 1 + 1, br_f hl (tc_opensY (by omega) _ (fun _ => br_f (by decide) (nm_r (nI_1 0) ?_)) (fun z => absurd ho z))⟩
  exact ⟨hv, br_f (by rw [hc]; rcases ho with a | a <;> rw [a] <;> decide) (br_f (nI_ne0 (by omega) (by omega)) (nm_r (nI_1 i) (g5 post (N - (i + 1) + 1) (by omega) hp)))⟩
/-- the mark of a choice -/
theorem tc_mkL {j : Nat} {q r : Int32} {t : Nat} (ht : t ≤ 40) (hj : j < t) (h : tc_M K j q t r) (post : Int32 → Prop) (hp : post r) : ∀ (d k n : Nat), k + d = t → (∀ k', k' < k → K k' = q → (tc_st K k').head? ≠ some j) → d < n → wY_markOf_5 post (nI j) q (nI t) (nI N) p K A B C V O L n (nI k) := by
  intro d
  induction d with
  | zero =>
    intro k n hk hb hn
    obtain ⟨n, rfl⟩ : ∃ z, n = z + 1 := ⟨n - 1, by omega⟩
    have e : k = t := by omega
    subst e
    refine br_t (nI_le (by omega) (by omega)) ?_
    rcases h with ⟨h1, h2⟩ | ⟨x, h1, h2, h3, h4, h5⟩
    · rw [← h1]; exact hp
    · exact absurd h4 (hb x h1 h3)
  | succ d ih =>
    intro k n hk hb hn
    obtain ⟨n, rfl⟩ : ∃ z, n = z + 1 := ⟨n - 1, by omega⟩
    have hv : vp_in (nI k) 40 := vp_in_nI (by omega) (by omega)
    have hc : (nI k).toNatClampNeg = k := nI_clamp (by omega)
    refine br_f (nI_ge (by omega) (by omega)) ⟨hv, br_c (fun a => ?_) (fun a => ?_)⟩
    · rw [hc] at a
      refine tc_openerY (by omega) _ ?_
      by_cases c : (tc_st K k).head? = some j
      · rw [c]
        refine br_t rfl ?_
        rcases h with ⟨h1, h2⟩ | ⟨x, h1, h2, h3, h4, h5⟩
        · exact absurd c (h2 k (by omega) a)
        · have e : x = k := by
            by_cases g : x < k
            · exact absurd h4 (hb x g h3)
            · by_cases g2 : k < x
              · exact absurd c (h5 k g2 a)
              · omega
          rw [← e, ← h2]
          exact hp
      · refine br_f ?_ (nm_r (nI_1 k) (ih (k + 1) n (by omega) (fun k' hk' hq' => ?_) (by omega)))
        · cases hs : (tc_st K k).head? with
          | none =>
            intro z
            have z' : (-1 : Int32) = nI j := z
            exact absurd (show (-1 : Int32) < 0 by decide) (by rw [z']; exact nI_pos (by omega))
          | some x =>
            intro z
            have z' : nI x = nI j := z
            have hx : x < k := (tc_st_lt K k x (by rw [tc_mem_hd hs]; exact List.mem_cons_self)).1
            have := (nI_eq (by omega) (by omega)).mp z'
            rw [hs, this] at c
            exact c rfl
        · by_cases g : k' = k
          · rw [g]; exact c
          · exact hb k' (by omega) hq'
    · rw [hc] at a
      refine nm_r (nI_1 k) (ih (k + 1) n (by omega) (fun k' hk' hq' => ?_) (by omega))
      by_cases g : k' = k
      · rw [g] at hq'; exact absurd hq' a
      · exact hb k' (by omega) hq'
theorem tc_markY {j : Nat} {q r : Int32} {t : Nat} (ht : t ≤ 40) (hj : j < t) (h : tc_M K j q t r) (post : Int32 → Prop) (hp : post r) : wpY_markOf post (nI N, p, K, A, B, C, V, O, L) (nI j) q (nI t) := by
  refine nm_r (nI_1 j) ⟨t - (j + 1) + 1, tc_mkL ht hj h post hp (t - (j + 1)) (j + 1) _ (by omega) (fun k' hk' _ hh => ?_) (by omega)⟩
  have := (tc_st_lt K k' j (by rw [tc_mem_hd hh]; exact List.mem_cons_self)).1
  omega
theorem tc_M_nn {j : Nat} {q r : Int32} {t : Nat} (ht : t ≤ 40) (h : tc_M K j q t r) : r = -1 ∨ 0 ≤ r := by
  rcases h with ⟨h1, _⟩ | ⟨x, h1, h2, _⟩
  · exact Or.inl h1
  · exact Or.inr (by rw [h2]; exact nI_pos' (by omega))
theorem tc_fitsY {i j : Nat} {r1 r2 : Int32} (hi : i < 40) (hh : (tc_st K i).head? = some j) (m1 : tc_M K j (K i) i r1) (m2 : tc_M K j 9 i r2) (post : Int32 → Prop) (h1 : K j = 7 → r1 = -1 → r2 = -1 → post 1) (h0 : (¬ K j = 7 ∨ 0 ≤ r1 ∨ 0 ≤ r2) → post 0) : wpY_markFits post (nI N, p, K, A, B, C, V, O, L) (nI i) := by
  have hj : j < i := (tc_st_lt K i j (by rw [tc_mem_hd hh]; exact List.mem_cons_self)).1
  have hc : (nI i).toNatClampNeg = i := nI_clamp (by omega)
  have hcj : (nI j).toNatClampNeg = j := nI_clamp (by omega)
  unfold wpY_markFits
  dsimp only
  refine tc_openerY (by omega) _ ?_
  rw [hh]
  refine br_f (nI_pos (n := j) (by omega)) ⟨vp_in_nI (n := j) (by omega) (by omega), br_c (fun a => ?_) (fun a => ?_)⟩
  · have a' : K j = 7 := by rw [← hcj]; exact a
    refine ⟨vp_in_nI hi (by omega), ?_⟩
    rw [hc]
    refine tc_markY (by omega) hj m1 _ (br_c (fun b => h0 (Or.inr (Or.inl b))) (fun b => ?_))
    refine tc_markY (by omega) hj m2 _ (br_c (fun c => h0 (Or.inr (Or.inr c))) (fun c => ?_))
    exact h1 a' ((tc_M_nn (by omega) m1).resolve_right b) ((tc_M_nn (by omega) m2).resolve_right c)
  · exact h0 (Or.inl (fun z => a (by rw [show (tc_v (some j)).toNatClampNeg = j from hcj]; exact z)))
end
end
section
/-! X's tables, place by place, and Y's sound beside X's link -/
def tc_oa : List Nat → (Nat → Int32) → Prop
  | [], _ => True
  | j :: l, oa => oa l.length = nI j ∧ tc_oa l oa
theorem tc_oa_upd {oa : Nat → Int32} {d : Nat} {x : Int32} : ∀ (l : List Nat), l.length ≤ d → tc_oa l oa → tc_oa l (upd oa d x)
  | [], _, _ => True.intro
  | j :: l, hl, h => by
    have hl' : l.length + 1 ≤ d := hl
    exact ⟨by rw [pk_un (by omega)]; exact h.1, tc_oa_upd l (by omega) h.2⟩
def tc_T (K : Nat → Int32) (i : Nat) (op en ze po : Nat → Int32) : Prop :=
  (∀ k, k < i → (K k = 8 ∨ K k = 9 ∨ K k = 11) → ∃ j, (tc_st K k).head? = some j ∧ op k = nI j) ∧
  (∀ k, k < i → K k = 11 → ∀ j, (tc_st K k).head? = some j → en j = nI k) ∧
  (∀ j, j < i → (K j = 7 ∨ K j = 10) → tc_M K j 8 i (ze j) ∧ tc_M K j 9 i (po j)) ∧
  (∀ k, k < i → (K k = 8 ∨ K k = 9) → ∀ j, (tc_st K k).head? = some j → K j = 7)
section
variable {K op en ze po : Nat → Int32} {i : Nat}
theorem tc_T_o (h : tc_T K i op en ze po) (ho : K i = 7 ∨ K i = 10) : tc_T K (i + 1) op en (upd ze i (-1)) (upd po i (-1)) := by
  obtain ⟨h1, h2, h3, h4⟩ := h
  refine ⟨fun k hk hq => ?_, fun k hk hq => ?_, fun j hj hq => ?_, fun k hk hq => ?_⟩
  · by_cases g : k = i
    · subst g; exfalso; rcases ho with a | a <;> rw [a] at hq <;> revert hq <;> decide
    · exact h1 k (by omega) hq
  · by_cases g : k = i
    · subst g; exfalso; rcases ho with a | a <;> rw [a] at hq <;> revert hq <;> decide
    · exact h2 k (by omega) hq
  · by_cases g : j = i
    · subst g; rw [pk_us, pk_us]; exact ⟨tc_M_new, tc_M_new⟩
    · rw [pk_un g, pk_un g]
      have := h3 j (by omega) hq
      exact ⟨tc_M_next this.1 (fun z => by exfalso; rcases ho with a | a <;> rw [a] at z <;> revert z <;> decide), tc_M_next this.2 (fun z => by exfalso; rcases ho with a | a <;> rw [a] at z <;> revert z <;> decide)⟩
  · by_cases g : k = i
    · subst g; exfalso; rcases ho with a | a <;> rw [a] at hq <;> revert hq <;> decide
    · exact h4 k (by omega) hq
theorem tc_T_p (h : tc_T K i op en ze po) (h7 : ¬ K i = 7) (h8 : ¬ K i = 8) (h9 : ¬ K i = 9) (h10 : ¬ K i = 10) (h11 : ¬ K i = 11) : tc_T K (i + 1) op en ze po := by
  obtain ⟨g1, g2, g3, g4⟩ := h
  refine ⟨fun k hk hq => ?_, fun k hk hq => ?_, fun j hj hq => ?_, fun k hk hq => ?_⟩
  · by_cases g : k = i
    · subst g; exact (hq.elim h8 (fun z => z.elim h9 h11)).elim
    · exact g1 k (by omega) hq
  · by_cases g : k = i
    · subst g; exact absurd hq h11
    · exact g2 k (by omega) hq
  · by_cases g : j = i
    · subst g; exact (hq.elim h7 h10).elim
    · have := g3 j (by omega) hq
      exact ⟨tc_M_next this.1 (fun z => absurd z h8), tc_M_next this.2 (fun z => absurd z h9)⟩
  · by_cases g : k = i
    · subst g; exact (hq.elim h8 h9).elim
    · exact g4 k (by omega) hq
theorem tc_T_e (h : tc_T K i op en ze po) (h11 : K i = 11) {j : Nat} (hh : (tc_st K i).head? = some j) : tc_T K (i + 1) (upd op i (nI j)) (upd en j (nI i)) ze po := by
  obtain ⟨g1, g2, g3, g4⟩ := h
  refine ⟨fun k hk hq => ?_, fun k hk hq x hx => ?_, fun x hx hq => ?_, fun k hk hq => ?_⟩
  · by_cases g : k = i
    · subst g; exact ⟨j, hh, pk_us⟩
    · rw [pk_un g]; exact g1 k (by omega) hq
  · by_cases g : k = i
    · subst g
      have : x = j := Option.some.inj (hx.symm.trans hh)
      rw [this, pk_us]
    · by_cases c : x = j
      · exfalso
        subst c
        exact tc_st_gone hq (tc_mem_hd hx) (show k < i by omega) (by rw [tc_mem_hd hh]; exact List.mem_cons_self)
      · rw [pk_un c]; exact g2 k (by omega) hq x hx
  · by_cases g : x = i
    · subst g; exfalso; rw [h11] at hq; revert hq; decide
    · have := g3 x (by omega) hq
      exact ⟨tc_M_next this.1 (fun z => by exfalso; rw [h11] at z; revert z; decide), tc_M_next this.2 (fun z => by exfalso; rw [h11] at z; revert z; decide)⟩
  · by_cases g : k = i
    · subst g; exfalso; rw [h11] at hq; revert hq; decide
    · exact g4 k (by omega) hq
theorem tc_T_9 (h : tc_T K i op en ze po) (hi : i < 40) (h9 : K i = 9) {j : Nat} (hh : (tc_st K i).head? = some j) (h7 : K j = 7) (hp : po j = -1) : tc_T K (i + 1) (upd op i (nI j)) en ze (upd po j (nI i)) := by
  obtain ⟨g1, g2, g3, g4⟩ := h
  refine ⟨fun k hk hq => ?_, fun k hk hq => ?_, fun x hx hq => ?_, fun k hk hq x hx => ?_⟩
  · by_cases g : k = i
    · subst g; exact ⟨j, hh, pk_us⟩
    · rw [pk_un g]; exact g1 k (by omega) hq
  · by_cases g : k = i
    · subst g; exfalso; rw [h9] at hq; revert hq; decide
    · exact g2 k (by omega) hq
  · by_cases g : x = i
    · subst g; exfalso; rw [h9] at hq; revert hq; decide
    · have := g3 x (by omega) hq
      refine ⟨tc_M_next this.1 (fun z => by exfalso; rw [h9] at z; revert z; decide), ?_⟩
      by_cases c : x = j
      · subst c
        rw [pk_us]
        exact tc_M_here (by rw [← hp]; exact this.2) hi h9 hh
      · rw [pk_un c]
        exact tc_M_next this.2 (fun _ z => c (Option.some.inj (z.symm.trans hh)))
  · by_cases g : k = i
    · subst g
      rw [show x = j from Option.some.inj (hx.symm.trans hh)]
      exact h7
    · exact g4 k (by omega) hq x hx
theorem tc_T_8 (h : tc_T K i op en ze po) (hi : i < 40) (h8 : K i = 8) {j : Nat} (hh : (tc_st K i).head? = some j) (h7 : K j = 7) (hp : ze j = -1) : tc_T K (i + 1) (upd op i (nI j)) en (upd ze j (nI i)) po := by
  obtain ⟨g1, g2, g3, g4⟩ := h
  refine ⟨fun k hk hq => ?_, fun k hk hq => ?_, fun x hx hq => ?_, fun k hk hq x hx => ?_⟩
  · by_cases g : k = i
    · subst g; exact ⟨j, hh, pk_us⟩
    · rw [pk_un g]; exact g1 k (by omega) hq
  · by_cases g : k = i
    · subst g; exfalso; rw [h8] at hq; revert hq; decide
    · exact g2 k (by omega) hq
  · by_cases g : x = i
    · subst g; exfalso; rw [h8] at hq; revert hq; decide
    · have := g3 x (by omega) hq
      refine ⟨?_, tc_M_next this.2 (fun z => by exfalso; rw [h8] at z; revert z; decide)⟩
      by_cases c : x = j
      · subst c
        rw [pk_us]
        exact tc_M_here (by rw [← hp]; exact this.1) hi h8 hh
      · rw [pk_un c]
        exact tc_M_next this.1 (fun _ z => c (Option.some.inj (z.symm.trans hh)))
  · by_cases g : k = i
    · subst g
      rw [show x = j from Option.some.inj (hx.symm.trans hh)]
      exact h7
    · exact g4 k (by omega) hq x hx
end
end
section
section
variable {N n : Nat} {p x1 : Int32} {K A B C V O L oa op en ze po pl : Nat → Int32} {i : Nat}
theorem tc_sX31 (hN : N ≤ 40) (hi : i < N) (ho : K i = 7 ∨ K i = 10) {post : Int32 → SX → Prop} (h : wX_link_31 post (wX_link_4 post n) x1 (nI i) (nI N) p V K A B C O oa op en ze po pl) : wX_link_4 post (n + 1) x1 (nI i) (nI N) p V K A B C O oa op en ze po pl := by
  have hv : vp_in (nI i) 40 := vp_in_nI (by omega) (by omega)
  have hc : (nI i).toNatClampNeg = i := nI_clamp (by omega)
  have hl : ¬ nI N ≤ nI i := nI_ge (by omega) (by omega)
  rcases ho with a | a
  · exact br_f hl ⟨hv, nm_r (congrArg K hc) (br_t a h)⟩
  · exact br_f hl ⟨hv, nm_r (congrArg K hc) (br_f (by rw [a]; decide) (br_t a h))⟩
theorem tc_sX83 (hN : N ≤ 40) (hi : i < N) (ho : K i = 8 ∨ K i = 9 ∨ K i = 11) {post : Int32 → SX → Prop} (h : wX_link_83 post (wX_link_4 post n) x1 (nI i) (K i) (nI N) p V K A B C O oa op en ze po pl) : wX_link_4 post (n + 1) x1 (nI i) (nI N) p V K A B C O oa op en ze po pl := by
  have hv : vp_in (nI i) 40 := vp_in_nI (by omega) (by omega)
  have hc : (nI i).toNatClampNeg = i := nI_clamp (by omega)
  have hl : ¬ nI N ≤ nI i := nI_ge (by omega) (by omega)
  rcases ho with a | a | a
  · exact br_f hl ⟨hv, nm_r (congrArg K hc) (br_f (by rw [a]; decide) (br_f (by rw [a]; decide) (br_t a h)))⟩
  · exact br_f hl ⟨hv, nm_r (congrArg K hc) (br_f (by rw [a]; decide) (br_f (by rw [a]; decide) (br_f (by rw [a]; decide) (br_t a h))))⟩
  · exact br_f hl ⟨hv, nm_r (congrArg K hc) (br_f (by rw [a]; decide) (br_f (by rw [a]; decide) (br_f (by rw [a]; decide) (br_f (by rw [a]; decide) (br_t a h)))))⟩
theorem tc_sXp (hN : N ≤ 40) (hi : i < N) (h7 : ¬ K i = 7) (h8 : ¬ K i = 8) (h9 : ¬ K i = 9) (h10 : ¬ K i = 10) (h11 : ¬ K i = 11) {post : Int32 → SX → Prop} (h : wX_link_4 post n x1 (nI (i + 1)) (nI N) p V K A B C O oa op en ze po pl) : wX_link_4 post (n + 1) x1 (nI i) (nI N) p V K A B C O oa op en ze po pl := by
  have hv : vp_in (nI i) 40 := vp_in_nI (by omega) (by omega)
  have hc : (nI i).toNatClampNeg = i := nI_clamp (by omega)
  have hl : ¬ nI N ≤ nI i := nI_ge (by omega) (by omega)
  exact br_f hl ⟨hv, nm_r (congrArg K hc) (br_f h7 (br_f h10 (br_f h8 (br_f h9 (br_f h11 (nm_r (nI_1 i) h))))))⟩
theorem tc_sXo (hN : N ≤ 40) (hi : i < N) (ho : K i = 7 ∨ K i = 10) {s : Nat} (hs : s < 3) {post : Int32 → SX → Prop} (h : wX_link_4 post n (nI (s + 1)) (nI (i + 1)) (nI N) p V K A B C O (upd oa s (nI i)) op en (upd ze i (-1)) (upd po i (-1)) pl) : wX_link_4 post (n + 1) (nI s) (nI i) (nI N) p V K A B C O oa op en ze po pl := by
  have hv : vp_in (nI i) 40 := vp_in_nI (by omega) (by omega)
  have hc : (nI i).toNatClampNeg = i := nI_clamp (by omega)
  have hs' : (nI s).toNatClampNeg = s := nI_clamp (by omega)
  refine tc_sX31 hN hi ho (br_t (nI_lt (b := 3) hs (by decide)) ⟨vp_in_nI hs (by omega), nm_r (congrArg (fun z => upd oa z (nI i)) hs') (nm_r (nI_1 s) ⟨hv, nm_r (congrArg (fun z => upd ze z (-1)) hc) ⟨hv, nm_r (congrArg (fun z => upd po z (-1)) hc) (nm_r (nI_1 i) ?_)⟩⟩)⟩)
  exact h
theorem tc_sXof (hN : N ≤ 40) (hi : i < N) (ho : K i = 7 ∨ K i = 10) {s : Nat} (hs : 3 ≤ s) (hs2 : s < 100) {post : Int32 → SX → Prop} (h : post 0 (nI N, p, V, K, A, B, C, O, oa, op, en, ze, po, pl)) : wX_link_4 post (n + 1) (nI s) (nI i) (nI N) p V K A B C O oa op en ze po pl :=
  tc_sX31 hN hi ho (br_f (nI_nlt (b := 3) hs (by omega)) h)
theorem tc_sX0 (hN : N ≤ 40) (hi : i < N) (ho : K i = 8 ∨ K i = 9 ∨ K i = 11) {post : Int32 → SX → Prop} (h : post 0 (nI N, p, V, K, A, B, C, O, oa, op, en, ze, po, pl)) : wX_link_4 post (n + 1) (nI 0) (nI i) (nI N) p V K A B C O oa op en ze po pl :=
  tc_sX83 hN hi ho (br_f (by decide) h)
theorem tc_sXe (hN : N ≤ 40) (hi : i < N) (h11 : K i = 11) {s j : Nat} (hs : s < 3) (hj : j < 40) (ha : oa s = nI j) {post : Int32 → SX → Prop} (h : wX_link_4 post n (nI s) (nI (i + 1)) (nI N) p V K A B C O oa (upd op i (nI j)) (upd en j (nI i)) ze po pl) : wX_link_4 post (n + 1) (nI (s + 1)) (nI i) (nI N) p V K A B C O oa op en ze po pl := by
  have hv : vp_in (nI i) 40 := vp_in_nI (by omega) (by omega)
  have hc : (nI i).toNatClampNeg = i := nI_clamp (by omega)
  have hcj : (nI j).toNatClampNeg = j := nI_clamp (by omega)
  have e : (nI (s + 1) - 1).toNatClampNeg = s := by rw [nI_pred]; exact nI_clamp (by omega)
  have e2 : oa (nI (s + 1) - 1).toNatClampNeg = nI j := by rw [e]; exact ha
  refine tc_sX83 hN hi (Or.inr (Or.inr h11)) (br_t (nI_lt (a := 0) (by omega) (by omega)) ⟨by rw [nI_pred]; exact vp_in_nI hs (by omega), nm_r e2 ⟨hv, nm_r (congrArg (fun z => upd op z (nI j)) hc) (br_t h11 ⟨vp_in_nI hj (by omega), nm_r (congrArg (fun z => upd en z (nI i)) hcj) (nm_r (pk_m1 s) (nm_r (nI_1 i) ?_))⟩)⟩⟩)
  exact h
theorem tc_bsX {j : Nat} (hi : i < 40) (hj : j < 40) {post : Int32 → SX → Prop} (h9 : K j = 7 → po j = -1 → K i = 9 → post 1 (nI N, p, V, K, A, B, C, O, oa, op, en, ze, upd po j (nI i), pl)) (h8 : K j = 7 → po j = -1 → ¬ K i = 9 → ze j = -1 → post 1 (nI N, p, V, K, A, B, C, O, oa, op, en, upd ze j (nI i), po, pl)) (h0 : (¬ K j = 7 ∨ ¬ po j = -1 ∨ (¬ K i = 9 ∧ ¬ ze j = -1)) → post 0 (nI N, p, V, K, A, B, C, O, oa, op, en, ze, po, pl)) : wpX_beginSection post (nI N, p, V, K, A, B, C, O, oa, op, en, ze, po, pl) (nI i) (nI j) := by
  have hv : vp_in (nI i) 40 := vp_in_nI hi (by omega)
  have hvj : vp_in (nI j) 40 := vp_in_nI hj (by omega)
  have hc : (nI i).toNatClampNeg = i := nI_clamp (by omega)
  have hcj : (nI j).toNatClampNeg = j := nI_clamp (by omega)
  unfold wpX_beginSection
  dsimp only
  rw [hc, hcj]
  exact ⟨hvj, br_c (fun a => ⟨hvj, br_c (fun b => ⟨hv, br_c (fun c => ⟨hvj, nm_e (h9 a b c)⟩) (fun c => ⟨hvj, br_c (fun d => ⟨hvj, nm_e (h8 a b c d)⟩) (fun d => h0 (Or.inr (Or.inr ⟨c, d⟩)))⟩)⟩) (fun b => h0 (Or.inr (Or.inl b)))⟩) (fun a => h0 (Or.inl a))⟩
theorem tc_sXm (hN : N ≤ 40) (hi : i < N) (hm : K i = 8 ∨ K i = 9) {s j : Nat} (hs : s < 3) (hj : j < 40) (ha : oa s = nI j) {post : Int32 → SX → Prop} (h9 : K j = 7 → po j = -1 → K i = 9 → wX_link_4 post n (nI (s + 1)) (nI (i + 1)) (nI N) p V K A B C O oa (upd op i (nI j)) en ze (upd po j (nI i)) pl) (h8 : K j = 7 → po j = -1 → ¬ K i = 9 → ze j = -1 → wX_link_4 post n (nI (s + 1)) (nI (i + 1)) (nI N) p V K A B C O oa (upd op i (nI j)) en (upd ze j (nI i)) po pl) (h0 : (¬ K j = 7 ∨ ¬ po j = -1 ∨ (¬ K i = 9 ∧ ¬ ze j = -1)) → post 0 (nI N, p, V, K, A, B, C, O, oa, upd op i (nI j), en, ze, po, pl)) : wX_link_4 post (n + 1) (nI (s + 1)) (nI i) (nI N) p V K A B C O oa op en ze po pl := by
  have hv : vp_in (nI i) 40 := vp_in_nI (by omega) (by omega)
  have hc : (nI i).toNatClampNeg = i := nI_clamp (by omega)
  have e : (nI (s + 1) - 1).toNatClampNeg = s := by rw [nI_pred]; exact nI_clamp (by omega)
  have e2 : oa (nI (s + 1) - 1).toNatClampNeg = nI j := by rw [e]; exact ha
  refine tc_sX83 hN hi (hm.elim Or.inl (fun z => Or.inr (Or.inl z))) (br_t (nI_lt (a := 0) (by omega) (by omega)) ⟨by rw [nI_pred]; exact vp_in_nI hs (by omega), nm_r e2 ⟨hv, nm_r (congrArg (fun z => upd op z (nI j)) hc) (br_f (by rcases hm with a | a <;> rw [a] <;> decide) ?_)⟩⟩)
  refine tc_bsX (by omega) hj (fun a b c => ?_) (fun a b c d => ?_) (fun a => ?_)
  · exact br_f (by decide) (nm_r (nI_1 i) (h9 a b c))
  · exact br_f (by decide) (nm_r (nI_1 i) (h8 a b c d))
  · exact br_t rfl (h0 a)
/-! Y -/
theorem tc_sYo (hN : N ≤ 40) (hi : i < N) (ho : K i = 7 ∨ K i = 10) {s : Nat} (hs : s < 3) {post : Int32 → Prop} (h : wY_sound_4 post (nI N) p K A B C V O L n (nI (s + 1)) (nI (i + 1))) : wY_sound_4 post (nI N) p K A B C V O L (n + 1) (nI s) (nI i) := by
  have hv : vp_in (nI i) 40 := vp_in_nI (by omega) (by omega)
  have hc : (nI i).toNatClampNeg = i := nI_clamp (by omega)
  have hl : ¬ nI N ≤ nI i := nI_ge (by omega) (by omega)
  refine br_f hl (tc_opensY (by omega) _ (fun _ => br_f (by decide) (nm_r (nI_1 s) ?_)) (fun z => absurd ho z))
  exact ⟨hv, br_f (by rw [hc]; rcases ho with a | a <;> rw [a] <;> decide) (br_f (nI_pos (by omega)) (br_t (nI_le (b := 3) (by omega) (by omega)) ⟨hv, br_f (by rw [hc]; rcases ho with a | a <;> rw [a] <;> decide) ⟨hv, br_f (by rw [hc]; rcases ho with a | a <;> rw [a] <;> decide) (nm_r (nI_1 i) h)⟩⟩))⟩
theorem tc_sYof (hN : N ≤ 40) (hi : i < N) (ho : K i = 7 ∨ K i = 10) {s : Nat} (hs : 3 ≤ s) (hs2 : s < 100) {post : Int32 → Prop} (h : post 0) : wY_sound_4 post (nI N) p K A B C V O L (n + 1) (nI s) (nI i) := by
  have hv : vp_in (nI i) 40 := vp_in_nI (by omega) (by omega)
  have hc : (nI i).toNatClampNeg = i := nI_clamp (by omega)
  have hl : ¬ nI N ≤ nI i := nI_ge (by omega) (by omega)
  refine br_f hl (tc_opensY (by omega) _ (fun _ => br_f (by decide) (nm_r (nI_1 s) ?_)) (fun z => absurd ho z))
  exact ⟨hv, br_f (by rw [hc]; rcases ho with a | a <;> rw [a] <;> decide) (br_f (nI_pos (by omega)) (br_f (nI_ge (a := 3) (by omega) (by omega)) h))⟩
theorem tc_sYe (hN : N ≤ 40) (hi : i < N) (h11 : K i = 11) {s : Nat} (hs : s < 3) {post : Int32 → Prop} (h : wY_sound_4 post (nI N) p K A B C V O L n (nI s) (nI (i + 1))) : wY_sound_4 post (nI N) p K A B C V O L (n + 1) (nI (s + 1)) (nI i) := by
  have hv : vp_in (nI i) 40 := vp_in_nI (by omega) (by omega)
  have hc : (nI i).toNatClampNeg = i := nI_clamp (by omega)
  have hl : ¬ nI N ≤ nI i := nI_ge (by omega) (by omega)
  refine br_f hl (tc_opensY (by omega) _ (fun z => absurd z (by rw [h11]; decide)) (fun _ => br_t rfl ?_))
  exact ⟨hv, br_t (by rw [hc]; exact h11) (nm_r (pk_m1 s) (br_f (nI_pos (by omega)) (br_t (nI_le (b := 3) (by omega) (by omega)) ⟨hv, br_f (by rw [hc, h11]; decide) ⟨hv, br_f (by rw [hc, h11]; decide) (nm_r (nI_1 i) h)⟩⟩)))⟩
theorem tc_sYe0 (hN : N ≤ 40) (hi : i < N) (h11 : K i = 11) {post : Int32 → Prop} (h : post 0) : wY_sound_4 post (nI N) p K A B C V O L (n + 1) (nI 0) (nI i) := by
  have hv : vp_in (nI i) 40 := vp_in_nI (by omega) (by omega)
  have hc : (nI i).toNatClampNeg = i := nI_clamp (by omega)
  have hl : ¬ nI N ≤ nI i := nI_ge (by omega) (by omega)
  refine br_f hl (tc_opensY (by omega) _ (fun z => absurd z (by rw [h11]; decide)) (fun _ => br_t rfl ?_))
  exact ⟨hv, br_t (by rw [hc]; exact h11) (nm_e (br_t (by decide) h))⟩
theorem tc_sYp (hN : N ≤ 40) (hi : i < N) (h7 : ¬ K i = 7) (h8 : ¬ K i = 8) (h9 : ¬ K i = 9) (h10 : ¬ K i = 10) (h11 : ¬ K i = 11) {s : Nat} (hs : s ≤ 3) {post : Int32 → Prop} (h : wY_sound_4 post (nI N) p K A B C V O L n (nI s) (nI (i + 1))) : wY_sound_4 post (nI N) p K A B C V O L (n + 1) (nI s) (nI i) := by
  have hv : vp_in (nI i) 40 := vp_in_nI (by omega) (by omega)
  have hc : (nI i).toNatClampNeg = i := nI_clamp (by omega)
  have hl : ¬ nI N ≤ nI i := nI_ge (by omega) (by omega)
  refine br_f hl (tc_opensY (by omega) _ (fun z => (z.elim h7 h10).elim) (fun _ => br_t rfl ?_))
  exact ⟨hv, br_f (by rw [hc]; exact h11) (br_f (nI_pos (by omega)) (br_t (nI_le (b := 3) (by omega) (by omega)) ⟨hv, br_f (by rw [hc]; exact h8) ⟨hv, br_f (by rw [hc]; exact h9) (nm_r (nI_1 i) h)⟩⟩))⟩
theorem tc_sYm (hN : N ≤ 40) (hi : i < N) (hm : K i = 8 ∨ K i = 9) {s : Nat} (hs : s ≤ 3) {post : Int32 → Prop} (h : wpY_markFits (fun r => ((r = 0 → post 0) ∧ (¬ r = 0 → ∀ y : Int32, y = nI i + 1 → wY_sound_4 post (nI N) p K A B C V O L n (nI s) y))) (nI N, p, K, A, B, C, V, O, L) (nI i)) : wY_sound_4 post (nI N) p K A B C V O L (n + 1) (nI s) (nI i) := by
  have hv : vp_in (nI i) 40 := vp_in_nI (by omega) (by omega)
  have hc : (nI i).toNatClampNeg = i := nI_clamp (by omega)
  have hl : ¬ nI N ≤ nI i := nI_ge (by omega) (by omega)
  rcases hm with a | a
  · refine br_f hl (tc_opensY (by omega) _ (fun z => absurd z (by rw [a]; decide)) (fun _ => br_t rfl ?_))
    exact ⟨hv, br_f (by rw [hc, a]; decide) (br_f (nI_pos (by omega)) (br_t (nI_le (b := 3) (by omega) (by omega)) ⟨hv, br_t (by rw [hc]; exact a) h⟩))⟩
  · refine br_f hl (tc_opensY (by omega) _ (fun z => absurd z (by rw [a]; decide)) (fun _ => br_t rfl ?_))
    exact ⟨hv, br_f (by rw [hc, a]; decide) (br_f (nI_pos (by omega)) (br_t (nI_le (b := 3) (by omega) (by omega)) ⟨hv, br_f (by rw [hc, a]; decide) ⟨hv, br_t (by rw [hc]; exact a) h⟩⟩))⟩
end
end
section
section
variable {N : Nat} {p : Int32} {K A B C V O L pl : Nat → Int32}
theorem tc_link (hN : N ≤ 40) : ∀ (d i : Nat) (oa op en ze po : Nat → Int32), i + d = N → (tc_st K i).length ≤ 3 → tc_oa (tc_st K i) oa → tc_T K i op en ze po → ∃ (r : Int32) (oa' op' en' ze' po' : Nat → Int32), (r = 0 ∨ (r = 1 ∧ tc_T K N op' en' ze' po' ∧ tc_st K N = [])) ∧ (∀ (post : Int32 → SX → Prop) (n : Nat), d < n → post r (nI N, p, V, K, A, B, C, O, oa', op', en', ze', po', pl) → wX_link_4 post n (nI (tc_st K i).length) (nI i) (nI N) p V K A B C O oa op en ze po pl) ∧ (∀ (post : Int32 → Prop) (n : Nat), d < n → post r → wY_sound_4 post (nI N) p K A B C V O L n (nI (tc_st K i).length) (nI i)) := by
  intro d
  induction d with
  | zero =>
    intro i oa op en ze po hi hl ho ht
    have e : i = N := by omega
    subst e
    have hle : nI i ≤ nI i := nI_le (by omega) (by omega)
    cases hs : tc_st K i with
    | nil =>
      refine ⟨1, oa, op, en, ze, po, Or.inr ⟨rfl, ht, by trivial⟩, fun post n hn hp => ?_, fun post n hn hp => ?_⟩
      · obtain ⟨n, rfl⟩ : ∃ z, n = z + 1 := ⟨n - 1, by omega⟩
        exact br_t hle (br_t rfl hp)
      · obtain ⟨n, rfl⟩ : ∃ z, n = z + 1 := ⟨n - 1, by omega⟩
        exact br_t hle (br_t rfl hp)
    | cons x t =>
      have g : t.length + 1 ≤ 3 := by rw [hs] at hl; exact hl
      have hne : ¬ nI (t.length + 1) = 0 := nI_ne0 (by omega) (by omega)
      refine ⟨0, oa, op, en, ze, po, Or.inl rfl, fun post n hn hp => ?_, fun post n hn hp => ?_⟩
      · obtain ⟨n, rfl⟩ : ∃ z, n = z + 1 := ⟨n - 1, by omega⟩
        exact br_t hle (br_f hne hp)
      · obtain ⟨n, rfl⟩ : ∃ z, n = z + 1 := ⟨n - 1, by omega⟩
        exact br_t hle (br_f hne hp)
  | succ d ih =>
    intro i oa op en ze po hd hl ho ht
    have hi : i < N := by omega
    by_cases c1 : K i = 7 ∨ K i = 10
    · by_cases c2 : (tc_st K i).length < 3
      · have e := tc_st_o c1
        have el : (tc_st K (i + 1)).length = (tc_st K i).length + 1 := by rw [e]; rfl
        obtain ⟨r, oa', op', en', ze', po', h1, h2, h3⟩ := ih (i + 1) (upd oa (tc_st K i).length (nI i)) op en (upd ze i (-1)) (upd po i (-1)) (by omega) (by omega) (by rw [e]; exact ⟨pk_us, tc_oa_upd _ (Nat.le_refl _) ho⟩) (tc_T_o ht c1)
        rw [el] at h2 h3
        refine ⟨r, oa', op', en', ze', po', h1, fun post n hn hp => ?_, fun post n hn hp => ?_⟩
        · obtain ⟨n, rfl⟩ : ∃ z, n = z + 1 := ⟨n - 1, by omega⟩
          exact tc_sXo hN hi c1 c2 (h2 post n (by omega) hp)
        · obtain ⟨n, rfl⟩ : ∃ z, n = z + 1 := ⟨n - 1, by omega⟩
          exact tc_sYo hN hi c1 c2 (h3 post n (by omega) hp)
      · refine ⟨0, oa, op, en, ze, po, Or.inl rfl, fun post n hn hp => ?_, fun post n hn hp => ?_⟩
        · obtain ⟨n, rfl⟩ : ∃ z, n = z + 1 := ⟨n - 1, by omega⟩
          exact tc_sXof hN hi c1 (by omega) (by omega) hp
        · obtain ⟨n, rfl⟩ : ∃ z, n = z + 1 := ⟨n - 1, by omega⟩
          exact tc_sYof hN hi c1 (by omega) (by omega) hp
    · by_cases c2 : K i = 8 ∨ K i = 9 ∨ K i = 11
      · cases hs : tc_st K i with
        | nil =>
          refine ⟨0, oa, op, en, ze, po, Or.inl rfl, fun post n hn hp => ?_, fun post n hn hp => ?_⟩
          · obtain ⟨n, rfl⟩ : ∃ z, n = z + 1 := ⟨n - 1, by omega⟩
            exact tc_sX0 hN hi c2 hp
          · obtain ⟨n, rfl⟩ : ∃ z, n = z + 1 := ⟨n - 1, by omega⟩
            by_cases c3 : K i = 11
            · exact tc_sYe0 hN hi c3 hp
            · refine tc_sYm (s := 0) hN hi (c2.elim Or.inl (fun z => z.elim Or.inr (fun z => absurd z c3))) (by omega) ?_
              unfold wpY_markFits
              dsimp only
              refine tc_openerY (by omega) _ ?_
              rw [hs]
              exact br_t (by decide) (br_t rfl hp)
        | cons j t =>
          have hh : (tc_st K i).head? = some j := by rw [hs]; rfl
          have hj := tc_st_lt K i j (by rw [hs]; exact List.mem_cons_self)
          have g : t.length + 1 ≤ 3 := by rw [hs] at hl; exact hl
          have ho' : oa t.length = nI j ∧ tc_oa t oa := by rw [hs] at ho; exact ho
          have hM := ht.2.2.1 j hj.1 hj.2
          by_cases c3 : K i = 11
          · have e : tc_st K (i + 1) = t := by rw [tc_st_e c3, hs]; rfl
            obtain ⟨r, oa', op', en', ze', po', h1, h2, h3⟩ := ih (i + 1) oa (upd op i (nI j)) (upd en j (nI i)) ze po (by omega) (by rw [e]; omega) (by rw [e]; exact ho'.2) (tc_T_e ht c3 hh)
            rw [e] at h2 h3
            refine ⟨r, oa', op', en', ze', po', h1, fun post n hn hp => ?_, fun post n hn hp => ?_⟩
            · obtain ⟨n, rfl⟩ : ∃ z, n = z + 1 := ⟨n - 1, by omega⟩
              exact tc_sXe hN hi c3 (by omega) (by omega) ho'.1 (h2 post n (by omega) hp)
            · obtain ⟨n, rfl⟩ : ∃ z, n = z + 1 := ⟨n - 1, by omega⟩
              exact tc_sYe hN hi c3 (by omega) (h3 post n (by omega) hp)
          · have hm : K i = 8 ∨ K i = 9 := c2.elim Or.inl (fun z => z.elim Or.inr (fun z => absurd z c3))
            have e : tc_st K (i + 1) = j :: t := by rw [tc_st_p (fun z => c1 (Or.inl z)) (fun z => c1 (Or.inr z)) c3, hs]
            by_cases c4 : K j = 7 ∧ po j = -1 ∧ (K i = 9 ∨ ze j = -1)
            · obtain ⟨k7, kp, kz⟩ := c4
              by_cases c5 : K i = 9
              · obtain ⟨r, oa', op', en', ze', po', h1, h2, h3⟩ := ih (i + 1) oa (upd op i (nI j)) en ze (upd po j (nI i)) (by omega) (by rw [e]; exact g) (by rw [e]; exact ho') (tc_T_9 ht (by omega) c5 hh k7 kp)
                rw [e] at h2 h3
                refine ⟨r, oa', op', en', ze', po', h1, fun post n hn hp => ?_, fun post n hn hp => ?_⟩
                · obtain ⟨n, rfl⟩ : ∃ z, n = z + 1 := ⟨n - 1, by omega⟩
                  exact tc_sXm hN hi hm (by omega) (by omega) ho'.1 (fun _ _ _ => h2 post n (by omega) hp) (fun _ _ c => absurd c5 c) (fun z => (z.elim (fun z => z k7) (fun z => z.elim (fun z => z kp) (fun z => z.1 c5))).elim)
                · obtain ⟨n, rfl⟩ : ∃ z, n = z + 1 := ⟨n - 1, by omega⟩
                  refine tc_sYm (s := t.length + 1) hN hi hm g (tc_fitsY (r1 := po j) (by omega) hh (by rw [c5]; exact hM.2) hM.2 _ (fun _ _ _ => br_f (by decide) (nm_r (nI_1 i) (h3 post n (by omega) hp))) (fun z => ?_))
                  rw [kp] at z
                  exact absurd (z.elim (fun z => (z k7).elim) (fun z => z.elim id id)) (by decide)
              · have kz' : ze j = -1 := kz.resolve_left c5
                have h8 : K i = 8 := hm.resolve_right c5
                obtain ⟨r, oa', op', en', ze', po', h1, h2, h3⟩ := ih (i + 1) oa (upd op i (nI j)) en (upd ze j (nI i)) po (by omega) (by rw [e]; exact g) (by rw [e]; exact ho') (tc_T_8 ht (by omega) h8 hh k7 kz')
                rw [e] at h2 h3
                refine ⟨r, oa', op', en', ze', po', h1, fun post n hn hp => ?_, fun post n hn hp => ?_⟩
                · obtain ⟨n, rfl⟩ : ∃ z, n = z + 1 := ⟨n - 1, by omega⟩
                  exact tc_sXm hN hi hm (by omega) (by omega) ho'.1 (fun _ _ c => absurd c c5) (fun _ _ _ _ => h2 post n (by omega) hp) (fun z => (z.elim (fun z => z k7) (fun z => z.elim (fun z => z kp) (fun z => z.2 kz'))).elim)
                · obtain ⟨n, rfl⟩ : ∃ z, n = z + 1 := ⟨n - 1, by omega⟩
                  refine tc_sYm (s := t.length + 1) hN hi hm g (tc_fitsY (r1 := ze j) (by omega) hh (by rw [h8]; exact hM.1) hM.2 _ (fun _ _ _ => br_f (by decide) (nm_r (nI_1 i) (h3 post n (by omega) hp))) (fun z => ?_))
                  rw [kp, kz'] at z
                  exact absurd (z.elim (fun z => (z k7).elim) (fun z => z.elim id id)) (by decide)
            · refine ⟨0, oa, upd op i (nI j), en, ze, po, Or.inl rfl, fun post n hn hp => ?_, fun post n hn hp => ?_⟩
              · obtain ⟨n, rfl⟩ : ∃ z, n = z + 1 := ⟨n - 1, by omega⟩
                exact tc_sXm hN hi hm (by omega) (by omega) ho'.1 (fun a b c => absurd ⟨a, b, Or.inl c⟩ c4) (fun a b _ c => absurd ⟨a, b, Or.inr c⟩ c4) (fun _ => hp)
              · obtain ⟨n, rfl⟩ : ∃ z, n = z + 1 := ⟨n - 1, by omega⟩
                by_cases c5 : K i = 9
                · exact tc_sYm (s := t.length + 1) hN hi hm g (tc_fitsY (r1 := po j) (by omega) hh (by rw [c5]; exact hM.2) hM.2 _ (fun a b c => absurd ⟨a, c, Or.inl c5⟩ c4) (fun _ => br_t rfl hp))
                · have h8 : K i = 8 := hm.resolve_right c5
                  exact tc_sYm (s := t.length + 1) hN hi hm g (tc_fitsY (r1 := ze j) (by omega) hh (by rw [h8]; exact hM.1) hM.2 _ (fun a b c => absurd ⟨a, c, Or.inr b⟩ c4) (fun _ => br_t rfl hp))
      · have h7 : ¬ K i = 7 := fun z => c1 (Or.inl z)
        have h10 : ¬ K i = 10 := fun z => c1 (Or.inr z)
        have h8 : ¬ K i = 8 := fun z => c2 (Or.inl z)
        have h9 : ¬ K i = 9 := fun z => c2 (Or.inr (Or.inl z))
        have h11 : ¬ K i = 11 := fun z => c2 (Or.inr (Or.inr z))
        have e := tc_st_p h7 h10 h11
        obtain ⟨r, oa', op', en', ze', po', h1, h2, h3⟩ := ih (i + 1) oa op en ze po (by omega) (by rw [e]; exact hl) (by rw [e]; exact ho) (tc_T_p ht h7 h8 h9 h10 h11)
        rw [e] at h2 h3
        refine ⟨r, oa', op', en', ze', po', h1, fun post n hn hp => ?_, fun post n hn hp => ?_⟩
        · obtain ⟨n, rfl⟩ : ∃ z, n = z + 1 := ⟨n - 1, by omega⟩
          exact tc_sXp hN hi h7 h8 h9 h10 h11 (h2 post n (by omega) hp)
        · obtain ⟨n, rfl⟩ : ∃ z, n = z + 1 := ⟨n - 1, by omega⟩
          exact tc_sYp hN hi h7 h8 h9 h10 h11 hl (h3 post n (by omega) hp)
/-- link beside sound, as they are called -/
theorem tc_lnk (hN : N ≤ 40) (oa op en ze po : Nat → Int32) : ∃ (r : Int32) (oa' op' en' ze' po' : Nat → Int32), (r = 0 ∨ (r = 1 ∧ tc_T K N op' en' ze' po' ∧ tc_st K N = [])) ∧ (∀ (post : Int32 → SX → Prop), post r (nI N, p, V, K, A, B, C, O, oa', op', en', ze', po', pl) → wpX_link post (nI N, p, V, K, A, B, C, O, oa, op, en, ze, po, pl)) ∧ (∀ (post : Int32 → Prop), post r → wpY_sound post (nI N, p, K, A, B, C, V, O, L)) := by
  obtain ⟨r, oa', op', en', ze', po', h1, h2, h3⟩ := tc_link (p := p) (K := K) (A := A) (B := B) (C := C) (V := V) (O := O) (L := L) (pl := pl) hN N 0 oa op en ze po (by omega) (Nat.zero_le _) True.intro ⟨fun k hk => absurd hk (by omega), fun k hk => absurd hk (by omega), fun k hk => absurd hk (by omega), fun k hk => absurd hk (by omega)⟩
  exact ⟨r, oa', op', en', ze', po', h1, fun post hp => ⟨N + 1, h2 post (N + 1) (by omega) hp⟩, fun post hp => ⟨N + 1, h3 post (N + 1) (by omega) hp⟩⟩
end
end
section
section
variable {N : Nat} {q : Int32} {K A B C V O L oa op en ze po pl : Nat → Int32}
theorem tc_trL {i : Nat} (hi : i < 9) : ∀ (d k n : Nat) (y : Int32) (post : Int32 → Prop), k + d = i → d < n → post (tc_t (tc_it d y)) → wY_tritOf_5 post (nI i) (nI N) q K A B C V O L n y (nI k) := by
  intro d
  induction d with
  | zero =>
    intro k n y post hk hn hp
    obtain ⟨n, rfl⟩ : ∃ z, n = z + 1 := ⟨n - 1, by omega⟩
    have e : k = i := by omega
    subst e
    exact br_f (nI_ge (b := 9) hi (by decide)) ⟨by decide, by decide, nm_e (br_t rfl hp)⟩
  | succ d ih =>
    intro k n y post hk hn hp
    obtain ⟨n, rfl⟩ : ∃ z, n = z + 1 := ⟨n - 1, by omega⟩
    have ne : ¬ nI k = nI i := fun z => by
      have := (nI_eq (by omega) (by omega)).mp z
      omega
    exact br_f (nI_ge (b := 9) (by omega) (by decide)) ⟨by decide, by decide, nm_e (br_f ne ⟨by decide, nm_e (nm_r (nI_1 k) (ih (k + 1) n (tc_w y) post (by omega) (by omega) hp))⟩)⟩
theorem tc_tritY {i : Nat} (hi : i < 9) (y : Int32) (post : Int32 → Prop) (hp : post (tc_t (tc_it i y))) : wpY_tritOf post (nI N, q, K, A, B, C, V, O, L) y (nI i) :=
  ⟨i + 1, tc_trL hi i 0 (i + 1) y post (by omega) (by omega) hp⟩
theorem tc_trX {i : Nat} (hi : i < 9) : ∀ (d k n : Nat) (y : Int32) (post : Int32 → Prop), k + d = i → d < n → post (tc_t (tc_it d y)) → wX_trit_31 post (nI i) (nI N) q V K A B C O oa op en ze po pl n y (nI k) := by
  intro d
  induction d with
  | zero =>
    intro k n y post hk hn hp
    obtain ⟨n, rfl⟩ : ∃ z, n = z + 1 := ⟨n - 1, by omega⟩
    exact br_t (nI_le (by omega) (by omega)) (tc_low y _ hp)
  | succ d ih =>
    intro k n y post hk hn hp
    obtain ⟨n, rfl⟩ : ∃ z, n = z + 1 := ⟨n - 1, by omega⟩
    exact br_f (nI_ge (by omega) (by omega)) (tc_wol y _ (nm_r (nI_1 k) (ih (k + 1) n (tc_w y) post (by omega) (by omega) hp)))
theorem tc_sm (W : Nat) (hW : W ≤ 19683) (s z : Int32) (h1 : -9841 ≤ s.toInt) (h2 : s.toInt ≤ 9841) (hz : z = -1 ∨ z = 0 ∨ z = 1) : (s + nI W * z).toInt = s.toInt + W * z.toInt ∧ (z.toInt = -1 ∨ z.toInt = 0 ∨ z.toInt = 1) := by
  have e : (nI W).toInt = W := nI_toInt (by omega)
  have m1 : (-1 : Int32).toInt = -1 := by decide
  have m0 : (0 : Int32).toInt = 0 := by decide
  have p1 : (1 : Int32).toInt = 1 := by decide
  rcases hz with rfl | rfl | rfl
  · have k : (nI W * -1).toInt = W * -1 := by
      rw [Jvm.Kit.i32_mul (by rw [e, m1]; omega) (by rw [e, m1]; omega), e, m1]
    rw [Jvm.Kit.i32_add (by rw [k]; omega) (by rw [k]; omega), k, m1]
    exact ⟨rfl, Or.inl rfl⟩
  · have k : (nI W * 0).toInt = W * 0 := by
      rw [Jvm.Kit.i32_mul (by rw [e, m0]; omega) (by rw [e, m0]; omega), e, m0]
    rw [Jvm.Kit.i32_add (by rw [k]; omega) (by rw [k]; omega), k, m0]
    exact ⟨rfl, Or.inr (Or.inl rfl)⟩
  · have k : (nI W * 1).toInt = W * 1 := by
      rw [Jvm.Kit.i32_mul (by rw [e, p1]; omega) (by rw [e, p1]; omega), e, p1]
    rw [Jvm.Kit.i32_add (by rw [k]; omega) (by rw [k]; omega), k, p1]
    exact ⟨rfl, Or.inr (Or.inr rfl)⟩
theorem tc_loL (x y : Int32) : ∀ (d k : Nat) (s : Int32), k + d = 9 → 1 - (3 ^ k : Nat) ≤ 2 * s.toInt → 2 * s.toInt ≤ (3 ^ k : Nat) - 1 → ∃ r : Int32, tc_rg r ∧ (∀ (post : Int32 → Prop) (n : Nat), d < n → post r → wX_lowerTrits_7 post n (tc_it k x) (tc_it k y) s (nI (3 ^ k)) (nI k)) ∧ (∀ (post : Int32 → Prop) (n : Nat), d < n → post r → wY_low_8 post x y (nI N) q K A B C V O L n s (nI (3 ^ k)) (nI k)) := by
  intro d
  induction d with
  | zero =>
    intro k s hk h1 h2
    have e : k = 9 := by omega
    subst e
    have e9 : (3 ^ 9 : Nat) = 19683 := by decide
    rw [e9] at h1 h2
    refine ⟨s, ⟨by omega, by omega⟩, fun post n hn hp => ?_, fun post n hn hp => ?_⟩
    · obtain ⟨n, rfl⟩ : ∃ z, n = z + 1 := ⟨n - 1, by omega⟩
      exact br_t (by decide) hp
    · obtain ⟨n, rfl⟩ : ∃ z, n = z + 1 := ⟨n - 1, by omega⟩
      exact br_t (by decide) hp
  | succ d ih =>
    intro k s hk h1 h2
    have hW : 3 ^ k ≤ 3 ^ 9 := Nat.pow_le_pow_right (by decide) (by omega)
    have e9 : (3 ^ 9 : Nat) = 19683 := by decide
    rw [e9] at hW
    have eW : 3 ^ (k + 1) = 3 ^ k * 3 := rfl
    have h9 : ¬ (9 : Int32) ≤ nI k := nI_ge (b := 9) (by omega) (by decide)
    have key : ∀ z : Int32, (z = -1 ∨ z = 0 ∨ z = 1) → ∃ r : Int32, tc_rg r ∧ (∀ (post : Int32 → Prop) (n : Nat), d < n → post r → wX_lowerTrits_7 post n (tc_it (k + 1) x) (tc_it (k + 1) y) (s + nI (3 ^ k) * z) (nI (3 ^ (k + 1))) (nI (k + 1))) ∧ (∀ (post : Int32 → Prop) (n : Nat), d < n → post r → wY_low_8 post x y (nI N) q K A B C V O L n (s + nI (3 ^ k) * z) (nI (3 ^ (k + 1))) (nI (k + 1))) := by
      intro z hz
      obtain ⟨g1, g2⟩ := tc_sm (3 ^ k) hW s z (by omega) (by omega) hz
      refine ih (k + 1) (s + nI (3 ^ k) * z) (by omega) ?_ ?_
      · rw [g1, eW]
        generalize 3 ^ k = W at *
        rcases g2 with g | g | g <;> rw [g] <;> omega
      · rw [g1, eW]
        generalize 3 ^ k = W at *
        rcases g2 with g | g | g <;> rw [g] <;> omega
    have t3 : ∀ v : Int32, tc_t v = -1 ∨ tc_t v = 0 ∨ tc_t v = 1 := fun v => (tc_t3 v).elim (fun h => Or.inl h.1) (fun h => h.elim (fun h => Or.inr (Or.inl h.1)) (fun h => Or.inr (Or.inr h.1)))
    have e3 : nI (3 ^ k) * 3 = nI (3 ^ (k + 1)) := pk_mul (3 ^ k) 3
    by_cases c : tc_t (tc_it k y) ≤ tc_t (tc_it k x)
    · obtain ⟨r, hr, hX, hY⟩ := key (tc_t (tc_it k y)) (t3 _)
      refine ⟨r, hr, fun post n hn hp => ?_, fun post n hn hp => ?_⟩
      · obtain ⟨n, rfl⟩ : ∃ z, n = z + 1 := ⟨n - 1, by omega⟩
        refine br_f h9 (tc_low _ _ (tc_low _ _ (br_t c (nm_e (tc_wol _ _ (tc_wol _ _ (nm_r e3 (nm_r (nI_1 k) ?_))))))))
        rw [← tc_it_s, ← tc_it_s]
        exact hX post n (by omega) hp
      · obtain ⟨n, rfl⟩ : ∃ z, n = z + 1 := ⟨n - 1, by omega⟩
        exact br_f h9 (tc_tritY (by omega) _ _ (tc_tritY (by omega) _ _ (br_t c (nm_e (nm_r e3 (nm_r (nI_1 k) (hY post n (by omega) hp)))))))
    · obtain ⟨r, hr, hX, hY⟩ := key (tc_t (tc_it k x)) (t3 _)
      refine ⟨r, hr, fun post n hn hp => ?_, fun post n hn hp => ?_⟩
      · obtain ⟨n, rfl⟩ : ∃ z, n = z + 1 := ⟨n - 1, by omega⟩
        refine br_f h9 (tc_low _ _ (tc_low _ _ (br_f c (nm_e (tc_wol _ _ (tc_wol _ _ (nm_r e3 (nm_r (nI_1 k) ?_))))))))
        rw [← tc_it_s, ← tc_it_s]
        exact hX post n (by omega) hp
      · obtain ⟨n, rfl⟩ : ∃ z, n = z + 1 := ⟨n - 1, by omega⟩
        exact br_f h9 (tc_tritY (by omega) _ _ (tc_tritY (by omega) _ _ (br_f c (nm_e (nm_r e3 (nm_r (nI_1 k) (hY post n (by omega) hp)))))))
theorem tc_lowXY (x y : Int32) : ∃ r : Int32, tc_rg r ∧ (∀ (post : Int32 → Prop), post r → wpX_lowerTrits post x y) ∧ (∀ (post : Int32 → Prop), post r → wpY_low post (nI N, q, K, A, B, C, V, O, L) x y) := by
  obtain ⟨r, hr, hX, hY⟩ := tc_loL (N := N) (q := q) (K := K) (A := A) (B := B) (C := C) (V := V) (O := O) (L := L) x y 9 0 0 (by omega) (by decide) (by decide)
  exact ⟨r, hr, fun post hp => ⟨10, hX post 10 (by omega) hp⟩, fun post hp => ⟨10, hY post 10 (by omega) hp⟩⟩
theorem tc_mulXY {x y : Int32} (hx : tc_rg x) (hy : tc_rg y) : (x.toInt64 * y.toInt64).toInt = (x * y).toInt := by
  obtain ⟨a1, a2⟩ := hx
  obtain ⟨b1, b2⟩ := hy
  have h : (x.toInt * y.toInt).natAbs ≤ 9841 * 9841 := by
    rw [Int.natAbs_mul]
    exact Nat.mul_le_mul (by omega) (by omega)
  have e1 := Jvm.Kit.i64_of_i32 x
  have e2 := Jvm.Kit.i64_of_i32 y
  generalize hP : x.toInt * y.toInt = P at h
  rw [Jvm.Kit.i64_mul (by rw [e1, e2, hP]; omega) (by rw [e1, e2, hP]; omega), Jvm.Kit.i32_mul (by rw [hP]; omega) (by rw [hP]; omega), e1, e2]
end
end
section
section
variable {N : Nat} {q x : Int32} {K A B C V O L oa op en ze po pl : Nat → Int32}
theorem tc_pl0 (hv : vp_in x 40) (hk : K x.toNatClampNeg = 0) (ha : vp_in (A x.toNatClampNeg) 6) : ∃ w : Int32, tc_rg w ∧ (∀ post : Int32 → Prop, post w → wpX_result post (nI N, q, V, K, A, B, C, O, oa, op, en, ze, po, pl) x) ∧ (∀ post : SY → Prop, post (nI N, q, K, A, B, C, upd V (A x.toNatClampNeg).toNatClampNeg w, O, L) → wpY_plain post (nI N, q, K, A, B, C, V, O, L) x) := by
  obtain ⟨w, hw, hX, hY⟩ := tc_wrap (B x.toNatClampNeg) (B x.toNatClampNeg).toInt64 (Jvm.Kit.i64_of_i32 _)
  refine ⟨w, hw, fun post hp => ?_, fun post hp => ?_⟩
  · exact ⟨hv, nm_e ⟨hv, br_t hk (hX _ hp)⟩⟩
  · exact ⟨hv, br_t hk ⟨hv, br_f (by rw [hk]; decide) ⟨hv, br_f (by rw [hk]; decide) ⟨hv, br_f (by rw [hk]; decide) ⟨hv, br_f (by rw [hk]; decide) ⟨hv, br_t hk ⟨hv, hv, hY _ _ ⟨ha, nm_e ⟨hv, br_f (by rw [hk]; decide) ⟨hv, br_f (by rw [hk]; decide) ⟨hv, br_f (by rw [hk]; decide) ⟨hv, br_f (by rw [hk]; decide) ⟨hv, br_f (by rw [hk]; decide) ⟨hv, br_f (by rw [hk]; decide) ⟨hv, br_f (by rw [hk]; decide) hp⟩⟩⟩⟩⟩⟩⟩⟩⟩⟩⟩⟩⟩⟩⟩
theorem tc_pl1 (hv : vp_in x 40) (hk : K x.toNatClampNeg = 1) (ha : vp_in (A x.toNatClampNeg) 6) (hb : vp_in (B x.toNatClampNeg) 6) (hc : vp_in (C x.toNatClampNeg) 6) : ∃ w : Int32, tc_rg w ∧ (∀ post : Int32 → Prop, post w → wpX_result post (nI N, q, V, K, A, B, C, O, oa, op, en, ze, po, pl) x) ∧ (∀ post : SY → Prop, post (nI N, q, K, A, B, C, upd V (A x.toNatClampNeg).toNatClampNeg w, O, L) → wpY_plain post (nI N, q, K, A, B, C, V, O, L) x) := by
  obtain ⟨w, hw, hX, hY⟩ := tc_wrap (V (B x.toNatClampNeg).toNatClampNeg + V (C x.toNatClampNeg).toNatClampNeg) (V (B x.toNatClampNeg).toNatClampNeg + V (C x.toNatClampNeg).toNatClampNeg).toInt64 (Jvm.Kit.i64_of_i32 _)
  refine ⟨w, hw, fun post hp => ?_, fun post hp => ?_⟩
  · exact ⟨hv, nm_e ⟨hv, br_f (by rw [hk]; decide) ⟨hb, nm_e ⟨hv, br_f (by rw [hk]; decide) ⟨hv, br_f (by rw [hk]; decide) ⟨hv, hc, nm_e ⟨hv, nm_e (br_f (by rw [hk]; decide) (br_f (by rw [hk]; decide) (br_t hk (hX _ hp))))⟩⟩⟩⟩⟩⟩⟩
  · exact ⟨hv, br_f (by rw [hk]; decide) ⟨hv, br_f (by rw [hk]; decide) ⟨hv, hb, ⟨hv, br_t hk ⟨hv, hc, ⟨hv, br_f (by rw [hk]; decide) ⟨hv, br_t hk ⟨hv, hY _ _ ⟨ha, nm_e ⟨hv, br_f (by rw [hk]; decide) ⟨hv, br_f (by rw [hk]; decide) ⟨hv, br_f (by rw [hk]; decide) ⟨hv, br_f (by rw [hk]; decide) ⟨hv, br_f (by rw [hk]; decide) ⟨hv, br_f (by rw [hk]; decide) hp⟩⟩⟩⟩⟩⟩⟩⟩⟩⟩⟩⟩⟩⟩⟩
theorem tc_pl2 (hv : vp_in x 40) (hk : K x.toNatClampNeg = 2) (ha : vp_in (A x.toNatClampNeg) 6) (hb : vp_in (B x.toNatClampNeg) 6) (hc : vp_in (C x.toNatClampNeg) 6) : ∃ w : Int32, tc_rg w ∧ (∀ post : Int32 → Prop, post w → wpX_result post (nI N, q, V, K, A, B, C, O, oa, op, en, ze, po, pl) x) ∧ (∀ post : SY → Prop, post (nI N, q, K, A, B, C, upd V (A x.toNatClampNeg).toNatClampNeg w, O, L) → wpY_plain post (nI N, q, K, A, B, C, V, O, L) x) := by
  obtain ⟨w, hw, hX, hY⟩ := tc_wrap (V (B x.toNatClampNeg).toNatClampNeg - V (C x.toNatClampNeg).toNatClampNeg) (V (B x.toNatClampNeg).toNatClampNeg - V (C x.toNatClampNeg).toNatClampNeg).toInt64 (Jvm.Kit.i64_of_i32 _)
  refine ⟨w, hw, fun post hp => ?_, fun post hp => ?_⟩
  · exact ⟨hv, nm_e ⟨hv, br_f (by rw [hk]; decide) ⟨hb, nm_e ⟨hv, br_f (by rw [hk]; decide) ⟨hv, br_f (by rw [hk]; decide) ⟨hv, hc, nm_e ⟨hv, nm_e (br_f (by rw [hk]; decide) (br_f (by rw [hk]; decide) (br_f (by rw [hk]; decide) (br_t hk (hX _ hp)))))⟩⟩⟩⟩⟩⟩⟩
  · exact ⟨hv, br_f (by rw [hk]; decide) ⟨hv, br_f (by rw [hk]; decide) ⟨hv, hb, ⟨hv, br_f (by rw [hk]; decide) ⟨hv, br_t hk ⟨hv, hc, ⟨hv, br_f (by rw [hk]; decide) ⟨hv, br_f (by rw [hk]; decide) ⟨hv, br_t hk ⟨hv, hY _ _ ⟨ha, nm_e ⟨hv, br_f (by rw [hk]; decide) ⟨hv, br_f (by rw [hk]; decide) ⟨hv, br_f (by rw [hk]; decide) ⟨hv, br_f (by rw [hk]; decide) ⟨hv, br_f (by rw [hk]; decide) hp⟩⟩⟩⟩⟩⟩⟩⟩⟩⟩⟩⟩⟩⟩⟩⟩
theorem tc_pl3 (hv : vp_in x 40) (hk : K x.toNatClampNeg = 3) (ha : vp_in (A x.toNatClampNeg) 6) (hb : vp_in (B x.toNatClampNeg) 6) (hc : vp_in (C x.toNatClampNeg) 6) (hV : ∀ y, tc_rg (V y)) : ∃ w : Int32, tc_rg w ∧ (∀ post : Int32 → Prop, post w → wpX_result post (nI N, q, V, K, A, B, C, O, oa, op, en, ze, po, pl) x) ∧ (∀ post : SY → Prop, post (nI N, q, K, A, B, C, upd V (A x.toNatClampNeg).toNatClampNeg w, O, L) → wpY_plain post (nI N, q, K, A, B, C, V, O, L) x) := by
  obtain ⟨w, hw, hX, hY⟩ := tc_wrap (V (B x.toNatClampNeg).toNatClampNeg * V (C x.toNatClampNeg).toNatClampNeg) ((V (B x.toNatClampNeg).toNatClampNeg).toInt64 * (V (C x.toNatClampNeg).toNatClampNeg).toInt64) (tc_mulXY (hV _) (hV _))
  refine ⟨w, hw, fun post hp => ?_, fun post hp => ?_⟩
  · exact ⟨hv, nm_e ⟨hv, br_f (by rw [hk]; decide) ⟨hb, nm_e ⟨hv, br_f (by rw [hk]; decide) ⟨hv, br_f (by rw [hk]; decide) ⟨hv, hc, nm_e ⟨hv, nm_e (br_f (by rw [hk]; decide) (br_f (by rw [hk]; decide) (br_f (by rw [hk]; decide) (br_f (by rw [hk]; decide) (br_t hk (hX _ hp))))))⟩⟩⟩⟩⟩⟩⟩
  · exact ⟨hv, br_f (by rw [hk]; decide) ⟨hv, br_f (by rw [hk]; decide) ⟨hv, hb, ⟨hv, br_f (by rw [hk]; decide) ⟨hv, br_f (by rw [hk]; decide) ⟨hv, br_t hk ⟨hv, hc, ⟨hv, br_f (by rw [hk]; decide) ⟨hv, br_f (by rw [hk]; decide) ⟨hv, br_f (by rw [hk]; decide) ⟨hv, br_t hk ⟨hv, hY _ _ ⟨ha, nm_e ⟨hv, br_f (by rw [hk]; decide) ⟨hv, br_f (by rw [hk]; decide) ⟨hv, br_f (by rw [hk]; decide) ⟨hv, br_f (by rw [hk]; decide) hp⟩⟩⟩⟩⟩⟩⟩⟩⟩⟩⟩⟩⟩⟩⟩⟩⟩
theorem tc_pl4 (hv : vp_in x 40) (hk : K x.toNatClampNeg = 4) (ha : vp_in (A x.toNatClampNeg) 6) (hb : vp_in (B x.toNatClampNeg) 6) : ∃ w : Int32, tc_rg w ∧ (∀ post : Int32 → Prop, post w → wpX_result post (nI N, q, V, K, A, B, C, O, oa, op, en, ze, po, pl) x) ∧ (∀ post : SY → Prop, post (nI N, q, K, A, B, C, upd V (A x.toNatClampNeg).toNatClampNeg w, O, L) → wpY_plain post (nI N, q, K, A, B, C, V, O, L) x) := by
  obtain ⟨w, hw, hX, hY⟩ := tc_wrap (3 * V (B x.toNatClampNeg).toNatClampNeg) (3 * V (B x.toNatClampNeg).toNatClampNeg).toInt64 (Jvm.Kit.i64_of_i32 _)
  refine ⟨w, hw, fun post hp => ?_, fun post hp => ?_⟩
  · exact ⟨hv, nm_e ⟨hv, br_f (by rw [hk]; decide) ⟨hb, nm_e ⟨hv, br_t hk (hX _ hp)⟩⟩⟩⟩
  · exact ⟨hv, br_f (by rw [hk]; decide) ⟨hv, br_f (by rw [hk]; decide) ⟨hv, hb, ⟨hv, br_f (by rw [hk]; decide) ⟨hv, br_f (by rw [hk]; decide) ⟨hv, br_f (by rw [hk]; decide) ⟨hv, br_f (by rw [hk]; decide) ⟨hv, br_f (by rw [hk]; decide) ⟨hv, br_f (by rw [hk]; decide) ⟨hv, br_f (by rw [hk]; decide) ⟨hv, br_f (by rw [hk]; decide) ⟨hv, br_t hk ⟨hv, hY _ _ ⟨ha, nm_e ⟨hv, br_f (by rw [hk]; decide) ⟨hv, br_f (by rw [hk]; decide) ⟨hv, br_f (by rw [hk]; decide) hp⟩⟩⟩⟩⟩⟩⟩⟩⟩⟩⟩⟩⟩⟩⟩⟩⟩
theorem tc_pl5 (hv : vp_in x 40) (hk : K x.toNatClampNeg = 5) (ha : vp_in (A x.toNatClampNeg) 6) (hb : vp_in (B x.toNatClampNeg) 6) (hV : ∀ y, tc_rg (V y)) : ∃ w : Int32, tc_rg w ∧ (∀ post : Int32 → Prop, post w → wpX_result post (nI N, q, V, K, A, B, C, O, oa, op, en, ze, po, pl) x) ∧ (∀ post : SY → Prop, post (nI N, q, K, A, B, C, upd V (A x.toNatClampNeg).toNatClampNeg w, O, L) → wpY_plain post (nI N, q, K, A, B, C, V, O, L) x) := by
  refine ⟨tc_w (V (B x.toNatClampNeg).toNatClampNeg), tc_w_rg (hV _), fun post hp => ?_, fun post hp => ?_⟩
  · exact ⟨hv, nm_e ⟨hv, br_f (by rw [hk]; decide) ⟨hb, nm_e ⟨hv, br_f (by rw [hk]; decide) ⟨hv, br_t hk (tc_wol _ _ hp)⟩⟩⟩⟩⟩
  · exact ⟨hv, br_f (by rw [hk]; decide) ⟨hv, br_f (by rw [hk]; decide) ⟨hv, hb, ⟨hv, br_f (by rw [hk]; decide) ⟨hv, br_f (by rw [hk]; decide) ⟨hv, br_f (by rw [hk]; decide) ⟨hv, br_f (by rw [hk]; decide) ⟨hv, br_f (by rw [hk]; decide) ⟨hv, br_f (by rw [hk]; decide) ⟨hv, br_f (by rw [hk]; decide) ⟨hv, br_f (by rw [hk]; decide) ⟨hv, br_f (by rw [hk]; decide) ⟨hv, br_t hk ⟨hv, tc_tritY (i := 0) (by omega) _ _ ⟨by decide, ha, nm_e ⟨hv, br_f (by rw [hk]; decide) ⟨hv, br_f (by rw [hk]; decide) hp⟩⟩⟩⟩⟩⟩⟩⟩⟩⟩⟩⟩⟩⟩⟩⟩⟩
theorem tc_pl6 (hv : vp_in x 40) (hk : K x.toNatClampNeg = 6) (ha : vp_in (A x.toNatClampNeg) 6) (hb : vp_in (B x.toNatClampNeg) 6) (hc : vp_in (C x.toNatClampNeg) 6) : ∃ w : Int32, tc_rg w ∧ (∀ post : Int32 → Prop, post w → wpX_result post (nI N, q, V, K, A, B, C, O, oa, op, en, ze, po, pl) x) ∧ (∀ post : SY → Prop, post (nI N, q, K, A, B, C, upd V (A x.toNatClampNeg).toNatClampNeg w, O, L) → wpY_plain post (nI N, q, K, A, B, C, V, O, L) x) := by
  obtain ⟨w, hw, hX, hY⟩ := tc_lowXY (N := N) (q := q) (K := K) (A := A) (B := B) (C := C) (V := V) (O := O) (L := L) (V (B x.toNatClampNeg).toNatClampNeg) (V (C x.toNatClampNeg).toNatClampNeg)
  refine ⟨w, hw, fun post hp => ?_, fun post hp => ?_⟩
  · exact ⟨hv, nm_e ⟨hv, br_f (by rw [hk]; decide) ⟨hb, nm_e ⟨hv, br_f (by rw [hk]; decide) ⟨hv, br_f (by rw [hk]; decide) ⟨hv, hc, nm_e ⟨hv, nm_e (br_f (by rw [hk]; decide) (br_t (by rw [hk]; decide) (hX _ hp)))⟩⟩⟩⟩⟩⟩⟩
  · exact ⟨hv, br_f (by rw [hk]; decide) ⟨hv, br_f (by rw [hk]; decide) ⟨hv, hb, ⟨hv, br_f (by rw [hk]; decide) ⟨hv, br_f (by rw [hk]; decide) ⟨hv, br_f (by rw [hk]; decide) ⟨hv, br_t hk ⟨hv, hc, ⟨hv, br_f (by rw [hk]; decide) ⟨hv, br_f (by rw [hk]; decide) ⟨hv, br_f (by rw [hk]; decide) ⟨hv, br_f (by rw [hk]; decide) ⟨hv, br_f (by rw [hk]; decide) ⟨hv, br_f (by rw [hk]; decide) ⟨hv, br_t hk ⟨hv, hY _ ⟨ha, nm_e ⟨hv, br_f (by rw [hk]; decide) hp⟩⟩⟩⟩⟩⟩⟩⟩⟩⟩⟩⟩⟩⟩⟩⟩⟩⟩
end
end
section
/-- what add lets in -/
def tc_fit (k a b c : Int32) : Prop := ¬ k < 0 ∧ k ≤ 12 ∧ (¬ k = 8 → ¬ k = 9 → ¬ k = 11 → vp_in a 6) ∧ (¬ k < 1 → ¬ 6 < k → vp_in b 6) ∧ (k = 1 ∨ k = 2 ∨ k = 3 ∨ k = 6 → vp_in c 6)
theorem tc_k13 {k : Int32} (h0 : ¬ k < 0) (h : k ≤ 12) : k = 0 ∨ k = 1 ∨ k = 2 ∨ k = 3 ∨ k = 4 ∨ k = 5 ∨ k = 6 ∨ k = 7 ∨ k = 8 ∨ k = 9 ∨ k = 10 ∨ k = 11 ∨ k = 12 := by
  obtain ⟨j, hj, rfl⟩ := nI_of2 (M := 12) (n := 12) (by decide) h0 h
  have : ∀ j, j < 13 → (nI j = 0 ∨ nI j = 1 ∨ nI j = 2 ∨ nI j = 3 ∨ nI j = 4 ∨ nI j = 5 ∨ nI j = 6 ∨ nI j = 7 ∨ nI j = 8 ∨ nI j = 9 ∨ nI j = 10 ∨ nI j = 11 ∨ nI j = 12) := by decide
  exact this j (by omega)
theorem tc_rg_u {V : Nat → Int32} (hV : ∀ y, tc_rg (V y)) {w : Int32} (hw : tc_rg w) (a : Nat) : ∀ y, tc_rg (upd V a w y) := by
  intro y
  by_cases h : y = a
  · subst h; rw [pk_us]; exact hw
  · rw [pk_un h]; exact hV y
section
variable {N : Nat} {q x : Int32} {K A B C V O L oa op en ze po pl : Nat → Int32} {i : Nat}
/-- print -/
theorem tc_prX (hv : vp_in x 40) (hk : K x.toNatClampNeg = 12) (ha : vp_in (A x.toNatClampNeg) 6) {post : Int32 → SX → Prop} (h : (48 ≤ q → post (x + 1) (nI N, q + 1, V, K, A, B, C, O, oa, op, en, ze, po, pl)) ∧ (¬ 48 ≤ q → vp_in q 48 ∧ post (x + 1) (nI N, q + 1, V, K, A, B, C, upd O q.toNatClampNeg (V (A x.toNatClampNeg).toNatClampNeg), oa, op, en, ze, po, pl))) : wpX_pass post (nI N, q, V, K, A, B, C, O, oa, op, en, ze, po, pl) x :=
  ⟨hv, nm_e (br_f (by rw [hk]; decide) (br_f (by rw [hk]; decide) (br_f (by rw [hk]; decide) (br_f (by rw [hk]; decide) (br_f (by rw [hk]; decide) (br_f (by rw [hk]; decide) (br_f (by rw [hk]; decide) (br_t hk ⟨hv, ha, br_c (fun a => nm_e (h.1 a)) (fun a => ⟨(h.2 a).1, nm_e (nm_e (h.2 a).2)⟩)⟩))))))))⟩
theorem tc_prY (hv : vp_in x 40) (hk : K x.toNatClampNeg = 12) (ha : vp_in (A x.toNatClampNeg) 6) {post : SY → Prop} (h : (48 ≤ q → post (nI N, q + 1, K, A, B, C, V, O, L)) ∧ (¬ 48 ≤ q → vp_in q 48 ∧ post (nI N, q + 1, K, A, B, C, V, upd O q.toNatClampNeg (V (A x.toNatClampNeg).toNatClampNeg), L))) : wpY_plain post (nI N, q, K, A, B, C, V, O, L) x :=
  ⟨hv, br_f (by rw [hk]; decide) ⟨hv, br_t hk ⟨hv, br_f (by rw [hk]; decide) ⟨hv, br_f (by rw [hk]; decide) ⟨hv, br_f (by rw [hk]; decide) ⟨hv, br_f (by rw [hk]; decide) ⟨hv, br_f (by rw [hk]; decide) ⟨hv, br_f (by rw [hk]; decide) ⟨hv, br_f (by rw [hk]; decide) ⟨hv, br_f (by rw [hk]; decide) ⟨hv, br_f (by rw [hk]; decide) ⟨hv, br_f (by rw [hk]; decide) ⟨hv, br_f (by rw [hk]; decide) ⟨hv, br_t hk (br_c (fun a => nm_e (h.1 a)) (fun a => ⟨hv, ha, (h.2 a).1, nm_e (nm_e (h.2 a).2)⟩))⟩⟩⟩⟩⟩⟩⟩⟩⟩⟩⟩⟩⟩⟩
theorem tc_plY (hv : vp_in x 40) (h7 : ¬ K x.toNatClampNeg = 7) (h8 : ¬ K x.toNatClampNeg = 8) (h9 : ¬ K x.toNatClampNeg = 9) (h10 : ¬ K x.toNatClampNeg = 10) (h11 : ¬ K x.toNatClampNeg = 11) {post : Int32 → SY → Prop} (h : wpY_plain (fun u => match u with | (a1, a2, a3, a4, a5, a6, a7, a8, a9) => post (x + 1) (a1, a2, a3, a4, a5, a6, a7, a8, a9)) (nI N, q, K, A, B, C, V, O, L) x) : wpY_pass post (nI N, q, K, A, B, C, V, O, L) x :=
  ⟨hv, br_f h7 ⟨hv, br_f h10 ⟨hv, br_f h8 ⟨hv, br_f h9 ⟨hv, br_f h11 h⟩⟩⟩⟩⟩
theorem tc_plX (hv : vp_in x 40) (h7 : K x.toNatClampNeg < 7) (ha : vp_in (A x.toNatClampNeg) 6) {w : Int32} (hX : ∀ post : Int32 → Prop, post w → wpX_result post (nI N, q, V, K, A, B, C, O, oa, op, en, ze, po, pl) x) {post : Int32 → SX → Prop} (h : post (x + 1) (nI N, q, upd V (A x.toNatClampNeg).toNatClampNeg w, K, A, B, C, O, oa, op, en, ze, po, pl)) : wpX_pass post (nI N, q, V, K, A, B, C, O, oa, op, en, ze, po, pl) x :=
  ⟨hv, nm_e (br_t h7 ⟨hv, hX _ ⟨ha, nm_e h⟩⟩)⟩
/-- the kinds that set a variable, in one -/
theorem tc_pl (hv : vp_in x 40) (hf : tc_fit (K x.toNatClampNeg) (A x.toNatClampNeg) (B x.toNatClampNeg) (C x.toNatClampNeg)) (h7 : K x.toNatClampNeg < 7) (hV : ∀ y, tc_rg (V y)) : ∃ w : Int32, tc_rg w ∧ (∀ post : Int32 → SX → Prop, post (x + 1) (nI N, q, upd V (A x.toNatClampNeg).toNatClampNeg w, K, A, B, C, O, oa, op, en, ze, po, pl) → wpX_pass post (nI N, q, V, K, A, B, C, O, oa, op, en, ze, po, pl) x) ∧ (∀ post : Int32 → SY → Prop, post (x + 1) (nI N, q, K, A, B, C, upd V (A x.toNatClampNeg).toNatClampNeg w, O, L) → wpY_pass post (nI N, q, K, A, B, C, V, O, L) x) := by
  obtain ⟨f0, f1, fa, fb, fc⟩ := hf
  have n8 : ¬ K x.toNatClampNeg = 8 := fun z => by rw [z] at h7; revert h7; decide
  have n9 : ¬ K x.toNatClampNeg = 9 := fun z => by rw [z] at h7; revert h7; decide
  have n10 : ¬ K x.toNatClampNeg = 10 := fun z => by rw [z] at h7; revert h7; decide
  have n11 : ¬ K x.toNatClampNeg = 11 := fun z => by rw [z] at h7; revert h7; decide
  have n7 : ¬ K x.toNatClampNeg = 7 := fun z => by rw [z] at h7; revert h7; decide
  have ha := fa n8 n9 n11
  have key : ∃ w : Int32, tc_rg w ∧ (∀ post : Int32 → Prop, post w → wpX_result post (nI N, q, V, K, A, B, C, O, oa, op, en, ze, po, pl) x) ∧ (∀ post : SY → Prop, post (nI N, q, K, A, B, C, upd V (A x.toNatClampNeg).toNatClampNeg w, O, L) → wpY_plain post (nI N, q, K, A, B, C, V, O, L) x) := by
    rcases tc_k13 f0 f1 with k | k | k | k | k | k | k | k | k | k | k | k | k
    · exact tc_pl0 hv k ha
    · exact tc_pl1 hv k ha (fb (by rw [k]; decide) (by rw [k]; decide)) (fc (Or.inl k))
    · exact tc_pl2 hv k ha (fb (by rw [k]; decide) (by rw [k]; decide)) (fc (Or.inr (Or.inl k)))
    · exact tc_pl3 hv k ha (fb (by rw [k]; decide) (by rw [k]; decide)) (fc (Or.inr (Or.inr (Or.inl k)))) hV
    · exact tc_pl4 hv k ha (fb (by rw [k]; decide) (by rw [k]; decide))
    · exact tc_pl5 hv k ha (fb (by rw [k]; decide) (by rw [k]; decide)) hV
    · exact tc_pl6 hv k ha (fb (by rw [k]; decide) (by rw [k]; decide)) (fc (Or.inr (Or.inr (Or.inr k))))
    · exact absurd k n7
    · exact absurd k n8
    · exact absurd k n9
    · exact absurd k n10
    · exact absurd k n11
    · rw [k] at h7; exact absurd h7 (by decide)
  obtain ⟨w, hw, hX, hY⟩ := key
  exact ⟨w, hw, fun post hp => tc_plX hv h7 ha hX hp, fun post hp => tc_plY hv n7 n8 n9 n10 n11 (hY _ hp)⟩
/-- the chosen section, or the end -/
theorem tc_sec (hN : N ≤ 40) {e : Nat} {m r : Int32} (hi : i < e) (he : e < N) (h11 : K e = 11) (hh : (tc_st K e).head? = some i) (hm : m = 8 ∨ m = 9) (hen : en i = nI e) (hM : tc_M K i m N r) : ∃ i' : Nat, i' ≤ N ∧ (∀ j, j ∈ tc_st K i' → j = i ∨ j ∈ tc_st K i) ∧ (∀ post : Int32 → Prop, post (nI i') → wX_chosenSection_39 post (nI i) r (nI N) q V K A B C O oa op en ze po pl) ∧ (∀ post : Int32 → Prop, post (nI i') → wY_choose_39 post (nI e) m (nI i) (nI N) q K A B C V O L) := by
  have hv : vp_in (nI i) 40 := vp_in_nI (by omega) (by omega)
  have hc : (nI i).toNatClampNeg = i := nI_clamp (by omega)
  have hM' := tc_M_cut hM he h11 hh (by rcases hm with a | a <;> rw [a] <;> decide)
  rcases hM with ⟨h1, h2⟩ | ⟨k, h1, h2, h3, h4, h5⟩
  · refine ⟨e + 1, by omega, fun j hj => ?_, fun post hp => ?_, fun post hp => ?_⟩
    · have es := tc_mem_hd hh
      rw [tc_st_e h11, tc_st_hd es] at hj
      exact Or.inr hj
    · refine br_t h1 ⟨hv, ?_⟩
      rw [hc, hen, nI_1]
      exact hp
    · refine tc_markY (by omega) hi hM' _ (br_f (by rw [h1]; decide) ?_)
      rw [nI_1]
      exact hp
  · have hk9 : ¬ nI k < 0 := nI_pos (by omega)
    refine ⟨k + 1, by omega, fun j hj => ?_, fun post hp => ?_, fun post hp => ?_⟩
    · have es := tc_mem_hd h4
      have n7 : ¬ K k = 7 := by rw [h3]; rcases hm with a | a <;> rw [a] <;> decide
      have n10 : ¬ K k = 10 := by rw [h3]; rcases hm with a | a <;> rw [a] <;> decide
      have n11 : ¬ K k = 11 := by rw [h3]; rcases hm with a | a <;> rw [a] <;> decide
      rw [tc_st_p n7 n10 n11, es, tc_st_hd es] at hj
      exact List.mem_cons.mp hj
    · refine br_f (fun z => ?_) ?_
      · rw [h2] at z
        rw [z] at hk9
        exact hk9 (by decide)
      · rw [h2, nI_1]
        exact hp
    · refine tc_markY (by omega) hi hM' _ (br_t (by rw [h2]; exact nI_pos' (by omega)) ?_)
      rw [h2, nI_1]
      exact hp
end
end
section
section
variable {N c i : Nat} {K A B C V O L oa op en ze po pl : Nat → Int32}
/-- what a step of the run leaves: one next place, one set of variables and prints, and the passes of the loops around it alike -/
def tc_ok (N c : Nat) (K A B C V O L oa op en ze po pl : Nat → Int32) (i : Nat) : Prop :=
  ∃ (i' c' : Nat) (V' O' pl' L' : Nat → Int32), i' ≤ N ∧ c' ≤ c + 1 ∧ (∀ y, tc_rg (V' y)) ∧ (∀ j, j ∈ tc_st K i' → K j = 10 → pl' j = L' j) ∧
    (∀ post : Int32 → SX → Prop, post (nI i') (nI N, nI c', V', K, A, B, C, O', oa, op, en, ze, po, pl') → wpX_pass post (nI N, nI c, V, K, A, B, C, O, oa, op, en, ze, po, pl) (nI i)) ∧
    (∀ post : Int32 → SY → Prop, post (nI i') (nI N, nI c', K, A, B, C, V', O', L') → wpY_pass post (nI N, nI c, K, A, B, C, V, O, L) (nI i))
theorem tc_s7 (hN : N ≤ 40) (hi : i < N) (hf : tc_fit (K i) (A i) (B i) (C i)) (hV : ∀ y, tc_rg (V y)) (hT : tc_T K N op en ze po) (hz : tc_st K N = []) (hL : ∀ j, j ∈ tc_st K i → K j = 10 → pl j = L j) (hk : K i = 7) : tc_ok N c K A B C V O L oa op en ze po pl i := by
  have hv : vp_in (nI i) 40 := vp_in_nI (by omega) (by omega)
  have hc : (nI i).toNatClampNeg = i := nI_clamp (by omega)
  have ha : vp_in (A i) 6 := hf.2.2.1 (by rw [hk]; decide) (by rw [hk]; decide) (by rw [hk]; decide)
  obtain ⟨e, he1, he2, he3, he4, heY⟩ := tc_endY (p := nI c) (A := A) (B := B) (C := C) (V := V) (O := O) hN hz hi (Or.inl hk)
  have hen : en i = nI e := hT.2.1 e he2 he3 i he4
  have hM := hT.2.2.1 i hi (Or.inl hk)
  have n7 : ¬ K i < 7 := by rw [hk]; decide
  have n12 : ¬ 12 < K i := by rw [hk]; decide
  have hsub : ∀ {i'}, (∀ j, j ∈ tc_st K i' → j = i ∨ j ∈ tc_st K i) → ∀ j, j ∈ tc_st K i' → K j = 10 → pl j = L j := by
    intro i' hs j hj h10
    rcases hs j hj with h | h
    · rw [h, hk] at h10
      exact absurd h10 (by decide)
    · exact hL j h h10
  by_cases v0 : 0 ≤ V (A i).toNatClampNeg
  · by_cases v1 : V (A i).toNatClampNeg = 0
    · obtain ⟨i', g1, g2, gX, gY⟩ := tc_sec (q := nI c) (A := A) (B := B) (C := C) (V := V) (O := O) (L := L) (oa := oa) (op := op) (ze := ze) (po := po) (pl := pl) hN he1 he2 he3 he4 (Or.inl rfl) hen hM.1
      refine ⟨i', c, V, O, pl, L, g1, by omega, hV, hsub g2, fun post hp => ?_, fun post hp => ?_⟩
      · unfold wpX_pass
        dsimp only
        rw [hc]
        refine ⟨hv, nm_e (br_f n7 (br_f n12 (br_t hk ?_)))⟩
        unfold wpX_chosenSection
        dsimp only
        rw [hc]
        exact ⟨hv, ha, nm_e (br_t v0 (br_t v1 ⟨hv, gX _ hp⟩))⟩
      · unfold wpY_pass
        dsimp only
        rw [hc]
        refine ⟨hv, br_t hk ?_⟩
        unfold wpY_choose
        dsimp only
        refine heY L _ ?_
        rw [hc]
        exact ⟨hv, ha, nm_e (br_t v0 (br_t v1 (gY _ hp)))⟩
    · obtain ⟨i', g1, g2, gX, gY⟩ := tc_sec (q := nI c) (A := A) (B := B) (C := C) (V := V) (O := O) (L := L) (oa := oa) (op := op) (ze := ze) (po := po) (pl := pl) hN he1 he2 he3 he4 (Or.inr rfl) hen hM.2
      refine ⟨i', c, V, O, pl, L, g1, by omega, hV, hsub g2, fun post hp => ?_, fun post hp => ?_⟩
      · unfold wpX_pass
        dsimp only
        rw [hc]
        refine ⟨hv, nm_e (br_f n7 (br_f n12 (br_t hk ?_)))⟩
        unfold wpX_chosenSection
        dsimp only
        rw [hc]
        exact ⟨hv, ha, nm_e (br_t v0 (br_f v1 ⟨hv, gX _ hp⟩))⟩
      · unfold wpY_pass
        dsimp only
        rw [hc]
        refine ⟨hv, br_t hk ?_⟩
        unfold wpY_choose
        dsimp only
        refine heY L _ ?_
        rw [hc]
        exact ⟨hv, ha, nm_e (br_t v0 (br_f v1 (gY _ hp)))⟩
  · refine ⟨i + 1, c, V, O, pl, L, by omega, by omega, hV, hsub (fun j hj => ?_), fun post hp => ?_, fun post hp => ?_⟩
    · rw [tc_st_o (Or.inl hk)] at hj
      exact List.mem_cons.mp hj
    · rw [← nI_1] at hp
      unfold wpX_pass
      dsimp only
      rw [hc]
      refine ⟨hv, nm_e (br_f n7 (br_f n12 (br_t hk ?_)))⟩
      unfold wpX_chosenSection
      dsimp only
      rw [hc]
      exact ⟨hv, ha, nm_e (br_f v0 hp)⟩
    · rw [← nI_1] at hp
      unfold wpY_pass
      dsimp only
      rw [hc]
      refine ⟨hv, br_t hk ?_⟩
      unfold wpY_choose
      dsimp only
      refine heY L _ ?_
      rw [hc]
      exact ⟨hv, ha, nm_e (br_f v0 hp)⟩
theorem tc_s89 (hN : N ≤ 40) (hi : i < N) (hV : ∀ y, tc_rg (V y)) (hT : tc_T K N op en ze po) (hz : tc_st K N = []) (hL : ∀ j, j ∈ tc_st K i → K j = 10 → pl j = L j) (hk : K i = 8 ∨ K i = 9) : tc_ok N c K A B C V O L oa op en ze po pl i := by
  have hv : vp_in (nI i) 40 := vp_in_nI (by omega) (by omega)
  have hc : (nI i).toNatClampNeg = i := nI_clamp (by omega)
  obtain ⟨j, hj, hop⟩ := hT.1 i hi (hk.elim Or.inl (fun z => Or.inr (Or.inl z)))
  have hj7 : K j = 7 := hT.2.2.2 i hi hk j hj
  have hji : j < i := (tc_st_lt K i j (by rw [tc_mem_hd hj]; exact List.mem_cons_self)).1
  have hcj : (nI j).toNatClampNeg = j := nI_clamp (by omega)
  obtain ⟨e, he1, he2, he3, he4, heY⟩ := tc_endY (p := nI c) (A := A) (B := B) (C := C) (V := V) (O := O) hN hz (show j < N by omega) (Or.inl hj7)
  have hen : en j = nI e := hT.2.1 e he2 he3 j he4
  refine ⟨e + 1, c, V, O, pl, L, by omega, by omega, hV, fun x hx h10 => ?_, fun post hp => ?_, fun post hp => ?_⟩
  · rw [tc_st_e he3, tc_st_hd (tc_mem_hd he4)] at hx
    refine hL x ?_ h10
    rw [tc_mem_hd hj, tc_st_hd (tc_mem_hd hj)]
    exact List.mem_cons_of_mem _ hx
  · rw [← nI_1] at hp
    have w : wX_pass_50 post (nI i) (nI N) (nI c) V K A B C O oa op en ze po pl := by
      unfold wX_pass_50
      rw [hc, hop, hcj, hen]
      exact ⟨hv, vp_in_nI (by omega) (by omega), hp⟩
    unfold wpX_pass
    dsimp only
    rw [hc]
    rcases hk with hk | hk
    · exact ⟨hv, nm_e (br_f (by rw [hk]; decide) (br_f (by rw [hk]; decide) (br_f (by rw [hk]; decide) (br_t hk w))))⟩
    · exact ⟨hv, nm_e (br_f (by rw [hk]; decide) (br_f (by rw [hk]; decide) (br_f (by rw [hk]; decide) (br_f (by rw [hk]; decide) (br_t hk w)))))⟩
  · rw [← nI_1] at hp
    have w : wY_pass_85 post (nI i) (nI N) (nI c) K A B C V O L := by
      unfold wY_pass_85
      refine tc_openerY (by omega) _ ?_
      rw [hj]
      exact heY L _ hp
    unfold wpY_pass
    dsimp only
    rw [hc]
    rcases hk with hk | hk
    · exact ⟨hv, br_f (by rw [hk]; decide) ⟨hv, br_f (by rw [hk]; decide) ⟨hv, br_t hk w⟩⟩⟩
    · exact ⟨hv, br_f (by rw [hk]; decide) ⟨hv, br_f (by rw [hk]; decide) ⟨hv, br_f (by rw [hk]; decide) ⟨hv, br_t hk w⟩⟩⟩⟩
theorem tc_s10 (hN : N ≤ 40) (hi : i < N) (hV : ∀ y, tc_rg (V y)) (hT : tc_T K N op en ze po) (hz : tc_st K N = []) (hL : ∀ j, j ∈ tc_st K i → K j = 10 → pl j = L j) (hk : K i = 10) : tc_ok N c K A B C V O L oa op en ze po pl i := by
  have hv : vp_in (nI i) 40 := vp_in_nI (by omega) (by omega)
  have hc : (nI i).toNatClampNeg = i := nI_clamp (by omega)
  have lt : ∀ j, j ∈ tc_st K i → j ≠ i := fun j hj => by
    have := (tc_st_lt K i j hj).1
    omega
  obtain ⟨e, he1, he2, he3, he4, heY⟩ := tc_endY (p := nI c) (A := A) (B := B) (C := C) (V := V) (O := O) hN hz hi (Or.inr hk)
  have hen : en i = nI e := hT.2.1 e he2 he3 i he4
  by_cases a0 : A i = 0
  · refine ⟨e + 1, c, V, O, pl, upd L i (A i), by omega, by omega, hV, fun x hx h10 => ?_, fun post hp => ?_, fun post hp => ?_⟩
    · rw [tc_st_e he3, tc_st_hd (tc_mem_hd he4)] at hx
      rw [pk_un (lt x hx)]
      exact hL x hx h10
    · rw [← nI_1] at hp
      unfold wpX_pass
      dsimp only
      rw [hc]
      refine ⟨hv, nm_e (br_f (by rw [hk]; decide) (br_f (by rw [hk]; decide) (br_f (by rw [hk]; decide) (br_f (by rw [hk]; decide) (br_f (by rw [hk]; decide) (br_t hk ?_))))))⟩
      unfold wpX_enterLoop
      dsimp only
      rw [hc, hen]
      exact ⟨hv, br_t a0 ⟨hv, hp⟩⟩
    · rw [← nI_1] at hp
      unfold wpY_pass
      dsimp only
      rw [hc]
      exact ⟨hv, br_f (by rw [hk]; decide) ⟨hv, br_t hk ⟨hv, hv, nm_e ⟨hv, br_t a0 (heY _ _ hp)⟩⟩⟩⟩
  · refine ⟨i + 1, c, V, O, upd pl i (A i), upd L i (A i), by omega, by omega, hV, fun x hx h10 => ?_, fun post hp => ?_, fun post hp => ?_⟩
    · rw [tc_st_o (Or.inr hk)] at hx
      rcases List.mem_cons.mp hx with h | h
      · rw [h, pk_us, pk_us]
      · rw [pk_un (lt x h), pk_un (lt x h)]
        exact hL x h h10
    · rw [← nI_1] at hp
      unfold wpX_pass
      dsimp only
      rw [hc]
      refine ⟨hv, nm_e (br_f (by rw [hk]; decide) (br_f (by rw [hk]; decide) (br_f (by rw [hk]; decide) (br_f (by rw [hk]; decide) (br_f (by rw [hk]; decide) (br_t hk ?_))))))⟩
      unfold wpX_enterLoop
      dsimp only
      rw [hc]
      exact ⟨hv, br_f a0 ⟨hv, hv, nm_e hp⟩⟩
    · rw [← nI_1] at hp
      unfold wpY_pass
      dsimp only
      rw [hc]
      exact ⟨hv, br_f (by rw [hk]; decide) ⟨hv, br_t hk ⟨hv, hv, nm_e ⟨hv, br_f a0 hp⟩⟩⟩⟩
theorem tc_s11 (hN : N ≤ 40) (hi : i < N) (hV : ∀ y, tc_rg (V y)) (hT : tc_T K N op en ze po) (hL : ∀ j, j ∈ tc_st K i → K j = 10 → pl j = L j) (hk : K i = 11) : tc_ok N c K A B C V O L oa op en ze po pl i := by
  have hv : vp_in (nI i) 40 := vp_in_nI (by omega) (by omega)
  have hc : (nI i).toNatClampNeg = i := nI_clamp (by omega)
  obtain ⟨j, hj, hop⟩ := hT.1 i hi (Or.inr (Or.inr hk))
  have es : tc_st K i = j :: tc_st K j := by
    have := tc_mem_hd hj
    rw [tc_st_hd this] at this
    exact this
  have hji := tc_st_lt K i j (by rw [es]; exact List.mem_cons_self)
  have hcj : (nI j).toNatClampNeg = j := nI_clamp (by omega)
  have hvj : vp_in (nI j) 40 := vp_in_nI (by omega) (by omega)
  have e1 : tc_st K (i + 1) = tc_st K j := by rw [tc_st_e hk, es]; rfl
  have lt : ∀ x, x ∈ tc_st K j → x ≠ j := fun x hx => by
    have := (tc_st_lt K j x hx).1
    omega
  have up : ∀ x, x ∈ tc_st K j → K x = 10 → pl x = L x := fun x hx h10 => hL x (by rw [es]; exact List.mem_cons_of_mem _ hx) h10
  rcases hji.2 with j7 | j10
  · refine ⟨i + 1, c, V, O, pl, L, by omega, by omega, hV, fun x hx h10 => up x (by rw [← e1]; exact hx) h10, fun post hp => ?_, fun post hp => ?_⟩
    · rw [← nI_1] at hp
      unfold wpX_pass
      dsimp only
      rw [hc]
      refine ⟨hv, nm_e (br_f (by rw [hk]; decide) (br_f (by rw [hk]; decide) (br_f (by rw [hk]; decide) (br_f (by rw [hk]; decide) (br_f (by rw [hk]; decide) (br_f (by rw [hk]; decide) (br_t hk ?_)))))))⟩
      unfold wpX_leaveOrRepeat
      dsimp only
      rw [hc, hop]
      refine ⟨hv, nm_e ?_⟩
      rw [hcj]
      exact ⟨hvj, br_f (by rw [j7]; decide) hp⟩
    · rw [← nI_1] at hp
      unfold wpY_pass
      dsimp only
      rw [hc]
      refine ⟨hv, br_f (by rw [hk]; decide) ⟨hv, br_f (by rw [hk]; decide) ⟨hv, br_f (by rw [hk]; decide) ⟨hv, br_f (by rw [hk]; decide) ⟨hv, br_t hk ?_⟩⟩⟩⟩⟩
      refine tc_openerY (by omega) _ ?_
      rw [hj]
      refine ⟨hvj, br_t ?_ hp⟩
      exact (congrArg K hcj).trans j7
  · have hpl : pl j = L j := hL j (by rw [es]; exact List.mem_cons_self) j10
    by_cases c0 : L j - 1 ≤ 0
    · refine ⟨i + 1, c, V, O, upd pl j (L j - 1), upd L j (L j - 1), by omega, by omega, hV, fun x hx h10 => ?_, fun post hp => ?_, fun post hp => ?_⟩
      · rw [e1] at hx
        rw [pk_un (lt x hx), pk_un (lt x hx)]
        exact up x hx h10
      · rw [← nI_1] at hp
        unfold wpX_pass
        dsimp only
        rw [hc]
        refine ⟨hv, nm_e (br_f (by rw [hk]; decide) (br_f (by rw [hk]; decide) (br_f (by rw [hk]; decide) (br_f (by rw [hk]; decide) (br_f (by rw [hk]; decide) (br_f (by rw [hk]; decide) (br_t hk ?_)))))))⟩
        unfold wpX_leaveOrRepeat
        dsimp only
        rw [hc, hop]
        refine ⟨hv, nm_e ?_⟩
        rw [hcj, hpl]
        exact ⟨hvj, br_t j10 ⟨hvj, hvj, nm_e ⟨hvj, br_t (by rw [pk_us]; exact c0) hp⟩⟩⟩
      · rw [← nI_1] at hp
        unfold wpY_pass
        dsimp only
        rw [hc]
        refine ⟨hv, br_f (by rw [hk]; decide) ⟨hv, br_f (by rw [hk]; decide) ⟨hv, br_f (by rw [hk]; decide) ⟨hv, br_f (by rw [hk]; decide) ⟨hv, br_t hk ?_⟩⟩⟩⟩⟩
        refine tc_openerY (by omega) _ ?_
        rw [hj]
        show vp_in (nI j) 40 ∧ _
        unfold tc_v
        rw [hcj]
        exact ⟨hvj, br_f (by rw [j10]; decide) ⟨hvj, hvj, nm_e ⟨hvj, br_t (by rw [pk_us]; exact c0) hp⟩⟩⟩
    · refine ⟨j + 1, c, V, O, upd pl j (L j - 1), upd L j (L j - 1), by omega, by omega, hV, fun x hx h10 => ?_, fun post hp => ?_, fun post hp => ?_⟩
      · rw [tc_st_o (Or.inr j10)] at hx
        rcases List.mem_cons.mp hx with h | h
        · rw [h, pk_us, pk_us]
        · rw [pk_un (lt x h), pk_un (lt x h)]
          exact up x h h10
      · rw [← nI_1] at hp
        unfold wpX_pass
        dsimp only
        rw [hc]
        refine ⟨hv, nm_e (br_f (by rw [hk]; decide) (br_f (by rw [hk]; decide) (br_f (by rw [hk]; decide) (br_f (by rw [hk]; decide) (br_f (by rw [hk]; decide) (br_f (by rw [hk]; decide) (br_t hk ?_)))))))⟩
        unfold wpX_leaveOrRepeat
        dsimp only
        rw [hc, hop]
        refine ⟨hv, nm_e ?_⟩
        rw [hcj, hpl]
        exact ⟨hvj, br_t j10 ⟨hvj, hvj, nm_e ⟨hvj, br_f (by rw [pk_us]; exact c0) hp⟩⟩⟩
      · rw [← nI_1] at hp
        unfold wpY_pass
        dsimp only
        rw [hc]
        refine ⟨hv, br_f (by rw [hk]; decide) ⟨hv, br_f (by rw [hk]; decide) ⟨hv, br_f (by rw [hk]; decide) ⟨hv, br_f (by rw [hk]; decide) ⟨hv, br_t hk ?_⟩⟩⟩⟩⟩
        refine tc_openerY (by omega) _ ?_
        rw [hj]
        show vp_in (nI j) 40 ∧ _
        unfold tc_v
        rw [hcj]
        exact ⟨hvj, br_f (by rw [j10]; decide) ⟨hvj, hvj, nm_e ⟨hvj, br_f (by rw [pk_us]; exact c0) hp⟩⟩⟩
theorem tc_s12 (hN : N ≤ 40) (hi : i < N) (hcc : c < 5000) (hf : tc_fit (K i) (A i) (B i) (C i)) (hV : ∀ y, tc_rg (V y)) (hL : ∀ j, j ∈ tc_st K i → K j = 10 → pl j = L j) (hk : K i = 12) : tc_ok N c K A B C V O L oa op en ze po pl i := by
  have hv : vp_in (nI i) 40 := vp_in_nI (by omega) (by omega)
  have hc : (nI i).toNatClampNeg = i := nI_clamp (by omega)
  have hkx : K (nI i).toNatClampNeg = 12 := by rw [hc]; exact hk
  have ha : vp_in (A (nI i).toNatClampNeg) 6 := by rw [hc]; exact hf.2.2.1 (by rw [hk]; decide) (by rw [hk]; decide) (by rw [hk]; decide)
  have e1 : tc_st K (i + 1) = tc_st K i := tc_st_p (by rw [hk]; decide) (by rw [hk]; decide) (by rw [hk]; decide)
  by_cases h48 : c < 48
  · have n48 : ¬ (48 : Int32) ≤ nI c := nI_ge (b := 48) h48 (by decide)
    have hvc : vp_in (nI c) 48 := vp_in_nI h48 (by omega)
    refine ⟨i + 1, c + 1, V, upd O (nI c).toNatClampNeg (V (A (nI i).toNatClampNeg).toNatClampNeg), pl, L, by omega, by omega, hV, fun x hx h10 => hL x (by rw [← e1]; exact hx) h10, fun post hp => ?_, fun post hp => ?_⟩
    · rw [← nI_1, ← nI_1] at hp
      exact tc_prX hv hkx ha (br_f n48 ⟨hvc, hp⟩)
    · rw [← nI_1, ← nI_1] at hp
      exact tc_plY hv (by rw [hkx]; decide) (by rw [hkx]; decide) (by rw [hkx]; decide) (by rw [hkx]; decide) (by rw [hkx]; decide) (tc_prY hv hkx ha (br_f n48 ⟨hvc, hp⟩))
  · have y48 : (48 : Int32) ≤ nI c := nI_le (a := 48) (by omega) (by omega)
    refine ⟨i + 1, c + 1, V, O, pl, L, by omega, by omega, hV, fun x hx h10 => hL x (by rw [← e1]; exact hx) h10, fun post hp => ?_, fun post hp => ?_⟩
    · rw [← nI_1, ← nI_1] at hp
      exact tc_prX hv hkx ha (br_t y48 hp)
    · rw [← nI_1, ← nI_1] at hp
      exact tc_plY hv (by rw [hkx]; decide) (by rw [hkx]; decide) (by rw [hkx]; decide) (by rw [hkx]; decide) (by rw [hkx]; decide) (tc_prY hv hkx ha (br_t y48 hp))
theorem tc_sp (hN : N ≤ 40) (hi : i < N) (hf : tc_fit (K i) (A i) (B i) (C i)) (hV : ∀ y, tc_rg (V y)) (hL : ∀ j, j ∈ tc_st K i → K j = 10 → pl j = L j) (hk : K i < 7) : tc_ok N c K A B C V O L oa op en ze po pl i := by
  have hv : vp_in (nI i) 40 := vp_in_nI (by omega) (by omega)
  have hc : (nI i).toNatClampNeg = i := nI_clamp (by omega)
  have ne : ∀ m : Int32, ¬ m < 7 → ¬ K i = m := fun m hm z => hm (by rw [← z]; exact hk)
  have e1 : tc_st K (i + 1) = tc_st K i := tc_st_p (ne 7 (by decide)) (ne 10 (by decide)) (ne 11 (by decide))
  obtain ⟨w, hw, hX, hY⟩ := tc_pl (N := N) (q := nI c) (x := nI i) (K := K) (A := A) (B := B) (C := C) (V := V) (O := O) (L := L) (oa := oa) (op := op) (en := en) (ze := ze) (po := po) (pl := pl) hv (by rw [hc]; exact hf) (by rw [hc]; exact hk) hV
  rw [nI_1] at hX hY
  exact ⟨i + 1, c, _, O, pl, L, by omega, by omega, tc_rg_u hV hw _, fun x hx h10 => hL x (by rw [← e1]; exact hx) h10, hX, hY⟩
theorem tc_step (hN : N ≤ 40) (hi : i < N) (hcc : c < 5000) (hf : tc_fit (K i) (A i) (B i) (C i)) (hV : ∀ y, tc_rg (V y)) (hT : tc_T K N op en ze po) (hz : tc_st K N = []) (hL : ∀ j, j ∈ tc_st K i → K j = 10 → pl j = L j) : tc_ok N c K A B C V O L oa op en ze po pl i := by
  rcases tc_k13 hf.1 hf.2.1 with k | k | k | k | k | k | k | k | k | k | k | k | k
  · exact tc_sp hN hi hf hV hL (by rw [k]; decide)
  · exact tc_sp hN hi hf hV hL (by rw [k]; decide)
  · exact tc_sp hN hi hf hV hL (by rw [k]; decide)
  · exact tc_sp hN hi hf hV hL (by rw [k]; decide)
  · exact tc_sp hN hi hf hV hL (by rw [k]; decide)
  · exact tc_sp hN hi hf hV hL (by rw [k]; decide)
  · exact tc_sp hN hi hf hV hL (by rw [k]; decide)
  · exact tc_s7 hN hi hf hV hT hz hL k
  · exact tc_s89 hN hi hV hT hz hL (Or.inl k)
  · exact tc_s89 hN hi hV hT hz hL (Or.inr k)
  · exact tc_s10 hN hi hV hT hz hL k
  · exact tc_s11 hN hi hV hT hL k
  · exact tc_s12 hN hi hcc hf hV hL k
end
end
section
section
variable {N : Nat} {K A B C oa op en ze po : Nat → Int32}
theorem tc_run (hN : N ≤ 40) (hf : ∀ i, i < N → tc_fit (K i) (A i) (B i) (C i)) (hT : tc_T K N op en ze po) (hz : tc_st K N = []) : ∀ (d t i c : Nat) (V O pl L : Nat → Int32), t + d = 5000 → i ≤ N → c ≤ t → (∀ y, tc_rg (V y)) → (∀ j, j ∈ tc_st K i → K j = 10 → pl j = L j) → ∃ (c' : Nat) (V' O' pl' L' : Nat → Int32), (∀ y, tc_rg (V' y)) ∧ (∀ (post : Int32 → SX → Prop) (n : Nat), d < n → post (nI c') (nI N, nI c', V', K, A, B, C, O', oa, op, en, ze, po, pl') → wX_run_20 post n (nI i) (nI t) (nI N) (nI c) V K A B C O oa op en ze po pl) ∧ (∀ (post : Int32 → SY → Prop) (n : Nat), d < n → post (nI c') (nI N, nI c', K, A, B, C, V', O', L') → wY_run_20 post n (nI i) (nI t) (nI N) (nI c) K A B C V O L) := by
  intro d
  induction d with
  | zero =>
    intro t i c V O pl L ht hi hc hV hL
    have e : t = 5000 := by omega
    subst e
    have h5 : (5000 : Int32) ≤ nI 5000 := nI_le (a := 5000) (by omega) (by omega)
    refine ⟨c, V, O, pl, L, hV, fun post n hn hp => ?_, fun post n hn hp => ?_⟩
    · obtain ⟨n, rfl⟩ : ∃ z, n = z + 1 := ⟨n - 1, by omega⟩
      exact br_t h5 hp
    · obtain ⟨n, rfl⟩ : ∃ z, n = z + 1 := ⟨n - 1, by omega⟩
      exact br_t h5 hp
  | succ d ih =>
    intro t i c V O pl L ht hi hc hV hL
    have h5 : ¬ (5000 : Int32) ≤ nI t := nI_ge (b := 5000) (by omega) (by decide)
    by_cases hiN : i < N
    · obtain ⟨i', c1, V1, O1, pl1, L1, g1, g2, g3, g4, gX, gY⟩ := tc_step (c := c) (O := O) (oa := oa) hN hiN (by omega) (hf i hiN) hV hT hz hL
      obtain ⟨c', V', O', pl', L', h1, h2, h3⟩ := ih (t + 1) i' c1 V1 O1 pl1 L1 (by omega) g1 (by omega) g3 g4
      refine ⟨c', V', O', pl', L', h1, fun post n hn hp => ?_, fun post n hn hp => ?_⟩
      · obtain ⟨n, rfl⟩ : ∃ z, n = z + 1 := ⟨n - 1, by omega⟩
        refine br_f h5 (br_f (nI_ge hiN (by omega)) (gX _ (nm_r (nI_1 t) ?_)))
        exact h2 post n (by omega) hp
      · obtain ⟨n, rfl⟩ : ∃ z, n = z + 1 := ⟨n - 1, by omega⟩
        refine br_f h5 (br_f (nI_ge hiN (by omega)) (gY _ (nm_r (nI_1 t) ?_)))
        exact h3 post n (by omega) hp
    · have hle : nI N ≤ nI i := nI_le (by omega) (by omega)
      refine ⟨c, V, O, pl, L, hV, fun post n hn hp => ?_, fun post n hn hp => ?_⟩
      · obtain ⟨n, rfl⟩ : ∃ z, n = z + 1 := ⟨n - 1, by omega⟩
        exact br_f h5 (br_t hle hp)
      · obtain ⟨n, rfl⟩ : ∃ z, n = z + 1 := ⟨n - 1, by omega⟩
        exact br_f h5 (br_t hle hp)
end
/-! variables, and what add lets in -/
theorem tc_vin {v : Int32} (h0 : ¬ v < 0) (h6 : v.toInt < 6) : vp_in v 6 := by
  rw [vp_in_iff]
  rw [tc_lt, show (0 : Int32).toInt = 0 from by decide] at h0
  exact ⟨by omega, by omega⟩
theorem tc_isX {v : Int32} (post : Int32 → Prop) (h1 : vp_in v 6 → post 1) (h0 : ¬ vp_in v 6 → post 0) : wpX_isVariable post v := by
  have e0 : (0 : Int32).toInt = 0 := by decide
  have e6 : (6 : Int32).toInt = 6 := by decide
  refine br_c (fun a => h0 (fun z => ?_)) (fun a => br_c (fun b => h0 (fun z => ?_)) (fun b => h1 (tc_vin a ?_)))
  · rw [vp_in_iff] at z
    rw [tc_lt, e0] at a
    omega
  · rw [vp_in_iff] at z
    rw [tc_le, e6] at b
    omega
  · rw [tc_le, e6] at b
    omega
theorem tc_isY {v : Int32} (post : Int32 → Prop) (s : SY) (h1 : vp_in v 6 → post 1) (h0 : ¬ vp_in v 6 → post 0) : wpY_isVariable post s v := by
  have e0 : (0 : Int32).toInt = 0 := by decide
  have e5 : (5 : Int32).toInt = 5 := by decide
  refine br_c (fun a => h0 (fun z => ?_)) (fun a => br_c (fun b => h0 (fun z => ?_)) (fun b => h1 (tc_vin a ?_)))
  · rw [vp_in_iff] at z
    rw [tc_lt, e0] at a
    omega
  · rw [vp_in_iff] at z
    rw [tc_lt, e5] at b
    omega
  · rw [tc_lt, e5] at b
    omega
section
variable {N : Nat} {q k a b c : Int32} {K A B C V O L oa op en ze po pl : Nat → Int32}
theorem tc_a82 (hN : N < 40) {post : Int32 → SX → Prop} (h : post (nI (N + 1)) (nI (N + 1), q, V, upd K N k, upd A N a, upd B N b, upd C N c, O, oa, op, en, ze, po, pl)) : wX_add_82 post k a b c (nI N) q V K A B C O oa op en ze po pl := by
  have hv : vp_in (nI N) 40 := vp_in_nI hN (by omega)
  have hc : (nI N).toNatClampNeg = N := nI_clamp (by omega)
  unfold wX_add_82
  rw [hc]
  exact ⟨hv, nm_e ⟨hv, nm_e ⟨hv, nm_e ⟨hv, nm_e (nm_r (nI_1 N) h)⟩⟩⟩⟩
theorem tc_a63 (h0 : ¬ k < 0) (h12 : k ≤ 12) (ha : ¬ k = 8 → ¬ k = 9 → ¬ k = 11 → vp_in a 6) (hb : ¬ k < 1 → ¬ 6 < k → vp_in b 6) {post : Int32 → SX → Prop} (yes : tc_fit k a b c → wX_add_82 post k a b c (nI N) q V K A B C O oa op en ze po pl) (no : ¬ tc_fit k a b c → post (-10000) (nI N, q, V, K, A, B, C, O, oa, op, en, ze, po, pl)) : wX_add_63 post k a b c (nI N) q V K A B C O oa op en ze po pl := by
  have h3 : ∀ m : k = 1 ∨ k = 2 ∨ k = 3 ∨ k = 6, wpX_isVariable (fun r => ((r = 0 → post (-10000) (nI N, q, V, K, A, B, C, O, oa, op, en, ze, po, pl)) ∧ (¬ r = 0 → wX_add_82 post k a b c (nI N) q V K A B C O oa op en ze po pl))) c :=
    fun m => tc_isX _ (fun z => br_f (by decide) (yes ⟨h0, h12, ha, hb, fun _ => z⟩)) (fun z => br_t rfl (no (fun f => z (f.2.2.2.2 m))))
  exact br_c (fun m => br_f (by decide) (h3 (Or.inl m))) (fun m1 => br_c (fun m => br_f (by decide) (h3 (Or.inr (Or.inl m)))) (fun m2 => br_c (fun m => br_f (by decide) (h3 (Or.inr (Or.inr (Or.inl m))))) (fun m3 => br_c (fun m => br_f (by decide) (h3 (Or.inr (Or.inr (Or.inr m))))) (fun m4 => br_t rfl (yes ⟨h0, h12, ha, hb, fun z => (z.elim m1 (fun z => z.elim m2 (fun z => z.elim m3 m4))).elim⟩)))))
theorem tc_a45 (h0 : ¬ k < 0) (h12 : k ≤ 12) (ha : ¬ k = 8 → ¬ k = 9 → ¬ k = 11 → vp_in a 6) {post : Int32 → SX → Prop} (yes : tc_fit k a b c → wX_add_82 post k a b c (nI N) q V K A B C O oa op en ze po pl) (no : ¬ tc_fit k a b c → post (-10000) (nI N, q, V, K, A, B, C, O, oa, op, en, ze, po, pl)) : wX_add_45 post k a b c (nI N) q V K A B C O oa op en ze po pl := by
  refine br_c (fun m => br_t rfl (tc_a63 h0 h12 ha (fun z => absurd m z) yes no)) (fun m1 => br_c (fun m => br_t rfl (tc_a63 h0 h12 ha (fun _ z => absurd m z) yes no)) (fun m2 => br_f (by decide) ?_))
  exact tc_isX _ (fun z => br_f (by decide) (tc_a63 h0 h12 ha (fun _ _ => z) yes no)) (fun z => br_t rfl (no (fun f => z (f.2.2.2.1 m1 m2))))
theorem tc_addX (hN : N < 40) {post : Int32 → SX → Prop} (yes : tc_fit k a b c → post (nI (N + 1)) (nI (N + 1), q, V, upd K N k, upd A N a, upd B N b, upd C N c, O, oa, op, en, ze, po, pl)) (no : ¬ tc_fit k a b c → post (-10000) (nI N, q, V, K, A, B, C, O, oa, op, en, ze, po, pl)) : wpX_add post (nI N, q, V, K, A, B, C, O, oa, op, en, ze, po, pl) k a b c := by
  have yes' : tc_fit k a b c → wX_add_82 post k a b c (nI N) q V K A B C O oa op en ze po pl := fun f => tc_a82 hN (yes f)
  refine br_t (nI_lt (b := 40) hN (by decide)) (br_c (fun m => no (fun f => f.1 m)) (fun h0 => br_c (fun h12 => ?_) (fun m => no (fun f => m f.2.1))))
  refine br_c (fun m => br_t rfl (tc_a45 h0 h12 (fun z => absurd m z) yes' no)) (fun m1 => br_c (fun m => br_t rfl (tc_a45 h0 h12 (fun _ z => absurd m z) yes' no)) (fun m2 => br_c (fun m => br_t rfl (tc_a45 h0 h12 (fun _ _ z => absurd m z) yes' no)) (fun m3 => br_f (by decide) ?_)))
  exact tc_isX _ (fun z => br_f (by decide) (tc_a45 h0 h12 (fun _ _ _ => z) yes' no)) (fun z => br_t rfl (no (fun f => z (f.2.2.1 m1 m2 m3))))
theorem tc_f63 (h0 : ¬ k < 0) (h12 : k ≤ 12) (ha : vp_in a 6) (hb : ¬ k < 1 → ¬ 6 < k → vp_in b 6) {post : Int32 → Prop} (yes : tc_fit k a b c → post 1) (no : ¬ tc_fit k a b c → post 0) : wY_fits_63 post k c (nI N) q K A B C V O L := by
  have h3 : ∀ m : k = 1 ∨ k = 2 ∨ k = 3 ∨ k = 6, wY_fits_84 post c (nI N) q K A B C V O L :=
    fun m => tc_isY _ _ (fun z => br_f (by decide) (yes ⟨h0, h12, fun _ _ _ => ha, hb, fun _ => z⟩)) (fun z => br_t rfl (no (fun f => z (f.2.2.2.2 m))))
  exact br_c (fun m => h3 (Or.inl m)) (fun m1 => br_c (fun m => h3 (Or.inr (Or.inl m))) (fun m2 => br_c (fun m => h3 (Or.inr (Or.inr (Or.inl m)))) (fun m3 => br_c (fun m => h3 (Or.inr (Or.inr (Or.inr m)))) (fun m4 => yes ⟨h0, h12, fun _ _ _ => ha, hb, fun z => (z.elim m1 (fun z => z.elim m2 (fun z => z.elim m3 m4))).elim⟩))))
theorem tc_fitsYY {post : Int32 → Prop} (yes : tc_fit k a b c → post 1) (no : ¬ tc_fit k a b c → post 0) : wpY_fits post (nI N, q, K, A, B, C, V, O, L) k a b c := by
  have y8 : ∀ {m : Int32}, k = m → (m = 8 ∨ m = 9 ∨ m = 11) → post 1 := by
    intro m e hm
    subst e
    refine yes ?_
    rcases hm with e | e | e <;> rw [e]
    · exact ⟨by decide, by decide, fun z => absurd rfl z, fun _ z => absurd (by decide) z, fun z => absurd z (by decide)⟩
    · exact ⟨by decide, by decide, fun _ z => absurd rfl z, fun _ z => absurd (by decide) z, fun z => absurd z (by decide)⟩
    · exact ⟨by decide, by decide, fun _ _ z => absurd rfl z, fun _ z => absurd (by decide) z, fun z => absurd z (by decide)⟩
  refine br_c (fun m => no (fun f => f.1 m)) (fun h0 => br_c (fun h12 => ?_) (fun m => no (fun f => m f.2.1)))
  refine br_c (fun m => y8 m (Or.inl rfl)) (fun m1 => br_c (fun m => y8 m (Or.inr (Or.inl rfl))) (fun m2 => br_c (fun m => y8 m (Or.inr (Or.inr rfl))) (fun m3 => ?_)))
  refine tc_isY _ _ (fun ha => br_f (by decide) ?_) (fun z => br_t rfl (no (fun f => z (f.2.2.1 m1 m2 m3))))
  refine br_c (fun m => tc_f63 h0 h12 ha (fun z => absurd m z) yes no) (fun n1 => br_c (fun m => tc_f63 h0 h12 ha (fun _ z => absurd m z) yes no) (fun n2 => ?_))
  exact tc_isY _ _ (fun z => br_f (by decide) (tc_f63 h0 h12 ha (fun _ _ => z) yes no)) (fun z => br_t rfl (no (fun f => z (f.2.2.2.1 n1 n2))))
theorem tc_addY (hN : N < 40) {post : Int32 → SY → Prop} (yes : tc_fit k a b c → post (nI (N + 1)) (nI (N + 1), q, upd K N k, upd A N a, upd B N b, upd C N c, V, O, L)) (no : ¬ tc_fit k a b c → post (-10000) (nI N, q, K, A, B, C, V, O, L)) : wpY_add post (nI N, q, K, A, B, C, V, O, L) k a b c := by
  have hv : vp_in (nI N) 40 := vp_in_nI hN (by omega)
  have hc : (nI N).toNatClampNeg = N := nI_clamp (by omega)
  have ne : ¬ nI N = 40 := fun z => by
    have := (nI_eq (a := N) (b := 40) (by omega) (by omega)).mp z
    omega
  unfold wpY_add
  dsimp only
  rw [hc]
  refine br_f ne (tc_fitsYY (fun f => br_f (by decide) ?_) (fun f => br_t rfl (no f)))
  exact ⟨hv, nm_e ⟨hv, nm_e ⟨hv, nm_e ⟨hv, nm_e (nm_r (nI_1 N) (yes f))⟩⟩⟩⟩
/-- clear -/
theorem tc_clr : ∀ (d i : Nat) (V : Nat → Int32), i + d = 6 → (∀ y, tc_rg (V y)) → ∃ V' : Nat → Int32, (∀ y, tc_rg (V' y)) ∧ (∀ (post : SX → Prop) (n : Nat), d < n → post (0, 0, V', K, A, B, C, O, oa, op, en, ze, po, pl) → wX_clear_12 post 0 0 n (nI i) V K A B C O oa op en ze po pl) ∧ (∀ (post : SY → Prop) (n : Nat), d < n → post (0, 0, K, A, B, C, V', O, L) → wY_clear_12 post 0 0 n (nI i) K A B C V O L) := by
  intro d
  induction d with
  | zero =>
    intro i V hi hV
    have e : i = 6 := by omega
    subst e
    refine ⟨V, hV, fun post n hn hp => ?_, fun post n hn hp => ?_⟩
    · obtain ⟨n, rfl⟩ : ∃ z, n = z + 1 := ⟨n - 1, by omega⟩
      exact br_t (by decide) hp
    · obtain ⟨n, rfl⟩ : ∃ z, n = z + 1 := ⟨n - 1, by omega⟩
      exact br_t (by decide) hp
  | succ d ih =>
    intro i V hi hV
    have h6 : ¬ (6 : Int32) ≤ nI i := nI_ge (b := 6) (by omega) (by decide)
    have hv : vp_in (nI i) 6 := vp_in_nI (by omega) (by omega)
    obtain ⟨V', h1, h2, h3⟩ := ih (i + 1) (upd V (nI i).toNatClampNeg 0) (by omega) (tc_rg_u hV (by unfold tc_rg; decide) _)
    refine ⟨V', h1, fun post n hn hp => ?_, fun post n hn hp => ?_⟩
    · obtain ⟨n, rfl⟩ : ∃ z, n = z + 1 := ⟨n - 1, by omega⟩
      exact br_f h6 ⟨hv, nm_e (nm_r (nI_1 i) (h2 post n (by omega) hp))⟩
    · obtain ⟨n, rfl⟩ : ∃ z, n = z + 1 := ⟨n - 1, by omega⟩
      exact br_f h6 ⟨hv, nm_e (nm_r (nI_1 i) (h3 post n (by omega) hp))⟩
end
end
section
/-- the same program, variables and prints; the program is one that add let in; the variables are in the range of nine trits; X's tables and the passes of loops are free between the calls -/
def i_Rel (k : Nat) (u : SX) (v : SY) : Prop := ∃ (N : Nat) (q : Int32) (V K A B C O oa op en ze po pl L : Nat → Int32), u = (nI N, q, V, K, A, B, C, O, oa, op, en, ze, po, pl) ∧ v = (nI N, q, K, A, B, C, V, O, L) ∧ N ≤ 40 ∧ (∀ i, i < N → tc_fit (K i) (A i) (B i) (C i)) ∧ (∀ y, tc_rg (V y))
theorem i_up {k : Nat} {u : SX} {v : SY} (h : i_Rel k u v) : i_Rel (k + 5) u v := h
theorem i_vc0 : wpX_init (fun u => wpY_init (fun v => i_Rel 0 u v)) :=
  ⟨0, 0, _, _, _, _, _, _, _, _, _, _, _, _, _, rfl, rfl, by omega, fun i hi => absurd hi (by omega), fun y => by unfold tc_rg; decide⟩
theorem i_vc_add {k : Nat} {u : SX} {v : SY} (I : i_Rel k u v) (hk : k + 5 ≤ 2560) (v1 : Int32) (v2 : Int32) (v3 : Int32) (v4 : Int32) : wpX_add (fun r u' => wpY_add (fun r' v' => r' = r ∧ i_Rel (k + 5) u' v') v v1 v2 v3 v4) u v1 v2 v3 v4 := by
  obtain ⟨N, q, V, K, A, B, C, O, oa, op, en, ze, po, pl, L, rfl, rfl, hN, hf, hV⟩ := I
  by_cases h : N < 40
  · refine tc_addX h (fun f => tc_addY h (fun _ => ⟨rfl, ?_⟩) (fun g => absurd f g)) (fun f => tc_addY h (fun g => absurd g f) (fun _ => ⟨rfl, ?_⟩))
    · refine ⟨N + 1, q, V, _, _, _, _, O, oa, op, en, ze, po, pl, L, rfl, rfl, by omega, fun i hi => ?_, hV⟩
      by_cases g : i = N
      · subst g; rw [pk_us, pk_us, pk_us, pk_us]; exact f
      · rw [pk_un g, pk_un g, pk_un g, pk_un g]; exact hf i (by omega)
    · exact ⟨N, q, V, K, A, B, C, O, oa, op, en, ze, po, pl, L, rfl, rfl, hN, hf, hV⟩
  · have e : N = 40 := by omega
    subst e
    exact br_f (by decide) (br_t rfl ⟨rfl, 40, q, V, K, A, B, C, O, oa, op, en, ze, po, pl, L, rfl, rfl, hN, hf, hV⟩)
theorem i_vc_retract {k : Nat} {u : SX} {v : SY} (I : i_Rel k u v) (hk : k + 5 ≤ 2560) : wpX_retract (fun r u' => wpY_retract (fun r' v' => r' = r ∧ i_Rel (k + 5) u' v') v) u := by
  obtain ⟨N, q, V, K, A, B, C, O, oa, op, en, ze, po, pl, L, rfl, rfl, hN, hf, hV⟩ := I
  cases N with
  | zero => exact br_f (by decide) (br_t rfl ⟨rfl, 0, q, V, K, A, B, C, O, oa, op, en, ze, po, pl, L, rfl, rfl, hN, hf, hV⟩)
  | succ N =>
    exact br_t (nI_lt (a := 0) (by omega) (by omega)) (nm_r (nI_pred N) (br_f (nI_ne0 (by omega) (by omega)) (nm_r (nI_pred N) ⟨rfl, N, q, V, K, A, B, C, O, oa, op, en, ze, po, pl, L, rfl, rfl, by omega, fun i hi => hf i (by omega), hV⟩)))
theorem i_vc_sound {k : Nat} {u : SX} {v : SY} (I : i_Rel k u v) (hk : k + 5 ≤ 2560) : wpX_sound (fun r u' => wpY_sound (fun r' => r' = r ∧ i_Rel (k + 5) u' v) v) u := by
  obtain ⟨N, q, V, K, A, B, C, O, oa, op, en, ze, po, pl, L, rfl, rfl, hN, hf, hV⟩ := I
  obtain ⟨r, oa', op', en', ze', po', h1, hX, hY⟩ := tc_lnk (p := q) (K := K) (A := A) (B := B) (C := C) (V := V) (O := O) (L := L) (pl := pl) hN oa op en ze po
  unfold wpX_sound
  dsimp only
  refine hX _ ⟨?_, hY _ ⟨rfl, N, q, V, K, A, B, C, O, oa', op', en', ze', po', pl, L, rfl, rfl, hN, hf, hV⟩⟩
  rcases h1 with h | h
  · rw [h]; rfl
  · rw [h.1]; rfl
theorem i_vc_put {k : Nat} {u : SX} {v : SY} (I : i_Rel k u v) (hk : k + 5 ≤ 2560) (v1 : Int32) (v2 : Int32) : wpX_put (fun r u' => wpY_put (fun r' v' => r' = r ∧ i_Rel (k + 5) u' v') v v1 v2) u v1 v2 := by
  obtain ⟨N, q, V, K, A, B, C, O, oa, op, en, ze, po, pl, L, rfl, rfl, hN, hf, hV⟩ := I
  obtain ⟨w, hw, hX, hY⟩ := tc_wrap v2 v2.toInt64 (Jvm.Kit.i64_of_i32 _)
  unfold wpX_put wpY_put
  dsimp only
  refine tc_isX _ (fun z => br_f (by decide) (hX _ ⟨z, nm_e ?_⟩)) (fun z => br_t rfl ?_)
  · refine tc_isY _ _ (fun z => br_f (by decide) (hY _ _ ⟨z, nm_e ⟨rfl, ?_⟩⟩)) (fun g => absurd z g)
    exact ⟨N, q, _, K, A, B, C, O, oa, op, en, ze, po, pl, L, rfl, rfl, hN, hf, tc_rg_u hV hw _⟩
  · refine tc_isY _ _ (fun g => absurd g z) (fun _ => br_t rfl ⟨rfl, ?_⟩)
    exact ⟨N, q, V, K, A, B, C, O, oa, op, en, ze, po, pl, L, rfl, rfl, hN, hf, hV⟩
theorem i_vc_run {k : Nat} {u : SX} {v : SY} (I : i_Rel k u v) (hk : k + 5 ≤ 2560) : wpX_run (fun r u' => wpY_run (fun r' v' => r' = r ∧ i_Rel (k + 5) u' v') v) u := by
  obtain ⟨N, q, V, K, A, B, C, O, oa, op, en, ze, po, pl, L, rfl, rfl, hN, hf, hV⟩ := I
  obtain ⟨r, oa', op', en', ze', po', h1, hX, hY⟩ := tc_lnk (p := q) (K := K) (A := A) (B := B) (C := C) (V := V) (O := O) (L := L) (pl := pl) hN oa op en ze po
  unfold wpX_run wpY_run
  dsimp only
  refine hX _ ?_
  rcases h1 with h | ⟨h, hT, hz⟩
  · refine br_t h (hY _ (br_t h ⟨rfl, ?_⟩))
    exact ⟨N, q, V, K, A, B, C, O, oa', op', en', ze', po', pl, L, rfl, rfl, hN, hf, hV⟩
  · obtain ⟨c', V', O', pl', L', g1, g2, g3⟩ := tc_run (oa := oa') hN hf hT hz 5000 0 0 0 V O pl L (by omega) (by omega) (by omega) hV (fun j hj => nomatch hj)
    refine br_f (by rw [h]; decide) ⟨5001, g2 _ 5001 (by omega) (hY _ (br_f (by rw [h]; decide) ⟨5001, g3 _ 5001 (by omega) ⟨rfl, ?_⟩⟩))⟩
    exact ⟨N, nI c', V', K, A, B, C, O', oa', op', en', ze', po', pl', L', rfl, rfl, hN, hf, g1⟩
theorem i_vc_variable {k : Nat} {u : SX} {v : SY} (I : i_Rel k u v) (hk : k + 5 ≤ 2560) (v1 : Int32) : wpX_variable (fun r => wpY_variable (fun r' => r' = r ∧ i_Rel (k + 5) u v) v v1) u v1 := by
  obtain ⟨N, q, V, K, A, B, C, O, oa, op, en, ze, po, pl, L, rfl, rfl, hN, hf, hV⟩ := I
  have R : i_Rel (k + 5) (nI N, q, V, K, A, B, C, O, oa, op, en, ze, po, pl) (nI N, q, K, A, B, C, V, O, L) := ⟨N, q, V, K, A, B, C, O, oa, op, en, ze, po, pl, L, rfl, rfl, hN, hf, hV⟩
  unfold wpX_variable wpY_variable
  dsimp only
  refine tc_isX _ (fun z => br_f (by decide) ⟨z, ?_⟩) (fun z => br_t rfl ?_)
  · exact tc_isY _ _ (fun z => br_f (by decide) ⟨z, rfl, R⟩) (fun g => absurd z g)
  · exact tc_isY _ _ (fun g => absurd g z) (fun _ => br_t rfl ⟨rfl, R⟩)
theorem i_vc_trit {k : Nat} {u : SX} {v : SY} (I : i_Rel k u v) (hk : k + 5 ≤ 2560) (v1 : Int32) (v2 : Int32) : wpX_trit (fun r => wpY_trit (fun r' => r' = r ∧ i_Rel (k + 5) u v) v v1 v2) u v1 v2 := by
  obtain ⟨N, q, V, K, A, B, C, O, oa, op, en, ze, po, pl, L, rfl, rfl, hN, hf, hV⟩ := I
  have R : i_Rel (k + 5) (nI N, q, V, K, A, B, C, O, oa, op, en, ze, po, pl) (nI N, q, K, A, B, C, V, O, L) := ⟨N, q, V, K, A, B, C, O, oa, op, en, ze, po, pl, L, rfl, rfl, hN, hf, hV⟩
  unfold wpX_trit wpY_trit
  dsimp only
  refine tc_isX _ (fun z => br_f (by decide) ?_) (fun z => br_t rfl ?_)
  · by_cases h0 : v2 < 0
    · exact br_t h0 (tc_isY _ _ (fun _ => br_f (by decide) (br_t h0 ⟨rfl, R⟩)) (fun g => absurd z g))
    · obtain ⟨j, hj, rfl⟩ := nI_of h0
      by_cases h9 : j < 9
      · refine br_f h0 (br_t (nI_lt (b := 9) h9 (by decide)) ⟨z, nm_e ⟨j + 1, tc_trX h9 j 0 (j + 1) _ _ (by omega) (by omega) ?_⟩⟩)
        exact tc_isY _ _ (fun _ => br_f (by decide) (br_f h0 (br_f (nI_nlt (a := 8) (by omega) (by omega)) ⟨z, tc_tritY h9 _ _ ⟨rfl, R⟩⟩))) (fun g => absurd z g)
      · refine br_f h0 (br_f (nI_nlt (b := 9) (by omega) hj) ?_)
        exact tc_isY _ _ (fun _ => br_f (by decide) (br_f h0 (br_t (nI_lt (a := 8) (by omega) hj) ⟨rfl, R⟩))) (fun g => absurd z g)
  · exact tc_isY _ _ (fun g => absurd g z) (fun _ => br_t rfl ⟨rfl, R⟩)
theorem i_vc_printed {k : Nat} {u : SX} {v : SY} (I : i_Rel k u v) (hk : k + 5 ≤ 2560) : wpX_printed (fun r => wpY_printed (fun r' => r' = r ∧ i_Rel (k + 5) u v) v) u := by
  obtain ⟨N, q, V, K, A, B, C, O, oa, op, en, ze, po, pl, L, rfl, rfl, hN, hf, hV⟩ := I
  exact ⟨rfl, N, q, V, K, A, B, C, O, oa, op, en, ze, po, pl, L, rfl, rfl, hN, hf, hV⟩
theorem i_vc_output {k : Nat} {u : SX} {v : SY} (I : i_Rel k u v) (hk : k + 5 ≤ 2560) (v1 : Int32) : wpX_output (fun r => wpY_output (fun r' => r' = r ∧ i_Rel (k + 5) u v) v v1) u v1 := by
  obtain ⟨N, q, V, K, A, B, C, O, oa, op, en, ze, po, pl, L, rfl, rfl, hN, hf, hV⟩ := I
  have R : i_Rel (k + 5) (nI N, q, V, K, A, B, C, O, oa, op, en, ze, po, pl) (nI N, q, K, A, B, C, V, O, L) := ⟨N, q, V, K, A, B, C, O, oa, op, en, ze, po, pl, L, rfl, rfl, hN, hf, hV⟩
  by_cases h0 : v1 < 0
  · exact br_t h0 (br_t h0 ⟨rfl, R⟩)
  · by_cases hq : q ≤ v1
    · exact br_f h0 (br_t hq (br_f h0 (br_t hq ⟨rfl, R⟩)))
    · by_cases h48 : v1 < 48
      · have hn : ¬ (48 : Int32) ≤ v1 := Int32.not_le.mpr h48
        have hi : vp_in v1 48 := by
          obtain ⟨j, hj, rfl⟩ := nI_of h0
          exact vp_in_nI ((nI_ltI (b := 48) hj (by omega)).mp h48) (by omega)
        exact br_f h0 (br_f hq (br_t h48 ⟨hi, br_f h0 (br_f hq (br_f hn ⟨hi, rfl, R⟩))⟩))
      · have hn : (48 : Int32) ≤ v1 := Int32.not_lt.mp h48
        exact br_f h0 (br_f hq (br_f h48 (br_f h0 (br_f hq (br_t hn ⟨rfl, R⟩)))))
theorem i_vc_clear {k : Nat} {u : SX} {v : SY} (I : i_Rel k u v) (hk : k + 5 ≤ 2560) : wpX_clear (fun u' => wpY_clear (fun v' => i_Rel (k + 5) u' v') v) u := by
  obtain ⟨N, q, V, K, A, B, C, O, oa, op, en, ze, po, pl, L, rfl, rfl, hN, hf, hV⟩ := I
  obtain ⟨V', h1, hX, hY⟩ := tc_clr (K := K) (A := A) (B := B) (C := C) (O := O) (L := L) (oa := oa) (op := op) (en := en) (ze := ze) (po := po) (pl := pl) 6 0 V (by omega) hV
  refine ⟨7, hX _ 7 (by omega) ⟨7, hY _ 7 (by omega) ?_⟩⟩
  exact ⟨0, 0, V', K, A, B, C, O, oa, op, en, ze, po, pl, L, rfl, rfl, by omega, fun i hi => absurd hi (by omega), h1⟩
end
