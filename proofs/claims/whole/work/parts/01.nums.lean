/-! rows pasted from kit/rows -/
theorem pk_us {f : Nat → Int32} {k : Nat} {x : Int32} : upd f k x k = x := if_pos rfl
theorem pk_un {f : Nat → Int32} {k j : Nat} {x : Int32} (h : j ≠ k) : upd f k x j = f j := if_neg h
theorem pk_m1 (n : Nat) : nI (n + 1) + (-1) = nI n := by
  rw [← nI_1, Int32.add_assoc, show (1 : Int32) + (-1) = 0 from rfl, Int32.add_zero]
theorem pk_mul (a b : Nat) : nI a * nI b = nI (a * b) := (Int32.ofNat_mul a b).symm
theorem pk_le {x y : Int32} {A B : Prop} (a b : Nat) (f : a ≤ b → A) (g : b < a → B) (hx : x = nI a := by rfl) (hy : y = nI b := by rfl) (ha : a < 2 ^ 31 := by omega) (hb : b < 2 ^ 31 := by omega) : (x ≤ y → A) ∧ (¬ x ≤ y → B) := by
  subst hx hy
  rw [nI_leI ha hb]
  exact ⟨f, fun z => g (by omega)⟩
theorem pk_lt {x y : Int32} {A B : Prop} (a b : Nat) (f : a < b → A) (g : b ≤ a → B) (hx : x = nI a := by rfl) (hy : y = nI b := by rfl) (ha : a < 2 ^ 31 := by omega) (hb : b < 2 ^ 31 := by omega) : (x < y → A) ∧ (¬ x < y → B) := by
  subst hx hy
  rw [nI_ltI ha hb]
  exact ⟨f, fun z => g (by omega)⟩
theorem pk_eq {x y : Int32} {A B : Prop} (a b : Nat) (f : a = b → A) (g : a ≠ b → B) (hx : x = nI a := by rfl) (hy : y = nI b := by rfl) (ha : a < 2 ^ 31 := by omega) (hb : b < 2 ^ 31 := by omega) : (x = y → A) ∧ (¬ x = y → B) := by
  subst hx hy
  rw [nI_eq ha hb]
  exact ⟨f, g⟩
/-! numbers: the wrap into the range of nine trits -/
/-- a value of nine trits -/
def tc_rg (x : Int32) : Prop := -9841 ≤ x.toInt ∧ x.toInt ≤ 9841
theorem tc_tm (a M : Int) (hM : 0 < M) : a.tmod M = if 0 ≤ a then a % M else -((-a) % M) := by
  by_cases h : 0 ≤ a
  · rw [if_pos h, Int.tmod_eq_emod_of_nonneg h]
  · rw [if_neg h, ← Int.tmod_eq_emod_of_nonneg (a := -a) (by omega), Int.neg_tmod, Int.neg_neg]
theorem tc_i {x y : Int32} (h : x.toInt = y.toInt) : x = y := Int32.toInt_inj.mp h
theorem tc_le {x y : Int32} : x ≤ y ↔ x.toInt ≤ y.toInt := Int32.le_iff_toInt_le
theorem tc_lt {x y : Int32} : x < y ↔ x.toInt < y.toInt := Int32.lt_iff_toInt_lt
/-- one wrapped value: what X's wrap of an int and Y's wrap of a long of the same number answer -/
theorem tc_wrap (x : Int32) (z : Int64) (hz : z.toInt = x.toInt) : ∃ w : Int32, tc_rg w ∧ (∀ post : Int32 → Prop, post w → wpX_wrap post x) ∧ (∀ (post : Int32 → Prop) (v : SY), post w → wpY_wrap post v z) := by
  have b1 := x.toInt_lt
  have b2 := x.le_toInt
  have hm : (x - x / 19683 * 19683).toInt = if 0 ≤ x.toInt then x.toInt % 19683 else -((-x.toInt) % 19683) := by
    rw [rem_toInt, show (19683 : Int32).toInt = 19683 from by decide, tc_tm _ _ (by decide)]
  have h9 : (z + 9841).toInt = x.toInt + 9841 := by
    rw [Int64.toInt_add, hz, show (9841 : Int64).toInt = 9841 from by decide]
    exact Int.bmod_eq_of_le (by omega) (by omega)
  have hn : ((z + 9841) - (z + 9841) / 19683 * 19683).toInt = if 0 ≤ x.toInt + 9841 then (x.toInt + 9841) % 19683 else -((-(x.toInt + 9841)) % 19683) := by
    rw [Jvm.Kit.i64_rem, show (19683 : Int64).toInt = 19683 from by decide, tc_tm _ _ (by decide), h9]
  generalize hM : x - x / 19683 * 19683 = m at hm
  generalize hN : (z + 9841) - (z + 9841) / 19683 * 19683 = n at hn
  generalize x.toInt = I at *
  have e1 : (9841 : Int32).toInt = 9841 := by decide
  have e2 : (-9841 : Int32).toInt = -9841 := by decide
  have e3 : (19683 : Int32).toInt = 19683 := by decide
  have e4 : (19683 : Int64).toInt = 19683 := by decide
  -- the wrapped value itself
  have hw : ∃ w : Int32, tc_rg w ∧ ((m ≤ 9841 → ((-9841 ≤ m → w = m) ∧ (¬ -9841 ≤ m → w = m + 19683))) ∧ (¬ m ≤ 9841 → w = m - 19683)) ∧ ((0 ≤ n → w = n.toInt32 - 9841) ∧ (¬ 0 ≤ n → w = (n + 19683).toInt32 - 9841)) := by
    have hy : ∃ w : Int32, w.toInt = (I + 9841) % 19683 - 9841 ∧ ((0 ≤ n → w = n.toInt32 - 9841) ∧ (¬ 0 ≤ n → w = (n + 19683).toInt32 - 9841)) := by
      by_cases h : 0 ≤ n
      · have h' : 0 ≤ n.toInt := Jvm.Kit.i64_nonneg.mp h
        refine ⟨n.toInt32 - 9841, ?_, fun _ => rfl, fun g => absurd h g⟩
        have k : n.toInt32.toInt = n.toInt := Jvm.Kit.i32_of_i64 (by omega) (by split at hn <;> omega)
        rw [Jvm.Kit.i32_sub (by rw [k, e1]; split at hn <;> omega) (by rw [k, e1]; split at hn <;> omega), k, e1]
        split at hn <;> omega
      · have h' : ¬ 0 ≤ n.toInt := mt Jvm.Kit.i64_nonneg.mpr h
        refine ⟨(n + 19683).toInt32 - 9841, ?_, fun g => absurd g h, fun _ => rfl⟩
        have k0 : (n + 19683).toInt = n.toInt + 19683 := by
          rw [Int64.toInt_add, e4]
          exact Int.bmod_eq_of_le (by split at hn <;> omega) (by split at hn <;> omega)
        have k : (n + 19683).toInt32.toInt = n.toInt + 19683 := by
          rw [← k0]
          exact Jvm.Kit.i32_of_i64 (by rw [k0]; split at hn <;> omega) (by rw [k0]; split at hn <;> omega)
        rw [Jvm.Kit.i32_sub (by rw [k, e1]; split at hn <;> omega) (by rw [k, e1]; split at hn <;> omega), k, e1]
        split at hn <;> omega
    obtain ⟨w, hw, hy⟩ := hy
    refine ⟨w, ⟨by omega, by omega⟩, ⟨fun h => ⟨fun g => tc_i ?_, fun g => tc_i ?_⟩, fun h => tc_i ?_⟩, hy⟩
    · rw [tc_le, e1] at h
      rw [tc_le, e2] at g
      split at hm <;> omega
    · rw [tc_le, e1] at h
      rw [tc_le, e2] at g
      rw [Jvm.Kit.i32_add (by rw [e3]; split at hm <;> omega) (by rw [e3]; split at hm <;> omega), e3]
      split at hm <;> omega
    · rw [tc_le, e1] at h
      rw [Jvm.Kit.i32_sub (by rw [e3]; split at hm <;> omega) (by rw [e3]; split at hm <;> omega), e3]
      split at hm <;> omega
  obtain ⟨w, h1, ⟨h2, h3⟩, h4, h5⟩ := hw
  refine ⟨w, h1, fun post hp => ⟨by decide, nm_r hM (br_c (fun a => br_c (fun b => ?_) (fun b => ?_)) (fun a => ?_))⟩, fun post v hp => ⟨by decide, nm_r hN (br_c (fun a => ?_) (fun a => ?_))⟩⟩
  · rw [← (h2 a).1 b]; exact hp
  · rw [← (h2 a).2 b]; exact hp
  · rw [← h3 a]; exact hp
  · rw [← h4 a]; exact hp
  · rw [← h5 a]; exact hp
/-! trits -/
def tc_t (x : Int32) : Int32 := (((x - x / 3 * 3) + 4) - ((x - x / 3 * 3) + 4) / 3 * 3) - 1
def tc_w (x : Int32) : Int32 := (x - tc_t x) / 3
def tc_it : Nat → Int32 → Int32
  | 0, x => x
  | k + 1, x => tc_it k (tc_w x)
theorem tc_it_s : ∀ (k : Nat) (x : Int32), tc_it (k + 1) x = tc_w (tc_it k x)
  | 0, _ => rfl
  | k + 1, x => tc_it_s k (tc_w x)
theorem tc_m5 (x : Int32) : x - x / 3 * 3 = -2 ∨ x - x / 3 * 3 = -1 ∨ x - x / 3 * 3 = 0 ∨ x - x / 3 * 3 = 1 ∨ x - x / 3 * 3 = 2 := by
  have h := rem_toInt x 3
  rw [show (3 : Int32).toInt = 3 from by decide, tc_tm _ _ (by decide)] at h
  generalize x - x / 3 * 3 = m at *
  have c : m.toInt = -2 ∨ m.toInt = -1 ∨ m.toInt = 0 ∨ m.toInt = 1 ∨ m.toInt = 2 := by split at h <;> omega
  rcases c with c | c | c | c | c
  · exact Or.inl (tc_i c)
  · exact Or.inr (Or.inl (tc_i c))
  · exact Or.inr (Or.inr (Or.inl (tc_i c)))
  · exact Or.inr (Or.inr (Or.inr (Or.inl (tc_i c))))
  · exact Or.inr (Or.inr (Or.inr (Or.inr (tc_i c))))
theorem tc_low (x : Int32) (post : Int32 → Prop) (h : post (tc_t x)) : wpX_lowestTrit post x := by
  refine ⟨by decide, nm_e ?_⟩
  unfold tc_t at h
  rcases tc_m5 x with c | c | c | c | c <;> rw [c] at h ⊢
  · exact br_f (by decide) (br_t rfl h)
  · exact br_f (by decide) (br_f (by decide) h)
  · exact br_f (by decide) (br_f (by decide) h)
  · exact br_f (by decide) (br_f (by decide) h)
  · exact br_t rfl h
theorem tc_wol (x : Int32) (post : Int32 → Prop) (h : post (tc_w x)) : wpX_withoutLowest post x := tc_low x _ ⟨by decide, h⟩
theorem tc_t3 (x : Int32) : (tc_t x = -1 ∧ x.toInt % 3 = 2) ∨ (tc_t x = 0 ∧ x.toInt % 3 = 0) ∨ (tc_t x = 1 ∧ x.toInt % 3 = 1) := by
  have h := rem_toInt x 3
  rw [show (3 : Int32).toInt = 3 from by decide, tc_tm _ _ (by decide)] at h
  unfold tc_t
  rcases tc_m5 x with c | c | c | c | c <;> rw [c] at h ⊢
  · exact Or.inr (Or.inr ⟨by decide, by rw [show (-2 : Int32).toInt = -2 from by decide] at h; split at h <;> omega⟩)
  · exact Or.inl ⟨by decide, by rw [show (-1 : Int32).toInt = -1 from by decide] at h; split at h <;> omega⟩
  · exact Or.inr (Or.inl ⟨by decide, by rw [show (0 : Int32).toInt = 0 from by decide] at h; split at h <;> omega⟩)
  · exact Or.inr (Or.inr ⟨by decide, by rw [show (1 : Int32).toInt = 1 from by decide] at h; split at h <;> omega⟩)
  · exact Or.inl ⟨by decide, by rw [show (2 : Int32).toInt = 2 from by decide] at h; split at h <;> omega⟩
theorem tc_w_rg {x : Int32} (h : tc_rg x) : tc_rg (tc_w x) := by
  obtain ⟨h1, h2⟩ := h
  have ht : (tc_t x).toInt = -1 ∨ (tc_t x).toInt = 0 ∨ (tc_t x).toInt = 1 := by
    rcases tc_t3 x with c | c | c
    · exact Or.inl (by rw [c.1]; decide)
    · exact Or.inr (Or.inl (by rw [c.1]; decide))
    · exact Or.inr (Or.inr (by rw [c.1]; decide))
  have hs : (x - tc_t x).toInt = x.toInt - (tc_t x).toInt := Jvm.Kit.i32_sub (by omega) (by omega)
  have e3 : (3 : Int32).toInt = 3 := by decide
  have hd : (tc_w x).toInt = ((x - tc_t x).toInt.tdiv 3).bmod (2 ^ 32) := by
    unfold tc_w
    rw [Int32.toInt_div, e3]
  have q1 := Int.mul_tdiv_add_tmod (x - tc_t x).toInt 3
  have q2 := tmod_bounds (a := (x - tc_t x).toInt) (M := 3) (by decide)
  rw [Int.bmod_eq_of_le (by omega) (by omega)] at hd
  exact ⟨by omega, by omega⟩
