/-! Y's searches against the stack -/
section
variable {N : Nat} {p : Int32} {K A B C V O L : Nat → Int32}
theorem tc_opensY {i : Nat} (hi : i < 40) (post : Int32 → Prop) (h1 : (K i = 7 ∨ K i = 10) → post 1) (h0 : ¬ (K i = 7 ∨ K i = 10) → post 0) : wpY_opens post (nI N, p, K, A, B, C, V, O, L) (nI i) := by
  have hv : vp_in (nI i) 40 := vp_in_nI hi (by omega)
  have hc : (nI i).toNatClampNeg = i := nI_clamp (by omega)
  unfold wpY_opens
  dsimp only
  rw [hc]
  exact ⟨hv, br_c (fun a => h1 (Or.inl a)) (fun a => ⟨hv, br_c (fun b => h1 (Or.inr b)) (fun b => h0 (fun z => z.elim a b))⟩)⟩
theorem tc_m1 (k : Nat) : nI k + (-1) = nI k - 1 := (Int32.sub_eq_add_neg (nI k) 1).symm
theorem tc_opL : ∀ (k m n : Nat) (post : Int32 → Prop), k ≤ 40 → m + k ≤ 100 → k < n → post (tc_v (tc_st K k)[m]?) → wY_openerOf_6 post (nI N) p K A B C V O L n (nI (m + 1)) (nI k - 1) := by
  intro k
  induction k with
  | zero =>
    intro m n post hk hm hn hp
    obtain ⟨n, rfl⟩ : ∃ z, n = z + 1 := ⟨n - 1, by omega⟩
    have e : tc_v (tc_st K 0)[m]? = -1 := by
      show tc_v (([] : List Nat)[m]?) = -1
      rw [List.getElem?_nil]
      rfl
    rw [e] at hp
    exact br_t (by decide) hp
  | succ k ih =>
    intro m n post hk hm hn hp
    obtain ⟨n, rfl⟩ : ∃ z, n = z + 1 := ⟨n - 1, by omega⟩
    rw [nI_pred]
    have hv : vp_in (nI k) 40 := vp_in_nI (by omega) (by omega)
    have hc : (nI k).toNatClampNeg = k := nI_clamp (by omega)
    rcases tc_st_c K k with ⟨a, e⟩ | ⟨a, e⟩ | ⟨a, b, e⟩
    · refine br_f (nI_pos (by omega)) ⟨hv, br_f (by rw [hc]; rcases a with a | a <;> rw [a] <;> decide) ?_⟩
      unfold wY_openerOf_24
      refine tc_opensY (by omega) _ (fun _ => br_f (by decide) (nm_r (pk_m1 m) ?_)) (fun z => absurd a z)
      unfold wY_openerOf_35
      rw [e] at hp
      cases m with
      | zero => exact br_t nI_0 hp
      | succ m => exact br_f (nI_ne0 (by omega) (by omega)) (nm_r (tc_m1 k) (ih m n post (by omega) (by omega) (by omega) hp))
    · refine br_f (nI_pos (by omega)) ⟨hv, br_t (by rw [hc]; exact a) (nm_r (nI_1 (m + 1)) ?_)⟩
      unfold wY_openerOf_24
      refine tc_opensY (by omega) _ (fun z => absurd z (by rw [a]; decide)) (fun _ => br_t rfl ?_)
      unfold wY_openerOf_35
      refine br_f (nI_ne0 (by omega) (by omega)) (nm_r (tc_m1 k) (ih (m + 1) n post (by omega) (by omega) (by omega) ?_))
      rw [e, List.getElem?_tail] at hp
      exact hp
    · refine br_f (nI_pos (by omega)) ⟨hv, br_f (by rw [hc]; exact b) ?_⟩
      unfold wY_openerOf_24
      refine tc_opensY (by omega) _ (fun z => absurd z a) (fun _ => br_t rfl ?_)
      unfold wY_openerOf_35
      refine br_f (nI_ne0 (by omega) (by omega)) (nm_r (tc_m1 k) (ih m n post (by omega) (by omega) (by omega) ?_))
      rw [e] at hp
      exact hp
theorem tc_openerY {i : Nat} (hi : i ≤ 40) (post : Int32 → Prop) (hp : post (tc_v (tc_st K i).head?)) : wpY_openerOf post (nI N, p, K, A, B, C, V, O, L) (nI i) := by
  rw [List.head?_eq_getElem?] at hp
  exact nm_e ⟨i + 1, tc_opL i 0 (i + 1) post hi (by omega) (by omega) hp⟩
theorem tc_enL (hN : N ≤ 40) (hz : tc_st K N = []) (i : Nat) : ∀ (d k m : Nat), k + d = N → m ≤ k → (tc_st K k)[m]? = some i → ∃ e, k ≤ e ∧ e < N ∧ K e = 11 ∧ (tc_st K e).head? = some i ∧ ∀ (post : Int32 → Prop) (n : Nat), d < n → post (nI e) → wY_endOf_4 post (nI N) p K A B C V O L n (nI (m + 1)) (nI k) := by
  intro d
  induction d with
  | zero =>
    intro k m hk hm h
    rw [show k = N by omega, hz, List.getElem?_nil] at h
    cases h
  | succ d ih =>
    intro k m hk hm h
    have hv : vp_in (nI k) 40 := vp_in_nI (by omega) (by omega)
    have hc : (nI k).toNatClampNeg = k := nI_clamp (by omega)
    have hl : ¬ nI N ≤ nI k := nI_ge (by omega) (by omega)
    rcases tc_st_c K k with ⟨a, e⟩ | ⟨a, e⟩ | ⟨a, b, e⟩
    · obtain ⟨x, h1, h2, h3, h4, h5⟩ := ih (k + 1) (m + 1) (by omega) (by omega) (by rw [e]; exact h)
      refine ⟨x, by omega, h2, h3, h4, fun post n hn hp => ?_⟩
      obtain ⟨n, rfl⟩ : ∃ z, n = z + 1 := ⟨n - 1, by omega⟩
      refine br_f hl (tc_opensY (by omega) _ (fun _ => br_f (by decide) (nm_r (nI_1 (m + 1)) ?_)) (fun z => absurd a z))
      exact ⟨hv, br_f (by rw [hc]; rcases a with a | a <;> rw [a] <;> decide) (br_f (nI_ne0 (by omega) (by omega)) (nm_r (nI_1 k) (h5 post n (by omega) hp)))⟩
    · cases m with
      | zero =>
        refine ⟨k, by omega, by omega, a, by rw [List.head?_eq_getElem?]; exact h, fun post n hn hp => ?_⟩
        obtain ⟨n, rfl⟩ : ∃ z, n = z + 1 := ⟨n - 1, by omega⟩
        refine br_f hl (tc_opensY (by omega) _ (fun z => absurd z (by rw [a]; decide)) (fun _ => br_t rfl ?_))
        exact ⟨hv, br_t (by rw [hc]; exact a) (nm_r (pk_m1 0) (br_t nI_0 hp))⟩
      | succ m =>
        obtain ⟨x, h1, h2, h3, h4, h5⟩ := ih (k + 1) m (by omega) (by omega) (by rw [e, List.getElem?_tail]; exact h)
        refine ⟨x, by omega, h2, h3, h4, fun post n hn hp => ?_⟩
        obtain ⟨n, rfl⟩ : ∃ z, n = z + 1 := ⟨n - 1, by omega⟩
        refine br_f hl (tc_opensY (by omega) _ (fun z => absurd z (by rw [a]; decide)) (fun _ => br_t rfl ?_))
        exact ⟨hv, br_t (by rw [hc]; exact a) (nm_r (pk_m1 (m + 1)) (br_f (nI_ne0 (by omega) (by omega)) (nm_r (nI_1 k) (h5 post n (by omega) hp))))⟩
    · obtain ⟨x, h1, h2, h3, h4, h5⟩ := ih (k + 1) m (by omega) (by omega) (by rw [e]; exact h)
      refine ⟨x, by omega, h2, h3, h4, fun post n hn hp => ?_⟩
      obtain ⟨n, rfl⟩ : ∃ z, n = z + 1 := ⟨n - 1, by omega⟩
      refine br_f hl (tc_opensY (by omega) _ (fun z => absurd z a) (fun _ => br_t rfl ?_))
      exact ⟨hv, br_f (by rw [hc]; exact b) (br_f (nI_ne0 (by omega) (by omega)) (nm_r (nI_1 k) (h5 post n (by omega) hp)))⟩
/-- the END of an opener -/
theorem tc_endY (hN : N ≤ 40) (hz : tc_st K N = []) {i : Nat} (hi : i < N) (ho : K i = 7 ∨ K i = 10) : ∃ e, i < e ∧ e < N ∧ K e = 11 ∧ (tc_st K e).head? = some i ∧ ∀ (L : Nat → Int32) (post : Int32 → Prop), post (nI e) → wpY_endOf post (nI N, p, K, A, B, C, V, O, L) (nI i) := by
  obtain ⟨e, h1, h2, h3, h4, _⟩ := tc_enL (p := p) (A := A) (B := B) (C := C) (V := V) (O := O) (L := V) hN hz i (N - (i + 1)) (i + 1) 0 (by omega) (by omega) (by rw [tc_st_o ho]; rfl)
  refine ⟨e, by omega, h2, h3, h4, fun L post hp => ?_⟩
  obtain ⟨e', g1, g2, g3, g4, g5⟩ := tc_enL (p := p) (A := A) (B := B) (C := C) (V := V) (O := O) (L := L) hN hz i (N - (i + 1)) (i + 1) 0 (by omega) (by omega) (by rw [tc_st_o ho]; rfl)
  have ee : e' = e := by
    by_cases c : e' < e
    · exact absurd (by rw [tc_mem_hd h4]; exact List.mem_cons_self) (tc_st_gone g3 (tc_mem_hd g4) c)
    · by_cases c2 : e < e'
      · exact absurd (by rw [tc_mem_hd g4]; exact List.mem_cons_self) (tc_st_gone h3 (tc_mem_hd h4) c2)
      · omega
  rw [ee] at g5
  have hv : vp_in (nI i) 40 := vp_in_nI (by omega) (by omega)
  have hc : (nI i).toNatClampNeg = i := nI_clamp (by omega)
  have hl : ¬ nI N ≤ nI i := nI_ge (by omega) (by omega)
  refine ⟨N - (i + 1) + 1 + 1, br_f hl (tc_opensY (by omega) _ (fun _ => br_f (by decide) (nm_r (nI_1 0) ?_)) (fun z => absurd ho z))⟩
  exact ⟨hv, br_f (by rw [hc]; rcases ho with a | a <;> rw [a] <;> decide) (br_f (nI_ne0 (by omega) (by omega)) (nm_r (nI_1 i) (g5 post (N - (i + 1) + 1) (by omega) hp)))⟩
/-- the mark of a choice -/
theorem tc_mkL {j : Nat} {q r : Int32} {t : Nat} (ht : t ≤ 40) (hj : j < t) (h : tc_M K j q t r) (post : Int32 → Prop) (hp : post r) : ∀ (d k n : Nat), k + d = t → (∀ k', k' < k → K k' = q → (tc_st K k').head? ≠ some j) → d < n → wY_markOf_5 post (nI j) q (nI t) (nI N) p K A B C V O L n (nI k) := by
  intro d
  induction d with
  | zero =>
    intro k n hk hb hn
    obtain ⟨n, rfl⟩ : ∃ z, n = z + 1 := ⟨n - 1, by omega⟩
    have e : k = t := by omega
    subst e
    refine br_t (nI_le (by omega) (by omega)) ?_
    rcases h with ⟨h1, h2⟩ | ⟨x, h1, h2, h3, h4, h5⟩
    · rw [← h1]; exact hp
    · exact absurd h4 (hb x h1 h3)
  | succ d ih =>
    intro k n hk hb hn
    obtain ⟨n, rfl⟩ : ∃ z, n = z + 1 := ⟨n - 1, by omega⟩
    have hv : vp_in (nI k) 40 := vp_in_nI (by omega) (by omega)
    have hc : (nI k).toNatClampNeg = k := nI_clamp (by omega)
    refine br_f (nI_ge (by omega) (by omega)) ⟨hv, br_c (fun a => ?_) (fun a => ?_)⟩
    · rw [hc] at a
      refine tc_openerY (by omega) _ ?_
      by_cases c : (tc_st K k).head? = some j
      · rw [c]
        refine br_t rfl ?_
        rcases h with ⟨h1, h2⟩ | ⟨x, h1, h2, h3, h4, h5⟩
        · exact absurd c (h2 k (by omega) a)
        · have e : x = k := by
            by_cases g : x < k
            · exact absurd h4 (hb x g h3)
            · by_cases g2 : k < x
              · exact absurd c (h5 k g2 a)
              · omega
          rw [← e, ← h2]
          exact hp
      · refine br_f ?_ (nm_r (nI_1 k) (ih (k + 1) n (by omega) (fun k' hk' hq' => ?_) (by omega)))
        · cases hs : (tc_st K k).head? with
          | none =>
            intro z
            have z' : (-1 : Int32) = nI j := z
            exact absurd (show (-1 : Int32) < 0 by decide) (by rw [z']; exact nI_pos (by omega))
          | some x =>
            intro z
            have z' : nI x = nI j := z
            have hx : x < k := (tc_st_lt K k x (by rw [tc_mem_hd hs]; exact List.mem_cons_self)).1
            have := (nI_eq (by omega) (by omega)).mp z'
            rw [hs, this] at c
            exact c rfl
        · by_cases g : k' = k
          · rw [g]; exact c
          · exact hb k' (by omega) hq'
    · rw [hc] at a
      refine nm_r (nI_1 k) (ih (k + 1) n (by omega) (fun k' hk' hq' => ?_) (by omega))
      by_cases g : k' = k
      · rw [g] at hq'; exact absurd hq' a
      · exact hb k' (by omega) hq'
theorem tc_markY {j : Nat} {q r : Int32} {t : Nat} (ht : t ≤ 40) (hj : j < t) (h : tc_M K j q t r) (post : Int32 → Prop) (hp : post r) : wpY_markOf post (nI N, p, K, A, B, C, V, O, L) (nI j) q (nI t) := by
  refine nm_r (nI_1 j) ⟨t - (j + 1) + 1, tc_mkL ht hj h post hp (t - (j + 1)) (j + 1) _ (by omega) (fun k' hk' _ hh => ?_) (by omega)⟩
  have := (tc_st_lt K k' j (by rw [tc_mem_hd hh]; exact List.mem_cons_self)).1
  omega
theorem tc_M_nn {j : Nat} {q r : Int32} {t : Nat} (ht : t ≤ 40) (h : tc_M K j q t r) : r = -1 ∨ 0 ≤ r := by
  rcases h with ⟨h1, _⟩ | ⟨x, h1, h2, _⟩
  · exact Or.inl h1
  · exact Or.inr (by rw [h2]; exact nI_pos' (by omega))
theorem tc_fitsY {i j : Nat} {r1 r2 : Int32} (hi : i < 40) (hh : (tc_st K i).head? = some j) (m1 : tc_M K j (K i) i r1) (m2 : tc_M K j 9 i r2) (post : Int32 → Prop) (h1 : K j = 7 → r1 = -1 → r2 = -1 → post 1) (h0 : (¬ K j = 7 ∨ 0 ≤ r1 ∨ 0 ≤ r2) → post 0) : wpY_markFits post (nI N, p, K, A, B, C, V, O, L) (nI i) := by
  have hj : j < i := (tc_st_lt K i j (by rw [tc_mem_hd hh]; exact List.mem_cons_self)).1
  have hc : (nI i).toNatClampNeg = i := nI_clamp (by omega)
  have hcj : (nI j).toNatClampNeg = j := nI_clamp (by omega)
  unfold wpY_markFits
  dsimp only
  refine tc_openerY (by omega) _ ?_
  rw [hh]
  refine br_f (nI_pos (n := j) (by omega)) ⟨vp_in_nI (n := j) (by omega) (by omega), br_c (fun a => ?_) (fun a => ?_)⟩
  · have a' : K j = 7 := by rw [← hcj]; exact a
    refine ⟨vp_in_nI hi (by omega), ?_⟩
    rw [hc]
    refine tc_markY (by omega) hj m1 _ (br_c (fun b => h0 (Or.inr (Or.inl b))) (fun b => ?_))
    refine tc_markY (by omega) hj m2 _ (br_c (fun c => h0 (Or.inr (Or.inr c))) (fun c => ?_))
    exact h1 a' ((tc_M_nn (by omega) m1).resolve_right b) ((tc_M_nn (by omega) m2).resolve_right c)
  · exact h0 (Or.inl (fun z => a (by rw [show (tc_v (some j)).toNatClampNeg = j from hcj]; exact z)))
end
