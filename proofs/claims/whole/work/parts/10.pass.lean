section
variable {N c i : Nat} {K A B C V O L oa op en ze po pl : Nat → Int32}
/-- what a step of the run leaves: one next place, one set of variables and prints, and the passes of the loops around it alike -/
def tc_ok (N c : Nat) (K A B C V O L oa op en ze po pl : Nat → Int32) (i : Nat) : Prop :=
  ∃ (i' c' : Nat) (V' O' pl' L' : Nat → Int32), i' ≤ N ∧ c' ≤ c + 1 ∧ (∀ y, tc_rg (V' y)) ∧ (∀ j, j ∈ tc_st K i' → K j = 10 → pl' j = L' j) ∧
    (∀ post : Int32 → SX → Prop, post (nI i') (nI N, nI c', V', K, A, B, C, O', oa, op, en, ze, po, pl') → wpX_pass post (nI N, nI c, V, K, A, B, C, O, oa, op, en, ze, po, pl) (nI i)) ∧
    (∀ post : Int32 → SY → Prop, post (nI i') (nI N, nI c', K, A, B, C, V', O', L') → wpY_pass post (nI N, nI c, K, A, B, C, V, O, L) (nI i))
theorem tc_s7 (hN : N ≤ 40) (hi : i < N) (hf : tc_fit (K i) (A i) (B i) (C i)) (hV : ∀ y, tc_rg (V y)) (hT : tc_T K N op en ze po) (hz : tc_st K N = []) (hL : ∀ j, j ∈ tc_st K i → K j = 10 → pl j = L j) (hk : K i = 7) : tc_ok N c K A B C V O L oa op en ze po pl i := by
  have hv : vp_in (nI i) 40 := vp_in_nI (by omega) (by omega)
  have hc : (nI i).toNatClampNeg = i := nI_clamp (by omega)
  have ha : vp_in (A i) 6 := hf.2.2.1 (by rw [hk]; decide) (by rw [hk]; decide) (by rw [hk]; decide)
  obtain ⟨e, he1, he2, he3, he4, heY⟩ := tc_endY (p := nI c) (A := A) (B := B) (C := C) (V := V) (O := O) hN hz hi (Or.inl hk)
  have hen : en i = nI e := hT.2.1 e he2 he3 i he4
  have hM := hT.2.2.1 i hi (Or.inl hk)
  have n7 : ¬ K i < 7 := by rw [hk]; decide
  have n12 : ¬ 12 < K i := by rw [hk]; decide
  have hsub : ∀ {i'}, (∀ j, j ∈ tc_st K i' → j = i ∨ j ∈ tc_st K i) → ∀ j, j ∈ tc_st K i' → K j = 10 → pl j = L j := by
    intro i' hs j hj h10
    rcases hs j hj with h | h
    · rw [h, hk] at h10
      exact absurd h10 (by decide)
    · exact hL j h h10
  by_cases v0 : 0 ≤ V (A i).toNatClampNeg
  · by_cases v1 : V (A i).toNatClampNeg = 0
    · obtain ⟨i', g1, g2, gX, gY⟩ := tc_sec (q := nI c) (A := A) (B := B) (C := C) (V := V) (O := O) (L := L) (oa := oa) (op := op) (ze := ze) (po := po) (pl := pl) hN he1 he2 he3 he4 (Or.inl rfl) hen hM.1
      refine ⟨i', c, V, O, pl, L, g1, by omega, hV, hsub g2, fun post hp => ?_, fun post hp => ?_⟩
      · unfold wpX_pass
        dsimp only
        rw [hc]
        refine ⟨hv, nm_e (br_f n7 (br_f n12 (br_t hk ?_)))⟩
        unfold wpX_chosenSection
        dsimp only
        rw [hc]
        exact ⟨hv, ha, nm_e (br_t v0 (br_t v1 ⟨hv, gX _ hp⟩))⟩
      · unfold wpY_pass
        dsimp only
        rw [hc]
        refine ⟨hv, br_t hk ?_⟩
        unfold wpY_choose
        dsimp only
        refine heY L _ ?_
        rw [hc]
        exact ⟨hv, ha, nm_e (br_t v0 (br_t v1 (gY _ hp)))⟩
    · obtain ⟨i', g1, g2, gX, gY⟩ := tc_sec (q := nI c) (A := A) (B := B) (C := C) (V := V) (O := O) (L := L) (oa := oa) (op := op) (ze := ze) (po := po) (pl := pl) hN he1 he2 he3 he4 (Or.inr rfl) hen hM.2
      refine ⟨i', c, V, O, pl, L, g1, by omega, hV, hsub g2, fun post hp => ?_, fun post hp => ?_⟩
      · unfold wpX_pass
        dsimp only
        rw [hc]
        refine ⟨hv, nm_e (br_f n7 (br_f n12 (br_t hk ?_)))⟩
        unfold wpX_chosenSection
        dsimp only
        rw [hc]
        exact ⟨hv, ha, nm_e (br_t v0 (br_f v1 ⟨hv, gX _ hp⟩))⟩
      · unfold wpY_pass
        dsimp only
        rw [hc]
        refine ⟨hv, br_t hk ?_⟩
        unfold wpY_choose
        dsimp only
        refine heY L _ ?_
        rw [hc]
        exact ⟨hv, ha, nm_e (br_t v0 (br_f v1 (gY _ hp)))⟩
  · refine ⟨i + 1, c, V, O, pl, L, by omega, by omega, hV, hsub (fun j hj => ?_), fun post hp => ?_, fun post hp => ?_⟩
    · rw [tc_st_o (Or.inl hk)] at hj
      exact List.mem_cons.mp hj
    · rw [← nI_1] at hp
      unfold wpX_pass
      dsimp only
      rw [hc]
      refine ⟨hv, nm_e (br_f n7 (br_f n12 (br_t hk ?_)))⟩
      unfold wpX_chosenSection
      dsimp only
      rw [hc]
      exact ⟨hv, ha, nm_e (br_f v0 hp)⟩
    · rw [← nI_1] at hp
      unfold wpY_pass
      dsimp only
      rw [hc]
      refine ⟨hv, br_t hk ?_⟩
      unfold wpY_choose
      dsimp only
      refine heY L _ ?_
      rw [hc]
      exact ⟨hv, ha, nm_e (br_f v0 hp)⟩
theorem tc_s89 (hN : N ≤ 40) (hi : i < N) (hV : ∀ y, tc_rg (V y)) (hT : tc_T K N op en ze po) (hz : tc_st K N = []) (hL : ∀ j, j ∈ tc_st K i → K j = 10 → pl j = L j) (hk : K i = 8 ∨ K i = 9) : tc_ok N c K A B C V O L oa op en ze po pl i := by
  have hv : vp_in (nI i) 40 := vp_in_nI (by omega) (by omega)
  have hc : (nI i).toNatClampNeg = i := nI_clamp (by omega)
  obtain ⟨j, hj, hop⟩ := hT.1 i hi (hk.elim Or.inl (fun z => Or.inr (Or.inl z)))
  have hj7 : K j = 7 := hT.2.2.2 i hi hk j hj
  have hji : j < i := (tc_st_lt K i j (by rw [tc_mem_hd hj]; exact List.mem_cons_self)).1
  have hcj : (nI j).toNatClampNeg = j := nI_clamp (by omega)
  obtain ⟨e, he1, he2, he3, he4, heY⟩ := tc_endY (p := nI c) (A := A) (B := B) (C := C) (V := V) (O := O) hN hz (show j < N by omega) (Or.inl hj7)
  have hen : en j = nI e := hT.2.1 e he2 he3 j he4
  refine ⟨e + 1, c, V, O, pl, L, by omega, by omega, hV, fun x hx h10 => ?_, fun post hp => ?_, fun post hp => ?_⟩
  · rw [tc_st_e he3, tc_st_hd (tc_mem_hd he4)] at hx
    refine hL x ?_ h10
    rw [tc_mem_hd hj, tc_st_hd (tc_mem_hd hj)]
    exact List.mem_cons_of_mem _ hx
  · rw [← nI_1] at hp
    have w : wX_pass_50 post (nI i) (nI N) (nI c) V K A B C O oa op en ze po pl := by
      unfold wX_pass_50
      rw [hc, hop, hcj, hen]
      exact ⟨hv, vp_in_nI (by omega) (by omega), hp⟩
    unfold wpX_pass
    dsimp only
    rw [hc]
    rcases hk with hk | hk
    · exact ⟨hv, nm_e (br_f (by rw [hk]; decide) (br_f (by rw [hk]; decide) (br_f (by rw [hk]; decide) (br_t hk w))))⟩
    · exact ⟨hv, nm_e (br_f (by rw [hk]; decide) (br_f (by rw [hk]; decide) (br_f (by rw [hk]; decide) (br_f (by rw [hk]; decide) (br_t hk w)))))⟩
  · rw [← nI_1] at hp
    have w : wY_pass_85 post (nI i) (nI N) (nI c) K A B C V O L := by
      unfold wY_pass_85
      refine tc_openerY (by omega) _ ?_
      rw [hj]
      exact heY L _ hp
    unfold wpY_pass
    dsimp only
    rw [hc]
    rcases hk with hk | hk
    · exact ⟨hv, br_f (by rw [hk]; decide) ⟨hv, br_f (by rw [hk]; decide) ⟨hv, br_t hk w⟩⟩⟩
    · exact ⟨hv, br_f (by rw [hk]; decide) ⟨hv, br_f (by rw [hk]; decide) ⟨hv, br_f (by rw [hk]; decide) ⟨hv, br_t hk w⟩⟩⟩⟩
theorem tc_s10 (hN : N ≤ 40) (hi : i < N) (hV : ∀ y, tc_rg (V y)) (hT : tc_T K N op en ze po) (hz : tc_st K N = []) (hL : ∀ j, j ∈ tc_st K i → K j = 10 → pl j = L j) (hk : K i = 10) : tc_ok N c K A B C V O L oa op en ze po pl i := by
  have hv : vp_in (nI i) 40 := vp_in_nI (by omega) (by omega)
  have hc : (nI i).toNatClampNeg = i := nI_clamp (by omega)
  have lt : ∀ j, j ∈ tc_st K i → j ≠ i := fun j hj => by
    have := (tc_st_lt K i j hj).1
    omega
  obtain ⟨e, he1, he2, he3, he4, heY⟩ := tc_endY (p := nI c) (A := A) (B := B) (C := C) (V := V) (O := O) hN hz hi (Or.inr hk)
  have hen : en i = nI e := hT.2.1 e he2 he3 i he4
  by_cases a0 : A i = 0
  · refine ⟨e + 1, c, V, O, pl, upd L i (A i), by omega, by omega, hV, fun x hx h10 => ?_, fun post hp => ?_, fun post hp => ?_⟩
    · rw [tc_st_e he3, tc_st_hd (tc_mem_hd he4)] at hx
      rw [pk_un (lt x hx)]
      exact hL x hx h10
    · rw [← nI_1] at hp
      unfold wpX_pass
      dsimp only
      rw [hc]
      refine ⟨hv, nm_e (br_f (by rw [hk]; decide) (br_f (by rw [hk]; decide) (br_f (by rw [hk]; decide) (br_f (by rw [hk]; decide) (br_f (by rw [hk]; decide) (br_t hk ?_))))))⟩
      unfold wpX_enterLoop
      dsimp only
      rw [hc, hen]
      exact ⟨hv, br_t a0 ⟨hv, hp⟩⟩
    · rw [← nI_1] at hp
      unfold wpY_pass
      dsimp only
      rw [hc]
      exact ⟨hv, br_f (by rw [hk]; decide) ⟨hv, br_t hk ⟨hv, hv, nm_e ⟨hv, br_t a0 (heY _ _ hp)⟩⟩⟩⟩
  · refine ⟨i + 1, c, V, O, upd pl i (A i), upd L i (A i), by omega, by omega, hV, fun x hx h10 => ?_, fun post hp => ?_, fun post hp => ?_⟩
    · rw [tc_st_o (Or.inr hk)] at hx
      rcases List.mem_cons.mp hx with h | h
      · rw [h, pk_us, pk_us]
      · rw [pk_un (lt x h), pk_un (lt x h)]
        exact hL x h h10
    · rw [← nI_1] at hp
      unfold wpX_pass
      dsimp only
      rw [hc]
      refine ⟨hv, nm_e (br_f (by rw [hk]; decide) (br_f (by rw [hk]; decide) (br_f (by rw [hk]; decide) (br_f (by rw [hk]; decide) (br_f (by rw [hk]; decide) (br_t hk ?_))))))⟩
      unfold wpX_enterLoop
      dsimp only
      rw [hc]
      exact ⟨hv, br_f a0 ⟨hv, hv, nm_e hp⟩⟩
    · rw [← nI_1] at hp
      unfold wpY_pass
      dsimp only
      rw [hc]
      exact ⟨hv, br_f (by rw [hk]; decide) ⟨hv, br_t hk ⟨hv, hv, nm_e ⟨hv, br_f a0 hp⟩⟩⟩⟩
theorem tc_s11 (hN : N ≤ 40) (hi : i < N) (hV : ∀ y, tc_rg (V y)) (hT : tc_T K N op en ze po) (hL : ∀ j, j ∈ tc_st K i → K j = 10 → pl j = L j) (hk : K i = 11) : tc_ok N c K A B C V O L oa op en ze po pl i := by
  have hv : vp_in (nI i) 40 := vp_in_nI (by omega) (by omega)
  have hc : (nI i).toNatClampNeg = i := nI_clamp (by omega)
  obtain ⟨j, hj, hop⟩ := hT.1 i hi (Or.inr (Or.inr hk))
  have es : tc_st K i = j :: tc_st K j := by
    have := tc_mem_hd hj
    rw [tc_st_hd this] at this
    exact this
  have hji := tc_st_lt K i j (by rw [es]; exact List.mem_cons_self)
  have hcj : (nI j).toNatClampNeg = j := nI_clamp (by omega)
  have hvj : vp_in (nI j) 40 := vp_in_nI (by omega) (by omega)
  have e1 : tc_st K (i + 1) = tc_st K j := by rw [tc_st_e hk, es]; rfl
  have lt : ∀ x, x ∈ tc_st K j → x ≠ j := fun x hx => by
    have := (tc_st_lt K j x hx).1
    omega
  have up : ∀ x, x ∈ tc_st K j → K x = 10 → pl x = L x := fun x hx h10 => hL x (by rw [es]; exact List.mem_cons_of_mem _ hx) h10
  rcases hji.2 with j7 | j10
  · refine ⟨i + 1, c, V, O, pl, L, by omega, by omega, hV, fun x hx h10 => up x (by rw [← e1]; exact hx) h10, fun post hp => ?_, fun post hp => ?_⟩
    · rw [← nI_1] at hp
      unfold wpX_pass
      dsimp only
      rw [hc]
      refine ⟨hv, nm_e (br_f (by rw [hk]; decide) (br_f (by rw [hk]; decide) (br_f (by rw [hk]; decide) (br_f (by rw [hk]; decide) (br_f (by rw [hk]; decide) (br_f (by rw [hk]; decide) (br_t hk ?_)))))))⟩
      unfold wpX_leaveOrRepeat
      dsimp only
      rw [hc, hop]
      refine ⟨hv, nm_e ?_⟩
      rw [hcj]
      exact ⟨hvj, br_f (by rw [j7]; decide) hp⟩
    · rw [← nI_1] at hp
      unfold wpY_pass
      dsimp only
      rw [hc]
      refine ⟨hv, br_f (by rw [hk]; decide) ⟨hv, br_f (by rw [hk]; decide) ⟨hv, br_f (by rw [hk]; decide) ⟨hv, br_f (by rw [hk]; decide) ⟨hv, br_t hk ?_⟩⟩⟩⟩⟩
      refine tc_openerY (by omega) _ ?_
      rw [hj]
      refine ⟨hvj, br_t ?_ hp⟩
      exact (congrArg K hcj).trans j7
  · have hpl : pl j = L j := hL j (by rw [es]; exact List.mem_cons_self) j10
    by_cases c0 : L j - 1 ≤ 0
    · refine ⟨i + 1, c, V, O, upd pl j (L j - 1), upd L j (L j - 1), by omega, by omega, hV, fun x hx h10 => ?_, fun post hp => ?_, fun post hp => ?_⟩
      · rw [e1] at hx
        rw [pk_un (lt x hx), pk_un (lt x hx)]
        exact up x hx h10
      · rw [← nI_1] at hp
        unfold wpX_pass
        dsimp only
        rw [hc]
        refine ⟨hv, nm_e (br_f (by rw [hk]; decide) (br_f (by rw [hk]; decide) (br_f (by rw [hk]; decide) (br_f (by rw [hk]; decide) (br_f (by rw [hk]; decide) (br_f (by rw [hk]; decide) (br_t hk ?_)))))))⟩
        unfold wpX_leaveOrRepeat
        dsimp only
        rw [hc, hop]
        refine ⟨hv, nm_e ?_⟩
        rw [hcj, hpl]
        exact ⟨hvj, br_t j10 ⟨hvj, hvj, nm_e ⟨hvj, br_t (by rw [pk_us]; exact c0) hp⟩⟩⟩
      · rw [← nI_1] at hp
        unfold wpY_pass
        dsimp only
        rw [hc]
        refine ⟨hv, br_f (by rw [hk]; decide) ⟨hv, br_f (by rw [hk]; decide) ⟨hv, br_f (by rw [hk]; decide) ⟨hv, br_f (by rw [hk]; decide) ⟨hv, br_t hk ?_⟩⟩⟩⟩⟩
        refine tc_openerY (by omega) _ ?_
        rw [hj]
        show vp_in (nI j) 40 ∧ _
        unfold tc_v
        rw [hcj]
        exact ⟨hvj, br_f (by rw [j10]; decide) ⟨hvj, hvj, nm_e ⟨hvj, br_t (by rw [pk_us]; exact c0) hp⟩⟩⟩
    · refine ⟨j + 1, c, V, O, upd pl j (L j - 1), upd L j (L j - 1), by omega, by omega, hV, fun x hx h10 => ?_, fun post hp => ?_, fun post hp => ?_⟩
      · rw [tc_st_o (Or.inr j10)] at hx
        rcases List.mem_cons.mp hx with h | h
        · rw [h, pk_us, pk_us]
        · rw [pk_un (lt x h), pk_un (lt x h)]
          exact up x h h10
      · rw [← nI_1] at hp
        unfold wpX_pass
        dsimp only
        rw [hc]
        refine ⟨hv, nm_e (br_f (by rw [hk]; decide) (br_f (by rw [hk]; decide) (br_f (by rw [hk]; decide) (br_f (by rw [hk]; decide) (br_f (by rw [hk]; decide) (br_f (by rw [hk]; decide) (br_t hk ?_)))))))⟩
        unfold wpX_leaveOrRepeat
        dsimp only
        rw [hc, hop]
        refine ⟨hv, nm_e ?_⟩
        rw [hcj, hpl]
        exact ⟨hvj, br_t j10 ⟨hvj, hvj, nm_e ⟨hvj, br_f (by rw [pk_us]; exact c0) hp⟩⟩⟩
      · rw [← nI_1] at hp
        unfold wpY_pass
        dsimp only
        rw [hc]
        refine ⟨hv, br_f (by rw [hk]; decide) ⟨hv, br_f (by rw [hk]; decide) ⟨hv, br_f (by rw [hk]; decide) ⟨hv, br_f (by rw [hk]; decide) ⟨hv, br_t hk ?_⟩⟩⟩⟩⟩
        refine tc_openerY (by omega) _ ?_
        rw [hj]
        show vp_in (nI j) 40 ∧ _
        unfold tc_v
        rw [hcj]
        exact ⟨hvj, br_f (by rw [j10]; decide) ⟨hvj, hvj, nm_e ⟨hvj, br_f (by rw [pk_us]; exact c0) hp⟩⟩⟩
theorem tc_s12 (hN : N ≤ 40) (hi : i < N) (hcc : c < 5000) (hf : tc_fit (K i) (A i) (B i) (C i)) (hV : ∀ y, tc_rg (V y)) (hL : ∀ j, j ∈ tc_st K i → K j = 10 → pl j = L j) (hk : K i = 12) : tc_ok N c K A B C V O L oa op en ze po pl i := by
  have hv : vp_in (nI i) 40 := vp_in_nI (by omega) (by omega)
  have hc : (nI i).toNatClampNeg = i := nI_clamp (by omega)
  have hkx : K (nI i).toNatClampNeg = 12 := by rw [hc]; exact hk
  have ha : vp_in (A (nI i).toNatClampNeg) 6 := by rw [hc]; exact hf.2.2.1 (by rw [hk]; decide) (by rw [hk]; decide) (by rw [hk]; decide)
  have e1 : tc_st K (i + 1) = tc_st K i := tc_st_p (by rw [hk]; decide) (by rw [hk]; decide) (by rw [hk]; decide)
  by_cases h48 : c < 48
  · have n48 : ¬ (48 : Int32) ≤ nI c := nI_ge (b := 48) h48 (by decide)
    have hvc : vp_in (nI c) 48 := vp_in_nI h48 (by omega)
    refine ⟨i + 1, c + 1, V, upd O (nI c).toNatClampNeg (V (A (nI i).toNatClampNeg).toNatClampNeg), pl, L, by omega, by omega, hV, fun x hx h10 => hL x (by rw [← e1]; exact hx) h10, fun post hp => ?_, fun post hp => ?_⟩
    · rw [← nI_1, ← nI_1] at hp
      exact tc_prX hv hkx ha (br_f n48 ⟨hvc, hp⟩)
    · rw [← nI_1, ← nI_1] at hp
      exact tc_plY hv (by rw [hkx]; decide) (by rw [hkx]; decide) (by rw [hkx]; decide) (by rw [hkx]; decide) (by rw [hkx]; decide) (tc_prY hv hkx ha (br_f n48 ⟨hvc, hp⟩))
  · have y48 : (48 : Int32) ≤ nI c := nI_le (a := 48) (by omega) (by omega)
    refine ⟨i + 1, c + 1, V, O, pl, L, by omega, by omega, hV, fun x hx h10 => hL x (by rw [← e1]; exact hx) h10, fun post hp => ?_, fun post hp => ?_⟩
    · rw [← nI_1, ← nI_1] at hp
      exact tc_prX hv hkx ha (br_t y48 hp)
    · rw [← nI_1, ← nI_1] at hp
      exact tc_plY hv (by rw [hkx]; decide) (by rw [hkx]; decide) (by rw [hkx]; decide) (by rw [hkx]; decide) (by rw [hkx]; decide) (tc_prY hv hkx ha (br_t y48 hp))
theorem tc_sp (hN : N ≤ 40) (hi : i < N) (hf : tc_fit (K i) (A i) (B i) (C i)) (hV : ∀ y, tc_rg (V y)) (hL : ∀ j, j ∈ tc_st K i → K j = 10 → pl j = L j) (hk : K i < 7) : tc_ok N c K A B C V O L oa op en ze po pl i := by
  have hv : vp_in (nI i) 40 := vp_in_nI (by omega) (by omega)
  have hc : (nI i).toNatClampNeg = i := nI_clamp (by omega)
  have ne : ∀ m : Int32, ¬ m < 7 → ¬ K i = m := fun m hm z => hm (by rw [← z]; exact hk)
  have e1 : tc_st K (i + 1) = tc_st K i := tc_st_p (ne 7 (by decide)) (ne 10 (by decide)) (ne 11 (by decide))
  obtain ⟨w, hw, hX, hY⟩ := tc_pl (N := N) (q := nI c) (x := nI i) (K := K) (A := A) (B := B) (C := C) (V := V) (O := O) (L := L) (oa := oa) (op := op) (en := en) (ze := ze) (po := po) (pl := pl) hv (by rw [hc]; exact hf) (by rw [hc]; exact hk) hV
  rw [nI_1] at hX hY
  exact ⟨i + 1, c, _, O, pl, L, by omega, by omega, tc_rg_u hV hw _, fun x hx h10 => hL x (by rw [← e1]; exact hx) h10, hX, hY⟩
theorem tc_step (hN : N ≤ 40) (hi : i < N) (hcc : c < 5000) (hf : tc_fit (K i) (A i) (B i) (C i)) (hV : ∀ y, tc_rg (V y)) (hT : tc_T K N op en ze po) (hz : tc_st K N = []) (hL : ∀ j, j ∈ tc_st K i → K j = 10 → pl j = L j) : tc_ok N c K A B C V O L oa op en ze po pl i := by
  rcases tc_k13 hf.1 hf.2.1 with k | k | k | k | k | k | k | k | k | k | k | k | k
  · exact tc_sp hN hi hf hV hL (by rw [k]; decide)
  · exact tc_sp hN hi hf hV hL (by rw [k]; decide)
  · exact tc_sp hN hi hf hV hL (by rw [k]; decide)
  · exact tc_sp hN hi hf hV hL (by rw [k]; decide)
  · exact tc_sp hN hi hf hV hL (by rw [k]; decide)
  · exact tc_sp hN hi hf hV hL (by rw [k]; decide)
  · exact tc_sp hN hi hf hV hL (by rw [k]; decide)
  · exact tc_s7 hN hi hf hV hT hz hL k
  · exact tc_s89 hN hi hV hT hz hL (Or.inl k)
  · exact tc_s89 hN hi hV hT hz hL (Or.inr k)
  · exact tc_s10 hN hi hV hT hz hL k
  · exact tc_s11 hN hi hV hT hL k
  · exact tc_s12 hN hi hcc hf hV hL k
end
