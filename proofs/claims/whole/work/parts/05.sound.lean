section
variable {N n : Nat} {p x1 : Int32} {K A B C V O L oa op en ze po pl : Nat → Int32} {i : Nat}
theorem tc_sX31 (hN : N ≤ 40) (hi : i < N) (ho : K i = 7 ∨ K i = 10) {post : Int32 → SX → Prop} (h : wX_link_31 post (wX_link_4 post n) x1 (nI i) (nI N) p V K A B C O oa op en ze po pl) : wX_link_4 post (n + 1) x1 (nI i) (nI N) p V K A B C O oa op en ze po pl := by
  have hv : vp_in (nI i) 40 := vp_in_nI (by omega) (by omega)
  have hc : (nI i).toNatClampNeg = i := nI_clamp (by omega)
  have hl : ¬ nI N ≤ nI i := nI_ge (by omega) (by omega)
  rcases ho with a | a
  · exact br_f hl ⟨hv, nm_r (congrArg K hc) (br_t a h)⟩
  · exact br_f hl ⟨hv, nm_r (congrArg K hc) (br_f (by rw [a]; decide) (br_t a h))⟩
theorem tc_sX83 (hN : N ≤ 40) (hi : i < N) (ho : K i = 8 ∨ K i = 9 ∨ K i = 11) {post : Int32 → SX → Prop} (h : wX_link_83 post (wX_link_4 post n) x1 (nI i) (K i) (nI N) p V K A B C O oa op en ze po pl) : wX_link_4 post (n + 1) x1 (nI i) (nI N) p V K A B C O oa op en ze po pl := by
  have hv : vp_in (nI i) 40 := vp_in_nI (by omega) (by omega)
  have hc : (nI i).toNatClampNeg = i := nI_clamp (by omega)
  have hl : ¬ nI N ≤ nI i := nI_ge (by omega) (by omega)
  rcases ho with a | a | a
  · exact br_f hl ⟨hv, nm_r (congrArg K hc) (br_f (by rw [a]; decide) (br_f (by rw [a]; decide) (br_t a h)))⟩
  · exact br_f hl ⟨hv, nm_r (congrArg K hc) (br_f (by rw [a]; decide) (br_f (by rw [a]; decide) (br_f (by rw [a]; decide) (br_t a h))))⟩
  · exact br_f hl ⟨hv, nm_r (congrArg K hc) (br_f (by rw [a]; decide) (br_f (by rw [a]; decide) (br_f (by rw [a]; decide) (br_f (by rw [a]; decide) (br_t a h)))))⟩
theorem tc_sXp (hN : N ≤ 40) (hi : i < N) (h7 : ¬ K i = 7) (h8 : ¬ K i = 8) (h9 : ¬ K i = 9) (h10 : ¬ K i = 10) (h11 : ¬ K i = 11) {post : Int32 → SX → Prop} (h : wX_link_4 post n x1 (nI (i + 1)) (nI N) p V K A B C O oa op en ze po pl) : wX_link_4 post (n + 1) x1 (nI i) (nI N) p V K A B C O oa op en ze po pl := by
  have hv : vp_in (nI i) 40 := vp_in_nI (by omega) (by omega)
  have hc : (nI i).toNatClampNeg = i := nI_clamp (by omega)
  have hl : ¬ nI N ≤ nI i := nI_ge (by omega) (by omega)
  exact br_f hl ⟨hv, nm_r (congrArg K hc) (br_f h7 (br_f h10 (br_f h8 (br_f h9 (br_f h11 (nm_r (nI_1 i) h))))))⟩
theorem tc_sXo (hN : N ≤ 40) (hi : i < N) (ho : K i = 7 ∨ K i = 10) {s : Nat} (hs : s < 3) {post : Int32 → SX → Prop} (h : wX_link_4 post n (nI (s + 1)) (nI (i + 1)) (nI N) p V K A B C O (upd oa s (nI i)) op en (upd ze i (-1)) (upd po i (-1)) pl) : wX_link_4 post (n + 1) (nI s) (nI i) (nI N) p V K A B C O oa op en ze po pl := by
  have hv : vp_in (nI i) 40 := vp_in_nI (by omega) (by omega)
  have hc : (nI i).toNatClampNeg = i := nI_clamp (by omega)
  have hs' : (nI s).toNatClampNeg = s := nI_clamp (by omega)
  refine tc_sX31 hN hi ho (br_t (nI_lt (b := 3) hs (by decide)) ⟨vp_in_nI hs (by omega), nm_r (congrArg (fun z => upd oa z (nI i)) hs') (nm_r (nI_1 s) ⟨hv, nm_r (congrArg (fun z => upd ze z (-1)) hc) ⟨hv, nm_r (congrArg (fun z => upd po z (-1)) hc) (nm_r (nI_1 i) ?_)⟩⟩)⟩)
  exact h
theorem tc_sXof (hN : N ≤ 40) (hi : i < N) (ho : K i = 7 ∨ K i = 10) {s : Nat} (hs : 3 ≤ s) (hs2 : s < 100) {post : Int32 → SX → Prop} (h : post 0 (nI N, p, V, K, A, B, C, O, oa, op, en, ze, po, pl)) : wX_link_4 post (n + 1) (nI s) (nI i) (nI N) p V K A B C O oa op en ze po pl :=
  tc_sX31 hN hi ho (br_f (nI_nlt (b := 3) hs (by omega)) h)
theorem tc_sX0 (hN : N ≤ 40) (hi : i < N) (ho : K i = 8 ∨ K i = 9 ∨ K i = 11) {post : Int32 → SX → Prop} (h : post 0 (nI N, p, V, K, A, B, C, O, oa, op, en, ze, po, pl)) : wX_link_4 post (n + 1) (nI 0) (nI i) (nI N) p V K A B C O oa op en ze po pl :=
  tc_sX83 hN hi ho (br_f (by decide) h)
theorem tc_sXe (hN : N ≤ 40) (hi : i < N) (h11 : K i = 11) {s j : Nat} (hs : s < 3) (hj : j < 40) (ha : oa s = nI j) {post : Int32 → SX → Prop} (h : wX_link_4 post n (nI s) (nI (i + 1)) (nI N) p V K A B C O oa (upd op i (nI j)) (upd en j (nI i)) ze po pl) : wX_link_4 post (n + 1) (nI (s + 1)) (nI i) (nI N) p V K A B C O oa op en ze po pl := by
  have hv : vp_in (nI i) 40 := vp_in_nI (by omega) (by omega)
  have hc : (nI i).toNatClampNeg = i := nI_clamp (by omega)
  have hcj : (nI j).toNatClampNeg = j := nI_clamp (by omega)
  have e : (nI (s + 1) - 1).toNatClampNeg = s := by rw [nI_pred]; exact nI_clamp (by omega)
  have e2 : oa (nI (s + 1) - 1).toNatClampNeg = nI j := by rw [e]; exact ha
  refine tc_sX83 hN hi (Or.inr (Or.inr h11)) (br_t (nI_lt (a := 0) (by omega) (by omega)) ⟨by rw [nI_pred]; exact vp_in_nI hs (by omega), nm_r e2 ⟨hv, nm_r (congrArg (fun z => upd op z (nI j)) hc) (br_t h11 ⟨vp_in_nI hj (by omega), nm_r (congrArg (fun z => upd en z (nI i)) hcj) (nm_r (pk_m1 s) (nm_r (nI_1 i) ?_))⟩)⟩⟩)
  exact h
theorem tc_bsX {j : Nat} (hi : i < 40) (hj : j < 40) {post : Int32 → SX → Prop} (h9 : K j = 7 → po j = -1 → K i = 9 → post 1 (nI N, p, V, K, A, B, C, O, oa, op, en, ze, upd po j (nI i), pl)) (h8 : K j = 7 → po j = -1 → ¬ K i = 9 → ze j = -1 → post 1 (nI N, p, V, K, A, B, C, O, oa, op, en, upd ze j (nI i), po, pl)) (h0 : (¬ K j = 7 ∨ ¬ po j = -1 ∨ (¬ K i = 9 ∧ ¬ ze j = -1)) → post 0 (nI N, p, V, K, A, B, C, O, oa, op, en, ze, po, pl)) : wpX_beginSection post (nI N, p, V, K, A, B, C, O, oa, op, en, ze, po, pl) (nI i) (nI j) := by
  have hv : vp_in (nI i) 40 := vp_in_nI hi (by omega)
  have hvj : vp_in (nI j) 40 := vp_in_nI hj (by omega)
  have hc : (nI i).toNatClampNeg = i := nI_clamp (by omega)
  have hcj : (nI j).toNatClampNeg = j := nI_clamp (by omega)
  unfold wpX_beginSection
  dsimp only
  rw [hc, hcj]
  exact ⟨hvj, br_c (fun a => ⟨hvj, br_c (fun b => ⟨hv, br_c (fun c => ⟨hvj, nm_e (h9 a b c)⟩) (fun c => ⟨hvj, br_c (fun d => ⟨hvj, nm_e (h8 a b c d)⟩) (fun d => h0 (Or.inr (Or.inr ⟨c, d⟩)))⟩)⟩) (fun b => h0 (Or.inr (Or.inl b)))⟩) (fun a => h0 (Or.inl a))⟩
theorem tc_sXm (hN : N ≤ 40) (hi : i < N) (hm : K i = 8 ∨ K i = 9) {s j : Nat} (hs : s < 3) (hj : j < 40) (ha : oa s = nI j) {post : Int32 → SX → Prop} (h9 : K j = 7 → po j = -1 → K i = 9 → wX_link_4 post n (nI (s + 1)) (nI (i + 1)) (nI N) p V K A B C O oa (upd op i (nI j)) en ze (upd po j (nI i)) pl) (h8 : K j = 7 → po j = -1 → ¬ K i = 9 → ze j = -1 → wX_link_4 post n (nI (s + 1)) (nI (i + 1)) (nI N) p V K A B C O oa (upd op i (nI j)) en (upd ze j (nI i)) po pl) (h0 : (¬ K j = 7 ∨ ¬ po j = -1 ∨ (¬ K i = 9 ∧ ¬ ze j = -1)) → post 0 (nI N, p, V, K, A, B, C, O, oa, upd op i (nI j), en, ze, po, pl)) : wX_link_4 post (n + 1) (nI (s + 1)) (nI i) (nI N) p V K A B C O oa op en ze po pl := by
  have hv : vp_in (nI i) 40 := vp_in_nI (by omega) (by omega)
  have hc : (nI i).toNatClampNeg = i := nI_clamp (by omega)
  have e : (nI (s + 1) - 1).toNatClampNeg = s := by rw [nI_pred]; exact nI_clamp (by omega)
  have e2 : oa (nI (s + 1) - 1).toNatClampNeg = nI j := by rw [e]; exact ha
  refine tc_sX83 hN hi (hm.elim Or.inl (fun z => Or.inr (Or.inl z))) (br_t (nI_lt (a := 0) (by omega) (by omega)) ⟨by rw [nI_pred]; exact vp_in_nI hs (by omega), nm_r e2 ⟨hv, nm_r (congrArg (fun z => upd op z (nI j)) hc) (br_f (by rcases hm with a | a <;> rw [a] <;> decide) ?_)⟩⟩)
  refine tc_bsX (by omega) hj (fun a b c => ?_) (fun a b c d => ?_) (fun a => ?_)
  · exact br_f (by decide) (nm_r (nI_1 i) (h9 a b c))
  · exact br_f (by decide) (nm_r (nI_1 i) (h8 a b c d))
  · exact br_t rfl (h0 a)
/-! Y -/
theorem tc_sYo (hN : N ≤ 40) (hi : i < N) (ho : K i = 7 ∨ K i = 10) {s : Nat} (hs : s < 3) {post : Int32 → Prop} (h : wY_sound_4 post (nI N) p K A B C V O L n (nI (s + 1)) (nI (i + 1))) : wY_sound_4 post (nI N) p K A B C V O L (n + 1) (nI s) (nI i) := by
  have hv : vp_in (nI i) 40 := vp_in_nI (by omega) (by omega)
  have hc : (nI i).toNatClampNeg = i := nI_clamp (by omega)
  have hl : ¬ nI N ≤ nI i := nI_ge (by omega) (by omega)
  refine br_f hl (tc_opensY (by omega) _ (fun _ => br_f (by decide) (nm_r (nI_1 s) ?_)) (fun z => absurd ho z))
  exact ⟨hv, br_f (by rw [hc]; rcases ho with a | a <;> rw [a] <;> decide) (br_f (nI_pos (by omega)) (br_t (nI_le (b := 3) (by omega) (by omega)) ⟨hv, br_f (by rw [hc]; rcases ho with a | a <;> rw [a] <;> decide) ⟨hv, br_f (by rw [hc]; rcases ho with a | a <;> rw [a] <;> decide) (nm_r (nI_1 i) h)⟩⟩))⟩
theorem tc_sYof (hN : N ≤ 40) (hi : i < N) (ho : K i = 7 ∨ K i = 10) {s : Nat} (hs : 3 ≤ s) (hs2 : s < 100) {post : Int32 → Prop} (h : post 0) : wY_sound_4 post (nI N) p K A B C V O L (n + 1) (nI s) (nI i) := by
  have hv : vp_in (nI i) 40 := vp_in_nI (by omega) (by omega)
  have hc : (nI i).toNatClampNeg = i := nI_clamp (by omega)
  have hl : ¬ nI N ≤ nI i := nI_ge (by omega) (by omega)
  refine br_f hl (tc_opensY (by omega) _ (fun _ => br_f (by decide) (nm_r (nI_1 s) ?_)) (fun z => absurd ho z))
  exact ⟨hv, br_f (by rw [hc]; rcases ho with a | a <;> rw [a] <;> decide) (br_f (nI_pos (by omega)) (br_f (nI_ge (a := 3) (by omega) (by omega)) h))⟩
theorem tc_sYe (hN : N ≤ 40) (hi : i < N) (h11 : K i = 11) {s : Nat} (hs : s < 3) {post : Int32 → Prop} (h : wY_sound_4 post (nI N) p K A B C V O L n (nI s) (nI (i + 1))) : wY_sound_4 post (nI N) p K A B C V O L (n + 1) (nI (s + 1)) (nI i) := by
  have hv : vp_in (nI i) 40 := vp_in_nI (by omega) (by omega)
  have hc : (nI i).toNatClampNeg = i := nI_clamp (by omega)
  have hl : ¬ nI N ≤ nI i := nI_ge (by omega) (by omega)
  refine br_f hl (tc_opensY (by omega) _ (fun z => absurd z (by rw [h11]; decide)) (fun _ => br_t rfl ?_))
  exact ⟨hv, br_t (by rw [hc]; exact h11) (nm_r (pk_m1 s) (br_f (nI_pos (by omega)) (br_t (nI_le (b := 3) (by omega) (by omega)) ⟨hv, br_f (by rw [hc, h11]; decide) ⟨hv, br_f (by rw [hc, h11]; decide) (nm_r (nI_1 i) h)⟩⟩)))⟩
theorem tc_sYe0 (hN : N ≤ 40) (hi : i < N) (h11 : K i = 11) {post : Int32 → Prop} (h : post 0) : wY_sound_4 post (nI N) p K A B C V O L (n + 1) (nI 0) (nI i) := by
  have hv : vp_in (nI i) 40 := vp_in_nI (by omega) (by omega)
  have hc : (nI i).toNatClampNeg = i := nI_clamp (by omega)
  have hl : ¬ nI N ≤ nI i := nI_ge (by omega) (by omega)
  refine br_f hl (tc_opensY (by omega) _ (fun z => absurd z (by rw [h11]; decide)) (fun _ => br_t rfl ?_))
  exact ⟨hv, br_t (by rw [hc]; exact h11) (nm_e (br_t (by decide) h))⟩
theorem tc_sYp (hN : N ≤ 40) (hi : i < N) (h7 : ¬ K i = 7) (h8 : ¬ K i = 8) (h9 : ¬ K i = 9) (h10 : ¬ K i = 10) (h11 : ¬ K i = 11) {s : Nat} (hs : s ≤ 3) {post : Int32 → Prop} (h : wY_sound_4 post (nI N) p K A B C V O L n (nI s) (nI (i + 1))) : wY_sound_4 post (nI N) p K A B C V O L (n + 1) (nI s) (nI i) := by
  have hv : vp_in (nI i) 40 := vp_in_nI (by omega) (by omega)
  have hc : (nI i).toNatClampNeg = i := nI_clamp (by omega)
  have hl : ¬ nI N ≤ nI i := nI_ge (by omega) (by omega)
  refine br_f hl (tc_opensY (by omega) _ (fun z => (z.elim h7 h10).elim) (fun _ => br_t rfl ?_))
  exact ⟨hv, br_f (by rw [hc]; exact h11) (br_f (nI_pos (by omega)) (br_t (nI_le (b := 3) (by omega) (by omega)) ⟨hv, br_f (by rw [hc]; exact h8) ⟨hv, br_f (by rw [hc]; exact h9) (nm_r (nI_1 i) h)⟩⟩))⟩
theorem tc_sYm (hN : N ≤ 40) (hi : i < N) (hm : K i = 8 ∨ K i = 9) {s : Nat} (hs : s ≤ 3) {post : Int32 → Prop} (h : wpY_markFits (fun r => ((r = 0 → post 0) ∧ (¬ r = 0 → ∀ y : Int32, y = nI i + 1 → wY_sound_4 post (nI N) p K A B C V O L n (nI s) y))) (nI N, p, K, A, B, C, V, O, L) (nI i)) : wY_sound_4 post (nI N) p K A B C V O L (n + 1) (nI s) (nI i) := by
  have hv : vp_in (nI i) 40 := vp_in_nI (by omega) (by omega)
  have hc : (nI i).toNatClampNeg = i := nI_clamp (by omega)
  have hl : ¬ nI N ≤ nI i := nI_ge (by omega) (by omega)
  rcases hm with a | a
  · refine br_f hl (tc_opensY (by omega) _ (fun z => absurd z (by rw [a]; decide)) (fun _ => br_t rfl ?_))
    exact ⟨hv, br_f (by rw [hc, a]; decide) (br_f (nI_pos (by omega)) (br_t (nI_le (b := 3) (by omega) (by omega)) ⟨hv, br_t (by rw [hc]; exact a) h⟩))⟩
  · refine br_f hl (tc_opensY (by omega) _ (fun z => absurd z (by rw [a]; decide)) (fun _ => br_t rfl ?_))
    exact ⟨hv, br_f (by rw [hc, a]; decide) (br_f (nI_pos (by omega)) (br_t (nI_le (b := 3) (by omega) (by omega)) ⟨hv, br_f (by rw [hc, a]; decide) ⟨hv, br_t (by rw [hc]; exact a) h⟩⟩))⟩
end
