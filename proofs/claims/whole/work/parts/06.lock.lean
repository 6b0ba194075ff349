section
variable {N : Nat} {p : Int32} {K A B C V O L pl : Nat → Int32}
theorem tc_link (hN : N ≤ 40) : ∀ (d i : Nat) (oa op en ze po : Nat → Int32), i + d = N → (tc_st K i).length ≤ 3 → tc_oa (tc_st K i) oa → tc_T K i op en ze po → ∃ (r : Int32) (oa' op' en' ze' po' : Nat → Int32), (r = 0 ∨ (r = 1 ∧ tc_T K N op' en' ze' po' ∧ tc_st K N = [])) ∧ (∀ (post : Int32 → SX → Prop) (n : Nat), d < n → post r (nI N, p, V, K, A, B, C, O, oa', op', en', ze', po', pl) → wX_link_4 post n (nI (tc_st K i).length) (nI i) (nI N) p V K A B C O oa op en ze po pl) ∧ (∀ (post : Int32 → Prop) (n : Nat), d < n → post r → wY_sound_4 post (nI N) p K A B C V O L n (nI (tc_st K i).length) (nI i)) := by
  intro d
  induction d with
  | zero =>
    intro i oa op en ze po hi hl ho ht
    have e : i = N := by omega
    subst e
    have hle : nI i ≤ nI i := nI_le (by omega) (by omega)
    cases hs : tc_st K i with
    | nil =>
      refine ⟨1, oa, op, en, ze, po, Or.inr ⟨rfl, ht, by trivial⟩, fun post n hn hp => ?_, fun post n hn hp => ?_⟩
      · obtain ⟨n, rfl⟩ : ∃ z, n = z + 1 := ⟨n - 1, by omega⟩
        exact br_t hle (br_t rfl hp)
      · obtain ⟨n, rfl⟩ : ∃ z, n = z + 1 := ⟨n - 1, by omega⟩
        exact br_t hle (br_t rfl hp)
    | cons x t =>
      have g : t.length + 1 ≤ 3 := by rw [hs] at hl; exact hl
      have hne : ¬ nI (t.length + 1) = 0 := nI_ne0 (by omega) (by omega)
      refine ⟨0, oa, op, en, ze, po, Or.inl rfl, fun post n hn hp => ?_, fun post n hn hp => ?_⟩
      · obtain ⟨n, rfl⟩ : ∃ z, n = z + 1 := ⟨n - 1, by omega⟩
        exact br_t hle (br_f hne hp)
      · obtain ⟨n, rfl⟩ : ∃ z, n = z + 1 := ⟨n - 1, by omega⟩
        exact br_t hle (br_f hne hp)
  | succ d ih =>
    intro i oa op en ze po hd hl ho ht
    have hi : i < N := by omega
    by_cases c1 : K i = 7 ∨ K i = 10
    · by_cases c2 : (tc_st K i).length < 3
      · have e := tc_st_o c1
        have el : (tc_st K (i + 1)).length = (tc_st K i).length + 1 := by rw [e]; rfl
        obtain ⟨r, oa', op', en', ze', po', h1, h2, h3⟩ := ih (i + 1) (upd oa (tc_st K i).length (nI i)) op en (upd ze i (-1)) (upd po i (-1)) (by omega) (by omega) (by rw [e]; exact ⟨pk_us, tc_oa_upd _ (Nat.le_refl _) ho⟩) (tc_T_o ht c1)
        rw [el] at h2 h3
        refine ⟨r, oa', op', en', ze', po', h1, fun post n hn hp => ?_, fun post n hn hp => ?_⟩
        · obtain ⟨n, rfl⟩ : ∃ z, n = z + 1 := ⟨n - 1, by omega⟩
          exact tc_sXo hN hi c1 c2 (h2 post n (by omega) hp)
        · obtain ⟨n, rfl⟩ : ∃ z, n = z + 1 := ⟨n - 1, by omega⟩
          exact tc_sYo hN hi c1 c2 (h3 post n (by omega) hp)
      · refine ⟨0, oa, op, en, ze, po, Or.inl rfl, fun post n hn hp => ?_, fun post n hn hp => ?_⟩
        · obtain ⟨n, rfl⟩ : ∃ z, n = z + 1 := ⟨n - 1, by omega⟩
          exact tc_sXof hN hi c1 (by omega) (by omega) hp
        · obtain ⟨n, rfl⟩ : ∃ z, n = z + 1 := ⟨n - 1, by omega⟩
          exact tc_sYof hN hi c1 (by omega) (by omega) hp
    · by_cases c2 : K i = 8 ∨ K i = 9 ∨ K i = 11
      · cases hs : tc_st K i with
        | nil =>
          refine ⟨0, oa, op, en, ze, po, Or.inl rfl, fun post n hn hp => ?_, fun post n hn hp => ?_⟩
          · obtain ⟨n, rfl⟩ : ∃ z, n = z + 1 := ⟨n - 1, by omega⟩
            exact tc_sX0 hN hi c2 hp
          · obtain ⟨n, rfl⟩ : ∃ z, n = z + 1 := ⟨n - 1, by omega⟩
            by_cases c3 : K i = 11
            · exact tc_sYe0 hN hi c3 hp
            · refine tc_sYm (s := 0) hN hi (c2.elim Or.inl (fun z => z.elim Or.inr (fun z => absurd z c3))) (by omega) ?_
              unfold wpY_markFits
              dsimp only
              refine tc_openerY (by omega) _ ?_
              rw [hs]
              exact br_t (by decide) (br_t rfl hp)
        | cons j t =>
          have hh : (tc_st K i).head? = some j := by rw [hs]; rfl
          have hj := tc_st_lt K i j (by rw [hs]; exact List.mem_cons_self)
          have g : t.length + 1 ≤ 3 := by rw [hs] at hl; exact hl
          have ho' : oa t.length = nI j ∧ tc_oa t oa := by rw [hs] at ho; exact ho
          have hM := ht.2.2.1 j hj.1 hj.2
          by_cases c3 : K i = 11
          · have e : tc_st K (i + 1) = t := by rw [tc_st_e c3, hs]; rfl
            obtain ⟨r, oa', op', en', ze', po', h1, h2, h3⟩ := ih (i + 1) oa (upd op i (nI j)) (upd en j (nI i)) ze po (by omega) (by rw [e]; omega) (by rw [e]; exact ho'.2) (tc_T_e ht c3 hh)
            rw [e] at h2 h3
            refine ⟨r, oa', op', en', ze', po', h1, fun post n hn hp => ?_, fun post n hn hp => ?_⟩
            · obtain ⟨n, rfl⟩ : ∃ z, n = z + 1 := ⟨n - 1, by omega⟩
              exact tc_sXe hN hi c3 (by omega) (by omega) ho'.1 (h2 post n (by omega) hp)
            · obtain ⟨n, rfl⟩ : ∃ z, n = z + 1 := ⟨n - 1, by omega⟩
              exact tc_sYe hN hi c3 (by omega) (h3 post n (by omega) hp)
          · have hm : K i = 8 ∨ K i = 9 := c2.elim Or.inl (fun z => z.elim Or.inr (fun z => absurd z c3))
            have e : tc_st K (i + 1) = j :: t := by rw [tc_st_p (fun z => c1 (Or.inl z)) (fun z => c1 (Or.inr z)) c3, hs]
            by_cases c4 : K j = 7 ∧ po j = -1 ∧ (K i = 9 ∨ ze j = -1)
            · obtain ⟨k7, kp, kz⟩ := c4
              by_cases c5 : K i = 9
              · obtain ⟨r, oa', op', en', ze', po', h1, h2, h3⟩ := ih (i + 1) oa (upd op i (nI j)) en ze (upd po j (nI i)) (by omega) (by rw [e]; exact g) (by rw [e]; exact ho') (tc_T_9 ht (by omega) c5 hh k7 kp)
                rw [e] at h2 h3
                refine ⟨r, oa', op', en', ze', po', h1, fun post n hn hp => ?_, fun post n hn hp => ?_⟩
                · obtain ⟨n, rfl⟩ : ∃ z, n = z + 1 := ⟨n - 1, by omega⟩
                  exact tc_sXm hN hi hm (by omega) (by omega) ho'.1 (fun _ _ _ => h2 post n (by omega) hp) (fun _ _ c => absurd c5 c) (fun z => (z.elim (fun z => z k7) (fun z => z.elim (fun z => z kp) (fun z => z.1 c5))).elim)
                · obtain ⟨n, rfl⟩ : ∃ z, n = z + 1 := ⟨n - 1, by omega⟩
                  refine tc_sYm (s := t.length + 1) hN hi hm g (tc_fitsY (r1 := po j) (by omega) hh (by rw [c5]; exact hM.2) hM.2 _ (fun _ _ _ => br_f (by decide) (nm_r (nI_1 i) (h3 post n (by omega) hp))) (fun z => ?_))
                  rw [kp] at z
                  exact absurd (z.elim (fun z => (z k7).elim) (fun z => z.elim id id)) (by decide)
              · have kz' : ze j = -1 := kz.resolve_left c5
                have h8 : K i = 8 := hm.resolve_right c5
                obtain ⟨r, oa', op', en', ze', po', h1, h2, h3⟩ := ih (i + 1) oa (upd op i (nI j)) en (upd ze j (nI i)) po (by omega) (by rw [e]; exact g) (by rw [e]; exact ho') (tc_T_8 ht (by omega) h8 hh k7 kz')
                rw [e] at h2 h3
                refine ⟨r, oa', op', en', ze', po', h1, fun post n hn hp => ?_, fun post n hn hp => ?_⟩
                · obtain ⟨n, rfl⟩ : ∃ z, n = z + 1 := ⟨n - 1, by omega⟩
                  exact tc_sXm hN hi hm (by omega) (by omega) ho'.1 (fun _ _ c => absurd c c5) (fun _ _ _ _ => h2 post n (by omega) hp) (fun z => (z.elim (fun z => z k7) (fun z => z.elim (fun z => z kp) (fun z => z.2 kz'))).elim)
                · obtain ⟨n, rfl⟩ : ∃ z, n = z + 1 := ⟨n - 1, by omega⟩
                  refine tc_sYm (s := t.length + 1) hN hi hm g (tc_fitsY (r1 := ze j) (by omega) hh (by rw [h8]; exact hM.1) hM.2 _ (fun _ _ _ => br_f (by decide) (nm_r (nI_1 i) (h3 post n (by omega) hp))) (fun z => ?_))
                  rw [kp, kz'] at z
                  exact absurd (z.elim (fun z => (z k7).elim) (fun z => z.elim id id)) (by decide)
            · refine ⟨0, oa, upd op i (nI j), en, ze, po, Or.inl rfl, fun post n hn hp => ?_, fun post n hn hp => ?_⟩
              · obtain ⟨n, rfl⟩ : ∃ z, n = z + 1 := ⟨n - 1, by omega⟩
                exact tc_sXm hN hi hm (by omega) (by omega) ho'.1 (fun a b c => absurd ⟨a, b, Or.inl c⟩ c4) (fun a b _ c => absurd ⟨a, b, Or.inr c⟩ c4) (fun _ => hp)
              · obtain ⟨n, rfl⟩ : ∃ z, n = z + 1 := ⟨n - 1, by omega⟩
                by_cases c5 : K i = 9
                · exact tc_sYm (s := t.length + 1) hN hi hm g (tc_fitsY (r1 := po j) (by omega) hh (by rw [c5]; exact hM.2) hM.2 _ (fun a b c => absurd ⟨a, c, Or.inl c5⟩ c4) (fun _ => br_t rfl hp))
                · have h8 : K i = 8 := hm.resolve_right c5
                  exact tc_sYm (s := t.length + 1) hN hi hm g (tc_fitsY (r1 := ze j) (by omega) hh (by rw [h8]; exact hM.1) hM.2 _ (fun a b c => absurd ⟨a, c, Or.inr b⟩ c4) (fun _ => br_t rfl hp))
      · have h7 : ¬ K i = 7 := fun z => c1 (Or.inl z)
        have h10 : ¬ K i = 10 := fun z => c1 (Or.inr z)
        have h8 : ¬ K i = 8 := fun z => c2 (Or.inl z)
        have h9 : ¬ K i = 9 := fun z => c2 (Or.inr (Or.inl z))
        have h11 : ¬ K i = 11 := fun z => c2 (Or.inr (Or.inr z))
        have e := tc_st_p h7 h10 h11
        obtain ⟨r, oa', op', en', ze', po', h1, h2, h3⟩ := ih (i + 1) oa op en ze po (by omega) (by rw [e]; exact hl) (by rw [e]; exact ho) (tc_T_p ht h7 h8 h9 h10 h11)
        rw [e] at h2 h3
        refine ⟨r, oa', op', en', ze', po', h1, fun post n hn hp => ?_, fun post n hn hp => ?_⟩
        · obtain ⟨n, rfl⟩ : ∃ z, n = z + 1 := ⟨n - 1, by omega⟩
          exact tc_sXp hN hi h7 h8 h9 h10 h11 (h2 post n (by omega) hp)
        · obtain ⟨n, rfl⟩ : ∃ z, n = z + 1 := ⟨n - 1, by omega⟩
          exact tc_sYp hN hi h7 h8 h9 h10 h11 hl (h3 post n (by omega) hp)
/-- link beside sound, as they are called -/
theorem tc_lnk (hN : N ≤ 40) (oa op en ze po : Nat → Int32) : ∃ (r : Int32) (oa' op' en' ze' po' : Nat → Int32), (r = 0 ∨ (r = 1 ∧ tc_T K N op' en' ze' po' ∧ tc_st K N = [])) ∧ (∀ (post : Int32 → SX → Prop), post r (nI N, p, V, K, A, B, C, O, oa', op', en', ze', po', pl) → wpX_link post (nI N, p, V, K, A, B, C, O, oa, op, en, ze, po, pl)) ∧ (∀ (post : Int32 → Prop), post r → wpY_sound post (nI N, p, K, A, B, C, V, O, L)) := by
  obtain ⟨r, oa', op', en', ze', po', h1, h2, h3⟩ := tc_link (p := p) (K := K) (A := A) (B := B) (C := C) (V := V) (O := O) (L := L) (pl := pl) hN N 0 oa op en ze po (by omega) (Nat.zero_le _) True.intro ⟨fun k hk => absurd hk (by omega), fun k hk => absurd hk (by omega), fun k hk => absurd hk (by omega), fun k hk => absurd hk (by omega)⟩
  exact ⟨r, oa', op', en', ze', po', h1, fun post hp => ⟨N + 1, h2 post (N + 1) (by omega) hp⟩, fun post hp => ⟨N + 1, h3 post (N + 1) (by omega) hp⟩⟩
end
