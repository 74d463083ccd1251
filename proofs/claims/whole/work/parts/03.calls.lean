/-! the private methods of both sides, each with a general post -/
theorem pz_Xref_t {post : Int32 → Prop} {x : Int32} (h : pz_ref x) (hp : post 1) : wpX_isReference post x := by
  obtain ⟨n, hn, h7, rfl⟩ := h
  have e7 : ¬ nI n / 16 - nI n / 16 / 8 * 8 = 7 := by
    rw [pz_sd (by omega)]
    intro e
    exact h7 ((nI_eq (b := 7) (by omega) (by decide)).mp e)
  exact br_f (nI_pos (by omega)) (br_f (nI_ge (b := 512) hn (by decide)) (And.intro (by decide) (And.intro (by decide) (br_f e7 hp))))
theorem pz_Xref_f {post : Int32 → Prop} {x : Int32} (h : ¬ pz_ref x) (hp : post 0) : wpX_isReference post x := by
  by_cases h0 : x < 0
  · exact br_t h0 hp
  · obtain ⟨n, hn, rfl⟩ := nI_of h0
    by_cases h5 : n < 512
    · have h7 : n / 16 % 8 = 7 := Decidable.byContradiction fun z => h ((pz_refN h5).mpr z)
      have e7 : nI n / 16 - nI n / 16 / 8 * 8 = 7 := by rw [pz_sd hn, h7]; rfl
      exact br_f h0 (br_f (nI_ge (b := 512) h5 (by decide)) (And.intro (by decide) (And.intro (by decide) (br_t e7 hp))))
    · exact br_f h0 (br_t (nI_le (a := 512) (by omega) hn) hp)
theorem pz_Yref_t {post : Int32 → Prop} {u : SY} {x : Int32} (h : pz_ref x) (hp : post 0) : wpY_badRef post u x := by
  obtain ⟨n, hn, h7, rfl⟩ := h
  obtain ⟨f1, f2, m, b, o, d, s, w⟩ := u
  have e7 : ¬ nI n / 16 - nI n / 16 / 8 * 8 = 7 := by
    rw [pz_sd (by omega)]
    intro e
    exact h7 ((nI_eq (b := 7) (by omega) (by decide)).mp e)
  exact br_f (nI_pos (by omega)) (br_f (nI_nlt (b := n) (a := 511) (by omega) (by decide)) ⟨by decide, by decide, br_f e7 hp⟩)
theorem pz_Yref_f {post : Int32 → Prop} {u : SY} {x : Int32} (h : ¬ pz_ref x) (hp : post 1) : wpY_badRef post u x := by
  obtain ⟨f1, f2, m, b, o, d, s, w⟩ := u
  by_cases h0 : x < 0
  · exact br_t h0 hp
  · obtain ⟨n, hn, rfl⟩ := nI_of h0
    by_cases h5 : n < 512
    · have h7 : n / 16 % 8 = 7 := Decidable.byContradiction fun z => h ((pz_refN h5).mpr z)
      have e7 : nI n / 16 - nI n / 16 / 8 * 8 = 7 := by rw [pz_sd hn, h7]; rfl
      exact br_f h0 (br_f (nI_nlt (b := n) (a := 511) (by omega) (by decide)) ⟨by decide, by decide, br_t e7 hp⟩)
    · exact br_f h0 (br_t (nI_lt (a := 511) (b := n) (by omega) hn) hp)
theorem pz_Xpl {post : Int32 → Prop} {fb ft : Int32} {m b o d s w : Nat → Int32} {n : Nat} {i : Int32} (h : n < 512) (hp : post (nI (pz_pl b n i))) : wpX_cellInRound post (fb, ft, m, b, o, d, s, w) (nI n) i := by
  unfold wpX_cellInRound wpX_strideDigit
  dsimp only
  refine ⟨by decide, nm_r (pz_r16 (by omega)) ⟨by decide, by decide, nm_r (show nI n / 16 - nI n / 16 / 8 * 8 - 3 = nI (n / 16 % 8) - 3 by rw [pz_sd (by omega)]) ⟨by decide, ?_, ?_⟩⟩⟩
  · rw [pz_d128 h]; exact vp_in_nI (by omega) (by decide)
  · rw [pz_d128 h, nI_clamp (by omega), pz_cell]; exact hp
theorem pz_Ypl {post : Int32 → Prop} {fc ft : Int32} {m b o d s w : Nat → Int32} {n : Nat} {i : Int32} (h : n < 512) (hp : post (nI (pz_pl b n i))) : wpY_place post (ft, fc, m, b, o, d, s, w) (nI n) i := by
  unfold wpY_place
  dsimp only
  refine ⟨by decide, nm_r (show nI n / 128 &&& 3 = nI (n / 128) by rw [pz_d128 h, pz_and3 (by omega)]) ⟨by decide, by decide, nm_r (show nI n / 16 - nI n / 16 / 8 * 8 - 3 = nI (n / 16 % 8) - 3 by rw [pz_sd (by omega)]) ⟨by decide, nm_r (pz_r16 (by omega)) ⟨vp_in_nI (by omega) (by decide), ?_⟩⟩⟩⟩
  rw [nI_clamp (by omega), pz_cell]
  exact hp
theorem pz_Xc {post : Int32 → Prop} {fb ft : Int32} {m b o d s w : Nat → Int32} {x i : Int32} (h : pz_ref x) (hp : post (nI (pz_pl b x.toNatClampNeg i))) : wpX_cellInRound post (fb, ft, m, b, o, d, s, w) x i := by
  obtain ⟨n, hn, _, rfl⟩ := h
  rw [nI_clamp (by omega)] at hp
  exact pz_Xpl hn hp
theorem pz_Yc {post : Int32 → Prop} {fc ft : Int32} {m b o d s w : Nat → Int32} {x i : Int32} (h : pz_ref x) (hp : post (nI (pz_pl b x.toNatClampNeg i))) : wpY_place post (ft, fc, m, b, o, d, s, w) x i := by
  obtain ⟨n, hn, _, rfl⟩ := h
  rw [nI_clamp (by omega)] at hp
  exact pz_Ypl hn hp
theorem pz_r511 {x : Int32} (h : pz_ref x) : x &&& 511 = x := by
  obtain ⟨n, hn, _, rfl⟩ := h
  exact pz_and511 hn
theorem pz_Xdo {post : SX → Prop} {fb ft : Int32} {m b o d s w : Nat → Int32} {k : Nat} {i : Int32} (hk : k < 5) (ok : pz_ok (o k) (d k) (s k) (w k))
    (hp : post (fb, (pz_do b (o k) (d k) (s k) (w k) i (m, ft)).2, (pz_do b (o k) (d k) (s k) (w k) i (m, ft)).1, b, o, d, s, w)) : wpX_doStatement post (fb, ft, m, b, o, d, s, w) (nI k) i := by
  have vin : vp_in (nI k) 5 := vp_in_nI hk (by decide)
  unfold wpX_doStatement
  dsimp only
  rw [nI_clamp (show k < 2 ^ 31 by omega)]
  obtain ⟨ho, hd, hs, hw⟩ := ok
  generalize o k = oo at ho hw hp ⊢
  generalize d k = dd at hd hp ⊢
  generalize s k = ss at hs hp ⊢
  generalize w k = ww at hw hp ⊢
  refine ⟨vin, nm_e ⟨vin, nm_e ⟨vin, pz_Xc hd ⟨vin, pz_Xc hs ⟨pz_inp _ _ _, ?_⟩⟩⟩⟩⟩
  simp only [pz_clp, forall_eq]
  rcases pz_op ho with rfl | rfl | rfl | rfl | rfl | rfl | rfl | rfl
  · rw [pz_don _ _ _ _ _ _ _ _ (by decide), pz_v0] at hp
    exact br_f (by decide) (br_f (by decide) (br_f (by decide) (br_t rfl ⟨pz_inp _ _ _, hp⟩)))
  · rw [pz_don _ _ _ _ _ _ _ _ (by decide), pz_v1] at hp
    exact br_f (by decide) (br_f (by decide) (br_f (by decide) (br_f (by decide) (pz_Xc (hw (by decide) (by decide)) ⟨pz_inp _ _ _, br_f (by decide) (br_f (by decide) (br_t rfl ⟨pz_inp _ _ _, by rw [pz_clp]; exact hp⟩))⟩))))
  · rw [pz_don _ _ _ _ _ _ _ _ (by decide), pz_v2] at hp
    exact br_f (by decide) (br_f (by decide) (br_f (by decide) (br_f (by decide) (pz_Xc (hw (by decide) (by decide)) ⟨pz_inp _ _ _, br_f (by decide) (br_f (by decide) (br_f (by decide) (br_t rfl ⟨pz_inp _ _ _, by rw [pz_clp]; exact hp⟩)))⟩))))
  · rw [pz_don _ _ _ _ _ _ _ _ (by decide), pz_v3] at hp
    exact br_f (by decide) (br_f (by decide) (br_f (by decide) (br_f (by decide) (pz_Xc (hw (by decide) (by decide)) ⟨pz_inp _ _ _, br_f (by decide) (br_f (by decide) (br_f (by decide) (br_f (by decide) (br_t rfl ⟨pz_inp _ _ _, by rw [pz_clp]; exact hp⟩))))⟩))))
  · rw [pz_don _ _ _ _ _ _ _ _ (by decide), pz_v4] at hp
    exact br_f (by decide) (br_f (by decide) (br_f (by decide) (br_f (by decide) (pz_Xc (hw (by decide) (by decide)) ⟨pz_inp _ _ _, br_f (by decide) (br_t (by decide) ⟨pz_inp _ _ _, by rw [pz_clp]; exact hp⟩)⟩))))
  · rw [pz_don _ _ _ _ _ _ _ _ (by decide), pz_v5] at hp
    exact br_f (by decide) (br_f (by decide) (br_t rfl ⟨pz_inp _ _ _, hp⟩))
  · rw [pz_do6] at hp
    exact br_t rfl hp
  · rw [pz_don _ _ _ _ _ _ _ _ (by decide), pz_v7] at hp
    exact br_f (by decide) (br_t rfl ⟨pz_inp _ _ _, hp⟩)
theorem pz_Yres {post : Int32 → Prop} {fc ft : Int32} {m b o d s w : Nat → Int32} {k : Nat} {i : Int32} (hk : k < 5) (ok : pz_ok (o k) (d k) (s k) (w k)) (h6 : ¬ o k = 6)
    (hp : post (pz_val b m (o k) (s k) (w k) i)) : wpY_result post (ft, fc, m, b, o, d, s, w) (nI k) i := by
  have vin : vp_in (nI k) 5 := vp_in_nI hk (by decide)
  unfold wpY_result
  dsimp only
  rw [nI_clamp (show k < 2 ^ 31 by omega)]
  obtain ⟨ho, hd, hs, hw⟩ := ok
  generalize o k = oo at ho hw hp h6 ⊢
  generalize s k = ss at hs hp ⊢
  generalize w k = ww at hw hp ⊢
  refine ⟨vin, pz_Yc hs ⟨pz_inp _ _ _, ?_⟩⟩
  simp only [pz_clp, forall_eq]
  refine ⟨vin, vin, ?_⟩
  rcases pz_op ho with rfl | rfl | rfl | rfl | rfl | rfl | rfl | rfl
  · rw [pz_v0] at hp
    exact br_t rfl hp
  · have hr := hw (by decide) (by decide)
    rw [pz_v1] at hp
    rw [pz_r511 hr]
    exact br_f (by decide) ⟨vin, br_f (by decide) ⟨vin, br_f (by decide) (pz_Yc hr ⟨pz_inp _ _ _, by rw [pz_clp]; exact ⟨vin, br_t rfl hp⟩⟩)⟩⟩
  · have hr := hw (by decide) (by decide)
    rw [pz_v2] at hp
    rw [pz_r511 hr]
    exact br_f (by decide) ⟨vin, br_f (by decide) ⟨vin, br_f (by decide) (pz_Yc hr ⟨pz_inp _ _ _, by rw [pz_clp]; exact ⟨vin, br_f (by decide) ⟨vin, br_t rfl hp⟩⟩⟩)⟩⟩
  · have hr := hw (by decide) (by decide)
    rw [pz_v3] at hp
    rw [pz_r511 hr]
    exact br_f (by decide) ⟨vin, br_f (by decide) ⟨vin, br_f (by decide) (pz_Yc hr ⟨pz_inp _ _ _, by rw [pz_clp]; exact ⟨vin, br_f (by decide) ⟨vin, br_f (by decide) ⟨vin, br_t rfl hp⟩⟩⟩⟩)⟩⟩
  · have hr := hw (by decide) (by decide)
    rw [pz_v4] at hp
    rw [pz_r511 hr]
    exact br_f (by decide) ⟨vin, br_f (by decide) ⟨vin, br_f (by decide) (pz_Yc hr ⟨pz_inp _ _ _, by rw [pz_clp]; exact ⟨vin, br_f (by decide) ⟨vin, br_f (by decide) ⟨vin, br_f (by decide) hp⟩⟩⟩⟩)⟩⟩
  · rw [pz_v5] at hp
    exact br_f (by decide) ⟨vin, br_t rfl hp⟩
  · exact absurd rfl h6
  · rw [pz_v7] at hp
    exact br_f (by decide) ⟨vin, br_f (by decide) ⟨vin, br_t rfl hp⟩⟩
