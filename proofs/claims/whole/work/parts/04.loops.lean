/-! the loops of both sides, each against its pure picture -/
theorem pz_Xin {post : Int32 → SX → Prop} {J : Int32 → Int32 → Int32 → (Nat → Int32) → (Nat → Int32) → (Nat → Int32) → (Nat → Int32) → (Nat → Int32) → (Nat → Int32) → Prop} {x1 i : Int32} {c : Nat} {ft : Int32} {m b o d s w : Nat → Int32} (hc : c ≤ 5) (hok : ∀ j, pz_ok (o j) (d j) (s j) (w j))
    (hJ : J (i + 1) (nI c) (pz_rnd b o d s w c i (m, ft)).2 (pz_rnd b o d s w c i (m, ft)).1 b o d s w) : ∃ n, wX_run_18 post J x1 i n 0 (nI c) ft m b o d s w := by
  refine loop_0 (σ := (Nat → Int32) × Int32) (fun n k z => wX_run_18 post J x1 i n (nI k) (nI c) z.2 z.1 b o d s w) (fun k z => z = pz_rnd b o d s w k i (m, ft)) c (m, ft) rfl ?_ ?_
  · intro n z hz
    subst hz
    exact br_t (nI_le (Nat.le_refl c) (by omega)) (nm_e hJ)
  · intro n k z hk hz H
    refine br_f (nI_ge hk (by omega)) (pz_Xdo (by omega) (hok k) (nm_r (nI_1 k) ?_))
    exact H (pz_do b (o k) (d k) (s k) (w k) i z) (by rw [hz]; rfl)
theorem pz_Xrun {post : Int32 → SX → Prop} {c t : Nat} {ft : Int32} {m b o d s w : Nat → Int32} (ht : t ≤ 40) (hc : c ≤ 5) (hok : ∀ j, pz_ok (o j) (d j) (s j) (w j))
    (hp : post (pz_run b o d s w c t (m, ft)).2 (nI c, (pz_run b o d s w c t (m, ft)).2, (pz_run b o d s w c t (m, ft)).1, b, o, d, s, w)) : ∃ n, wX_run_11 post (nI t) n 0 (nI c) ft m b o d s w := by
  refine loop_0 (σ := (Nat → Int32) × Int32) (fun n i z => wX_run_11 post (nI t) n (nI i) (nI c) z.2 z.1 b o d s w) (fun i z => z = pz_run b o d s w c i (m, ft)) t (m, ft) rfl ?_ ?_
  · intro n z hz
    subst hz
    exact br_t (nI_le (Nat.le_refl t) (by omega)) hp
  · intro n i z hi hz H
    refine br_f (nI_ge hi (by omega)) (pz_Xin hc hok ?_)
    rw [nI_1]
    exact H (pz_rnd b o d s w c (nI i) z) (by rw [hz]; rfl)
theorem pz_Yin {post : Int32 → SY → Prop} {J : Int32 → Int32 → (Nat → Int32) → (Nat → Int32) → (Nat → Int32) → (Nat → Int32) → (Nat → Int32) → (Nat → Int32) → Prop} {x1 i : Int32} {c : Nat} {ft : Int32} {m b o d s w : Nat → Int32} (hc : c ≤ 5) (hok : ∀ j, pz_ok (o j) (d j) (s j) (w j))
    (hJ : J (i + 1) (pz_rnd b o d s w c i (m, ft)).2 (pz_rnd b o d s w c i (m, ft)).1 b o d s w) : ∃ n, wY_run_21 post J x1 i (nI c) n 0 ft m b o d s w := by
  refine loop_0 (σ := (Nat → Int32) × Int32) (fun n k z => wY_run_21 post J x1 i (nI c) n (nI k) z.2 z.1 b o d s w) (fun k z => z = pz_rnd b o d s w k i (m, ft)) c (m, ft) rfl ?_ ?_
  · intro n z hz
    subst hz
    exact br_t (nI_le (Nat.le_refl c) (by omega)) (nm_e hJ)
  · intro n k z hk hz H
    have vin : vp_in (nI k) 5 := vp_in_nI (by omega) (by decide)
    have hcl : (nI k).toNatClampNeg = k := nI_clamp (by omega)
    have H2 := H (pz_do b (o k) (d k) (s k) (w k) i z) (by rw [hz]; rfl)
    obtain ⟨zm, zt⟩ := z
    show wY_run_21 post J x1 i (nI c) (n + 1) (nI k) zt zm b o d s w
    simp only [wY_run_21, hcl, forall_eq]
    refine br_f (nI_ge hk (by omega)) (br_f (nI_ge (b := 5) (by omega) (by decide)) ⟨vin, ?_⟩)
    by_cases h6 : o k = 6
    · refine br_t h6 ⟨vin, pz_Yc (hok k).2.2.1 ⟨pz_inp _ _ _, vin, ?_⟩⟩
      rw [pz_clp, nI_1]
      rw [h6, pz_do6] at H2
      exact H2
    · refine br_f h6 ⟨vin, pz_Yc (hok k).2.1 (pz_Yres (by omega) (hok k) h6 ⟨pz_inp _ _ _, ?_⟩)⟩
      rw [pz_clp, nI_1]
      rw [pz_don _ _ _ _ _ _ _ _ h6] at H2
      exact H2
theorem pz_Yrun {post : Int32 → SY → Prop} {c t : Nat} {ft : Int32} {m b o d s w : Nat → Int32} (ht : t ≤ 40) (hc : c ≤ 5) (hok : ∀ j, pz_ok (o j) (d j) (s j) (w j))
    (hp : post (pz_run b o d s w c t (m, ft)).2 ((pz_run b o d s w c t (m, ft)).2, nI c, (pz_run b o d s w c t (m, ft)).1, b, o, d, s, w)) : ∃ n, wY_run_14 post (nI t) (nI c) n 0 ft m b o d s w := by
  refine loop_0 (σ := (Nat → Int32) × Int32) (fun n i z => wY_run_14 post (nI t) (nI c) n (nI i) z.2 z.1 b o d s w) (fun i z => z = pz_run b o d s w c i (m, ft)) t (m, ft) rfl ?_ ?_
  · intro n z hz
    subst hz
    exact br_t (nI_le (Nat.le_refl t) (by omega)) hp
  · intro n i z hi hz H
    refine br_f (nI_ge hi (by omega)) (pz_Yin hc hok ?_)
    rw [nI_1]
    exact H (pz_rnd b o d s w c (nI i) z) (by rw [hz]; rfl)
theorem pz_x0 (x s : Int32) : x + nI 0 * s = x := by rw [nI_0, Int32.zero_mul, Int32.add_zero]
theorem pz_Xfill {post : Int32 → SX → Prop} {fb ft x st : Int32} {m b o d s w : Nat → Int32} {a e : Nat} (hae : a ≤ e) (he : e ≤ 63)
    (hp : post 0 (fb, ft, pz_fill m a x st (e + 1 - a), b, o, d, s, w)) : ∃ n, wX_fill_23 post (nI e) st fb ft n x (nI a) m b o d s w := by
  have h : ∃ n, wX_fill_23 post (nI e) st fb ft n (x + nI 0 * st) (nI (a + 0)) m b o d s w := by
    refine loop_0 (σ := Nat → Int32) (fun n j z => wX_fill_23 post (nI e) st fb ft n (x + nI j * st) (nI (a + j)) z b o d s w) (fun j z => z = pz_fill m a x st j) (e + 1 - a) m rfl ?_ ?_
    · intro n z hz
      subst hz
      exact br_t (nI_lt (by omega) (by omega)) hp
    · intro n j z hj hz H
      have hcl : (nI (a + j)).toNatClampNeg = a + j := nI_clamp (by omega)
      refine br_f (nI_nlt (by omega) (by omega)) ⟨vp_in_nI (by omega) (by decide), nm_r (show upd z (nI (a + j)).toNatClampNeg (x + nI j * st) = upd z (a + j) (x + nI j * st) by rw [hcl]) (nm_r (pz_next x st j) (nm_r (nI_1 (a + j)) ?_))⟩
      exact H _ (by rw [hz]; rfl)
  rw [pz_x0] at h
  exact h
theorem pz_Yfill {post : Int32 → SY → Prop} {fc ft x st : Int32} {m b o d s w : Nat → Int32} {a e : Nat} (hae : a ≤ e) (he : e ≤ 63)
    (hp : post 0 (ft, fc, pz_fill m a x st (e + 1 - a), b, o, d, s, w)) : ∃ n, wY_fill_20 post (nI a) (nI e) x st ft fc n (nI a) m b o d s w := by
  refine loop_0 (σ := Nat → Int32) (fun n j z => wY_fill_20 post (nI a) (nI e) x st ft fc n (nI (a + j)) z b o d s w) (fun j z => z = pz_fill m a x st j) (e + 1 - a) m rfl ?_ ?_
  · intro n z hz
    subst hz
    exact br_t (nI_lt (by omega) (by omega)) hp
  · intro n j z hj hz H
    have hcl : (nI (a + j)).toNatClampNeg = a + j := nI_clamp (by omega)
    have hsub : nI (a + j) - nI a = nI j := by rw [pk_sub (by omega), Nat.add_sub_cancel_left]
    refine br_f (nI_nlt (by omega) (by omega)) ⟨vp_in_nI (by omega) (by decide), nm_r (show upd z (nI (a + j)).toNatClampNeg (x + (nI (a + j) - nI a) * st) = upd z (a + j) (x + nI j * st) by rw [hcl, hsub]) (nm_r (nI_1 (a + j)) ?_)⟩
    exact H _ (by rw [hz]; rfl)
theorem pz_Xdig {post : Int32 → Prop} {fb ft : Int32} {m b o d s w : Nat → Int32} (hp : post (pz_dig m 64)) : ∃ n, wX_digest_4 post fb ft m b o d s w n 0 0 := by
  refine loop_0 (σ := Int32) (fun n j z => wX_digest_4 post fb ft m b o d s w n z (nI j)) (fun j z => z = pz_dig m j) 64 0 rfl ?_ ?_
  · intro n z hz
    subst hz
    exact br_t (nI_le (a := 64) (b := 64) (by decide) (by decide)) hp
  · intro n j z hj hz H
    refine br_f (nI_ge (b := 64) hj (by decide)) ⟨vp_in_nI hj (by decide), nm_r (show z + (nI j + 1) * m (nI j).toNatClampNeg = z + (nI j + 1) * m j by rw [nI_clamp (by omega)]) (nm_r (nI_1 j) ?_)⟩
    exact H _ (by rw [hz]; rfl)
theorem pz_Ydig {post : Int32 → Prop} {fc ft : Int32} {m b o d s w : Nat → Int32} (hp : post (pz_dig m 64)) : ∃ n, wY_digest_4 post ft fc m b o d s w n 0 0 := by
  refine loop_0 (σ := Int32) (fun n j z => wY_digest_4 post ft fc m b o d s w n z (nI j)) (fun j z => z = pz_dig m j) 64 0 rfl ?_ ?_
  · intro n z hz
    subst hz
    exact br_t (nI_le (a := 64) (b := 64) (by decide) (by decide)) hp
  · intro n j z hj hz H
    refine br_f (nI_ge (b := 64) hj (by decide)) ⟨vp_in_nI hj (by decide), nm_r (show z + (nI j + 1) * m (nI j).toNatClampNeg = z + (nI j + 1) * m j by rw [nI_clamp (by omega)]) (nm_r (nI_1 j) ?_)⟩
    exact H _ (by rw [hz]; rfl)
/-- the cells of reference r, round by round -/
def pz_f (b : Nat → Int32) (r : Nat) : Nat → Nat := fun j => pz_pl b r (nI j)
theorem pz_f_lt (b : Nat → Int32) (r j : Nat) : pz_f b r j < 64 := pz_pl_lt b r (nI j)
theorem pz_Xset {post : Int64 → Prop} {fb ft : Int32} {m b o d s w : Nat → Int32} {r t : Nat} (hr : r < 512) (ht : t ≤ 40) (hp : post (pz_set (pz_f b r) t)) : wpX_cellsMeant post (fb, ft, m, b, o, d, s, w) (nI r) (nI t) := by
  show ∃ n, wX_cellsMeant_5 post (nI r) (nI t) fb ft m b o d s w n 0 0
  refine loop_0 (σ := Int64) (fun n j z => wX_cellsMeant_5 post (nI r) (nI t) fb ft m b o d s w n z (nI j)) (fun j z => z = pz_set (pz_f b r) j) t 0 rfl ?_ ?_
  · intro n z hz
    subst hz
    exact br_t (nI_le (Nat.le_refl t) (by omega)) hp
  · intro n j z hj hz H
    refine br_f (nI_ge hj (by omega)) (pz_Xpl hr (nm_e (nm_r (nI_1 j) ?_)))
    exact H _ (by rw [hz]; rfl)
theorem pz_Yvis {post : Int32 → Prop} {fc ft : Int32} {m b o d s w : Nat → Int32} {r t q : Nat} (hr : r < 512) (ht : t ≤ 40) (hq : q < 64) (h1 : pz_vis (pz_f b r) t q = true → post 1) (h0 : pz_vis (pz_f b r) t q = false → post 0) : wpY_visits post (ft, fc, m, b, o, d, s, w) (nI r) (nI t) (nI q) := by
  show ∃ n, wY_visits_3 post (nI r) (nI t) (nI q) ft fc m b o d s w n 0
  refine loop_0 (σ := Unit) (fun n j _ => wY_visits_3 post (nI r) (nI t) (nI q) ft fc m b o d s w n (nI j)) (fun j _ => pz_vis (pz_f b r) j q = false) t () rfl ?_ ?_
  · intro n z hz
    exact br_t (nI_le (Nat.le_refl t) (by omega)) (h0 hz)
  · intro n j z hj hz H
    refine br_f (nI_ge hj (by omega)) (pz_Ypl hr ?_)
    by_cases e : pz_f b r j = q
    · exact br_t (congrArg nI e) (h1 (pz_vis_t e t hj))
    · have hl := pz_f_lt b r j
      exact br_f (fun y => e ((nI_eq (a := pz_f b r j) (by omega) (by omega)).mp y)) (nm_r (nI_1 j) (H () (pz_vis_f hz e)))
theorem pz_Xspr {post : Int32 → Prop} {fb ft : Int32} {m b o d s w : Nat → Int32} {r t : Nat} (hp : post (nI (pz_cnt (pz_vis (pz_f b r) t) 64))) : ∃ n, wX_spread_32 post (pz_set (pz_f b r) t) fb ft m b o d s w n 0 0 := by
  refine loop_0 (σ := Int32) (fun n j z => wX_spread_32 post (pz_set (pz_f b r) t) fb ft m b o d s w n z (nI j)) (fun j z => z = nI (pz_cnt (pz_vis (pz_f b r) t) j)) 64 0 rfl ?_ ?_
  · intro n z hz
    subst hz
    exact br_t (nI_le (a := 64) (b := 64) (by decide) (by decide)) hp
  · intro n j z hj hz H
    refine br_f (nI_ge (b := 64) hj (by decide)) (nm_e (nm_r (nI_1 j) ?_))
    exact H _ (by rw [hz, pz_bit _ hj, pz_setb (pz_f_lt b r) hj, nI_add]; rfl)
theorem pz_Yspr {post : Int32 → Prop} {fc ft : Int32} {m b o d s w : Nat → Int32} {r t : Nat} (hr : r < 512) (ht : t ≤ 40) (hp : post (nI (pz_cnt (pz_vis (pz_f b r) t) 64))) : ∃ n, wY_spread_28 post (nI r) (nI t) ft fc m b o d s w n 0 0 := by
  refine loop_0 (σ := Int32) (fun n j z => wY_spread_28 post (nI r) (nI t) ft fc m b o d s w n z (nI j)) (fun j z => z = nI (pz_cnt (pz_vis (pz_f b r) t) j)) 64 0 rfl ?_ ?_
  · intro n z hz
    subst hz
    exact br_t (nI_le (a := 64) (b := 64) (by decide) (by decide)) hp
  · intro n j z hj hz H
    refine br_f (nI_ge (b := 64) hj (by decide)) (pz_Yvis hr ht hj (fun hv => ?_) (fun hv => ?_))
    · refine br_f (by decide) (nm_e (nm_r (nI_1 j) ?_))
      exact H _ (by rw [hz, nI_1, pz_cnt_s, hv]; rfl)
    · refine br_t rfl (nm_r (nI_1 j) ?_)
      exact H _ (by rw [hz, pz_cnt_s, hv]; rfl)
theorem pz_Ymeet {post : Int32 → Prop} {fc ft : Int32} {m b o d s w : Nat → Int32} {p r t : Nat} (hpr : p < 512) (hr : r < 512) (ht : t ≤ 40)
    (h1 : ∀ q, q < 64 → (pz_vis (pz_f b p) t q && pz_vis (pz_f b r) t q) = true → post 1)
    (h0 : (∀ q, q < 64 → (pz_vis (pz_f b p) t q && pz_vis (pz_f b r) t q) = false) → post 0) : ∃ n, wY_meet_34 post (nI p) (nI r) (nI t) ft fc m b o d s w n 0 := by
  refine loop_0 (σ := Unit) (fun n j _ => wY_meet_34 post (nI p) (nI r) (nI t) ft fc m b o d s w n (nI j)) (fun j _ => ∀ q, q < j → (pz_vis (pz_f b p) t q && pz_vis (pz_f b r) t q) = false) 64 () lt_0 ?_ ?_
  · intro n z hz
    exact br_t (nI_le (a := 64) (b := 64) (by decide) (by decide)) (h0 hz)
  · intro n j z hj hz H
    refine br_f (nI_ge (b := 64) hj (by decide)) (pz_Yvis hpr ht hj (fun hv => ?_) (fun hv => ?_))
    · refine br_f (by decide) (pz_Yvis hr ht hj (fun hw => ?_) (fun hw => ?_))
      · exact br_f (by decide) (h1 j hj (by rw [hv, hw]; rfl))
      · exact br_t rfl (nm_r (nI_1 j) (H () (lt_s hz (by rw [hw, Bool.and_false]))))
    · exact br_t rfl (nm_r (nI_1 j) (H () (lt_s hz (by rw [hv, Bool.false_and]))))
