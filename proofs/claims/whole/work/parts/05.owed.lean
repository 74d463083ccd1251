/-- both sides hold the same memory, bases, body and total; the body has at most five statements, all well made -/
def i_Rel (_ : Nat) (u : SX) (v : SY) : Prop := ∃ (c : Nat) (ft : Int32) (m b o d s w : Nat → Int32), u = (nI c, ft, m, b, o, d, s, w) ∧ v = (ft, nI c, m, b, o, d, s, w) ∧ c ≤ 5 ∧ ∀ j, pz_ok (o j) (d j) (s j) (w j)
theorem i_up {k : Nat} {u : SX} {v : SY} (h : i_Rel k u v) : i_Rel (k + 5) u v := h
theorem pz_rel {k c : Nat} {ft : Int32} {m b o d s w : Nat → Int32} (hc : c ≤ 5) (hok : ∀ j, pz_ok (o j) (d j) (s j) (w j)) : i_Rel k (nI c, ft, m, b, o, d, s, w) (ft, nI c, m, b, o, d, s, w) := ⟨c, ft, m, b, o, d, s, w, rfl, rfl, hc, hok⟩
theorem i_vc0 : wpX_init (fun u => wpY_init (fun v => i_Rel 0 u v)) := by
  show i_Rel 0 (nI 0, 0, (fun _ => 0), (fun _ => 0), (fun _ => 0), (fun _ => 0), (fun _ => 0), (fun _ => 0)) (0, nI 0, (fun _ => 0), (fun _ => 0), (fun _ => 0), (fun _ => 0), (fun _ => 0), (fun _ => 0))
  exact pz_rel (by decide) (fun _ => pz_ok0)
theorem pz_put {k c : Nat} {ft x1 x2 x3 x4 : Int32} {m b o d s w : Nat → Int32} (hc : c ≤ 5) (hok : ∀ j, pz_ok (o j) (d j) (s j) (w j)) (new : pz_ok x1 x2 x3 x4) (YW : (Int32 → SY → Prop) → Prop)
    (hY : ∀ post : Int32 → SY → Prop, wY_statement_56 post x1 x2 x3 x4 ft (nI c) m b o d s w → YW post) :
    wX_statement_50 (fun r u' => YW (fun r' v' => r' = r ∧ i_Rel (k + 5) u' v')) x1 x2 x3 x4 (nI c) ft m b o d s w := by
  by_cases h : c < 5
  · have vin : vp_in (nI c) 5 := vp_in_nI h (by decide)
    have e1 : ∀ (f : Nat → Int32) (x : Int32), upd f (nI c).toNatClampNeg x = upd f c x := by
      intro f x
      rw [nI_clamp (by omega)]
    have h5 : nI c < 5 := nI_lt (b := 5) h (by decide)
    have hn : ∀ j, pz_ok (upd o c x1 j) (upd d c x2 j) (upd s c x3 j) (upd w c x4 j) := by
      intro j
      by_cases e : j = c
      · subst e
        rw [pk_us, pk_us, pk_us, pk_us]
        exact new
      · rw [pk_un e, pk_un e, pk_un e, pk_un e]
        exact hok j
    refine br_t h5 ⟨vin, nm_r (e1 o x1) ⟨vin, nm_r (e1 d x2) ⟨vin, nm_r (e1 s x3) ⟨vin, nm_r (e1 w x4) (nm_r (nI_1 c) (hY _ ?_))⟩⟩⟩⟩
    exact br_t h5 ⟨vin, nm_r (e1 o x1) ⟨vin, nm_r (e1 d x2) ⟨vin, nm_r (e1 s x3) ⟨vin, nm_r (e1 w x4) (nm_r (nI_1 c) ⟨rfl, pz_rel (by omega) hn⟩)⟩⟩⟩⟩
  · have h5 : ¬ nI c < 5 := nI_nlt (b := 5) (by omega) (by omega)
    exact br_f h5 (hY _ (br_f h5 ⟨rfl, pz_rel hc hok⟩))
theorem i_vc_statement {k : Nat} {u : SX} {v : SY} (I : i_Rel k u v) (hk : k + 5 ≤ 2560) (v1 : Int32) (v2 : Int32) (v3 : Int32) (v4 : Int32) : wpX_statement (fun r u' => wpY_statement (fun r' v' => r' = r ∧ i_Rel (k + 5) u' v') v v1 v2 v3 v4) u v1 v2 v3 v4 := by
  obtain ⟨c, ft, m, b, o, d, s, w, rfl, rfl, hc, hok⟩ := I
  by_cases h0 : v1 < 0
  · exact br_t h0 (br_t h0 ⟨rfl, pz_rel hc hok⟩)
  obtain ⟨p, hp, rfl⟩ := nI_of h0
  by_cases h8 : 7 < p
  · have h7 : ¬ nI p ≤ 7 := nI_ge (a := 7) (b := p) h8 hp
    exact br_f h0 (br_f h7 (br_f h0 (br_f h7 ⟨rfl, pz_rel hc hok⟩)))
  have h7 : nI p ≤ 7 := nI_le (b := 7) (by omega) (by decide)
  by_cases hd : pz_ref v2
  · by_cases hs : pz_ref v3
    · by_cases h1 : nI p < 1
      · refine br_f h0 (br_t h7 (pz_Xref_t hd (br_f (by decide) (pz_Xref_t hs (br_f (by decide) (br_t h1 (br_t rfl ?_)))))))
        refine pz_put hc hok ⟨⟨p, by omega, rfl⟩, hd, hs, fun a => absurd h1 (Int32.not_lt.mpr a)⟩ (fun post => wpY_statement post (ft, nI c, m, b, o, d, s, w) (nI p) v2 v3 v4) (fun post h => ?_)
        exact br_f h0 (br_t h7 (pz_Yref_t hd (br_t rfl (pz_Yref_t hs (br_t rfl (br_t h1 h))))))
      · by_cases h4 : 4 < nI p
        · refine br_f h0 (br_t h7 (pz_Xref_t hd (br_f (by decide) (pz_Xref_t hs (br_f (by decide) (br_f h1 (br_t h4 (br_t rfl ?_))))))))
          refine pz_put hc hok ⟨⟨p, by omega, rfl⟩, hd, hs, fun _ a => absurd h4 (Int32.not_lt.mpr a)⟩ (fun post => wpY_statement post (ft, nI c, m, b, o, d, s, w) (nI p) v2 v3 v4) (fun post h => ?_)
          exact br_f h0 (br_t h7 (pz_Yref_t hd (br_t rfl (pz_Yref_t hs (br_t rfl (br_f h1 (br_t h4 h)))))))
        · by_cases hw : pz_ref v4
          · refine br_f h0 (br_t h7 (pz_Xref_t hd (br_f (by decide) (pz_Xref_t hs (br_f (by decide) (br_f h1 (br_f h4 (br_f (by decide) (pz_Xref_t hw (br_f (by decide) ?_))))))))))
            refine pz_put hc hok ⟨⟨p, by omega, rfl⟩, hd, hs, fun _ _ => hw⟩ (fun post => wpY_statement post (ft, nI c, m, b, o, d, s, w) (nI p) v2 v3 v4) (fun post h => ?_)
            exact br_f h0 (br_t h7 (pz_Yref_t hd (br_t rfl (pz_Yref_t hs (br_t rfl (br_f h1 (br_f h4 (pz_Yref_t hw (br_t rfl h)))))))))
          · refine br_f h0 (br_t h7 (pz_Xref_t hd (br_f (by decide) (pz_Xref_t hs (br_f (by decide) (br_f h1 (br_f h4 (br_f (by decide) (pz_Xref_f hw (br_t rfl ?_))))))))))
            exact br_f h0 (br_t h7 (pz_Yref_t hd (br_t rfl (pz_Yref_t hs (br_t rfl (br_f h1 (br_f h4 (pz_Yref_f hw (br_f (by decide) ⟨rfl, pz_rel hc hok⟩)))))))))
    · refine br_f h0 (br_t h7 (pz_Xref_t hd (br_f (by decide) (pz_Xref_f hs (br_t rfl ?_)))))
      exact br_f h0 (br_t h7 (pz_Yref_t hd (br_t rfl (pz_Yref_f hs (br_f (by decide) ⟨rfl, pz_rel hc hok⟩)))))
  · refine br_f h0 (br_t h7 (pz_Xref_f hd (br_t rfl ?_)))
    exact br_f h0 (br_t h7 (pz_Yref_f hd (br_f (by decide) ⟨rfl, pz_rel hc hok⟩)))
theorem i_vc_retract {k : Nat} {u : SX} {v : SY} (I : i_Rel k u v) (hk : k + 5 ≤ 2560) : wpX_retract (fun r u' => wpY_retract (fun r' v' => r' = r ∧ i_Rel (k + 5) u' v') v) u := by
  obtain ⟨c, ft, m, b, o, d, s, w, rfl, rfl, hc, hok⟩ := I
  cases c with
  | zero => exact br_t rfl (br_t rfl ⟨rfl, pz_rel hc hok⟩)
  | succ c =>
    have h0 : ¬ nI (c + 1) = 0 := nI_ne0 (by omega) (by omega)
    exact br_f h0 (nm_r (nI_pred c) (br_f h0 (nm_r (nI_pred c) ⟨rfl, pz_rel (by omega) hok⟩)))
theorem i_vc_clear {k : Nat} {u : SX} {v : SY} (I : i_Rel k u v) (hk : k + 5 ≤ 2560) : wpX_clear (fun r u' => wpY_clear (fun r' v' => r' = r ∧ i_Rel (k + 5) u' v') v) u := by
  obtain ⟨c, ft, m, b, o, d, s, w, rfl, rfl, hc, hok⟩ := I
  exact And.intro rfl (pz_rel (c := 0) (by decide) hok)
theorem i_vc_statements {k : Nat} {u : SX} {v : SY} (I : i_Rel k u v) (hk : k + 5 ≤ 2560) : wpX_statements (fun r => wpY_statements (fun r' => r' = r ∧ i_Rel (k + 5) u v) v) u := by
  obtain ⟨c, ft, m, b, o, d, s, w, rfl, rfl, hc, hok⟩ := I
  exact And.intro rfl (pz_rel hc hok)
theorem i_vc_base {k : Nat} {u : SX} {v : SY} (I : i_Rel k u v) (hk : k + 5 ≤ 2560) (v1 : Int32) (v2 : Int32) : wpX_base (fun r u' => wpY_base (fun r' v' => r' = r ∧ i_Rel (k + 5) u' v') v v1 v2) u v1 v2 := by
  obtain ⟨c, ft, m, b, o, d, s, w, rfl, rfl, hc, hok⟩ := I
  by_cases h0 : v1 < 0
  · exact br_t h0 (br_t h0 ⟨rfl, pz_rel hc hok⟩)
  obtain ⟨r, hr, rfl⟩ := nI_of h0
  by_cases h4 : r < 4
  · have a4 : nI r < 4 := nI_lt (b := 4) h4 (by decide)
    have a3 : nI r ≤ 3 := nI_le (b := 3) (by omega) (by decide)
    have vin : vp_in (nI r) 4 := vp_in_nI h4 (by decide)
    by_cases g0 : v2 < 0
    · exact br_f h0 (br_t a4 (br_t g0 (br_t rfl (br_f h0 (br_t a3 (br_t g0 ⟨rfl, pz_rel hc hok⟩))))))
    obtain ⟨x, hx, rfl⟩ := nI_of g0
    by_cases h64 : x < 64
    · have g1 : ¬ 64 ≤ nI x := nI_ge (b := 64) h64 (by decide)
      have g2 : nI x ≤ 63 := nI_le (b := 63) (by omega) (by decide)
      exact br_f h0 (br_t a4 (br_f g0 (br_f g1 (br_f (by decide) ⟨vin, nm_e ⟨vin, nm_e (br_f h0 (br_t a3 (br_f g0 (br_t g2 ⟨vin, nm_e ⟨vin, nm_e ⟨rfl, pz_rel hc hok⟩⟩⟩))))⟩⟩))))
    · have g1 : 64 ≤ nI x := nI_le (a := 64) (by omega) hx
      have g2 : ¬ nI x ≤ 63 := nI_ge (a := 63) (by omega) hx
      exact br_f h0 (br_t a4 (br_f g0 (br_t g1 (br_t rfl (br_f h0 (br_t a3 (br_f g0 (br_f g2 ⟨rfl, pz_rel hc hok⟩))))))))
  · have a4 : ¬ nI r < 4 := nI_nlt (b := 4) (by omega) hr
    have a3 : ¬ nI r ≤ 3 := nI_ge (a := 3) (by omega) hr
    exact br_f h0 (br_f a4 (br_f h0 (br_f a3 ⟨rfl, pz_rel hc hok⟩)))
theorem i_vc_run {k : Nat} {u : SX} {v : SY} (I : i_Rel k u v) (hk : k + 5 ≤ 2560) (v1 : Int32) : wpX_run (fun r u' => wpY_run (fun r' v' => r' = r ∧ i_Rel (k + 5) u' v') v v1) u v1 := by
  obtain ⟨c, ft, m, b, o, d, s, w, rfl, rfl, hc, hok⟩ := I
  by_cases h0 : v1 < 0
  · exact br_t h0 (br_t rfl (br_t h0 ⟨rfl, pz_rel hc hok⟩))
  obtain ⟨t, ht, rfl⟩ := nI_of h0
  by_cases h40 : t ≤ 40
  · have g1 : ¬ 40 < nI t := nI_nlt (a := 40) h40 (by decide)
    have g2 : nI t ≤ 40 := nI_le (b := 40) h40 (by decide)
    refine br_f h0 (br_f g1 (br_f (by decide) (pz_Xrun h40 hc hok ?_)))
    exact br_f h0 (br_t g2 (pz_Yrun h40 hc hok ⟨rfl, pz_rel hc hok⟩))
  · have g1 : 40 < nI t := nI_lt (a := 40) (by omega) ht
    have g2 : ¬ nI t ≤ 40 := nI_ge (a := 40) (by omega) ht
    exact br_f h0 (br_t g1 (br_t rfl (br_f h0 (br_f g2 ⟨rfl, pz_rel hc hok⟩))))
theorem i_vc_poke {k : Nat} {u : SX} {v : SY} (I : i_Rel k u v) (hk : k + 5 ≤ 2560) (v1 : Int32) (v2 : Int32) : wpX_poke (fun r u' => wpY_poke (fun r' v' => r' = r ∧ i_Rel (k + 5) u' v') v v1 v2) u v1 v2 := by
  obtain ⟨c, ft, m, b, o, d, s, w, rfl, rfl, hc, hok⟩ := I
  by_cases h0 : v1 < 0
  · exact br_t h0 (br_t rfl (br_t h0 ⟨rfl, pz_rel hc hok⟩))
  obtain ⟨x, hx, rfl⟩ := nI_of h0
  by_cases h64 : x < 64
  · have g1 : ¬ 64 ≤ nI x := nI_ge (b := 64) h64 (by decide)
    have g2 : nI x ≤ 63 := nI_le (b := 63) (by omega) (by decide)
    have vin : vp_in (nI x) 64 := vp_in_nI h64 (by decide)
    exact br_f h0 (br_f g1 (br_f (by decide) ⟨vin, nm_e (br_f h0 (br_t g2 ⟨vin, nm_e ⟨rfl, pz_rel hc hok⟩⟩))⟩))
  · have g1 : 64 ≤ nI x := nI_le (a := 64) (by omega) hx
    have g2 : ¬ nI x ≤ 63 := nI_ge (a := 63) (by omega) hx
    exact br_f h0 (br_t g1 (br_t rfl (br_f h0 (br_f g2 ⟨rfl, pz_rel hc hok⟩))))
theorem i_vc_fill {k : Nat} {u : SX} {v : SY} (I : i_Rel k u v) (hk : k + 5 ≤ 2560) (v1 : Int32) (v2 : Int32) (v3 : Int32) (v4 : Int32) : wpX_fill (fun r u' => wpY_fill (fun r' v' => r' = r ∧ i_Rel (k + 5) u' v') v v1 v2 v3 v4) u v1 v2 v3 v4 := by
  obtain ⟨c, ft, m, b, o, d, s, w, rfl, rfl, hc, hok⟩ := I
  by_cases h0 : v1 < 0
  · exact br_t h0 (br_t h0 ⟨rfl, pz_rel hc hok⟩)
  by_cases h1 : v2 < v1
  · exact br_f h0 (br_t h1 (br_f h0 (br_t h1 ⟨rfl, pz_rel hc hok⟩)))
  by_cases h2 : v2 ≤ 63
  · obtain ⟨a, ha, rfl⟩ := nI_of h0
    have h3 : ¬ v2 < 0 := fun z => h1 (Int32.lt_of_lt_of_le z (nI_pos' ha))
    obtain ⟨e, he, rfl⟩ := nI_of h3
    have hae : a ≤ e := by
      have := mt (nI_ltI he ha).mpr h1
      omega
    have he63 : e ≤ 63 := (nI_leI (b := 63) he (by decide)).mp h2
    refine br_f h0 (br_f h1 (br_t h2 (pz_Xfill hae he63 ?_)))
    exact br_f h0 (br_f h1 (br_t h2 (pz_Yfill hae he63 ⟨rfl, pz_rel hc hok⟩)))
  · exact br_f h0 (br_f h1 (br_f h2 (br_f h0 (br_f h1 (br_f h2 ⟨rfl, pz_rel hc hok⟩)))))
theorem i_vc_peek {k : Nat} {u : SX} {v : SY} (I : i_Rel k u v) (hk : k + 5 ≤ 2560) (v1 : Int32) : wpX_peek (fun r => wpY_peek (fun r' => r' = r ∧ i_Rel (k + 5) u v) v v1) u v1 := by
  obtain ⟨c, ft, m, b, o, d, s, w, rfl, rfl, hc, hok⟩ := I
  by_cases h0 : v1 < 0
  · exact br_t h0 (br_t rfl (br_t h0 ⟨rfl, pz_rel hc hok⟩))
  obtain ⟨x, hx, rfl⟩ := nI_of h0
  by_cases h64 : x < 64
  · have g1 : ¬ 64 ≤ nI x := nI_ge (b := 64) h64 (by decide)
    have g2 : nI x ≤ 63 := nI_le (b := 63) (by omega) (by decide)
    have vin : vp_in (nI x) 64 := vp_in_nI h64 (by decide)
    exact br_f h0 (br_f g1 (br_f (by decide) ⟨vin, br_f h0 (br_t g2 ⟨vin, rfl, pz_rel hc hok⟩)⟩))
  · have g1 : 64 ≤ nI x := nI_le (a := 64) (by omega) hx
    have g2 : ¬ nI x ≤ 63 := nI_ge (a := 63) (by omega) hx
    exact br_f h0 (br_t g1 (br_t rfl (br_f h0 (br_f g2 ⟨rfl, pz_rel hc hok⟩))))
theorem i_vc_total {k : Nat} {u : SX} {v : SY} (I : i_Rel k u v) (hk : k + 5 ≤ 2560) : wpX_total (fun r => wpY_total (fun r' => r' = r ∧ i_Rel (k + 5) u v) v) u := by
  obtain ⟨c, ft, m, b, o, d, s, w, rfl, rfl, hc, hok⟩ := I
  exact And.intro rfl (pz_rel hc hok)
theorem i_vc_setTotal {k : Nat} {u : SX} {v : SY} (I : i_Rel k u v) (hk : k + 5 ≤ 2560) (v1 : Int32) : wpX_setTotal (fun r u' => wpY_setTotal (fun r' v' => r' = r ∧ i_Rel (k + 5) u' v') v v1) u v1 := by
  obtain ⟨c, ft, m, b, o, d, s, w, rfl, rfl, hc, hok⟩ := I
  exact And.intro rfl (pz_rel hc hok)
theorem i_vc_digest {k : Nat} {u : SX} {v : SY} (I : i_Rel k u v) (hk : k + 5 ≤ 2560) : wpX_digest (fun r => wpY_digest (fun r' => r' = r ∧ i_Rel (k + 5) u v) v) u := by
  obtain ⟨c, ft, m, b, o, d, s, w, rfl, rfl, hc, hok⟩ := I
  refine pz_Xdig ?_
  refine pz_Ydig ?_
  exact ⟨rfl, pz_rel hc hok⟩
theorem i_vc_cellOf {k : Nat} {u : SX} {v : SY} (I : i_Rel k u v) (hk : k + 5 ≤ 2560) (v1 : Int32) (v2 : Int32) : wpX_cellOf (fun r => wpY_cellOf (fun r' => r' = r ∧ i_Rel (k + 5) u v) v v1 v2) u v1 v2 := by
  obtain ⟨c, ft, m, b, o, d, s, w, rfl, rfl, hc, hok⟩ := I
  unfold wpX_cellOf wpY_cellOf
  dsimp only
  by_cases hr : pz_ref v1
  · refine pz_Xref_t hr (br_f (by decide) ?_)
    by_cases h0 : v2 < 0
    · exact br_t h0 (pz_Yref_t hr (br_t rfl (br_t h0 ⟨rfl, pz_rel hc hok⟩)))
    obtain ⟨t, ht, rfl⟩ := nI_of h0
    by_cases h40 : t < 40
    · have g1 : nI t < 40 := nI_lt (b := 40) h40 (by decide)
      have g2 : nI t ≤ 39 := nI_le (b := 39) (by omega) (by decide)
      exact br_f h0 (br_t g1 (pz_Xc hr (pz_Yref_t hr (br_t rfl (br_f h0 (br_t g2 (pz_Yc hr ⟨rfl, pz_rel hc hok⟩)))))))
    · have g1 : ¬ nI t < 40 := nI_nlt (b := 40) (by omega) ht
      have g2 : ¬ nI t ≤ 39 := nI_ge (a := 39) (by omega) ht
      exact br_f h0 (br_f g1 (pz_Yref_t hr (br_t rfl (br_f h0 (br_f g2 ⟨rfl, pz_rel hc hok⟩)))))
  · exact pz_Xref_f hr (br_t rfl (pz_Yref_f hr (br_f (by decide) ⟨rfl, pz_rel hc hok⟩)))
theorem i_vc_spread {k : Nat} {u : SX} {v : SY} (I : i_Rel k u v) (hk : k + 5 ≤ 2560) (v1 : Int32) (v2 : Int32) : wpX_spread (fun r => wpY_spread (fun r' => r' = r ∧ i_Rel (k + 5) u v) v v1 v2) u v1 v2 := by
  obtain ⟨c, ft, m, b, o, d, s, w, rfl, rfl, hc, hok⟩ := I
  unfold wpX_spread wpY_spread
  dsimp only
  by_cases hr : pz_ref v1
  · refine pz_Xref_t hr (br_f (by decide) ?_)
    by_cases h0 : v2 < 0
    · exact br_t h0 (br_t rfl (pz_Yref_t hr (br_t rfl (br_t h0 ⟨rfl, pz_rel hc hok⟩))))
    obtain ⟨t, ht, rfl⟩ := nI_of h0
    by_cases h40 : t ≤ 40
    · have g1 : ¬ 40 < nI t := nI_nlt (a := 40) h40 (by decide)
      have g2 : nI t ≤ 40 := nI_le (b := 40) h40 (by decide)
      have hr' := hr
      obtain ⟨n, hn, _, rfl⟩ := hr'
      refine br_f h0 (br_f g1 (br_f (by decide) (pz_Xset hn h40 (pz_Xspr ?_))))
      exact pz_Yref_t hr (br_t rfl (br_f h0 (br_t g2 (pz_Yspr hn h40 ⟨rfl, pz_rel hc hok⟩))))
    · have g1 : 40 < nI t := nI_lt (a := 40) (by omega) ht
      have g2 : ¬ nI t ≤ 40 := nI_ge (a := 40) (by omega) ht
      exact br_f h0 (br_t g1 (br_t rfl (pz_Yref_t hr (br_t rfl (br_f h0 (br_f g2 ⟨rfl, pz_rel hc hok⟩))))))
  · exact pz_Xref_f hr (br_t rfl (pz_Yref_f hr (br_f (by decide) ⟨rfl, pz_rel hc hok⟩)))
theorem i_vc_meet {k : Nat} {u : SX} {v : SY} (I : i_Rel k u v) (hk : k + 5 ≤ 2560) (v1 : Int32) (v2 : Int32) (v3 : Int32) : wpX_meet (fun r => wpY_meet (fun r' => r' = r ∧ i_Rel (k + 5) u v) v v1 v2 v3) u v1 v2 v3 := by
  obtain ⟨c, ft, m, b, o, d, s, w, rfl, rfl, hc, hok⟩ := I
  unfold wpX_meet wpY_meet
  dsimp only
  by_cases hp : pz_ref v1
  · refine pz_Xref_t hp (br_f (by decide) ?_)
    by_cases hr : pz_ref v2
    · refine pz_Xref_t hr (br_f (by decide) ?_)
      by_cases h0 : v3 < 0
      · exact br_t h0 (br_t rfl (pz_Yref_t hp (br_t rfl (pz_Yref_t hr (br_t rfl (br_t h0 ⟨rfl, pz_rel hc hok⟩))))))
      obtain ⟨t, ht, rfl⟩ := nI_of h0
      by_cases h40 : t ≤ 40
      · have g1 : ¬ 40 < nI t := nI_nlt (a := 40) h40 (by decide)
        have g2 : nI t ≤ 40 := nI_le (b := 40) h40 (by decide)
        have hp' := hp
        have hr' := hr
        obtain ⟨n, hn, _, rfl⟩ := hp'
        obtain ⟨q, hq, _, rfl⟩ := hr'
        refine br_f h0 (br_f g1 (br_f (by decide) (pz_Xset hn h40 (pz_Xset hq h40 (nm_e ?_)))))
        by_cases hz : pz_set (pz_f b n) t &&& pz_set (pz_f b q) t = 0
        · have hall := (pz_meet _ _).mp hz
          refine br_t hz (pz_Yref_t hp (br_t rfl (pz_Yref_t hr (br_t rfl (br_f h0 (br_t g2 (pz_Ymeet hn hq h40 ?_ ?_)))))))
          · intro x hx hb
            have := hall x hx
            rw [pz_setb (pz_f_lt b n) hx, pz_setb (pz_f_lt b q) hx, hb] at this
            exact absurd this (by decide)
          · intro _
            exact ⟨rfl, pz_rel hc hok⟩
        · refine br_f hz (pz_Yref_t hp (br_t rfl (pz_Yref_t hr (br_t rfl (br_f h0 (br_t g2 (pz_Ymeet hn hq h40 ?_ ?_)))))))
          · intro _ _ _
            exact ⟨rfl, pz_rel hc hok⟩
          · intro hall
            refine absurd ((pz_meet _ _).mpr ?_) hz
            intro x hx
            rw [pz_setb (pz_f_lt b n) hx, pz_setb (pz_f_lt b q) hx]
            exact hall x hx
      · have g1 : 40 < nI t := nI_lt (a := 40) (by omega) ht
        have g2 : ¬ nI t ≤ 40 := nI_ge (a := 40) (by omega) ht
        exact br_f h0 (br_t g1 (br_t rfl (pz_Yref_t hp (br_t rfl (pz_Yref_t hr (br_t rfl (br_f h0 (br_f g2 ⟨rfl, pz_rel hc hok⟩))))))))
    · exact pz_Xref_f hr (br_t rfl (pz_Yref_t hp (br_t rfl (pz_Yref_f hr (br_f (by decide) ⟨rfl, pz_rel hc hok⟩)))))
  · exact pz_Xref_f hp (br_t rfl (pz_Yref_f hp (br_f (by decide) ⟨rfl, pz_rel hc hok⟩)))
