/-! pure: references, the cell of a reference in a round, sets of cells, counts, one statement, a round, a run -/
/-- a number that is a reference -/
def pz_ref (x : Int32) : Prop := ∃ n : Nat, n < 512 ∧ n / 16 % 8 ≠ 7 ∧ x = nI n
theorem pz_ref0 : pz_ref 0 := ⟨0, by decide, by decide, rfl⟩
theorem pz_refN {n : Nat} (h : n < 512) : pz_ref (nI n) ↔ n / 16 % 8 ≠ 7 := by
  constructor
  · intro ⟨m, hm, h7, e⟩
    have := (nI_eq (by omega) (by omega)).mp e
    subst this
    exact h7
  · intro h7
    exact ⟨n, h, h7, rfl⟩
theorem pz_refNeg {x : Int32} (h : x < 0) : ¬ pz_ref x := by
  intro ⟨m, hm, h7, e⟩
  subst e
  exact nI_pos (by omega) h
theorem pz_refBig {n : Nat} (hn : n < 2 ^ 31) (h : 512 ≤ n) : ¬ pz_ref (nI n) := by
  intro ⟨m, hm, h7, e⟩
  have := (nI_eq hn (by omega)).mp e
  omega
/-- the cell that the reference n means in round i -/
def pz_pl (bs : Nat → Int32) (n : Nat) (i : Int32) : Nat := (bs (n / 128) + nI (n % 16) + (nI (n / 16 % 8) - 3) * i).toBitVec.toNat % 2 ^ 6
theorem pz_pl_lt (bs : Nat → Int32) (n : Nat) (i : Int32) : pz_pl bs n i < 64 := Nat.mod_lt _ (by decide)
theorem pz_63 : (63 : Int32).toBitVec.toNat = 2 ^ 6 - 1 := by decide
theorem pz_511 : (511 : Int32).toBitVec.toNat = 2 ^ 9 - 1 := by decide
theorem pz_3 : (3 : Int32).toBitVec.toNat = 2 ^ 2 - 1 := by decide
theorem pz_and511 {n : Nat} (h : n < 512) : nI n &&& 511 = nI n := by
  rw [pk_andN (by omega) 9 pz_511, Nat.mod_eq_of_lt h]
theorem pz_and3 {n : Nat} (h : n < 4) : nI n &&& 3 = nI n := by
  rw [pk_andN (by omega) 2 pz_3, Nat.mod_eq_of_lt h]
theorem pz_d128 {n : Nat} (h : n < 512) : nI n / 128 = nI (n / 128) := pk_div (d := 128) (by omega) (by decide) (by decide)
theorem pz_d16 {n : Nat} (h : n < 2 ^ 31) : nI n / 16 = nI (n / 16) := pk_div (d := 16) h (by decide) (by decide)
theorem pz_r16 {n : Nat} (h : n < 2 ^ 31) : nI n - nI n / 16 * 16 = nI (n % 16) := pk_rem (d := 16) h (by decide) (by decide)
theorem pz_r8 {n : Nat} (h : n < 2 ^ 31) : nI n - nI n / 8 * 8 = nI (n % 8) := pk_rem (d := 8) h (by decide) (by decide)
theorem pz_cell (bs : Nat → Int32) (n : Nat) (i : Int32) : (bs (n / 128) + nI (n % 16) + (nI (n / 16 % 8) - 3) * i) &&& 63 = nI (pz_pl bs n i) := pk_and _ 6 pz_63
/-- is the cell c among f 0 .. f (t - 1) -/
def pz_vis (f : Nat → Nat) : Nat → Nat → Bool
  | 0, _ => false
  | t + 1, c => pz_vis f t c || decide (f t = c)
theorem pz_vis_s (f : Nat → Nat) (t c : Nat) : pz_vis f (t + 1) c = (pz_vis f t c || decide (f t = c)) := rfl
theorem pz_vis_t {f : Nat → Nat} {c j : Nat} (h : f j = c) : ∀ t, j < t → pz_vis f t c = true := by
  intro t
  induction t with
  | zero => intro hj; omega
  | succ t ih =>
    intro hj
    rw [pz_vis_s]
    by_cases e : j = t
    · subst e
      rw [decide_eq_true h, Bool.or_true]
    · rw [ih (by omega), Bool.true_or]
theorem pz_vis_f {f : Nat → Nat} {t c : Nat} (h0 : pz_vis f t c = false) (h : ¬ f t = c) : pz_vis f (t + 1) c = false := by
  rw [pz_vis_s, h0, decide_eq_false h]; rfl
/-- the same set as a long -/
def pz_set (f : Nat → Nat) : Nat → Int64
  | 0 => 0
  | t + 1 => pz_set f t ||| ((1 : Int64) <<< ((nI (f t)).toInt64 &&& 63))
theorem pz_one : ∀ l, l < 64 → ((1 : Int64) <<< ((nI l).toInt64 &&& 63)).toBitVec = BitVec.twoPow 64 l := by decide +kernel
theorem pz_setb {f : Nat → Nat} (hf : ∀ j, f j < 64) {c : Nat} (hc : c < 64) : ∀ t, (pz_set f t).toBitVec.getLsbD c = pz_vis f t c := by
  intro t
  induction t with
  | zero =>
    show (0 : Int64).toBitVec.getLsbD c = false
    exact BitVec.getLsbD_zero
  | succ t ih =>
    show (pz_set f t ||| ((1 : Int64) <<< ((nI (f t)).toInt64 &&& 63))).toBitVec.getLsbD c = _
    rw [Int64.toBitVec_or, BitVec.getLsbD_or, ih, pz_one _ (hf t), BitVec.getLsbD_twoPow, pz_vis_s, decide_eq_true (hf t), Bool.true_and]
/-- one bit of a long, as an int -/
theorem pz_bit (w : Int64) {c : Nat} (hc : c < 64) : (((w.toUInt64 >>> ((nI c).toInt64.toUInt64 &&& Int64.toUInt64 63)).toInt64 &&& 1).toInt32) = nI (w.toBitVec.getLsbD c).toNat := by
  obtain ⟨n, hn, rfl⟩ := wb_of w
  rw [wb_bit hn hc, lN_i]
  congr 1
  rw [BitVec.getLsbD, wb_tn hn, Nat.testBit_eq_decide_div_mod_eq]
  rcases Nat.mod_two_eq_zero_or_one (n / 2 ^ c) with h | h
  · rw [h]; rfl
  · rw [h]; rfl
theorem pz_meet (a b : Int64) : a &&& b = 0 ↔ ∀ c, c < 64 → (a.toBitVec.getLsbD c && b.toBitVec.getLsbD c) = false := by
  rw [← Int64.toBitVec_inj, Int64.toBitVec_and]
  constructor
  · intro h c hc
    rw [← BitVec.getLsbD_and, h]
    exact BitVec.getLsbD_zero
  · intro h
    apply BitVec.eq_of_getLsbD_eq
    intro c hc
    rw [BitVec.getLsbD_and, h c hc]
    exact BitVec.getLsbD_zero.symm
/-- how many of 0 .. n - 1 are in b -/
def pz_cnt (b : Nat → Bool) : Nat → Nat
  | 0 => 0
  | n + 1 => pz_cnt b n + (b n).toNat
theorem pz_cnt_s (b : Nat → Bool) (n : Nat) : pz_cnt b (n + 1) = pz_cnt b n + (b n).toNat := rfl
/-- the weighed sum of the cells -/
def pz_dig (m : Nat → Int32) : Nat → Int32
  | 0 => 0
  | n + 1 => pz_dig m n + (nI n + 1) * m n
theorem pz_dig_s (m : Nat → Int32) (n : Nat) : pz_dig m (n + 1) = pz_dig m n + (nI n + 1) * m n := rfl
/-- cells a .. a + d - 1 filled -/
def pz_fill (m : Nat → Int32) (a : Nat) (x s : Int32) : Nat → (Nat → Int32)
  | 0 => m
  | d + 1 => upd (pz_fill m a x s d) (a + d) (x + nI d * s)
theorem pz_fill_s (m : Nat → Int32) (a : Nat) (x s : Int32) (d : Nat) : pz_fill m a x s (d + 1) = upd (pz_fill m a x s d) (a + d) (x + nI d * s) := rfl
theorem pz_next (x s : Int32) (d : Nat) : x + nI d * s + s = x + nI (d + 1) * s := by
  rw [nI_succ, Int32.add_mul, Int32.one_mul, Int32.add_assoc]
/-- what a statement puts into its target -/
def pz_val (bs m : Nat → Int32) (o s w i : Int32) : Int32 :=
  if o = 0 then m (pz_pl bs s.toNatClampNeg i) else if o = 5 then m (pz_pl bs s.toNatClampNeg i) + w else if o = 7 then w + i else
  if o = 1 then m (pz_pl bs s.toNatClampNeg i) + m (pz_pl bs w.toNatClampNeg i) else if o = 2 then m (pz_pl bs s.toNatClampNeg i) - m (pz_pl bs w.toNatClampNeg i) else
  if o = 3 then m (pz_pl bs s.toNatClampNeg i) * m (pz_pl bs w.toNatClampNeg i) else m (pz_pl bs s.toNatClampNeg i) ^^^ m (pz_pl bs w.toNatClampNeg i)
/-- one statement on memory and total -/
def pz_do (bs : Nat → Int32) (o d s w i : Int32) (z : (Nat → Int32) × Int32) : (Nat → Int32) × Int32 :=
  if o = 6 then (z.1, z.2 + z.1 (pz_pl bs s.toNatClampNeg i) * w) else (upd z.1 (pz_pl bs d.toNatClampNeg i) (pz_val bs z.1 o s w i), z.2)
/-- g 0, then g 1, .. -/
def pz_it {σ : Type} (g : Nat → σ → σ) : Nat → σ → σ
  | 0, s => s
  | n + 1, s => g n (pz_it g n s)
theorem pz_it_s {σ : Type} (g : Nat → σ → σ) (n : Nat) (s : σ) : pz_it g (n + 1) s = g n (pz_it g n s) := rfl
/-- statement k is well made -/
def pz_ok (o d s w : Int32) : Prop := (∃ p : Nat, p < 8 ∧ o = nI p) ∧ pz_ref d ∧ pz_ref s ∧ (1 ≤ o → o ≤ 4 → pz_ref w)
theorem pz_ok0 : pz_ok 0 0 0 0 := ⟨⟨0, by decide, rfl⟩, pz_ref0, pz_ref0, fun _ _ => pz_ref0⟩
theorem pz_op {x : Int32} (h : ∃ p : Nat, p < 8 ∧ x = nI p) : x = 0 ∨ x = 1 ∨ x = 2 ∨ x = 3 ∨ x = 4 ∨ x = 5 ∨ x = 6 ∨ x = 7 := by
  obtain ⟨p, hp, rfl⟩ := h
  have h8 : p = 0 ∨ p = 1 ∨ p = 2 ∨ p = 3 ∨ p = 4 ∨ p = 5 ∨ p = 6 ∨ p = 7 := by omega
  rcases h8 with rfl | rfl | rfl | rfl | rfl | rfl | rfl | rfl <;> decide
theorem pz_v0 (b m : Nat → Int32) (s w i : Int32) : pz_val b m 0 s w i = m (pz_pl b s.toNatClampNeg i) := by
  unfold pz_val; rw [if_pos rfl]
theorem pz_v5 (b m : Nat → Int32) (s w i : Int32) : pz_val b m 5 s w i = m (pz_pl b s.toNatClampNeg i) + w := by
  unfold pz_val; rw [if_neg (by decide), if_pos rfl]
theorem pz_v7 (b m : Nat → Int32) (s w i : Int32) : pz_val b m 7 s w i = w + i := by
  unfold pz_val; rw [if_neg (by decide), if_neg (by decide), if_pos rfl]
theorem pz_v1 (b m : Nat → Int32) (s w i : Int32) : pz_val b m 1 s w i = m (pz_pl b s.toNatClampNeg i) + m (pz_pl b w.toNatClampNeg i) := by
  unfold pz_val; rw [if_neg (by decide), if_neg (by decide), if_neg (by decide), if_pos rfl]
theorem pz_v2 (b m : Nat → Int32) (s w i : Int32) : pz_val b m 2 s w i = m (pz_pl b s.toNatClampNeg i) - m (pz_pl b w.toNatClampNeg i) := by
  unfold pz_val; rw [if_neg (by decide), if_neg (by decide), if_neg (by decide), if_neg (by decide), if_pos rfl]
theorem pz_v3 (b m : Nat → Int32) (s w i : Int32) : pz_val b m 3 s w i = m (pz_pl b s.toNatClampNeg i) * m (pz_pl b w.toNatClampNeg i) := by
  unfold pz_val; rw [if_neg (by decide), if_neg (by decide), if_neg (by decide), if_neg (by decide), if_neg (by decide), if_pos rfl]
theorem pz_v4 (b m : Nat → Int32) (s w i : Int32) : pz_val b m 4 s w i = m (pz_pl b s.toNatClampNeg i) ^^^ m (pz_pl b w.toNatClampNeg i) := by
  unfold pz_val; rw [if_neg (by decide), if_neg (by decide), if_neg (by decide), if_neg (by decide), if_neg (by decide), if_neg (by decide)]
theorem pz_do6 (b m : Nat → Int32) (d s w i t : Int32) : pz_do b 6 d s w i (m, t) = (m, t + m (pz_pl b s.toNatClampNeg i) * w) := by
  unfold pz_do; rw [if_pos rfl]
theorem pz_don (b m : Nat → Int32) (o d s w i t : Int32) (h : ¬ o = 6) : pz_do b o d s w i (m, t) = (upd m (pz_pl b d.toNatClampNeg i) (pz_val b m o s w i), t) := by
  unfold pz_do; rw [if_neg h]
theorem pz_clp (b : Nat → Int32) (n : Nat) (i : Int32) : (nI (pz_pl b n i)).toNatClampNeg = pz_pl b n i := nI_clamp (by have := pz_pl_lt b n i; omega)
theorem pz_inp (b : Nat → Int32) (n : Nat) (i : Int32) : vp_in (nI (pz_pl b n i)) 64 := vp_in_nI (pz_pl_lt b n i) (by decide)
theorem pz_sd {n : Nat} (h : n < 2 ^ 31) : nI n / 16 - nI n / 16 / 8 * 8 = nI (n / 16 % 8) := by
  rw [pz_d16 h]; exact pz_r8 (by omega)
/-- a round, a run -/
def pz_rnd (b o d s w : Nat → Int32) (c : Nat) (i : Int32) (z : (Nat → Int32) × Int32) : (Nat → Int32) × Int32 := pz_it (fun k z => pz_do b (o k) (d k) (s k) (w k) i z) c z
def pz_run (b o d s w : Nat → Int32) (c t : Nat) (z : (Nat → Int32) × Int32) : (Nat → Int32) × Int32 := pz_it (fun i z => pz_rnd b o d s w c (nI i) z) t z
