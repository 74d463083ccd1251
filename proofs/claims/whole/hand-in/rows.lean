section
/-! begun from kit/rows: numbers, branches, masks, one bit of a long -/
theorem pk_us {f : Nat → Int32} {k : Nat} {x : Int32} : upd f k x k = x := if_pos rfl
theorem pk_un {f : Nat → Int32} {k j : Nat} {x : Int32} (h : j ≠ k) : upd f k x j = f j := if_neg h
theorem pk_sub {a b : Nat} (h : b ≤ a) : nI a - nI b = nI (a - b) := by
  obtain ⟨c, rfl⟩ : ∃ c, a = c + b := ⟨a - b, by omega⟩
  rw [← nI_add, Int32.add_sub_cancel, Nat.add_sub_cancel]
theorem pk_mul (a b : Nat) : nI a * nI b = nI (a * b) := (Int32.ofNat_mul a b).symm
theorem pk_div {a d : Nat} (ha : a < 2 ^ 31) (h0 : 0 < d) (hd : d < 2 ^ 31) : nI a / nI d = nI (a / d) := by
  apply Int32.toInt_inj.mp
  rw [lg_idiv_nonneg (by rw [nI_toInt ha]; omega) (by rw [nI_toInt hd]; omega), nI_toInt ha, nI_toInt hd, nI_toInt (Nat.lt_of_le_of_lt (Nat.div_le_self a d) ha)]
  first | rfl | exact (Int.natCast_ediv _ _).symm
theorem pk_rem {a d : Nat} (ha : a < 2 ^ 31) (h0 : 0 < d) (hd : d < 2 ^ 31) : nI a - nI a / nI d * nI d = nI (a % d) := by
  rw [pk_div ha h0 hd, pk_mul, pk_sub (Nat.div_mul_le_self a d)]
  exact congrArg nI (by have := Nat.div_add_mod' a d; omega)
theorem pk_ix (x : Int32) {n : Nat} (hn : n < 2 ^ 31) : x < 0 ∨ nI n ≤ x ∨ ∃ j : Nat, j < n ∧ x = nI j := by
  by_cases h : x < 0
  · exact Or.inl h
  · obtain ⟨j, hj, rfl⟩ := nI_of h
    by_cases h2 : j < n
    · exact Or.inr (Or.inr ⟨j, h2, rfl⟩)
    · exact Or.inr (Or.inl (nI_le (by omega) hj))
theorem pk_le {x y : Int32} {A B : Prop} (a b : Nat) (f : a ≤ b → A) (g : b < a → B) (hx : x = nI a := by rfl) (hy : y = nI b := by rfl) (ha : a < 2 ^ 31 := by omega) (hb : b < 2 ^ 31 := by omega) : (x ≤ y → A) ∧ (¬ x ≤ y → B) := by
  subst hx hy
  rw [nI_leI ha hb]
  exact ⟨f, fun z => g (by omega)⟩
theorem pk_lt {x y : Int32} {A B : Prop} (a b : Nat) (f : a < b → A) (g : b ≤ a → B) (hx : x = nI a := by rfl) (hy : y = nI b := by rfl) (ha : a < 2 ^ 31 := by omega) (hb : b < 2 ^ 31 := by omega) : (x < y → A) ∧ (¬ x < y → B) := by
  subst hx hy
  rw [nI_ltI ha hb]
  exact ⟨f, fun z => g (by omega)⟩
theorem pk_eq {x y : Int32} {A B : Prop} (a b : Nat) (f : a = b → A) (g : a ≠ b → B) (hx : x = nI a := by rfl) (hy : y = nI b := by rfl) (ha : a < 2 ^ 31 := by omega) (hb : b < 2 ^ 31 := by omega) : (x = y → A) ∧ (¬ x = y → B) := by
  subst hx hy
  rw [nI_eq ha hb]
  exact ⟨f, g⟩
theorem pk_in {x : Int32} (n N : Nat) (h : n < N) (hx : x = nI n := by rfl) (hN : N < 2 ^ 31 := by omega) : vp_in x N := by
  subst hx
  exact vp_in_nI h hN
theorem pk_cl {x : Int32} (n : Nat) (hx : x = nI n := by rfl) (h : n < 2 ^ 31 := by omega) : x.toNatClampNeg = n := by
  subst hx
  exact nI_clamp h
theorem pk_tn {n : Nat} (h : n < 2 ^ 32) : (nI n).toBitVec.toNat = n := Nat.mod_eq_of_lt h
theorem pk_and (x : Int32) {m : Int32} (k : Nat) (hm : m.toBitVec.toNat = 2 ^ k - 1) : x &&& m = nI (x.toBitVec.toNat % 2 ^ k) := by
  apply Int32.toBitVec_inj.mp
  apply BitVec.eq_of_toNat_eq
  rw [Int32.toBitVec_and, BitVec.toNat_and, hm, Nat.and_two_pow_sub_one_eq_mod]
  show _ = (BitVec.ofNat 32 _).toNat
  rw [BitVec.toNat_ofNat]
  exact (Nat.mod_eq_of_lt (Nat.lt_of_le_of_lt (Nat.mod_le _ _) x.toBitVec.isLt)).symm
theorem pk_andN {n : Nat} (h : n < 2 ^ 32) {m : Int32} (k : Nat) (hm : m.toBitVec.toNat = 2 ^ k - 1) : nI n &&& m = nI (n % 2 ^ k) := by
  rw [pk_and _ k hm, pk_tn h]
theorem pk_loop {σ : Type} (W : Nat → Nat → σ → Prop) (I : Nat → σ → Prop) (e i0 : Nat) (s : σ) (hi : i0 ≤ e) (h0 : I i0 s) (hx : ∀ n s, I e s → W (n + 1) e s)
    (hs : ∀ n i s, i < e → I i s → (∀ s', I (i + 1) s' → W n (i + 1) s') → W (n + 1) i s) : ∃ n, W n i0 s :=
  ⟨e + 1, loop_i W I e hx hs (e + 1) i0 s hi (by omega) h0⟩
theorem wb_tb (n : Nat) : (lN n).toBitVec = BitVec.ofNat 64 n := rfl
theorem wb_inj {a b : Int64} (h : a.toBitVec = b.toBitVec) : a = b := Int64.toBitVec_inj.mp h
theorem wb_tn {n : Nat} (h : n < 2 ^ 64) : (lN n).toBitVec.toNat = n := by rw [wb_tb, BitVec.toNat_ofNat, Nat.mod_eq_of_lt h]
theorem wb_of (x : Int64) : ∃ n, n < 2 ^ 64 ∧ x = lN n := ⟨x.toBitVec.toNat, x.toBitVec.isLt, wb_inj (by rw [wb_tb]; simp)⟩
theorem wb_c : ∀ k, k < 64 → ((nI k).toInt64 &&& 63) = lN k := by decide +kernel
theorem wb_cu : ∀ k, k < 64 → ((nI k).toInt64.toUInt64 &&& Int64.toUInt64 63) = UInt64.ofNat k := by decide +kernel
theorem wb_sm : ∀ k, k < 64 → (BitVec.ofNat 64 k).smod 64 = BitVec.ofNat 64 k := by decide +kernel
theorem wb_lt2 {a b : Nat} (h : a < b) : 2 ^ a < 2 ^ b := Nat.pow_lt_pow_right (by decide) h
theorem wb_shr {n k : Nat} (hn : n < 2 ^ 64) (hk : k < 64) : ((lN n).toUInt64 >>> ((nI k).toInt64.toUInt64 &&& Int64.toUInt64 63)).toInt64 = lN (n / 2 ^ k) := by
  rw [wb_cu k hk]
  apply wb_inj
  apply BitVec.eq_of_toNat_eq
  show ((lN n).toUInt64 >>> UInt64.ofNat k).toNat = (BitVec.ofNat 64 _).toNat
  have h1 : (UInt64.ofNat k).toNat = k := by
    show (BitVec.ofNat 64 k).toNat = k
    rw [BitVec.toNat_ofNat, Nat.mod_eq_of_lt (by omega)]
  have h2 : (lN n).toUInt64.toNat = n := wb_tn hn
  rw [UInt64.toNat_shiftRight, h1, h2, Nat.mod_eq_of_lt hk, Nat.shiftRight_eq_div_pow, BitVec.toNat_ofNat, Nat.mod_eq_of_lt (Nat.lt_of_le_of_lt (Nat.div_le_self _ _) hn)]
theorem wb_and {a b : Nat} (ha : a < 2 ^ 64) (hb : b < 2 ^ 64) : lN a &&& lN b = lN (a &&& b) := by
  apply wb_inj
  rw [Int64.toBitVec_and, wb_tb, wb_tb, wb_tb]
  apply BitVec.eq_of_toNat_eq
  rw [BitVec.toNat_and, BitVec.toNat_ofNat, BitVec.toNat_ofNat, BitVec.toNat_ofNat, Nat.mod_eq_of_lt ha, Nat.mod_eq_of_lt hb, Nat.mod_eq_of_lt (Nat.and_lt_two_pow _ hb)]
theorem wb_mask {n k : Nat} (hn : n < 2 ^ 64) (hk : k < 64) : lN n &&& lN (2 ^ k - 1) = lN (n % 2 ^ k) := by
  rw [wb_and hn (by have := wb_lt2 hk; omega), Nat.and_two_pow_sub_one_eq_mod]
theorem wb_a1 {n : Nat} (hn : n < 2 ^ 64) : lN n &&& 1 = lN (n % 2) := wb_mask (k := 1) hn (by decide)
theorem wb_bit {n k : Nat} (hn : n < 2 ^ 64) (hk : k < 64) : ((lN n).toUInt64 >>> ((nI k).toInt64.toUInt64 &&& Int64.toUInt64 63)).toInt64 &&& 1 = lN (n / 2 ^ k % 2) := by
  rw [wb_shr hn hk, wb_a1 (Nat.lt_of_le_of_lt (Nat.div_le_self _ _) hn)]
end
section
/-! pure: references, the cell of a reference in a round, sets of cells, counts, one statement, a round, a run -/
/-- a number that is a reference -/
def pz_ref (x : Int32) : Prop := ∃ n : Nat, n < 512 ∧ n / 16 % 8 ≠ 7 ∧ x = nI n
theorem pz_ref0 : pz_ref 0 := ⟨0, by decide, by decide, rfl⟩
theorem pz_refN {n : Nat} (h : n < 512) : pz_ref (nI n) ↔ n / 16 % 8 ≠ 7 := by
  constructor
  · intro ⟨m, hm, h7, e⟩
    have := (nI_eq (by omega) (by omega)).mp e
    subst this
    exact h7
  · intro h7
    exact ⟨n, h, h7, rfl⟩
theorem pz_refNeg {x : Int32} (h : x < 0) : ¬ pz_ref x := by
  intro ⟨m, hm, h7, e⟩
  subst e
  exact nI_pos (by omega) h
theorem pz_refBig {n : Nat} (hn : n < 2 ^ 31) (h : 512 ≤ n) : ¬ pz_ref (nI n) := by
  intro ⟨m, hm, h7, e⟩
  have := (nI_eq hn (by omega)).mp e
  omega
/-- the cell that the reference n means in round i -/
def pz_pl (bs : Nat → Int32) (n : Nat) (i : Int32) : Nat := (bs (n / 128) + nI (n % 16) + (nI (n / 16 % 8) - 3) * i).toBitVec.toNat % 2 ^ 6
theorem pz_pl_lt (bs : Nat → Int32) (n : Nat) (i : Int32) : pz_pl bs n i < 64 := Nat.mod_lt _ (by decide)
theorem pz_63 : (63 : Int32).toBitVec.toNat = 2 ^ 6 - 1 := by decide
theorem pz_511 : (511 : Int32).toBitVec.toNat = 2 ^ 9 - 1 := by decide
theorem pz_3 : (3 : Int32).toBitVec.toNat = 2 ^ 2 - 1 := by decide
theorem pz_and511 {n : Nat} (h : n < 512) : nI n &&& 511 = nI n := by
  rw [pk_andN (by omega) 9 pz_511, Nat.mod_eq_of_lt h]
theorem pz_and3 {n : Nat} (h : n < 4) : nI n &&& 3 = nI n := by
  rw [pk_andN (by omega) 2 pz_3, Nat.mod_eq_of_lt h]
theorem pz_d128 {n : Nat} (h : n < 512) : nI n / 128 = nI (n / 128) := pk_div (d := 128) (by omega) (by decide) (by decide)
theorem pz_d16 {n : Nat} (h : n < 2 ^ 31) : nI n / 16 = nI (n / 16) := pk_div (d := 16) h (by decide) (by decide)
theorem pz_r16 {n : Nat} (h : n < 2 ^ 31) : nI n - nI n / 16 * 16 = nI (n % 16) := pk_rem (d := 16) h (by decide) (by decide)
theorem pz_r8 {n : Nat} (h : n < 2 ^ 31) : nI n - nI n / 8 * 8 = nI (n % 8) := pk_rem (d := 8) h (by decide) (by decide)
theorem pz_cell (bs : Nat → Int32) (n : Nat) (i : Int32) : (bs (n / 128) + nI (n % 16) + (nI (n / 16 % 8) - 3) * i) &&& 63 = nI (pz_pl bs n i) := pk_and _ 6 pz_63
/-- is the cell c among f 0 .. f (t - 1) -/
def pz_vis (f : Nat → Nat) : Nat → Nat → Bool
  | 0, _ => false
  | t + 1, c => pz_vis f t c || decide (f t = c)
theorem pz_vis_s (f : Nat → Nat) (t c : Nat) : pz_vis f (t + 1) c = (pz_vis f t c || decide (f t = c)) := rfl
theorem pz_vis_t {f : Nat → Nat} {c j : Nat} (h : f j = c) : ∀ t, j < t → pz_vis f t c = true := by
  intro t
  induction t with
  | zero => intro hj; omega
  | succ t ih =>
    intro hj
    rw [pz_vis_s]
    by_cases e : j = t
    · subst e
      rw [decide_eq_true h, Bool.or_true]
    · rw [ih (by omega), Bool.true_or]
theorem pz_vis_f {f : Nat → Nat} {t c : Nat} (h0 : pz_vis f t c = false) (h : ¬ f t = c) : pz_vis f (t + 1) c = false := by
  rw [pz_vis_s, h0, decide_eq_false h]; rfl
/-- the same set as a long -/
def pz_set (f : Nat → Nat) : Nat → Int64
  | 0 => 0
  | t + 1 => pz_set f t ||| ((1 : Int64) <<< ((nI (f t)).toInt64 &&& 63))
theorem pz_one : ∀ l, l < 64 → ((1 : Int64) <<< ((nI l).toInt64 &&& 63)).toBitVec = BitVec.twoPow 64 l := by decide +kernel
theorem pz_setb {f : Nat → Nat} (hf : ∀ j, f j < 64) {c : Nat} (hc : c < 64) : ∀ t, (pz_set f t).toBitVec.getLsbD c = pz_vis f t c := by
  intro t
  induction t with
  | zero =>
    show (0 : Int64).toBitVec.getLsbD c = false
    exact BitVec.getLsbD_zero
  | succ t ih =>
    show (pz_set f t ||| ((1 : Int64) <<< ((nI (f t)).toInt64 &&& 63))).toBitVec.getLsbD c = _
    rw [Int64.toBitVec_or, BitVec.getLsbD_or, ih, pz_one _ (hf t), BitVec.getLsbD_twoPow, pz_vis_s, decide_eq_true (hf t), Bool.true_and]
/-- one bit of a long, as an int -/
theorem pz_bit (w : Int64) {c : Nat} (hc : c < 64) : (((w.toUInt64 >>> ((nI c).toInt64.toUInt64 &&& Int64.toUInt64 63)).toInt64 &&& 1).toInt32) = nI (w.toBitVec.getLsbD c).toNat := by
  obtain ⟨n, hn, rfl⟩ := wb_of w
  rw [wb_bit hn hc, lN_i]
  congr 1
  rw [BitVec.getLsbD, wb_tn hn, Nat.testBit_eq_decide_div_mod_eq]
  rcases Nat.mod_two_eq_zero_or_one (n / 2 ^ c) with h | h
  · rw [h]; rfl
  · rw [h]; rfl
theorem pz_meet (a b : Int64) : a &&& b = 0 ↔ ∀ c, c < 64 → (a.toBitVec.getLsbD c && b.toBitVec.getLsbD c) = false := by
  rw [← Int64.toBitVec_inj, Int64.toBitVec_and]
  constructor
  · intro h c hc
    rw [← BitVec.getLsbD_and, h]
    exact BitVec.getLsbD_zero
  · intro h
    apply BitVec.eq_of_getLsbD_eq
    intro c hc
    rw [BitVec.getLsbD_and, h c hc]
    exact BitVec.getLsbD_zero.symm
/-- how many of 0 .. n - 1 are in b -/
def pz_cnt (b : Nat → Bool) : Nat → Nat
  | 0 => 0
  | n + 1 => pz_cnt b n + (b n).toNat
theorem pz_cnt_s (b : Nat → Bool) (n : Nat) : pz_cnt b (n + 1) = pz_cnt b n + (b n).toNat := rfl
/-- the weighed sum of the cells -/
def pz_dig (m : Nat → Int32) : Nat → Int32
  | 0 => 0
  | n + 1 => pz_dig m n + (nI n + 1) * m n
theorem pz_dig_s (m : Nat → Int32) (n : Nat) : pz_dig m (n + 1) = pz_dig m n + (nI n + 1) * m n := rfl
/-- cells a .. a + d - 1 filled -/
def pz_fill (m : Nat → Int32) (a : Nat) (x s : Int32) : Nat → (Nat → Int32)
  | 0 => m
  | d + 1 => upd (pz_fill m a x s d) (a + d) (x + nI d * s)
theorem pz_fill_s (m : Nat → Int32) (a : Nat) (x s : Int32) (d : Nat) : pz_fill m a x s (d + 1) = upd (pz_fill m a x s d) (a + d) (x + nI d * s) := rfl
theorem pz_next (x s : Int32) (d : Nat) : x + nI d * s + s = x + nI (d + 1) * s := by
  rw [nI_succ, Int32.add_mul, Int32.one_mul, Int32.add_assoc]
/-- what a statement puts into its target -/
def pz_val (bs m : Nat → Int32) (o s w i : Int32) : Int32 :=
  if o = 0 then m (pz_pl bs s.toNatClampNeg i) else if o = 5 then m (pz_pl bs s.toNatClampNeg i) + w else if o = 7 then w + i else
  if o = 1 then m (pz_pl bs s.toNatClampNeg i) + m (pz_pl bs w.toNatClampNeg i) else if o = 2 then m (pz_pl bs s.toNatClampNeg i) - m (pz_pl bs w.toNatClampNeg i) else
  if o = 3 then m (pz_pl bs s.toNatClampNeg i) * m (pz_pl bs w.toNatClampNeg i) else m (pz_pl bs s.toNatClampNeg i) ^^^ m (pz_pl bs w.toNatClampNeg i)
/-- one statement on memory and total -/
def pz_do (bs : Nat → Int32) (o d s w i : Int32) (z : (Nat → Int32) × Int32) : (Nat → Int32) × Int32 :=
  if o = 6 then (z.1, z.2 + z.1 (pz_pl bs s.toNatClampNeg i) * w) else (upd z.1 (pz_pl bs d.toNatClampNeg i) (pz_val bs z.1 o s w i), z.2)
/-- g 0, then g 1, .. -/
def pz_it {σ : Type} (g : Nat → σ → σ) : Nat → σ → σ
  | 0, s => s
  | n + 1, s => g n (pz_it g n s)
theorem pz_it_s {σ : Type} (g : Nat → σ → σ) (n : Nat) (s : σ) : pz_it g (n + 1) s = g n (pz_it g n s) := rfl
/-- statement k is well made -/
def pz_ok (o d s w : Int32) : Prop := (∃ p : Nat, p < 8 ∧ o = nI p) ∧ pz_ref d ∧ pz_ref s ∧ (1 ≤ o → o ≤ 4 → pz_ref w)
theorem pz_ok0 : pz_ok 0 0 0 0 := ⟨⟨0, by decide, rfl⟩, pz_ref0, pz_ref0, fun _ _ => pz_ref0⟩
theorem pz_op {x : Int32} (h : ∃ p : Nat, p < 8 ∧ x = nI p) : x = 0 ∨ x = 1 ∨ x = 2 ∨ x = 3 ∨ x = 4 ∨ x = 5 ∨ x = 6 ∨ x = 7 := by
  obtain ⟨p, hp, rfl⟩ := h
  have h8 : p = 0 ∨ p = 1 ∨ p = 2 ∨ p = 3 ∨ p = 4 ∨ p = 5 ∨ p = 6 ∨ p = 7 := by omega
  rcases h8 with rfl | rfl | rfl | rfl | rfl | rfl | rfl | rfl <;> decide
theorem pz_v0 (b m : Nat → Int32) (s w i : Int32) : pz_val b m 0 s w i = m (pz_pl b s.toNatClampNeg i) := by
  unfold pz_val; rw [if_pos rfl]
theorem pz_v5 (b m : Nat → Int32) (s w i : Int32) : pz_val b m 5 s w i = m (pz_pl b s.toNatClampNeg i) + w := by
  unfold pz_val; rw [if_neg (by decide), if_pos rfl]
theorem pz_v7 (b m : Nat → Int32) (s w i : Int32) : pz_val b m 7 s w i = w + i := by
  unfold pz_val; rw [if_neg (by decide), if_neg (by decide), if_pos rfl]
theorem pz_v1 (b m : Nat → Int32) (s w i : Int32) : pz_val b m 1 s w i = m (pz_pl b s.toNatClampNeg i) + m (pz_pl b w.toNatClampNeg i) := by
  unfold pz_val; rw [if_neg (by decide), if_neg (by decide), if_neg (by decide), if_pos rfl]
theorem pz_v2 (b m : Nat → Int32) (s w i : Int32) : pz_val b m 2 s w i = m (pz_pl b s.toNatClampNeg i) - m (pz_pl b w.toNatClampNeg i) := by
  unfold pz_val; rw [if_neg (by decide), if_neg (by decide), if_neg (by decide), if_neg (by decide), if_pos rfl]
theorem pz_v3 (b m : Nat → Int32) (s w i : Int32) : pz_val b m 3 s w i = m (pz_pl b s.toNatClampNeg i) * m (pz_pl b w.toNatClampNeg i) := by
  unfold pz_val; rw [if_neg (by decide), if_neg (by decide), if_neg (by decide), if_neg (by decide), if_neg (by decide), if_pos rfl]
theorem pz_v4 (b m : Nat → Int32) (s w i : Int32) : pz_val b m 4 s w i = m (pz_pl b s.toNatClampNeg i) ^^^ m (pz_pl b w.toNatClampNeg i) := by
  unfold pz_val; rw [if_neg (by decide), if_neg (by decide), if_neg (by decide), if_neg (by decide), if_neg (by decide), if_neg (by decide)]
theorem pz_do6 (b m : Nat → Int32) (d s w i t : Int32) : pz_do b 6 d s w i (m, t) = (m, t + m (pz_pl b s.toNatClampNeg i) * w) := by
  unfold pz_do; rw [if_pos rfl]
theorem pz_don (b m : Nat → Int32) (o d s w i t : Int32) (h : ¬ o = 6) : pz_do b o d s w i (m, t) = (upd m (pz_pl b d.toNatClampNeg i) (pz_val b m o s w i), t) := by
  unfold pz_do; rw [if_neg h]
theorem pz_clp (b : Nat → Int32) (n : Nat) (i : Int32) : (nI (pz_pl b n i)).toNatClampNeg = pz_pl b n i := nI_clamp (by have := pz_pl_lt b n i; omega)
theorem pz_inp (b : Nat → Int32) (n : Nat) (i : Int32) : vp_in (nI (pz_pl b n i)) 64 := vp_in_nI (pz_pl_lt b n i) (by decide)
theorem pz_sd {n : Nat} (h : n < 2 ^ 31) : nI n / 16 - nI n / 16 / 8 * 8 = nI (n / 16 % 8) := by
  rw [pz_d16 h]; exact pz_r8 (by omega)
/-- a round, a run -/
def pz_rnd (b o d s w : Nat → Int32) (c : Nat) (i : Int32) (z : (Nat → Int32) × Int32) : (Nat → Int32) × Int32 := pz_it (fun k z => pz_do b (o k) (d k) (s k) (w k) i z) c z
def pz_run (b o d s w : Nat → Int32) (c t : Nat) (z : (Nat → Int32) × Int32) : (Nat → Int32) × Int32 := pz_it (fun i z => pz_rnd b o d s w c (nI i) z) t z
end
section
/-! the private methods of both sides, each with a general post -/
theorem pz_Xref_t {post : Int32 → Prop} {x : Int32} (h : pz_ref x) (hp : post 1) : wpX_isReference post x := by
  obtain ⟨n, hn, h7, rfl⟩ := h
  have e7 : ¬ nI n / 16 - nI n / 16 / 8 * 8 = 7 := by
    rw [pz_sd (by omega)]
    intro e
    exact h7 ((nI_eq (b := 7) (by omega) (by decide)).mp e)
  exact br_f (nI_pos (by omega)) (br_f (nI_ge (b := 512) hn (by decide)) (And.intro (by decide) (And.intro (by decide) (br_f e7 hp))))
theorem pz_Xref_f {post : Int32 → Prop} {x : Int32} (h : ¬ pz_ref x) (hp : post 0) : wpX_isReference post x := by
  by_cases h0 : x < 0
  · exact br_t h0 hp
  · obtain ⟨n, hn, rfl⟩ := nI_of h0
    by_cases h5 : n < 512
    · have h7 : n / 16 % 8 = 7 := Decidable.byContradiction fun z => h ((pz_refN h5).mpr z)
      have e7 : nI n / 16 - nI n / 16 / 8 * 8 = 7 := by rw [pz_sd hn, h7]; rfl
      exact br_f h0 (br_f (nI_ge (b := 512) h5 (by decide)) (And.intro (by decide) (And.intro (by decide) (br_t e7 hp))))
    · exact br_f h0 (br_t (nI_le (a := 512) (by omega) hn) hp)
theorem pz_Yref_t {post : Int32 → Prop} {u : SY} {x : Int32} (h : pz_ref x) (hp : post 0) : wpY_badRef post u x := by
  obtain ⟨n, hn, h7, rfl⟩ := h
  obtain ⟨f1, f2, m, b, o, d, s, w⟩ := u
  have e7 : ¬ nI n / 16 - nI n / 16 / 8 * 8 = 7 := by
    rw [pz_sd (by omega)]
    intro e
    exact h7 ((nI_eq (b := 7) (by omega) (by decide)).mp e)
  exact br_f (nI_pos (by omega)) (br_f (nI_nlt (b := n) (a := 511) (by omega) (by decide)) ⟨by decide, by decide, br_f e7 hp⟩)
theorem pz_Yref_f {post : Int32 → Prop} {u : SY} {x : Int32} (h : ¬ pz_ref x) (hp : post 1) : wpY_badRef post u x := by
  obtain ⟨f1, f2, m, b, o, d, s, w⟩ := u
  by_cases h0 : x < 0
  · exact br_t h0 hp
  · obtain ⟨n, hn, rfl⟩ := nI_of h0
    by_cases h5 : n < 512
    · have h7 : n / 16 % 8 = 7 := Decidable.byContradiction fun z => h ((pz_refN h5).mpr z)
      have e7 : nI n / 16 - nI n / 16 / 8 * 8 = 7 := by rw [pz_sd hn, h7]; rfl
      exact br_f h0 (br_f (nI_nlt (b := n) (a := 511) (by omega) (by decide)) ⟨by decide, by decide, br_t e7 hp⟩)
    · exact br_f h0 (br_t (nI_lt (a := 511) (b := n) (by omega) hn) hp)
theorem pz_Xpl {post : Int32 → Prop} {fb ft : Int32} {m b o d s w : Nat → Int32} {n : Nat} {i : Int32} (h : n < 512) (hp : post (nI (pz_pl b n i))) : wpX_cellInRound post (fb, ft, m, b, o, d, s, w) (nI n) i := by
  unfold wpX_cellInRound wpX_strideDigit
  dsimp only
  refine ⟨by decide, nm_r (pz_r16 (by omega)) ⟨by decide, by decide, nm_r (show nI n / 16 - nI n / 16 / 8 * 8 - 3 = nI (n / 16 % 8) - 3 by rw [pz_sd (by omega)]) ⟨by decide, ?_, ?_⟩⟩⟩
  · rw [pz_d128 h]; exact vp_in_nI (by omega) (by decide)
  · rw [pz_d128 h, nI_clamp (by omega), pz_cell]; exact hp
theorem pz_Ypl {post : Int32 → Prop} {fc ft : Int32} {m b o d s w : Nat → Int32} {n : Nat} {i : Int32} (h : n < 512) (hp : post (nI (pz_pl b n i))) : wpY_place post (ft, fc, m, b, o, d, s, w) (nI n) i := by
  unfold wpY_place
  dsimp only
  refine ⟨by decide, nm_r (show nI n / 128 &&& 3 = nI (n / 128) by rw [pz_d128 h, pz_and3 (by omega)]) ⟨by decide, by decide, nm_r (show nI n / 16 - nI n / 16 / 8 * 8 - 3 = nI (n / 16 % 8) - 3 by rw [pz_sd (by omega)]) ⟨by decide, nm_r (pz_r16 (by omega)) ⟨vp_in_nI (by omega) (by decide), ?_⟩⟩⟩⟩
  rw [nI_clamp (by omega), pz_cell]
  exact hp
theorem pz_Xc {post : Int32 → Prop} {fb ft : Int32} {m b o d s w : Nat → Int32} {x i : Int32} (h : pz_ref x) (hp : post (nI (pz_pl b x.toNatClampNeg i))) : wpX_cellInRound post (fb, ft, m, b, o, d, s, w) x i := by
  obtain ⟨n, hn, _, rfl⟩ := h
  rw [nI_clamp (by omega)] at hp
  exact pz_Xpl hn hp
theorem pz_Yc {post : Int32 → Prop} {fc ft : Int32} {m b o d s w : Nat → Int32} {x i : Int32} (h : pz_ref x) (hp : post (nI (pz_pl b x.toNatClampNeg i))) : wpY_place post (ft, fc, m, b, o, d, s, w) x i := by
  obtain ⟨n, hn, _, rfl⟩ := h
  rw [nI_clamp (by omega)] at hp
  exact pz_Ypl hn hp
theorem pz_r511 {x : Int32} (h : pz_ref x) : x &&& 511 = x := by
  obtain ⟨n, hn, _, rfl⟩ := h
  exact pz_and511 hn
theorem pz_Xdo {post : SX → Prop} {fb ft : Int32} {m b o d s w : Nat → Int32} {k : Nat} {i : Int32} (hk : k < 5) (ok : pz_ok (o k) (d k) (s k) (w k))
    (hp : post (fb, (pz_do b (o k) (d k) (s k) (w k) i (m, ft)).2, (pz_do b (o k) (d k) (s k) (w k) i (m, ft)).1, b, o, d, s, w)) : wpX_doStatement post (fb, ft, m, b, o, d, s, w) (nI k) i := by
  have vin : vp_in (nI k) 5 := vp_in_nI hk (by decide)
  unfold wpX_doStatement
  dsimp only
  rw [nI_clamp (show k < 2 ^ 31 by omega)]
  obtain ⟨ho, hd, hs, hw⟩ := ok
  generalize o k = oo at ho hw hp ⊢
  generalize d k = dd at hd hp ⊢
  generalize s k = ss at hs hp ⊢
  generalize w k = ww at hw hp ⊢
  refine ⟨vin, nm_e ⟨vin, nm_e ⟨vin, pz_Xc hd ⟨vin, pz_Xc hs ⟨pz_inp _ _ _, ?_⟩⟩⟩⟩⟩
  simp only [pz_clp, forall_eq]
  rcases pz_op ho with rfl | rfl | rfl | rfl | rfl | rfl | rfl | rfl
  · rw [pz_don _ _ _ _ _ _ _ _ (by decide), pz_v0] at hp
    exact br_f (by decide) (br_f (by decide) (br_f (by decide) (br_t rfl ⟨pz_inp _ _ _, hp⟩)))
  · rw [pz_don _ _ _ _ _ _ _ _ (by decide), pz_v1] at hp
    exact br_f (by decide) (br_f (by decide) (br_f (by decide) (br_f (by decide) (pz_Xc (hw (by decide) (by decide)) ⟨pz_inp _ _ _, br_f (by decide) (br_f (by decide) (br_t rfl ⟨pz_inp _ _ _, by rw [pz_clp]; exact hp⟩))⟩))))
  · rw [pz_don _ _ _ _ _ _ _ _ (by decide), pz_v2] at hp
    exact br_f (by decide) (br_f (by decide) (br_f (by decide) (br_f (by decide) (pz_Xc (hw (by decide) (by decide)) ⟨pz_inp _ _ _, br_f (by decide) (br_f (by decide) (br_f (by decide) (br_t rfl ⟨pz_inp _ _ _, by rw [pz_clp]; exact hp⟩)))⟩))))
  · rw [pz_don _ _ _ _ _ _ _ _ (by decide), pz_v3] at hp
    exact br_f (by decide) (br_f (by decide) (br_f (by decide) (br_f (by decide) (pz_Xc (hw (by decide) (by decide)) ⟨pz_inp _ _ _, br_f (by decide) (br_f (by decide) (br_f (by decide) (br_f (by decide) (br_t rfl ⟨pz_inp _ _ _, by rw [pz_clp]; exact hp⟩))))⟩))))
  · rw [pz_don _ _ _ _ _ _ _ _ (by decide), pz_v4] at hp
    exact br_f (by decide) (br_f (by decide) (br_f (by decide) (br_f (by decide) (pz_Xc (hw (by decide) (by decide)) ⟨pz_inp _ _ _, br_f (by decide) (br_t (by decide) ⟨pz_inp _ _ _, by rw [pz_clp]; exact hp⟩)⟩))))
  · rw [pz_don _ _ _ _ _ _ _ _ (by decide), pz_v5] at hp
    exact br_f (by decide) (br_f (by decide) (br_t rfl ⟨pz_inp _ _ _, hp⟩))
  · rw [pz_do6] at hp
    exact br_t rfl hp
  · rw [pz_don _ _ _ _ _ _ _ _ (by decide), pz_v7] at hp
    exact br_f (by decide) (br_t rfl ⟨pz_inp _ _ _, hp⟩)
theorem pz_Yres {post : Int32 → Prop} {fc ft : Int32} {m b o d s w : Nat → Int32} {k : Nat} {i : Int32} (hk : k < 5) (ok : pz_ok (o k) (d k) (s k) (w k)) (h6 : ¬ o k = 6)
    (hp : post (pz_val b m (o k) (s k) (w k) i)) : wpY_result post (ft, fc, m, b, o, d, s, w) (nI k) i := by
  have vin : vp_in (nI k) 5 := vp_in_nI hk (by decide)
  unfold wpY_result
  dsimp only
  rw [nI_clamp (show k < 2 ^ 31 by omega)]
  obtain ⟨ho, hd, hs, hw⟩ := ok
  generalize o k = oo at ho hw hp h6 ⊢
  generalize s k = ss at hs hp ⊢
  generalize w k = ww at hw hp ⊢
  refine ⟨vin, pz_Yc hs ⟨pz_inp _ _ _, ?_⟩⟩
  simp only [pz_clp, forall_eq]
  refine ⟨vin, vin, ?_⟩
  rcases pz_op ho with rfl | rfl | rfl | rfl | rfl | rfl | rfl | rfl
  · rw [pz_v0] at hp
    exact br_t rfl hp
  · have hr := hw (by decide) (by decide)
    rw [pz_v1] at hp
    rw [pz_r511 hr]
    exact br_f (by decide) ⟨vin, br_f (by decide) ⟨vin, br_f (by decide) (pz_Yc hr ⟨pz_inp _ _ _, by rw [pz_clp]; exact ⟨vin, br_t rfl hp⟩⟩)⟩⟩
  · have hr := hw (by decide) (by decide)
    rw [pz_v2] at hp
    rw [pz_r511 hr]
    exact br_f (by decide) ⟨vin, br_f (by decide) ⟨vin, br_f (by decide) (pz_Yc hr ⟨pz_inp _ _ _, by rw [pz_clp]; exact ⟨vin, br_f (by decide) ⟨vin, br_t rfl hp⟩⟩⟩)⟩⟩
  · have hr := hw (by decide) (by decide)
    rw [pz_v3] at hp
    rw [pz_r511 hr]
    exact br_f (by decide) ⟨vin, br_f (by decide) ⟨vin, br_f (by decide) (pz_Yc hr ⟨pz_inp _ _ _, by rw [pz_clp]; exact ⟨vin, br_f (by decide) ⟨vin, br_f (by decide) ⟨vin, br_t rfl hp⟩⟩⟩⟩)⟩⟩
  · have hr := hw (by decide) (by decide)
    rw [pz_v4] at hp
    rw [pz_r511 hr]
    exact br_f (by decide) ⟨vin, br_f (by decide) ⟨vin, br_f (by decide) (pz_Yc hr ⟨pz_inp _ _ _, by rw [pz_clp]; exact ⟨vin, br_f (by decide) ⟨vin, br_f (by decide) ⟨vin, br_f (by decide) hp⟩⟩⟩⟩)⟩⟩
  · rw [pz_v5] at hp
    exact br_f (by decide) ⟨vin, br_t rfl hp⟩
  · exact absurd rfl h6
  · rw [pz_v7] at hp
    exact br_f (by decide) ⟨vin, br_f (by decide) ⟨vin, br_t rfl hp⟩⟩
end
section
/-! the loops of both sides, each against its pure picture -/
theorem pz_Xin {post : Int32 → SX → Prop} {J : Int32 → Int32 → Int32 → (Nat → Int32) → (Nat → Int32) → (Nat → Int32) → (Nat → Int32) → (Nat → Int32) → (Nat → Int32) → Prop} {x1 i : Int32} {c : Nat} {ft : Int32} {m b o d s w : Nat → Int32} (hc : c ≤ 5) (hok : ∀ j, pz_ok (o j) (d j) (s j) (w j))
    (hJ : J (i + 1) (nI c) (pz_rnd b o d s w c i (m, ft)).2 (pz_rnd b o d s w c i (m, ft)).1 b o d s w) : ∃ n, wX_run_18 post J x1 i n 0 (nI c) ft m b o d s w := by
  refine loop_0 (σ := (Nat → Int32) × Int32) (fun n k z => wX_run_18 post J x1 i n (nI k) (nI c) z.2 z.1 b o d s w) (fun k z => z = pz_rnd b o d s w k i (m, ft)) c (m, ft) rfl ?_ ?_
  · intro n z hz
    subst hz
    exact br_t (nI_le (Nat.le_refl c) (by omega)) (nm_e hJ)
  · intro n k z hk hz H
    refine br_f (nI_ge hk (by omega)) (pz_Xdo (by omega) (hok k) (nm_r (nI_1 k) ?_))
    exact H (pz_do b (o k) (d k) (s k) (w k) i z) (by rw [hz]; rfl)
theorem pz_Xrun {post : Int32 → SX → Prop} {c t : Nat} {ft : Int32} {m b o d s w : Nat → Int32} (ht : t ≤ 40) (hc : c ≤ 5) (hok : ∀ j, pz_ok (o j) (d j) (s j) (w j))
    (hp : post (pz_run b o d s w c t (m, ft)).2 (nI c, (pz_run b o d s w c t (m, ft)).2, (pz_run b o d s w c t (m, ft)).1, b, o, d, s, w)) : ∃ n, wX_run_11 post (nI t) n 0 (nI c) ft m b o d s w := by
  refine loop_0 (σ := (Nat → Int32) × Int32) (fun n i z => wX_run_11 post (nI t) n (nI i) (nI c) z.2 z.1 b o d s w) (fun i z => z = pz_run b o d s w c i (m, ft)) t (m, ft) rfl ?_ ?_
  · intro n z hz
    subst hz
    exact br_t (nI_le (Nat.le_refl t) (by omega)) hp
  · intro n i z hi hz H
    refine br_f (nI_ge hi (by omega)) (pz_Xin hc hok ?_)
    rw [nI_1]
    exact H (pz_rnd b o d s w c (nI i) z) (by rw [hz]; rfl)
theorem pz_Yin {post : Int32 → SY → Prop} {J : Int32 → Int32 → (Nat → Int32) → (Nat → Int32) → (Nat → Int32) → (Nat → Int32) → (Nat → Int32) → (Nat → Int32) → Prop} {x1 i : Int32} {c : Nat} {ft : Int32} {m b o d s w : Nat → Int32} (hc : c ≤ 5) (hok : ∀ j, pz_ok (o j) (d j) (s j) (w j))
    (hJ : J (i + 1) (pz_rnd b o d s w c i (m, ft)).2 (pz_rnd b o d s w c i (m, ft)).1 b o d s w) : ∃ n, wY_run_21 post J x1 i (nI c) n 0 ft m b o d s w := by
  refine loop_0 (σ := (Nat → Int32) × Int32) (fun n k z => wY_run_21 post J x1 i (nI c) n (nI k) z.2 z.1 b o d s w) (fun k z => z = pz_rnd b o d s w k i (m, ft)) c (m, ft) rfl ?_ ?_
  · intro n z hz
    subst hz
    exact br_t (nI_le (Nat.le_refl c) (by omega)) (nm_e hJ)
  · intro n k z hk hz H
    have vin : vp_in (nI k) 5 := vp_in_nI (by omega) (by decide)
    have hcl : (nI k).toNatClampNeg = k := nI_clamp (by omega)
    have H2 := H (pz_do b (o k) (d k) (s k) (w k) i z) (by rw [hz]; rfl)
    obtain ⟨zm, zt⟩ := z
    show wY_run_21 post J x1 i (nI c) (n + 1) (nI k) zt zm b o d s w
    simp only [wY_run_21, hcl, forall_eq]
    refine br_f (nI_ge hk (by omega)) (br_f (nI_ge (b := 5) (by omega) (by decide)) ⟨vin, ?_⟩)
    by_cases h6 : o k = 6
    · refine br_t h6 ⟨vin, pz_Yc (hok k).2.2.1 ⟨pz_inp _ _ _, vin, ?_⟩⟩
      rw [pz_clp, nI_1]
      rw [h6, pz_do6] at H2
      exact H2
    · refine br_f h6 ⟨vin, pz_Yc (hok k).2.1 (pz_Yres (by omega) (hok k) h6 ⟨pz_inp _ _ _, ?_⟩)⟩
      rw [pz_clp, nI_1]
      rw [pz_don _ _ _ _ _ _ _ _ h6] at H2
      exact H2
theorem pz_Yrun {post : Int32 → SY → Prop} {c t : Nat} {ft : Int32} {m b o d s w : Nat → Int32} (ht : t ≤ 40) (hc : c ≤ 5) (hok : ∀ j, pz_ok (o j) (d j) (s j) (w j))
    (hp : post (pz_run b o d s w c t (m, ft)).2 ((pz_run b o d s w c t (m, ft)).2, nI c, (pz_run b o d s w c t (m, ft)).1, b, o, d, s, w)) : ∃ n, wY_run_14 post (nI t) (nI c) n 0 ft m b o d s w := by
  refine loop_0 (σ := (Nat → Int32) × Int32) (fun n i z => wY_run_14 post (nI t) (nI c) n (nI i) z.2 z.1 b o d s w) (fun i z => z = pz_run b o d s w c i (m, ft)) t (m, ft) rfl ?_ ?_
  · intro n z hz
    subst hz
    exact br_t (nI_le (Nat.le_refl t) (by omega)) hp
  · intro n i z hi hz H
    refine br_f (nI_ge hi (by omega)) (pz_Yin hc hok ?_)
    rw [nI_1]
    exact H (pz_rnd b o d s w c (nI i) z) (by rw [hz]; rfl)
theorem pz_x0 (x s : Int32) : x + nI 0 * s = x := by rw [nI_0, Int32.zero_mul, Int32.add_zero]
theorem pz_Xfill {post : Int32 → SX → Prop} {fb ft x st : Int32} {m b o d s w : Nat → Int32} {a e : Nat} (hae : a ≤ e) (he : e ≤ 63)
    (hp : post 0 (fb, ft, pz_fill m a x st (e + 1 - a), b, o, d, s, w)) : ∃ n, wX_fill_23 post (nI e) st fb ft n x (nI a) m b o d s w := by
  have h : ∃ n, wX_fill_23 post (nI e) st fb ft n (x + nI 0 * st) (nI (a + 0)) m b o d s w := by
    refine loop_0 (σ := Nat → Int32) (fun n j z => wX_fill_23 post (nI e) st fb ft n (x + nI j * st) (nI (a + j)) z b o d s w) (fun j z => z = pz_fill m a x st j) (e + 1 - a) m rfl ?_ ?_
    · intro n z hz
      subst hz
      exact br_t (nI_lt (by omega) (by omega)) hp
    · intro n j z hj hz H
      have hcl : (nI (a + j)).toNatClampNeg = a + j := nI_clamp (by omega)
      refine br_f (nI_nlt (by omega) (by omega)) ⟨vp_in_nI (by omega) (by decide), nm_r (show upd z (nI (a + j)).toNatClampNeg (x + nI j * st) = upd z (a + j) (x + nI j * st) by rw [hcl]) (nm_r (pz_next x st j) (nm_r (nI_1 (a + j)) ?_))⟩
      exact H _ (by rw [hz]; rfl)
  rw [pz_x0] at h
  exact h
theorem pz_Yfill {post : Int32 → SY → Prop} {fc ft x st : Int32} {m b o d s w : Nat → Int32} {a e : Nat} (hae : a ≤ e) (he : e ≤ 63)
    (hp : post 0 (ft, fc, pz_fill m a x st (e + 1 - a), b, o, d, s, w)) : ∃ n, wY_fill_20 post (nI a) (nI e) x st ft fc n (nI a) m b o d s w := by
  refine loop_0 (σ := Nat → Int32) (fun n j z => wY_fill_20 post (nI a) (nI e) x st ft fc n (nI (a + j)) z b o d s w) (fun j z => z = pz_fill m a x st j) (e + 1 - a) m rfl ?_ ?_
  · intro n z hz
    subst hz
    exact br_t (nI_lt (by omega) (by omega)) hp
  · intro n j z hj hz H
    have hcl : (nI (a + j)).toNatClampNeg = a + j := nI_clamp (by omega)
    have hsub : nI (a + j) - nI a = nI j := by rw [pk_sub (by omega), Nat.add_sub_cancel_left]
    refine br_f (nI_nlt (by omega) (by omega)) ⟨vp_in_nI (by omega) (by decide), nm_r (show upd z (nI (a + j)).toNatClampNeg (x + (nI (a + j) - nI a) * st) = upd z (a + j) (x + nI j * st) by rw [hcl, hsub]) (nm_r (nI_1 (a + j)) ?_)⟩
    exact H _ (by rw [hz]; rfl)
theorem pz_Xdig {post : Int32 → Prop} {fb ft : Int32} {m b o d s w : Nat → Int32} (hp : post (pz_dig m 64)) : ∃ n, wX_digest_4 post fb ft m b o d s w n 0 0 := by
  refine loop_0 (σ := Int32) (fun n j z => wX_digest_4 post fb ft m b o d s w n z (nI j)) (fun j z => z = pz_dig m j) 64 0 rfl ?_ ?_
  · intro n z hz
    subst hz
    exact br_t (nI_le (a := 64) (b := 64) (by decide) (by decide)) hp
  · intro n j z hj hz H
    refine br_f (nI_ge (b := 64) hj (by decide)) ⟨vp_in_nI hj (by decide), nm_r (show z + (nI j + 1) * m (nI j).toNatClampNeg = z + (nI j + 1) * m j by rw [nI_clamp (by omega)]) (nm_r (nI_1 j) ?_)⟩
    exact H _ (by rw [hz]; rfl)
theorem pz_Ydig {post : Int32 → Prop} {fc ft : Int32} {m b o d s w : Nat → Int32} (hp : post (pz_dig m 64)) : ∃ n, wY_digest_4 post ft fc m b o d s w n 0 0 := by
  refine loop_0 (σ := Int32) (fun n j z => wY_digest_4 post ft fc m b o d s w n z (nI j)) (fun j z => z = pz_dig m j) 64 0 rfl ?_ ?_
  · intro n z hz
    subst hz
    exact br_t (nI_le (a := 64) (b := 64) (by decide) (by decide)) hp
  · intro n j z hj hz H
    refine br_f (nI_ge (b := 64) hj (by decide)) ⟨vp_in_nI hj (by decide), nm_r (show z + (nI j + 1) * m (nI j).toNatClampNeg = z + (nI j + 1) * m j by rw [nI_clamp (by omega)]) (nm_r (nI_1 j) ?_)⟩
    exact H _ (by rw [hz]; rfl)
/-- the cells of reference r, round by round -/
def pz_f (b : Nat → Int32) (r : Nat) : Nat → Nat := fun j => pz_pl b r (nI j)
theorem pz_f_lt (b : Nat → Int32) (r j : Nat) : pz_f b r j < 64 := pz_pl_lt b r (nI j)
theorem pz_Xset {post : Int64 → Prop} {fb ft : Int32} {m b o d s w : Nat → Int32} {r t : Nat} (hr : r < 512) (ht : t ≤ 40) (hp : post (pz_set (pz_f b r) t)) : wpX_cellsMeant post (fb, ft, m, b, o, d, s, w) (nI r) (nI t) := by
  show ∃ n, wX_cellsMeant_5 post (nI r) (nI t) fb ft m b o d s w n 0 0
  refine loop_0 (σ := Int64) (fun n j z => wX_cellsMeant_5 post (nI r) (nI t) fb ft m b o d s w n z (nI j)) (fun j z => z = pz_set (pz_f b r) j) t 0 rfl ?_ ?_
  · intro n z hz
    subst hz
    exact br_t (nI_le (Nat.le_refl t) (by omega)) hp
  · intro n j z hj hz H
    refine br_f (nI_ge hj (by omega)) (pz_Xpl hr (nm_e (nm_r (nI_1 j) ?_)))
    exact H _ (by rw [hz]; rfl)
theorem pz_Yvis {post : Int32 → Prop} {fc ft : Int32} {m b o d s w : Nat → Int32} {r t q : Nat} (hr : r < 512) (ht : t ≤ 40) (hq : q < 64) (h1 : pz_vis (pz_f b r) t q = true → post 1) (h0 : pz_vis (pz_f b r) t q = false → post 0) : wpY_visits post (ft, fc, m, b, o, d, s, w) (nI r) (nI t) (nI q) := by
  show ∃ n, wY_visits_3 post (nI r) (nI t) (nI q) ft fc m b o d s w n 0
  refine loop_0 (σ := Unit) (fun n j _ => wY_visits_3 post (nI r) (nI t) (nI q) ft fc m b o d s w n (nI j)) (fun j _ => pz_vis (pz_f b r) j q = false) t () rfl ?_ ?_
  · intro n z hz
    exact br_t (nI_le (Nat.le_refl t) (by omega)) (h0 hz)
  · intro n j z hj hz H
    refine br_f (nI_ge hj (by omega)) (pz_Ypl hr ?_)
    by_cases e : pz_f b r j = q
    · exact br_t (congrArg nI e) (h1 (pz_vis_t e t hj))
    · have hl := pz_f_lt b r j
      exact br_f (fun y => e ((nI_eq (a := pz_f b r j) (by omega) (by omega)).mp y)) (nm_r (nI_1 j) (H () (pz_vis_f hz e)))
theorem pz_Xspr {post : Int32 → Prop} {fb ft : Int32} {m b o d s w : Nat → Int32} {r t : Nat} (hp : post (nI (pz_cnt (pz_vis (pz_f b r) t) 64))) : ∃ n, wX_spread_32 post (pz_set (pz_f b r) t) fb ft m b o d s w n 0 0 := by
  refine loop_0 (σ := Int32) (fun n j z => wX_spread_32 post (pz_set (pz_f b r) t) fb ft m b o d s w n z (nI j)) (fun j z => z = nI (pz_cnt (pz_vis (pz_f b r) t) j)) 64 0 rfl ?_ ?_
  · intro n z hz
    subst hz
    exact br_t (nI_le (a := 64) (b := 64) (by decide) (by decide)) hp
  · intro n j z hj hz H
    refine br_f (nI_ge (b := 64) hj (by decide)) (nm_e (nm_r (nI_1 j) ?_))
    exact H _ (by rw [hz, pz_bit _ hj, pz_setb (pz_f_lt b r) hj, nI_add]; rfl)
theorem pz_Yspr {post : Int32 → Prop} {fc ft : Int32} {m b o d s w : Nat → Int32} {r t : Nat} (hr : r < 512) (ht : t ≤ 40) (hp : post (nI (pz_cnt (pz_vis (pz_f b r) t) 64))) : ∃ n, wY_spread_28 post (nI r) (nI t) ft fc m b o d s w n 0 0 := by
  refine loop_0 (σ := Int32) (fun n j z => wY_spread_28 post (nI r) (nI t) ft fc m b o d s w n z (nI j)) (fun j z => z = nI (pz_cnt (pz_vis (pz_f b r) t) j)) 64 0 rfl ?_ ?_
  · intro n z hz
    subst hz
    exact br_t (nI_le (a := 64) (b := 64) (by decide) (by decide)) hp
  · intro n j z hj hz H
    refine br_f (nI_ge (b := 64) hj (by decide)) (pz_Yvis hr ht hj (fun hv => ?_) (fun hv => ?_))
    · refine br_f (by decide) (nm_e (nm_r (nI_1 j) ?_))
      exact H _ (by rw [hz, nI_1, pz_cnt_s, hv]; rfl)
    · refine br_t rfl (nm_r (nI_1 j) ?_)
      exact H _ (by rw [hz, pz_cnt_s, hv]; rfl)
theorem pz_Ymeet {post : Int32 → Prop} {fc ft : Int32} {m b o d s w : Nat → Int32} {p r t : Nat} (hpr : p < 512) (hr : r < 512) (ht : t ≤ 40)
    (h1 : ∀ q, q < 64 → (pz_vis (pz_f b p) t q && pz_vis (pz_f b r) t q) = true → post 1)
    (h0 : (∀ q, q < 64 → (pz_vis (pz_f b p) t q && pz_vis (pz_f b r) t q) = false) → post 0) : ∃ n, wY_meet_34 post (nI p) (nI r) (nI t) ft fc m b o d s w n 0 := by
  refine loop_0 (σ := Unit) (fun n j _ => wY_meet_34 post (nI p) (nI r) (nI t) ft fc m b o d s w n (nI j)) (fun j _ => ∀ q, q < j → (pz_vis (pz_f b p) t q && pz_vis (pz_f b r) t q) = false) 64 () lt_0 ?_ ?_
  · intro n z hz
    exact br_t (nI_le (a := 64) (b := 64) (by decide) (by decide)) (h0 hz)
  · intro n j z hj hz H
    refine br_f (nI_ge (b := 64) hj (by decide)) (pz_Yvis hpr ht hj (fun hv => ?_) (fun hv => ?_))
    · refine br_f (by decide) (pz_Yvis hr ht hj (fun hw => ?_) (fun hw => ?_))
      · exact br_f (by decide) (h1 j hj (by rw [hv, hw]; rfl))
      · exact br_t rfl (nm_r (nI_1 j) (H () (lt_s hz (by rw [hw, Bool.and_false]))))
    · exact br_t rfl (nm_r (nI_1 j) (H () (lt_s hz (by rw [hv, Bool.false_and]))))
end
section
/-- both sides hold the same memory, bases, body and total; the body has at most five statements, all well made -/
def i_Rel (_ : Nat) (u : SX) (v : SY) : Prop := ∃ (c : Nat) (ft : Int32) (m b o d s w : Nat → Int32), u = (nI c, ft, m, b, o, d, s, w) ∧ v = (ft, nI c, m, b, o, d, s, w) ∧ c ≤ 5 ∧ ∀ j, pz_ok (o j) (d j) (s j) (w j)
theorem i_up {k : Nat} {u : SX} {v : SY} (h : i_Rel k u v) : i_Rel (k + 5) u v := h
theorem pz_rel {k c : Nat} {ft : Int32} {m b o d s w : Nat → Int32} (hc : c ≤ 5) (hok : ∀ j, pz_ok (o j) (d j) (s j) (w j)) : i_Rel k (nI c, ft, m, b, o, d, s, w) (ft, nI c, m, b, o, d, s, w) := ⟨c, ft, m, b, o, d, s, w, rfl, rfl, hc, hok⟩
theorem i_vc0 : wpX_init (fun u => wpY_init (fun v => i_Rel 0 u v)) := by
  show i_Rel 0 (nI 0, 0, (fun _ => 0), (fun _ => 0), (fun _ => 0), (fun _ => 0), (fun _ => 0), (fun _ => 0)) (0, nI 0, (fun _ => 0), (fun _ => 0), (fun _ => 0), (fun _ => 0), (fun _ => 0), (fun _ => 0))
  exact pz_rel (by decide) (fun _ => pz_ok0)
theorem pz_put {k c : Nat} {ft x1 x2 x3 x4 : Int32} {m b o d s w : Nat → Int32} (hc : c ≤ 5) (hok : ∀ j, pz_ok (o j) (d j) (s j) (w j)) (new : pz_ok x1 x2 x3 x4) (YW : (Int32 → SY → Prop) → Prop)
    (hY : ∀ post : Int32 → SY → Prop, wY_statement_56 post x1 x2 x3 x4 ft (nI c) m b o d s w → YW post) :
    wX_statement_50 (fun r u' => YW (fun r' v' => r' = r ∧ i_Rel (k + 5) u' v')) x1 x2 x3 x4 (nI c) ft m b o d s w := by
  by_cases h : c < 5
  · have vin : vp_in (nI c) 5 := vp_in_nI h (by decide)
    have e1 : ∀ (f : Nat → Int32) (x : Int32), upd f (nI c).toNatClampNeg x = upd f c x := by
      intro f x
      rw [nI_clamp (by omega)]
    have h5 : nI c < 5 := nI_lt (b := 5) h (by decide)
    have hn : ∀ j, pz_ok (upd o c x1 j) (upd d c x2 j) (upd s c x3 j) (upd w c x4 j) := by
      intro j
      by_cases e : j = c
      · subst e
        rw [pk_us, pk_us, pk_us, pk_us]
        exact new
      · rw [pk_un e, pk_un e, pk_un e, pk_un e]
        exact hok j
    refine br_t h5 ⟨vin, nm_r (e1 o x1) ⟨vin, nm_r (e1 d x2) ⟨vin, nm_r (e1 s x3) ⟨vin, nm_r (e1 w x4) (nm_r (nI_1 c) (hY _ ?_))⟩⟩⟩⟩
    exact br_t h5 ⟨vin, nm_r (e1 o x1) ⟨vin, nm_r (e1 d x2) ⟨vin, nm_r (e1 s x3) ⟨vin, nm_r (e1 w x4) (nm_r (nI_1 c) ⟨rfl, pz_rel (by omega) hn⟩)⟩⟩⟩⟩
  · have h5 : ¬ nI c < 5 := nI_nlt (b := 5) (by omega) (by omega)
    exact br_f h5 (hY _ (br_f h5 ⟨rfl, pz_rel hc hok⟩))
theorem i_vc_statement {k : Nat} {u : SX} {v : SY} (I : i_Rel k u v) (hk : k + 5 ≤ 2560) (v1 : Int32) (v2 : Int32) (v3 : Int32) (v4 : Int32) : wpX_statement (fun r u' => wpY_statement (fun r' v' => r' = r ∧ i_Rel (k + 5) u' v') v v1 v2 v3 v4) u v1 v2 v3 v4 := by
  obtain ⟨c, ft, m, b, o, d, s, w, rfl, rfl, hc, hok⟩ := I
  by_cases h0 : v1 < 0
  · exact br_t h0 (br_t h0 ⟨rfl, pz_rel hc hok⟩)
  obtain ⟨p, hp, rfl⟩ := nI_of h0
  by_cases h8 : 7 < p
  · have h7 : ¬ nI p ≤ 7 := nI_ge (a := 7) (b := p) h8 hp
    exact br_f h0 (br_f h7 (br_f h0 (br_f h7 ⟨rfl, pz_rel hc hok⟩)))
  have h7 : nI p ≤ 7 := nI_le (b := 7) (by omega) (by decide)
  by_cases hd : pz_ref v2
  · by_cases hs : pz_ref v3
    · by_cases h1 : nI p < 1
      · refine br_f h0 (br_t h7 (pz_Xref_t hd (br_f (by decide) (pz_Xref_t hs (br_f (by decide) (br_t h1 (br_t rfl ?_)))))))
        refine pz_put hc hok ⟨⟨p, by omega, rfl⟩, hd, hs, fun a => absurd h1 (Int32.not_lt.mpr a)⟩ (fun post => wpY_statement post (ft, nI c, m, b, o, d, s, w) (nI p) v2 v3 v4) (fun post h => ?_)
        exact br_f h0 (br_t h7 (pz_Yref_t hd (br_t rfl (pz_Yref_t hs (br_t rfl (br_t h1 h))))))
      · by_cases h4 : 4 < nI p
        · refine br_f h0 (br_t h7 (pz_Xref_t hd (br_f (by decide) (pz_Xref_t hs (br_f (by decide) (br_f h1 (br_t h4 (br_t rfl ?_))))))))
          refine pz_put hc hok ⟨⟨p, by omega, rfl⟩, hd, hs, fun _ a => absurd h4 (Int32.not_lt.mpr a)⟩ (fun post => wpY_statement post (ft, nI c, m, b, o, d, s, w) (nI p) v2 v3 v4) (fun post h => ?_)
          exact br_f h0 (br_t h7 (pz_Yref_t hd (br_t rfl (pz_Yref_t hs (br_t rfl (br_f h1 (br_t h4 h)))))))
        · by_cases hw : pz_ref v4
          · refine br_f h0 (br_t h7 (pz_Xref_t hd (br_f (by decide) (pz_Xref_t hs (br_f (by decide) (br_f h1 (br_f h4 (br_f (by decide) (pz_Xref_t hw (br_f (by decide) ?_))))))))))
            refine pz_put hc hok ⟨⟨p, by omega, rfl⟩, hd, hs, fun _ _ => hw⟩ (fun post => wpY_statement post (ft, nI c, m, b, o, d, s, w) (nI p) v2 v3 v4) (fun post h => ?_)
            exact br_f h0 (br_t h7 (pz_Yref_t hd (br_t rfl (pz_Yref_t hs (br_t rfl (br_f h1 (br_f h4 (pz_Yref_t hw (br_t rfl h)))))))))
          · refine br_f h0 (br_t h7 (pz_Xref_t hd (br_f (by decide) (pz_Xref_t hs (br_f (by decide) (br_f h1 (br_f h4 (br_f (by decide) (pz_Xref_f hw (br_t rfl ?_))))))))))
            exact br_f h0 (br_t h7 (pz_Yref_t hd (br_t rfl (pz_Yref_t hs (br_t rfl (br_f h1 (br_f h4 (pz_Yref_f hw (br_f (by decide) ⟨rfl, pz_rel hc hok⟩)))))))))
    · refine br_f h0 (br_t h7 (pz_Xref_t hd (br_f (by decide) (pz_Xref_f hs (br_t rfl ?_)))))
      exact br_f h0 (br_t h7 (pz_Yref_t hd (br_t rfl (pz_Yref_f hs (br_f (by decide) ⟨rfl, pz_rel hc hok⟩)))))
  · refine br_f h0 (br_t h7 (pz_Xref_f hd (br_t rfl ?_)))
    exact br_f h0 (br_t h7 (pz_Yref_f hd (br_f (by decide) ⟨rfl, pz_rel hc hok⟩)))
theorem i_vc_retract {k : Nat} {u : SX} {v : SY} (I : i_Rel k u v) (hk : k + 5 ≤ 2560) : wpX_retract (fun r u' => wpY_retract (fun r' v' => r' = r ∧ i_Rel (k + 5) u' v') v) u := by
  obtain ⟨c, ft, m, b, o, d, s, w, rfl, rfl, hc, hok⟩ := I
  cases c with
  | zero => exact br_t rfl (br_t rfl ⟨rfl, pz_rel hc hok⟩)
  | succ c =>
    have h0 : ¬ nI (c + 1) = 0 := nI_ne0 (by omega) (by omega)
    exact br_f h0 (nm_r (nI_pred c) (br_f h0 (nm_r (nI_pred c) ⟨rfl, pz_rel (by omega) hok⟩)))
theorem i_vc_clear {k : Nat} {u : SX} {v : SY} (I : i_Rel k u v) (hk : k + 5 ≤ 2560) : wpX_clear (fun r u' => wpY_clear (fun r' v' => r' = r ∧ i_Rel (k + 5) u' v') v) u := by
  obtain ⟨c, ft, m, b, o, d, s, w, rfl, rfl, hc, hok⟩ := I
  exact And.intro rfl (pz_rel (c := 0) (by decide) hok)
theorem i_vc_statements {k : Nat} {u : SX} {v : SY} (I : i_Rel k u v) (hk : k + 5 ≤ 2560) : wpX_statements (fun r => wpY_statements (fun r' => r' = r ∧ i_Rel (k + 5) u v) v) u := by
  obtain ⟨c, ft, m, b, o, d, s, w, rfl, rfl, hc, hok⟩ := I
  exact And.intro rfl (pz_rel hc hok)
theorem i_vc_base {k : Nat} {u : SX} {v : SY} (I : i_Rel k u v) (hk : k + 5 ≤ 2560) (v1 : Int32) (v2 : Int32) : wpX_base (fun r u' => wpY_base (fun r' v' => r' = r ∧ i_Rel (k + 5) u' v') v v1 v2) u v1 v2 := by
  obtain ⟨c, ft, m, b, o, d, s, w, rfl, rfl, hc, hok⟩ := I
  by_cases h0 : v1 < 0
  · exact br_t h0 (br_t h0 ⟨rfl, pz_rel hc hok⟩)
  obtain ⟨r, hr, rfl⟩ := nI_of h0
  by_cases h4 : r < 4
  · have a4 : nI r < 4 := nI_lt (b := 4) h4 (by decide)
    have a3 : nI r ≤ 3 := nI_le (b := 3) (by omega) (by decide)
    have vin : vp_in (nI r) 4 := vp_in_nI h4 (by decide)
    by_cases g0 : v2 < 0
    · exact br_f h0 (br_t a4 (br_t g0 (br_t rfl (br_f h0 (br_t a3 (br_t g0 ⟨rfl, pz_rel hc hok⟩))))))
    obtain ⟨x, hx, rfl⟩ := nI_of g0
    by_cases h64 : x < 64
    · have g1 : ¬ 64 ≤ nI x := nI_ge (b := 64) h64 (by decide)
      have g2 : nI x ≤ 63 := nI_le (b := 63) (by omega) (by decide)
      exact br_f h0 (br_t a4 (br_f g0 (br_f g1 (br_f (by decide) ⟨vin, nm_e ⟨vin, nm_e (br_f h0 (br_t a3 (br_f g0 (br_t g2 ⟨vin, nm_e ⟨vin, nm_e ⟨rfl, pz_rel hc hok⟩⟩⟩))))⟩⟩))))
    · have g1 : 64 ≤ nI x := nI_le (a := 64) (by omega) hx
      have g2 : ¬ nI x ≤ 63 := nI_ge (a := 63) (by omega) hx
      exact br_f h0 (br_t a4 (br_f g0 (br_t g1 (br_t rfl (br_f h0 (br_t a3 (br_f g0 (br_f g2 ⟨rfl, pz_rel hc hok⟩))))))))
  · have a4 : ¬ nI r < 4 := nI_nlt (b := 4) (by omega) hr
    have a3 : ¬ nI r ≤ 3 := nI_ge (a := 3) (by omega) hr
    exact br_f h0 (br_f a4 (br_f h0 (br_f a3 ⟨rfl, pz_rel hc hok⟩)))
theorem i_vc_run {k : Nat} {u : SX} {v : SY} (I : i_Rel k u v) (hk : k + 5 ≤ 2560) (v1 : Int32) : wpX_run (fun r u' => wpY_run (fun r' v' => r' = r ∧ i_Rel (k + 5) u' v') v v1) u v1 := by
  obtain ⟨c, ft, m, b, o, d, s, w, rfl, rfl, hc, hok⟩ := I
  by_cases h0 : v1 < 0
  · exact br_t h0 (br_t rfl (br_t h0 ⟨rfl, pz_rel hc hok⟩))
  obtain ⟨t, ht, rfl⟩ := nI_of h0
  by_cases h40 : t ≤ 40
  · have g1 : ¬ 40 < nI t := nI_nlt (a := 40) h40 (by decide)
    have g2 : nI t ≤ 40 := nI_le (b := 40) h40 (by decide)
    refine br_f h0 (br_f g1 (br_f (by decide) (pz_Xrun h40 hc hok ?_)))
    exact br_f h0 (br_t g2 (pz_Yrun h40 hc hok ⟨rfl, pz_rel hc hok⟩))
  · have g1 : 40 < nI t := nI_lt (a := 40) (by omega) ht
    have g2 : ¬ nI t ≤ 40 := nI_ge (a := 40) (by omega) ht
    exact br_f h0 (br_t g1 (br_t rfl (br_f h0 (br_f g2 ⟨rfl, pz_rel hc hok⟩))))
theorem i_vc_poke {k : Nat} {u : SX} {v : SY} (I : i_Rel k u v) (hk : k + 5 ≤ 2560) (v1 : Int32) (v2 : Int32) : wpX_poke (fun r u' => wpY_poke (fun r' v' => r' = r ∧ i_Rel (k + 5) u' v') v v1 v2) u v1 v2 := by
  obtain ⟨c, ft, m, b, o, d, s, w, rfl, rfl, hc, hok⟩ := I
  by_cases h0 : v1 < 0
  · exact br_t h0 (br_t rfl (br_t h0 ⟨rfl, pz_rel hc hok⟩))
  obtain ⟨x, hx, rfl⟩ := nI_of h0
  by_cases h64 : x < 64
  · have g1 : ¬ 64 ≤ nI x := nI_ge (b := 64) h64 (by decide)
    have g2 : nI x ≤ 63 := nI_le (b := 63) (by omega) (by decide)
    have vin : vp_in (nI x) 64 := vp_in_nI h64 (by decide)
    exact br_f h0 (br_f g1 (br_f (by decide) ⟨vin, nm_e (br_f h0 (br_t g2 ⟨vin, nm_e ⟨rfl, pz_rel hc hok⟩⟩))⟩))
  · have g1 : 64 ≤ nI x := nI_le (a := 64) (by omega) hx
    have g2 : ¬ nI x ≤ 63 := nI_ge (a := 63) (by omega) hx
    exact br_f h0 (br_t g1 (br_t rfl (br_f h0 (br_f g2 ⟨rfl, pz_rel hc hok⟩))))
theorem i_vc_fill {k : Nat} {u : SX} {v : SY} (I : i_Rel k u v) (hk : k + 5 ≤ 2560) (v1 : Int32) (v2 : Int32) (v3 : Int32) (v4 : Int32) : wpX_fill (fun r u' => wpY_fill (fun r' v' => r' = r ∧ i_Rel (k + 5) u' v') v v1 v2 v3 v4) u v1 v2 v3 v4 := by
  obtain ⟨c, ft, m, b, o, d, s, w, rfl, rfl, hc, hok⟩ := I
  by_cases h0 : v1 < 0
  · exact br_t h0 (br_t h0 ⟨rfl, pz_rel hc hok⟩)
  by_cases h1 : v2 < v1
  · exact br_f h0 (br_t h1 (br_f h0 (br_t h1 ⟨rfl, pz_rel hc hok⟩)))
  by_cases h2 : v2 ≤ 63
  · obtain ⟨a, ha, rfl⟩ := nI_of h0
    have h3 : ¬ v2 < 0 := fun z => h1 (Int32.lt_of_lt_of_le z (nI_pos' ha))
    obtain ⟨e, he, rfl⟩ := nI_of h3
    have hae : a ≤ e := by
      have := mt (nI_ltI he ha).mpr h1
      omega
    have he63 : e ≤ 63 := (nI_leI (b := 63) he (by decide)).mp h2
    refine br_f h0 (br_f h1 (br_t h2 (pz_Xfill hae he63 ?_)))
    exact br_f h0 (br_f h1 (br_t h2 (pz_Yfill hae he63 ⟨rfl, pz_rel hc hok⟩)))
  · exact br_f h0 (br_f h1 (br_f h2 (br_f h0 (br_f h1 (br_f h2 ⟨rfl, pz_rel hc hok⟩)))))
theorem i_vc_peek {k : Nat} {u : SX} {v : SY} (I : i_Rel k u v) (hk : k + 5 ≤ 2560) (v1 : Int32) : wpX_peek (fun r => wpY_peek (fun r' => r' = r ∧ i_Rel (k + 5) u v) v v1) u v1 := by
  obtain ⟨c, ft, m, b, o, d, s, w, rfl, rfl, hc, hok⟩ := I
  by_cases h0 : v1 < 0
  · exact br_t h0 (br_t rfl (br_t h0 ⟨rfl, pz_rel hc hok⟩))
  obtain ⟨x, hx, rfl⟩ := nI_of h0
  by_cases h64 : x < 64
  · have g1 : ¬ 64 ≤ nI x := nI_ge (b := 64) h64 (by decide)
    have g2 : nI x ≤ 63 := nI_le (b := 63) (by omega) (by decide)
    have vin : vp_in (nI x) 64 := vp_in_nI h64 (by decide)
    exact br_f h0 (br_f g1 (br_f (by decide) ⟨vin, br_f h0 (br_t g2 ⟨vin, rfl, pz_rel hc hok⟩)⟩))
  · have g1 : 64 ≤ nI x := nI_le (a := 64) (by omega) hx
    have g2 : ¬ nI x ≤ 63 := nI_ge (a := 63) (by omega) hx
    exact br_f h0 (br_t g1 (br_t rfl (br_f h0 (br_f g2 ⟨rfl, pz_rel hc hok⟩))))
theorem i_vc_total {k : Nat} {u : SX} {v : SY} (I : i_Rel k u v) (hk : k + 5 ≤ 2560) : wpX_total (fun r => wpY_total (fun r' => r' = r ∧ i_Rel (k + 5) u v) v) u := by
  obtain ⟨c, ft, m, b, o, d, s, w, rfl, rfl, hc, hok⟩ := I
  exact And.intro rfl (pz_rel hc hok)
theorem i_vc_setTotal {k : Nat} {u : SX} {v : SY} (I : i_Rel k u v) (hk : k + 5 ≤ 2560) (v1 : Int32) : wpX_setTotal (fun r u' => wpY_setTotal (fun r' v' => r' = r ∧ i_Rel (k + 5) u' v') v v1) u v1 := by
  obtain ⟨c, ft, m, b, o, d, s, w, rfl, rfl, hc, hok⟩ := I
  exact And.intro rfl (pz_rel hc hok)
theorem i_vc_digest {k : Nat} {u : SX} {v : SY} (I : i_Rel k u v) (hk : k + 5 ≤ 2560) : wpX_digest (fun r => wpY_digest (fun r' => r' = r ∧ i_Rel (k + 5) u v) v) u := by
  obtain ⟨c, ft, m, b, o, d, s, w, rfl, rfl, hc, hok⟩ := I
  refine pz_Xdig ?_
  refine pz_Ydig ?_
  exact ⟨rfl, pz_rel hc hok⟩
theorem i_vc_cellOf {k : Nat} {u : SX} {v : SY} (I : i_Rel k u v) (hk : k + 5 ≤ 2560) (v1 : Int32) (v2 : Int32) : wpX_cellOf (fun r => wpY_cellOf (fun r' => r' = r ∧ i_Rel (k + 5) u v) v v1 v2) u v1 v2 := by
  obtain ⟨c, ft, m, b, o, d, s, w, rfl, rfl, hc, hok⟩ := I
  unfold wpX_cellOf wpY_cellOf
  dsimp only
  by_cases hr : pz_ref v1
  · refine pz_Xref_t hr (br_f (by decide) ?_)
    by_cases h0 : v2 < 0
    · exact br_t h0 (pz_Yref_t hr (br_t rfl (br_t h0 ⟨rfl, pz_rel hc hok⟩)))
    obtain ⟨t, ht, rfl⟩ := nI_of h0
    by_cases h40 : t < 40
    · have g1 : nI t < 40 := nI_lt (b := 40) h40 (by decide)
      have g2 : nI t ≤ 39 := nI_le (b := 39) (by omega) (by decide)
      exact br_f h0 (br_t g1 (pz_Xc hr (pz_Yref_t hr (br_t rfl (br_f h0 (br_t g2 (pz_Yc hr ⟨rfl, pz_rel hc hok⟩)))))))
    · have g1 : ¬ nI t < 40 := nI_nlt (b := 40) (by omega) ht
      have g2 : ¬ nI t ≤ 39 := nI_ge (a := 39) (by omega) ht
      exact br_f h0 (br_f g1 (pz_Yref_t hr (br_t rfl (br_f h0 (br_f g2 ⟨rfl, pz_rel hc hok⟩)))))
  · exact pz_Xref_f hr (br_t rfl (pz_Yref_f hr (br_f (by decide) ⟨rfl, pz_rel hc hok⟩)))
theorem i_vc_spread {k : Nat} {u : SX} {v : SY} (I : i_Rel k u v) (hk : k + 5 ≤ 2560) (v1 : Int32) (v2 : Int32) : wpX_spread (fun r => wpY_spread (fun r' => r' = r ∧ i_Rel (k + 5) u v) v v1 v2) u v1 v2 := by
  obtain ⟨c, ft, m, b, o, d, s, w, rfl, rfl, hc, hok⟩ := I
  unfold wpX_spread wpY_spread
  dsimp only
  by_cases hr : pz_ref v1
  · refine pz_Xref_t hr (br_f (by decide) ?_)
    by_cases h0 : v2 < 0
    · exact br_t h0 (br_t rfl (pz_Yref_t hr (br_t rfl (br_t h0 ⟨rfl, pz_rel hc hok⟩))))
    obtain ⟨t, ht, rfl⟩ := nI_of h0
    by_cases h40 : t ≤ 40
    · have g1 : ¬ 40 < nI t := nI_nlt (a := 40) h40 (by decide)
      have g2 : nI t ≤ 40 := nI_le (b := 40) h40 (by decide)
      have hr' := hr
      obtain ⟨n, hn, _, rfl⟩ := hr'
      refine br_f h0 (br_f g1 (br_f (by decide) (pz_Xset hn h40 (pz_Xspr ?_))))
      exact pz_Yref_t hr (br_t rfl (br_f h0 (br_t g2 (pz_Yspr hn h40 ⟨rfl, pz_rel hc hok⟩))))
    · have g1 : 40 < nI t := nI_lt (a := 40) (by omega) ht
      have g2 : ¬ nI t ≤ 40 := nI_ge (a := 40) (by omega) ht
      exact br_f h0 (br_t g1 (br_t rfl (pz_Yref_t hr (br_t rfl (br_f h0 (br_f g2 ⟨rfl, pz_rel hc hok⟩))))))
  · exact pz_Xref_f hr (br_t rfl (pz_Yref_f hr (br_f (by decide) ⟨rfl, pz_rel hc hok⟩)))
theorem i_vc_meet {k : Nat} {u : SX} {v : SY} (I : i_Rel k u v) (hk : k + 5 ≤ 2560) (v1 : Int32) (v2 : Int32) (v3 : Int32) : wpX_meet (fun r => wpY_meet (fun r' => r' = r ∧ i_Rel (k + 5) u v) v v1 v2 v3) u v1 v2 v3 := by
  obtain ⟨c, ft, m, b, o, d, s, w, rfl, rfl, hc, hok⟩ := I
  unfold wpX_meet wpY_meet
  dsimp only
  by_cases hp : pz_ref v1
  · refine pz_Xref_t hp (br_f (by decide) ?_)
    by_cases hr : pz_ref v2
    · refine pz_Xref_t hr (br_f (by decide) ?_)
      by_cases h0 : v3 < 0
      · exact br_t h0 (br_t rfl (pz_Yref_t hp (br_t rfl (pz_Yref_t hr (br_t rfl (br_t h0 ⟨rfl, pz_rel hc hok⟩))))))
      obtain ⟨t, ht, rfl⟩ := nI_of h0
      by_cases h40 : t ≤ 40
      · have g1 : ¬ 40 < nI t := nI_nlt (a := 40) h40 (by decide)
        have g2 : nI t ≤ 40 := nI_le (b := 40) h40 (by decide)
        have hp' := hp
        have hr' := hr
        obtain ⟨n, hn, _, rfl⟩ := hp'
        obtain ⟨q, hq, _, rfl⟩ := hr'
        refine br_f h0 (br_f g1 (br_f (by decide) (pz_Xset hn h40 (pz_Xset hq h40 (nm_e ?_)))))
        by_cases hz : pz_set (pz_f b n) t &&& pz_set (pz_f b q) t = 0
        · have hall := (pz_meet _ _).mp hz
          refine br_t hz (pz_Yref_t hp (br_t rfl (pz_Yref_t hr (br_t rfl (br_f h0 (br_t g2 (pz_Ymeet hn hq h40 ?_ ?_)))))))
          · intro x hx hb
            have := hall x hx
            rw [pz_setb (pz_f_lt b n) hx, pz_setb (pz_f_lt b q) hx, hb] at this
            exact absurd this (by decide)
          · intro _
            exact ⟨rfl, pz_rel hc hok⟩
        · refine br_f hz (pz_Yref_t hp (br_t rfl (pz_Yref_t hr (br_t rfl (br_f h0 (br_t g2 (pz_Ymeet hn hq h40 ?_ ?_)))))))
          · intro _ _ _
            exact ⟨rfl, pz_rel hc hok⟩
          · intro hall
            refine absurd ((pz_meet _ _).mpr ?_) hz
            intro x hx
            rw [pz_setb (pz_f_lt b n) hx, pz_setb (pz_f_lt b q) hx]
            exact hall x hx
      · have g1 : 40 < nI t := nI_lt (a := 40) (by omega) ht
        have g2 : ¬ nI t ≤ 40 := nI_ge (a := 40) (by omega) ht
        exact br_f h0 (br_t g1 (br_t rfl (pz_Yref_t hp (br_t rfl (pz_Yref_t hr (br_t rfl (br_f h0 (br_f g2 ⟨rfl, pz_rel hc hok⟩))))))))
    · exact pz_Xref_f hr (br_t rfl (pz_Yref_t hp (br_t rfl (pz_Yref_f hr (br_f (by decide) ⟨rfl, pz_rel hc hok⟩)))))
  · exact pz_Xref_f hp (br_t rfl (pz_Yref_f hp (br_f (by decide) ⟨rfl, pz_rel hc hok⟩)))
end
