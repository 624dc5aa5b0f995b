section BGA
/-! ===== Int32 by its bits: bt x i ===== -/
def bt (x : Int32) (i : Nat) : Bool := x.toBitVec.getLsbD i
theorem b_ext {x y : Int32} (h : ∀ i, i < 32 → bt x i = bt y i) : x = y := Int32.toBitVec_inj.mp (BitVec.eq_of_getLsbD_eq (fun i hi => h i hi))
theorem b_or (x y : Int32) (i : Nat) : bt (x ||| y) i = (bt x i || bt y i) := by unfold bt; rw [Int32.toBitVec_or, BitVec.getLsbD_or]
theorem b_and (x y : Int32) (i : Nat) : bt (x &&& y) i = (bt x i && bt y i) := by unfold bt; rw [Int32.toBitVec_and, BitVec.getLsbD_and]
theorem b_xor (x y : Int32) (i : Nat) : bt (x ^^^ y) i = (bt x i ^^ bt y i) := by unfold bt; rw [Int32.toBitVec_xor, BitVec.getLsbD_xor]
theorem b_big {x : Int32} {i : Nat} (h : 32 ≤ i) : bt x i = false := BitVec.getLsbD_of_ge _ _ h
theorem b_255 (i : Nat) : bt 255 i = decide (i < 8) := by
  rcases Nat.lt_or_ge i 32 with h | h
  · exact (by decide +kernel : ∀ i, i < 32 → bt 255 i = decide (i < 8)) i h
  · rw [b_big h, decide_eq_false (by omega)]
theorem b_65535 (i : Nat) : bt 65535 i = decide (i < 16) := by
  rcases Nat.lt_or_ge i 32 with h | h
  · exact (by decide +kernel : ∀ i, i < 32 → bt 65535 i = decide (i < 16)) i h
  · rw [b_big h, decide_eq_false (by omega)]
theorem b_m1 : ∀ i, i < 32 → bt (-1) i = true := by decide +kernel
theorem b_0 (i : Nat) : bt 0 i = false := BitVec.getLsbD_zero
theorem s_l : ∀ n, n < 32 → ((nI n &&& 31).toBitVec.smod 32).toNat = n := by decide +kernel
theorem s_u : ∀ n, n < 32 → (((nI n).toUInt32 &&& Int32.toUInt32 31).toBitVec % 32).toNat = n := by decide +kernel
theorem b_shl (n : Nat) (hn : n < 32) (x : Int32) {i : Nat} (hi : i < 32) : bt (x <<< (nI n &&& 31)) i = (decide (n ≤ i) && bt x (i - n)) := by
  unfold bt
  rw [Int32.toBitVec_shiftLeft]
  show (x.toBitVec <<< ((nI n &&& 31).toBitVec.smod 32).toNat).getLsbD i = _
  rw [s_l n hn, BitVec.getLsbD_shiftLeft]
  rcases Nat.lt_or_ge i n with h | h
  · simp [h, Nat.not_le.mpr h]
  · simp [hi, h, Nat.not_lt.mpr h]
theorem b_ushr (n : Nat) (hn : n < 32) (x : Int32) (i : Nat) : bt ((x.toUInt32 >>> ((nI n).toUInt32 &&& Int32.toUInt32 31)).toInt32) i = bt x (n + i) := by
  show (x.toUInt32 >>> ((nI n).toUInt32 &&& Int32.toUInt32 31)).toBitVec.getLsbD i = x.toUInt32.toBitVec.getLsbD (n + i)
  rw [UInt32.toBitVec_shiftRight]
  show (x.toUInt32.toBitVec >>> (((nI n).toUInt32 &&& Int32.toUInt32 31).toBitVec % 32).toNat).getLsbD i = _
  rw [s_u n hn, BitVec.getLsbD_ushiftRight]
theorem b_sshr (n : Nat) (hn : n < 32) (x : Int32) {i : Nat} (hi : i < 32) : bt (x >>> (nI n &&& 31)) i = if n + i < 32 then bt x (n + i) else bt x 31 := by
  unfold bt
  rw [Int32.toBitVec_shiftRight]
  show (x.toBitVec.sshiftRight ((nI n &&& 31).toBitVec.smod 32).toNat).getLsbD i = _
  rw [s_l n hn, BitVec.getLsbD_sshiftRight, BitVec.msb_eq_getLsbD_last]
  simp [hi]
theorem nx_and (a b : Nat) : nI a &&& nI b = nI (a &&& b) := by
  apply Int32.toBitVec_inj.1
  show BitVec.ofNat 32 a &&& BitVec.ofNat 32 b = BitVec.ofNat 32 (a &&& b)
  apply BitVec.eq_of_getLsbD_eq
  intro i hi
  simp [hi]
theorem pk_us {f : Nat → Int32} {k : Nat} {x : Int32} : upd f k x k = x := if_pos rfl
theorem pk_un {f : Nat → Int32} {k j : Nat} {x : Int32} (h : j ≠ k) : upd f k x j = f j := if_neg h
theorem pk_uLs {f : Nat → Int64} {k : Nat} {x : Int64} : vp_updL f k x k = x := if_pos rfl
theorem pk_uLn {f : Nat → Int64} {k j : Nat} {x : Int64} (h : j ≠ k) : vp_updL f k x j = f j := if_neg h
theorem ts_nf {x : Bool} (h : ¬ x = false) : x = true := by cases x <;> first | rfl | exact absurd rfl h
theorem ts_nt {x : Bool} (h : ¬ x = true) : x = false := by cases x <;> first | rfl | exact absurd rfl h
/-! a truth value as an int -/
def bg_i (b : Bool) : Int32 := if b then 1 else 0
theorem bg_1 (i : Nat) : bt 1 i = decide (i = 0) := by
  rcases Nat.lt_or_ge i 32 with h | h
  · exact (by decide +kernel : ∀ i, i < 32 → bt 1 i = decide (i = 0)) i h
  · rw [b_big h, decide_eq_false (by omega)]
theorem bg_bi (b : Bool) (i : Nat) : bt (bg_i b) i = (b && decide (i = 0)) := by
  cases b
  · show bt 0 i = _
    rw [b_0]; rfl
  · show bt 1 i = _
    rw [bg_1]; rfl
theorem bg_i1 (b : Bool) : bg_i b = 1 ↔ b = true := by cases b <;> decide
theorem bg_i0 (b : Bool) : bg_i b = 0 ↔ b = false := by cases b <;> decide
theorem bg_ix (b : Bool) : bg_i b ^^^ 1 = bg_i (!b) := by cases b <;> decide
theorem bg_ixx (a b : Bool) : bg_i a ^^^ bg_i b = bg_i (a ^^ b) := by cases a <;> cases b <;> decide
theorem bg_and1 (x : Int32) : x &&& 1 = bg_i (bt x 0) := by
  apply b_ext
  intro i hi
  rw [b_and, bg_1, bg_bi]
  by_cases h : i = 0
  · subst h; rfl
  · rw [decide_eq_false h, Bool.and_false, Bool.and_false]
/-- hasBit of the component -/
theorem bg_hb (x : Int32) {n : Nat} (hn : n < 32) : ((x.toUInt32 >>> ((nI n).toUInt32 &&& Int32.toUInt32 31)).toInt32 &&& 1) = bg_i (bt x n) := by
  rw [bg_and1, b_ushr n hn]; rfl
/-- .. and of the reference -/
theorem bg_sb (x : Int32) {n : Nat} (hn : n < 32) : ((x >>> (nI n &&& 31)) &&& 1) = bg_i (bt x n) := by
  rw [bg_and1, b_sshr n hn x (by omega), if_pos (by omega)]; rfl
/-- 1 << n -/
def bg_b (n : Nat) : Int32 := (1 : Int32) <<< (nI n &&& 31)
theorem bg_bb {n j : Nat} (hn : n < 32) (hj : j < 32) : bt (bg_b n) j = decide (j = n) := by
  unfold bg_b
  rw [b_shl n hn 1 hj, bg_1]
  by_cases h : j = n
  · subst h; simp
  · by_cases h2 : n ≤ j
    · rw [decide_eq_false (p := j - n = 0) (by omega), decide_eq_false h, Bool.and_false]
    · rw [decide_eq_false h2, decide_eq_false h, Bool.false_and]
theorem bg_bs (b : Bool) {n j : Nat} (hn : n < 32) (hj : j < 32) : bt (bg_i b <<< (nI n &&& 31)) j = (b && decide (j = n)) := by
  rw [b_shl n hn _ hj, bg_bi]
  by_cases h : j = n
  · subst h; simp
  · by_cases h2 : n ≤ j
    · rw [decide_eq_false (p := j - n = 0) (by omega), decide_eq_false h, Bool.and_false, Bool.and_false]
    · rw [decide_eq_false h2, decide_eq_false h, Bool.false_and, Bool.and_false]
/-- a word filled bit by bit -/
def bg_fl (V : Int32) (f : Nat → Bool) (n : Nat) : Prop := ∀ j, j < 32 → bt V j = (decide (j < n) && f j)
theorem bg_fl0 (f : Nat → Bool) : bg_fl 0 f 0 := by
  intro j _
  rw [b_0, decide_eq_false (Nat.not_lt_zero j), Bool.false_and]
theorem bg_flS {V : Int32} {f : Nat → Bool} {n : Nat} (hn : n < 32) (h : bg_fl V f n) : bg_fl (V ||| (bg_i (f n) <<< (nI n &&& 31))) f (n + 1) := by
  intro j hj
  rw [b_or, h j hj, bg_bs _ hn hj]
  by_cases e : j = n
  · subst e; simp
  · rw [decide_eq_false e, Bool.and_false, Bool.or_false]
    by_cases e2 : j < n
    · rw [decide_eq_true e2, decide_eq_true (show j < n + 1 by omega)]
    · rw [decide_eq_false e2, decide_eq_false (show ¬ j < n + 1 by omega)]
theorem bg_flT {V : Int32} {f : Nat → Bool} {n : Nat} (hn : n < 32) (hf : f n = true) (h : bg_fl V f n) : bg_fl (V ||| bg_b n) f (n + 1) := by
  have := bg_flS hn h
  rw [hf] at this
  exact this
theorem bg_flF {V : Int32} {f : Nat → Bool} {n : Nat} (hf : f n = false) (h : bg_fl V f n) : bg_fl V f (n + 1) := by
  intro j hj
  rw [h j hj]
  by_cases e : j = n
  · subst e; rw [hf, Bool.and_false, Bool.and_false]
  · by_cases e2 : j < n
    · rw [decide_eq_true e2, decide_eq_true (show j < n + 1 by omega)]
    · rw [decide_eq_false e2, decide_eq_false (show ¬ j < n + 1 by omega)]
theorem bg_flE {V W : Int32} {f : Nat → Bool} (h : bg_fl V f 32) (hW : ∀ j, j < 32 → bt W j = f j) : V = W := by
  apply b_ext
  intro j hj
  rw [h j hj, hW j hj, decide_eq_true hj, Bool.true_and]
/-! a sum modulo 2 -/
def bg_xs (f : Nat → Bool) : Nat → Bool
  | 0 => false
  | n + 1 => bg_xs f n ^^ f n
theorem bg_xsS (f : Nat → Bool) (n : Nat) : bg_xs f (n + 1) = (bg_xs f n ^^ f n) := rfl
theorem bg_xs_c {f g : Nat → Bool} : ∀ n, (∀ m, m < n → f m = g m) → bg_xs f n = bg_xs g n := by
  intro n
  induction n with
  | zero => intro _; rfl
  | succ n ih => intro h; rw [bg_xsS, bg_xsS, ih (fun m hm => h m (by omega)), h n (by omega)]
theorem bg_xs_x (f g : Nat → Bool) : ∀ n, bg_xs (fun m => f m ^^ g m) n = (bg_xs f n ^^ bg_xs g n) := by
  intro n
  induction n with
  | zero => rfl
  | succ n ih =>
    rw [bg_xsS, bg_xsS, bg_xsS, ih]
    cases bg_xs f n <;> cases bg_xs g n <;> cases f n <;> cases g n <;> rfl
theorem bg_xs_a (b : Bool) (f : Nat → Bool) : ∀ n, bg_xs (fun m => b && f m) n = (b && bg_xs f n) := by
  intro n
  induction n with
  | zero => cases b <;> rfl
  | succ n ih =>
    rw [bg_xsS, bg_xsS, ih]
    cases b <;> cases bg_xs f n <;> cases f n <;> rfl
theorem bg_xs_1 (f : Nat → Bool) (x : Nat) : ∀ n, bg_xs (fun m => f m && decide (m = x)) n = (decide (x < n) && f x) := by
  intro n
  induction n with
  | zero => rw [decide_eq_false (Nat.not_lt_zero x)]; rfl
  | succ n ih =>
    rw [bg_xsS, ih]
    by_cases e : n = x
    · subst e
      rw [decide_eq_true (show n = n from rfl), decide_eq_false (Nat.lt_irrefl n), decide_eq_true (Nat.lt_succ_self n)]
      cases f n <;> rfl
    · rw [decide_eq_false e, Bool.and_false, Bool.xor_false]
      by_cases e2 : x < n
      · rw [decide_eq_true e2, decide_eq_true (show x < n + 1 by omega)]
      · rw [decide_eq_false e2, decide_eq_false (show ¬ x < n + 1 by omega)]
/-! the exchange of monomials and points -/
def bg_st (k mask r : Int32) : Int32 := r ^^^ ((r &&& mask) <<< (k &&& 31))
def bg_x (p : Int32) : Int32 := bg_st 16 65535 (bg_st 8 16711935 (bg_st 4 252645135 (bg_st 2 858993459 (bg_st 1 1431655765 p))))
def bg_cd (j m x : Nat) : Bool := decide (m &&& x = m) && decide (m >>> j = x >>> j)
def bg_G (p : Int32) (j x : Nat) : Bool := bg_xs (fun m => bt p m && bg_cd j m x) 32
/-- the value of p at the point x -/
def bg_ev (p : Int32) (x : Nat) : Bool := bg_xs (fun m => bt p m && decide (m &&& x = m)) 32
theorem bg_cd0 : ∀ m, m < 32 → ∀ x, x < 32 → bg_cd 0 m x = decide (m = x) := by decide +kernel
theorem bg_cd5 : ∀ m, m < 32 → ∀ x, x < 32 → bg_cd 5 m x = decide (m &&& x = m) := by decide +kernel
theorem bg_cdS : ∀ j, j < 5 → ∀ m, m < 32 → ∀ x, x < 32 → bg_cd (j + 1) m x = (bg_cd j m x ^^ (x.testBit j && bg_cd j m (x - 2 ^ j))) := by decide +kernel
theorem bg_G0 (p : Int32) {x : Nat} (hx : x < 32) : bg_G p 0 x = bt p x := by
  unfold bg_G
  rw [bg_xs_c (g := fun m => bt p m && decide (m = x)) 32 (fun m hm => by show (bt p m && bg_cd 0 m x) = (bt p m && decide (m = x)); rw [bg_cd0 m hm x hx]), bg_xs_1, decide_eq_true hx, Bool.true_and]
theorem bg_G5 (p : Int32) {x : Nat} (hx : x < 32) : bg_G p 5 x = bg_ev p x := by
  unfold bg_G bg_ev
  exact bg_xs_c 32 (fun m hm => by show (bt p m && bg_cd 5 m x) = (bt p m && decide (m &&& x = m)); rw [bg_cd5 m hm x hx])
theorem bg_GS (p : Int32) {j x : Nat} (hj : j < 5) (hx : x < 32) : bg_G p (j + 1) x = (bg_G p j x ^^ (x.testBit j && bg_G p j (x - 2 ^ j))) := by
  unfold bg_G
  rw [← bg_xs_a, ← bg_xs_x]
  refine bg_xs_c 32 (fun m hm => ?_)
  show (bt p m && bg_cd (j + 1) m x) = ((bt p m && bg_cd j m x) ^^ (x.testBit j && (bt p m && bg_cd j m (x - 2 ^ j))))
  rw [bg_cdS j hj m hm x hx]
  cases bt p m <;> cases bg_cd j m x <;> cases x.testBit j <;> cases bg_cd j m (x - 2 ^ j) <;> rfl
theorem bg_stb {s : Nat} (hs : s < 32) {mask : Int32} (r : Int32) {t : Nat → Bool} (ht : ∀ x, x < 32 → (decide (s ≤ x) && bt mask (x - s)) = t x) {x : Nat} (hx : x < 32) : bt (bg_st (nI s) mask r) x = (bt r x ^^ (t x && bt r (x - s))) := by
  unfold bg_st
  rw [b_xor, b_shl s hs _ hx, b_and, ← ht x hx]
  cases bt r x <;> cases decide (s ≤ x) <;> cases bt r (x - s) <;> cases bt mask (x - s) <;> rfl
theorem bg_stG {j : Nat} (hj : j < 5) (hs : 2 ^ j < 32) {mask p r : Int32} (ht : ∀ x, x < 32 → (decide (2 ^ j ≤ x) && bt mask (x - 2 ^ j)) = x.testBit j) (h : ∀ x, x < 32 → bt r x = bg_G p j x) : ∀ x, x < 32 → bt (bg_st (nI (2 ^ j)) mask r) x = bg_G p (j + 1) x := by
  intro x hx
  rw [bg_stb hs r ht hx, bg_GS p hj hx, h x hx, h (x - 2 ^ j) (Nat.lt_of_le_of_lt (Nat.sub_le x (2 ^ j)) hx)]
theorem bg_xb (p : Int32) : ∀ x, x < 32 → bt (bg_x p) x = bg_ev p x := by
  intro x hx
  have h0 : ∀ x, x < 32 → bt p x = bg_G p 0 x := fun x hx => (bg_G0 p hx).symm
  have h1 := bg_stG (j := 0) (by decide) (by decide) (mask := 1431655765) (by decide +kernel) h0
  have h2 := bg_stG (j := 1) (by decide) (by decide) (mask := 858993459) (by decide +kernel) h1
  have h3 := bg_stG (j := 2) (by decide) (by decide) (mask := 252645135) (by decide +kernel) h2
  have h4 := bg_stG (j := 3) (by decide) (by decide) (mask := 16711935) (by decide +kernel) h3
  have h5 := bg_stG (j := 4) (by decide) (by decide) (mask := 65535) (by decide +kernel) h4
  rw [← bg_G5 p hx]
  exact h5 x hx
end BGA
