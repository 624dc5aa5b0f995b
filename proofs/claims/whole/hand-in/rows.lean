section
section BGA
/-! ===== Int32 by its bits: bt x i ===== -/
def bt (x : Int32) (i : Nat) : Bool := x.toBitVec.getLsbD i
theorem b_ext {x y : Int32} (h : ∀ i, i < 32 → bt x i = bt y i) : x = y := Int32.toBitVec_inj.mp (BitVec.eq_of_getLsbD_eq (fun i hi => h i hi))
theorem b_or (x y : Int32) (i : Nat) : bt (x ||| y) i = (bt x i || bt y i) := by unfold bt; rw [Int32.toBitVec_or, BitVec.getLsbD_or]
theorem b_and (x y : Int32) (i : Nat) : bt (x &&& y) i = (bt x i && bt y i) := by unfold bt; rw [Int32.toBitVec_and, BitVec.getLsbD_and]
theorem b_xor (x y : Int32) (i : Nat) : bt (x ^^^ y) i = (bt x i ^^ bt y i) := by unfold bt; rw [Int32.toBitVec_xor, BitVec.getLsbD_xor]
theorem b_big {x : Int32} {i : Nat} (h : 32 ≤ i) : bt x i = false := BitVec.getLsbD_of_ge _ _ h
theorem b_255 (i : Nat) : bt 255 i = decide (i < 8) := by
  rcases Nat.lt_or_ge i 32 with h | h
  · exact (by decide +kernel : ∀ i, i < 32 → bt 255 i = decide (i < 8)) i h
  · rw [b_big h, decide_eq_false (by omega)]
theorem b_65535 (i : Nat) : bt 65535 i = decide (i < 16) := by
  rcases Nat.lt_or_ge i 32 with h | h
  · exact (by decide +kernel : ∀ i, i < 32 → bt 65535 i = decide (i < 16)) i h
  · rw [b_big h, decide_eq_false (by omega)]
theorem b_m1 : ∀ i, i < 32 → bt (-1) i = true := by decide +kernel
theorem b_0 (i : Nat) : bt 0 i = false := BitVec.getLsbD_zero
theorem s_l : ∀ n, n < 32 → ((nI n &&& 31).toBitVec.smod 32).toNat = n := by decide +kernel
theorem s_u : ∀ n, n < 32 → (((nI n).toUInt32 &&& Int32.toUInt32 31).toBitVec % 32).toNat = n := by decide +kernel
theorem b_shl (n : Nat) (hn : n < 32) (x : Int32) {i : Nat} (hi : i < 32) : bt (x <<< (nI n &&& 31)) i = (decide (n ≤ i) && bt x (i - n)) := by
  unfold bt
  rw [Int32.toBitVec_shiftLeft]
  show (x.toBitVec <<< ((nI n &&& 31).toBitVec.smod 32).toNat).getLsbD i = _
  rw [s_l n hn, BitVec.getLsbD_shiftLeft]
  rcases Nat.lt_or_ge i n with h | h
  · simp [h, Nat.not_le.mpr h]
  · simp [hi, h, Nat.not_lt.mpr h]
theorem b_ushr (n : Nat) (hn : n < 32) (x : Int32) (i : Nat) : bt ((x.toUInt32 >>> ((nI n).toUInt32 &&& Int32.toUInt32 31)).toInt32) i = bt x (n + i) := by
  show (x.toUInt32 >>> ((nI n).toUInt32 &&& Int32.toUInt32 31)).toBitVec.getLsbD i = x.toUInt32.toBitVec.getLsbD (n + i)
  rw [UInt32.toBitVec_shiftRight]
  show (x.toUInt32.toBitVec >>> (((nI n).toUInt32 &&& Int32.toUInt32 31).toBitVec % 32).toNat).getLsbD i = _
  rw [s_u n hn, BitVec.getLsbD_ushiftRight]
theorem b_sshr (n : Nat) (hn : n < 32) (x : Int32) {i : Nat} (hi : i < 32) : bt (x >>> (nI n &&& 31)) i = if n + i < 32 then bt x (n + i) else bt x 31 := by
  unfold bt
  rw [Int32.toBitVec_shiftRight]
  show (x.toBitVec.sshiftRight ((nI n &&& 31).toBitVec.smod 32).toNat).getLsbD i = _
  rw [s_l n hn, BitVec.getLsbD_sshiftRight, BitVec.msb_eq_getLsbD_last]
  simp [hi]
theorem nx_and (a b : Nat) : nI a &&& nI b = nI (a &&& b) := by
  apply Int32.toBitVec_inj.1
  show BitVec.ofNat 32 a &&& BitVec.ofNat 32 b = BitVec.ofNat 32 (a &&& b)
  apply BitVec.eq_of_getLsbD_eq
  intro i hi
  simp [hi]
theorem pk_us {f : Nat → Int32} {k : Nat} {x : Int32} : upd f k x k = x := if_pos rfl
theorem pk_un {f : Nat → Int32} {k j : Nat} {x : Int32} (h : j ≠ k) : upd f k x j = f j := if_neg h
theorem pk_uLs {f : Nat → Int64} {k : Nat} {x : Int64} : vp_updL f k x k = x := if_pos rfl
theorem pk_uLn {f : Nat → Int64} {k j : Nat} {x : Int64} (h : j ≠ k) : vp_updL f k x j = f j := if_neg h
theorem ts_nf {x : Bool} (h : ¬ x = false) : x = true := by cases x <;> first | rfl | exact absurd rfl h
theorem ts_nt {x : Bool} (h : ¬ x = true) : x = false := by cases x <;> first | rfl | exact absurd rfl h
/-! a truth value as an int -/
def bg_i (b : Bool) : Int32 := if b then 1 else 0
theorem bg_1 (i : Nat) : bt 1 i = decide (i = 0) := by
  rcases Nat.lt_or_ge i 32 with h | h
  · exact (by decide +kernel : ∀ i, i < 32 → bt 1 i = decide (i = 0)) i h
  · rw [b_big h, decide_eq_false (by omega)]
theorem bg_bi (b : Bool) (i : Nat) : bt (bg_i b) i = (b && decide (i = 0)) := by
  cases b
  · show bt 0 i = _
    rw [b_0]; rfl
  · show bt 1 i = _
    rw [bg_1]; rfl
theorem bg_i1 (b : Bool) : bg_i b = 1 ↔ b = true := by cases b <;> decide
theorem bg_i0 (b : Bool) : bg_i b = 0 ↔ b = false := by cases b <;> decide
theorem bg_ix (b : Bool) : bg_i b ^^^ 1 = bg_i (!b) := by cases b <;> decide
theorem bg_ixx (a b : Bool) : bg_i a ^^^ bg_i b = bg_i (a ^^ b) := by cases a <;> cases b <;> decide
theorem bg_and1 (x : Int32) : x &&& 1 = bg_i (bt x 0) := by
  apply b_ext
  intro i hi
  rw [b_and, bg_1, bg_bi]
  by_cases h : i = 0
  · subst h; rfl
  · rw [decide_eq_false h, Bool.and_false, Bool.and_false]
/-- hasBit of the component -/
theorem bg_hb (x : Int32) {n : Nat} (hn : n < 32) : ((x.toUInt32 >>> ((nI n).toUInt32 &&& Int32.toUInt32 31)).toInt32 &&& 1) = bg_i (bt x n) := by
  rw [bg_and1, b_ushr n hn]; rfl
/-- .. and of the reference -/
theorem bg_sb (x : Int32) {n : Nat} (hn : n < 32) : ((x >>> (nI n &&& 31)) &&& 1) = bg_i (bt x n) := by
  rw [bg_and1, b_sshr n hn x (by omega), if_pos (by omega)]; rfl
/-- 1 << n -/
def bg_b (n : Nat) : Int32 := (1 : Int32) <<< (nI n &&& 31)
theorem bg_bb {n j : Nat} (hn : n < 32) (hj : j < 32) : bt (bg_b n) j = decide (j = n) := by
  unfold bg_b
  rw [b_shl n hn 1 hj, bg_1]
  by_cases h : j = n
  · subst h; simp
  · by_cases h2 : n ≤ j
    · rw [decide_eq_false (p := j - n = 0) (by omega), decide_eq_false h, Bool.and_false]
    · rw [decide_eq_false h2, decide_eq_false h, Bool.false_and]
theorem bg_bs (b : Bool) {n j : Nat} (hn : n < 32) (hj : j < 32) : bt (bg_i b <<< (nI n &&& 31)) j = (b && decide (j = n)) := by
  rw [b_shl n hn _ hj, bg_bi]
  by_cases h : j = n
  · subst h; simp
  · by_cases h2 : n ≤ j
    · rw [decide_eq_false (p := j - n = 0) (by omega), decide_eq_false h, Bool.and_false, Bool.and_false]
    · rw [decide_eq_false h2, decide_eq_false h, Bool.false_and, Bool.and_false]
/-- a word filled bit by bit -/
def bg_fl (V : Int32) (f : Nat → Bool) (n : Nat) : Prop := ∀ j, j < 32 → bt V j = (decide (j < n) && f j)
theorem bg_fl0 (f : Nat → Bool) : bg_fl 0 f 0 := by
  intro j _
  rw [b_0, decide_eq_false (Nat.not_lt_zero j), Bool.false_and]
theorem bg_flS {V : Int32} {f : Nat → Bool} {n : Nat} (hn : n < 32) (h : bg_fl V f n) : bg_fl (V ||| (bg_i (f n) <<< (nI n &&& 31))) f (n + 1) := by
  intro j hj
  rw [b_or, h j hj, bg_bs _ hn hj]
  by_cases e : j = n
  · subst e; simp
  · rw [decide_eq_false e, Bool.and_false, Bool.or_false]
    by_cases e2 : j < n
    · rw [decide_eq_true e2, decide_eq_true (show j < n + 1 by omega)]
    · rw [decide_eq_false e2, decide_eq_false (show ¬ j < n + 1 by omega)]
theorem bg_flT {V : Int32} {f : Nat → Bool} {n : Nat} (hn : n < 32) (hf : f n = true) (h : bg_fl V f n) : bg_fl (V ||| bg_b n) f (n + 1) := by
  have := bg_flS hn h
  rw [hf] at this
  exact this
theorem bg_flF {V : Int32} {f : Nat → Bool} {n : Nat} (hf : f n = false) (h : bg_fl V f n) : bg_fl V f (n + 1) := by
  intro j hj
  rw [h j hj]
  by_cases e : j = n
  · subst e; rw [hf, Bool.and_false, Bool.and_false]
  · by_cases e2 : j < n
    · rw [decide_eq_true e2, decide_eq_true (show j < n + 1 by omega)]
    · rw [decide_eq_false e2, decide_eq_false (show ¬ j < n + 1 by omega)]
theorem bg_flE {V W : Int32} {f : Nat → Bool} (h : bg_fl V f 32) (hW : ∀ j, j < 32 → bt W j = f j) : V = W := by
  apply b_ext
  intro j hj
  rw [h j hj, hW j hj, decide_eq_true hj, Bool.true_and]
/-! a sum modulo 2 -/
def bg_xs (f : Nat → Bool) : Nat → Bool
  | 0 => false
  | n + 1 => bg_xs f n ^^ f n
theorem bg_xsS (f : Nat → Bool) (n : Nat) : bg_xs f (n + 1) = (bg_xs f n ^^ f n) := rfl
theorem bg_xs_c {f g : Nat → Bool} : ∀ n, (∀ m, m < n → f m = g m) → bg_xs f n = bg_xs g n := by
  intro n
  induction n with
  | zero => intro _; rfl
  | succ n ih => intro h; rw [bg_xsS, bg_xsS, ih (fun m hm => h m (by omega)), h n (by omega)]
theorem bg_xs_x (f g : Nat → Bool) : ∀ n, bg_xs (fun m => f m ^^ g m) n = (bg_xs f n ^^ bg_xs g n) := by
  intro n
  induction n with
  | zero => rfl
  | succ n ih =>
    rw [bg_xsS, bg_xsS, bg_xsS, ih]
    cases bg_xs f n <;> cases bg_xs g n <;> cases f n <;> cases g n <;> rfl
theorem bg_xs_a (b : Bool) (f : Nat → Bool) : ∀ n, bg_xs (fun m => b && f m) n = (b && bg_xs f n) := by
  intro n
  induction n with
  | zero => cases b <;> rfl
  | succ n ih =>
    rw [bg_xsS, bg_xsS, ih]
    cases b <;> cases bg_xs f n <;> cases f n <;> rfl
theorem bg_xs_1 (f : Nat → Bool) (x : Nat) : ∀ n, bg_xs (fun m => f m && decide (m = x)) n = (decide (x < n) && f x) := by
  intro n
  induction n with
  | zero => rw [decide_eq_false (Nat.not_lt_zero x)]; rfl
  | succ n ih =>
    rw [bg_xsS, ih]
    by_cases e : n = x
    · subst e
      rw [decide_eq_true (show n = n from rfl), decide_eq_false (Nat.lt_irrefl n), decide_eq_true (Nat.lt_succ_self n)]
      cases f n <;> rfl
    · rw [decide_eq_false e, Bool.and_false, Bool.xor_false]
      by_cases e2 : x < n
      · rw [decide_eq_true e2, decide_eq_true (show x < n + 1 by omega)]
      · rw [decide_eq_false e2, decide_eq_false (show ¬ x < n + 1 by omega)]
/-! the exchange of monomials and points -/
def bg_st (k mask r : Int32) : Int32 := r ^^^ ((r &&& mask) <<< (k &&& 31))
def bg_x (p : Int32) : Int32 := bg_st 16 65535 (bg_st 8 16711935 (bg_st 4 252645135 (bg_st 2 858993459 (bg_st 1 1431655765 p))))
def bg_cd (j m x : Nat) : Bool := decide (m &&& x = m) && decide (m >>> j = x >>> j)
def bg_G (p : Int32) (j x : Nat) : Bool := bg_xs (fun m => bt p m && bg_cd j m x) 32
/-- the value of p at the point x -/
def bg_ev (p : Int32) (x : Nat) : Bool := bg_xs (fun m => bt p m && decide (m &&& x = m)) 32
theorem bg_cd0 : ∀ m, m < 32 → ∀ x, x < 32 → bg_cd 0 m x = decide (m = x) := by decide +kernel
theorem bg_cd5 : ∀ m, m < 32 → ∀ x, x < 32 → bg_cd 5 m x = decide (m &&& x = m) := by decide +kernel
theorem bg_cdS : ∀ j, j < 5 → ∀ m, m < 32 → ∀ x, x < 32 → bg_cd (j + 1) m x = (bg_cd j m x ^^ (x.testBit j && bg_cd j m (x - 2 ^ j))) := by decide +kernel
theorem bg_G0 (p : Int32) {x : Nat} (hx : x < 32) : bg_G p 0 x = bt p x := by
  unfold bg_G
  rw [bg_xs_c (g := fun m => bt p m && decide (m = x)) 32 (fun m hm => by show (bt p m && bg_cd 0 m x) = (bt p m && decide (m = x)); rw [bg_cd0 m hm x hx]), bg_xs_1, decide_eq_true hx, Bool.true_and]
theorem bg_G5 (p : Int32) {x : Nat} (hx : x < 32) : bg_G p 5 x = bg_ev p x := by
  unfold bg_G bg_ev
  exact bg_xs_c 32 (fun m hm => by show (bt p m && bg_cd 5 m x) = (bt p m && decide (m &&& x = m)); rw [bg_cd5 m hm x hx])
theorem bg_GS (p : Int32) {j x : Nat} (hj : j < 5) (hx : x < 32) : bg_G p (j + 1) x = (bg_G p j x ^^ (x.testBit j && bg_G p j (x - 2 ^ j))) := by
  unfold bg_G
  rw [← bg_xs_a, ← bg_xs_x]
  refine bg_xs_c 32 (fun m hm => ?_)
  show (bt p m && bg_cd (j + 1) m x) = ((bt p m && bg_cd j m x) ^^ (x.testBit j && (bt p m && bg_cd j m (x - 2 ^ j))))
  rw [bg_cdS j hj m hm x hx]
  cases bt p m <;> cases bg_cd j m x <;> cases x.testBit j <;> cases bg_cd j m (x - 2 ^ j) <;> rfl
theorem bg_stb {s : Nat} (hs : s < 32) {mask : Int32} (r : Int32) {t : Nat → Bool} (ht : ∀ x, x < 32 → (decide (s ≤ x) && bt mask (x - s)) = t x) {x : Nat} (hx : x < 32) : bt (bg_st (nI s) mask r) x = (bt r x ^^ (t x && bt r (x - s))) := by
  unfold bg_st
  rw [b_xor, b_shl s hs _ hx, b_and, ← ht x hx]
  cases bt r x <;> cases decide (s ≤ x) <;> cases bt r (x - s) <;> cases bt mask (x - s) <;> rfl
theorem bg_stG {j : Nat} (hj : j < 5) (hs : 2 ^ j < 32) {mask p r : Int32} (ht : ∀ x, x < 32 → (decide (2 ^ j ≤ x) && bt mask (x - 2 ^ j)) = x.testBit j) (h : ∀ x, x < 32 → bt r x = bg_G p j x) : ∀ x, x < 32 → bt (bg_st (nI (2 ^ j)) mask r) x = bg_G p (j + 1) x := by
  intro x hx
  rw [bg_stb hs r ht hx, bg_GS p hj hx, h x hx, h (x - 2 ^ j) (Nat.lt_of_le_of_lt (Nat.sub_le x (2 ^ j)) hx)]
theorem bg_xb (p : Int32) : ∀ x, x < 32 → bt (bg_x p) x = bg_ev p x := by
  intro x hx
  have h0 : ∀ x, x < 32 → bt p x = bg_G p 0 x := fun x hx => (bg_G0 p hx).symm
  have h1 := bg_stG (j := 0) (by decide) (by decide) (mask := 1431655765) (by decide +kernel) h0
  have h2 := bg_stG (j := 1) (by decide) (by decide) (mask := 858993459) (by decide +kernel) h1
  have h3 := bg_stG (j := 2) (by decide) (by decide) (mask := 252645135) (by decide +kernel) h2
  have h4 := bg_stG (j := 3) (by decide) (by decide) (mask := 16711935) (by decide +kernel) h3
  have h5 := bg_stG (j := 4) (by decide) (by decide) (mask := 65535) (by decide +kernel) h4
  rw [← bg_G5 p hx]
  exact h5 x hx
end BGA
end
section
section BGB
/-! Int64 by its bits; a row is a polynomial above, values below -/
def bg_l (w : Int64) (i : Nat) : Bool := w.toBitVec.getLsbD i
theorem bg_lext {x y : Int64} (h : ∀ i, i < 64 → bg_l x i = bg_l y i) : x = y := Int64.toBitVec_inj.mp (BitVec.eq_of_getLsbD_eq (fun i hi => h i hi))
theorem bg_lx (x y : Int64) (i : Nat) : bg_l (x ^^^ y) i = (bg_l x i ^^ bg_l y i) := by unfold bg_l; rw [Int64.toBitVec_xor, BitVec.getLsbD_xor]
theorem bg_l0 (i : Nat) : bg_l 0 i = false := BitVec.getLsbD_zero
def bg_m (c v : Int32) : Int64 := (c.toInt64 <<< ((32 : Int32).toInt64 &&& 63)) ||| (v.toInt64 &&& 4294967295)
def bg_h (w : Int64) : Int32 := (w.toUInt64 >>> ((32 : Int32).toInt64.toUInt64 &&& Int64.toUInt64 63)).toInt64.toInt32
theorem bg_msk : ∀ i, i < 64 → (4294967295 : Int64).toBitVec.getLsbD i = decide (i < 32) := by decide +kernel
theorem bg_s32 : (((32 : Int32).toInt64 &&& 63).toBitVec.smod 64).toNat = 32 := by decide +kernel
theorem bg_mb (c v : Int32) {i : Nat} (hi : i < 64) : bg_l (bg_m c v) i = if i < 32 then bt v i else bt c (i - 32) := by
  unfold bg_l bg_m bt
  rw [Int64.toBitVec_or, BitVec.getLsbD_or, Int64.toBitVec_and, BitVec.getLsbD_and, bg_msk i hi, Int64.toBitVec_shiftLeft]
  show ((c.toInt64.toBitVec <<< (((32 : Int32).toInt64 &&& 63).toBitVec.smod 64).toNat).getLsbD i || _) = _
  rw [bg_s32, BitVec.getLsbD_shiftLeft, Int32.toBitVec_toInt64, Int32.toBitVec_toInt64, BitVec.getLsbD_signExtend, BitVec.getLsbD_signExtend]
  by_cases h : i < 32
  · rw [if_pos h, if_pos h, decide_eq_true h, decide_eq_true hi]
    simp
  · rw [if_neg h, if_neg h, decide_eq_false h, decide_eq_true hi, decide_eq_true (show i - 32 < 64 by omega), if_pos (show i - 32 < 32 by omega)]
    simp
theorem bg_vb (w : Int64) {i : Nat} (hi : i < 32) : bt w.toInt32 i = bg_l w i := by
  unfold bt bg_l
  rw [Int64.toBitVec_toInt32, BitVec.getLsbD_signExtend, decide_eq_true hi, if_pos (show i < 64 by omega), Bool.true_and]
theorem bg_u32 : (((32 : Int32).toInt64.toUInt64 &&& Int64.toUInt64 63).toBitVec % 64).toNat = 32 := by decide +kernel
theorem bg_hbt (w : Int64) {i : Nat} (hi : i < 32) : bt (bg_h w) i = bg_l w (32 + i) := by
  unfold bg_h
  rw [bg_vb _ hi]
  show (w.toUInt64 >>> ((32 : Int32).toInt64.toUInt64 &&& Int64.toUInt64 63)).toBitVec.getLsbD i = w.toUInt64.toBitVec.getLsbD (32 + i)
  rw [UInt64.toBitVec_shiftRight]
  show (w.toUInt64.toBitVec >>> (((32 : Int32).toInt64.toUInt64 &&& Int64.toUInt64 63).toBitVec % 64).toNat).getLsbD i = _
  rw [bg_u32, BitVec.getLsbD_ushiftRight]
theorem bg_mv (c v : Int32) : (bg_m c v).toInt32 = v := by
  apply b_ext
  intro i hi
  rw [bg_vb _ hi, bg_mb c v (by omega), if_pos hi]
theorem bg_mh (c v : Int32) : bg_h (bg_m c v) = c := by
  apply b_ext
  intro i hi
  rw [bg_hbt _ hi, bg_mb c v (by omega), if_neg (by omega), Nat.add_sub_cancel_left]
theorem bg_mx (c v c' v' : Int32) : bg_m c v ^^^ bg_m c' v' = bg_m (c ^^^ c') (v ^^^ v') := by
  apply bg_lext
  intro i hi
  rw [bg_lx, bg_mb c v hi, bg_mb c' v' hi, bg_mb _ _ hi]
  by_cases h : i < 32
  · rw [if_pos h, if_pos h, if_pos h, b_xor]
  · rw [if_neg h, if_neg h, if_neg h, b_xor]
theorem bg_mhv (w : Int64) : bg_m (bg_h w) w.toInt32 = w := by
  apply bg_lext
  intro i hi
  rw [bg_mb _ _ hi]
  by_cases h : i < 32
  · rw [if_pos h, bg_vb _ h]
  · rw [if_neg h, bg_hbt _ (by omega), show 32 + (i - 32) = i by omega]
theorem bg_ml (c v : Int32) {i : Nat} (hi : i < 32) : bg_l (bg_m c v) i = bt v i := by rw [bg_mb c v (by omega), if_pos hi]
theorem bg_x1 (a b r : Int64) : (a ^^^ r) ^^^ (b ^^^ r) = a ^^^ b := by
  apply bg_lext
  intro i _
  simp only [bg_lx]
  cases bg_l a i <;> cases bg_l b i <;> cases bg_l r i <;> rfl
theorem bg_x2 (a b r : Int64) : (a ^^^ r) ^^^ b = (a ^^^ b) ^^^ r := by
  apply bg_lext
  intro i _
  simp only [bg_lx]
  cases bg_l a i <;> cases bg_l b i <;> cases bg_l r i <;> rfl
theorem bg_x3 (a b r : Int64) : a ^^^ (b ^^^ r) = (a ^^^ b) ^^^ r := by
  apply bg_lext
  intro i _
  simp only [bg_lx]
  cases bg_l a i <;> cases bg_l b i <;> cases bg_l r i <;> rfl
theorem bg_x4 (a : Int64) : a ^^^ 0 = a := by
  apply bg_lext
  intro i _
  rw [bg_lx, bg_l0, Bool.xor_false]
theorem bg_x5 (a : Int64) : a ^^^ a = 0 := by
  apply bg_lext
  intro i _
  rw [bg_lx, bg_l0, Bool.xor_self]
theorem bg_y4 (a : Int32) : a ^^^ 0 = a := by
  apply b_ext
  intro i _
  rw [b_xor, b_0, Bool.xor_false]
theorem bg_y5 (a : Int32) : (0 : Int32) ^^^ a = a := by
  apply b_ext
  intro i _
  rw [b_xor, b_0, Bool.false_xor]
theorem bg_y6 (a b : Int32) : a ^^^ (a ^^^ b) = b := by
  apply b_ext
  intro i _
  simp only [b_xor]
  cases bt a i <;> cases bt b i <;> rfl
/-! one pass over the pivots -/
def bg_rx (P : Int32) (R : Nat → Int64) (w : Int64) : Nat → Int64
  | 0 => w
  | n + 1 => if (bt P n && bg_l (bg_rx P R w n) n) = true then bg_rx P R w n ^^^ R n else bg_rx P R w n
theorem bg_rxS (P : Int32) (R : Nat → Int64) (w : Int64) (n : Nat) : bg_rx P R w (n + 1) = if (bt P n && bg_l (bg_rx P R w n) n) = true then bg_rx P R w n ^^^ R n else bg_rx P R w n := rfl
theorem bg_rx_c {P : Int32} {R R' : Nat → Int64} (w : Int64) : ∀ n, (∀ p, p < n → bt P p = true → R p = R' p) → bg_rx P R w n = bg_rx P R' w n := by
  intro n
  induction n with
  | zero => intro _; rfl
  | succ n ih =>
    intro h
    rw [bg_rxS, bg_rxS, ih (fun p hp => h p (by omega))]
    by_cases hc : (bt P n && bg_l (bg_rx P R' w n) n) = true
    · rw [if_pos hc, if_pos hc, h n (by omega) ((Bool.and_eq_true _ _).mp hc).1]
    · rw [if_neg hc, if_neg hc]
theorem bg_rx_x (P : Int32) (R : Nat → Int64) (a b : Int64) : ∀ n, bg_rx P R (a ^^^ b) n = bg_rx P R a n ^^^ bg_rx P R b n := by
  intro n
  induction n with
  | zero => rfl
  | succ n ih =>
    rw [bg_rxS, bg_rxS, bg_rxS, ih, bg_lx]
    generalize bg_rx P R a n = A
    generalize bg_rx P R b n = B
    cases bt P n <;> cases bg_l A n <;> cases bg_l B n <;> simp <;> first | rfl | exact (bg_x1 A B (R n)).symm | exact (bg_x2 A B (R n)).symm | exact (bg_x3 A B (R n)).symm
theorem bg_rx_i {P : Int32} {R : Nat → Int64} {w : Int64} : ∀ n, (∀ p, p < n → bt P p = true → bg_l w p = false) → bg_rx P R w n = w := by
  intro n
  induction n with
  | zero => intro _; rfl
  | succ n ih =>
    intro h
    rw [bg_rxS, ih (fun p hp => h p (by omega)), if_neg]
    intro hc
    have h2 := (Bool.and_eq_true _ _).mp hc
    rw [h n (by omega) h2.1] at h2
    exact absurd h2.2 (by decide)
/-- rows led by their least points -/
def bg_IV (P : Int32) (R : Nat → Int64) : Prop := ∀ p, p < 32 → bt P p = true → bg_l (R p) p = true ∧ ∀ q, q < p → bg_l (R p) q = false
theorem bg_rx_z {P : Int32} {R : Nat → Int64} (I : bg_IV P R) (w : Int64) : ∀ n, n ≤ 32 → ∀ p, p < n → bt P p = true → bg_l (bg_rx P R w n) p = false := by
  intro n
  induction n with
  | zero => intro _ p hp; omega
  | succ n ih =>
    intro hn p hp hP
    rw [bg_rxS]
    by_cases hc : (bt P n && bg_l (bg_rx P R w n) n) = true
    · rw [if_pos hc, bg_lx]
      have h2 := (Bool.and_eq_true _ _).mp hc
      have h3 := I n (by omega) h2.1
      by_cases e : p = n
      · subst e; rw [h2.2, h3.1]; rfl
      · rw [ih (by omega) p (by omega) hP, h3.2 p (by omega)]; rfl
    · rw [if_neg hc]
      by_cases e : p = n
      · subst e
        rw [hP, Bool.true_and] at hc
        exact ts_nt hc
      · exact ih (by omega) p (by omega) hP
theorem bg_rx_r {P : Int32} {R : Nat → Int64} (I : bg_IV P R) {p : Nat} (hp : p < 32) (hP : bt P p = true) : ∀ n, bg_rx P R (R p) n = if n ≤ p then R p else 0 := by
  intro n
  have h := I p hp hP
  induction n with
  | zero => rw [if_pos (by omega)]; rfl
  | succ n ih =>
    rw [bg_rxS, ih]
    by_cases h1 : n < p
    · rw [if_pos (show n ≤ p by omega), if_pos (show n + 1 ≤ p by omega), h.2 n h1, Bool.and_false, if_neg (by decide)]
    · by_cases h2 : n = p
      · subst h2
        rw [if_pos (Nat.le_refl n), if_neg (show ¬ n + 1 ≤ n by omega), hP, h.1, if_pos (by rfl), bg_x5]
      · rw [if_neg (show ¬ n ≤ p by omega), if_neg (show ¬ n + 1 ≤ p by omega), bg_l0, Bool.and_false, if_neg (by decide)]
theorem bg_rx_a {P : Int32} {R : Nat → Int64} (I : bg_IV P R) {p : Nat} (hp : p < 32) (hP : bt P p = true) (w : Int64) : bg_rx P R (w ^^^ R p) 32 = bg_rx P R w 32 := by
  rw [bg_rx_x, bg_rx_r I hp hP, if_neg (by omega), bg_x4]
/-- what a smaller set of the same rows takes away, the pass takes away -/
theorem bg_rx_2 {P P' : Int32} {R R' : Nat → Int64} (I : bg_IV P' R') (h : ∀ p, p < 32 → bt P p = true → bt P' p = true ∧ R' p = R p) (w : Int64) : ∀ n, n ≤ 32 → bg_rx P' R' (bg_rx P R w n) 32 = bg_rx P' R' w 32 := by
  intro n
  induction n with
  | zero => intro _; rfl
  | succ n ih =>
    intro hn
    rw [bg_rxS P R w n]
    by_cases hc : (bt P n && bg_l (bg_rx P R w n) n) = true
    · have h2 := h n (by omega) ((Bool.and_eq_true _ _).mp hc).1
      rw [if_pos hc, ← h2.2, bg_rx_a I (by omega) h2.1, ih (by omega)]
    · rw [if_neg hc, ih (by omega)]
/-- the polynomial's part goes along -/
theorem bg_rx_m (P : Int32) (R : Nat → Int64) (c v : Int32) : bg_rx P R (bg_m c v) 32 = bg_m c 0 ^^^ bg_rx P R (bg_m 0 v) 32 := by
  have e : bg_m c v = bg_m c 0 ^^^ bg_m 0 v := by rw [bg_mx, bg_y4, bg_y5]
  rw [e, bg_rx_x, bg_rx_i 32]
  intro p hp _
  rw [bg_ml c 0 hp, b_0]
/-! the least point -/
def bg_lf (v : Int32) : Nat → Nat → Nat
  | 0, i => i
  | f + 1, i => if bt v i = true then i else bg_lf v f (i + 1)
def bg_lb (v : Int32) : Nat := bg_lf v 32 0
theorem bg_lfs (v : Int32) : ∀ f i, (∀ q, q < i → bt v q = false) → (∃ q, q < i + f ∧ bt v q = true) → bg_lf v f i < i + f ∧ bt v (bg_lf v f i) = true ∧ ∀ q, q < bg_lf v f i → bt v q = false := by
  intro f
  induction f with
  | zero =>
    intro i h hq
    obtain ⟨q, hq, hv⟩ := hq
    rw [h q (by omega)] at hv
    exact absurd hv (by decide)
  | succ f ih =>
    intro i h hq
    unfold bg_lf
    by_cases hi : bt v i = true
    · rw [if_pos hi]
      exact ⟨by omega, hi, h⟩
    · rw [if_neg hi]
      obtain ⟨q, hq, hv⟩ := hq
      have := ih (i + 1) (fun q hq => by
        by_cases e : q = i
        · subst e; exact ts_nt hi
        · exact h q (by omega)) ⟨q, by omega, hv⟩
      exact ⟨by omega, this.2⟩
theorem bg_nz {v : Int32} (h : ¬ v = 0) : ∃ q, q < 32 ∧ bt v q = true := by
  apply Classical.byContradiction
  intro hn
  refine h (b_ext fun i hi => ?_)
  rw [b_0]
  cases e : bt v i
  · rfl
  · exact absurd ⟨i, hi, e⟩ hn
theorem bg_lbs {v : Int32} (h : ¬ v = 0) : bg_lb v < 32 ∧ bt v (bg_lb v) = true ∧ ∀ q, q < bg_lb v → bt v q = false := by
  obtain ⟨q, hq, hv⟩ := bg_nz h
  have := bg_lfs v 32 0 (fun q hq => by omega) ⟨q, by omega, hv⟩
  exact ⟨by have := this.1; unfold bg_lb; omega, this.2⟩
theorem bg_lbu {v : Int32} {p : Nat} (hp : bt v p = true) (h : ∀ q, q < p → bt v q = false) (hv : ¬ v = 0) : bg_lb v = p := by
  have s := bg_lbs hv
  rcases Nat.lt_trichotomy (bg_lb v) p with e | e | e
  · rw [h _ e] at s; exact absurd s.2.1 (by decide)
  · exact e
  · rw [s.2.2 _ e] at hp; exact absurd hp (by decide)
theorem bg_neg {v : Int32} (h : ¬ v = 0) {i : Nat} (hi : i < 32) : bt (v &&& -v) i = decide (i = bg_lb v) := by
  have s := bg_lbs h
  rw [b_and]
  have e : bt (-v) i = (bt v i ^^ decide (∃ j, j < i ∧ bt v j = true)) := by
    unfold bt
    rw [Int32.toBitVec_neg, BitVec.getLsbD_neg, decide_eq_true hi, Bool.true_and]
  rw [e]
  rcases Nat.lt_trichotomy i (bg_lb v) with l | l | l
  · rw [s.2.2 i l, decide_eq_false (show ¬ i = bg_lb v by omega), Bool.false_and]
  · rw [decide_eq_true l, l, s.2.1, decide_eq_false]
    · rfl
    · rintro ⟨j, hj, hv⟩
      rw [s.2.2 j hj] at hv
      exact absurd hv (by decide)
  · rw [decide_eq_false (show ¬ i = bg_lb v by omega), decide_eq_true ⟨bg_lb v, l, s.2.1⟩]
    cases bt v i <;> rfl
theorem bg_low (v : Int32) {r : Int32} (h : ¬ r = 0) : v &&& (r &&& -r) = 0 ↔ bt v (bg_lb r) = false := by
  have s := bg_lbs h
  constructor
  · intro e
    have this : bt (v &&& (r &&& -r)) (bg_lb r) = bt 0 (bg_lb r) := congrArg (fun x => bt x (bg_lb r)) e
    rw [b_and, bg_neg h s.1, b_0, decide_eq_true rfl, Bool.and_true] at this
    exact this
  · intro e
    apply b_ext
    intro i hi
    rw [b_and, bg_neg h hi, b_0]
    by_cases c : i = bg_lb r
    · rw [c, e, Bool.false_and]
    · rw [decide_eq_false c, Bool.and_false]
end BGB
end
section
section BGC
/-! counts -/
def bg_ct (f : Nat → Bool) : Nat → Nat
  | 0 => 0
  | n + 1 => bg_ct f n + (if f n = true then 1 else 0)
theorem bg_ctS (f : Nat → Bool) (n : Nat) : bg_ct f (n + 1) = bg_ct f n + (if f n = true then 1 else 0) := rfl
theorem bg_ctT {f : Nat → Bool} {n : Nat} (h : f n = true) : bg_ct f (n + 1) = bg_ct f n + 1 := by rw [bg_ctS, if_pos h]
theorem bg_ctF {f : Nat → Bool} {n : Nat} (h : f n = false) : bg_ct f (n + 1) = bg_ct f n := by rw [bg_ctS, h, if_neg (by decide)]; rfl
theorem bg_ct_le (f : Nat → Bool) : ∀ n, bg_ct f n ≤ n := by
  intro n
  induction n with
  | zero => exact Nat.le_refl 0
  | succ n ih => rw [bg_ctS]; split <;> omega
theorem bg_ct_mono (f : Nat → Bool) : ∀ a b, a ≤ b → bg_ct f a ≤ bg_ct f b := by
  intro a b h
  induction b with
  | zero => have : a = 0 := by omega
            subst this; exact Nat.le_refl _
  | succ b ih =>
    by_cases e : a = b + 1
    · subst e; exact Nat.le_refl _
    · have := ih (by omega)
      rw [bg_ctS]; omega
theorem bg_ct_c {f g : Nat → Bool} : ∀ n, (∀ m, m < n → f m = g m) → bg_ct f n = bg_ct g n := by
  intro n
  induction n with
  | zero => intro _; rfl
  | succ n ih => intro h; rw [bg_ctS, bg_ctS, ih (fun m hm => h m (by omega)), h n (by omega)]
theorem bg_ct_u {f g : Nat → Bool} {m : Nat} (hf : f m = false) (hg : g m = true) (h : ∀ j, j ≠ m → g j = f j) : ∀ n, bg_ct g n = bg_ct f n + (if m < n then 1 else 0) := by
  intro n
  induction n with
  | zero => rw [if_neg (Nat.not_lt_zero m)]; rfl
  | succ n ih =>
    rw [bg_ctS, bg_ctS, ih]
    by_cases e : n = m
    · subst e
      rw [hf, hg, if_neg (Nat.lt_irrefl n), if_pos (by rfl), if_neg (by decide), if_pos (Nat.lt_succ_self n)]
    · rw [h n e]
      by_cases l : m < n
      · rw [if_pos l, if_pos (show m < n + 1 by omega)]; omega
      · rw [if_neg l, if_neg (show ¬ m < n + 1 by omega)]; omega
theorem bg_ct_0 (n : Nat) : bg_ct (fun _ => false) n = 0 := by
  induction n with
  | zero => rfl
  | succ n ih => rw [bg_ctF rfl, ih]
/-! the two orders: true by the number of variables, false by the number -/
def bg_T : List Nat := [0, 1, 2, 4, 8, 16, 3, 5, 6, 9, 10, 12, 17, 18, 20, 24, 7, 11, 13, 14, 19, 21, 22, 25, 26, 28, 15, 23, 27, 29, 30, 31]
def bg_U : List Nat := [0, 1, 2, 6, 3, 7, 8, 16, 4, 9, 10, 17, 11, 18, 19, 26, 5, 12, 13, 20, 14, 21, 22, 27, 15, 23, 24, 28, 25, 29, 30, 31]
def bg_mo (d : Bool) (r : Nat) : Nat := if d = true then bg_T.getD r 0 else r
def bg_rk (d : Bool) (m : Nat) : Nat := if d = true then bg_U.getD m 0 else m
def bg_dg (m : Nat) : Nat := bg_ct (fun i => m.testBit i) 5
def bg_lo (d : Bool) (l m : Nat) : Bool := if (d && !(decide (bg_dg l = bg_dg m))) = true then decide (bg_dg l < bg_dg m) else decide (l < m)
theorem bg_mo_lt : ∀ d : Bool, ∀ r, r < 32 → bg_mo d r < 32 := by decide +kernel
theorem bg_rk_lt : ∀ d : Bool, ∀ m, m < 32 → bg_rk d m < 32 := by decide +kernel
theorem bg_rk_mo : ∀ d : Bool, ∀ r, r < 32 → bg_rk d (bg_mo d r) = r := by decide +kernel
theorem bg_mo_rk : ∀ d : Bool, ∀ m, m < 32 → bg_mo d (bg_rk d m) = m := by decide +kernel
theorem bg_lo_rk : ∀ d : Bool, ∀ a, a < 32 → ∀ b, b < 32 → bg_lo d a b = decide (bg_rk d a < bg_rk d b) := by decide +kernel
theorem bg_rk_dv : ∀ d : Bool, ∀ m, m < 32 → ∀ l, l < m → l &&& m = l → bg_rk d l < bg_rk d m := by decide +kernel
theorem bg_rk_ct : ∀ d : Bool, ∀ m, m < 32 → bg_ct (fun l => bg_lo d l m) 32 = bg_rk d m := by decide +kernel
theorem bg_dg5 : ∀ m, m < 32 → bg_ct (bt (nI m)) 5 = bg_dg m := by decide +kernel
theorem bg_dg32 : ∀ m, m < 32 → bg_ct (bt (nI m)) 32 = bg_dg m := by decide +kernel
theorem bg_dg_lt (m : Nat) : bg_dg m ≤ 5 := bg_ct_le _ 5
/-! how the component fills its table -/
def bg_cn (v m : Nat) : Nat := bg_ct (fun r => decide (bg_dg (bg_T.getD r 0) < v) || (decide (bg_dg (bg_T.getD r 0) = v) && decide (bg_T.getD r 0 < m))) 32
theorem bg_cnT : ∀ v, v < 6 → ∀ m, m < 32 → bg_dg m = v → bg_T.getD (bg_cn v m) 0 = m ∧ bg_cn v (m + 1) = bg_cn v m + 1 ∧ bg_cn v m < 32 := by decide +kernel
theorem bg_cnF : ∀ v, v < 6 → ∀ m, m < 32 → ¬ bg_dg m = v → bg_cn v (m + 1) = bg_cn v m := by decide +kernel
theorem bg_cnS : ∀ v, v < 6 → bg_cn v 32 = bg_cn (v + 1) 0 := by decide +kernel
theorem bg_cn0 : bg_cn 0 0 = 0 := by decide +kernel
theorem bg_cn6 : bg_cn 6 0 = 32 := by decide +kernel
theorem bg_cn_le (v m : Nat) : bg_cn v m ≤ 32 := bg_ct_le _ 32
/-! a count over ranks is a count over monomials -/
theorem bg_perm (d : Bool) (f : Nat → Bool) : ∀ i, i ≤ 32 → bg_ct (fun m => f m && decide (bg_rk d m < i)) 32 = bg_ct (fun r => f (bg_mo d r)) i := by
  intro i
  induction i with
  | zero =>
    intro _
    rw [bg_ct_c (g := fun _ => false) 32 (fun m _ => by show (f m && decide (bg_rk d m < 0)) = false; rw [decide_eq_false (Nat.not_lt_zero _), Bool.and_false]), bg_ct_0]
    rfl
  | succ i ih =>
    intro hi
    have hm := bg_mo_lt d i (by omega)
    have hr := bg_rk_mo d i (by omega)
    have ih' := ih (by omega)
    cases hf : f (bg_mo d i)
    · rw [bg_ctF (f := fun r => f (bg_mo d r)) hf, ← ih']
      refine bg_ct_c 32 (fun m hm2 => ?_)
      show (f m && decide (bg_rk d m < i + 1)) = (f m && decide (bg_rk d m < i))
      by_cases e : bg_rk d m = i
      · have : bg_mo d i = m := by rw [← e]; exact bg_mo_rk d m hm2
        rw [← this, hf]; rfl
      · by_cases l : bg_rk d m < i
        · rw [decide_eq_true l, decide_eq_true (show bg_rk d m < i + 1 by omega)]
        · rw [decide_eq_false l, decide_eq_false (show ¬ bg_rk d m < i + 1 by omega)]
    · rw [bg_ctT (f := fun r => f (bg_mo d r)) hf, ← ih']
      have c : bg_ct (fun m => f m && decide (bg_rk d m < i + 1)) 32 = bg_ct (fun m => (decide (m < 32) && f m) && decide (bg_rk d m < i + 1)) 32 := bg_ct_c 32 (fun m h => by show (f m && decide (bg_rk d m < i + 1)) = ((decide (m < 32) && f m) && decide (bg_rk d m < i + 1)); rw [decide_eq_true h, Bool.true_and])
      have c' : bg_ct (fun m => f m && decide (bg_rk d m < i)) 32 = bg_ct (fun m => (decide (m < 32) && f m) && decide (bg_rk d m < i)) 32 := bg_ct_c 32 (fun m h => by show (f m && decide (bg_rk d m < i)) = ((decide (m < 32) && f m) && decide (bg_rk d m < i)); rw [decide_eq_true h, Bool.true_and])
      rw [c, c', bg_ct_u (f := fun m => (decide (m < 32) && f m) && decide (bg_rk d m < i)) (m := bg_mo d i), if_pos hm]
      · show ((decide (bg_mo d i < 32) && f (bg_mo d i)) && decide (bg_rk d (bg_mo d i) < i)) = false
        rw [hr, decide_eq_false (Nat.lt_irrefl i), Bool.and_false]
      · show ((decide (bg_mo d i < 32) && f (bg_mo d i)) && decide (bg_rk d (bg_mo d i) < i + 1)) = true
        rw [hr, hf, decide_eq_true (Nat.lt_succ_self i), decide_eq_true hm]; rfl
      · intro j hj
        show ((decide (j < 32) && f j) && decide (bg_rk d j < i + 1)) = ((decide (j < 32) && f j) && decide (bg_rk d j < i))
        by_cases hj2 : j < 32
        · have e : ¬ bg_rk d j = i := by
            intro e
            apply hj
            rw [← e]; exact (bg_mo_rk d j hj2).symm
          by_cases l : bg_rk d j < i
          · rw [decide_eq_true l, decide_eq_true (show bg_rk d j < i + 1 by omega)]
          · rw [decide_eq_false l, decide_eq_false (show ¬ bg_rk d j < i + 1 by omega)]
        · rw [decide_eq_false hj2, Bool.false_and, Bool.false_and, Bool.false_and]
theorem bg_permE (d : Bool) (f : Nat → Bool) : bg_ct (fun r => f (bg_mo d r)) 32 = bg_ct f 32 := by
  rw [← bg_perm d f 32 (Nat.le_refl _)]
  refine bg_ct_c 32 (fun m hm => ?_)
  show (f m && decide (bg_rk d m < 32)) = f m
  rw [decide_eq_true (bg_rk_lt d m hm), Bool.and_true]
end BGC
end
section
section BGD
/-! the elimination: pivots, rows, led monomials after i ranks -/
def bg_w0 (z : Int32) (m : Nat) : Int64 := bg_m (bg_b m) (bg_x (bg_b m) &&& z)
def bg_es (P : Int32) (R : Nat → Int64) (L : Int32) (m : Nat) (w : Int64) : Int32 × (Nat → Int64) × Int32 :=
  if w.toInt32 = 0 then (P, R, L ||| bg_b m) else (P ||| bg_b (bg_lb w.toInt32), vp_updL R (bg_lb w.toInt32) w, L)
def bg_el (z : Int32) (d : Bool) : Nat → Int32 × (Nat → Int64) × Int32
  | 0 => (0, fun _ => 0, 0)
  | i + 1 => bg_es (bg_el z d i).1 (bg_el z d i).2.1 (bg_el z d i).2.2 (bg_mo d i) (bg_rx (bg_el z d i).1 (bg_el z d i).2.1 (bg_w0 z (bg_mo d i)) 32)
def bg_P (z : Int32) (d : Bool) (i : Nat) : Int32 := (bg_el z d i).1
def bg_R (z : Int32) (d : Bool) (i : Nat) : Nat → Int64 := (bg_el z d i).2.1
def bg_L (z : Int32) (d : Bool) (i : Nat) : Int32 := (bg_el z d i).2.2
def bg_W (z : Int32) (d : Bool) (i : Nat) : Int64 := bg_rx (bg_P z d i) (bg_R z d i) (bg_w0 z (bg_mo d i)) 32
theorem bg_elS (z : Int32) (d : Bool) (i : Nat) : bg_el z d (i + 1) = bg_es (bg_P z d i) (bg_R z d i) (bg_L z d i) (bg_mo d i) (bg_W z d i) := rfl
theorem bg_elT {z : Int32} {d : Bool} {i : Nat} (h : (bg_W z d i).toInt32 = 0) : bg_P z d (i + 1) = bg_P z d i ∧ bg_R z d (i + 1) = bg_R z d i ∧ bg_L z d (i + 1) = (bg_L z d i ||| bg_b (bg_mo d i)) := by
  have e : bg_el z d (i + 1) = (bg_P z d i, bg_R z d i, bg_L z d i ||| bg_b (bg_mo d i)) := by
    rw [bg_elS]; unfold bg_es; rw [if_pos h]
  refine ⟨?_, ?_, ?_⟩
  · show (bg_el z d (i + 1)).1 = _
    rw [e]
  · show (bg_el z d (i + 1)).2.1 = _
    rw [e]
  · show (bg_el z d (i + 1)).2.2 = _
    rw [e]
theorem bg_elF {z : Int32} {d : Bool} {i : Nat} (h : ¬ (bg_W z d i).toInt32 = 0) : bg_P z d (i + 1) = (bg_P z d i ||| bg_b (bg_lb (bg_W z d i).toInt32)) ∧ bg_R z d (i + 1) = vp_updL (bg_R z d i) (bg_lb (bg_W z d i).toInt32) (bg_W z d i) ∧ bg_L z d (i + 1) = bg_L z d i := by
  have e : bg_el z d (i + 1) = (bg_P z d i ||| bg_b (bg_lb (bg_W z d i).toInt32), vp_updL (bg_R z d i) (bg_lb (bg_W z d i).toInt32) (bg_W z d i), bg_L z d i) := by
    rw [bg_elS]; unfold bg_es; rw [if_neg h]
  refine ⟨?_, ?_, ?_⟩
  · show (bg_el z d (i + 1)).1 = _
    rw [e]
  · show (bg_el z d (i + 1)).2.1 = _
    rw [e]
  · show (bg_el z d (i + 1)).2.2 = _
    rw [e]
theorem bg_IVn {P : Int32} {R : Nat → Int64} (I : bg_IV P R) {w : Int64} (h : ¬ w.toInt32 = 0) : bg_IV (P ||| bg_b (bg_lb w.toInt32)) (vp_updL R (bg_lb w.toInt32) w) := by
  have s := bg_lbs h
  intro p hp hP
  by_cases e : p = bg_lb w.toInt32
  · rw [e, pk_uLs]
    refine ⟨?_, fun q hq => ?_⟩
    · rw [← bg_vb w s.1]; exact s.2.1
    · rw [← bg_vb w (by omega)]; exact s.2.2 q hq
  · rw [pk_uLn e]
    rw [b_or, bg_bb s.1 hp, decide_eq_false e, Bool.or_false] at hP
    exact I p hp hP
theorem bg_IVi (z : Int32) (d : Bool) : ∀ i, bg_IV (bg_P z d i) (bg_R z d i) := by
  intro i
  induction i with
  | zero =>
    intro p _ h
    have h' : bt 0 p = true := h
    rw [b_0] at h'
    exact absurd h' (by decide)
  | succ i ih =>
    by_cases h : (bg_W z d i).toInt32 = 0
    · rw [(bg_elT h).1, (bg_elT h).2.1]; exact ih
    · rw [(bg_elF h).1, (bg_elF h).2.1]; exact bg_IVn ih h
theorem bg_rxn {P : Int32} {R : Nat → Int64} (I : bg_IV P R) (w : Int64) (h : ¬ (bg_rx P R w 32).toInt32 = 0) : bt P (bg_lb (bg_rx P R w 32).toInt32) = false := by
  have s := bg_lbs h
  cases e : bt P (bg_lb (bg_rx P R w 32).toInt32)
  · rfl
  · have := bg_rx_z I w 32 (Nat.le_refl _) _ s.1 e
    rw [← bg_vb _ s.1, s.2.1] at this
    exact absurd this (by decide)
theorem bg_pst (z : Int32) (d : Bool) (i : Nat) : ∀ k p, p < 32 → bt (bg_P z d i) p = true → bt (bg_P z d (i + k)) p = true ∧ bg_R z d (i + k) p = bg_R z d i p := by
  intro k
  induction k with
  | zero => intro p _ h; exact ⟨h, rfl⟩
  | succ k ih =>
    intro p hp hP
    have h0 := ih p hp hP
    rw [show i + (k + 1) = (i + k) + 1 from rfl]
    by_cases h : (bg_W z d (i + k)).toInt32 = 0
    · rw [(bg_elT h).1, (bg_elT h).2.1]; exact h0
    · rw [(bg_elF h).1, (bg_elF h).2.1]
      have n := bg_rxn (bg_IVi z d (i + k)) _ h
      have e : p ≠ bg_lb (bg_W z d (i + k)).toInt32 := by
        intro e
        have h1 := h0.1
        rw [e] at h1
        have n' : bt (bg_P z d (i + k)) (bg_lb (bg_W z d (i + k)).toInt32) = false := n
        rw [n'] at h1
        exact absurd h1 (by decide)
      rw [pk_uLn e, b_or, h0.1, Bool.true_or]
      exact ⟨rfl, h0.2⟩
/-- the monomial of rank r is led -/
def bg_ld (z : Int32) (d : Bool) (r : Nat) : Bool := decide ((bg_W z d r).toInt32 = 0)
theorem bg_Lb (z : Int32) (d : Bool) : ∀ i, i ≤ 32 → ∀ m, m < 32 → bt (bg_L z d i) m = (decide (bg_rk d m < i) && bg_ld z d (bg_rk d m)) := by
  intro i
  induction i with
  | zero =>
    intro _ m _
    show bt 0 m = _
    rw [b_0, decide_eq_false (Nat.not_lt_zero _), Bool.false_and]
  | succ i ih =>
    intro hi m hm
    have hmo := bg_mo_lt d i (by omega)
    by_cases e : bg_rk d m = i
    · have em : bg_mo d i = m := by rw [← e]; exact bg_mo_rk d m hm
      rw [e, decide_eq_true (Nat.lt_succ_self i), Bool.true_and]
      by_cases h : (bg_W z d i).toInt32 = 0
      · rw [(bg_elT h).2.2, b_or, bg_bb hmo hm, decide_eq_true em.symm, Bool.or_true]
        unfold bg_ld
        rw [decide_eq_true h]
      · rw [(bg_elF h).2.2, ih (by omega) m hm, e, decide_eq_false (Nat.lt_irrefl i), Bool.false_and]
        unfold bg_ld
        rw [decide_eq_false h]
    · have em : ¬ m = bg_mo d i := by
        intro em
        apply e
        rw [em]; exact bg_rk_mo d i (by omega)
      have el : decide (bg_rk d m < i + 1) = decide (bg_rk d m < i) := by
        by_cases l : bg_rk d m < i
        · rw [decide_eq_true l, decide_eq_true (show bg_rk d m < i + 1 by omega)]
        · rw [decide_eq_false l, decide_eq_false (show ¬ bg_rk d m < i + 1 by omega)]
      rw [el, ← ih (by omega) m hm]
      by_cases h : (bg_W z d i).toInt32 = 0
      · rw [(bg_elT h).2.2, b_or, bg_bb hmo hm, decide_eq_false em, Bool.or_false]
      · rw [(bg_elF h).2.2]
theorem bg_Lf (z : Int32) (d : Bool) {m : Nat} (hm : m < 32) : bt (bg_L z d 32) m = bg_ld z d (bg_rk d m) := by
  rw [bg_Lb z d 32 (Nat.le_refl _) m hm, decide_eq_true (bg_rk_lt d m hm), Bool.true_and]
/-! a led divisor -/
def bg_hd (f : Nat → Bool) (m : Nat) : Nat → Bool
  | 0 => false
  | n + 1 => bg_hd f m n || (decide (n &&& m = n) && f n)
theorem bg_hdS (f : Nat → Bool) (m n : Nat) : bg_hd f m (n + 1) = (bg_hd f m n || (decide (n &&& m = n) && f n)) := rfl
theorem bg_hd_m {f : Nat → Bool} {m n : Nat} (h : bg_hd f m n = true) : ∀ k, bg_hd f m (n + k) = true := by
  intro k
  induction k with
  | zero => exact h
  | succ k ih => rw [show n + (k + 1) = (n + k) + 1 from rfl, bg_hdS, ih, Bool.true_or]
theorem bg_hd_t {f : Nat → Bool} {m l n : Nat} (hl : l < n) (h1 : l &&& m = l) (h2 : f l = true) : bg_hd f m n = true := by
  have h : bg_hd f m (l + 1) = true := by rw [bg_hdS, decide_eq_true h1, h2, Bool.true_and, Bool.or_true]
  have := bg_hd_m h (n - (l + 1))
  rwa [show l + 1 + (n - (l + 1)) = n by omega] at this
theorem bg_hd_c {f g : Nat → Bool} {m : Nat} : ∀ n, (∀ l, l < n → l &&& m = l → f l = g l) → bg_hd f m n = bg_hd g m n := by
  intro n
  induction n with
  | zero => intro _; rfl
  | succ n ih =>
    intro h
    rw [bg_hdS, bg_hdS, ih (fun l hl => h l (by omega))]
    by_cases e : n &&& m = n
    · rw [h n (by omega) e]
    · rw [decide_eq_false e, Bool.false_and, Bool.false_and]
/-- the monomial m is a least led one -/
def bg_le (z : Int32) (d : Bool) (m : Nat) : Bool := bg_ld z d (bg_rk d m) && !(bg_hd (fun l => bg_ld z d (bg_rk d l)) m m)
theorem bg_hdi (z : Int32) (d : Bool) {i : Nat} (hi : i < 32) : bg_hd (bt (bg_L z d i)) (bg_mo d i) (bg_mo d i) = bg_hd (fun l => bg_ld z d (bg_rk d l)) (bg_mo d i) (bg_mo d i) := by
  have hm := bg_mo_lt d i hi
  refine bg_hd_c _ (fun l hl e => ?_)
  have h := bg_rk_dv d _ hm l hl e
  rw [bg_rk_mo d i hi] at h
  show bt (bg_L z d i) l = bg_ld z d (bg_rk d l)
  rw [bg_Lb z d i (by omega) l (by omega), decide_eq_true h, Bool.true_and]
theorem bg_hx (a b : Int64) : bg_h (a ^^^ b) = bg_h a ^^^ bg_h b := by
  apply b_ext
  intro i hi
  rw [bg_hbt _ hi, bg_lx, b_xor, bg_hbt _ hi, bg_hbt _ hi]
theorem bg_po (z : Int32) (d : Bool) {i : Nat} (hi : i ≤ 32) (h : (bg_W z d i).toInt32 = 0) : bg_b (bg_mo d i) ^^^ bg_h (bg_rx (bg_P z d 32) (bg_R z d 32) (bg_m 0 (bg_x (bg_b (bg_mo d i)) &&& z)) 32) = bg_h (bg_W z d i) := by
  have e1 : bg_rx (bg_P z d 32) (bg_R z d 32) (bg_W z d i) 32 = bg_rx (bg_P z d 32) (bg_R z d 32) (bg_w0 z (bg_mo d i)) 32 := by
    refine bg_rx_2 (bg_IVi z d 32) (fun p hp hP => ?_) _ 32 (Nat.le_refl _)
    have := bg_pst z d i (32 - i) p hp hP
    rwa [show i + (32 - i) = 32 by omega] at this
  have e2 : bg_rx (bg_P z d 32) (bg_R z d 32) (bg_W z d i) 32 = bg_W z d i := by
    refine bg_rx_i 32 (fun p hp _ => ?_)
    rw [← bg_vb _ hp, h, b_0]
  rw [e2] at e1
  have e3 : bg_W z d i = bg_m (bg_b (bg_mo d i)) 0 ^^^ bg_rx (bg_P z d 32) (bg_R z d 32) (bg_m 0 (bg_x (bg_b (bg_mo d i)) &&& z)) 32 := by
    rw [← bg_rx_m]; exact e1
  rw [e3, bg_hx, bg_mh]
/-! the reference's rows, in the order of their making -/
def bg_yr (row made : Nat → Int32) (v c : Int32) : Nat → Int32 × Int32
  | 0 => (v, c)
  | n + 1 => if (bg_yr row made v c n).1 &&& (row n &&& -row n) = 0 then bg_yr row made v c n else ((bg_yr row made v c n).1 ^^^ row n, (bg_yr row made v c n).2 ^^^ made n)
theorem bg_yrS (row made : Nat → Int32) (v c : Int32) (n : Nat) : bg_yr row made v c (n + 1) = if (bg_yr row made v c n).1 &&& (row n &&& -row n) = 0 then bg_yr row made v c n else ((bg_yr row made v c n).1 ^^^ row n, (bg_yr row made v c n).2 ^^^ made n) := rfl
def bg_Y (P : Int32) (R : Nat → Int64) (n : Nat) (row made : Nat → Int32) : Prop :=
  (∀ r, r < n → ¬ row r = 0 ∧ bt P (bg_lb (row r)) = true ∧ R (bg_lb (row r)) = bg_m (made r) (row r)) ∧ (∀ p, p < 32 → bt P p = true → ∃ r, r < n ∧ bg_lb (row r) = p) ∧ (∀ s, s < n → ∀ r, r < s → bt (row s) (bg_lb (row r)) = false)
theorem bg_yrx {P : Int32} {R : Nat → Int64} {n : Nat} {row made : Nat → Int32} (I : bg_IV P R) (H : bg_Y P R n row made) (v c : Int32) : bg_m (bg_yr row made v c n).2 (bg_yr row made v c n).1 = bg_rx P R (bg_m c v) 32 := by
  have key : ∀ k, k ≤ n → bg_rx P R (bg_m (bg_yr row made v c k).2 (bg_yr row made v c k).1) 32 = bg_rx P R (bg_m c v) 32 ∧ ∀ r, r < k → bt (bg_yr row made v c k).1 (bg_lb (row r)) = false := by
    intro k
    induction k with
    | zero => intro _; exact ⟨rfl, fun r hr => absurd hr (Nat.not_lt_zero r)⟩
    | succ k ih =>
      intro hk
      obtain ⟨i1, i2⟩ := ih (by omega)
      obtain ⟨h1, h2, h3⟩ := H.1 k (by omega)
      have s := bg_lbs h1
      rw [bg_yrS]
      by_cases hc : (bg_yr row made v c k).1 &&& (row k &&& -row k) = 0
      · rw [if_pos hc]
        refine ⟨i1, fun r hr => ?_⟩
        by_cases e : r = k
        · subst e; exact (bg_low _ h1).mp hc
        · exact i2 r (by omega)
      · rw [if_neg hc]
        have hb : bt (bg_yr row made v c k).1 (bg_lb (row k)) = true := ts_nf (fun z => hc ((bg_low _ h1).mpr z))
        refine ⟨?_, fun r hr => ?_⟩
        · show bg_rx P R (bg_m ((bg_yr row made v c k).2 ^^^ made k) ((bg_yr row made v c k).1 ^^^ row k)) 32 = _
          rw [← bg_mx, ← h3, bg_rx_a I s.1 h2]
          exact i1
        · show bt ((bg_yr row made v c k).1 ^^^ row k) (bg_lb (row r)) = false
          rw [b_xor]
          by_cases e : r = k
          · subst e; rw [hb, s.2.1]; rfl
          · rw [i2 r (by omega), H.2.2 k (by omega) r (by omega)]; rfl
  obtain ⟨k1, k2⟩ := key n (Nat.le_refl n)
  rw [← k1]
  refine (bg_rx_i 32 (fun p hp hP => ?_)).symm
  obtain ⟨r, hr, e⟩ := H.2.1 p hp hP
  rw [bg_ml _ _ hp, ← e]
  exact k2 r hr
theorem bg_Yn {P : Int32} {R : Nat → Int64} {n : Nat} {row made : Nat → Int32} (I : bg_IV P R) (H : bg_Y P R n row made) {w : Int64} {v c : Int32} (e : bg_m c v = bg_rx P R w 32) (h : ¬ v = 0) : bg_Y (P ||| bg_b (bg_lb v)) (vp_updL R (bg_lb v) (bg_m c v)) (n + 1) (upd row n v) (upd made n c) := by
  have s := bg_lbs h
  have ev : (bg_rx P R w 32).toInt32 = v := by rw [← e, bg_mv]
  have nP : bt P (bg_lb v) = false := by
    have := bg_rxn I w (by rw [ev]; exact h)
    rwa [ev] at this
  have ne : ∀ r, r < n → bg_lb (row r) ≠ bg_lb v := by
    intro r hr q
    have := (H.1 r hr).2.1
    rw [q, nP] at this
    exact absurd this (by decide)
  refine ⟨fun r hr => ?_, fun p hp hP => ?_, fun s' hs r hr => ?_⟩
  · by_cases q : r = n
    · subst q
      rw [pk_us, pk_us, pk_uLs, b_or, bg_bb s.1 s.1, decide_eq_true rfl, Bool.or_true]
      exact ⟨h, rfl, rfl⟩
    · obtain ⟨h1, h2, h3⟩ := H.1 r (by omega)
      rw [pk_un q, pk_un q, pk_uLn (ne r (by omega)), b_or, h2, Bool.true_or]
      exact ⟨h1, rfl, h3⟩
  · by_cases q : p = bg_lb v
    · exact ⟨n, by omega, by rw [pk_us, q]⟩
    · rw [b_or, bg_bb s.1 hp, decide_eq_false q, Bool.or_false] at hP
      obtain ⟨r, hr, er⟩ := H.2.1 p hp hP
      exact ⟨r, by omega, by rw [pk_un (by omega)]; exact er⟩
  · rw [pk_un (show r ≠ n by omega)]
    by_cases q : s' = n
    · rw [q, pk_us]
      obtain ⟨h1, h2, _⟩ := H.1 r (by omega)
      have := bg_rx_z I w 32 (Nat.le_refl _) _ (bg_lbs h1).1 h2
      rwa [← e, bg_ml _ _ (bg_lbs h1).1] at this
    · rw [pk_un q]
      exact H.2.2 s' (by omega) r hr
theorem bg_Y0 (row made : Nat → Int32) (R : Nat → Int64) : bg_Y 0 R 0 row made := by
  refine ⟨fun r hr => absurd hr (Nat.not_lt_zero r), fun p _ hP => ?_, fun s hs => absurd hs (Nat.not_lt_zero s)⟩
  rw [b_0] at hP
  exact absurd hP (by decide)
end BGD
end
section
section BGE
theorem pk_m1 (n : Nat) : nI (n + 1) + (-1) = nI n := by
  rw [← nI_1, Int32.add_assoc, show (1 : Int32) + (-1) = 0 from rfl, Int32.add_zero]
theorem pk_mul (a b : Nat) : nI a * nI b = nI (a * b) := (Int32.ofNat_mul a b).symm
theorem pk_sub {a b : Nat} (h : b ≤ a) : nI a - nI b = nI (a - b) := by
  obtain ⟨c, rfl⟩ : ∃ c, a = c + b := ⟨a - b, by omega⟩
  rw [← nI_add, Int32.add_sub_cancel, Nat.add_sub_cancel]
theorem pk_ix (x : Int32) {n : Nat} (hn : n < 2 ^ 31) : x < 0 ∨ nI n ≤ x ∨ ∃ j : Nat, j < n ∧ x = nI j := by
  by_cases h : x < 0
  · exact Or.inl h
  · obtain ⟨j, hj, rfl⟩ := nI_of h
    by_cases h2 : j < n
    · exact Or.inr (Or.inr ⟨j, h2, rfl⟩)
    · exact Or.inr (Or.inl (nI_le (by omega) hj))
theorem bx_n32 {j : Nat} (h : j < 32) : ¬ (32 : Int32) ≤ nI j := nI_ge (b := 32) h (by decide)
theorem bx_y32 : (32 : Int32) ≤ nI 32 := nI_le (a := 32) (b := 32) (Nat.le_refl 32) (by decide)
theorem bx_10 : ¬ (1 : Int32) = 0 := by decide
theorem bx_if {b : Bool} {A B : Prop} (f : b = false → A) (t : b = true → B) : (bg_i b = 0 → A) ∧ (¬ bg_i b = 0 → B) := by
  cases b
  · exact ⟨fun _ => f rfl, fun z => absurd rfl z⟩
  · exact ⟨fun z => absurd z (by decide), fun _ => t rfl⟩
theorem bx_if1 {b : Bool} {A B : Prop} (t : b = true → A) (f : b = false → B) : (bg_i b = 1 → A) ∧ (¬ bg_i b = 1 → B) := by
  cases b
  · exact ⟨fun z => absurd z (by decide), fun _ => f rfl⟩
  · exact ⟨fun _ => t rfl, fun z => absurd rfl z⟩
theorem bx_ii {b : Bool} {A : Int32 → Prop} (h : A (bg_i b)) : (b = false → A 0) ∧ (b = true → A 1) := by
  cases b
  · exact ⟨fun _ => h, fun z => absurd z (by decide)⟩
  · exact ⟨fun z => absurd z (by decide), fun _ => h⟩
theorem bx_and {i m : Nat} (hi : i < 32) {A B : Prop} (f : i &&& m = i → A) (g : ¬ i &&& m = i → B) : (nI i &&& nI m = nI i → A) ∧ (¬ nI i &&& nI m = nI i → B) := by
  have l : i &&& m ≤ i := Nat.and_le_left
  rw [nx_and, nI_eq (by omega) (by omega)]
  exact ⟨f, g⟩
theorem bx_ic (n : Nat) (b : Bool) : nI n + bg_i b = nI (n + (if b = true then 1 else 0)) := by
  cases b
  · show nI n + nI 0 = _
    rw [nI_add]; rfl
  · show nI n + nI 1 = _
    rw [nI_add]; rfl
theorem bx_k8 (k i : Nat) : (nI k * 8) + nI i = nI (k * 8 + i) := by
  rw [← nI_add, ← pk_mul]; rfl
theorem bx_8k (k i : Nat) : (8 * nI k) + nI i = nI (k * 8 + i) := by
  rw [← bx_k8, Int32.mul_comm]
/-! one bit of a long -/
theorem bg_l1 : ∀ i, i < 64 → bg_l 1 i = decide (i = 0) := by decide +kernel
theorem bg_lan (x y : Int64) (i : Nat) : bg_l (x &&& y) i = (bg_l x i && bg_l y i) := by unfold bg_l; rw [Int64.toBitVec_and, BitVec.getLsbD_and]
theorem bg_la1 (w : Int64) : w &&& 1 = if bg_l w 0 = true then 1 else 0 := by
  apply bg_lext
  intro i hi
  rw [bg_lan, bg_l1 i hi]
  cases h : bg_l w 0
  · rw [if_neg (by decide), bg_l0]
    by_cases e : i = 0
    · rw [e, h, Bool.false_and]
    · rw [decide_eq_false e, Bool.and_false]
  · rw [if_pos rfl, bg_l1 i hi]
    by_cases e : i = 0
    · rw [e, h, Bool.true_and]
    · rw [decide_eq_false e, Bool.and_false]
theorem bg_u64 : ∀ n, n < 32 → (((nI n).toInt64.toUInt64 &&& Int64.toUInt64 63).toBitVec % 64).toNat = n := by decide +kernel
theorem bg_lsh (w : Int64) {n : Nat} (hn : n < 32) : bg_l (w.toUInt64 >>> ((nI n).toInt64.toUInt64 &&& Int64.toUInt64 63)).toInt64 0 = bg_l w n := by
  show (w.toUInt64 >>> ((nI n).toInt64.toUInt64 &&& Int64.toUInt64 63)).toBitVec.getLsbD 0 = w.toUInt64.toBitVec.getLsbD n
  rw [UInt64.toBitVec_shiftRight]
  show (w.toUInt64.toBitVec >>> (((nI n).toInt64.toUInt64 &&& Int64.toUInt64 63).toBitVec % 64).toNat).getLsbD 0 = _
  rw [bg_u64 n hn, BitVec.getLsbD_ushiftRight]; rfl
theorem bx_lb (w : Int64) {n : Nat} (hn : n < 32) {A B : Prop} (t : bg_l w n = true → A) (f : bg_l w n = false → B) : ((w.toUInt64 >>> ((nI n).toInt64.toUInt64 &&& Int64.toUInt64 63)).toInt64 &&& 1 = 1 → A) ∧ (¬ (w.toUInt64 >>> ((nI n).toInt64.toUInt64 &&& Int64.toUInt64 63)).toInt64 &&& 1 = 1 → B) := by
  rw [bg_la1, bg_lsh w hn]
  cases h : bg_l w n
  · rw [if_neg (by decide)]
    exact ⟨fun z => absurd z (by decide), fun _ => f h⟩
  · rw [if_pos rfl]
    exact ⟨fun _ => t h, fun z => absurd rfl z⟩
/-! the component's private methods -/
variable {kd pv ld bc : Int32} {gl gc rb bl : Nat → Int32} {rs : Nat → Int64}
theorem bx_id1 {post : Int32 → Prop} {k : Nat} (hk : k < 2) (h : post 1) : wpX_isIdeal post (nI k) := by
  have : k = 0 ∨ k = 1 := by omega
  rcases this with rfl | rfl
  · exact br_t rfl h
  · exact br_f bx_10 (br_t rfl h)
theorem bx_id0 {post : Int32 → Prop} {k : Int32} (h0 : ¬ k = 0) (h1 : ¬ k = 1) (h : post 0) : wpX_isIdeal post k := br_f h0 (br_f h1 h)
theorem bx_hb {post : Int32 → Prop} (x : Int32) {n : Nat} (hn : n < 32) (h : post (bg_i (bt x n))) : wpX_hasBit post x (nI n) := by
  unfold wpX_hasBit
  rw [bg_hb x hn]
  exact bx_if1 (bx_ii h).2 (bx_ii h).1
theorem bx_ex {post : Int32 → Prop} (p : Int32) (h : post (bg_x p)) : wpX_exchange post p := nm_e (nm_e (nm_e (nm_e (nm_e h))))
theorem bx_cb {post : Int32 → Prop} (x : Int32) (h : post (nI (bg_ct (bt x) 32))) : wpX_countBits post x := by
  refine loop_0 (fun n i s => wX_countBits_4 post x n s (nI i)) (fun i s => s = nI (bg_ct (bt x) i)) 32 0 rfl ?_ ?_
  · intro n s hs
    exact br_t bx_y32 (by rw [hs]; exact h)
  · intro n i s hi hs K
    refine br_f (bx_n32 hi) (nm_r (e' := nI (bg_ct (bt x) (i + 1))) ?_ (nm_r (nI_1 i) (K _ rfl)))
    rw [bg_hb x hi, hs, bx_ic, bg_ctS]
theorem bx_mo {post : Int32 → Prop} {r : Nat} (hr : r < 32) (hT : ∀ r, r < 32 → rb r = nI (bg_mo true r)) (h : post (nI (bg_mo (decide (kd = 0)) r))) : wpX_monomialAt post (kd, pv, ld, bc, gl, gc, rb, rs, bl) (nI r) := by
  by_cases e : kd = 0
  · refine br_t e ⟨vp_in_nI hr (by decide), ?_⟩
    rw [nI_clamp (by omega), hT r hr]
    rw [decide_eq_true e] at h
    exact h
  · rw [decide_eq_false e] at h
    exact br_f e h
def bg_zs (l : Nat → Int32) (b : Nat) : Nat → Int32
  | 0 => -1
  | n + 1 => bg_zs l b n &&& (bg_x (l (b + n)) ^^^ (-1))
theorem bx_zs {post : Int32 → Prop} {k c : Nat} (hk : k < 2) (hc : c ≤ 8) (e : gc k = nI c) (h : post (bg_zs gl (k * 8) c)) : wpX_zeroSet post (kd, pv, ld, bc, gl, gc, rb, rs, bl) (nI k) := by
  refine ⟨vp_in_nI hk (by decide), nm_r (e' := nI c) (by rw [nI_clamp (by omega)]; exact e) ?_⟩
  refine loop_0 (fun n i s => wX_zeroSet_12 post (nI k) (nI c) kd pv ld bc gl gc rb rs bl n s (nI i)) (fun i s => s = bg_zs gl (k * 8) i) c (-1) rfl ?_ ?_
  · intro n s hs
    exact br_t (nI_le (Nat.le_refl c) (by omega)) (by rw [hs]; exact h)
  · intro n i s hi hs K
    refine br_f (nI_ge hi (by omega)) ⟨by rw [bx_k8]; exact vp_in_nI (by omega) (by decide), bx_ex _ (nm_r (e' := bg_zs gl (k * 8) (i + 1)) ?_ (nm_r (nI_1 i) (K _ rfl)))⟩
    rw [bx_k8, nI_clamp (by omega), hs]; rfl
theorem bx_rd {post : Int64 → Prop} {w : Int64} (h : post (bg_rx pv rs w 32)) : wpX_reduce post (kd, pv, ld, bc, gl, gc, rb, rs, bl) w := by
  refine loop_0 (fun n i s => wX_reduce_5 post kd pv ld bc gl gc rb rs bl n s (nI i)) (fun i s => s = bg_rx pv rs w i) 32 w rfl ?_ ?_
  · intro n s hs
    exact br_t bx_y32 (by rw [hs]; exact h)
  · intro n i s hi hs K
    refine br_f (bx_n32 hi) (bx_hb pv hi (bx_if (fun e => nm_r (nI_1 i) (K _ ?_)) (fun e => bx_lb s hi (fun e2 => ⟨vp_in_nI hi (by decide), nm_e (nm_r (nI_1 i) (K _ ?_))⟩) (fun e2 => nm_r (nI_1 i) (K _ ?_)))))
    · rw [bg_rxS, e, Bool.false_and, if_neg (by decide)]; exact hs
    · rw [bg_rxS, ← hs, e, e2, if_pos (by rfl), nI_clamp (by omega)]
    · rw [bg_rxS, ← hs, e, e2, if_neg (by decide)]
theorem bx_rde {post : Int64 → Prop} {w W : Int64} (e : bg_rx pv rs w 32 = W) (h : post W) : wpX_reduce post (kd, pv, ld, bc, gl, gc, rb, rs, bl) w := bx_rd (by rw [e]; exact h)
theorem bx_hd {post : Int32 → Prop} {m : Nat} (hm : m < 32) (h : post (bg_i (bg_hd (bt ld) m m))) : wpX_hasLedDivisor post (kd, pv, ld, bc, gl, gc, rb, rs, bl) (nI m) := by
  refine loop_0 (fun n i (_ : Unit) => wX_hasLedDivisor_2 post (nI m) kd pv ld bc gl gc rb rs bl n (nI i)) (fun i _ => bg_hd (bt ld) m i = false) m () rfl ?_ ?_
  · intro n s hs
    exact br_t (nI_le (Nat.le_refl m) (by omega)) ((bx_ii h).1 hs)
  · intro n i s hi hs K
    have hi2 : i < 32 := by omega
    refine br_f (nI_ge hi (by omega)) (bx_and hi2 (fun c => bx_hb ld hi2 (bx_if (fun e => nm_r (nI_1 i) (K () ?_)) (fun e => (bx_ii h).2 (bg_hd_t hi c e)))) (fun c => nm_r (nI_1 i) (K () ?_)))
    · rw [bg_hdS, hs, e, Bool.and_false]; rfl
    · rw [bg_hdS, hs, decide_eq_false c]; rfl
theorem bx_al {post : SX → Prop} {m b : Nat} (hm : m < 32) (hb : b < 32) (w : Int64)
    (h0 : bg_hd (bt ld) m m = true → post (kd, pv, ld ||| bg_b m, nI b, gl, gc, rb, rs, bl))
    (h1 : bg_hd (bt ld) m m = false → post (kd, pv, ld ||| bg_b m, nI (b + 1), gl, gc, rb, rs, upd bl b (bg_h w))) :
    wpX_addLed post (kd, pv, ld, nI b, gl, gc, rb, rs, bl) (nI m) w := by
  refine bx_hd hm (bx_if (fun e => br_f (bx_n32 hb) ⟨vp_in_nI hb (by decide), nm_e (nm_r (nI_1 b) (nm_e ?_))⟩) (fun e => nm_e (h0 e)))
  rw [nI_clamp (by omega)]
  exact h1 e
theorem bx_ap {post : SX → Prop} (w : Int64) (hv : ¬ w.toInt32 = 0) (h : post (kd, pv ||| bg_b (bg_lb w.toInt32), ld, bc, gl, gc, rb, vp_updL rs (bg_lb w.toInt32) w, bl)) : wpX_addPivot post (kd, pv, ld, bc, gl, gc, rb, rs, bl) w := by
  show ∃ n8 : Nat, wX_addPivot_8 post w w.toInt32 kd pv ld bc gl gc rb rs bl n8 0
  refine loop_0 (fun n i (_ : Unit) => wX_addPivot_8 post w w.toInt32 kd pv ld bc gl gc rb rs bl n (nI i)) (fun i _ => ∀ q, q < i → bt w.toInt32 q = false) 32 () (fun q hq => absurd hq (Nat.not_lt_zero q)) ?_ ?_
  · intro n s hs
    obtain ⟨q, hq, hb⟩ := bg_nz hv
    rw [hs q hq] at hb
    exact absurd hb (by decide)
  · intro n i s hi hs K
    refine br_f (bx_n32 hi) (bx_hb _ hi (bx_if (fun e => nm_r (nI_1 i) (K () ?_)) (fun e => ⟨vp_in_nI hi (by decide), nm_e (nm_e ?_)⟩)))
    · intro q hq
      by_cases c : q = i
      · rw [c]; exact e
      · exact hs q (by omega)
    · rw [nI_clamp (by omega)]
      have c := bg_lbu e hs hv
      rw [c] at h
      exact h
end BGE
end
section
section BGF
variable {kd pv ld bc : Int32} {gl gc rb bl : Nat → Int32} {rs : Nat → Int64}
/-- where solve stands before rank i -/
def bx_I (z : Int32) (d : Bool) (i : Nat) (s : Int32 × Int32 × Int32 × (Nat → Int64) × (Nat → Int32)) : Prop :=
  s.1 = bg_P z d i ∧ s.2.1 = bg_L z d i ∧ s.2.2.1 = nI (bg_ct (fun r => bg_le z d (bg_mo d r)) i) ∧ (∀ p, p < 32 → bt (bg_P z d i) p = true → s.2.2.2.1 p = bg_R z d i p) ∧ (∀ r, r < i → bg_le z d (bg_mo d r) = true → s.2.2.2.2 (bg_ct (fun r => bg_le z d (bg_mo d r)) r) = bg_h (bg_W z d r))
theorem bx_It {z : Int32} {d : Bool} {i : Nat} (hi : i < 32) {rs : Nat → Int64} {bl : Nat → Int32} (h : (bg_W z d i).toInt32 = 0) (hd : bg_hd (bt (bg_L z d i)) (bg_mo d i) (bg_mo d i) = true) (I : bx_I z d i (bg_P z d i, bg_L z d i, nI (bg_ct (fun r => bg_le z d (bg_mo d r)) i), rs, bl)) : bx_I z d (i + 1) (bg_P z d i, bg_L z d i ||| bg_b (bg_mo d i), nI (bg_ct (fun r => bg_le z d (bg_mo d r)) i), rs, bl) := by
  obtain ⟨_, _, _, i4, i5⟩ := I
  have hl : bg_le z d (bg_mo d i) = false := by
    unfold bg_le
    rw [← bg_hdi z d hi, hd, Bool.not_true, Bool.and_false]
  obtain ⟨e1, e2, e3⟩ := bg_elT h
  refine ⟨e1.symm, e3.symm, ?_, ?_, ?_⟩
  · show nI _ = nI _
    rw [bg_ctF (f := fun r => bg_le z d (bg_mo d r)) hl]
  · intro p hp hP
    rw [e1] at hP
    rw [e2]
    exact i4 p hp hP
  · intro r hr hle
    by_cases c : r = i
    · rw [c, hl] at hle
      exact absurd hle (by decide)
    · exact i5 r (by omega) hle
theorem bx_If {z : Int32} {d : Bool} {i : Nat} (hi : i < 32) {rs : Nat → Int64} {bl : Nat → Int32} (h : (bg_W z d i).toInt32 = 0) (hd : bg_hd (bt (bg_L z d i)) (bg_mo d i) (bg_mo d i) = false) (I : bx_I z d i (bg_P z d i, bg_L z d i, nI (bg_ct (fun r => bg_le z d (bg_mo d r)) i), rs, bl)) : bx_I z d (i + 1) (bg_P z d i, bg_L z d i ||| bg_b (bg_mo d i), nI (bg_ct (fun r => bg_le z d (bg_mo d r)) i + 1), rs, upd bl (bg_ct (fun r => bg_le z d (bg_mo d r)) i) (bg_h (bg_W z d i))) := by
  obtain ⟨_, _, _, i4, i5⟩ := I
  have hl : bg_le z d (bg_mo d i) = true := by
    unfold bg_le
    rw [← bg_hdi z d hi, hd, bg_rk_mo d i hi]
    unfold bg_ld
    rw [decide_eq_true h]; rfl
  obtain ⟨e1, e2, e3⟩ := bg_elT h
  refine ⟨e1.symm, e3.symm, ?_, ?_, ?_⟩
  · show nI _ = nI _
    rw [bg_ctT (f := fun r => bg_le z d (bg_mo d r)) hl]
  · intro p hp hP
    rw [e1] at hP
    rw [e2]
    exact i4 p hp hP
  · intro r hr hle
    show upd bl (bg_ct (fun r => bg_le z d (bg_mo d r)) i) (bg_h (bg_W z d i)) (bg_ct (fun r => bg_le z d (bg_mo d r)) r) = bg_h (bg_W z d r)
    by_cases c : r = i
    · rw [c, pk_us]
    · have m := bg_ct_mono (fun r => bg_le z d (bg_mo d r)) (r + 1) i (by omega)
      rw [bg_ctT (f := fun r => bg_le z d (bg_mo d r)) hle] at m
      rw [pk_un (by omega)]
      exact i5 r (by omega) hle
theorem bx_Ip {z : Int32} {d : Bool} {i : Nat} (hi : i < 32) {rs : Nat → Int64} {bl : Nat → Int32} (h : ¬ (bg_W z d i).toInt32 = 0) (I : bx_I z d i (bg_P z d i, bg_L z d i, nI (bg_ct (fun r => bg_le z d (bg_mo d r)) i), rs, bl)) : bx_I z d (i + 1) (bg_P z d i ||| bg_b (bg_lb (bg_W z d i).toInt32), bg_L z d i, nI (bg_ct (fun r => bg_le z d (bg_mo d r)) i), vp_updL rs (bg_lb (bg_W z d i).toInt32) (bg_W z d i), bl) := by
  obtain ⟨_, _, _, i4, i5⟩ := I
  have hl : bg_le z d (bg_mo d i) = false := by
    unfold bg_le
    rw [bg_rk_mo d i hi]
    unfold bg_ld
    rw [decide_eq_false h, Bool.false_and]
  obtain ⟨e1, e2, e3⟩ := bg_elF h
  refine ⟨e1.symm, e3.symm, ?_, ?_, ?_⟩
  · show nI _ = nI _
    rw [bg_ctF (f := fun r => bg_le z d (bg_mo d r)) hl]
  · intro p hp hP
    rw [e2]
    show vp_updL rs (bg_lb (bg_W z d i).toInt32) (bg_W z d i) p = _
    by_cases c : p = bg_lb (bg_W z d i).toInt32
    · rw [c, pk_uLs, pk_uLs]
    · rw [pk_uLn c, pk_uLn c]
      rw [e1, b_or, bg_bb (bg_lbs h).1 hp, decide_eq_false c, Bool.or_false] at hP
      exact i4 p hp hP
  · intro r hr hle
    by_cases c : r = i
    · rw [c, hl] at hle
      exact absurd hle (by decide)
    · exact i5 r (by omega) hle
theorem bx_sv {post : SX → Prop} {k c : Nat} (hk : k < 2) (hc : c ≤ 8) (e : gc k = nI c) (hT : ∀ r, r < 32 → rb r = nI (bg_mo true r))
    (h : ∀ (rs' : Nat → Int64) (bl' : Nat → Int32), (∀ p, p < 32 → bt (bg_P (bg_zs gl (k * 8) c) (decide (kd = 0)) 32) p = true → rs' p = bg_R (bg_zs gl (k * 8) c) (decide (kd = 0)) 32 p) → (∀ r, r < 32 → bg_le (bg_zs gl (k * 8) c) (decide (kd = 0)) (bg_mo (decide (kd = 0)) r) = true → bl' (bg_ct (fun r => bg_le (bg_zs gl (k * 8) c) (decide (kd = 0)) (bg_mo (decide (kd = 0)) r)) r) = bg_h (bg_W (bg_zs gl (k * 8) c) (decide (kd = 0)) r)) →
      post (kd, bg_P (bg_zs gl (k * 8) c) (decide (kd = 0)) 32, bg_L (bg_zs gl (k * 8) c) (decide (kd = 0)) 32, nI (bg_ct (fun r => bg_le (bg_zs gl (k * 8) c) (decide (kd = 0)) (bg_mo (decide (kd = 0)) r)) 32), gl, gc, rb, rs', bl')) :
    wpX_solve post (kd, pv, ld, bc, gl, gc, rb, rs, bl) (nI k) := by
  refine bx_zs hk hc e ?_
  generalize bg_zs gl (k * 8) c = z at h ⊢
  generalize hd : decide (kd = 0) = d at h
  refine loop_0 (fun n i (s : Int32 × Int32 × Int32 × (Nat → Int64) × (Nat → Int32)) => wX_solve_23 post z n (nI i) kd s.1 s.2.1 s.2.2.1 gl gc rb s.2.2.2.1 s.2.2.2.2) (bx_I z d) 32 (0, 0, 0, rs, bl) ?_ ?_ ?_
  · refine ⟨rfl, rfl, rfl, ?_, ?_⟩
    · intro p _ hP
      have hP' : bt 0 p = true := hP
      rw [b_0] at hP'
      exact absurd hP' (by decide)
    · intro r hr
      exact absurd hr (Nat.not_lt_zero r)
  · intro n s hs
    obtain ⟨s1, s2, s3, s4, s5⟩ := s
    obtain ⟨h1, h2, h3, h4, h5⟩ := hs
    have h1' : s1 = bg_P z d 32 := h1
    have h2' : s2 = bg_L z d 32 := h2
    have h3' : s3 = nI (bg_ct (fun r => bg_le z d (bg_mo d r)) 32) := h3
    subst h1' h2' h3'
    exact br_t bx_y32 (h s4 s5 h4 h5)
  · intro n i s hi hs K
    obtain ⟨s1, s2, s3, s4, s5⟩ := s
    have hs' := hs
    obtain ⟨h1, h2, h3, h4, h5⟩ := hs
    have h1' : s1 = bg_P z d i := h1
    have h2' : s2 = bg_L z d i := h2
    have h3' : s3 = nI (bg_ct (fun r => bg_le z d (bg_mo d r)) i) := h3
    subst h1' h2' h3'
    have hm := bg_mo_lt d i hi
    have hb := bg_ct_le (fun r => bg_le z d (bg_mo d r)) i
    have ew : bg_rx (bg_P z d i) s4 (bg_w0 z (bg_mo d i)) 32 = bg_W z d i := bg_rx_c _ 32 h4
    refine br_f (bx_n32 hi) (bx_mo hi hT ?_)
    rw [hd]
    refine nm_e (bx_ex _ (nm_e (bx_rde (w := bg_w0 z (bg_mo d i)) ew ?_)))
    refine br_c (fun c => bx_al hm (by omega) _ (fun e1 => nm_r (nI_1 i) (K (_, _, _, _, _) (bx_It hi c e1 hs'))) (fun e1 => nm_r (nI_1 i) (K (_, _, _, _, _) (bx_If hi c e1 hs')))) (fun c => bx_ap _ c (nm_r (nI_1 i) (K (_, _, _, _, _) (bx_Ip hi c hs'))))
/-! the table of the constructor -/
def bx_F (v m : Nat) (s : Int32 × (Nat → Int32)) : Prop := s.1 = nI (bg_cn v m) ∧ ∀ r, r < bg_cn v m → s.2 r = nI (bg_mo true r)
theorem bx_fi {post : SX → Prop} {J4 : Int32 → Int32 → (Nat → Int32) → (Nat → Int32) → (Nat → Int32) → (Nat → Int64) → (Nat → Int32) → Prop} {v : Nat} (hv : v < 6) {x1 : Int32} (hI : bx_F v 0 (x1, rb)) (h : ∀ s, bx_F (v + 1) 0 s → J4 s.1 (nI (v + 1)) gl gc s.2 rs bl) : ∃ n, wX_fillRisingByVariables_11 post J4 (nI v) kd pv ld bc n x1 0 gl gc rb rs bl := by
  refine loop_0 (fun n i (s : Int32 × (Nat → Int32)) => wX_fillRisingByVariables_11 post J4 (nI v) kd pv ld bc n s.1 (nI i) gl gc s.2 rs bl) (bx_F v) 32 (x1, rb) hI ?_ ?_
  · intro n s hs
    refine br_t bx_y32 (nm_r (nI_1 v) (h s ?_))
    unfold bx_F at hs ⊢
    rw [← bg_cnS v hv]
    exact hs
  · intro n i s hi hs K
    obtain ⟨s1, s2⟩ := s
    obtain ⟨h1, h2⟩ := hs
    have h1' : s1 = nI (bg_cn v i) := h1
    subst h1'
    refine br_f (bx_n32 hi) (bx_cb _ ?_)
    rw [bg_dg32 i hi]
    have hdg := bg_dg_lt i
    refine ⟨fun c => ?_, fun c => ?_⟩
    · have c' : bg_dg i = v := (nI_eq (by omega) (by omega)).mp c
      obtain ⟨t1, t2, t3⟩ := bg_cnT v hv i hi c'
      refine br_f (bx_n32 t3) ⟨vp_in_nI t3 (by decide), nm_e (nm_r (nI_1 _) (nm_r (nI_1 i) (K (_, _) ⟨?_, ?_⟩)))⟩
      · show nI _ = nI _
        rw [t2]
      · intro r hr
        show upd s2 (nI (bg_cn v i)).toNatClampNeg (nI i) r = _
        rw [nI_clamp (by omega)]
        by_cases q : r = bg_cn v i
        · rw [q, pk_us]
          show nI i = nI (bg_T.getD (bg_cn v i) 0)
          rw [t1]
        · rw [pk_un q]
          exact h2 r (by omega)
    · have c' : ¬ bg_dg i = v := fun z => c (by rw [z])
      have t := bg_cnF v hv i hi c'
      refine nm_r (nI_1 i) (K (_, _) ⟨?_, ?_⟩)
      · show nI _ = nI _
        rw [t]
      · intro r hr
        rw [t] at hr
        exact h2 r hr
theorem bx_f5 {j : Nat} (h : j < 6) : ¬ (5 : Int32) < nI j := nI_nlt (a := 5) (b := j) (by omega) (by decide)
theorem bx_fl {post : SX → Prop} (h : ∀ rb' : Nat → Int32, (∀ r, r < 32 → rb' r = nI (bg_mo true r)) → post (kd, pv, ld, bc, gl, gc, rb', rs, bl)) : wpX_fillRisingByVariables post (kd, pv, ld, bc, gl, gc, rb, rs, bl) := by
  refine loop_0 (fun n i (s : Int32 × (Nat → Int32)) => wX_fillRisingByVariables_4 post kd pv ld bc n s.1 (nI i) gl gc s.2 rs bl) (fun i s => bx_F i 0 s) 6 (0, rb) ?_ ?_ ?_
  · refine ⟨?_, ?_⟩
    · show (0 : Int32) = nI (bg_cn 0 0)
      rw [bg_cn0]; rfl
    · intro r hr
      rw [bg_cn0] at hr
      exact absurd hr (Nat.not_lt_zero r)
  · intro n s hs
    obtain ⟨s1, s2⟩ := s
    obtain ⟨_, h2⟩ := hs
    rw [bg_cn6] at h2
    exact br_t (show (5 : Int32) < nI 6 from nI_lt (a := 5) (b := 6) (by decide) (by decide)) (h s2 h2)
  · intro n i s hi hs K
    exact br_f (bx_f5 hi) (bx_fi hi hs (fun s' hs' => K s' hs'))
end BGF
end
section
section BGG
variable {kd zs nr : Int32} {cn ls od rw md le : Nat → Int32}
theorem bY_b0 {post : Int32 → Prop} {k : Nat} (hk : k < 2) (h : post 0) : wpY_bad post (kd, zs, nr, cn, ls, od, rw, md, le) (nI k) :=
  br_f (nI_pos (by omega)) (br_t (show nI k ≤ (1 : Int32) from nI_le (a := k) (b := 1) (by omega) (by decide)) h)
theorem bY_b1 {post : Int32 → Prop} {k : Int32} (h0 : ¬ k = 0) (h1 : ¬ k = 1) (h : post 1) : wpY_bad post (kd, zs, nr, cn, ls, od, rw, md, le) k := by
  by_cases c : k < 0
  · exact br_t c h
  · refine br_f c (br_f ?_ h)
    intro c1
    obtain ⟨j, hj, e⟩ := nI_of2 (x := k) (M := 1) (n := 1) (by decide) c c1
    have : j = 0 ∨ j = 1 := by omega
    rcases this with rfl | rfl
    · exact h0 e
    · exact h1 e
theorem bY_at {post : Int32 → Prop} (p : Int32) {x : Nat} (h : post (bg_i (bg_ev p x))) : wpY_at post (kd, zs, nr, cn, ls, od, rw, md, le) p (nI x) := by
  refine loop_0 (fun n i s => wY_at_5 post p (nI x) kd zs nr cn ls od rw md le n s (nI i)) (fun i s => s = bg_i (bg_xs (fun m => bt p m && decide (m &&& x = m)) i)) 32 0 rfl ?_ ?_
  · intro n s hs
    exact br_t bx_y32 (by rw [hs]; exact h)
  · intro n i s hi hs K
    refine br_f (bx_n32 hi) ?_
    rw [bg_sb p hi]
    refine bx_if1 (fun e => bx_and hi (fun c => nm_e (nm_r (nI_1 i) (K _ ?_))) (fun c => nm_r (nI_1 i) (K _ ?_))) (fun e => nm_r (nI_1 i) (K _ ?_))
    · rw [bg_xsS, hs, bg_ix, e, decide_eq_true c]
      cases bg_xs (fun m => bt p m && decide (m &&& x = m)) i <;> rfl
    · rw [bg_xsS, hs, decide_eq_false c, Bool.and_false, Bool.xor_false]
    · rw [bg_xsS, hs, e, Bool.false_and, Bool.xor_false]
theorem bY_fi {post : Int32 → Prop} {J4 : Int32 → Int32 → Prop} (v x2 : Int32) {m : Nat} (h : J4 (x2 ||| (bg_i (bg_ev v m) <<< (nI m &&& 31))) (nI (m + 1))) : ∃ n, wY_fromValues_16 post J4 v x2 (nI m) kd zs nr cn ls od rw md le n 0 0 := by
  refine loop_0 (fun n i s => wY_fromValues_16 post J4 v x2 (nI m) kd zs nr cn ls od rw md le n s (nI i)) (fun i s => s = bg_i (bg_xs (fun x => bt v x && decide (x &&& m = x)) i)) 32 0 rfl ?_ ?_
  · intro n s hs
    refine br_t bx_y32 (nm_r (e' := x2 ||| (bg_i (bg_ev v m) <<< (nI m &&& 31))) ?_ (nm_r (nI_1 m) h))
    rw [hs]; rfl
  · intro n i s hi hs K
    refine br_f (bx_n32 hi) (bx_and hi (fun c => nm_e (nm_r (nI_1 i) (K _ ?_))) (fun c => nm_r (nI_1 i) (K _ ?_)))
    · rw [bg_sb v hi, bg_xsS, hs, bg_ixx, decide_eq_true c, Bool.and_true]
    · rw [bg_xsS, hs, decide_eq_false c, Bool.and_false, Bool.xor_false]
theorem bY_fv {post : Int32 → Prop} (v : Int32) (h : post (bg_x v)) : wpY_fromValues post (kd, zs, nr, cn, ls, od, rw, md, le) v := by
  refine loop_0 (fun n i s => wY_fromValues_4 post v kd zs nr cn ls od rw md le n s (nI i)) (fun i s => bg_fl s (bg_ev v) i) 32 0 (bg_fl0 _) ?_ ?_
  · intro n s hs
    refine br_t bx_y32 ?_
    rw [bg_flE hs (bg_xb v)]
    exact h
  · intro n i s hi hs K
    exact br_f (bx_n32 hi) (bY_fi v s (K _ (bg_flS hi hs)))
theorem bY_av {post : Int32 → Prop} (p : Int32) (h : post (bg_x p)) : wpY_allValues post (kd, zs, nr, cn, ls, od, rw, md, le) p := by
  refine loop_0 (fun n i s => wY_allValues_4 post p kd zs nr cn ls od rw md le n s (nI i)) (fun i s => bg_fl s (bg_ev p) i) 32 0 (bg_fl0 _) ?_ ?_
  · intro n s hs
    refine br_t bx_y32 ?_
    rw [bg_flE hs (bg_xb p)]
    exact h
  · intro n i s hi hs K
    exact br_f (bx_n32 hi) (bY_at p (nm_e (nm_r (nI_1 i) (K _ (bg_flS hi hs)))))
theorem bY_sz {post : Int32 → Prop} {m : Nat} (hm : m < 32) (h : post (nI (bg_dg m))) : wpY_size post (kd, zs, nr, cn, ls, od, rw, md, le) (nI m) := by
  refine loop_0 (fun n i s => wY_size_4 post (nI m) kd zs nr cn ls od rw md le n s (nI i)) (fun i s => s = nI (bg_ct (bt (nI m)) i)) 5 0 rfl ?_ ?_
  · intro n s hs
    refine br_t (show (5 : Int32) ≤ nI 5 from nI_le (a := 5) (b := 5) (Nat.le_refl 5) (by decide)) ?_
    rw [hs, bg_dg5 m hm]
    exact h
  · intro n i s hi hs K
    refine br_f (show ¬ (5 : Int32) ≤ nI i from nI_ge (b := 5) hi (by decide)) (nm_r (e' := nI (bg_ct (bt (nI m)) (i + 1))) ?_ (nm_r (nI_1 i) (K _ rfl)))
    rw [bg_sb (nI m) (show i < 32 by omega), hs, bx_ic, bg_ctS]
theorem bY_l38 {post : Int32 → Prop} {a b : Nat} (ha : a < 32) (hb : b < 32) (h : post (bg_i (decide (a < b)))) : wY_lower_38 post (nI a) (nI b) kd zs nr cn ls od rw md le := by
  unfold wY_lower_38
  rw [nI_leI (by omega) (by omega)]
  refine ⟨fun c => ?_, fun c => ?_⟩
  · exact (bx_ii h).1 (decide_eq_false (by omega))
  · exact (bx_ii h).2 (decide_eq_true (by omega))
theorem bY_lo {post : Int32 → Prop} {a b : Nat} (ha : a < 32) (hb : b < 32) (h : post (bg_i (bg_lo (decide (kd = 0)) a b))) : wpY_lower post (kd, zs, nr, cn, ls, od, rw, md, le) (nI a) (nI b) := by
  have da := bg_dg_lt a
  have db := bg_dg_lt b
  unfold bg_lo at h
  refine bY_sz ha (bY_sz hb ?_)
  by_cases e : kd = 0
  · refine br_t e ?_
    rw [decide_eq_true e, Bool.true_and] at h
    by_cases q : bg_dg a = bg_dg b
    · rw [decide_eq_true q, Bool.not_true, if_neg (by decide)] at h
      exact br_t (by rw [q]) (bY_l38 ha hb h)
    · rw [decide_eq_false q, Bool.not_false, if_pos rfl] at h
      refine br_f (fun z => q ((nI_eq (by omega) (by omega)).mp z)) ?_
      rw [nI_leI (by omega) (by omega)]
      refine ⟨fun c => ?_, fun c => ?_⟩
      · exact (bx_ii h).1 (decide_eq_false (by omega))
      · exact (bx_ii h).2 (decide_eq_true (by omega))
  · rw [decide_eq_false e, Bool.false_and, if_neg (by decide)] at h
    exact br_f e (bY_l38 ha hb h)
theorem bY_on {post : Int32 → Prop} (x : Int32) (h : post (nI (bg_ct (bt x) 32))) : wpY_ones post (kd, zs, nr, cn, ls, od, rw, md, le) x := by
  refine loop_0 (fun n i s => wY_ones_4 post x kd zs nr cn ls od rw md le n s (nI i)) (fun i s => s = nI (bg_ct (bt x) i)) 32 0 rfl ?_ ?_
  · intro n s hs
    exact br_t bx_y32 (by rw [hs]; exact h)
  · intro n i s hi hs K
    refine br_f (bx_n32 hi) (nm_r (e' := nI (bg_ct (bt x) (i + 1))) ?_ (nm_r (nI_1 i) (K _ rfl)))
    rw [bg_sb x hi, hs, bx_ic, bg_ctS]
/-! the zeros -/
theorem bg_zsb (l : Nat → Int32) (b : Nat) {x : Nat} (hx : x < 32) (n : Nat) : bt (bg_zs l b (n + 1)) x = (bt (bg_zs l b n) x && !(bg_ev (l (b + n)) x)) := by
  show bt (bg_zs l b n &&& (bg_x (l (b + n)) ^^^ (-1))) x = _
  rw [b_and, b_xor, bg_xb _ x hx, b_m1 x hx, Bool.xor_true]
theorem bY_zi {post : Int32 → Prop} {J4 : Int32 → Int32 → Prop} {k c x : Nat} (hk : k < 2) (hc : c ≤ 8) (e : cn k = nI c) (hx : x < 32) (x2 : Int32) (h0 : bt (bg_zs ls (k * 8) c) x = false → J4 x2 (nI (x + 1))) (h1 : bt (bg_zs ls (k * 8) c) x = true → J4 (x2 ||| bg_b x) (nI (x + 1))) : ∃ n, wY_zerosOf_16 post J4 (nI k) x2 (nI x) kd zs nr cn ls od rw md le n 1 0 := by
  have ek : cn (nI k).toNatClampNeg = nI c := by rw [nI_clamp (by omega)]; exact e
  refine loop_0 (fun n i s => wY_zerosOf_16 post J4 (nI k) x2 (nI x) kd zs nr cn ls od rw md le n s (nI i)) (fun i s => s = bg_i (bt (bg_zs ls (k * 8) i) x)) c 1 ?_ ?_ ?_
  · show (1 : Int32) = bg_i (bt (-1) x)
    rw [b_m1 x hx]; rfl
  · intro n s hs
    refine ⟨vp_in_nI hk (by decide), br_t (by rw [ek]; exact nI_le (Nat.le_refl c) (by omega)) ?_⟩
    rw [hs]
    exact bx_if (fun q => nm_r (nI_1 x) (h0 q)) (fun q => nm_e (nm_r (nI_1 x) (h1 q)))
  · intro n i s hi hs K
    refine ⟨vp_in_nI hk (by decide), br_f (by rw [ek]; exact nI_ge hi (by omega)) (br_f (show ¬ (8 : Int32) ≤ nI i from nI_ge (b := 8) (by omega) (by decide)) ⟨by rw [bx_8k]; exact vp_in_nI (by omega) (by decide), ?_⟩)⟩
    rw [bx_8k, nI_clamp (n := k * 8 + i) (by omega)]
    refine bY_at _ (bx_if1 (fun q => nm_r (nI_1 i) (K _ ?_)) (fun q => nm_r (nI_1 i) (K _ ?_)))
    · show (0 : Int32) = _
      rw [bg_zsb ls _ hx, q, Bool.not_true, Bool.and_false]; rfl
    · rw [bg_zsb ls _ hx, q, Bool.not_false, Bool.and_true]; exact hs
theorem bY_zo {post : Int32 → Prop} {k c : Nat} (hk : k < 2) (hc : c ≤ 8) (e : cn k = nI c) (h : post (bg_zs ls (k * 8) c)) : wpY_zerosOf post (kd, zs, nr, cn, ls, od, rw, md, le) (nI k) := by
  refine loop_0 (fun n i s => wY_zerosOf_4 post (nI k) kd zs nr cn ls od rw md le n s (nI i)) (fun i s => bg_fl s (bt (bg_zs ls (k * 8) c)) i) 32 0 (bg_fl0 _) ?_ ?_
  · intro n s hs
    refine br_t bx_y32 ?_
    rw [bg_flE hs (fun j _ => rfl)]
    exact h
  · intro n i s hi hs K
    exact br_f (bx_n32 hi) (bY_zi hk hc e hi s (fun q => K _ (bg_flF q hs)) (fun q => K _ (bg_flT hi q hs)))
/-! the order -/
theorem bY_si {post : SY → Prop} {J2 : Int32 → (Nat → Int32) → (Nat → Int32) → (Nat → Int32) → (Nat → Int32) → (Nat → Int32) → (Nat → Int32) → Prop} {m : Nat} (hm : m < 32) (h : J2 (nI (m + 1)) cn ls (upd od (bg_rk (decide (kd = 0)) m) (nI m)) rw md le) : ∃ n, wY_sort_12 post J2 (nI m) kd zs nr cn ls od rw md le n 0 0 := by
  have hr := bg_rk_lt (decide (kd = 0)) m hm
  refine loop_0 (fun n i s => wY_sort_12 post J2 (nI m) kd zs nr cn ls od rw md le n s (nI i)) (fun i s => s = nI (bg_ct (fun l => bg_lo (decide (kd = 0)) l m) i)) 32 0 rfl ?_ ?_
  · intro n s hs
    rw [bg_rk_ct _ m hm] at hs
    subst hs
    refine br_t bx_y32 ⟨vp_in_nI hr (by decide), nm_r (e' := upd od (bg_rk (decide (kd = 0)) m) (nI m)) (by rw [nI_clamp (by omega)]) (nm_r (nI_1 m) h)⟩
  · intro n i s hi hs K
    subst hs
    refine br_f (bx_n32 hi) (bY_lo hi hm (bx_if (fun q => nm_r (nI_1 i) (K _ ?_)) (fun q => nm_r (nI_1 _) (nm_r (nI_1 i) (K _ ?_)))))
    · rw [bg_ctF (f := fun l => bg_lo (decide (kd = 0)) l m) q]
    · rw [bg_ctT (f := fun l => bg_lo (decide (kd = 0)) l m) q]
theorem bY_so {post : SY → Prop} (h : ∀ od' : Nat → Int32, (∀ r, r < 32 → od' r = nI (bg_mo (decide (kd = 0)) r)) → post (kd, zs, nr, cn, ls, od', rw, md, le)) : wpY_sort post (kd, zs, nr, cn, ls, od, rw, md, le) := by
  refine loop_0 (fun n i (s : Nat → Int32) => wY_sort_2 post kd zs nr n (nI i) cn ls s rw md le) (fun i s => ∀ m, m < i → s (bg_rk (decide (kd = 0)) m) = nI m) 32 od (fun m hm => absurd hm (Nat.not_lt_zero m)) ?_ ?_
  · intro n s hs
    refine br_t bx_y32 (h s (fun r hr => ?_))
    have := hs _ (bg_mo_lt (decide (kd = 0)) r hr)
    rwa [bg_rk_mo _ r hr] at this
  · intro n i s hi hs K
    refine br_f (bx_n32 hi) (bY_si hi (K _ ?_))
    intro m hm
    by_cases e : m = i
    · rw [e, pk_us]
    · rw [pk_un]
      · exact hs m (by omega)
      · intro q
        have a := bg_mo_rk (decide (kd = 0)) m (by omega)
        rw [q, bg_mo_rk _ i hi] at a
        exact e a.symm
end BGG
end
section
section BGH
variable {kd zs nr : Int32} {cn ls od rw md le : Nat → Int32}
theorem bY_v0 : vp_nar .boolean 0 = 0 := by decide
theorem bY_v1 : vp_nar .boolean 1 = 1 := by decide
theorem bY_vi (b : Bool) : vp_nar .boolean (bg_i b) = bg_i b := by
  cases b
  · exact bY_v0
  · exact bY_v1
/-- the reference's loop over its rows: work -/
theorem bY_wi {post : SY → Prop} {J20 : Int32 → Int32 → (Nat → Int32) → (Nat → Int32) → (Nat → Int32) → (Nat → Int32) → (Nat → Int32) → (Nat → Int32) → Prop} {i m q : Nat} (hm : m < 32) (hq : q < 32) (v c : Int32)
    (h0 : (bg_yr rw md v c q).1 = 0 → J20 (nI (i + 1)) (nI q) cn ls od rw md (upd le m 1))
    (h1 : ¬ (bg_yr rw md v c q).1 = 0 → J20 (nI (i + 1)) (nI (q + 1)) cn ls od (upd rw q (bg_yr rw md v c q).1) (upd md q (bg_yr rw md v c q).2) (upd le m 0)) :
    ∃ n, wY_work_55 post J20 (nI i) (nI m) kd zs (nI q) cn ls od rw md le n v c 0 := by
  refine loop_0 (fun n j (s : Int32 × Int32) => wY_work_55 post J20 (nI i) (nI m) kd zs (nI q) cn ls od rw md le n s.1 s.2 (nI j)) (fun j s => s = bg_yr rw md v c j) q (v, c) rfl ?_ ?_
  · intro n s hs
    have hs' : s = bg_yr rw md v c q := hs
    refine br_t (nI_le (Nat.le_refl q) (by omega)) ?_
    rw [hs']
    refine br_c (fun z => ⟨vp_in_nI hm (by decide), nm_r (e' := upd le m 1) (by rw [nI_clamp (by omega), bY_v1]) (br_t z (nm_r (nI_1 i) (h0 z)))⟩) (fun z => ⟨vp_in_nI hm (by decide), nm_r (e' := upd le m 0) (by rw [nI_clamp (by omega), bY_v0]) (br_f z ⟨vp_in_nI hq (by decide), nm_r (e' := upd rw q (bg_yr rw md v c q).1) (by rw [nI_clamp (by omega)]) ⟨vp_in_nI hq (by decide), nm_r (e' := upd md q (bg_yr rw md v c q).2) (by rw [nI_clamp (by omega)]) (nm_r (nI_1 q) (nm_r (nI_1 i) (h1 z)))⟩⟩)⟩)
  · intro n j s hj hs K
    have hs' : s = bg_yr rw md v c j := hs
    have hj2 : j < 32 := by omega
    have ej : (nI j).toNatClampNeg = j := nI_clamp (by omega)
    refine br_f (nI_ge hj (by omega)) ⟨vp_in_nI hj2 (by decide), vp_in_nI hj2 (by decide), nm_r (e' := rw j &&& -rw j) (by rw [ej]) (br_c (fun z => nm_r (nI_1 j) (K s ?_)) (fun z => ⟨vp_in_nI hj2 (by decide), nm_r (e' := s.1 ^^^ rw j) (by rw [ej]) ⟨vp_in_nI hj2 (by decide), nm_r (e' := s.2 ^^^ md j) (by rw [ej]) (nm_r (nI_1 j) (K (s.1 ^^^ rw j, s.2 ^^^ md j) ?_))⟩⟩))⟩
    · show s = bg_yr rw md v c (j + 1)
      rw [hs'] at z
      rw [bg_yrS, if_pos z, hs']
    · show (s.1 ^^^ rw j, s.2 ^^^ md j) = bg_yr rw md v c (j + 1)
      rw [hs'] at z ⊢
      rw [bg_yrS, if_neg z]
/-- .. and reduced -/
theorem bY_ri {post : Int32 → Prop} {q : Nat} (hq : q ≤ 32) (v c : Int32) (h : post (bg_yr rw md v c q).2) : ∃ n, wY_reduced_16 post kd zs (nI q) cn ls od rw md le n v c 0 := by
  refine loop_0 (fun n j (s : Int32 × Int32) => wY_reduced_16 post kd zs (nI q) cn ls od rw md le n s.1 s.2 (nI j)) (fun j s => s = bg_yr rw md v c j) q (v, c) rfl ?_ ?_
  · intro n s hs
    have hs' : s = bg_yr rw md v c q := hs
    refine br_t (nI_le (Nat.le_refl q) (by omega)) ?_
    rw [hs']
    exact h
  · intro n j s hj hs K
    have hs' : s = bg_yr rw md v c j := hs
    have hj2 : j < 32 := by omega
    have ej : (nI j).toNatClampNeg = j := nI_clamp (by omega)
    refine br_f (nI_ge hj (by omega)) ⟨vp_in_nI hj2 (by decide), vp_in_nI hj2 (by decide), nm_r (e' := rw j &&& -rw j) (by rw [ej]) (br_c (fun z => nm_r (nI_1 j) (K s ?_)) (fun z => ⟨vp_in_nI hj2 (by decide), nm_r (e' := s.1 ^^^ rw j) (by rw [ej]) ⟨vp_in_nI hj2 (by decide), nm_r (e' := s.2 ^^^ md j) (by rw [ej]) (nm_r (nI_1 j) (K (s.1 ^^^ rw j, s.2 ^^^ md j) ?_))⟩⟩))⟩
    · show s = bg_yr rw md v c (j + 1)
      rw [hs'] at z
      rw [bg_yrS, if_pos z, hs']
    · show (s.1 ^^^ rw j, s.2 ^^^ md j) = bg_yr rw md v c (j + 1)
      rw [hs'] at z ⊢
      rw [bg_yrS, if_neg z]
/-- where work stands before rank i -/
def bY_I (z : Int32) (d : Bool) (i : Nat) (s : Int32 × (Nat → Int32) × (Nat → Int32) × (Nat → Int32)) : Prop :=
  ∃ q, q ≤ i ∧ s.1 = nI q ∧ bg_Y (bg_P z d i) (bg_R z d i) q s.2.1 s.2.2.1 ∧ ∀ m, m < 32 → bg_rk d m < i → s.2.2.2 m = bg_i (bg_ld z d (bg_rk d m))
theorem bY_led {z : Int32} {d : Bool} {i : Nat} (hi : i < 32) {le : Nat → Int32} {b : Bool} (hb : bg_ld z d i = b) (h : ∀ m, m < 32 → bg_rk d m < i → le m = bg_i (bg_ld z d (bg_rk d m))) : ∀ m, m < 32 → bg_rk d m < i + 1 → upd le (bg_mo d i) (bg_i b) m = bg_i (bg_ld z d (bg_rk d m)) := by
  intro m hm hr
  by_cases e : m = bg_mo d i
  · rw [e, pk_us, bg_rk_mo d i hi, hb]
  · rw [pk_un e]
    refine h m hm ?_
    have : bg_rk d m ≠ i := by
      intro q
      apply e
      rw [← q]; exact (bg_mo_rk d m hm).symm
    omega
theorem bY_wk {post : SY → Prop} {k c : Nat} (hk : k < 2) (hc : c ≤ 8) (e : cn k = nI c)
    (h : ∀ (od' rw' md' le' : Nat → Int32) (q : Nat), q ≤ 32 → (∀ r, r < 32 → od' r = nI (bg_mo (decide (kd = 0)) r)) → bg_Y (bg_P (bg_zs ls (k * 8) c) (decide (kd = 0)) 32) (bg_R (bg_zs ls (k * 8) c) (decide (kd = 0)) 32) q rw' md' → (∀ m, m < 32 → le' m = bg_i (bg_ld (bg_zs ls (k * 8) c) (decide (kd = 0)) (bg_rk (decide (kd = 0)) m))) → post (kd, bg_zs ls (k * 8) c, nI q, cn, ls, od', rw', md', le')) :
    wpY_work post (kd, zs, nr, cn, ls, od, rw, md, le) (nI k) := by
  refine bY_zo hk hc e (bY_so (fun od' hod => ?_))
  generalize bg_zs ls (k * 8) c = z at h ⊢
  generalize hd : decide (kd = 0) = d at h hod
  refine loop_0 (fun n i (s : Int32 × (Nat → Int32) × (Nat → Int32) × (Nat → Int32)) => wY_work_20 post kd z n (nI i) s.1 cn ls od' s.2.1 s.2.2.1 s.2.2.2) (bY_I z d) 32 (0, rw, md, le) ?_ ?_ ?_
  · exact ⟨0, Nat.le_refl 0, rfl, bg_Y0 _ _ _, fun m _ hr => absurd hr (Nat.not_lt_zero _)⟩
  · intro n s hs
    obtain ⟨s1, s2, s3, s4⟩ := s
    obtain ⟨q, hq, h1, h2, h3⟩ := hs
    have h1' : s1 = nI q := h1
    subst h1'
    exact br_t bx_y32 (h od' s2 s3 s4 q hq hod h2 (fun m hm => h3 m hm (bg_rk_lt d m hm)))
  · intro n i s hi hs K
    obtain ⟨s1, s2, s3, s4⟩ := s
    obtain ⟨q, hq, h1, h2, h3⟩ := hs
    have h1' : s1 = nI q := h1
    subst h1'
    have hm := bg_mo_lt d i hi
    have I := bg_IVi z d i
    have ey := bg_yrx I h2 (bg_x (bg_b (bg_mo d i)) &&& z) (bg_b (bg_mo d i))
    have eW : bg_m (bg_yr s2 s3 (bg_x (bg_b (bg_mo d i)) &&& z) (bg_b (bg_mo d i)) q).2 (bg_yr s2 s3 (bg_x (bg_b (bg_mo d i)) &&& z) (bg_b (bg_mo d i)) q).1 = bg_W z d i := ey
    have ev : (bg_W z d i).toInt32 = (bg_yr s2 s3 (bg_x (bg_b (bg_mo d i)) &&& z) (bg_b (bg_mo d i)) q).1 := by rw [← eW, bg_mv]
    refine br_f (bx_n32 hi) ⟨vp_in_nI hi (by decide), nm_r (e' := nI (bg_mo d i)) (by rw [nI_clamp (by omega)]; exact hod i hi) (bY_av _ (nm_e (nm_e (bY_wi hm (show q < 32 by omega) _ _ (fun c0 => K (nI q, s2, s3, upd s4 (bg_mo d i) 1) ?_) (fun c0 => K (nI (q + 1), upd s2 q (bg_yr s2 s3 (bg_x (bg_b (bg_mo d i)) &&& z) (bg_b (bg_mo d i)) q).1, upd s3 q (bg_yr s2 s3 (bg_x (bg_b (bg_mo d i)) &&& z) (bg_b (bg_mo d i)) q).2, upd s4 (bg_mo d i) 0) ?_)))))⟩
    · have c1 : (bg_W z d i).toInt32 = 0 := by rw [ev]; exact c0
      obtain ⟨e1, e2, _⟩ := bg_elT c1
      refine ⟨q, by omega, rfl, ?_, ?_⟩
      · rw [e1, e2]; exact h2
      · exact bY_led hi (b := true) (decide_eq_true c1) h3
    · have c1 : ¬ (bg_W z d i).toInt32 = 0 := by rw [ev]; exact c0
      obtain ⟨e1, e2, _⟩ := bg_elF c1
      refine ⟨q + 1, by omega, rfl, ?_, ?_⟩
      · rw [e1, e2, ev, ← eW]
        exact bg_Yn I h2 ey c0
      · exact bY_led hi (b := false) (decide_eq_false c1) h3
theorem bY_rd {post : Int32 → Prop} {P : Int32} {R : Nat → Int64} {q : Nat} (hq : q ≤ 32) (I : bg_IV P R) (H : bg_Y P R q rw md) (p : Int32) (h : post (bg_h (bg_rx P R (bg_m 0 (bg_x p &&& zs)) 32))) : wpY_reduced post (kd, zs, nI q, cn, ls, od, rw, md, le) p := by
  refine bY_av _ (nm_e (bY_ri hq _ _ ?_))
  rw [← bg_yrx I H, bg_mh] at h
  exact h
theorem bY_le {post : Int32 → Prop} {f : Nat → Bool} (hle : ∀ m, m < 32 → le m = bg_i (f m)) {m : Nat} (hm : m < 32) (h : post (bg_i (f m && !(bg_hd f m m)))) : wpY_least post (kd, zs, nr, cn, ls, od, rw, md, le) (nI m) := by
  refine ⟨vp_in_nI hm (by decide), ?_⟩
  rw [nI_clamp (by omega), hle m hm]
  refine bx_if (fun e => (bx_ii h).1 (by rw [e, Bool.false_and])) (fun e => ?_)
  rw [e, Bool.true_and] at h
  refine loop_0 (fun n i (_ : Unit) => wY_least_13 post (nI m) kd zs nr cn ls od rw md le n (nI i)) (fun i _ => bg_hd f m i = false) m () rfl ?_ ?_
  · intro n s hs
    have hs' : bg_hd f m m = false := hs
    exact br_t (nI_le (Nat.le_refl m) (by omega)) ((bx_ii h).2 (by rw [hs']; rfl))
  · intro n i s hi hs K
    have hi2 : i < 32 := by omega
    refine br_f (nI_ge hi (by omega)) (bx_and hi2 (fun c => ⟨vp_in_nI hi2 (by decide), ?_⟩) (fun c => nm_r (nI_1 i) (K () ?_)))
    · rw [nI_clamp (by omega), hle i hi2]
      refine bx_if (fun q => nm_r (nI_1 i) (K () ?_)) (fun q => (bx_ii h).1 (by rw [bg_hd_t hi c q]; rfl))
      rw [bg_hdS, hs, q, Bool.and_false]; rfl
    · rw [bg_hdS, hs, decide_eq_false c]; rfl
end BGH
end
section
section BGJ
variable {kd pv ld bc : Int32} {gl gc rb bl : Nat → Int32} {rs : Nat → Int64} {zs nr : Int32} {od rw md le : Nat → Int32}
/-! the highest monomial -/
def bg_sp (d : Bool) (p : Int32) (v : Int32) : Prop := (v = -1 ∧ ∀ m, m < 32 → bt p m = false) ∨ ∃ b, b < 32 ∧ v = nI b ∧ bt p b = true ∧ ∀ m, m < 32 → bt p m = true → bg_rk d m ≤ bg_rk d b
theorem bg_spu {d : Bool} {p v v' : Int32} (h : bg_sp d p v) (h' : bg_sp d p v') : v' = v := by
  rcases h with ⟨e, h⟩ | ⟨b, hb, e, h1, h2⟩
  · rcases h' with ⟨e', _⟩ | ⟨b', hb', _, h1', _⟩
    · rw [e, e']
    · rw [h b' hb'] at h1'
      exact absurd h1' (by decide)
  · rcases h' with ⟨_, h'⟩ | ⟨b', hb', e', h1', h2'⟩
    · rw [h' b hb] at h1
      exact absurd h1 (by decide)
    · have a := h2 b' hb' h1'
      have a' := h2' b hb h1
      have q : bg_rk d b = bg_rk d b' := by omega
      have m := bg_mo_rk d b hb
      rw [q, bg_mo_rk d b' hb'] at m
      rw [e, e', m]
theorem bx_ldi {post : Int32 → Prop} {p : Int32} (hT : ∀ r, r < 32 → rb r = nI (bg_mo true r)) (h : ∀ v, bg_sp (decide (kd = 0)) p v → post v) : ∀ r, r ≤ 32 → (∀ j, r ≤ j → j < 32 → bt p (bg_mo (decide (kd = 0)) j) = false) → wX_leading_3 post p kd pv ld bc gl gc rb rs bl (r + 1) (nI r + (-1)) := by
  intro r
  induction r with
  | zero =>
    intro _ hn
    refine br_t (show nI 0 + (-1) < 0 by decide) (h _ (Or.inl ⟨rfl, fun m hm => ?_⟩))
    have := hn (bg_rk (decide (kd = 0)) m) (Nat.zero_le _) (bg_rk_lt _ m hm)
    rwa [bg_mo_rk _ m hm] at this
  | succ j ih =>
    intro hj hn
    have hj' : j < 32 := by omega
    rw [pk_m1]
    refine br_f (nI_pos (by omega)) (bx_mo hj' hT (bx_hb p (bg_mo_lt _ j hj') (bx_if (fun e => nm_e (ih (by omega) ?_)) (fun e => h _ (Or.inr ⟨_, bg_mo_lt _ j hj', rfl, e, ?_⟩)))))
    · intro i hi hi2
      by_cases q : i = j
      · rw [q]; exact e
      · exact hn i (by omega) hi2
    · intro m hm hb
      rw [bg_rk_mo _ j hj']
      apply Classical.byContradiction
      intro c
      have := hn (bg_rk (decide (kd = 0)) m) (by omega) (bg_rk_lt _ m hm)
      rw [bg_mo_rk _ m hm, hb] at this
      exact absurd this (by decide)
theorem bx_ldg {post : Int32 → Prop} {p : Int32} (hT : ∀ r, r < 32 → rb r = nI (bg_mo true r)) (h : ∀ v, bg_sp (decide (kd = 0)) p v → post v) : wpX_leading post (kd, pv, ld, bc, gl, gc, rb, rs, bl) p := by
  have := bx_ldi (pv := pv) (ld := ld) (bc := bc) (gl := gl) (gc := gc) (bl := bl) (rs := rs) hT h 32 (Nat.le_refl _) (fun j h1 h2 => by omega)
  rw [show nI 32 + (-1) = (31 : Int32) by decide] at this
  exact ⟨33, this⟩
theorem bY_ldg {post : Int32 → Prop} {p : Int32} (h : ∀ v, bg_sp (decide (kd = 0)) p v → post v) : wpY_leading post (kd, zs, nr, gc, gl, od, rw, md, le) p := by
  refine loop_0 (fun n i s => wY_leading_4 post p kd zs nr gc gl od rw md le n s (nI i)) (fun i s => (s = -1 ∧ ∀ m, m < i → bt p m = false) ∨ ∃ b, b < i ∧ s = nI b ∧ bt p b = true ∧ ∀ m, m < i → bt p m = true → bg_rk (decide (kd = 0)) m ≤ bg_rk (decide (kd = 0)) b) 32 (-1) (Or.inl ⟨rfl, fun m hm => absurd hm (Nat.not_lt_zero m)⟩) ?_ ?_
  · intro n s hs
    exact br_t bx_y32 (h s hs)
  · intro n i s hi hs K
    refine br_f (bx_n32 hi) ?_
    rw [bg_sb p hi]
    refine bx_if1 (fun e => ?_) (fun e => nm_r (nI_1 i) (K _ ?_))
    · rcases hs with ⟨q, hn⟩ | ⟨b, hb, q, h1, h2⟩
      · rw [q]
        refine br_t (show (-1 : Int32) < 0 by decide) (nm_r (nI_1 i) (K _ (Or.inr ⟨i, Nat.lt_succ_self i, rfl, e, fun m hm hb => ?_⟩)))
        by_cases c : m = i
        · rw [c]; exact Nat.le_refl _
        · rw [hn m (by omega)] at hb
          exact absurd hb (by decide)
      · rw [q]
        have hb2 : b < 32 := by omega
        refine br_f (nI_pos (by omega)) (bY_lo hb2 hi (bx_if (fun l => nm_r (nI_1 i) (K _ (Or.inr ⟨b, by omega, rfl, h1, fun m hm hbm => ?_⟩))) (fun l => nm_r (nI_1 i) (K _ (Or.inr ⟨i, Nat.lt_succ_self i, rfl, e, fun m hm hbm => ?_⟩)))))
        · by_cases c : m = i
          · rw [bg_lo_rk _ b hb2 i hi] at l
            have l' := of_decide_eq_false l
            rw [c]; omega
          · exact h2 m (by omega) hbm
        · rw [bg_lo_rk _ b hb2 i hi] at l
          have l' := of_decide_eq_true l
          by_cases c : m = i
          · rw [c]; exact Nat.le_refl _
          · have := h2 m (by omega) hbm
            omega
    · rcases hs with ⟨q, hn⟩ | ⟨b, hb, q, h1, h2⟩
      · refine Or.inl ⟨q, fun m hm => ?_⟩
        by_cases c : m = i
        · rw [c]; exact e
        · exact hn m (by omega)
      · refine Or.inr ⟨b, by omega, q, h1, fun m hm hbm => ?_⟩
        by_cases c : m = i
        · rw [c, e] at hbm
          exact absurd hbm (by decide)
        · exact h2 m (by omega) hbm
/-! the reference's questions after work -/
theorem bY_bs {post : Int32 → SY → Prop} {f : Nat → Bool} (hle : ∀ m, m < 32 → le m = bg_i (f m)) (h : post (nI (bg_ct (fun m => f m && !(bg_hd f m m)) 32)) (kd, zs, nr, gc, gl, od, rw, md, le)) : ∃ n, wY_basisSize_19 post kd zs nr gc gl od rw md le n 0 0 := by
  refine loop_0 (fun n i s => wY_basisSize_19 post kd zs nr gc gl od rw md le n s (nI i)) (fun i s => s = nI (bg_ct (fun m => f m && !(bg_hd f m m)) i)) 32 0 rfl ?_ ?_
  · intro n s hs
    exact br_t bx_y32 (by rw [hs]; exact h)
  · intro n i s hi hs K
    subst hs
    refine br_f (bx_n32 hi) (bY_le hle hi (bx_if (fun e => nm_r (nI_1 i) (K _ ?_)) (fun e => nm_r (nI_1 _) (nm_r (nI_1 i) (K _ ?_)))))
    · rw [bg_ctF (f := fun m => f m && !(bg_hd f m m)) e]
    · rw [bg_ctT (f := fun m => f m && !(bg_hd f m m)) e]
theorem bY_sd {post : Int32 → SY → Prop} {f : Nat → Bool} (hle : ∀ m, m < 32 → le m = bg_i (f m)) (h : post (nI (bg_ct (fun m => !(f m)) 32)) (kd, zs, nr, gc, gl, od, rw, md, le)) : ∃ n, wY_standard_19 post kd zs nr gc gl od rw md le n 0 0 := by
  refine loop_0 (fun n i s => wY_standard_19 post kd zs nr gc gl od rw md le n s (nI i)) (fun i s => s = nI (bg_ct (fun m => !(f m)) i)) 32 0 rfl ?_ ?_
  · intro n s hs
    exact br_t bx_y32 (by rw [hs]; exact h)
  · intro n i s hi hs K
    subst hs
    refine br_f (bx_n32 hi) ⟨vp_in_nI hi (by decide), ?_⟩
    rw [nI_clamp (n := i) (by omega), hle i hi]
    refine bx_if (fun e => nm_r (nI_1 _) (nm_r (nI_1 i) (K _ ?_))) (fun e => nm_r (nI_1 i) (K _ ?_))
    · rw [bg_ctT (f := fun m => !(f m)) (by rw [e]; rfl)]
    · rw [bg_ctF (f := fun m => !(f m)) (by rw [e]; rfl)]
theorem bY_ba {post : Int32 → SY → Prop} {P : Int32} {R : Nat → Int64} {q : Nat} {d : Bool} {f : Nat → Bool} {p1 v : Int32} (hq : q ≤ 32) (I : bg_IV P R) (H : bg_Y P R q rw md) (hod : ∀ r, r < 32 → od r = nI (bg_mo d r)) (hle : ∀ m, m < 32 → le m = bg_i (f m))
    (hv : ∀ r, r < 32 → (f (bg_mo d r) && !(bg_hd f (bg_mo d r) (bg_mo d r))) = true → nI (bg_ct (fun r => f (bg_mo d r) && !(bg_hd f (bg_mo d r) (bg_mo d r))) r) = p1 → bg_b (bg_mo d r) ^^^ bg_h (bg_rx P R (bg_m 0 (bg_x (bg_b (bg_mo d r)) &&& zs)) 32) = v)
    (hv0 : (∀ r, r < 32 → (f (bg_mo d r) && !(bg_hd f (bg_mo d r) (bg_mo d r))) = true → ¬ nI (bg_ct (fun r => f (bg_mo d r) && !(bg_hd f (bg_mo d r) (bg_mo d r))) r) = p1) → v = 0)
    (h : post v (kd, zs, nI q, gc, gl, od, rw, md, le)) : ∃ n, wY_basis_20 post p1 kd zs (nI q) gc gl od rw md le n 0 0 := by
  refine loop_0 (fun n i s => wY_basis_20 post p1 kd zs (nI q) gc gl od rw md le n s (nI i)) (fun i s => s = nI (bg_ct (fun r => f (bg_mo d r) && !(bg_hd f (bg_mo d r) (bg_mo d r))) i) ∧ ∀ r, r < i → (f (bg_mo d r) && !(bg_hd f (bg_mo d r) (bg_mo d r))) = true → ¬ nI (bg_ct (fun r => f (bg_mo d r) && !(bg_hd f (bg_mo d r) (bg_mo d r))) r) = p1) 32 0 ⟨rfl, fun r hr => absurd hr (Nat.not_lt_zero r)⟩ ?_ ?_
  · intro n s hs
    refine br_t bx_y32 ?_
    rw [hv0 hs.2] at h
    exact h
  · intro n i s hi hs K
    obtain ⟨h1, h2⟩ := hs
    subst h1
    have hm := bg_mo_lt d i hi
    refine br_f (bx_n32 hi) ⟨vp_in_nI hi (by decide), nm_r (e' := nI (bg_mo d i)) (by rw [nI_clamp (by omega)]; exact hod i hi) (bY_le hle hm (bx_if (fun e => nm_r (nI_1 i) (K _ ⟨?_, ?_⟩)) (fun e => br_c (fun c => bY_rd hq I H _ ?_) (fun c => nm_r (nI_1 _) (nm_r (nI_1 i) (K _ ⟨?_, ?_⟩))))))⟩
    · rw [bg_ctF (f := fun r => f (bg_mo d r) && !(bg_hd f (bg_mo d r) (bg_mo d r))) e]
    · intro r hr hf
      by_cases c : r = i
      · rw [c, e] at hf
        exact absurd hf (by decide)
      · exact h2 r (by omega) hf
    · have := hv i hi e c
      rw [← this] at h
      exact h
    · rw [bg_ctT (f := fun r => f (bg_mo d r) && !(bg_hd f (bg_mo d r) (bg_mo d r))) e]
    · intro r hr hf
      by_cases c2 : r = i
      · rw [c2]; exact c
      · exact h2 r (by omega) hf
theorem bg_ct_ex {f : Nat → Bool} {t : Nat} : ∀ n, t < bg_ct f n → ∃ r, r < n ∧ f r = true ∧ bg_ct f r = t := by
  intro n
  induction n with
  | zero => intro h; exact absurd h (Nat.not_lt_zero t)
  | succ n ih =>
    intro h
    by_cases c : t < bg_ct f n
    · obtain ⟨r, hr, h1, h2⟩ := ih c
      exact ⟨r, by omega, h1, h2⟩
    · cases e : f n
      · rw [bg_ctF e] at h
        exact absurd h c
      · rw [bg_ctT e] at h
        exact ⟨n, by omega, e, by omega⟩
/-! taking a generator out -/
def bg_sh (b : Nat) : Nat → Nat → (Nat → Int32) → (Nat → Int32)
  | 0, _, g => g
  | f + 1, i, g => bg_sh b f (i + 1) (upd g (b + i) (g (b + i + 1)))
theorem bx_rt {post : Int32 → SX → Prop} {k c : Nat} (hk : k < 2) (hc : c < 8) : ∀ (f j : Nat) (g : Nat → Int32), j + f = c → post (nI c) (kd, pv, ld, bc, bg_sh (k * 8) f j g, upd gc k (nI c), rb, rs, bl) → wX_retract_39 post (nI k) (nI c) (nI (k * 8)) kd pv ld bc (f + 1) (nI j) g gc rb rs bl := by
  intro f
  induction f with
  | zero =>
    intro j g hj h
    refine br_t (nI_le (by omega) (by omega)) ⟨vp_in_nI hk (by decide), nm_r (e' := upd gc k (nI c)) (by rw [nI_clamp (by omega)]) h⟩
  | succ f ih =>
    intro j g hj h
    have e1 : nI (k * 8) + nI j = nI (k * 8 + j) := nI_add _ _
    refine br_f (nI_ge (by omega) (by omega)) ⟨by rw [e1, nI_1]; exact vp_in_nI (by omega) (by decide), by rw [e1]; exact vp_in_nI (by omega) (by decide), nm_r (e' := upd g (k * 8 + j) (g (k * 8 + j + 1))) (by rw [e1, nI_1, nI_clamp (by omega), nI_clamp (by omega)]) (nm_r (nI_1 j) (ih (j + 1) _ (by omega) h))⟩
theorem bY_rt {post : Int32 → SY → Prop} {k c : Nat} (hk : k < 2) (hc : c < 8) (e : gc k = nI (c + 1)) : ∀ (f j : Nat) (g : Nat → Int32), j + f = c → post (nI c) (kd, zs, nr, upd gc k (nI c), bg_sh (k * 8) f j g, od, rw, md, le) → wY_retract_29 post (nI k) kd zs nr (f + 1) (nI j) gc g od rw md le := by
  have ek : gc (nI k).toNatClampNeg - 1 = nI c := by rw [nI_clamp (by omega), e, nI_pred]
  intro f
  induction f with
  | zero =>
    intro j g hj h
    refine ⟨vp_in_nI hk (by decide), br_t (by rw [ek]; exact nI_le (by omega) (by omega)) ⟨vp_in_nI hk (by decide), vp_in_nI hk (by decide), nm_r (e' := upd gc k (nI c)) (by rw [ek, nI_clamp (by omega)]) ⟨vp_in_nI hk (by decide), ?_⟩⟩⟩
    rw [nI_clamp (n := k) (by omega), pk_us]
    exact h
  | succ f ih =>
    intro j g hj h
    refine ⟨vp_in_nI hk (by decide), br_f (by rw [ek]; exact nI_ge (by omega) (by omega)) (br_f (show ¬ (7 : Int32) ≤ nI j from nI_ge (b := 7) (by omega) (by decide)) ⟨by rw [bx_8k, nI_1]; exact vp_in_nI (by omega) (by decide), by rw [bx_8k]; exact vp_in_nI (by omega) (by decide), nm_r (e' := upd g (k * 8 + j) (g (k * 8 + j + 1))) (by rw [bx_8k, nI_1, nI_clamp (by omega), nI_clamp (by omega)]) (nm_r (nI_1 j) (ih (j + 1) _ (by omega) h))⟩)⟩
/-! two scans in step -/
theorem bz_nz (z a : Int32) : ∀ d j : Nat, j + d = 32 → ∃ r : Int32, (∀ post : Int32 → Prop, post r → wX_nextZero_18 post a z kd pv ld bc gl gc rb rs bl (d + 1) (nI j)) ∧ (∀ post : Int32 → Prop, post r → wY_nextZero_19 post a z kd zs nr gc gl od rw md le (d + 1) (nI j)) := by
  intro d
  induction d with
  | zero =>
    intro j hj
    have e : j = 32 := by omega
    subst e
    exact ⟨-2, fun _ hp => br_t bx_y32 hp, fun _ hp => br_t bx_y32 hp⟩
  | succ d ih =>
    intro j hj
    have hj2 : j < 32 := by omega
    obtain ⟨r, hX, hY⟩ := ih (j + 1) (by omega)
    by_cases c : nI j ≤ a
    · exact ⟨r, fun post hp => br_f (bx_n32 hj2) (br_t c (nm_r (nI_1 j) (hX post hp))), fun post hp => br_f (bx_n32 hj2) (br_t c (nm_r (nI_1 j) (hY post hp)))⟩
    · cases e : bt z j
      · refine ⟨r, fun post hp => br_f (bx_n32 hj2) (br_f c (bx_hb z hj2 ?_)), fun post hp => br_f (bx_n32 hj2) (br_f c ?_)⟩
        · rw [e]; exact br_t rfl (nm_r (nI_1 j) (hX post hp))
        · rw [bg_sb z hj2, e]; exact br_f (by decide) (nm_r (nI_1 j) (hY post hp))
      · refine ⟨nI j, fun post hp => br_f (bx_n32 hj2) (br_f c (bx_hb z hj2 ?_)), fun post hp => br_f (bx_n32 hj2) (br_f c ?_)⟩
        · rw [e]; exact br_f (by decide) hp
        · rw [bg_sb z hj2, e]; exact br_t (by decide) hp
theorem bz_fx (z b : Int32) {v : Nat} (hv : v < 32) : ∀ d j : Nat, j + d = 32 → ∃ r : Int32, (∀ post : Int32 → Prop, post r → wX_fixed_43 post (nI v) b z kd pv ld bc gl gc rb rs bl (d + 1) (nI j)) ∧ (∀ post : Int32 → Prop, post r → wY_fixed_44 post (nI v) b z kd zs nr gc gl od rw md le (d + 1) (nI j)) := by
  intro d
  induction d with
  | zero =>
    intro j hj
    have e : j = 32 := by omega
    subst e
    exact ⟨1, fun _ hp => br_t bx_y32 hp, fun _ hp => br_t bx_y32 hp⟩
  | succ d ih =>
    intro j hj
    have hj2 : j < 32 := by omega
    obtain ⟨r, hX, hY⟩ := ih (j + 1) (by omega)
    cases e : bt z j
    · refine ⟨r, fun post hp => br_f (bx_n32 hj2) (bx_hb z hj2 ?_), fun post hp => br_f (bx_n32 hj2) ?_⟩
      · rw [e]; exact br_t rfl (nm_r (nI_1 j) (hX post hp))
      · rw [bg_sb z hj2, e]; exact br_f (by decide) (nm_r (nI_1 j) (hY post hp))
    · by_cases c : bg_i (bt (nI j) v) = b
      · refine ⟨r, fun post hp => br_f (bx_n32 hj2) (bx_hb z hj2 ?_), fun post hp => br_f (bx_n32 hj2) ?_⟩
        · rw [e]; refine br_f (by decide) (br_t ?_ (nm_r (nI_1 j) (hX post hp)))
          rw [bg_hb (nI j) hv]; exact c
        · rw [bg_sb z hj2, e]; refine br_t (by decide) (br_t ?_ (nm_r (nI_1 j) (hY post hp)))
          rw [bg_sb (nI j) hv]; exact c
      · refine ⟨0, fun post hp => br_f (bx_n32 hj2) (bx_hb z hj2 ?_), fun post hp => br_f (bx_n32 hj2) ?_⟩
        · rw [e]; refine br_f (by decide) (br_f ?_ hp)
          rw [bg_hb (nI j) hv]; exact c
        · rw [bg_sb z hj2, e]; refine br_t (by decide) (br_f ?_ hp)
          rw [bg_sb (nI j) hv]; exact c
theorem bz_wi (a b : Int32) : a &&& (b ^^^ (-1)) = 0 ↔ a &&& b = a := by
  constructor
  · intro h
    apply b_ext
    intro i hi
    have : bt (a &&& (b ^^^ (-1))) i = bt 0 i := by rw [h]
    rw [b_and, b_xor, b_m1 i hi, b_0] at this
    rw [b_and]
    cases x : bt a i <;> cases y : bt b i <;> rw [x, y] at this <;> first | rfl | exact absurd this (by decide)
  · intro h
    apply b_ext
    intro i hi
    have : bt (a &&& b) i = bt a i := by rw [h]
    rw [b_and] at this
    rw [b_and, b_xor, b_m1 i hi, b_0]
    cases x : bt a i <;> cases y : bt b i <;> rw [x, y] at this <;> first | rfl | exact absurd this (by decide)
end BGJ
end
section
section BGK
/-- generators: counts within 8; the table of the order by variables -/
def bz_G (gc rb : Nat → Int32) : Prop := (∀ k, k < 2 → ∃ c, c ≤ 8 ∧ gc k = nI c) ∧ ∀ r, r < 32 → rb r = nI (bg_mo true r)
/-- the same generators, counts and kind; all else is made anew where it is used -/
def i_Rel (_ : Nat) (u : SX) (v : SY) : Prop := ∃ (kd pv ld bc : Int32) (gl gc rb : Nat → Int32) (rs : Nat → Int64) (bl : Nat → Int32) (zs nr : Int32) (od rw md le : Nat → Int32), u = (kd, pv, ld, bc, gl, gc, rb, rs, bl) ∧ v = (kd, zs, nr, gc, gl, od, rw, md, le) ∧ bz_G gc rb
theorem bz_r {k : Nat} {kd pv ld bc : Int32} {gl gc rb : Nat → Int32} {rs : Nat → Int64} {bl : Nat → Int32} {zs nr : Int32} {od rw md le : Nat → Int32} (G : bz_G gc rb) : i_Rel k (kd, pv, ld, bc, gl, gc, rb, rs, bl) (kd, zs, nr, gc, gl, od, rw, md, le) := ⟨kd, pv, ld, bc, gl, gc, rb, rs, bl, zs, nr, od, rw, md, le, rfl, rfl, G⟩
theorem bz_Gu {gc rb : Nat → Int32} (G : bz_G gc rb) (k : Nat) {c : Nat} (hc : c ≤ 8) : bz_G (upd gc k (nI c)) rb := by
  refine ⟨fun j hj => ?_, G.2⟩
  by_cases e : j = k
  · exact ⟨c, hc, by rw [e, pk_us]⟩
  · rw [pk_un e]; exact G.1 j hj
/-- an ideal's number is good or not -/
theorem bz_k (k : Int32) : (∃ j : Nat, j < 2 ∧ k = nI j) ∨ (¬ k = 0 ∧ ¬ k = 1) := by
  by_cases h0 : k = 0
  · exact Or.inl ⟨0, by omega, h0⟩
  · by_cases h1 : k = 1
    · exact Or.inl ⟨1, by omega, h1⟩
    · exact Or.inr ⟨h0, h1⟩
theorem bz_x1 {k : Nat} (hk : k < 2) {A B : Prop} (a : A) : (nI k = 0 → A) ∧ (¬ nI k = 0 → ((nI k = 1 → A) ∧ (¬ nI k = 1 → B))) := by
  have : k = 0 ∨ k = 1 := by omega
  rcases this with rfl | rfl
  · exact br_t rfl a
  · exact br_f bx_10 (br_t rfl a)
theorem bz_y1 {k : Nat} (hk : k < 2) {A B C : Prop} (a : A) : (nI k < 0 → B) ∧ (¬ nI k < 0 → ((nI k ≤ 1 → A) ∧ (¬ nI k ≤ 1 → C))) :=
  br_f (nI_pos (by omega)) (br_t (show nI k ≤ (1 : Int32) from nI_le (a := k) (b := 1) (by omega) (by decide)) a)
theorem bz_y0 {k : Int32} (h0 : ¬ k = 0) (h1 : ¬ k = 1) {A B : Prop} (b : B) : (k < 0 → B) ∧ (¬ k < 0 → ((k ≤ 1 → A) ∧ (¬ k ≤ 1 → B))) := by
  by_cases c : k < 0
  · exact br_t c b
  · refine br_f c (br_f ?_ b)
    intro c1
    obtain ⟨j, hj, e⟩ := nI_of2 (x := k) (M := 1) (n := 1) (by decide) c c1
    have : j = 0 ∨ j = 1 := by omega
    rcases this with rfl | rfl
    · exact h0 e
    · exact h1 e
theorem i_up {k : Nat} {u : SX} {v : SY} (h : i_Rel k u v) : i_Rel (k + 4) u v := h
theorem i_vc0 : wpX_init (fun u => wpY_init (fun v => i_Rel 0 u v)) := by
  unfold wpX_init
  refine bx_fl (fun rb' hT => ?_)
  unfold wpY_init
  exact bz_r (k := 0) ⟨fun k _ => ⟨0, by omega, rfl⟩, hT⟩
theorem i_vc_generate {k : Nat} {u : SX} {v : SY} (I : i_Rel k u v) (hk : k + 4 ≤ 2048) (v1 : Int32) (v2 : Int32) : wpX_generate (fun r u' => wpY_generate (fun r' v' => r' = r ∧ i_Rel (k + 4) u' v') v v1 v2) u v1 v2 := by
  obtain ⟨kd, pv, ld, bc, gl, gc, rb, rs, bl, zs, nr, od, rw, md, le, rfl, rfl, G⟩ := I
  unfold wpX_generate wpY_generate
  dsimp only
  rcases bz_k v1 with ⟨j, hj, rfl⟩ | ⟨h0, h1⟩
  · obtain ⟨c, hc, e⟩ := G.1 j hj
    refine bx_id1 hj (br_f bx_10 ⟨vp_in_nI hj (by decide), nm_r (e' := nI c) (by rw [nI_clamp (by omega)]; exact e) ?_⟩)
    by_cases c8 : c < 8
    · have l : nI c < (8 : Int32) := nI_lt (a := c) (b := 8) c8 (by decide)
      refine br_t l ⟨by rw [bx_k8]; exact vp_in_nI (by omega) (by decide), nm_r (e' := upd gl (j * 8 + c) v2) (by rw [bx_k8, nI_clamp (by omega)]) ⟨vp_in_nI hj (by decide), nm_r (e' := upd gc j (nI (c + 1))) (by rw [nI_clamp (by omega), nI_1]) ?_⟩⟩
      refine bY_b0 hj (br_t rfl ⟨vp_in_nI hj (by decide), nm_r (e' := nI c) (by rw [nI_clamp (by omega)]; exact e) (br_t l ⟨by rw [bx_8k]; exact vp_in_nI (by omega) (by decide), nm_r (e' := upd gl (j * 8 + c) v2) (by rw [bx_8k, nI_clamp (by omega)]) ⟨vp_in_nI hj (by decide), nm_r (e' := upd gc j (nI (c + 1))) (by rw [nI_clamp (by omega), nI_1]) ⟨rfl, bz_r (bz_Gu G j (by omega))⟩⟩⟩)⟩)
    · have l : ¬ nI c < (8 : Int32) := nI_nlt (a := c) (b := 8) (by omega) (by omega)
      exact br_f l (bY_b0 hj (br_t rfl ⟨vp_in_nI hj (by decide), nm_r (e' := nI c) (by rw [nI_clamp (by omega)]; exact e) (br_f l ⟨rfl, bz_r G⟩)⟩))
  · exact bx_id0 h0 h1 (br_t rfl (bY_b1 h0 h1 (br_f bx_10 ⟨rfl, bz_r G⟩)))
theorem i_vc_retract {k : Nat} {u : SX} {v : SY} (I : i_Rel k u v) (hk : k + 4 ≤ 2048) (v1 : Int32) (v2 : Int32) : wpX_retract (fun r u' => wpY_retract (fun r' v' => r' = r ∧ i_Rel (k + 4) u' v') v v1 v2) u v1 v2 := by
  obtain ⟨kd, pv, ld, bc, gl, gc, rb, rs, bl, zs, nr, od, rw, md, le, rfl, rfl, G⟩ := I
  unfold wpX_retract wpY_retract
  dsimp only
  rcases bz_k v1 with ⟨j, hj, rfl⟩ | ⟨h0, h1⟩
  · obtain ⟨c, hc, e⟩ := G.1 j hj
    refine bx_id1 hj (br_f bx_10 ⟨vp_in_nI hj (by decide), nm_r (e' := nI c - 1) (by rw [nI_clamp (by omega), e]) ?_⟩)
    by_cases n : v2 < 0
    · exact br_t n (bY_b0 hj (br_t rfl (br_t n ⟨rfl, bz_r G⟩)))
    · obtain ⟨i, hi, rfl⟩ := nI_of n
      refine br_f n ?_
      by_cases l : i < c
      · obtain ⟨c', rfl⟩ : ∃ c', c = c' + 1 := ⟨c - 1, by omega⟩
        rw [nI_pred]
        refine br_t (nI_le (by omega) (by omega)) (nm_r (e' := nI (j * 8)) (pk_mul j 8) ⟨(c' - i) + 1, bx_rt hj (by omega) (c' - i) i gl (by omega) ?_⟩)
        refine bY_b0 hj (br_t rfl (br_f n ⟨vp_in_nI hj (by decide), br_t ?_ ⟨(c' - i) + 1, bY_rt hj (by omega) e (c' - i) i gl (by omega) ⟨rfl, bz_r (bz_Gu G j (by omega))⟩⟩⟩))
        rw [nI_clamp (by omega), e]; exact nI_lt (by omega) (by omega)
      · have l2 : ¬ nI i ≤ nI c - 1 := by
          by_cases c0 : c = 0
          · rw [c0, show nI 0 - 1 = (-1 : Int32) by decide]
            intro q
            exact n (Int32.lt_of_le_of_lt q (by decide))
          · obtain ⟨c', rfl⟩ : ∃ c', c = c' + 1 := ⟨c - 1, by omega⟩
            rw [nI_pred]
            exact nI_ge (by omega) (by omega)
        refine br_f l2 (bY_b0 hj (br_t rfl (br_f n ⟨vp_in_nI hj (by decide), br_f ?_ ⟨rfl, bz_r G⟩⟩)))
        rw [nI_clamp (by omega), e]; exact nI_nlt (by omega) (by omega)
  · exact bx_id0 h0 h1 (br_t rfl (bY_b1 h0 h1 (br_f bx_10 ⟨rfl, bz_r G⟩)))
theorem i_vc_clear {k : Nat} {u : SX} {v : SY} (I : i_Rel k u v) (hk : k + 4 ≤ 2048) (v1 : Int32) : wpX_clear (fun r u' => wpY_clear (fun r' v' => r' = r ∧ i_Rel (k + 4) u' v') v v1) u v1 := by
  obtain ⟨kd, pv, ld, bc, gl, gc, rb, rs, bl, zs, nr, od, rw, md, le, rfl, rfl, G⟩ := I
  unfold wpX_clear wpY_clear
  dsimp only
  rcases bz_k v1 with ⟨j, hj, rfl⟩ | ⟨h0, h1⟩
  · refine bx_id1 hj (br_f bx_10 ⟨vp_in_nI hj (by decide), nm_e ⟨vp_in_nI hj (by decide), nm_r (e' := upd gc j (nI 0)) (by rw [nI_clamp (by omega)]; rfl) ?_⟩⟩)
    exact bY_b0 hj (br_t rfl ⟨vp_in_nI hj (by decide), nm_e ⟨vp_in_nI hj (by decide), nm_r (e' := upd gc j (nI 0)) (by rw [nI_clamp (by omega)]; rfl) ⟨rfl, bz_r (bz_Gu G j (by omega))⟩⟩⟩)
  · exact bx_id0 h0 h1 (br_t rfl (bY_b1 h0 h1 (br_f bx_10 ⟨rfl, bz_r G⟩)))
theorem i_vc_order {k : Nat} {u : SX} {v : SY} (I : i_Rel k u v) (hk : k + 4 ≤ 2048) (v1 : Int32) : wpX_order (fun r u' => wpY_order (fun r' v' => r' = r ∧ i_Rel (k + 4) u' v') v v1) u v1 := by
  obtain ⟨kd, pv, ld, bc, gl, gc, rb, rs, bl, zs, nr, od, rw, md, le, rfl, rfl, G⟩ := I
  unfold wpX_order wpY_order
  dsimp only
  rcases bz_k v1 with ⟨j, hj, rfl⟩ | ⟨h0, h1⟩
  · exact bz_x1 hj (bz_y1 hj ⟨rfl, bz_r G⟩)
  · exact br_f h0 (br_f h1 (bz_y0 h0 h1 ⟨rfl, bz_r G⟩))
theorem i_vc_generators {k : Nat} {u : SX} {v : SY} (I : i_Rel k u v) (hk : k + 4 ≤ 2048) (v1 : Int32) : wpX_generators (fun r => wpY_generators (fun r' => r' = r ∧ i_Rel (k + 4) u v) v v1) u v1 := by
  obtain ⟨kd, pv, ld, bc, gl, gc, rb, rs, bl, zs, nr, od, rw, md, le, rfl, rfl, G⟩ := I
  unfold wpX_generators wpY_generators
  dsimp only
  rcases bz_k v1 with ⟨j, hj, rfl⟩ | ⟨h0, h1⟩
  · exact bx_id1 hj (br_f bx_10 ⟨vp_in_nI hj (by decide), bY_b0 hj (br_t rfl ⟨vp_in_nI hj (by decide), rfl, bz_r G⟩)⟩)
  · exact bx_id0 h0 h1 (br_t rfl (bY_b1 h0 h1 (br_f bx_10 ⟨rfl, bz_r G⟩)))
theorem i_vc_value {k : Nat} {u : SX} {v : SY} (I : i_Rel k u v) (hk : k + 4 ≤ 2048) (v1 : Int32) (v2 : Int32) : wpX_value (fun r => wpY_value (fun r' => r' = r ∧ i_Rel (k + 4) u v) v v1 v2) u v1 v2 := by
  obtain ⟨kd, pv, ld, bc, gl, gc, rb, rs, bl, zs, nr, od, rw, md, le, rfl, rfl, G⟩ := I
  unfold wpX_value
  dsimp only
  rcases pk_ix v2 (n := 32) (by decide) with n | n | ⟨x, hx, rfl⟩
  · exact br_t n (br_t n ⟨rfl, bz_r G⟩)
  · have n0 : ¬ v2 < 0 := fun q => absurd (Int32.lt_of_le_of_lt (show (32 : Int32) ≤ v2 from n) q) (by decide)
    have n1 : ¬ v2 < 32 := Int32.not_lt.mpr n
    have n2 : ¬ v2 ≤ 31 := fun q => absurd (Int32.le_trans (show (32 : Int32) ≤ v2 from n) q) (by decide)
    exact br_f n0 (br_f n1 (br_f n0 (br_f n2 ⟨rfl, bz_r G⟩)))
  · have n0 : ¬ nI x < 0 := nI_pos (by omega)
    refine br_f n0 (br_t (show nI x < (32 : Int32) from nI_lt (a := x) (b := 32) hx (by decide)) (bx_ex _ (bx_hb _ hx ?_)))
    rw [bg_xb v1 x hx]
    have Y : ∀ b : Bool, bg_ev v1 x = b → wpY_value (fun r' => r' = bg_i b ∧ i_Rel (k + 4) (kd, pv, ld, bc, gl, gc, rb, rs, bl) (kd, zs, nr, gc, gl, od, rw, md, le)) (kd, zs, nr, gc, gl, od, rw, md, le) v1 (nI x) := fun b hb => br_f n0 (br_t (show nI x ≤ (31 : Int32) from nI_le (a := x) (b := 31) (by omega) (by decide)) (bY_at _ ⟨by rw [hb], bz_r G⟩))
    exact bx_if (fun q => Y false q) (fun q => Y true q)
theorem i_vc_product {k : Nat} {u : SX} {v : SY} (I : i_Rel k u v) (hk : k + 4 ≤ 2048) (v1 : Int32) (v2 : Int32) : wpX_product (fun r => wpY_product (fun r' => r' = r ∧ i_Rel (k + 4) u v) v v1 v2) u v1 v2 := by
  obtain ⟨kd, pv, ld, bc, gl, gc, rb, rs, bl, zs, nr, od, rw, md, le, rfl, rfl, G⟩ := I
  unfold wpX_product wpY_product
  dsimp only
  exact bx_ex _ (bx_ex _ (bx_ex _ (bY_av _ (bY_av _ (bY_fv _ ⟨rfl, bz_r G⟩)))))
theorem i_vc_leading {k : Nat} {u : SX} {v : SY} (I : i_Rel k u v) (hk : k + 4 ≤ 2048) (v1 : Int32) : wpX_leading (fun r => wpY_leading (fun r' => r' = r ∧ i_Rel (k + 4) u v) v v1) u v1 := by
  obtain ⟨kd, pv, ld, bc, gl, gc, rb, rs, bl, zs, nr, od, rw, md, le, rfl, rfl, G⟩ := I
  unfold wpX_leading wpY_leading
  dsimp only
  exact bx_ldg G.2 (fun v hv => bY_ldg (fun v' hv' => ⟨bg_spu hv hv', bz_r G⟩))
theorem i_vc_contains {k : Nat} {u : SX} {v : SY} (I : i_Rel k u v) (hk : k + 4 ≤ 2048) (v1 : Int32) (v2 : Int32) : wpX_contains (fun r => wpY_contains (fun r' => r' = r ∧ i_Rel (k + 4) u v) v v1 v2) u v1 v2 := by
  obtain ⟨kd, pv, ld, bc, gl, gc, rb, rs, bl, zs, nr, od, rw, md, le, rfl, rfl, G⟩ := I
  unfold wpX_contains wpY_contains
  dsimp only
  rcases bz_k v1 with ⟨j, hj, rfl⟩ | ⟨h0, h1⟩
  · obtain ⟨c, hc, e⟩ := G.1 j hj
    exact bx_id1 hj (br_f bx_10 (bx_ex _ (bx_zs hj hc e (br_c (fun q => bY_b0 hj (br_t rfl (bY_zo hj hc e (bY_av _ (br_t q ⟨rfl, bz_r G⟩))))) (fun q => bY_b0 hj (br_t rfl (bY_zo hj hc e (bY_av _ (br_f q ⟨rfl, bz_r G⟩)))))))))
  · exact bx_id0 h0 h1 (br_t rfl (bY_b1 h0 h1 (br_f bx_10 ⟨rfl, bz_r G⟩)))
theorem i_vc_normal {k : Nat} {u : SX} {v : SY} (I : i_Rel k u v) (hk : k + 4 ≤ 2048) (v1 : Int32) (v2 : Int32) : wpX_normal (fun r u' => wpY_normal (fun r' v' => r' = r ∧ i_Rel (k + 4) u' v') v v1 v2) u v1 v2 := by
  obtain ⟨kd, pv, ld, bc, gl, gc, rb, rs, bl, zs, nr, od, rw, md, le, rfl, rfl, G⟩ := I
  unfold wpX_normal wpY_normal
  dsimp only
  rcases bz_k v1 with ⟨j, hj, rfl⟩ | ⟨h0, h1⟩
  · obtain ⟨c, hc, e⟩ := G.1 j hj
    refine bx_id1 hj (br_f bx_10 (bx_sv hj hc e G.2 (fun rs' bl' h1 h2 => bx_ex _ (bx_zs hj hc e (nm_e (bx_rde (bg_rx_c _ 32 h1) ?_))))))
    dsimp only [wpX_polynomialOf]
    exact bY_b0 hj (br_t rfl (bY_wk hj hc e (fun od' rw' md' le' q hq hod H hle => bY_rd hq (bg_IVi _ _ 32) H _ ⟨rfl, bz_r G⟩)))
  · exact bx_id0 h0 h1 (br_t rfl (bY_b1 h0 h1 (br_f bx_10 ⟨rfl, bz_r G⟩)))
theorem i_vc_basisSize {k : Nat} {u : SX} {v : SY} (I : i_Rel k u v) (hk : k + 4 ≤ 2048) (v1 : Int32) : wpX_basisSize (fun r u' => wpY_basisSize (fun r' v' => r' = r ∧ i_Rel (k + 4) u' v') v v1) u v1 := by
  obtain ⟨kd, pv, ld, bc, gl, gc, rb, rs, bl, zs, nr, od, rw, md, le, rfl, rfl, G⟩ := I
  unfold wpX_basisSize wpY_basisSize
  dsimp only
  rcases bz_k v1 with ⟨j, hj, rfl⟩ | ⟨h0, h1⟩
  · obtain ⟨c, hc, e⟩ := G.1 j hj
    refine bx_id1 hj (br_f bx_10 (bx_sv hj hc e G.2 (fun rs' bl' h1 h2 => ?_)))
    refine bY_b0 hj (br_t rfl (bY_wk hj hc e (fun od' rw' md' le' q hq hod H hle => bY_bs hle ⟨?_, bz_r G⟩)))
    rw [bg_permE]; rfl
  · exact bx_id0 h0 h1 (br_t rfl (bY_b1 h0 h1 (br_f bx_10 ⟨rfl, bz_r G⟩)))
theorem i_vc_basis {k : Nat} {u : SX} {v : SY} (I : i_Rel k u v) (hk : k + 4 ≤ 2048) (v1 : Int32) (v2 : Int32) : wpX_basis (fun r u' => wpY_basis (fun r' v' => r' = r ∧ i_Rel (k + 4) u' v') v v1 v2) u v1 v2 := by
  obtain ⟨kd, pv, ld, bc, gl, gc, rb, rs, bl, zs, nr, od, rw, md, le, rfl, rfl, G⟩ := I
  unfold wpX_basis
  dsimp only
  rcases bz_k v1 with ⟨j, hj, rfl⟩ | ⟨h0, h1⟩
  · obtain ⟨c, hc, e⟩ := G.1 j hj
    refine bx_id1 hj (br_f bx_10 (bx_sv hj hc e G.2 (fun rs' bl' h1 h2 => ?_)))
    have Y : ∀ v : Int32, (∀ r, r < 32 → bg_le (bg_zs gl (j * 8) c) (decide (kd = 0)) (bg_mo (decide (kd = 0)) r) = true → nI (bg_ct (fun r => bg_le (bg_zs gl (j * 8) c) (decide (kd = 0)) (bg_mo (decide (kd = 0)) r)) r) = v2 → bg_h (bg_W (bg_zs gl (j * 8) c) (decide (kd = 0)) r) = v) → ((∀ r, r < 32 → bg_le (bg_zs gl (j * 8) c) (decide (kd = 0)) (bg_mo (decide (kd = 0)) r) = true → ¬ nI (bg_ct (fun r => bg_le (bg_zs gl (j * 8) c) (decide (kd = 0)) (bg_mo (decide (kd = 0)) r)) r) = v2) → v = 0) → wpY_basis (fun r' v' => r' = v ∧ i_Rel (k + 4) (kd, bg_P (bg_zs gl (j * 8) c) (decide (kd = 0)) 32, bg_L (bg_zs gl (j * 8) c) (decide (kd = 0)) 32, nI (bg_ct (fun r => bg_le (bg_zs gl (j * 8) c) (decide (kd = 0)) (bg_mo (decide (kd = 0)) r)) 32), gl, gc, rb, rs', bl') v') (kd, zs, nr, gc, gl, od, rw, md, le) (nI j) v2 := by
      intro v a b
      unfold wpY_basis
      dsimp only
      refine bY_b0 hj (br_t rfl (bY_wk hj hc e (fun od' rw' md' le' q hq hod H hle => bY_ba (v := v) (d := decide (kd = 0)) hq (bg_IVi _ _ 32) H hod hle (fun r hr hl hn => ?_) b ⟨rfl, bz_r G⟩)))
      rw [← a r hr hl hn]
      refine bg_po _ _ (by omega) ?_
      have hl' := ((Bool.and_eq_true _ _).mp hl).1
      rw [bg_rk_mo _ r hr] at hl'
      exact of_decide_eq_true hl'
    have hm := fun r (hr : r < 32) => bg_ct_mono (fun r => bg_le (bg_zs gl (j * 8) c) (decide (kd = 0)) (bg_mo (decide (kd = 0)) r)) (r + 1) 32 (by omega)
    have h32 := bg_ct_le (fun r => bg_le (bg_zs gl (j * 8) c) (decide (kd = 0)) (bg_mo (decide (kd = 0)) r)) 32
    rcases pk_ix v2 (n := bg_ct (fun r => bg_le (bg_zs gl (j * 8) c) (decide (kd = 0)) (bg_mo (decide (kd = 0)) r)) 32) (by omega) with n | n | ⟨t, ht, rfl⟩
    · refine br_t n (Y 0 (fun r hr _ hn => ?_) (fun _ => rfl))
      rw [← hn] at n
      have h3 := hm r hr
      have h4 := bg_ct_le (fun r => bg_le (bg_zs gl (j * 8) c) (decide (kd = 0)) (bg_mo (decide (kd = 0)) r)) r
      exact absurd n (nI_pos (by omega))
    · have n0 : ¬ v2 < 0 := fun q => nI_pos (by omega) (Int32.lt_of_le_of_lt n q)
      refine br_f n0 (br_t n (Y 0 (fun r hr hl hn => ?_) (fun _ => rfl)))
      rw [← hn] at n
      have h3 := hm r hr
      rw [bg_ctT (f := fun r => bg_le (bg_zs gl (j * 8) c) (decide (kd = 0)) (bg_mo (decide (kd = 0)) r)) hl] at h3
      exact absurd n (nI_ge (by omega) (by omega))
    · refine br_f (nI_pos (by omega)) (br_f (nI_ge ht (by omega)) ⟨vp_in_nI (by omega) (by decide), ?_⟩)
      rw [nI_clamp (by omega)]
      refine Y _ (fun r hr hl hn => ?_) (fun hn => ?_)
      · have h3 := bg_ct_le (fun r => bg_le (bg_zs gl (j * 8) c) (decide (kd = 0)) (bg_mo (decide (kd = 0)) r)) r
        have h4 := (nI_eq (by omega) (by omega)).mp hn
        rw [← h4]
        exact (h2 r hr hl).symm
      · obtain ⟨r, hr, hl, hc⟩ := bg_ct_ex 32 ht
        exact absurd (by rw [hc]) (hn r hr hl)
  · refine bx_id0 h0 h1 (br_t rfl ?_)
    unfold wpY_basis
    dsimp only
    exact bY_b1 h0 h1 (br_f bx_10 ⟨rfl, bz_r G⟩)
theorem i_vc_standard {k : Nat} {u : SX} {v : SY} (I : i_Rel k u v) (hk : k + 4 ≤ 2048) (v1 : Int32) : wpX_standard (fun r u' => wpY_standard (fun r' v' => r' = r ∧ i_Rel (k + 4) u' v') v v1) u v1 := by
  obtain ⟨kd, pv, ld, bc, gl, gc, rb, rs, bl, zs, nr, od, rw, md, le, rfl, rfl, G⟩ := I
  unfold wpX_standard wpY_standard
  dsimp only
  rcases bz_k v1 with ⟨j, hj, rfl⟩ | ⟨h0, h1⟩
  · obtain ⟨c, hc, e⟩ := G.1 j hj
    refine bx_id1 hj (br_f bx_10 (bx_sv hj hc e G.2 (fun rs' bl' h1 h2 => bx_cb _ ?_)))
    refine bY_b0 hj (br_t rfl (bY_wk hj hc e (fun od' rw' md' le' q hq hod H hle => bY_sd hle ⟨?_, bz_r G⟩)))
    refine congrArg nI (bg_ct_c 32 (fun m hm => ?_))
    rw [b_xor, b_m1 m hm, Bool.xor_true, bg_Lf _ _ hm]
  · exact bx_id0 h0 h1 (br_t rfl (bY_b1 h0 h1 (br_f bx_10 ⟨rfl, bz_r G⟩)))
theorem i_vc_zeros {k : Nat} {u : SX} {v : SY} (I : i_Rel k u v) (hk : k + 4 ≤ 2048) (v1 : Int32) : wpX_zeros (fun r => wpY_zeros (fun r' => r' = r ∧ i_Rel (k + 4) u v) v v1) u v1 := by
  obtain ⟨kd, pv, ld, bc, gl, gc, rb, rs, bl, zs, nr, od, rw, md, le, rfl, rfl, G⟩ := I
  unfold wpX_zeros wpY_zeros
  dsimp only
  rcases bz_k v1 with ⟨j, hj, rfl⟩ | ⟨h0, h1⟩
  · obtain ⟨c, hc, e⟩ := G.1 j hj
    exact bx_id1 hj (br_f bx_10 (bx_zs hj hc e (bx_cb _ (bY_b0 hj (br_t rfl (bY_zo hj hc e (bY_on _ ⟨rfl, bz_r G⟩)))))))
  · exact bx_id0 h0 h1 (br_t rfl (bY_b1 h0 h1 (br_f bx_10 ⟨rfl, bz_r G⟩)))
theorem i_vc_nextZero {k : Nat} {u : SX} {v : SY} (I : i_Rel k u v) (hk : k + 4 ≤ 2048) (v1 : Int32) (v2 : Int32) : wpX_nextZero (fun r => wpY_nextZero (fun r' => r' = r ∧ i_Rel (k + 4) u v) v v1 v2) u v1 v2 := by
  obtain ⟨kd, pv, ld, bc, gl, gc, rb, rs, bl, zs, nr, od, rw, md, le, rfl, rfl, G⟩ := I
  unfold wpX_nextZero wpY_nextZero
  dsimp only
  rcases bz_k v1 with ⟨j, hj, rfl⟩ | ⟨h0, h1⟩
  · obtain ⟨c, hc, e⟩ := G.1 j hj
    obtain ⟨r, hX, hY⟩ := bz_nz (kd := kd) (pv := pv) (ld := ld) (bc := bc) (gl := gl) (gc := gc) (rb := rb) (bl := bl) (rs := rs) (zs := zs) (nr := nr) (od := od) (rw := rw) (md := md) (le := le) (bg_zs gl (j * 8) c) v2 32 0 rfl
    exact bx_id1 hj (br_f bx_10 (bx_zs hj hc e ⟨33, hX _ (bY_b0 hj (br_t rfl (bY_zo hj hc e ⟨33, hY _ ⟨rfl, bz_r G⟩⟩)))⟩))
  · exact bx_id0 h0 h1 (br_t rfl (bY_b1 h0 h1 (br_f bx_10 ⟨rfl, bz_r G⟩)))
theorem i_vc_within {k : Nat} {u : SX} {v : SY} (I : i_Rel k u v) (hk : k + 4 ≤ 2048) (v1 : Int32) : wpX_within (fun r => wpY_within (fun r' => r' = r ∧ i_Rel (k + 4) u v) v v1) u v1 := by
  obtain ⟨kd, pv, ld, bc, gl, gc, rb, rs, bl, zs, nr, od, rw, md, le, rfl, rfl, G⟩ := I
  unfold wpX_within
  dsimp only
  rcases bz_k v1 with ⟨j, hj, rfl⟩ | ⟨h0, h1⟩
  · obtain ⟨c, hc, e⟩ := G.1 j hj
    obtain ⟨c', hc', e'⟩ := G.1 (1 - j) (by omega)
    have ej : (1 : Int32) - nI j = nI (1 - j) := pk_sub (a := 1) (by omega)
    refine bx_id1 hj (br_f bx_10 (bx_zs hj hc e ?_))
    rw [ej]
    refine bx_zs (k := 1 - j) (by omega) hc' e' ?_
    have Y : ∀ v : Int32, (bg_zs gl ((1 - j) * 8) c' &&& bg_zs gl (j * 8) c = bg_zs gl ((1 - j) * 8) c' → v = 1) → (¬ bg_zs gl ((1 - j) * 8) c' &&& bg_zs gl (j * 8) c = bg_zs gl ((1 - j) * 8) c' → v = 0) → wpY_within (fun r' => r' = v ∧ i_Rel (k + 4) (kd, pv, ld, bc, gl, gc, rb, rs, bl) (kd, zs, nr, gc, gl, od, rw, md, le)) (kd, zs, nr, gc, gl, od, rw, md, le) (nI j) := by
      intro v a b
      unfold wpY_within
      dsimp only
      refine bY_b0 hj (br_t rfl (bY_zo hj hc e ?_))
      rw [ej]
      exact bY_zo (k := 1 - j) (by omega) hc' e' (br_c (fun q => ⟨(a q).symm, bz_r G⟩) (fun q => ⟨(b q).symm, bz_r G⟩))
    exact br_c (fun q => Y 1 (fun _ => rfl) (fun z => absurd ((bz_wi _ _).mp q) z)) (fun q => Y 0 (fun z => absurd ((bz_wi _ _).mpr z) q) (fun _ => rfl))
  · refine bx_id0 h0 h1 (br_t rfl ?_)
    unfold wpY_within
    dsimp only
    exact bY_b1 h0 h1 (br_f bx_10 ⟨rfl, bz_r G⟩)
theorem i_vc_commonZeros {k : Nat} {u : SX} {v : SY} (I : i_Rel k u v) (hk : k + 4 ≤ 2048) : wpX_commonZeros (fun r => wpY_commonZeros (fun r' => r' = r ∧ i_Rel (k + 4) u v) v) u := by
  obtain ⟨kd, pv, ld, bc, gl, gc, rb, rs, bl, zs, nr, od, rw, md, le, rfl, rfl, G⟩ := I
  unfold wpX_commonZeros wpY_commonZeros
  dsimp only
  obtain ⟨c, hc, e⟩ := G.1 0 (by omega)
  obtain ⟨c', hc', e'⟩ := G.1 1 (by omega)
  exact bx_zs (k := 0) (by omega) hc e (bx_zs (k := 1) (by omega) hc' e' (nm_e (bx_cb _ (bY_zo (k := 0) (by omega) hc e (bY_zo (k := 1) (by omega) hc' e' (bY_on _ ⟨rfl, bz_r G⟩))))))
theorem i_vc_fixed {k : Nat} {u : SX} {v : SY} (I : i_Rel k u v) (hk : k + 4 ≤ 2048) (v1 : Int32) (v2 : Int32) (v3 : Int32) : wpX_fixed (fun r => wpY_fixed (fun r' => r' = r ∧ i_Rel (k + 4) u v) v v1 v2 v3) u v1 v2 v3 := by
  obtain ⟨kd, pv, ld, bc, gl, gc, rb, rs, bl, zs, nr, od, rw, md, le, rfl, rfl, G⟩ := I
  unfold wpX_fixed wpY_fixed
  dsimp only
  rcases bz_k v1 with ⟨j, hj, rfl⟩ | ⟨h0, h1⟩
  · obtain ⟨c, hc, e⟩ := G.1 j hj
    rcases pk_ix v2 (n := 5) (by decide) with n | n | ⟨x, hx, rfl⟩
    · exact bx_id1 hj (br_f bx_10 (br_t n (bY_b0 hj (br_t rfl (br_t n ⟨rfl, bz_r G⟩)))))
    · have n0 : ¬ v2 < 0 := fun q => absurd (Int32.lt_of_le_of_lt (show (5 : Int32) ≤ v2 from n) q) (by decide)
      have n1 : ¬ v2 < 5 := Int32.not_lt.mpr n
      have n2 : ¬ v2 ≤ 4 := fun q => absurd (Int32.le_trans (show (5 : Int32) ≤ v2 from n) q) (by decide)
      exact bx_id1 hj (br_f bx_10 (br_f n0 (br_f n1 (bY_b0 hj (br_t rfl (br_f n0 (br_f n2 ⟨rfl, bz_r G⟩)))))))
    · have n0 : ¬ nI x < 0 := nI_pos (by omega)
      have n1 : nI x < (5 : Int32) := nI_lt (a := x) (b := 5) hx (by decide)
      have n2 : nI x ≤ (4 : Int32) := nI_le (a := x) (b := 4) (by omega) (by decide)
      refine bx_id1 hj (br_f bx_10 (br_f n0 (br_t n1 ?_)))
      rcases bz_k v3 with ⟨b, hb, rfl⟩ | ⟨b0, b1⟩
      · obtain ⟨r, hX, hY⟩ := bz_fx (kd := kd) (pv := pv) (ld := ld) (bc := bc) (gl := gl) (gc := gc) (rb := rb) (bl := bl) (rs := rs) (zs := zs) (nr := nr) (od := od) (rw := rw) (md := md) (le := le) (bg_zs gl (j * 8) c) (nI b) (v := x) (by omega) 32 0 rfl
        exact bz_x1 hb (bx_zs hj hc e ⟨33, hX _ (bY_b0 hj (br_t rfl (br_f n0 (br_t n2 (bz_y1 hb (bY_zo hj hc e ⟨33, hY _ ⟨rfl, bz_r G⟩⟩))))))⟩)
      · exact br_f b0 (br_f b1 (bY_b0 hj (br_t rfl (br_f n0 (br_t n2 (bz_y0 b0 b1 ⟨rfl, bz_r G⟩))))))
  · exact bx_id0 h0 h1 (br_t rfl (bY_b1 h0 h1 (br_f bx_10 ⟨rfl, bz_r G⟩)))
end BGK
end
