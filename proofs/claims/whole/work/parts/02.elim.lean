section BGB
/-! Int64 by its bits; a row is a polynomial above, values below -/
def bg_l (w : Int64) (i : Nat) : Bool := w.toBitVec.getLsbD i
theorem bg_lext {x y : Int64} (h : ∀ i, i < 64 → bg_l x i = bg_l y i) : x = y := Int64.toBitVec_inj.mp (BitVec.eq_of_getLsbD_eq (fun i hi => h i hi))
theorem bg_lx (x y : Int64) (i : Nat) : bg_l (x ^^^ y) i = (bg_l x i ^^ bg_l y i) := by unfold bg_l; rw [Int64.toBitVec_xor, BitVec.getLsbD_xor]
theorem bg_l0 (i : Nat) : bg_l 0 i = false := BitVec.getLsbD_zero
def bg_m (c v : Int32) : Int64 := (c.toInt64 <<< ((32 : Int32).toInt64 &&& 63)) ||| (v.toInt64 &&& 4294967295)
def bg_h (w : Int64) : Int32 := (w.toUInt64 >>> ((32 : Int32).toInt64.toUInt64 &&& Int64.toUInt64 63)).toInt64.toInt32
theorem bg_msk : ∀ i, i < 64 → (4294967295 : Int64).toBitVec.getLsbD i = decide (i < 32) := by decide +kernel
theorem bg_s32 : (((32 : Int32).toInt64 &&& 63).toBitVec.smod 64).toNat = 32 := by decide +kernel
theorem bg_mb (c v : Int32) {i : Nat} (hi : i < 64) : bg_l (bg_m c v) i = if i < 32 then bt v i else bt c (i - 32) := by
  unfold bg_l bg_m bt
  rw [Int64.toBitVec_or, BitVec.getLsbD_or, Int64.toBitVec_and, BitVec.getLsbD_and, bg_msk i hi, Int64.toBitVec_shiftLeft]
  show ((c.toInt64.toBitVec <<< (((32 : Int32).toInt64 &&& 63).toBitVec.smod 64).toNat).getLsbD i || _) = _
  rw [bg_s32, BitVec.getLsbD_shiftLeft, Int32.toBitVec_toInt64, Int32.toBitVec_toInt64, BitVec.getLsbD_signExtend, BitVec.getLsbD_signExtend]
  by_cases h : i < 32
  · rw [if_pos h, if_pos h, decide_eq_true h, decide_eq_true hi]
    simp
  · rw [if_neg h, if_neg h, decide_eq_false h, decide_eq_true hi, decide_eq_true (show i - 32 < 64 by omega), if_pos (show i - 32 < 32 by omega)]
    simp
theorem bg_vb (w : Int64) {i : Nat} (hi : i < 32) : bt w.toInt32 i = bg_l w i := by
  unfold bt bg_l
  rw [Int64.toBitVec_toInt32, BitVec.getLsbD_signExtend, decide_eq_true hi, if_pos (show i < 64 by omega), Bool.true_and]
theorem bg_u32 : (((32 : Int32).toInt64.toUInt64 &&& Int64.toUInt64 63).toBitVec % 64).toNat = 32 := by decide +kernel
theorem bg_hbt (w : Int64) {i : Nat} (hi : i < 32) : bt (bg_h w) i = bg_l w (32 + i) := by
  unfold bg_h
  rw [bg_vb _ hi]
  show (w.toUInt64 >>> ((32 : Int32).toInt64.toUInt64 &&& Int64.toUInt64 63)).toBitVec.getLsbD i = w.toUInt64.toBitVec.getLsbD (32 + i)
  rw [UInt64.toBitVec_shiftRight]
  show (w.toUInt64.toBitVec >>> (((32 : Int32).toInt64.toUInt64 &&& Int64.toUInt64 63).toBitVec % 64).toNat).getLsbD i = _
  rw [bg_u32, BitVec.getLsbD_ushiftRight]
theorem bg_mv (c v : Int32) : (bg_m c v).toInt32 = v := by
  apply b_ext
  intro i hi
  rw [bg_vb _ hi, bg_mb c v (by omega), if_pos hi]
theorem bg_mh (c v : Int32) : bg_h (bg_m c v) = c := by
  apply b_ext
  intro i hi
  rw [bg_hbt _ hi, bg_mb c v (by omega), if_neg (by omega), Nat.add_sub_cancel_left]
theorem bg_mx (c v c' v' : Int32) : bg_m c v ^^^ bg_m c' v' = bg_m (c ^^^ c') (v ^^^ v') := by
  apply bg_lext
  intro i hi
  rw [bg_lx, bg_mb c v hi, bg_mb c' v' hi, bg_mb _ _ hi]
  by_cases h : i < 32
  · rw [if_pos h, if_pos h, if_pos h, b_xor]
  · rw [if_neg h, if_neg h, if_neg h, b_xor]
theorem bg_mhv (w : Int64) : bg_m (bg_h w) w.toInt32 = w := by
  apply bg_lext
  intro i hi
  rw [bg_mb _ _ hi]
  by_cases h : i < 32
  · rw [if_pos h, bg_vb _ h]
  · rw [if_neg h, bg_hbt _ (by omega), show 32 + (i - 32) = i by omega]
theorem bg_ml (c v : Int32) {i : Nat} (hi : i < 32) : bg_l (bg_m c v) i = bt v i := by rw [bg_mb c v (by omega), if_pos hi]
theorem bg_x1 (a b r : Int64) : (a ^^^ r) ^^^ (b ^^^ r) = a ^^^ b := by
  apply bg_lext
  intro i _
  simp only [bg_lx]
  cases bg_l a i <;> cases bg_l b i <;> cases bg_l r i <;> rfl
theorem bg_x2 (a b r : Int64) : (a ^^^ r) ^^^ b = (a ^^^ b) ^^^ r := by
  apply bg_lext
  intro i _
  simp only [bg_lx]
  cases bg_l a i <;> cases bg_l b i <;> cases bg_l r i <;> rfl
theorem bg_x3 (a b r : Int64) : a ^^^ (b ^^^ r) = (a ^^^ b) ^^^ r := by
  apply bg_lext
  intro i _
  simp only [bg_lx]
  cases bg_l a i <;> cases bg_l b i <;> cases bg_l r i <;> rfl
theorem bg_x4 (a : Int64) : a ^^^ 0 = a := by
  apply bg_lext
  intro i _
  rw [bg_lx, bg_l0, Bool.xor_false]
theorem bg_x5 (a : Int64) : a ^^^ a = 0 := by
  apply bg_lext
  intro i _
  rw [bg_lx, bg_l0, Bool.xor_self]
theorem bg_y4 (a : Int32) : a ^^^ 0 = a := by
  apply b_ext
  intro i _
  rw [b_xor, b_0, Bool.xor_false]
theorem bg_y5 (a : Int32) : (0 : Int32) ^^^ a = a := by
  apply b_ext
  intro i _
  rw [b_xor, b_0, Bool.false_xor]
theorem bg_y6 (a b : Int32) : a ^^^ (a ^^^ b) = b := by
  apply b_ext
  intro i _
  simp only [b_xor]
  cases bt a i <;> cases bt b i <;> rfl
/-! one pass over the pivots -/
def bg_rx (P : Int32) (R : Nat → Int64) (w : Int64) : Nat → Int64
  | 0 => w
  | n + 1 => if (bt P n && bg_l (bg_rx P R w n) n) = true then bg_rx P R w n ^^^ R n else bg_rx P R w n
theorem bg_rxS (P : Int32) (R : Nat → Int64) (w : Int64) (n : Nat) : bg_rx P R w (n + 1) = if (bt P n && bg_l (bg_rx P R w n) n) = true then bg_rx P R w n ^^^ R n else bg_rx P R w n := rfl
theorem bg_rx_c {P : Int32} {R R' : Nat → Int64} (w : Int64) : ∀ n, (∀ p, p < n → bt P p = true → R p = R' p) → bg_rx P R w n = bg_rx P R' w n := by
  intro n
  induction n with
  | zero => intro _; rfl
  | succ n ih =>
    intro h
    rw [bg_rxS, bg_rxS, ih (fun p hp => h p (by omega))]
    by_cases hc : (bt P n && bg_l (bg_rx P R' w n) n) = true
    · rw [if_pos hc, if_pos hc, h n (by omega) ((Bool.and_eq_true _ _).mp hc).1]
    · rw [if_neg hc, if_neg hc]
theorem bg_rx_x (P : Int32) (R : Nat → Int64) (a b : Int64) : ∀ n, bg_rx P R (a ^^^ b) n = bg_rx P R a n ^^^ bg_rx P R b n := by
  intro n
  induction n with
  | zero => rfl
  | succ n ih =>
    rw [bg_rxS, bg_rxS, bg_rxS, ih, bg_lx]
    generalize bg_rx P R a n = A
    generalize bg_rx P R b n = B
    cases bt P n <;> cases bg_l A n <;> cases bg_l B n <;> simp <;> first | rfl | exact (bg_x1 A B (R n)).symm | exact (bg_x2 A B (R n)).symm | exact (bg_x3 A B (R n)).symm
theorem bg_rx_i {P : Int32} {R : Nat → Int64} {w : Int64} : ∀ n, (∀ p, p < n → bt P p = true → bg_l w p = false) → bg_rx P R w n = w := by
  intro n
  induction n with
  | zero => intro _; rfl
  | succ n ih =>
    intro h
    rw [bg_rxS, ih (fun p hp => h p (by omega)), if_neg]
    intro hc
    have h2 := (Bool.and_eq_true _ _).mp hc
    rw [h n (by omega) h2.1] at h2
    exact absurd h2.2 (by decide)
/-- rows led by their least points -/
def bg_IV (P : Int32) (R : Nat → Int64) : Prop := ∀ p, p < 32 → bt P p = true → bg_l (R p) p = true ∧ ∀ q, q < p → bg_l (R p) q = false
theorem bg_rx_z {P : Int32} {R : Nat → Int64} (I : bg_IV P R) (w : Int64) : ∀ n, n ≤ 32 → ∀ p, p < n → bt P p = true → bg_l (bg_rx P R w n) p = false := by
  intro n
  induction n with
  | zero => intro _ p hp; omega
  | succ n ih =>
    intro hn p hp hP
    rw [bg_rxS]
    by_cases hc : (bt P n && bg_l (bg_rx P R w n) n) = true
    · rw [if_pos hc, bg_lx]
      have h2 := (Bool.and_eq_true _ _).mp hc
      have h3 := I n (by omega) h2.1
      by_cases e : p = n
      · subst e; rw [h2.2, h3.1]; rfl
      · rw [ih (by omega) p (by omega) hP, h3.2 p (by omega)]; rfl
    · rw [if_neg hc]
      by_cases e : p = n
      · subst e
        rw [hP, Bool.true_and] at hc
        exact ts_nt hc
      · exact ih (by omega) p (by omega) hP
theorem bg_rx_r {P : Int32} {R : Nat → Int64} (I : bg_IV P R) {p : Nat} (hp : p < 32) (hP : bt P p = true) : ∀ n, bg_rx P R (R p) n = if n ≤ p then R p else 0 := by
  intro n
  have h := I p hp hP
  induction n with
  | zero => rw [if_pos (by omega)]; rfl
  | succ n ih =>
    rw [bg_rxS, ih]
    by_cases h1 : n < p
    · rw [if_pos (show n ≤ p by omega), if_pos (show n + 1 ≤ p by omega), h.2 n h1, Bool.and_false, if_neg (by decide)]
    · by_cases h2 : n = p
      · subst h2
        rw [if_pos (Nat.le_refl n), if_neg (show ¬ n + 1 ≤ n by omega), hP, h.1, if_pos (by rfl), bg_x5]
      · rw [if_neg (show ¬ n ≤ p by omega), if_neg (show ¬ n + 1 ≤ p by omega), bg_l0, Bool.and_false, if_neg (by decide)]
theorem bg_rx_a {P : Int32} {R : Nat → Int64} (I : bg_IV P R) {p : Nat} (hp : p < 32) (hP : bt P p = true) (w : Int64) : bg_rx P R (w ^^^ R p) 32 = bg_rx P R w 32 := by
  rw [bg_rx_x, bg_rx_r I hp hP, if_neg (by omega), bg_x4]
/-- what a smaller set of the same rows takes away, the pass takes away -/
theorem bg_rx_2 {P P' : Int32} {R R' : Nat → Int64} (I : bg_IV P' R') (h : ∀ p, p < 32 → bt P p = true → bt P' p = true ∧ R' p = R p) (w : Int64) : ∀ n, n ≤ 32 → bg_rx P' R' (bg_rx P R w n) 32 = bg_rx P' R' w 32 := by
  intro n
  induction n with
  | zero => intro _; rfl
  | succ n ih =>
    intro hn
    rw [bg_rxS P R w n]
    by_cases hc : (bt P n && bg_l (bg_rx P R w n) n) = true
    · have h2 := h n (by omega) ((Bool.and_eq_true _ _).mp hc).1
      rw [if_pos hc, ← h2.2, bg_rx_a I (by omega) h2.1, ih (by omega)]
    · rw [if_neg hc, ih (by omega)]
/-- the polynomial's part goes along -/
theorem bg_rx_m (P : Int32) (R : Nat → Int64) (c v : Int32) : bg_rx P R (bg_m c v) 32 = bg_m c 0 ^^^ bg_rx P R (bg_m 0 v) 32 := by
  have e : bg_m c v = bg_m c 0 ^^^ bg_m 0 v := by rw [bg_mx, bg_y4, bg_y5]
  rw [e, bg_rx_x, bg_rx_i 32]
  intro p hp _
  rw [bg_ml c 0 hp, b_0]
/-! the least point -/
def bg_lf (v : Int32) : Nat → Nat → Nat
  | 0, i => i
  | f + 1, i => if bt v i = true then i else bg_lf v f (i + 1)
def bg_lb (v : Int32) : Nat := bg_lf v 32 0
theorem bg_lfs (v : Int32) : ∀ f i, (∀ q, q < i → bt v q = false) → (∃ q, q < i + f ∧ bt v q = true) → bg_lf v f i < i + f ∧ bt v (bg_lf v f i) = true ∧ ∀ q, q < bg_lf v f i → bt v q = false := by
  intro f
  induction f with
  | zero =>
    intro i h hq
    obtain ⟨q, hq, hv⟩ := hq
    rw [h q (by omega)] at hv
    exact absurd hv (by decide)
  | succ f ih =>
    intro i h hq
    unfold bg_lf
    by_cases hi : bt v i = true
    · rw [if_pos hi]
      exact ⟨by omega, hi, h⟩
    · rw [if_neg hi]
      obtain ⟨q, hq, hv⟩ := hq
      have := ih (i + 1) (fun q hq => by
        by_cases e : q = i
        · subst e; exact ts_nt hi
        · exact h q (by omega)) ⟨q, by omega, hv⟩
      exact ⟨by omega, this.2⟩
theorem bg_nz {v : Int32} (h : ¬ v = 0) : ∃ q, q < 32 ∧ bt v q = true := by
  apply Classical.byContradiction
  intro hn
  refine h (b_ext fun i hi => ?_)
  rw [b_0]
  cases e : bt v i
  · rfl
  · exact absurd ⟨i, hi, e⟩ hn
theorem bg_lbs {v : Int32} (h : ¬ v = 0) : bg_lb v < 32 ∧ bt v (bg_lb v) = true ∧ ∀ q, q < bg_lb v → bt v q = false := by
  obtain ⟨q, hq, hv⟩ := bg_nz h
  have := bg_lfs v 32 0 (fun q hq => by omega) ⟨q, by omega, hv⟩
  exact ⟨by have := this.1; unfold bg_lb; omega, this.2⟩
theorem bg_lbu {v : Int32} {p : Nat} (hp : bt v p = true) (h : ∀ q, q < p → bt v q = false) (hv : ¬ v = 0) : bg_lb v = p := by
  have s := bg_lbs hv
  rcases Nat.lt_trichotomy (bg_lb v) p with e | e | e
  · rw [h _ e] at s; exact absurd s.2.1 (by decide)
  · exact e
  · rw [s.2.2 _ e] at hp; exact absurd hp (by decide)
theorem bg_neg {v : Int32} (h : ¬ v = 0) {i : Nat} (hi : i < 32) : bt (v &&& -v) i = decide (i = bg_lb v) := by
  have s := bg_lbs h
  rw [b_and]
  have e : bt (-v) i = (bt v i ^^ decide (∃ j, j < i ∧ bt v j = true)) := by
    unfold bt
    rw [Int32.toBitVec_neg, BitVec.getLsbD_neg, decide_eq_true hi, Bool.true_and]
  rw [e]
  rcases Nat.lt_trichotomy i (bg_lb v) with l | l | l
  · rw [s.2.2 i l, decide_eq_false (show ¬ i = bg_lb v by omega), Bool.false_and]
  · rw [decide_eq_true l, l, s.2.1, decide_eq_false]
    · rfl
    · rintro ⟨j, hj, hv⟩
      rw [s.2.2 j hj] at hv
      exact absurd hv (by decide)
  · rw [decide_eq_false (show ¬ i = bg_lb v by omega), decide_eq_true ⟨bg_lb v, l, s.2.1⟩]
    cases bt v i <;> rfl
theorem bg_low (v : Int32) {r : Int32} (h : ¬ r = 0) : v &&& (r &&& -r) = 0 ↔ bt v (bg_lb r) = false := by
  have s := bg_lbs h
  constructor
  · intro e
    have this : bt (v &&& (r &&& -r)) (bg_lb r) = bt 0 (bg_lb r) := congrArg (fun x => bt x (bg_lb r)) e
    rw [b_and, bg_neg h s.1, b_0, decide_eq_true rfl, Bool.and_true] at this
    exact this
  · intro e
    apply b_ext
    intro i hi
    rw [b_and, bg_neg h hi, b_0]
    by_cases c : i = bg_lb r
    · rw [c, e, Bool.false_and]
    · rw [decide_eq_false c, Bool.and_false]
end BGB
