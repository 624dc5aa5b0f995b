section BGC
/-! counts -/
def bg_ct (f : Nat → Bool) : Nat → Nat
  | 0 => 0
  | n + 1 => bg_ct f n + (if f n = true then 1 else 0)
theorem bg_ctS (f : Nat → Bool) (n : Nat) : bg_ct f (n + 1) = bg_ct f n + (if f n = true then 1 else 0) := rfl
theorem bg_ctT {f : Nat → Bool} {n : Nat} (h : f n = true) : bg_ct f (n + 1) = bg_ct f n + 1 := by rw [bg_ctS, if_pos h]
theorem bg_ctF {f : Nat → Bool} {n : Nat} (h : f n = false) : bg_ct f (n + 1) = bg_ct f n := by rw [bg_ctS, h, if_neg (by decide)]; rfl
theorem bg_ct_le (f : Nat → Bool) : ∀ n, bg_ct f n ≤ n := by
  intro n
  induction n with
  | zero => exact Nat.le_refl 0
  | succ n ih => rw [bg_ctS]; split <;> omega
theorem bg_ct_mono (f : Nat → Bool) : ∀ a b, a ≤ b → bg_ct f a ≤ bg_ct f b := by
  intro a b h
  induction b with
  | zero => have : a = 0 := by omega
            subst this; exact Nat.le_refl _
  | succ b ih =>
    by_cases e : a = b + 1
    · subst e; exact Nat.le_refl _
    · have := ih (by omega)
      rw [bg_ctS]; omega
theorem bg_ct_c {f g : Nat → Bool} : ∀ n, (∀ m, m < n → f m = g m) → bg_ct f n = bg_ct g n := by
  intro n
  induction n with
  | zero => intro _; rfl
  | succ n ih => intro h; rw [bg_ctS, bg_ctS, ih (fun m hm => h m (by omega)), h n (by omega)]
theorem bg_ct_u {f g : Nat → Bool} {m : Nat} (hf : f m = false) (hg : g m = true) (h : ∀ j, j ≠ m → g j = f j) : ∀ n, bg_ct g n = bg_ct f n + (if m < n then 1 else 0) := by
  intro n
  induction n with
  | zero => rw [if_neg (Nat.not_lt_zero m)]; rfl
  | succ n ih =>
    rw [bg_ctS, bg_ctS, ih]
    by_cases e : n = m
    · subst e
      rw [hf, hg, if_neg (Nat.lt_irrefl n), if_pos (by rfl), if_neg (by decide), if_pos (Nat.lt_succ_self n)]
    · rw [h n e]
      by_cases l : m < n
      · rw [if_pos l, if_pos (show m < n + 1 by omega)]; omega
      · rw [if_neg l, if_neg (show ¬ m < n + 1 by omega)]; omega
theorem bg_ct_0 (n : Nat) : bg_ct (fun _ => false) n = 0 := by
  induction n with
  | zero => rfl
  | succ n ih => rw [bg_ctF rfl, ih]
/-! the two orders: true by the number of variables, false by the number -/
def bg_T : List Nat := [0, 1, 2, 4, 8, 16, 3, 5, 6, 9, 10, 12, 17, 18, 20, 24, 7, 11, 13, 14, 19, 21, 22, 25, 26, 28, 15, 23, 27, 29, 30, 31]
def bg_U : List Nat := [0, 1, 2, 6, 3, 7, 8, 16, 4, 9, 10, 17, 11, 18, 19, 26, 5, 12, 13, 20, 14, 21, 22, 27, 15, 23, 24, 28, 25, 29, 30, 31]
def bg_mo (d : Bool) (r : Nat) : Nat := if d = true then bg_T.getD r 0 else r
def bg_rk (d : Bool) (m : Nat) : Nat := if d = true then bg_U.getD m 0 else m
def bg_dg (m : Nat) : Nat := bg_ct (fun i => m.testBit i) 5
def bg_lo (d : Bool) (l m : Nat) : Bool := if (d && !(decide (bg_dg l = bg_dg m))) = true then decide (bg_dg l < bg_dg m) else decide (l < m)
theorem bg_mo_lt : ∀ d : Bool, ∀ r, r < 32 → bg_mo d r < 32 := by decide +kernel
theorem bg_rk_lt : ∀ d : Bool, ∀ m, m < 32 → bg_rk d m < 32 := by decide +kernel
theorem bg_rk_mo : ∀ d : Bool, ∀ r, r < 32 → bg_rk d (bg_mo d r) = r := by decide +kernel
theorem bg_mo_rk : ∀ d : Bool, ∀ m, m < 32 → bg_mo d (bg_rk d m) = m := by decide +kernel
theorem bg_lo_rk : ∀ d : Bool, ∀ a, a < 32 → ∀ b, b < 32 → bg_lo d a b = decide (bg_rk d a < bg_rk d b) := by decide +kernel
theorem bg_rk_dv : ∀ d : Bool, ∀ m, m < 32 → ∀ l, l < m → l &&& m = l → bg_rk d l < bg_rk d m := by decide +kernel
theorem bg_rk_ct : ∀ d : Bool, ∀ m, m < 32 → bg_ct (fun l => bg_lo d l m) 32 = bg_rk d m := by decide +kernel
theorem bg_dg5 : ∀ m, m < 32 → bg_ct (bt (nI m)) 5 = bg_dg m := by decide +kernel
theorem bg_dg32 : ∀ m, m < 32 → bg_ct (bt (nI m)) 32 = bg_dg m := by decide +kernel
theorem bg_dg_lt (m : Nat) : bg_dg m ≤ 5 := bg_ct_le _ 5
/-! how the component fills its table -/
def bg_cn (v m : Nat) : Nat := bg_ct (fun r => decide (bg_dg (bg_T.getD r 0) < v) || (decide (bg_dg (bg_T.getD r 0) = v) && decide (bg_T.getD r 0 < m))) 32
theorem bg_cnT : ∀ v, v < 6 → ∀ m, m < 32 → bg_dg m = v → bg_T.getD (bg_cn v m) 0 = m ∧ bg_cn v (m + 1) = bg_cn v m + 1 ∧ bg_cn v m < 32 := by decide +kernel
theorem bg_cnF : ∀ v, v < 6 → ∀ m, m < 32 → ¬ bg_dg m = v → bg_cn v (m + 1) = bg_cn v m := by decide +kernel
theorem bg_cnS : ∀ v, v < 6 → bg_cn v 32 = bg_cn (v + 1) 0 := by decide +kernel
theorem bg_cn0 : bg_cn 0 0 = 0 := by decide +kernel
theorem bg_cn6 : bg_cn 6 0 = 32 := by decide +kernel
theorem bg_cn_le (v m : Nat) : bg_cn v m ≤ 32 := bg_ct_le _ 32
/-! a count over ranks is a count over monomials -/
theorem bg_perm (d : Bool) (f : Nat → Bool) : ∀ i, i ≤ 32 → bg_ct (fun m => f m && decide (bg_rk d m < i)) 32 = bg_ct (fun r => f (bg_mo d r)) i := by
  intro i
  induction i with
  | zero =>
    intro _
    rw [bg_ct_c (g := fun _ => false) 32 (fun m _ => by show (f m && decide (bg_rk d m < 0)) = false; rw [decide_eq_false (Nat.not_lt_zero _), Bool.and_false]), bg_ct_0]
    rfl
  | succ i ih =>
    intro hi
    have hm := bg_mo_lt d i (by omega)
    have hr := bg_rk_mo d i (by omega)
    have ih' := ih (by omega)
    cases hf : f (bg_mo d i)
    · rw [bg_ctF (f := fun r => f (bg_mo d r)) hf, ← ih']
      refine bg_ct_c 32 (fun m hm2 => ?_)
      show (f m && decide (bg_rk d m < i + 1)) = (f m && decide (bg_rk d m < i))
      by_cases e : bg_rk d m = i
      · have : bg_mo d i = m := by rw [← e]; exact bg_mo_rk d m hm2
        rw [← this, hf]; rfl
      · by_cases l : bg_rk d m < i
        · rw [decide_eq_true l, decide_eq_true (show bg_rk d m < i + 1 by omega)]
        · rw [decide_eq_false l, decide_eq_false (show ¬ bg_rk d m < i + 1 by omega)]
    · rw [bg_ctT (f := fun r => f (bg_mo d r)) hf, ← ih']
      have c : bg_ct (fun m => f m && decide (bg_rk d m < i + 1)) 32 = bg_ct (fun m => (decide (m < 32) && f m) && decide (bg_rk d m < i + 1)) 32 := bg_ct_c 32 (fun m h => by show (f m && decide (bg_rk d m < i + 1)) = ((decide (m < 32) && f m) && decide (bg_rk d m < i + 1)); rw [decide_eq_true h, Bool.true_and])
      have c' : bg_ct (fun m => f m && decide (bg_rk d m < i)) 32 = bg_ct (fun m => (decide (m < 32) && f m) && decide (bg_rk d m < i)) 32 := bg_ct_c 32 (fun m h => by show (f m && decide (bg_rk d m < i)) = ((decide (m < 32) && f m) && decide (bg_rk d m < i)); rw [decide_eq_true h, Bool.true_and])
      rw [c, c', bg_ct_u (f := fun m => (decide (m < 32) && f m) && decide (bg_rk d m < i)) (m := bg_mo d i), if_pos hm]
      · show ((decide (bg_mo d i < 32) && f (bg_mo d i)) && decide (bg_rk d (bg_mo d i) < i)) = false
        rw [hr, decide_eq_false (Nat.lt_irrefl i), Bool.and_false]
      · show ((decide (bg_mo d i < 32) && f (bg_mo d i)) && decide (bg_rk d (bg_mo d i) < i + 1)) = true
        rw [hr, hf, decide_eq_true (Nat.lt_succ_self i), decide_eq_true hm]; rfl
      · intro j hj
        show ((decide (j < 32) && f j) && decide (bg_rk d j < i + 1)) = ((decide (j < 32) && f j) && decide (bg_rk d j < i))
        by_cases hj2 : j < 32
        · have e : ¬ bg_rk d j = i := by
            intro e
            apply hj
            rw [← e]; exact (bg_mo_rk d j hj2).symm
          by_cases l : bg_rk d j < i
          · rw [decide_eq_true l, decide_eq_true (show bg_rk d j < i + 1 by omega)]
          · rw [decide_eq_false l, decide_eq_false (show ¬ bg_rk d j < i + 1 by omega)]
        · rw [decide_eq_false hj2, Bool.false_and, Bool.false_and, Bool.false_and]
theorem bg_permE (d : Bool) (f : Nat → Bool) : bg_ct (fun r => f (bg_mo d r)) 32 = bg_ct f 32 := by
  rw [← bg_perm d f 32 (Nat.le_refl _)]
  refine bg_ct_c 32 (fun m hm => ?_)
  show (f m && decide (bg_rk d m < 32)) = f m
  rw [decide_eq_true (bg_rk_lt d m hm), Bool.and_true]
end BGC
