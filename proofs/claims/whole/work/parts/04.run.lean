section BGD
/-! the elimination: pivots, rows, led monomials after i ranks -/
def bg_w0 (z : Int32) (m : Nat) : Int64 := bg_m (bg_b m) (bg_x (bg_b m) &&& z)
def bg_es (P : Int32) (R : Nat → Int64) (L : Int32) (m : Nat) (w : Int64) : Int32 × (Nat → Int64) × Int32 :=
  if w.toInt32 = 0 then (P, R, L ||| bg_b m) else (P ||| bg_b (bg_lb w.toInt32), vp_updL R (bg_lb w.toInt32) w, L)
def bg_el (z : Int32) (d : Bool) : Nat → Int32 × (Nat → Int64) × Int32
  | 0 => (0, fun _ => 0, 0)
  | i + 1 => bg_es (bg_el z d i).1 (bg_el z d i).2.1 (bg_el z d i).2.2 (bg_mo d i) (bg_rx (bg_el z d i).1 (bg_el z d i).2.1 (bg_w0 z (bg_mo d i)) 32)
def bg_P (z : Int32) (d : Bool) (i : Nat) : Int32 := (bg_el z d i).1
def bg_R (z : Int32) (d : Bool) (i : Nat) : Nat → Int64 := (bg_el z d i).2.1
def bg_L (z : Int32) (d : Bool) (i : Nat) : Int32 := (bg_el z d i).2.2
def bg_W (z : Int32) (d : Bool) (i : Nat) : Int64 := bg_rx (bg_P z d i) (bg_R z d i) (bg_w0 z (bg_mo d i)) 32
theorem bg_elS (z : Int32) (d : Bool) (i : Nat) : bg_el z d (i + 1) = bg_es (bg_P z d i) (bg_R z d i) (bg_L z d i) (bg_mo d i) (bg_W z d i) := rfl
theorem bg_elT {z : Int32} {d : Bool} {i : Nat} (h : (bg_W z d i).toInt32 = 0) : bg_P z d (i + 1) = bg_P z d i ∧ bg_R z d (i + 1) = bg_R z d i ∧ bg_L z d (i + 1) = (bg_L z d i ||| bg_b (bg_mo d i)) := by
  have e : bg_el z d (i + 1) = (bg_P z d i, bg_R z d i, bg_L z d i ||| bg_b (bg_mo d i)) := by
    rw [bg_elS]; unfold bg_es; rw [if_pos h]
  refine ⟨?_, ?_, ?_⟩
  · show (bg_el z d (i + 1)).1 = _
    rw [e]
  · show (bg_el z d (i + 1)).2.1 = _
    rw [e]
  · show (bg_el z d (i + 1)).2.2 = _
    rw [e]
theorem bg_elF {z : Int32} {d : Bool} {i : Nat} (h : ¬ (bg_W z d i).toInt32 = 0) : bg_P z d (i + 1) = (bg_P z d i ||| bg_b (bg_lb (bg_W z d i).toInt32)) ∧ bg_R z d (i + 1) = vp_updL (bg_R z d i) (bg_lb (bg_W z d i).toInt32) (bg_W z d i) ∧ bg_L z d (i + 1) = bg_L z d i := by
  have e : bg_el z d (i + 1) = (bg_P z d i ||| bg_b (bg_lb (bg_W z d i).toInt32), vp_updL (bg_R z d i) (bg_lb (bg_W z d i).toInt32) (bg_W z d i), bg_L z d i) := by
    rw [bg_elS]; unfold bg_es; rw [if_neg h]
  refine ⟨?_, ?_, ?_⟩
  · show (bg_el z d (i + 1)).1 = _
    rw [e]
  · show (bg_el z d (i + 1)).2.1 = _
    rw [e]
  · show (bg_el z d (i + 1)).2.2 = _
    rw [e]
theorem bg_IVn {P : Int32} {R : Nat → Int64} (I : bg_IV P R) {w : Int64} (h : ¬ w.toInt32 = 0) : bg_IV (P ||| bg_b (bg_lb w.toInt32)) (vp_updL R (bg_lb w.toInt32) w) := by
  have s := bg_lbs h
  intro p hp hP
  by_cases e : p = bg_lb w.toInt32
  · rw [e, pk_uLs]
    refine ⟨?_, fun q hq => ?_⟩
    · rw [← bg_vb w s.1]; exact s.2.1
    · rw [← bg_vb w (by omega)]; exact s.2.2 q hq
  · rw [pk_uLn e]
    rw [b_or, bg_bb s.1 hp, decide_eq_false e, Bool.or_false] at hP
    exact I p hp hP
theorem bg_IVi (z : Int32) (d : Bool) : ∀ i, bg_IV (bg_P z d i) (bg_R z d i) := by
  intro i
  induction i with
  | zero =>
    intro p _ h
    have h' : bt 0 p = true := h
    rw [b_0] at h'
    exact absurd h' (by decide)
  | succ i ih =>
    by_cases h : (bg_W z d i).toInt32 = 0
    · rw [(bg_elT h).1, (bg_elT h).2.1]; exact ih
    · rw [(bg_elF h).1, (bg_elF h).2.1]; exact bg_IVn ih h
theorem bg_rxn {P : Int32} {R : Nat → Int64} (I : bg_IV P R) (w : Int64) (h : ¬ (bg_rx P R w 32).toInt32 = 0) : bt P (bg_lb (bg_rx P R w 32).toInt32) = false := by
  have s := bg_lbs h
  cases e : bt P (bg_lb (bg_rx P R w 32).toInt32)
  · rfl
  · have := bg_rx_z I w 32 (Nat.le_refl _) _ s.1 e
    rw [← bg_vb _ s.1, s.2.1] at this
    exact absurd this (by decide)
theorem bg_pst (z : Int32) (d : Bool) (i : Nat) : ∀ k p, p < 32 → bt (bg_P z d i) p = true → bt (bg_P z d (i + k)) p = true ∧ bg_R z d (i + k) p = bg_R z d i p := by
  intro k
  induction k with
  | zero => intro p _ h; exact ⟨h, rfl⟩
  | succ k ih =>
    intro p hp hP
    have h0 := ih p hp hP
    rw [show i + (k + 1) = (i + k) + 1 from rfl]
    by_cases h : (bg_W z d (i + k)).toInt32 = 0
    · rw [(bg_elT h).1, (bg_elT h).2.1]; exact h0
    · rw [(bg_elF h).1, (bg_elF h).2.1]
      have n := bg_rxn (bg_IVi z d (i + k)) _ h
      have e : p ≠ bg_lb (bg_W z d (i + k)).toInt32 := by
        intro e
        have h1 := h0.1
        rw [e] at h1
        have n' : bt (bg_P z d (i + k)) (bg_lb (bg_W z d (i + k)).toInt32) = false := n
        rw [n'] at h1
        exact absurd h1 (by decide)
      rw [pk_uLn e, b_or, h0.1, Bool.true_or]
      exact ⟨rfl, h0.2⟩
/-- the monomial of rank r is led -/
def bg_ld (z : Int32) (d : Bool) (r : Nat) : Bool := decide ((bg_W z d r).toInt32 = 0)
theorem bg_Lb (z : Int32) (d : Bool) : ∀ i, i ≤ 32 → ∀ m, m < 32 → bt (bg_L z d i) m = (decide (bg_rk d m < i) && bg_ld z d (bg_rk d m)) := by
  intro i
  induction i with
  | zero =>
    intro _ m _
    show bt 0 m = _
    rw [b_0, decide_eq_false (Nat.not_lt_zero _), Bool.false_and]
  | succ i ih =>
    intro hi m hm
    have hmo := bg_mo_lt d i (by omega)
    by_cases e : bg_rk d m = i
    · have em : bg_mo d i = m := by rw [← e]; exact bg_mo_rk d m hm
      rw [e, decide_eq_true (Nat.lt_succ_self i), Bool.true_and]
      by_cases h : (bg_W z d i).toInt32 = 0
      · rw [(bg_elT h).2.2, b_or, bg_bb hmo hm, decide_eq_true em.symm, Bool.or_true]
        unfold bg_ld
        rw [decide_eq_true h]
      · rw [(bg_elF h).2.2, ih (by omega) m hm, e, decide_eq_false (Nat.lt_irrefl i), Bool.false_and]
        unfold bg_ld
        rw [decide_eq_false h]
    · have em : ¬ m = bg_mo d i := by
        intro em
        apply e
        rw [em]; exact bg_rk_mo d i (by omega)
      have el : decide (bg_rk d m < i + 1) = decide (bg_rk d m < i) := by
        by_cases l : bg_rk d m < i
        · rw [decide_eq_true l, decide_eq_true (show bg_rk d m < i + 1 by omega)]
        · rw [decide_eq_false l, decide_eq_false (show ¬ bg_rk d m < i + 1 by omega)]
      rw [el, ← ih (by omega) m hm]
      by_cases h : (bg_W z d i).toInt32 = 0
      · rw [(bg_elT h).2.2, b_or, bg_bb hmo hm, decide_eq_false em, Bool.or_false]
      · rw [(bg_elF h).2.2]
theorem bg_Lf (z : Int32) (d : Bool) {m : Nat} (hm : m < 32) : bt (bg_L z d 32) m = bg_ld z d (bg_rk d m) := by
  rw [bg_Lb z d 32 (Nat.le_refl _) m hm, decide_eq_true (bg_rk_lt d m hm), Bool.true_and]
/-! a led divisor -/
def bg_hd (f : Nat → Bool) (m : Nat) : Nat → Bool
  | 0 => false
  | n + 1 => bg_hd f m n || (decide (n &&& m = n) && f n)
theorem bg_hdS (f : Nat → Bool) (m n : Nat) : bg_hd f m (n + 1) = (bg_hd f m n || (decide (n &&& m = n) && f n)) := rfl
theorem bg_hd_m {f : Nat → Bool} {m n : Nat} (h : bg_hd f m n = true) : ∀ k, bg_hd f m (n + k) = true := by
  intro k
  induction k with
  | zero => exact h
  | succ k ih => rw [show n + (k + 1) = (n + k) + 1 from rfl, bg_hdS, ih, Bool.true_or]
theorem bg_hd_t {f : Nat → Bool} {m l n : Nat} (hl : l < n) (h1 : l &&& m = l) (h2 : f l = true) : bg_hd f m n = true := by
  have h : bg_hd f m (l + 1) = true := by rw [bg_hdS, decide_eq_true h1, h2, Bool.true_and, Bool.or_true]
  have := bg_hd_m h (n - (l + 1))
  rwa [show l + 1 + (n - (l + 1)) = n by omega] at this
theorem bg_hd_c {f g : Nat → Bool} {m : Nat} : ∀ n, (∀ l, l < n → l &&& m = l → f l = g l) → bg_hd f m n = bg_hd g m n := by
  intro n
  induction n with
  | zero => intro _; rfl
  | succ n ih =>
    intro h
    rw [bg_hdS, bg_hdS, ih (fun l hl => h l (by omega))]
    by_cases e : n &&& m = n
    · rw [h n (by omega) e]
    · rw [decide_eq_false e, Bool.false_and, Bool.false_and]
/-- the monomial m is a least led one -/
def bg_le (z : Int32) (d : Bool) (m : Nat) : Bool := bg_ld z d (bg_rk d m) && !(bg_hd (fun l => bg_ld z d (bg_rk d l)) m m)
theorem bg_hdi (z : Int32) (d : Bool) {i : Nat} (hi : i < 32) : bg_hd (bt (bg_L z d i)) (bg_mo d i) (bg_mo d i) = bg_hd (fun l => bg_ld z d (bg_rk d l)) (bg_mo d i) (bg_mo d i) := by
  have hm := bg_mo_lt d i hi
  refine bg_hd_c _ (fun l hl e => ?_)
  have h := bg_rk_dv d _ hm l hl e
  rw [bg_rk_mo d i hi] at h
  show bt (bg_L z d i) l = bg_ld z d (bg_rk d l)
  rw [bg_Lb z d i (by omega) l (by omega), decide_eq_true h, Bool.true_and]
theorem bg_hx (a b : Int64) : bg_h (a ^^^ b) = bg_h a ^^^ bg_h b := by
  apply b_ext
  intro i hi
  rw [bg_hbt _ hi, bg_lx, b_xor, bg_hbt _ hi, bg_hbt _ hi]
theorem bg_po (z : Int32) (d : Bool) {i : Nat} (hi : i ≤ 32) (h : (bg_W z d i).toInt32 = 0) : bg_b (bg_mo d i) ^^^ bg_h (bg_rx (bg_P z d 32) (bg_R z d 32) (bg_m 0 (bg_x (bg_b (bg_mo d i)) &&& z)) 32) = bg_h (bg_W z d i) := by
  have e1 : bg_rx (bg_P z d 32) (bg_R z d 32) (bg_W z d i) 32 = bg_rx (bg_P z d 32) (bg_R z d 32) (bg_w0 z (bg_mo d i)) 32 := by
    refine bg_rx_2 (bg_IVi z d 32) (fun p hp hP => ?_) _ 32 (Nat.le_refl _)
    have := bg_pst z d i (32 - i) p hp hP
    rwa [show i + (32 - i) = 32 by omega] at this
  have e2 : bg_rx (bg_P z d 32) (bg_R z d 32) (bg_W z d i) 32 = bg_W z d i := by
    refine bg_rx_i 32 (fun p hp _ => ?_)
    rw [← bg_vb _ hp, h, b_0]
  rw [e2] at e1
  have e3 : bg_W z d i = bg_m (bg_b (bg_mo d i)) 0 ^^^ bg_rx (bg_P z d 32) (bg_R z d 32) (bg_m 0 (bg_x (bg_b (bg_mo d i)) &&& z)) 32 := by
    rw [← bg_rx_m]; exact e1
  rw [e3, bg_hx, bg_mh]
/-! the reference's rows, in the order of their making -/
def bg_yr (row made : Nat → Int32) (v c : Int32) : Nat → Int32 × Int32
  | 0 => (v, c)
  | n + 1 => if (bg_yr row made v c n).1 &&& (row n &&& -row n) = 0 then bg_yr row made v c n else ((bg_yr row made v c n).1 ^^^ row n, (bg_yr row made v c n).2 ^^^ made n)
theorem bg_yrS (row made : Nat → Int32) (v c : Int32) (n : Nat) : bg_yr row made v c (n + 1) = if (bg_yr row made v c n).1 &&& (row n &&& -row n) = 0 then bg_yr row made v c n else ((bg_yr row made v c n).1 ^^^ row n, (bg_yr row made v c n).2 ^^^ made n) := rfl
def bg_Y (P : Int32) (R : Nat → Int64) (n : Nat) (row made : Nat → Int32) : Prop :=
  (∀ r, r < n → ¬ row r = 0 ∧ bt P (bg_lb (row r)) = true ∧ R (bg_lb (row r)) = bg_m (made r) (row r)) ∧ (∀ p, p < 32 → bt P p = true → ∃ r, r < n ∧ bg_lb (row r) = p) ∧ (∀ s, s < n → ∀ r, r < s → bt (row s) (bg_lb (row r)) = false)
theorem bg_yrx {P : Int32} {R : Nat → Int64} {n : Nat} {row made : Nat → Int32} (I : bg_IV P R) (H : bg_Y P R n row made) (v c : Int32) : bg_m (bg_yr row made v c n).2 (bg_yr row made v c n).1 = bg_rx P R (bg_m c v) 32 := by
  have key : ∀ k, k ≤ n → bg_rx P R (bg_m (bg_yr row made v c k).2 (bg_yr row made v c k).1) 32 = bg_rx P R (bg_m c v) 32 ∧ ∀ r, r < k → bt (bg_yr row made v c k).1 (bg_lb (row r)) = false := by
    intro k
    induction k with
    | zero => intro _; exact ⟨rfl, fun r hr => absurd hr (Nat.not_lt_zero r)⟩
    | succ k ih =>
      intro hk
      obtain ⟨i1, i2⟩ := ih (by omega)
      obtain ⟨h1, h2, h3⟩ := H.1 k (by omega)
      have s := bg_lbs h1
      rw [bg_yrS]
      by_cases hc : (bg_yr row made v c k).1 &&& (row k &&& -row k) = 0
      · rw [if_pos hc]
        refine ⟨i1, fun r hr => ?_⟩
        by_cases e : r = k
        · subst e; exact (bg_low _ h1).mp hc
        · exact i2 r (by omega)
      · rw [if_neg hc]
        have hb : bt (bg_yr row made v c k).1 (bg_lb (row k)) = true := ts_nf (fun z => hc ((bg_low _ h1).mpr z))
        refine ⟨?_, fun r hr => ?_⟩
        · show bg_rx P R (bg_m ((bg_yr row made v c k).2 ^^^ made k) ((bg_yr row made v c k).1 ^^^ row k)) 32 = _
          rw [← bg_mx, ← h3, bg_rx_a I s.1 h2]
          exact i1
        · show bt ((bg_yr row made v c k).1 ^^^ row k) (bg_lb (row r)) = false
          rw [b_xor]
          by_cases e : r = k
          · subst e; rw [hb, s.2.1]; rfl
          · rw [i2 r (by omega), H.2.2 k (by omega) r (by omega)]; rfl
  obtain ⟨k1, k2⟩ := key n (Nat.le_refl n)
  rw [← k1]
  refine (bg_rx_i 32 (fun p hp hP => ?_)).symm
  obtain ⟨r, hr, e⟩ := H.2.1 p hp hP
  rw [bg_ml _ _ hp, ← e]
  exact k2 r hr
theorem bg_Yn {P : Int32} {R : Nat → Int64} {n : Nat} {row made : Nat → Int32} (I : bg_IV P R) (H : bg_Y P R n row made) {w : Int64} {v c : Int32} (e : bg_m c v = bg_rx P R w 32) (h : ¬ v = 0) : bg_Y (P ||| bg_b (bg_lb v)) (vp_updL R (bg_lb v) (bg_m c v)) (n + 1) (upd row n v) (upd made n c) := by
  have s := bg_lbs h
  have ev : (bg_rx P R w 32).toInt32 = v := by rw [← e, bg_mv]
  have nP : bt P (bg_lb v) = false := by
    have := bg_rxn I w (by rw [ev]; exact h)
    rwa [ev] at this
  have ne : ∀ r, r < n → bg_lb (row r) ≠ bg_lb v := by
    intro r hr q
    have := (H.1 r hr).2.1
    rw [q, nP] at this
    exact absurd this (by decide)
  refine ⟨fun r hr => ?_, fun p hp hP => ?_, fun s' hs r hr => ?_⟩
  · by_cases q : r = n
    · subst q
      rw [pk_us, pk_us, pk_uLs, b_or, bg_bb s.1 s.1, decide_eq_true rfl, Bool.or_true]
      exact ⟨h, rfl, rfl⟩
    · obtain ⟨h1, h2, h3⟩ := H.1 r (by omega)
      rw [pk_un q, pk_un q, pk_uLn (ne r (by omega)), b_or, h2, Bool.true_or]
      exact ⟨h1, rfl, h3⟩
  · by_cases q : p = bg_lb v
    · exact ⟨n, by omega, by rw [pk_us, q]⟩
    · rw [b_or, bg_bb s.1 hp, decide_eq_false q, Bool.or_false] at hP
      obtain ⟨r, hr, er⟩ := H.2.1 p hp hP
      exact ⟨r, by omega, by rw [pk_un (by omega)]; exact er⟩
  · rw [pk_un (show r ≠ n by omega)]
    by_cases q : s' = n
    · rw [q, pk_us]
      obtain ⟨h1, h2, _⟩ := H.1 r (by omega)
      have := bg_rx_z I w 32 (Nat.le_refl _) _ (bg_lbs h1).1 h2
      rwa [← e, bg_ml _ _ (bg_lbs h1).1] at this
    · rw [pk_un q]
      exact H.2.2 s' (by omega) r hr
theorem bg_Y0 (row made : Nat → Int32) (R : Nat → Int64) : bg_Y 0 R 0 row made := by
  refine ⟨fun r hr => absurd hr (Nat.not_lt_zero r), fun p _ hP => ?_, fun s hs => absurd hs (Nat.not_lt_zero s)⟩
  rw [b_0] at hP
  exact absurd hP (by decide)
end BGD
