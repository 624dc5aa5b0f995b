section BGE
theorem pk_m1 (n : Nat) : nI (n + 1) + (-1) = nI n := by
  rw [← nI_1, Int32.add_assoc, show (1 : Int32) + (-1) = 0 from rfl, Int32.add_zero]
theorem pk_mul (a b : Nat) : nI a * nI b = nI (a * b) := (Int32.ofNat_mul a b).symm
theorem pk_sub {a b : Nat} (h : b ≤ a) : nI a - nI b = nI (a - b) := by
  obtain ⟨c, rfl⟩ : ∃ c, a = c + b := ⟨a - b, by omega⟩
  rw [← nI_add, Int32.add_sub_cancel, Nat.add_sub_cancel]
theorem pk_ix (x : Int32) {n : Nat} (hn : n < 2 ^ 31) : x < 0 ∨ nI n ≤ x ∨ ∃ j : Nat, j < n ∧ x = nI j := by
  by_cases h : x < 0
  · exact Or.inl h
  · obtain ⟨j, hj, rfl⟩ := nI_of h
    by_cases h2 : j < n
    · exact Or.inr (Or.inr ⟨j, h2, rfl⟩)
    · exact Or.inr (Or.inl (nI_le (by omega) hj))
theorem bx_n32 {j : Nat} (h : j < 32) : ¬ (32 : Int32) ≤ nI j := nI_ge (b := 32) h (by decide)
theorem bx_y32 : (32 : Int32) ≤ nI 32 := nI_le (a := 32) (b := 32) (Nat.le_refl 32) (by decide)
theorem bx_10 : ¬ (1 : Int32) = 0 := by decide
theorem bx_if {b : Bool} {A B : Prop} (f : b = false → A) (t : b = true → B) : (bg_i b = 0 → A) ∧ (¬ bg_i b = 0 → B) := by
  cases b
  · exact ⟨fun _ => f rfl, fun z => absurd rfl z⟩
  · exact ⟨fun z => absurd z (by decide), fun _ => t rfl⟩
theorem bx_if1 {b : Bool} {A B : Prop} (t : b = true → A) (f : b = false → B) : (bg_i b = 1 → A) ∧ (¬ bg_i b = 1 → B) := by
  cases b
  · exact ⟨fun z => absurd z (by decide), fun _ => f rfl⟩
  · exact ⟨fun _ => t rfl, fun z => absurd rfl z⟩
theorem bx_ii {b : Bool} {A : Int32 → Prop} (h : A (bg_i b)) : (b = false → A 0) ∧ (b = true → A 1) := by
  cases b
  · exact ⟨fun _ => h, fun z => absurd z (by decide)⟩
  · exact ⟨fun z => absurd z (by decide), fun _ => h⟩
theorem bx_and {i m : Nat} (hi : i < 32) {A B : Prop} (f : i &&& m = i → A) (g : ¬ i &&& m = i → B) : (nI i &&& nI m = nI i → A) ∧ (¬ nI i &&& nI m = nI i → B) := by
  have l : i &&& m ≤ i := Nat.and_le_left
  rw [nx_and, nI_eq (by omega) (by omega)]
  exact ⟨f, g⟩
theorem bx_ic (n : Nat) (b : Bool) : nI n + bg_i b = nI (n + (if b = true then 1 else 0)) := by
  cases b
  · show nI n + nI 0 = _
    rw [nI_add]; rfl
  · show nI n + nI 1 = _
    rw [nI_add]; rfl
theorem bx_k8 (k i : Nat) : (nI k * 8) + nI i = nI (k * 8 + i) := by
  rw [← nI_add, ← pk_mul]; rfl
theorem bx_8k (k i : Nat) : (8 * nI k) + nI i = nI (k * 8 + i) := by
  rw [← bx_k8, Int32.mul_comm]
/-! one bit of a long -/
theorem bg_l1 : ∀ i, i < 64 → bg_l 1 i = decide (i = 0) := by decide +kernel
theorem bg_lan (x y : Int64) (i : Nat) : bg_l (x &&& y) i = (bg_l x i && bg_l y i) := by unfold bg_l; rw [Int64.toBitVec_and, BitVec.getLsbD_and]
theorem bg_la1 (w : Int64) : w &&& 1 = if bg_l w 0 = true then 1 else 0 := by
  apply bg_lext
  intro i hi
  rw [bg_lan, bg_l1 i hi]
  cases h : bg_l w 0
  · rw [if_neg (by decide), bg_l0]
    by_cases e : i = 0
    · rw [e, h, Bool.false_and]
    · rw [decide_eq_false e, Bool.and_false]
  · rw [if_pos rfl, bg_l1 i hi]
    by_cases e : i = 0
    · rw [e, h, Bool.true_and]
    · rw [decide_eq_false e, Bool.and_false]
theorem bg_u64 : ∀ n, n < 32 → (((nI n).toInt64.toUInt64 &&& Int64.toUInt64 63).toBitVec % 64).toNat = n := by decide +kernel
theorem bg_lsh (w : Int64) {n : Nat} (hn : n < 32) : bg_l (w.toUInt64 >>> ((nI n).toInt64.toUInt64 &&& Int64.toUInt64 63)).toInt64 0 = bg_l w n := by
  show (w.toUInt64 >>> ((nI n).toInt64.toUInt64 &&& Int64.toUInt64 63)).toBitVec.getLsbD 0 = w.toUInt64.toBitVec.getLsbD n
  rw [UInt64.toBitVec_shiftRight]
  show (w.toUInt64.toBitVec >>> (((nI n).toInt64.toUInt64 &&& Int64.toUInt64 63).toBitVec % 64).toNat).getLsbD 0 = _
  rw [bg_u64 n hn, BitVec.getLsbD_ushiftRight]; rfl
theorem bx_lb (w : Int64) {n : Nat} (hn : n < 32) {A B : Prop} (t : bg_l w n = true → A) (f : bg_l w n = false → B) : ((w.toUInt64 >>> ((nI n).toInt64.toUInt64 &&& Int64.toUInt64 63)).toInt64 &&& 1 = 1 → A) ∧ (¬ (w.toUInt64 >>> ((nI n).toInt64.toUInt64 &&& Int64.toUInt64 63)).toInt64 &&& 1 = 1 → B) := by
  rw [bg_la1, bg_lsh w hn]
  cases h : bg_l w n
  · rw [if_neg (by decide)]
    exact ⟨fun z => absurd z (by decide), fun _ => f h⟩
  · rw [if_pos rfl]
    exact ⟨fun _ => t h, fun z => absurd rfl z⟩
/-! the component's private methods -/
variable {kd pv ld bc : Int32} {gl gc rb bl : Nat → Int32} {rs : Nat → Int64}
theorem bx_id1 {post : Int32 → Prop} {k : Nat} (hk : k < 2) (h : post 1) : wpX_isIdeal post (nI k) := by
  have : k = 0 ∨ k = 1 := by omega
  rcases this with rfl | rfl
  · exact br_t rfl h
  · exact br_f bx_10 (br_t rfl h)
theorem bx_id0 {post : Int32 → Prop} {k : Int32} (h0 : ¬ k = 0) (h1 : ¬ k = 1) (h : post 0) : wpX_isIdeal post k := br_f h0 (br_f h1 h)
theorem bx_hb {post : Int32 → Prop} (x : Int32) {n : Nat} (hn : n < 32) (h : post (bg_i (bt x n))) : wpX_hasBit post x (nI n) := by
  unfold wpX_hasBit
  rw [bg_hb x hn]
  exact bx_if1 (bx_ii h).2 (bx_ii h).1
theorem bx_ex {post : Int32 → Prop} (p : Int32) (h : post (bg_x p)) : wpX_exchange post p := nm_e (nm_e (nm_e (nm_e (nm_e h))))
theorem bx_cb {post : Int32 → Prop} (x : Int32) (h : post (nI (bg_ct (bt x) 32))) : wpX_countBits post x := by
  refine loop_0 (fun n i s => wX_countBits_4 post x n s (nI i)) (fun i s => s = nI (bg_ct (bt x) i)) 32 0 rfl ?_ ?_
  · intro n s hs
    exact br_t bx_y32 (by rw [hs]; exact h)
  · intro n i s hi hs K
    refine br_f (bx_n32 hi) (nm_r (e' := nI (bg_ct (bt x) (i + 1))) ?_ (nm_r (nI_1 i) (K _ rfl)))
    rw [bg_hb x hi, hs, bx_ic, bg_ctS]
theorem bx_mo {post : Int32 → Prop} {r : Nat} (hr : r < 32) (hT : ∀ r, r < 32 → rb r = nI (bg_mo true r)) (h : post (nI (bg_mo (decide (kd = 0)) r))) : wpX_monomialAt post (kd, pv, ld, bc, gl, gc, rb, rs, bl) (nI r) := by
  by_cases e : kd = 0
  · refine br_t e ⟨vp_in_nI hr (by decide), ?_⟩
    rw [nI_clamp (by omega), hT r hr]
    rw [decide_eq_true e] at h
    exact h
  · rw [decide_eq_false e] at h
    exact br_f e h
def bg_zs (l : Nat → Int32) (b : Nat) : Nat → Int32
  | 0 => -1
  | n + 1 => bg_zs l b n &&& (bg_x (l (b + n)) ^^^ (-1))
theorem bx_zs {post : Int32 → Prop} {k c : Nat} (hk : k < 2) (hc : c ≤ 8) (e : gc k = nI c) (h : post (bg_zs gl (k * 8) c)) : wpX_zeroSet post (kd, pv, ld, bc, gl, gc, rb, rs, bl) (nI k) := by
  refine ⟨vp_in_nI hk (by decide), nm_r (e' := nI c) (by rw [nI_clamp (by omega)]; exact e) ?_⟩
  refine loop_0 (fun n i s => wX_zeroSet_12 post (nI k) (nI c) kd pv ld bc gl gc rb rs bl n s (nI i)) (fun i s => s = bg_zs gl (k * 8) i) c (-1) rfl ?_ ?_
  · intro n s hs
    exact br_t (nI_le (Nat.le_refl c) (by omega)) (by rw [hs]; exact h)
  · intro n i s hi hs K
    refine br_f (nI_ge hi (by omega)) ⟨by rw [bx_k8]; exact vp_in_nI (by omega) (by decide), bx_ex _ (nm_r (e' := bg_zs gl (k * 8) (i + 1)) ?_ (nm_r (nI_1 i) (K _ rfl)))⟩
    rw [bx_k8, nI_clamp (by omega), hs]; rfl
theorem bx_rd {post : Int64 → Prop} {w : Int64} (h : post (bg_rx pv rs w 32)) : wpX_reduce post (kd, pv, ld, bc, gl, gc, rb, rs, bl) w := by
  refine loop_0 (fun n i s => wX_reduce_5 post kd pv ld bc gl gc rb rs bl n s (nI i)) (fun i s => s = bg_rx pv rs w i) 32 w rfl ?_ ?_
  · intro n s hs
    exact br_t bx_y32 (by rw [hs]; exact h)
  · intro n i s hi hs K
    refine br_f (bx_n32 hi) (bx_hb pv hi (bx_if (fun e => nm_r (nI_1 i) (K _ ?_)) (fun e => bx_lb s hi (fun e2 => ⟨vp_in_nI hi (by decide), nm_e (nm_r (nI_1 i) (K _ ?_))⟩) (fun e2 => nm_r (nI_1 i) (K _ ?_)))))
    · rw [bg_rxS, e, Bool.false_and, if_neg (by decide)]; exact hs
    · rw [bg_rxS, ← hs, e, e2, if_pos (by rfl), nI_clamp (by omega)]
    · rw [bg_rxS, ← hs, e, e2, if_neg (by decide)]
theorem bx_rde {post : Int64 → Prop} {w W : Int64} (e : bg_rx pv rs w 32 = W) (h : post W) : wpX_reduce post (kd, pv, ld, bc, gl, gc, rb, rs, bl) w := bx_rd (by rw [e]; exact h)
theorem bx_hd {post : Int32 → Prop} {m : Nat} (hm : m < 32) (h : post (bg_i (bg_hd (bt ld) m m))) : wpX_hasLedDivisor post (kd, pv, ld, bc, gl, gc, rb, rs, bl) (nI m) := by
  refine loop_0 (fun n i (_ : Unit) => wX_hasLedDivisor_2 post (nI m) kd pv ld bc gl gc rb rs bl n (nI i)) (fun i _ => bg_hd (bt ld) m i = false) m () rfl ?_ ?_
  · intro n s hs
    exact br_t (nI_le (Nat.le_refl m) (by omega)) ((bx_ii h).1 hs)
  · intro n i s hi hs K
    have hi2 : i < 32 := by omega
    refine br_f (nI_ge hi (by omega)) (bx_and hi2 (fun c => bx_hb ld hi2 (bx_if (fun e => nm_r (nI_1 i) (K () ?_)) (fun e => (bx_ii h).2 (bg_hd_t hi c e)))) (fun c => nm_r (nI_1 i) (K () ?_)))
    · rw [bg_hdS, hs, e, Bool.and_false]; rfl
    · rw [bg_hdS, hs, decide_eq_false c]; rfl
theorem bx_al {post : SX → Prop} {m b : Nat} (hm : m < 32) (hb : b < 32) (w : Int64)
    (h0 : bg_hd (bt ld) m m = true → post (kd, pv, ld ||| bg_b m, nI b, gl, gc, rb, rs, bl))
    (h1 : bg_hd (bt ld) m m = false → post (kd, pv, ld ||| bg_b m, nI (b + 1), gl, gc, rb, rs, upd bl b (bg_h w))) :
    wpX_addLed post (kd, pv, ld, nI b, gl, gc, rb, rs, bl) (nI m) w := by
  refine bx_hd hm (bx_if (fun e => br_f (bx_n32 hb) ⟨vp_in_nI hb (by decide), nm_e (nm_r (nI_1 b) (nm_e ?_))⟩) (fun e => nm_e (h0 e)))
  rw [nI_clamp (by omega)]
  exact h1 e
theorem bx_ap {post : SX → Prop} (w : Int64) (hv : ¬ w.toInt32 = 0) (h : post (kd, pv ||| bg_b (bg_lb w.toInt32), ld, bc, gl, gc, rb, vp_updL rs (bg_lb w.toInt32) w, bl)) : wpX_addPivot post (kd, pv, ld, bc, gl, gc, rb, rs, bl) w := by
  show ∃ n8 : Nat, wX_addPivot_8 post w w.toInt32 kd pv ld bc gl gc rb rs bl n8 0
  refine loop_0 (fun n i (_ : Unit) => wX_addPivot_8 post w w.toInt32 kd pv ld bc gl gc rb rs bl n (nI i)) (fun i _ => ∀ q, q < i → bt w.toInt32 q = false) 32 () (fun q hq => absurd hq (Nat.not_lt_zero q)) ?_ ?_
  · intro n s hs
    obtain ⟨q, hq, hb⟩ := bg_nz hv
    rw [hs q hq] at hb
    exact absurd hb (by decide)
  · intro n i s hi hs K
    refine br_f (bx_n32 hi) (bx_hb _ hi (bx_if (fun e => nm_r (nI_1 i) (K () ?_)) (fun e => ⟨vp_in_nI hi (by decide), nm_e (nm_e ?_)⟩)))
    · intro q hq
      by_cases c : q = i
      · rw [c]; exact e
      · exact hs q (by omega)
    · rw [nI_clamp (by omega)]
      have c := bg_lbu e hs hv
      rw [c] at h
      exact h
end BGE
