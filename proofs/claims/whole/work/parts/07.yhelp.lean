section BGG
variable {kd zs nr : Int32} {cn ls od rw md le : Nat → Int32}
theorem bY_b0 {post : Int32 → Prop} {k : Nat} (hk : k < 2) (h : post 0) : wpY_bad post (kd, zs, nr, cn, ls, od, rw, md, le) (nI k) :=
  br_f (nI_pos (by omega)) (br_t (show nI k ≤ (1 : Int32) from nI_le (a := k) (b := 1) (by omega) (by decide)) h)
theorem bY_b1 {post : Int32 → Prop} {k : Int32} (h0 : ¬ k = 0) (h1 : ¬ k = 1) (h : post 1) : wpY_bad post (kd, zs, nr, cn, ls, od, rw, md, le) k := by
  by_cases c : k < 0
  · exact br_t c h
  · refine br_f c (br_f ?_ h)
    intro c1
    obtain ⟨j, hj, e⟩ := nI_of2 (x := k) (M := 1) (n := 1) (by decide) c c1
    have : j = 0 ∨ j = 1 := by omega
    rcases this with rfl | rfl
    · exact h0 e
    · exact h1 e
theorem bY_at {post : Int32 → Prop} (p : Int32) {x : Nat} (h : post (bg_i (bg_ev p x))) : wpY_at post (kd, zs, nr, cn, ls, od, rw, md, le) p (nI x) := by
  refine loop_0 (fun n i s => wY_at_5 post p (nI x) kd zs nr cn ls od rw md le n s (nI i)) (fun i s => s = bg_i (bg_xs (fun m => bt p m && decide (m &&& x = m)) i)) 32 0 rfl ?_ ?_
  · intro n s hs
    exact br_t bx_y32 (by rw [hs]; exact h)
  · intro n i s hi hs K
    refine br_f (bx_n32 hi) ?_
    rw [bg_sb p hi]
    refine bx_if1 (fun e => bx_and hi (fun c => nm_e (nm_r (nI_1 i) (K _ ?_))) (fun c => nm_r (nI_1 i) (K _ ?_))) (fun e => nm_r (nI_1 i) (K _ ?_))
    · rw [bg_xsS, hs, bg_ix, e, decide_eq_true c]
      cases bg_xs (fun m => bt p m && decide (m &&& x = m)) i <;> rfl
    · rw [bg_xsS, hs, decide_eq_false c, Bool.and_false, Bool.xor_false]
    · rw [bg_xsS, hs, e, Bool.false_and, Bool.xor_false]
theorem bY_fi {post : Int32 → Prop} {J4 : Int32 → Int32 → Prop} (v x2 : Int32) {m : Nat} (h : J4 (x2 ||| (bg_i (bg_ev v m) <<< (nI m &&& 31))) (nI (m + 1))) : ∃ n, wY_fromValues_16 post J4 v x2 (nI m) kd zs nr cn ls od rw md le n 0 0 := by
  refine loop_0 (fun n i s => wY_fromValues_16 post J4 v x2 (nI m) kd zs nr cn ls od rw md le n s (nI i)) (fun i s => s = bg_i (bg_xs (fun x => bt v x && decide (x &&& m = x)) i)) 32 0 rfl ?_ ?_
  · intro n s hs
    refine br_t bx_y32 (nm_r (e' := x2 ||| (bg_i (bg_ev v m) <<< (nI m &&& 31))) ?_ (nm_r (nI_1 m) h))
    rw [hs]; rfl
  · intro n i s hi hs K
    refine br_f (bx_n32 hi) (bx_and hi (fun c => nm_e (nm_r (nI_1 i) (K _ ?_))) (fun c => nm_r (nI_1 i) (K _ ?_)))
    · rw [bg_sb v hi, bg_xsS, hs, bg_ixx, decide_eq_true c, Bool.and_true]
    · rw [bg_xsS, hs, decide_eq_false c, Bool.and_false, Bool.xor_false]
theorem bY_fv {post : Int32 → Prop} (v : Int32) (h : post (bg_x v)) : wpY_fromValues post (kd, zs, nr, cn, ls, od, rw, md, le) v := by
  refine loop_0 (fun n i s => wY_fromValues_4 post v kd zs nr cn ls od rw md le n s (nI i)) (fun i s => bg_fl s (bg_ev v) i) 32 0 (bg_fl0 _) ?_ ?_
  · intro n s hs
    refine br_t bx_y32 ?_
    rw [bg_flE hs (bg_xb v)]
    exact h
  · intro n i s hi hs K
    exact br_f (bx_n32 hi) (bY_fi v s (K _ (bg_flS hi hs)))
theorem bY_av {post : Int32 → Prop} (p : Int32) (h : post (bg_x p)) : wpY_allValues post (kd, zs, nr, cn, ls, od, rw, md, le) p := by
  refine loop_0 (fun n i s => wY_allValues_4 post p kd zs nr cn ls od rw md le n s (nI i)) (fun i s => bg_fl s (bg_ev p) i) 32 0 (bg_fl0 _) ?_ ?_
  · intro n s hs
    refine br_t bx_y32 ?_
    rw [bg_flE hs (bg_xb p)]
    exact h
  · intro n i s hi hs K
    exact br_f (bx_n32 hi) (bY_at p (nm_e (nm_r (nI_1 i) (K _ (bg_flS hi hs)))))
theorem bY_sz {post : Int32 → Prop} {m : Nat} (hm : m < 32) (h : post (nI (bg_dg m))) : wpY_size post (kd, zs, nr, cn, ls, od, rw, md, le) (nI m) := by
  refine loop_0 (fun n i s => wY_size_4 post (nI m) kd zs nr cn ls od rw md le n s (nI i)) (fun i s => s = nI (bg_ct (bt (nI m)) i)) 5 0 rfl ?_ ?_
  · intro n s hs
    refine br_t (show (5 : Int32) ≤ nI 5 from nI_le (a := 5) (b := 5) (Nat.le_refl 5) (by decide)) ?_
    rw [hs, bg_dg5 m hm]
    exact h
  · intro n i s hi hs K
    refine br_f (show ¬ (5 : Int32) ≤ nI i from nI_ge (b := 5) hi (by decide)) (nm_r (e' := nI (bg_ct (bt (nI m)) (i + 1))) ?_ (nm_r (nI_1 i) (K _ rfl)))
    rw [bg_sb (nI m) (show i < 32 by omega), hs, bx_ic, bg_ctS]
theorem bY_l38 {post : Int32 → Prop} {a b : Nat} (ha : a < 32) (hb : b < 32) (h : post (bg_i (decide (a < b)))) : wY_lower_38 post (nI a) (nI b) kd zs nr cn ls od rw md le := by
  unfold wY_lower_38
  rw [nI_leI (by omega) (by omega)]
  refine ⟨fun c => ?_, fun c => ?_⟩
  · exact (bx_ii h).1 (decide_eq_false (by omega))
  · exact (bx_ii h).2 (decide_eq_true (by omega))
theorem bY_lo {post : Int32 → Prop} {a b : Nat} (ha : a < 32) (hb : b < 32) (h : post (bg_i (bg_lo (decide (kd = 0)) a b))) : wpY_lower post (kd, zs, nr, cn, ls, od, rw, md, le) (nI a) (nI b) := by
  have da := bg_dg_lt a
  have db := bg_dg_lt b
  unfold bg_lo at h
  refine bY_sz ha (bY_sz hb ?_)
  by_cases e : kd = 0
  · refine br_t e ?_
    rw [decide_eq_true e, Bool.true_and] at h
    by_cases q : bg_dg a = bg_dg b
    · rw [decide_eq_true q, Bool.not_true, if_neg (by decide)] at h
      exact br_t (by rw [q]) (bY_l38 ha hb h)
    · rw [decide_eq_false q, Bool.not_false, if_pos rfl] at h
      refine br_f (fun z => q ((nI_eq (by omega) (by omega)).mp z)) ?_
      rw [nI_leI (by omega) (by omega)]
      refine ⟨fun c => ?_, fun c => ?_⟩
      · exact (bx_ii h).1 (decide_eq_false (by omega))
      · exact (bx_ii h).2 (decide_eq_true (by omega))
  · rw [decide_eq_false e, Bool.false_and, if_neg (by decide)] at h
    exact br_f e (bY_l38 ha hb h)
theorem bY_on {post : Int32 → Prop} (x : Int32) (h : post (nI (bg_ct (bt x) 32))) : wpY_ones post (kd, zs, nr, cn, ls, od, rw, md, le) x := by
  refine loop_0 (fun n i s => wY_ones_4 post x kd zs nr cn ls od rw md le n s (nI i)) (fun i s => s = nI (bg_ct (bt x) i)) 32 0 rfl ?_ ?_
  · intro n s hs
    exact br_t bx_y32 (by rw [hs]; exact h)
  · intro n i s hi hs K
    refine br_f (bx_n32 hi) (nm_r (e' := nI (bg_ct (bt x) (i + 1))) ?_ (nm_r (nI_1 i) (K _ rfl)))
    rw [bg_sb x hi, hs, bx_ic, bg_ctS]
/-! the zeros -/
theorem bg_zsb (l : Nat → Int32) (b : Nat) {x : Nat} (hx : x < 32) (n : Nat) : bt (bg_zs l b (n + 1)) x = (bt (bg_zs l b n) x && !(bg_ev (l (b + n)) x)) := by
  show bt (bg_zs l b n &&& (bg_x (l (b + n)) ^^^ (-1))) x = _
  rw [b_and, b_xor, bg_xb _ x hx, b_m1 x hx, Bool.xor_true]
theorem bY_zi {post : Int32 → Prop} {J4 : Int32 → Int32 → Prop} {k c x : Nat} (hk : k < 2) (hc : c ≤ 8) (e : cn k = nI c) (hx : x < 32) (x2 : Int32) (h0 : bt (bg_zs ls (k * 8) c) x = false → J4 x2 (nI (x + 1))) (h1 : bt (bg_zs ls (k * 8) c) x = true → J4 (x2 ||| bg_b x) (nI (x + 1))) : ∃ n, wY_zerosOf_16 post J4 (nI k) x2 (nI x) kd zs nr cn ls od rw md le n 1 0 := by
  have ek : cn (nI k).toNatClampNeg = nI c := by rw [nI_clamp (by omega)]; exact e
  refine loop_0 (fun n i s => wY_zerosOf_16 post J4 (nI k) x2 (nI x) kd zs nr cn ls od rw md le n s (nI i)) (fun i s => s = bg_i (bt (bg_zs ls (k * 8) i) x)) c 1 ?_ ?_ ?_
  · show (1 : Int32) = bg_i (bt (-1) x)
    rw [b_m1 x hx]; rfl
  · intro n s hs
    refine ⟨vp_in_nI hk (by decide), br_t (by rw [ek]; exact nI_le (Nat.le_refl c) (by omega)) ?_⟩
    rw [hs]
    exact bx_if (fun q => nm_r (nI_1 x) (h0 q)) (fun q => nm_e (nm_r (nI_1 x) (h1 q)))
  · intro n i s hi hs K
    refine ⟨vp_in_nI hk (by decide), br_f (by rw [ek]; exact nI_ge hi (by omega)) (br_f (show ¬ (8 : Int32) ≤ nI i from nI_ge (b := 8) (by omega) (by decide)) ⟨by rw [bx_8k]; exact vp_in_nI (by omega) (by decide), ?_⟩)⟩
    rw [bx_8k, nI_clamp (n := k * 8 + i) (by omega)]
    refine bY_at _ (bx_if1 (fun q => nm_r (nI_1 i) (K _ ?_)) (fun q => nm_r (nI_1 i) (K _ ?_)))
    · show (0 : Int32) = _
      rw [bg_zsb ls _ hx, q, Bool.not_true, Bool.and_false]; rfl
    · rw [bg_zsb ls _ hx, q, Bool.not_false, Bool.and_true]; exact hs
theorem bY_zo {post : Int32 → Prop} {k c : Nat} (hk : k < 2) (hc : c ≤ 8) (e : cn k = nI c) (h : post (bg_zs ls (k * 8) c)) : wpY_zerosOf post (kd, zs, nr, cn, ls, od, rw, md, le) (nI k) := by
  refine loop_0 (fun n i s => wY_zerosOf_4 post (nI k) kd zs nr cn ls od rw md le n s (nI i)) (fun i s => bg_fl s (bt (bg_zs ls (k * 8) c)) i) 32 0 (bg_fl0 _) ?_ ?_
  · intro n s hs
    refine br_t bx_y32 ?_
    rw [bg_flE hs (fun j _ => rfl)]
    exact h
  · intro n i s hi hs K
    exact br_f (bx_n32 hi) (bY_zi hk hc e hi s (fun q => K _ (bg_flF q hs)) (fun q => K _ (bg_flT hi q hs)))
/-! the order -/
theorem bY_si {post : SY → Prop} {J2 : Int32 → (Nat → Int32) → (Nat → Int32) → (Nat → Int32) → (Nat → Int32) → (Nat → Int32) → (Nat → Int32) → Prop} {m : Nat} (hm : m < 32) (h : J2 (nI (m + 1)) cn ls (upd od (bg_rk (decide (kd = 0)) m) (nI m)) rw md le) : ∃ n, wY_sort_12 post J2 (nI m) kd zs nr cn ls od rw md le n 0 0 := by
  have hr := bg_rk_lt (decide (kd = 0)) m hm
  refine loop_0 (fun n i s => wY_sort_12 post J2 (nI m) kd zs nr cn ls od rw md le n s (nI i)) (fun i s => s = nI (bg_ct (fun l => bg_lo (decide (kd = 0)) l m) i)) 32 0 rfl ?_ ?_
  · intro n s hs
    rw [bg_rk_ct _ m hm] at hs
    subst hs
    refine br_t bx_y32 ⟨vp_in_nI hr (by decide), nm_r (e' := upd od (bg_rk (decide (kd = 0)) m) (nI m)) (by rw [nI_clamp (by omega)]) (nm_r (nI_1 m) h)⟩
  · intro n i s hi hs K
    subst hs
    refine br_f (bx_n32 hi) (bY_lo hi hm (bx_if (fun q => nm_r (nI_1 i) (K _ ?_)) (fun q => nm_r (nI_1 _) (nm_r (nI_1 i) (K _ ?_)))))
    · rw [bg_ctF (f := fun l => bg_lo (decide (kd = 0)) l m) q]
    · rw [bg_ctT (f := fun l => bg_lo (decide (kd = 0)) l m) q]
theorem bY_so {post : SY → Prop} (h : ∀ od' : Nat → Int32, (∀ r, r < 32 → od' r = nI (bg_mo (decide (kd = 0)) r)) → post (kd, zs, nr, cn, ls, od', rw, md, le)) : wpY_sort post (kd, zs, nr, cn, ls, od, rw, md, le) := by
  refine loop_0 (fun n i (s : Nat → Int32) => wY_sort_2 post kd zs nr n (nI i) cn ls s rw md le) (fun i s => ∀ m, m < i → s (bg_rk (decide (kd = 0)) m) = nI m) 32 od (fun m hm => absurd hm (Nat.not_lt_zero m)) ?_ ?_
  · intro n s hs
    refine br_t bx_y32 (h s (fun r hr => ?_))
    have := hs _ (bg_mo_lt (decide (kd = 0)) r hr)
    rwa [bg_rk_mo _ r hr] at this
  · intro n i s hi hs K
    refine br_f (bx_n32 hi) (bY_si hi (K _ ?_))
    intro m hm
    by_cases e : m = i
    · rw [e, pk_us]
    · rw [pk_un]
      · exact hs m (by omega)
      · intro q
        have a := bg_mo_rk (decide (kd = 0)) m (by omega)
        rw [q, bg_mo_rk _ i hi] at a
        exact e a.symm
end BGG
