section BGF
variable {kd pv ld bc : Int32} {gl gc rb bl : Nat → Int32} {rs : Nat → Int64}
/-- where solve stands before rank i -/
def bx_I (z : Int32) (d : Bool) (i : Nat) (s : Int32 × Int32 × Int32 × (Nat → Int64) × (Nat → Int32)) : Prop :=
  s.1 = bg_P z d i ∧ s.2.1 = bg_L z d i ∧ s.2.2.1 = nI (bg_ct (fun r => bg_le z d (bg_mo d r)) i) ∧ (∀ p, p < 32 → bt (bg_P z d i) p = true → s.2.2.2.1 p = bg_R z d i p) ∧ (∀ r, r < i → bg_le z d (bg_mo d r) = true → s.2.2.2.2 (bg_ct (fun r => bg_le z d (bg_mo d r)) r) = bg_h (bg_W z d r))
theorem bx_It {z : Int32} {d : Bool} {i : Nat} (hi : i < 32) {rs : Nat → Int64} {bl : Nat → Int32} (h : (bg_W z d i).toInt32 = 0) (hd : bg_hd (bt (bg_L z d i)) (bg_mo d i) (bg_mo d i) = true) (I : bx_I z d i (bg_P z d i, bg_L z d i, nI (bg_ct (fun r => bg_le z d (bg_mo d r)) i), rs, bl)) : bx_I z d (i + 1) (bg_P z d i, bg_L z d i ||| bg_b (bg_mo d i), nI (bg_ct (fun r => bg_le z d (bg_mo d r)) i), rs, bl) := by
  obtain ⟨_, _, _, i4, i5⟩ := I
  have hl : bg_le z d (bg_mo d i) = false := by
    unfold bg_le
    rw [← bg_hdi z d hi, hd, Bool.not_true, Bool.and_false]
  obtain ⟨e1, e2, e3⟩ := bg_elT h
  refine ⟨e1.symm, e3.symm, ?_, ?_, ?_⟩
  · show nI _ = nI _
    rw [bg_ctF (f := fun r => bg_le z d (bg_mo d r)) hl]
  · intro p hp hP
    rw [e1] at hP
    rw [e2]
    exact i4 p hp hP
  · intro r hr hle
    by_cases c : r = i
    · rw [c, hl] at hle
      exact absurd hle (by decide)
    · exact i5 r (by omega) hle
theorem bx_If {z : Int32} {d : Bool} {i : Nat} (hi : i < 32) {rs : Nat → Int64} {bl : Nat → Int32} (h : (bg_W z d i).toInt32 = 0) (hd : bg_hd (bt (bg_L z d i)) (bg_mo d i) (bg_mo d i) = false) (I : bx_I z d i (bg_P z d i, bg_L z d i, nI (bg_ct (fun r => bg_le z d (bg_mo d r)) i), rs, bl)) : bx_I z d (i + 1) (bg_P z d i, bg_L z d i ||| bg_b (bg_mo d i), nI (bg_ct (fun r => bg_le z d (bg_mo d r)) i + 1), rs, upd bl (bg_ct (fun r => bg_le z d (bg_mo d r)) i) (bg_h (bg_W z d i))) := by
  obtain ⟨_, _, _, i4, i5⟩ := I
  have hl : bg_le z d (bg_mo d i) = true := by
    unfold bg_le
    rw [← bg_hdi z d hi, hd, bg_rk_mo d i hi]
    unfold bg_ld
    rw [decide_eq_true h]; rfl
  obtain ⟨e1, e2, e3⟩ := bg_elT h
  refine ⟨e1.symm, e3.symm, ?_, ?_, ?_⟩
  · show nI _ = nI _
    rw [bg_ctT (f := fun r => bg_le z d (bg_mo d r)) hl]
  · intro p hp hP
    rw [e1] at hP
    rw [e2]
    exact i4 p hp hP
  · intro r hr hle
    show upd bl (bg_ct (fun r => bg_le z d (bg_mo d r)) i) (bg_h (bg_W z d i)) (bg_ct (fun r => bg_le z d (bg_mo d r)) r) = bg_h (bg_W z d r)
    by_cases c : r = i
    · rw [c, pk_us]
    · have m := bg_ct_mono (fun r => bg_le z d (bg_mo d r)) (r + 1) i (by omega)
      rw [bg_ctT (f := fun r => bg_le z d (bg_mo d r)) hle] at m
      rw [pk_un (by omega)]
      exact i5 r (by omega) hle
theorem bx_Ip {z : Int32} {d : Bool} {i : Nat} (hi : i < 32) {rs : Nat → Int64} {bl : Nat → Int32} (h : ¬ (bg_W z d i).toInt32 = 0) (I : bx_I z d i (bg_P z d i, bg_L z d i, nI (bg_ct (fun r => bg_le z d (bg_mo d r)) i), rs, bl)) : bx_I z d (i + 1) (bg_P z d i ||| bg_b (bg_lb (bg_W z d i).toInt32), bg_L z d i, nI (bg_ct (fun r => bg_le z d (bg_mo d r)) i), vp_updL rs (bg_lb (bg_W z d i).toInt32) (bg_W z d i), bl) := by
  obtain ⟨_, _, _, i4, i5⟩ := I
  have hl : bg_le z d (bg_mo d i) = false := by
    unfold bg_le
    rw [bg_rk_mo d i hi]
    unfold bg_ld
    rw [decide_eq_false h, Bool.false_and]
  obtain ⟨e1, e2, e3⟩ := bg_elF h
  refine ⟨e1.symm, e3.symm, ?_, ?_, ?_⟩
  · show nI _ = nI _
    rw [bg_ctF (f := fun r => bg_le z d (bg_mo d r)) hl]
  · intro p hp hP
    rw [e2]
    show vp_updL rs (bg_lb (bg_W z d i).toInt32) (bg_W z d i) p = _
    by_cases c : p = bg_lb (bg_W z d i).toInt32
    · rw [c, pk_uLs, pk_uLs]
    · rw [pk_uLn c, pk_uLn c]
      rw [e1, b_or, bg_bb (bg_lbs h).1 hp, decide_eq_false c, Bool.or_false] at hP
      exact i4 p hp hP
  · intro r hr hle
    by_cases c : r = i
    · rw [c, hl] at hle
      exact absurd hle (by decide)
    · exact i5 r (by omega) hle
theorem bx_sv {post : SX → Prop} {k c : Nat} (hk : k < 2) (hc : c ≤ 8) (e : gc k = nI c) (hT : ∀ r, r < 32 → rb r = nI (bg_mo true r))
    (h : ∀ (rs' : Nat → Int64) (bl' : Nat → Int32), (∀ p, p < 32 → bt (bg_P (bg_zs gl (k * 8) c) (decide (kd = 0)) 32) p = true → rs' p = bg_R (bg_zs gl (k * 8) c) (decide (kd = 0)) 32 p) → (∀ r, r < 32 → bg_le (bg_zs gl (k * 8) c) (decide (kd = 0)) (bg_mo (decide (kd = 0)) r) = true → bl' (bg_ct (fun r => bg_le (bg_zs gl (k * 8) c) (decide (kd = 0)) (bg_mo (decide (kd = 0)) r)) r) = bg_h (bg_W (bg_zs gl (k * 8) c) (decide (kd = 0)) r)) →
      post (kd, bg_P (bg_zs gl (k * 8) c) (decide (kd = 0)) 32, bg_L (bg_zs gl (k * 8) c) (decide (kd = 0)) 32, nI (bg_ct (fun r => bg_le (bg_zs gl (k * 8) c) (decide (kd = 0)) (bg_mo (decide (kd = 0)) r)) 32), gl, gc, rb, rs', bl')) :
    wpX_solve post (kd, pv, ld, bc, gl, gc, rb, rs, bl) (nI k) := by
  refine bx_zs hk hc e ?_
  generalize bg_zs gl (k * 8) c = z at h ⊢
  generalize hd : decide (kd = 0) = d at h
  refine loop_0 (fun n i (s : Int32 × Int32 × Int32 × (Nat → Int64) × (Nat → Int32)) => wX_solve_23 post z n (nI i) kd s.1 s.2.1 s.2.2.1 gl gc rb s.2.2.2.1 s.2.2.2.2) (bx_I z d) 32 (0, 0, 0, rs, bl) ?_ ?_ ?_
  · refine ⟨rfl, rfl, rfl, ?_, ?_⟩
    · intro p _ hP
      have hP' : bt 0 p = true := hP
      rw [b_0] at hP'
      exact absurd hP' (by decide)
    · intro r hr
      exact absurd hr (Nat.not_lt_zero r)
  · intro n s hs
    obtain ⟨s1, s2, s3, s4, s5⟩ := s
    obtain ⟨h1, h2, h3, h4, h5⟩ := hs
    have h1' : s1 = bg_P z d 32 := h1
    have h2' : s2 = bg_L z d 32 := h2
    have h3' : s3 = nI (bg_ct (fun r => bg_le z d (bg_mo d r)) 32) := h3
    subst h1' h2' h3'
    exact br_t bx_y32 (h s4 s5 h4 h5)
  · intro n i s hi hs K
    obtain ⟨s1, s2, s3, s4, s5⟩ := s
    have hs' := hs
    obtain ⟨h1, h2, h3, h4, h5⟩ := hs
    have h1' : s1 = bg_P z d i := h1
    have h2' : s2 = bg_L z d i := h2
    have h3' : s3 = nI (bg_ct (fun r => bg_le z d (bg_mo d r)) i) := h3
    subst h1' h2' h3'
    have hm := bg_mo_lt d i hi
    have hb := bg_ct_le (fun r => bg_le z d (bg_mo d r)) i
    have ew : bg_rx (bg_P z d i) s4 (bg_w0 z (bg_mo d i)) 32 = bg_W z d i := bg_rx_c _ 32 h4
    refine br_f (bx_n32 hi) (bx_mo hi hT ?_)
    rw [hd]
    refine nm_e (bx_ex _ (nm_e (bx_rde (w := bg_w0 z (bg_mo d i)) ew ?_)))
    refine br_c (fun c => bx_al hm (by omega) _ (fun e1 => nm_r (nI_1 i) (K (_, _, _, _, _) (bx_It hi c e1 hs'))) (fun e1 => nm_r (nI_1 i) (K (_, _, _, _, _) (bx_If hi c e1 hs')))) (fun c => bx_ap _ c (nm_r (nI_1 i) (K (_, _, _, _, _) (bx_Ip hi c hs'))))
/-! the table of the constructor -/
def bx_F (v m : Nat) (s : Int32 × (Nat → Int32)) : Prop := s.1 = nI (bg_cn v m) ∧ ∀ r, r < bg_cn v m → s.2 r = nI (bg_mo true r)
theorem bx_fi {post : SX → Prop} {J4 : Int32 → Int32 → (Nat → Int32) → (Nat → Int32) → (Nat → Int32) → (Nat → Int64) → (Nat → Int32) → Prop} {v : Nat} (hv : v < 6) {x1 : Int32} (hI : bx_F v 0 (x1, rb)) (h : ∀ s, bx_F (v + 1) 0 s → J4 s.1 (nI (v + 1)) gl gc s.2 rs bl) : ∃ n, wX_fillRisingByVariables_11 post J4 (nI v) kd pv ld bc n x1 0 gl gc rb rs bl := by
  refine loop_0 (fun n i (s : Int32 × (Nat → Int32)) => wX_fillRisingByVariables_11 post J4 (nI v) kd pv ld bc n s.1 (nI i) gl gc s.2 rs bl) (bx_F v) 32 (x1, rb) hI ?_ ?_
  · intro n s hs
    refine br_t bx_y32 (nm_r (nI_1 v) (h s ?_))
    unfold bx_F at hs ⊢
    rw [← bg_cnS v hv]
    exact hs
  · intro n i s hi hs K
    obtain ⟨s1, s2⟩ := s
    obtain ⟨h1, h2⟩ := hs
    have h1' : s1 = nI (bg_cn v i) := h1
    subst h1'
    refine br_f (bx_n32 hi) (bx_cb _ ?_)
    rw [bg_dg32 i hi]
    have hdg := bg_dg_lt i
    refine ⟨fun c => ?_, fun c => ?_⟩
    · have c' : bg_dg i = v := (nI_eq (by omega) (by omega)).mp c
      obtain ⟨t1, t2, t3⟩ := bg_cnT v hv i hi c'
      refine br_f (bx_n32 t3) ⟨vp_in_nI t3 (by decide), nm_e (nm_r (nI_1 _) (nm_r (nI_1 i) (K (_, _) ⟨?_, ?_⟩)))⟩
      · show nI _ = nI _
        rw [t2]
      · intro r hr
        show upd s2 (nI (bg_cn v i)).toNatClampNeg (nI i) r = _
        rw [nI_clamp (by omega)]
        by_cases q : r = bg_cn v i
        · rw [q, pk_us]
          show nI i = nI (bg_T.getD (bg_cn v i) 0)
          rw [t1]
        · rw [pk_un q]
          exact h2 r (by omega)
    · have c' : ¬ bg_dg i = v := fun z => c (by rw [z])
      have t := bg_cnF v hv i hi c'
      refine nm_r (nI_1 i) (K (_, _) ⟨?_, ?_⟩)
      · show nI _ = nI _
        rw [t]
      · intro r hr
        rw [t] at hr
        exact h2 r hr
theorem bx_f5 {j : Nat} (h : j < 6) : ¬ (5 : Int32) < nI j := nI_nlt (a := 5) (b := j) (by omega) (by decide)
theorem bx_fl {post : SX → Prop} (h : ∀ rb' : Nat → Int32, (∀ r, r < 32 → rb' r = nI (bg_mo true r)) → post (kd, pv, ld, bc, gl, gc, rb', rs, bl)) : wpX_fillRisingByVariables post (kd, pv, ld, bc, gl, gc, rb, rs, bl) := by
  refine loop_0 (fun n i (s : Int32 × (Nat → Int32)) => wX_fillRisingByVariables_4 post kd pv ld bc n s.1 (nI i) gl gc s.2 rs bl) (fun i s => bx_F i 0 s) 6 (0, rb) ?_ ?_ ?_
  · refine ⟨?_, ?_⟩
    · show (0 : Int32) = nI (bg_cn 0 0)
      rw [bg_cn0]; rfl
    · intro r hr
      rw [bg_cn0] at hr
      exact absurd hr (Nat.not_lt_zero r)
  · intro n s hs
    obtain ⟨s1, s2⟩ := s
    obtain ⟨_, h2⟩ := hs
    rw [bg_cn6] at h2
    exact br_t (show (5 : Int32) < nI 6 from nI_lt (a := 5) (b := 6) (by decide) (by decide)) (h s2 h2)
  · intro n i s hi hs K
    exact br_f (bx_f5 hi) (bx_fi hi hs (fun s' hs' => K s' hs'))
end BGF
