section BGH
variable {kd zs nr : Int32} {cn ls od rw md le : Nat → Int32}
theorem bY_v0 : vp_nar .boolean 0 = 0 := by decide
theorem bY_v1 : vp_nar .boolean 1 = 1 := by decide
theorem bY_vi (b : Bool) : vp_nar .boolean (bg_i b) = bg_i b := by
  cases b
  · exact bY_v0
  · exact bY_v1
/-- the reference's loop over its rows: work -/
theorem bY_wi {post : SY → Prop} {J20 : Int32 → Int32 → (Nat → Int32) → (Nat → Int32) → (Nat → Int32) → (Nat → Int32) → (Nat → Int32) → (Nat → Int32) → Prop} {i m q : Nat} (hm : m < 32) (hq : q < 32) (v c : Int32)
    (h0 : (bg_yr rw md v c q).1 = 0 → J20 (nI (i + 1)) (nI q) cn ls od rw md (upd le m 1))
    (h1 : ¬ (bg_yr rw md v c q).1 = 0 → J20 (nI (i + 1)) (nI (q + 1)) cn ls od (upd rw q (bg_yr rw md v c q).1) (upd md q (bg_yr rw md v c q).2) (upd le m 0)) :
    ∃ n, wY_work_55 post J20 (nI i) (nI m) kd zs (nI q) cn ls od rw md le n v c 0 := by
  refine loop_0 (fun n j (s : Int32 × Int32) => wY_work_55 post J20 (nI i) (nI m) kd zs (nI q) cn ls od rw md le n s.1 s.2 (nI j)) (fun j s => s = bg_yr rw md v c j) q (v, c) rfl ?_ ?_
  · intro n s hs
    have hs' : s = bg_yr rw md v c q := hs
    refine br_t (nI_le (Nat.le_refl q) (by omega)) ?_
    rw [hs']
    refine br_c (fun z => ⟨vp_in_nI hm (by decide), nm_r (e' := upd le m 1) (by rw [nI_clamp (by omega), bY_v1]) (br_t z (nm_r (nI_1 i) (h0 z)))⟩) (fun z => ⟨vp_in_nI hm (by decide), nm_r (e' := upd le m 0) (by rw [nI_clamp (by omega), bY_v0]) (br_f z ⟨vp_in_nI hq (by decide), nm_r (e' := upd rw q (bg_yr rw md v c q).1) (by rw [nI_clamp (by omega)]) ⟨vp_in_nI hq (by decide), nm_r (e' := upd md q (bg_yr rw md v c q).2) (by rw [nI_clamp (by omega)]) (nm_r (nI_1 q) (nm_r (nI_1 i) (h1 z)))⟩⟩)⟩)
  · intro n j s hj hs K
    have hs' : s = bg_yr rw md v c j := hs
    have hj2 : j < 32 := by omega
    have ej : (nI j).toNatClampNeg = j := nI_clamp (by omega)
    refine br_f (nI_ge hj (by omega)) ⟨vp_in_nI hj2 (by decide), vp_in_nI hj2 (by decide), nm_r (e' := rw j &&& -rw j) (by rw [ej]) (br_c (fun z => nm_r (nI_1 j) (K s ?_)) (fun z => ⟨vp_in_nI hj2 (by decide), nm_r (e' := s.1 ^^^ rw j) (by rw [ej]) ⟨vp_in_nI hj2 (by decide), nm_r (e' := s.2 ^^^ md j) (by rw [ej]) (nm_r (nI_1 j) (K (s.1 ^^^ rw j, s.2 ^^^ md j) ?_))⟩⟩))⟩
    · show s = bg_yr rw md v c (j + 1)
      rw [hs'] at z
      rw [bg_yrS, if_pos z, hs']
    · show (s.1 ^^^ rw j, s.2 ^^^ md j) = bg_yr rw md v c (j + 1)
      rw [hs'] at z ⊢
      rw [bg_yrS, if_neg z]
/-- .. and reduced -/
theorem bY_ri {post : Int32 → Prop} {q : Nat} (hq : q ≤ 32) (v c : Int32) (h : post (bg_yr rw md v c q).2) : ∃ n, wY_reduced_16 post kd zs (nI q) cn ls od rw md le n v c 0 := by
  refine loop_0 (fun n j (s : Int32 × Int32) => wY_reduced_16 post kd zs (nI q) cn ls od rw md le n s.1 s.2 (nI j)) (fun j s => s = bg_yr rw md v c j) q (v, c) rfl ?_ ?_
  · intro n s hs
    have hs' : s = bg_yr rw md v c q := hs
    refine br_t (nI_le (Nat.le_refl q) (by omega)) ?_
    rw [hs']
    exact h
  · intro n j s hj hs K
    have hs' : s = bg_yr rw md v c j := hs
    have hj2 : j < 32 := by omega
    have ej : (nI j).toNatClampNeg = j := nI_clamp (by omega)
    refine br_f (nI_ge hj (by omega)) ⟨vp_in_nI hj2 (by decide), vp_in_nI hj2 (by decide), nm_r (e' := rw j &&& -rw j) (by rw [ej]) (br_c (fun z => nm_r (nI_1 j) (K s ?_)) (fun z => ⟨vp_in_nI hj2 (by decide), nm_r (e' := s.1 ^^^ rw j) (by rw [ej]) ⟨vp_in_nI hj2 (by decide), nm_r (e' := s.2 ^^^ md j) (by rw [ej]) (nm_r (nI_1 j) (K (s.1 ^^^ rw j, s.2 ^^^ md j) ?_))⟩⟩))⟩
    · show s = bg_yr rw md v c (j + 1)
      rw [hs'] at z
      rw [bg_yrS, if_pos z, hs']
    · show (s.1 ^^^ rw j, s.2 ^^^ md j) = bg_yr rw md v c (j + 1)
      rw [hs'] at z ⊢
      rw [bg_yrS, if_neg z]
/-- where work stands before rank i -/
def bY_I (z : Int32) (d : Bool) (i : Nat) (s : Int32 × (Nat → Int32) × (Nat → Int32) × (Nat → Int32)) : Prop :=
  ∃ q, q ≤ i ∧ s.1 = nI q ∧ bg_Y (bg_P z d i) (bg_R z d i) q s.2.1 s.2.2.1 ∧ ∀ m, m < 32 → bg_rk d m < i → s.2.2.2 m = bg_i (bg_ld z d (bg_rk d m))
theorem bY_led {z : Int32} {d : Bool} {i : Nat} (hi : i < 32) {le : Nat → Int32} {b : Bool} (hb : bg_ld z d i = b) (h : ∀ m, m < 32 → bg_rk d m < i → le m = bg_i (bg_ld z d (bg_rk d m))) : ∀ m, m < 32 → bg_rk d m < i + 1 → upd le (bg_mo d i) (bg_i b) m = bg_i (bg_ld z d (bg_rk d m)) := by
  intro m hm hr
  by_cases e : m = bg_mo d i
  · rw [e, pk_us, bg_rk_mo d i hi, hb]
  · rw [pk_un e]
    refine h m hm ?_
    have : bg_rk d m ≠ i := by
      intro q
      apply e
      rw [← q]; exact (bg_mo_rk d m hm).symm
    omega
theorem bY_wk {post : SY → Prop} {k c : Nat} (hk : k < 2) (hc : c ≤ 8) (e : cn k = nI c)
    (h : ∀ (od' rw' md' le' : Nat → Int32) (q : Nat), q ≤ 32 → (∀ r, r < 32 → od' r = nI (bg_mo (decide (kd = 0)) r)) → bg_Y (bg_P (bg_zs ls (k * 8) c) (decide (kd = 0)) 32) (bg_R (bg_zs ls (k * 8) c) (decide (kd = 0)) 32) q rw' md' → (∀ m, m < 32 → le' m = bg_i (bg_ld (bg_zs ls (k * 8) c) (decide (kd = 0)) (bg_rk (decide (kd = 0)) m))) → post (kd, bg_zs ls (k * 8) c, nI q, cn, ls, od', rw', md', le')) :
    wpY_work post (kd, zs, nr, cn, ls, od, rw, md, le) (nI k) := by
  refine bY_zo hk hc e (bY_so (fun od' hod => ?_))
  generalize bg_zs ls (k * 8) c = z at h ⊢
  generalize hd : decide (kd = 0) = d at h hod
  refine loop_0 (fun n i (s : Int32 × (Nat → Int32) × (Nat → Int32) × (Nat → Int32)) => wY_work_20 post kd z n (nI i) s.1 cn ls od' s.2.1 s.2.2.1 s.2.2.2) (bY_I z d) 32 (0, rw, md, le) ?_ ?_ ?_
  · exact ⟨0, Nat.le_refl 0, rfl, bg_Y0 _ _ _, fun m _ hr => absurd hr (Nat.not_lt_zero _)⟩
  · intro n s hs
    obtain ⟨s1, s2, s3, s4⟩ := s
    obtain ⟨q, hq, h1, h2, h3⟩ := hs
    have h1' : s1 = nI q := h1
    subst h1'
    exact br_t bx_y32 (h od' s2 s3 s4 q hq hod h2 (fun m hm => h3 m hm (bg_rk_lt d m hm)))
  · intro n i s hi hs K
    obtain ⟨s1, s2, s3, s4⟩ := s
    obtain ⟨q, hq, h1, h2, h3⟩ := hs
    have h1' : s1 = nI q := h1
    subst h1'
    have hm := bg_mo_lt d i hi
    have I := bg_IVi z d i
    have ey := bg_yrx I h2 (bg_x (bg_b (bg_mo d i)) &&& z) (bg_b (bg_mo d i))
    have eW : bg_m (bg_yr s2 s3 (bg_x (bg_b (bg_mo d i)) &&& z) (bg_b (bg_mo d i)) q).2 (bg_yr s2 s3 (bg_x (bg_b (bg_mo d i)) &&& z) (bg_b (bg_mo d i)) q).1 = bg_W z d i := ey
    have ev : (bg_W z d i).toInt32 = (bg_yr s2 s3 (bg_x (bg_b (bg_mo d i)) &&& z) (bg_b (bg_mo d i)) q).1 := by rw [← eW, bg_mv]
    refine br_f (bx_n32 hi) ⟨vp_in_nI hi (by decide), nm_r (e' := nI (bg_mo d i)) (by rw [nI_clamp (by omega)]; exact hod i hi) (bY_av _ (nm_e (nm_e (bY_wi hm (show q < 32 by omega) _ _ (fun c0 => K (nI q, s2, s3, upd s4 (bg_mo d i) 1) ?_) (fun c0 => K (nI (q + 1), upd s2 q (bg_yr s2 s3 (bg_x (bg_b (bg_mo d i)) &&& z) (bg_b (bg_mo d i)) q).1, upd s3 q (bg_yr s2 s3 (bg_x (bg_b (bg_mo d i)) &&& z) (bg_b (bg_mo d i)) q).2, upd s4 (bg_mo d i) 0) ?_)))))⟩
    · have c1 : (bg_W z d i).toInt32 = 0 := by rw [ev]; exact c0
      obtain ⟨e1, e2, _⟩ := bg_elT c1
      refine ⟨q, by omega, rfl, ?_, ?_⟩
      · rw [e1, e2]; exact h2
      · exact bY_led hi (b := true) (decide_eq_true c1) h3
    · have c1 : ¬ (bg_W z d i).toInt32 = 0 := by rw [ev]; exact c0
      obtain ⟨e1, e2, _⟩ := bg_elF c1
      refine ⟨q + 1, by omega, rfl, ?_, ?_⟩
      · rw [e1, e2, ev, ← eW]
        exact bg_Yn I h2 ey c0
      · exact bY_led hi (b := false) (decide_eq_false c1) h3
theorem bY_rd {post : Int32 → Prop} {P : Int32} {R : Nat → Int64} {q : Nat} (hq : q ≤ 32) (I : bg_IV P R) (H : bg_Y P R q rw md) (p : Int32) (h : post (bg_h (bg_rx P R (bg_m 0 (bg_x p &&& zs)) 32))) : wpY_reduced post (kd, zs, nI q, cn, ls, od, rw, md, le) p := by
  refine bY_av _ (nm_e (bY_ri hq _ _ ?_))
  rw [← bg_yrx I H, bg_mh] at h
  exact h
theorem bY_le {post : Int32 → Prop} {f : Nat → Bool} (hle : ∀ m, m < 32 → le m = bg_i (f m)) {m : Nat} (hm : m < 32) (h : post (bg_i (f m && !(bg_hd f m m)))) : wpY_least post (kd, zs, nr, cn, ls, od, rw, md, le) (nI m) := by
  refine ⟨vp_in_nI hm (by decide), ?_⟩
  rw [nI_clamp (by omega), hle m hm]
  refine bx_if (fun e => (bx_ii h).1 (by rw [e, Bool.false_and])) (fun e => ?_)
  rw [e, Bool.true_and] at h
  refine loop_0 (fun n i (_ : Unit) => wY_least_13 post (nI m) kd zs nr cn ls od rw md le n (nI i)) (fun i _ => bg_hd f m i = false) m () rfl ?_ ?_
  · intro n s hs
    have hs' : bg_hd f m m = false := hs
    exact br_t (nI_le (Nat.le_refl m) (by omega)) ((bx_ii h).2 (by rw [hs']; rfl))
  · intro n i s hi hs K
    have hi2 : i < 32 := by omega
    refine br_f (nI_ge hi (by omega)) (bx_and hi2 (fun c => ⟨vp_in_nI hi2 (by decide), ?_⟩) (fun c => nm_r (nI_1 i) (K () ?_)))
    · rw [nI_clamp (by omega), hle i hi2]
      refine bx_if (fun q => nm_r (nI_1 i) (K () ?_)) (fun q => (bx_ii h).1 (by rw [bg_hd_t hi c q]; rfl))
      rw [bg_hdS, hs, q, Bool.and_false]; rfl
    · rw [bg_hdS, hs, decide_eq_false c]; rfl
end BGH
