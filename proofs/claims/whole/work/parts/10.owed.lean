section BGK
/-- generators: counts within 8; the table of the order by variables -/
def bz_G (gc rb : Nat → Int32) : Prop := (∀ k, k < 2 → ∃ c, c ≤ 8 ∧ gc k = nI c) ∧ ∀ r, r < 32 → rb r = nI (bg_mo true r)
/-- the same generators, counts and kind; all else is made anew where it is used -/
def i_Rel (_ : Nat) (u : SX) (v : SY) : Prop := ∃ (kd pv ld bc : Int32) (gl gc rb : Nat → Int32) (rs : Nat → Int64) (bl : Nat → Int32) (zs nr : Int32) (od rw md le : Nat → Int32), u = (kd, pv, ld, bc, gl, gc, rb, rs, bl) ∧ v = (kd, zs, nr, gc, gl, od, rw, md, le) ∧ bz_G gc rb
theorem bz_r {k : Nat} {kd pv ld bc : Int32} {gl gc rb : Nat → Int32} {rs : Nat → Int64} {bl : Nat → Int32} {zs nr : Int32} {od rw md le : Nat → Int32} (G : bz_G gc rb) : i_Rel k (kd, pv, ld, bc, gl, gc, rb, rs, bl) (kd, zs, nr, gc, gl, od, rw, md, le) := ⟨kd, pv, ld, bc, gl, gc, rb, rs, bl, zs, nr, od, rw, md, le, rfl, rfl, G⟩
theorem bz_Gu {gc rb : Nat → Int32} (G : bz_G gc rb) (k : Nat) {c : Nat} (hc : c ≤ 8) : bz_G (upd gc k (nI c)) rb := by
  refine ⟨fun j hj => ?_, G.2⟩
  by_cases e : j = k
  · exact ⟨c, hc, by rw [e, pk_us]⟩
  · rw [pk_un e]; exact G.1 j hj
/-- an ideal's number is good or not -/
theorem bz_k (k : Int32) : (∃ j : Nat, j < 2 ∧ k = nI j) ∨ (¬ k = 0 ∧ ¬ k = 1) := by
  by_cases h0 : k = 0
  · exact Or.inl ⟨0, by omega, h0⟩
  · by_cases h1 : k = 1
    · exact Or.inl ⟨1, by omega, h1⟩
    · exact Or.inr ⟨h0, h1⟩
theorem bz_x1 {k : Nat} (hk : k < 2) {A B : Prop} (a : A) : (nI k = 0 → A) ∧ (¬ nI k = 0 → ((nI k = 1 → A) ∧ (¬ nI k = 1 → B))) := by
  have : k = 0 ∨ k = 1 := by omega
  rcases this with rfl | rfl
  · exact br_t rfl a
  · exact br_f bx_10 (br_t rfl a)
theorem bz_y1 {k : Nat} (hk : k < 2) {A B C : Prop} (a : A) : (nI k < 0 → B) ∧ (¬ nI k < 0 → ((nI k ≤ 1 → A) ∧ (¬ nI k ≤ 1 → C))) :=
  br_f (nI_pos (by omega)) (br_t (show nI k ≤ (1 : Int32) from nI_le (a := k) (b := 1) (by omega) (by decide)) a)
theorem bz_y0 {k : Int32} (h0 : ¬ k = 0) (h1 : ¬ k = 1) {A B : Prop} (b : B) : (k < 0 → B) ∧ (¬ k < 0 → ((k ≤ 1 → A) ∧ (¬ k ≤ 1 → B))) := by
  by_cases c : k < 0
  · exact br_t c b
  · refine br_f c (br_f ?_ b)
    intro c1
    obtain ⟨j, hj, e⟩ := nI_of2 (x := k) (M := 1) (n := 1) (by decide) c c1
    have : j = 0 ∨ j = 1 := by omega
    rcases this with rfl | rfl
    · exact h0 e
    · exact h1 e
theorem i_up {k : Nat} {u : SX} {v : SY} (h : i_Rel k u v) : i_Rel (k + 4) u v := h
theorem i_vc0 : wpX_init (fun u => wpY_init (fun v => i_Rel 0 u v)) := by
  unfold wpX_init
  refine bx_fl (fun rb' hT => ?_)
  unfold wpY_init
  exact bz_r (k := 0) ⟨fun k _ => ⟨0, by omega, rfl⟩, hT⟩
theorem i_vc_generate {k : Nat} {u : SX} {v : SY} (I : i_Rel k u v) (hk : k + 4 ≤ 2048) (v1 : Int32) (v2 : Int32) : wpX_generate (fun r u' => wpY_generate (fun r' v' => r' = r ∧ i_Rel (k + 4) u' v') v v1 v2) u v1 v2 := by
  obtain ⟨kd, pv, ld, bc, gl, gc, rb, rs, bl, zs, nr, od, rw, md, le, rfl, rfl, G⟩ := I
  unfold wpX_generate wpY_generate
  dsimp only
  rcases bz_k v1 with ⟨j, hj, rfl⟩ | ⟨h0, h1⟩
  · obtain ⟨c, hc, e⟩ := G.1 j hj
    refine bx_id1 hj (br_f bx_10 ⟨vp_in_nI hj (by decide), nm_r (e' := nI c) (by rw [nI_clamp (by omega)]; exact e) ?_⟩)
    by_cases c8 : c < 8
    · have l : nI c < (8 : Int32) := nI_lt (a := c) (b := 8) c8 (by decide)
      refine br_t l ⟨by rw [bx_k8]; exact vp_in_nI (by omega) (by decide), nm_r (e' := upd gl (j * 8 + c) v2) (by rw [bx_k8, nI_clamp (by omega)]) ⟨vp_in_nI hj (by decide), nm_r (e' := upd gc j (nI (c + 1))) (by rw [nI_clamp (by omega), nI_1]) ?_⟩⟩
      refine bY_b0 hj (br_t rfl ⟨vp_in_nI hj (by decide), nm_r (e' := nI c) (by rw [nI_clamp (by omega)]; exact e) (br_t l ⟨by rw [bx_8k]; exact vp_in_nI (by omega) (by decide), nm_r (e' := upd gl (j * 8 + c) v2) (by rw [bx_8k, nI_clamp (by omega)]) ⟨vp_in_nI hj (by decide), nm_r (e' := upd gc j (nI (c + 1))) (by rw [nI_clamp (by omega), nI_1]) ⟨rfl, bz_r (bz_Gu G j (by omega))⟩⟩⟩)⟩)
    · have l : ¬ nI c < (8 : Int32) := nI_nlt (a := c) (b := 8) (by omega) (by omega)
      exact br_f l (bY_b0 hj (br_t rfl ⟨vp_in_nI hj (by decide), nm_r (e' := nI c) (by rw [nI_clamp (by omega)]; exact e) (br_f l ⟨rfl, bz_r G⟩)⟩))
  · exact bx_id0 h0 h1 (br_t rfl (bY_b1 h0 h1 (br_f bx_10 ⟨rfl, bz_r G⟩)))
theorem i_vc_retract {k : Nat} {u : SX} {v : SY} (I : i_Rel k u v) (hk : k + 4 ≤ 2048) (v1 : Int32) (v2 : Int32) : wpX_retract (fun r u' => wpY_retract (fun r' v' => r' = r ∧ i_Rel (k + 4) u' v') v v1 v2) u v1 v2 := by
  obtain ⟨kd, pv, ld, bc, gl, gc, rb, rs, bl, zs, nr, od, rw, md, le, rfl, rfl, G⟩ := I
  unfold wpX_retract wpY_retract
  dsimp only
  rcases bz_k v1 with ⟨j, hj, rfl⟩ | ⟨h0, h1⟩
  · obtain ⟨c, hc, e⟩ := G.1 j hj
    refine bx_id1 hj (br_f bx_10 ⟨vp_in_nI hj (by decide), nm_r (e' := nI c - 1) (by rw [nI_clamp (by omega), e]) ?_⟩)
    by_cases n : v2 < 0
    · exact br_t n (bY_b0 hj (br_t rfl (br_t n ⟨rfl, bz_r G⟩)))
    · obtain ⟨i, hi, rfl⟩ := nI_of n
      refine br_f n ?_
      by_cases l : i < c
      · obtain ⟨c', rfl⟩ : ∃ c', c = c' + 1 := ⟨c - 1, by omega⟩
        rw [nI_pred]
        refine br_t (nI_le (by omega) (by omega)) (nm_r (e' := nI (j * 8)) (pk_mul j 8) ⟨(c' - i) + 1, bx_rt hj (by omega) (c' - i) i gl (by omega) ?_⟩)
        refine bY_b0 hj (br_t rfl (br_f n ⟨vp_in_nI hj (by decide), br_t ?_ ⟨(c' - i) + 1, bY_rt hj (by omega) e (c' - i) i gl (by omega) ⟨rfl, bz_r (bz_Gu G j (by omega))⟩⟩⟩))
        rw [nI_clamp (by omega), e]; exact nI_lt (by omega) (by omega)
      · have l2 : ¬ nI i ≤ nI c - 1 := by
          by_cases c0 : c = 0
          · rw [c0, show nI 0 - 1 = (-1 : Int32) by decide]
            intro q
            exact n (Int32.lt_of_le_of_lt q (by decide))
          · obtain ⟨c', rfl⟩ : ∃ c', c = c' + 1 := ⟨c - 1, by omega⟩
            rw [nI_pred]
            exact nI_ge (by omega) (by omega)
        refine br_f l2 (bY_b0 hj (br_t rfl (br_f n ⟨vp_in_nI hj (by decide), br_f ?_ ⟨rfl, bz_r G⟩⟩)))
        rw [nI_clamp (by omega), e]; exact nI_nlt (by omega) (by omega)
  · exact bx_id0 h0 h1 (br_t rfl (bY_b1 h0 h1 (br_f bx_10 ⟨rfl, bz_r G⟩)))
theorem i_vc_clear {k : Nat} {u : SX} {v : SY} (I : i_Rel k u v) (hk : k + 4 ≤ 2048) (v1 : Int32) : wpX_clear (fun r u' => wpY_clear (fun r' v' => r' = r ∧ i_Rel (k + 4) u' v') v v1) u v1 := by
  obtain ⟨kd, pv, ld, bc, gl, gc, rb, rs, bl, zs, nr, od, rw, md, le, rfl, rfl, G⟩ := I
  unfold wpX_clear wpY_clear
  dsimp only
  rcases bz_k v1 with ⟨j, hj, rfl⟩ | ⟨h0, h1⟩
  · refine bx_id1 hj (br_f bx_10 ⟨vp_in_nI hj (by decide), nm_e ⟨vp_in_nI hj (by decide), nm_r (e' := upd gc j (nI 0)) (by rw [nI_clamp (by omega)]; rfl) ?_⟩⟩)
    exact bY_b0 hj (br_t rfl ⟨vp_in_nI hj (by decide), nm_e ⟨vp_in_nI hj (by decide), nm_r (e' := upd gc j (nI 0)) (by rw [nI_clamp (by omega)]; rfl) ⟨rfl, bz_r (bz_Gu G j (by omega))⟩⟩⟩)
  · exact bx_id0 h0 h1 (br_t rfl (bY_b1 h0 h1 (br_f bx_10 ⟨rfl, bz_r G⟩)))
theorem i_vc_order {k : Nat} {u : SX} {v : SY} (I : i_Rel k u v) (hk : k + 4 ≤ 2048) (v1 : Int32) : wpX_order (fun r u' => wpY_order (fun r' v' => r' = r ∧ i_Rel (k + 4) u' v') v v1) u v1 := by
  obtain ⟨kd, pv, ld, bc, gl, gc, rb, rs, bl, zs, nr, od, rw, md, le, rfl, rfl, G⟩ := I
  unfold wpX_order wpY_order
  dsimp only
  rcases bz_k v1 with ⟨j, hj, rfl⟩ | ⟨h0, h1⟩
  · exact bz_x1 hj (bz_y1 hj ⟨rfl, bz_r G⟩)
  · exact br_f h0 (br_f h1 (bz_y0 h0 h1 ⟨rfl, bz_r G⟩))
theorem i_vc_generators {k : Nat} {u : SX} {v : SY} (I : i_Rel k u v) (hk : k + 4 ≤ 2048) (v1 : Int32) : wpX_generators (fun r => wpY_generators (fun r' => r' = r ∧ i_Rel (k + 4) u v) v v1) u v1 := by
  obtain ⟨kd, pv, ld, bc, gl, gc, rb, rs, bl, zs, nr, od, rw, md, le, rfl, rfl, G⟩ := I
  unfold wpX_generators wpY_generators
  dsimp only
  rcases bz_k v1 with ⟨j, hj, rfl⟩ | ⟨h0, h1⟩
  · exact bx_id1 hj (br_f bx_10 ⟨vp_in_nI hj (by decide), bY_b0 hj (br_t rfl ⟨vp_in_nI hj (by decide), rfl, bz_r G⟩)⟩)
  · exact bx_id0 h0 h1 (br_t rfl (bY_b1 h0 h1 (br_f bx_10 ⟨rfl, bz_r G⟩)))
theorem i_vc_value {k : Nat} {u : SX} {v : SY} (I : i_Rel k u v) (hk : k + 4 ≤ 2048) (v1 : Int32) (v2 : Int32) : wpX_value (fun r => wpY_value (fun r' => r' = r ∧ i_Rel (k + 4) u v) v v1 v2) u v1 v2 := by
  obtain ⟨kd, pv, ld, bc, gl, gc, rb, rs, bl, zs, nr, od, rw, md, le, rfl, rfl, G⟩ := I
  unfold wpX_value
  dsimp only
  rcases pk_ix v2 (n := 32) (by decide) with n | n | ⟨x, hx, rfl⟩
  · exact br_t n (br_t n ⟨rfl, bz_r G⟩)
  · have n0 : ¬ v2 < 0 := fun q => absurd (Int32.lt_of_le_of_lt (show (32 : Int32) ≤ v2 from n) q) (by decide)
    have n1 : ¬ v2 < 32 := Int32.not_lt.mpr n
    have n2 : ¬ v2 ≤ 31 := fun q => absurd (Int32.le_trans (show (32 : Int32) ≤ v2 from n) q) (by decide)
    exact br_f n0 (br_f n1 (br_f n0 (br_f n2 ⟨rfl, bz_r G⟩)))
  · have n0 : ¬ nI x < 0 := nI_pos (by omega)
    refine br_f n0 (br_t (show nI x < (32 : Int32) from nI_lt (a := x) (b := 32) hx (by decide)) (bx_ex _ (bx_hb _ hx ?_)))
    rw [bg_xb v1 x hx]
    have Y : ∀ b : Bool, bg_ev v1 x = b → wpY_value (fun r' => r' = bg_i b ∧ i_Rel (k + 4) (kd, pv, ld, bc, gl, gc, rb, rs, bl) (kd, zs, nr, gc, gl, od, rw, md, le)) (kd, zs, nr, gc, gl, od, rw, md, le) v1 (nI x) := fun b hb => br_f n0 (br_t (show nI x ≤ (31 : Int32) from nI_le (a := x) (b := 31) (by omega) (by decide)) (bY_at _ ⟨by rw [hb], bz_r G⟩))
    exact bx_if (fun q => Y false q) (fun q => Y true q)
theorem i_vc_product {k : Nat} {u : SX} {v : SY} (I : i_Rel k u v) (hk : k + 4 ≤ 2048) (v1 : Int32) (v2 : Int32) : wpX_product (fun r => wpY_product (fun r' => r' = r ∧ i_Rel (k + 4) u v) v v1 v2) u v1 v2 := by
  obtain ⟨kd, pv, ld, bc, gl, gc, rb, rs, bl, zs, nr, od, rw, md, le, rfl, rfl, G⟩ := I
  unfold wpX_product wpY_product
  dsimp only
  exact bx_ex _ (bx_ex _ (bx_ex _ (bY_av _ (bY_av _ (bY_fv _ ⟨rfl, bz_r G⟩)))))
theorem i_vc_leading {k : Nat} {u : SX} {v : SY} (I : i_Rel k u v) (hk : k + 4 ≤ 2048) (v1 : Int32) : wpX_leading (fun r => wpY_leading (fun r' => r' = r ∧ i_Rel (k + 4) u v) v v1) u v1 := by
  obtain ⟨kd, pv, ld, bc, gl, gc, rb, rs, bl, zs, nr, od, rw, md, le, rfl, rfl, G⟩ := I
  unfold wpX_leading wpY_leading
  dsimp only
  exact bx_ldg G.2 (fun v hv => bY_ldg (fun v' hv' => ⟨bg_spu hv hv', bz_r G⟩))
theorem i_vc_contains {k : Nat} {u : SX} {v : SY} (I : i_Rel k u v) (hk : k + 4 ≤ 2048) (v1 : Int32) (v2 : Int32) : wpX_contains (fun r => wpY_contains (fun r' => r' = r ∧ i_Rel (k + 4) u v) v v1 v2) u v1 v2 := by
  obtain ⟨kd, pv, ld, bc, gl, gc, rb, rs, bl, zs, nr, od, rw, md, le, rfl, rfl, G⟩ := I
  unfold wpX_contains wpY_contains
  dsimp only
  rcases bz_k v1 with ⟨j, hj, rfl⟩ | ⟨h0, h1⟩
  · obtain ⟨c, hc, e⟩ := G.1 j hj
    exact bx_id1 hj (br_f bx_10 (bx_ex _ (bx_zs hj hc e (br_c (fun q => bY_b0 hj (br_t rfl (bY_zo hj hc e (bY_av _ (br_t q ⟨rfl, bz_r G⟩))))) (fun q => bY_b0 hj (br_t rfl (bY_zo hj hc e (bY_av _ (br_f q ⟨rfl, bz_r G⟩)))))))))
  · exact bx_id0 h0 h1 (br_t rfl (bY_b1 h0 h1 (br_f bx_10 ⟨rfl, bz_r G⟩)))
theorem i_vc_normal {k : Nat} {u : SX} {v : SY} (I : i_Rel k u v) (hk : k + 4 ≤ 2048) (v1 : Int32) (v2 : Int32) : wpX_normal (fun r u' => wpY_normal (fun r' v' => r' = r ∧ i_Rel (k + 4) u' v') v v1 v2) u v1 v2 := by
  obtain ⟨kd, pv, ld, bc, gl, gc, rb, rs, bl, zs, nr, od, rw, md, le, rfl, rfl, G⟩ := I
  unfold wpX_normal wpY_normal
  dsimp only
  rcases bz_k v1 with ⟨j, hj, rfl⟩ | ⟨h0, h1⟩
  · obtain ⟨c, hc, e⟩ := G.1 j hj
    refine bx_id1 hj (br_f bx_10 (bx_sv hj hc e G.2 (fun rs' bl' h1 h2 => bx_ex _ (bx_zs hj hc e (nm_e (bx_rde (bg_rx_c _ 32 h1) ?_))))))
    dsimp only [wpX_polynomialOf]
    exact bY_b0 hj (br_t rfl (bY_wk hj hc e (fun od' rw' md' le' q hq hod H hle => bY_rd hq (bg_IVi _ _ 32) H _ ⟨rfl, bz_r G⟩)))
  · exact bx_id0 h0 h1 (br_t rfl (bY_b1 h0 h1 (br_f bx_10 ⟨rfl, bz_r G⟩)))
theorem i_vc_basisSize {k : Nat} {u : SX} {v : SY} (I : i_Rel k u v) (hk : k + 4 ≤ 2048) (v1 : Int32) : wpX_basisSize (fun r u' => wpY_basisSize (fun r' v' => r' = r ∧ i_Rel (k + 4) u' v') v v1) u v1 := by
  obtain ⟨kd, pv, ld, bc, gl, gc, rb, rs, bl, zs, nr, od, rw, md, le, rfl, rfl, G⟩ := I
  unfold wpX_basisSize wpY_basisSize
  dsimp only
  rcases bz_k v1 with ⟨j, hj, rfl⟩ | ⟨h0, h1⟩
  · obtain ⟨c, hc, e⟩ := G.1 j hj
    refine bx_id1 hj (br_f bx_10 (bx_sv hj hc e G.2 (fun rs' bl' h1 h2 => ?_)))
    refine bY_b0 hj (br_t rfl (bY_wk hj hc e (fun od' rw' md' le' q hq hod H hle => bY_bs hle ⟨?_, bz_r G⟩)))
    rw [bg_permE]; rfl
  · exact bx_id0 h0 h1 (br_t rfl (bY_b1 h0 h1 (br_f bx_10 ⟨rfl, bz_r G⟩)))
theorem i_vc_basis {k : Nat} {u : SX} {v : SY} (I : i_Rel k u v) (hk : k + 4 ≤ 2048) (v1 : Int32) (v2 : Int32) : wpX_basis (fun r u' => wpY_basis (fun r' v' => r' = r ∧ i_Rel (k + 4) u' v') v v1 v2) u v1 v2 := by
  obtain ⟨kd, pv, ld, bc, gl, gc, rb, rs, bl, zs, nr, od, rw, md, le, rfl, rfl, G⟩ := I
  unfold wpX_basis
  dsimp only
  rcases bz_k v1 with ⟨j, hj, rfl⟩ | ⟨h0, h1⟩
  · obtain ⟨c, hc, e⟩ := G.1 j hj
    refine bx_id1 hj (br_f bx_10 (bx_sv hj hc e G.2 (fun rs' bl' h1 h2 => ?_)))
    have Y : ∀ v : Int32, (∀ r, r < 32 → bg_le (bg_zs gl (j * 8) c) (decide (kd = 0)) (bg_mo (decide (kd = 0)) r) = true → nI (bg_ct (fun r => bg_le (bg_zs gl (j * 8) c) (decide (kd = 0)) (bg_mo (decide (kd = 0)) r)) r) = v2 → bg_h (bg_W (bg_zs gl (j * 8) c) (decide (kd = 0)) r) = v) → ((∀ r, r < 32 → bg_le (bg_zs gl (j * 8) c) (decide (kd = 0)) (bg_mo (decide (kd = 0)) r) = true → ¬ nI (bg_ct (fun r => bg_le (bg_zs gl (j * 8) c) (decide (kd = 0)) (bg_mo (decide (kd = 0)) r)) r) = v2) → v = 0) → wpY_basis (fun r' v' => r' = v ∧ i_Rel (k + 4) (kd, bg_P (bg_zs gl (j * 8) c) (decide (kd = 0)) 32, bg_L (bg_zs gl (j * 8) c) (decide (kd = 0)) 32, nI (bg_ct (fun r => bg_le (bg_zs gl (j * 8) c) (decide (kd = 0)) (bg_mo (decide (kd = 0)) r)) 32), gl, gc, rb, rs', bl') v') (kd, zs, nr, gc, gl, od, rw, md, le) (nI j) v2 := by
      intro v a b
      unfold wpY_basis
      dsimp only
      refine bY_b0 hj (br_t rfl (bY_wk hj hc e (fun od' rw' md' le' q hq hod H hle => bY_ba (v := v) (d := decide (kd = 0)) hq (bg_IVi _ _ 32) H hod hle (fun r hr hl hn => ?_) b ⟨rfl, bz_r G⟩)))
      rw [← a r hr hl hn]
      refine bg_po _ _ (by omega) ?_
      have hl' := ((Bool.and_eq_true _ _).mp hl).1
      rw [bg_rk_mo _ r hr] at hl'
      exact of_decide_eq_true hl'
    have hm := fun r (hr : r < 32) => bg_ct_mono (fun r => bg_le (bg_zs gl (j * 8) c) (decide (kd = 0)) (bg_mo (decide (kd = 0)) r)) (r + 1) 32 (by omega)
    have h32 := bg_ct_le (fun r => bg_le (bg_zs gl (j * 8) c) (decide (kd = 0)) (bg_mo (decide (kd = 0)) r)) 32
    rcases pk_ix v2 (n := bg_ct (fun r => bg_le (bg_zs gl (j * 8) c) (decide (kd = 0)) (bg_mo (decide (kd = 0)) r)) 32) (by omega) with n | n | ⟨t, ht, rfl⟩
    · refine br_t n (Y 0 (fun r hr _ hn => ?_) (fun _ => rfl))
      rw [← hn] at n
      have h3 := hm r hr
      have h4 := bg_ct_le (fun r => bg_le (bg_zs gl (j * 8) c) (decide (kd = 0)) (bg_mo (decide (kd = 0)) r)) r
      exact absurd n (nI_pos (by omega))
    · have n0 : ¬ v2 < 0 := fun q => nI_pos (by omega) (Int32.lt_of_le_of_lt n q)
      refine br_f n0 (br_t n (Y 0 (fun r hr hl hn => ?_) (fun _ => rfl)))
      rw [← hn] at n
      have h3 := hm r hr
      rw [bg_ctT (f := fun r => bg_le (bg_zs gl (j * 8) c) (decide (kd = 0)) (bg_mo (decide (kd = 0)) r)) hl] at h3
      exact absurd n (nI_ge (by omega) (by omega))
    · refine br_f (nI_pos (by omega)) (br_f (nI_ge ht (by omega)) ⟨vp_in_nI (by omega) (by decide), ?_⟩)
      rw [nI_clamp (by omega)]
      refine Y _ (fun r hr hl hn => ?_) (fun hn => ?_)
      · have h3 := bg_ct_le (fun r => bg_le (bg_zs gl (j * 8) c) (decide (kd = 0)) (bg_mo (decide (kd = 0)) r)) r
        have h4 := (nI_eq (by omega) (by omega)).mp hn
        rw [← h4]
        exact (h2 r hr hl).symm
      · obtain ⟨r, hr, hl, hc⟩ := bg_ct_ex 32 ht
        exact absurd (by rw [hc]) (hn r hr hl)
  · refine bx_id0 h0 h1 (br_t rfl ?_)
    unfold wpY_basis
    dsimp only
    exact bY_b1 h0 h1 (br_f bx_10 ⟨rfl, bz_r G⟩)
theorem i_vc_standard {k : Nat} {u : SX} {v : SY} (I : i_Rel k u v) (hk : k + 4 ≤ 2048) (v1 : Int32) : wpX_standard (fun r u' => wpY_standard (fun r' v' => r' = r ∧ i_Rel (k + 4) u' v') v v1) u v1 := by
  obtain ⟨kd, pv, ld, bc, gl, gc, rb, rs, bl, zs, nr, od, rw, md, le, rfl, rfl, G⟩ := I
  unfold wpX_standard wpY_standard
  dsimp only
  rcases bz_k v1 with ⟨j, hj, rfl⟩ | ⟨h0, h1⟩
  · obtain ⟨c, hc, e⟩ := G.1 j hj
    refine bx_id1 hj (br_f bx_10 (bx_sv hj hc e G.2 (fun rs' bl' h1 h2 => bx_cb _ ?_)))
    refine bY_b0 hj (br_t rfl (bY_wk hj hc e (fun od' rw' md' le' q hq hod H hle => bY_sd hle ⟨?_, bz_r G⟩)))
    refine congrArg nI (bg_ct_c 32 (fun m hm => ?_))
    rw [b_xor, b_m1 m hm, Bool.xor_true, bg_Lf _ _ hm]
  · exact bx_id0 h0 h1 (br_t rfl (bY_b1 h0 h1 (br_f bx_10 ⟨rfl, bz_r G⟩)))
theorem i_vc_zeros {k : Nat} {u : SX} {v : SY} (I : i_Rel k u v) (hk : k + 4 ≤ 2048) (v1 : Int32) : wpX_zeros (fun r => wpY_zeros (fun r' => r' = r ∧ i_Rel (k + 4) u v) v v1) u v1 := by
  obtain ⟨kd, pv, ld, bc, gl, gc, rb, rs, bl, zs, nr, od, rw, md, le, rfl, rfl, G⟩ := I
  unfold wpX_zeros wpY_zeros
  dsimp only
  rcases bz_k v1 with ⟨j, hj, rfl⟩ | ⟨h0, h1⟩
  · obtain ⟨c, hc, e⟩ := G.1 j hj
    exact bx_id1 hj (br_f bx_10 (bx_zs hj hc e (bx_cb _ (bY_b0 hj (br_t rfl (bY_zo hj hc e (bY_on _ ⟨rfl, bz_r G⟩)))))))
  · exact bx_id0 h0 h1 (br_t rfl (bY_b1 h0 h1 (br_f bx_10 ⟨rfl, bz_r G⟩)))
theorem i_vc_nextZero {k : Nat} {u : SX} {v : SY} (I : i_Rel k u v) (hk : k + 4 ≤ 2048) (v1 : Int32) (v2 : Int32) : wpX_nextZero (fun r => wpY_nextZero (fun r' => r' = r ∧ i_Rel (k + 4) u v) v v1 v2) u v1 v2 := by
  obtain ⟨kd, pv, ld, bc, gl, gc, rb, rs, bl, zs, nr, od, rw, md, le, rfl, rfl, G⟩ := I
  unfold wpX_nextZero wpY_nextZero
  dsimp only
  rcases bz_k v1 with ⟨j, hj, rfl⟩ | ⟨h0, h1⟩
  · obtain ⟨c, hc, e⟩ := G.1 j hj
    obtain ⟨r, hX, hY⟩ := bz_nz (kd := kd) (pv := pv) (ld := ld) (bc := bc) (gl := gl) (gc := gc) (rb := rb) (bl := bl) (rs := rs) (zs := zs) (nr := nr) (od := od) (rw := rw) (md := md) (le := le) (bg_zs gl (j * 8) c) v2 32 0 rfl
    exact bx_id1 hj (br_f bx_10 (bx_zs hj hc e ⟨33, hX _ (bY_b0 hj (br_t rfl (bY_zo hj hc e ⟨33, hY _ ⟨rfl, bz_r G⟩⟩)))⟩))
  · exact bx_id0 h0 h1 (br_t rfl (bY_b1 h0 h1 (br_f bx_10 ⟨rfl, bz_r G⟩)))
theorem i_vc_within {k : Nat} {u : SX} {v : SY} (I : i_Rel k u v) (hk : k + 4 ≤ 2048) (v1 : Int32) : wpX_within (fun r => wpY_within (fun r' => r' = r ∧ i_Rel (k + 4) u v) v v1) u v1 := by
  obtain ⟨kd, pv, ld, bc, gl, gc, rb, rs, bl, zs, nr, od, rw, md, le, rfl, rfl, G⟩ := I
  unfold wpX_within
  dsimp only
  rcases bz_k v1 with ⟨j, hj, rfl⟩ | ⟨h0, h1⟩
  · obtain ⟨c, hc, e⟩ := G.1 j hj
    obtain ⟨c', hc', e'⟩ := G.1 (1 - j) (by omega)
    have ej : (1 : Int32) - nI j = nI (1 - j) := pk_sub (a := 1) (by omega)
    refine bx_id1 hj (br_f bx_10 (bx_zs hj hc e ?_))
    rw [ej]
    refine bx_zs (k := 1 - j) (by omega) hc' e' ?_
    have Y : ∀ v : Int32, (bg_zs gl ((1 - j) * 8) c' &&& bg_zs gl (j * 8) c = bg_zs gl ((1 - j) * 8) c' → v = 1) → (¬ bg_zs gl ((1 - j) * 8) c' &&& bg_zs gl (j * 8) c = bg_zs gl ((1 - j) * 8) c' → v = 0) → wpY_within (fun r' => r' = v ∧ i_Rel (k + 4) (kd, pv, ld, bc, gl, gc, rb, rs, bl) (kd, zs, nr, gc, gl, od, rw, md, le)) (kd, zs, nr, gc, gl, od, rw, md, le) (nI j) := by
      intro v a b
      unfold wpY_within
      dsimp only
      refine bY_b0 hj (br_t rfl (bY_zo hj hc e ?_))
      rw [ej]
      exact bY_zo (k := 1 - j) (by omega) hc' e' (br_c (fun q => ⟨(a q).symm, bz_r G⟩) (fun q => ⟨(b q).symm, bz_r G⟩))
    exact br_c (fun q => Y 1 (fun _ => rfl) (fun z => absurd ((bz_wi _ _).mp q) z)) (fun q => Y 0 (fun z => absurd ((bz_wi _ _).mpr z) q) (fun _ => rfl))
  · refine bx_id0 h0 h1 (br_t rfl ?_)
    unfold wpY_within
    dsimp only
    exact bY_b1 h0 h1 (br_f bx_10 ⟨rfl, bz_r G⟩)
theorem i_vc_commonZeros {k : Nat} {u : SX} {v : SY} (I : i_Rel k u v) (hk : k + 4 ≤ 2048) : wpX_commonZeros (fun r => wpY_commonZeros (fun r' => r' = r ∧ i_Rel (k + 4) u v) v) u := by
  obtain ⟨kd, pv, ld, bc, gl, gc, rb, rs, bl, zs, nr, od, rw, md, le, rfl, rfl, G⟩ := I
  unfold wpX_commonZeros wpY_commonZeros
  dsimp only
  obtain ⟨c, hc, e⟩ := G.1 0 (by omega)
  obtain ⟨c', hc', e'⟩ := G.1 1 (by omega)
  exact bx_zs (k := 0) (by omega) hc e (bx_zs (k := 1) (by omega) hc' e' (nm_e (bx_cb _ (bY_zo (k := 0) (by omega) hc e (bY_zo (k := 1) (by omega) hc' e' (bY_on _ ⟨rfl, bz_r G⟩))))))
theorem i_vc_fixed {k : Nat} {u : SX} {v : SY} (I : i_Rel k u v) (hk : k + 4 ≤ 2048) (v1 : Int32) (v2 : Int32) (v3 : Int32) : wpX_fixed (fun r => wpY_fixed (fun r' => r' = r ∧ i_Rel (k + 4) u v) v v1 v2 v3) u v1 v2 v3 := by
  obtain ⟨kd, pv, ld, bc, gl, gc, rb, rs, bl, zs, nr, od, rw, md, le, rfl, rfl, G⟩ := I
  unfold wpX_fixed wpY_fixed
  dsimp only
  rcases bz_k v1 with ⟨j, hj, rfl⟩ | ⟨h0, h1⟩
  · obtain ⟨c, hc, e⟩ := G.1 j hj
    rcases pk_ix v2 (n := 5) (by decide) with n | n | ⟨x, hx, rfl⟩
    · exact bx_id1 hj (br_f bx_10 (br_t n (bY_b0 hj (br_t rfl (br_t n ⟨rfl, bz_r G⟩)))))
    · have n0 : ¬ v2 < 0 := fun q => absurd (Int32.lt_of_le_of_lt (show (5 : Int32) ≤ v2 from n) q) (by decide)
      have n1 : ¬ v2 < 5 := Int32.not_lt.mpr n
      have n2 : ¬ v2 ≤ 4 := fun q => absurd (Int32.le_trans (show (5 : Int32) ≤ v2 from n) q) (by decide)
      exact bx_id1 hj (br_f bx_10 (br_f n0 (br_f n1 (bY_b0 hj (br_t rfl (br_f n0 (br_f n2 ⟨rfl, bz_r G⟩)))))))
    · have n0 : ¬ nI x < 0 := nI_pos (by omega)
      have n1 : nI x < (5 : Int32) := nI_lt (a := x) (b := 5) hx (by decide)
      have n2 : nI x ≤ (4 : Int32) := nI_le (a := x) (b := 4) (by omega) (by decide)
      refine bx_id1 hj (br_f bx_10 (br_f n0 (br_t n1 ?_)))
      rcases bz_k v3 with ⟨b, hb, rfl⟩ | ⟨b0, b1⟩
      · obtain ⟨r, hX, hY⟩ := bz_fx (kd := kd) (pv := pv) (ld := ld) (bc := bc) (gl := gl) (gc := gc) (rb := rb) (bl := bl) (rs := rs) (zs := zs) (nr := nr) (od := od) (rw := rw) (md := md) (le := le) (bg_zs gl (j * 8) c) (nI b) (v := x) (by omega) 32 0 rfl
        exact bz_x1 hb (bx_zs hj hc e ⟨33, hX _ (bY_b0 hj (br_t rfl (br_f n0 (br_t n2 (bz_y1 hb (bY_zo hj hc e ⟨33, hY _ ⟨rfl, bz_r G⟩⟩))))))⟩)
      · exact br_f b0 (br_f b1 (bY_b0 hj (br_t rfl (br_f n0 (br_t n2 (bz_y0 b0 b1 ⟨rfl, bz_r G⟩))))))
  · exact bx_id0 h0 h1 (br_t rfl (bY_b1 h0 h1 (br_f bx_10 ⟨rfl, bz_r G⟩)))
end BGK
