section BGJ
variable {kd pv ld bc : Int32} {gl gc rb bl : Nat → Int32} {rs : Nat → Int64} {zs nr : Int32} {od rw md le : Nat → Int32}
/-! the highest monomial -/
def bg_sp (d : Bool) (p : Int32) (v : Int32) : Prop := (v = -1 ∧ ∀ m, m < 32 → bt p m = false) ∨ ∃ b, b < 32 ∧ v = nI b ∧ bt p b = true ∧ ∀ m, m < 32 → bt p m = true → bg_rk d m ≤ bg_rk d b
theorem bg_spu {d : Bool} {p v v' : Int32} (h : bg_sp d p v) (h' : bg_sp d p v') : v' = v := by
  rcases h with ⟨e, h⟩ | ⟨b, hb, e, h1, h2⟩
  · rcases h' with ⟨e', _⟩ | ⟨b', hb', _, h1', _⟩
    · rw [e, e']
    · rw [h b' hb'] at h1'
      exact absurd h1' (by decide)
  · rcases h' with ⟨_, h'⟩ | ⟨b', hb', e', h1', h2'⟩
    · rw [h' b hb] at h1
      exact absurd h1 (by decide)
    · have a := h2 b' hb' h1'
      have a' := h2' b hb h1
      have q : bg_rk d b = bg_rk d b' := by omega
      have m := bg_mo_rk d b hb
      rw [q, bg_mo_rk d b' hb'] at m
      rw [e, e', m]
theorem bx_ldi {post : Int32 → Prop} {p : Int32} (hT : ∀ r, r < 32 → rb r = nI (bg_mo true r)) (h : ∀ v, bg_sp (decide (kd = 0)) p v → post v) : ∀ r, r ≤ 32 → (∀ j, r ≤ j → j < 32 → bt p (bg_mo (decide (kd = 0)) j) = false) → wX_leading_3 post p kd pv ld bc gl gc rb rs bl (r + 1) (nI r + (-1)) := by
  intro r
  induction r with
  | zero =>
    intro _ hn
    refine br_t (show nI 0 + (-1) < 0 by decide) (h _ (Or.inl ⟨rfl, fun m hm => ?_⟩))
    have := hn (bg_rk (decide (kd = 0)) m) (Nat.zero_le _) (bg_rk_lt _ m hm)
    rwa [bg_mo_rk _ m hm] at this
  | succ j ih =>
    intro hj hn
    have hj' : j < 32 := by omega
    rw [pk_m1]
    refine br_f (nI_pos (by omega)) (bx_mo hj' hT (bx_hb p (bg_mo_lt _ j hj') (bx_if (fun e => nm_e (ih (by omega) ?_)) (fun e => h _ (Or.inr ⟨_, bg_mo_lt _ j hj', rfl, e, ?_⟩)))))
    · intro i hi hi2
      by_cases q : i = j
      · rw [q]; exact e
      · exact hn i (by omega) hi2
    · intro m hm hb
      rw [bg_rk_mo _ j hj']
      apply Classical.byContradiction
      intro c
      have := hn (bg_rk (decide (kd = 0)) m) (by omega) (bg_rk_lt _ m hm)
      rw [bg_mo_rk _ m hm, hb] at this
      exact absurd this (by decide)
theorem bx_ldg {post : Int32 → Prop} {p : Int32} (hT : ∀ r, r < 32 → rb r = nI (bg_mo true r)) (h : ∀ v, bg_sp (decide (kd = 0)) p v → post v) : wpX_leading post (kd, pv, ld, bc, gl, gc, rb, rs, bl) p := by
  have := bx_ldi (pv := pv) (ld := ld) (bc := bc) (gl := gl) (gc := gc) (bl := bl) (rs := rs) hT h 32 (Nat.le_refl _) (fun j h1 h2 => by omega)
  rw [show nI 32 + (-1) = (31 : Int32) by decide] at this
  exact ⟨33, this⟩
theorem bY_ldg {post : Int32 → Prop} {p : Int32} (h : ∀ v, bg_sp (decide (kd = 0)) p v → post v) : wpY_leading post (kd, zs, nr, gc, gl, od, rw, md, le) p := by
  refine loop_0 (fun n i s => wY_leading_4 post p kd zs nr gc gl od rw md le n s (nI i)) (fun i s => (s = -1 ∧ ∀ m, m < i → bt p m = false) ∨ ∃ b, b < i ∧ s = nI b ∧ bt p b = true ∧ ∀ m, m < i → bt p m = true → bg_rk (decide (kd = 0)) m ≤ bg_rk (decide (kd = 0)) b) 32 (-1) (Or.inl ⟨rfl, fun m hm => absurd hm (Nat.not_lt_zero m)⟩) ?_ ?_
  · intro n s hs
    exact br_t bx_y32 (h s hs)
  · intro n i s hi hs K
    refine br_f (bx_n32 hi) ?_
    rw [bg_sb p hi]
    refine bx_if1 (fun e => ?_) (fun e => nm_r (nI_1 i) (K _ ?_))
    · rcases hs with ⟨q, hn⟩ | ⟨b, hb, q, h1, h2⟩
      · rw [q]
        refine br_t (show (-1 : Int32) < 0 by decide) (nm_r (nI_1 i) (K _ (Or.inr ⟨i, Nat.lt_succ_self i, rfl, e, fun m hm hb => ?_⟩)))
        by_cases c : m = i
        · rw [c]; exact Nat.le_refl _
        · rw [hn m (by omega)] at hb
          exact absurd hb (by decide)
      · rw [q]
        have hb2 : b < 32 := by omega
        refine br_f (nI_pos (by omega)) (bY_lo hb2 hi (bx_if (fun l => nm_r (nI_1 i) (K _ (Or.inr ⟨b, by omega, rfl, h1, fun m hm hbm => ?_⟩))) (fun l => nm_r (nI_1 i) (K _ (Or.inr ⟨i, Nat.lt_succ_self i, rfl, e, fun m hm hbm => ?_⟩)))))
        · by_cases c : m = i
          · rw [bg_lo_rk _ b hb2 i hi] at l
            have l' := of_decide_eq_false l
            rw [c]; omega
          · exact h2 m (by omega) hbm
        · rw [bg_lo_rk _ b hb2 i hi] at l
          have l' := of_decide_eq_true l
          by_cases c : m = i
          · rw [c]; exact Nat.le_refl _
          · have := h2 m (by omega) hbm
            omega
    · rcases hs with ⟨q, hn⟩ | ⟨b, hb, q, h1, h2⟩
      · refine Or.inl ⟨q, fun m hm => ?_⟩
        by_cases c : m = i
        · rw [c]; exact e
        · exact hn m (by omega)
      · refine Or.inr ⟨b, by omega, q, h1, fun m hm hbm => ?_⟩
        by_cases c : m = i
        · rw [c, e] at hbm
          exact absurd hbm (by decide)
        · exact h2 m (by omega) hbm
/-! the reference's questions after work -/
theorem bY_bs {post : Int32 → SY → Prop} {f : Nat → Bool} (hle : ∀ m, m < 32 → le m = bg_i (f m)) (h : post (nI (bg_ct (fun m => f m && !(bg_hd f m m)) 32)) (kd, zs, nr, gc, gl, od, rw, md, le)) : ∃ n, wY_basisSize_19 post kd zs nr gc gl od rw md le n 0 0 := by
  refine loop_0 (fun n i s => wY_basisSize_19 post kd zs nr gc gl od rw md le n s (nI i)) (fun i s => s = nI (bg_ct (fun m => f m && !(bg_hd f m m)) i)) 32 0 rfl ?_ ?_
  · intro n s hs
    exact br_t bx_y32 (by rw [hs]; exact h)
  · intro n i s hi hs K
    subst hs
    refine br_f (bx_n32 hi) (bY_le hle hi (bx_if (fun e => nm_r (nI_1 i) (K _ ?_)) (fun e => nm_r (nI_1 _) (nm_r (nI_1 i) (K _ ?_)))))
    · rw [bg_ctF (f := fun m => f m && !(bg_hd f m m)) e]
    · rw [bg_ctT (f := fun m => f m && !(bg_hd f m m)) e]
theorem bY_sd {post : Int32 → SY → Prop} {f : Nat → Bool} (hle : ∀ m, m < 32 → le m = bg_i (f m)) (h : post (nI (bg_ct (fun m => !(f m)) 32)) (kd, zs, nr, gc, gl, od, rw, md, le)) : ∃ n, wY_standard_19 post kd zs nr gc gl od rw md le n 0 0 := by
  refine loop_0 (fun n i s => wY_standard_19 post kd zs nr gc gl od rw md le n s (nI i)) (fun i s => s = nI (bg_ct (fun m => !(f m)) i)) 32 0 rfl ?_ ?_
  · intro n s hs
    exact br_t bx_y32 (by rw [hs]; exact h)
  · intro n i s hi hs K
    subst hs
    refine br_f (bx_n32 hi) ⟨vp_in_nI hi (by decide), ?_⟩
    rw [nI_clamp (n := i) (by omega), hle i hi]
    refine bx_if (fun e => nm_r (nI_1 _) (nm_r (nI_1 i) (K _ ?_))) (fun e => nm_r (nI_1 i) (K _ ?_))
    · rw [bg_ctT (f := fun m => !(f m)) (by rw [e]; rfl)]
    · rw [bg_ctF (f := fun m => !(f m)) (by rw [e]; rfl)]
theorem bY_ba {post : Int32 → SY → Prop} {P : Int32} {R : Nat → Int64} {q : Nat} {d : Bool} {f : Nat → Bool} {p1 v : Int32} (hq : q ≤ 32) (I : bg_IV P R) (H : bg_Y P R q rw md) (hod : ∀ r, r < 32 → od r = nI (bg_mo d r)) (hle : ∀ m, m < 32 → le m = bg_i (f m))
    (hv : ∀ r, r < 32 → (f (bg_mo d r) && !(bg_hd f (bg_mo d r) (bg_mo d r))) = true → nI (bg_ct (fun r => f (bg_mo d r) && !(bg_hd f (bg_mo d r) (bg_mo d r))) r) = p1 → bg_b (bg_mo d r) ^^^ bg_h (bg_rx P R (bg_m 0 (bg_x (bg_b (bg_mo d r)) &&& zs)) 32) = v)
    (hv0 : (∀ r, r < 32 → (f (bg_mo d r) && !(bg_hd f (bg_mo d r) (bg_mo d r))) = true → ¬ nI (bg_ct (fun r => f (bg_mo d r) && !(bg_hd f (bg_mo d r) (bg_mo d r))) r) = p1) → v = 0)
    (h : post v (kd, zs, nI q, gc, gl, od, rw, md, le)) : ∃ n, wY_basis_20 post p1 kd zs (nI q) gc gl od rw md le n 0 0 := by
  refine loop_0 (fun n i s => wY_basis_20 post p1 kd zs (nI q) gc gl od rw md le n s (nI i)) (fun i s => s = nI (bg_ct (fun r => f (bg_mo d r) && !(bg_hd f (bg_mo d r) (bg_mo d r))) i) ∧ ∀ r, r < i → (f (bg_mo d r) && !(bg_hd f (bg_mo d r) (bg_mo d r))) = true → ¬ nI (bg_ct (fun r => f (bg_mo d r) && !(bg_hd f (bg_mo d r) (bg_mo d r))) r) = p1) 32 0 ⟨rfl, fun r hr => absurd hr (Nat.not_lt_zero r)⟩ ?_ ?_
  · intro n s hs
    refine br_t bx_y32 ?_
    rw [hv0 hs.2] at h
    exact h
  · intro n i s hi hs K
    obtain ⟨h1, h2⟩ := hs
    subst h1
    have hm := bg_mo_lt d i hi
    refine br_f (bx_n32 hi) ⟨vp_in_nI hi (by decide), nm_r (e' := nI (bg_mo d i)) (by rw [nI_clamp (by omega)]; exact hod i hi) (bY_le hle hm (bx_if (fun e => nm_r (nI_1 i) (K _ ⟨?_, ?_⟩)) (fun e => br_c (fun c => bY_rd hq I H _ ?_) (fun c => nm_r (nI_1 _) (nm_r (nI_1 i) (K _ ⟨?_, ?_⟩))))))⟩
    · rw [bg_ctF (f := fun r => f (bg_mo d r) && !(bg_hd f (bg_mo d r) (bg_mo d r))) e]
    · intro r hr hf
      by_cases c : r = i
      · rw [c, e] at hf
        exact absurd hf (by decide)
      · exact h2 r (by omega) hf
    · have := hv i hi e c
      rw [← this] at h
      exact h
    · rw [bg_ctT (f := fun r => f (bg_mo d r) && !(bg_hd f (bg_mo d r) (bg_mo d r))) e]
    · intro r hr hf
      by_cases c2 : r = i
      · rw [c2]; exact c
      · exact h2 r (by omega) hf
theorem bg_ct_ex {f : Nat → Bool} {t : Nat} : ∀ n, t < bg_ct f n → ∃ r, r < n ∧ f r = true ∧ bg_ct f r = t := by
  intro n
  induction n with
  | zero => intro h; exact absurd h (Nat.not_lt_zero t)
  | succ n ih =>
    intro h
    by_cases c : t < bg_ct f n
    · obtain ⟨r, hr, h1, h2⟩ := ih c
      exact ⟨r, by omega, h1, h2⟩
    · cases e : f n
      · rw [bg_ctF e] at h
        exact absurd h c
      · rw [bg_ctT e] at h
        exact ⟨n, by omega, e, by omega⟩
/-! taking a generator out -/
def bg_sh (b : Nat) : Nat → Nat → (Nat → Int32) → (Nat → Int32)
  | 0, _, g => g
  | f + 1, i, g => bg_sh b f (i + 1) (upd g (b + i) (g (b + i + 1)))
theorem bx_rt {post : Int32 → SX → Prop} {k c : Nat} (hk : k < 2) (hc : c < 8) : ∀ (f j : Nat) (g : Nat → Int32), j + f = c → post (nI c) (kd, pv, ld, bc, bg_sh (k * 8) f j g, upd gc k (nI c), rb, rs, bl) → wX_retract_39 post (nI k) (nI c) (nI (k * 8)) kd pv ld bc (f + 1) (nI j) g gc rb rs bl := by
  intro f
  induction f with
  | zero =>
    intro j g hj h
    refine br_t (nI_le (by omega) (by omega)) ⟨vp_in_nI hk (by decide), nm_r (e' := upd gc k (nI c)) (by rw [nI_clamp (by omega)]) h⟩
  | succ f ih =>
    intro j g hj h
    have e1 : nI (k * 8) + nI j = nI (k * 8 + j) := nI_add _ _
    refine br_f (nI_ge (by omega) (by omega)) ⟨by rw [e1, nI_1]; exact vp_in_nI (by omega) (by decide), by rw [e1]; exact vp_in_nI (by omega) (by decide), nm_r (e' := upd g (k * 8 + j) (g (k * 8 + j + 1))) (by rw [e1, nI_1, nI_clamp (by omega), nI_clamp (by omega)]) (nm_r (nI_1 j) (ih (j + 1) _ (by omega) h))⟩
theorem bY_rt {post : Int32 → SY → Prop} {k c : Nat} (hk : k < 2) (hc : c < 8) (e : gc k = nI (c + 1)) : ∀ (f j : Nat) (g : Nat → Int32), j + f = c → post (nI c) (kd, zs, nr, upd gc k (nI c), bg_sh (k * 8) f j g, od, rw, md, le) → wY_retract_29 post (nI k) kd zs nr (f + 1) (nI j) gc g od rw md le := by
  have ek : gc (nI k).toNatClampNeg - 1 = nI c := by rw [nI_clamp (by omega), e, nI_pred]
  intro f
  induction f with
  | zero =>
    intro j g hj h
    refine ⟨vp_in_nI hk (by decide), br_t (by rw [ek]; exact nI_le (by omega) (by omega)) ⟨vp_in_nI hk (by decide), vp_in_nI hk (by decide), nm_r (e' := upd gc k (nI c)) (by rw [ek, nI_clamp (by omega)]) ⟨vp_in_nI hk (by decide), ?_⟩⟩⟩
    rw [nI_clamp (n := k) (by omega), pk_us]
    exact h
  | succ f ih =>
    intro j g hj h
    refine ⟨vp_in_nI hk (by decide), br_f (by rw [ek]; exact nI_ge (by omega) (by omega)) (br_f (show ¬ (7 : Int32) ≤ nI j from nI_ge (b := 7) (by omega) (by decide)) ⟨by rw [bx_8k, nI_1]; exact vp_in_nI (by omega) (by decide), by rw [bx_8k]; exact vp_in_nI (by omega) (by decide), nm_r (e' := upd g (k * 8 + j) (g (k * 8 + j + 1))) (by rw [bx_8k, nI_1, nI_clamp (by omega), nI_clamp (by omega)]) (nm_r (nI_1 j) (ih (j + 1) _ (by omega) h))⟩)⟩
/-! two scans in step -/
theorem bz_nz (z a : Int32) : ∀ d j : Nat, j + d = 32 → ∃ r : Int32, (∀ post : Int32 → Prop, post r → wX_nextZero_18 post a z kd pv ld bc gl gc rb rs bl (d + 1) (nI j)) ∧ (∀ post : Int32 → Prop, post r → wY_nextZero_19 post a z kd zs nr gc gl od rw md le (d + 1) (nI j)) := by
  intro d
  induction d with
  | zero =>
    intro j hj
    have e : j = 32 := by omega
    subst e
    exact ⟨-2, fun _ hp => br_t bx_y32 hp, fun _ hp => br_t bx_y32 hp⟩
  | succ d ih =>
    intro j hj
    have hj2 : j < 32 := by omega
    obtain ⟨r, hX, hY⟩ := ih (j + 1) (by omega)
    by_cases c : nI j ≤ a
    · exact ⟨r, fun post hp => br_f (bx_n32 hj2) (br_t c (nm_r (nI_1 j) (hX post hp))), fun post hp => br_f (bx_n32 hj2) (br_t c (nm_r (nI_1 j) (hY post hp)))⟩
    · cases e : bt z j
      · refine ⟨r, fun post hp => br_f (bx_n32 hj2) (br_f c (bx_hb z hj2 ?_)), fun post hp => br_f (bx_n32 hj2) (br_f c ?_)⟩
        · rw [e]; exact br_t rfl (nm_r (nI_1 j) (hX post hp))
        · rw [bg_sb z hj2, e]; exact br_f (by decide) (nm_r (nI_1 j) (hY post hp))
      · refine ⟨nI j, fun post hp => br_f (bx_n32 hj2) (br_f c (bx_hb z hj2 ?_)), fun post hp => br_f (bx_n32 hj2) (br_f c ?_)⟩
        · rw [e]; exact br_f (by decide) hp
        · rw [bg_sb z hj2, e]; exact br_t (by decide) hp
theorem bz_fx (z b : Int32) {v : Nat} (hv : v < 32) : ∀ d j : Nat, j + d = 32 → ∃ r : Int32, (∀ post : Int32 → Prop, post r → wX_fixed_43 post (nI v) b z kd pv ld bc gl gc rb rs bl (d + 1) (nI j)) ∧ (∀ post : Int32 → Prop, post r → wY_fixed_44 post (nI v) b z kd zs nr gc gl od rw md le (d + 1) (nI j)) := by
  intro d
  induction d with
  | zero =>
    intro j hj
    have e : j = 32 := by omega
    subst e
    exact ⟨1, fun _ hp => br_t bx_y32 hp, fun _ hp => br_t bx_y32 hp⟩
  | succ d ih =>
    intro j hj
    have hj2 : j < 32 := by omega
    obtain ⟨r, hX, hY⟩ := ih (j + 1) (by omega)
    cases e : bt z j
    · refine ⟨r, fun post hp => br_f (bx_n32 hj2) (bx_hb z hj2 ?_), fun post hp => br_f (bx_n32 hj2) ?_⟩
      · rw [e]; exact br_t rfl (nm_r (nI_1 j) (hX post hp))
      · rw [bg_sb z hj2, e]; exact br_f (by decide) (nm_r (nI_1 j) (hY post hp))
    · by_cases c : bg_i (bt (nI j) v) = b
      · refine ⟨r, fun post hp => br_f (bx_n32 hj2) (bx_hb z hj2 ?_), fun post hp => br_f (bx_n32 hj2) ?_⟩
        · rw [e]; refine br_f (by decide) (br_t ?_ (nm_r (nI_1 j) (hX post hp)))
          rw [bg_hb (nI j) hv]; exact c
        · rw [bg_sb z hj2, e]; refine br_t (by decide) (br_t ?_ (nm_r (nI_1 j) (hY post hp)))
          rw [bg_sb (nI j) hv]; exact c
      · refine ⟨0, fun post hp => br_f (bx_n32 hj2) (bx_hb z hj2 ?_), fun post hp => br_f (bx_n32 hj2) ?_⟩
        · rw [e]; refine br_f (by decide) (br_f ?_ hp)
          rw [bg_hb (nI j) hv]; exact c
        · rw [bg_sb z hj2, e]; refine br_t (by decide) (br_f ?_ hp)
          rw [bg_sb (nI j) hv]; exact c
theorem bz_wi (a b : Int32) : a &&& (b ^^^ (-1)) = 0 ↔ a &&& b = a := by
  constructor
  · intro h
    apply b_ext
    intro i hi
    have : bt (a &&& (b ^^^ (-1))) i = bt 0 i := by rw [h]
    rw [b_and, b_xor, b_m1 i hi, b_0] at this
    rw [b_and]
    cases x : bt a i <;> cases y : bt b i <;> rw [x, y] at this <;> first | rfl | exact absurd this (by decide)
  · intro h
    apply b_ext
    intro i hi
    have : bt (a &&& b) i = bt a i := by rw [h]
    rw [b_and] at this
    rw [b_and, b_xor, b_m1 i hi, b_0]
    cases x : bt a i <;> cases y : bt b i <;> rw [x, y] at this <;> first | rfl | exact absurd this (by decide)
end BGJ
