/-! the relation; set, fill, coefficient, degree, copy, add, value -/
/-- the pieces that are left from earlier calls are residues -/
def ss_P (x y : Nat → Int32) : Prop := (∃ g, x = ss_em g) ∧ ∃ g, y = ss_em g
def i_Rel (_ : Nat) (u : SX) (v : SY) : Prop := ∃ (f : Nat → ss_F) (le ri re ot sl lp rp lW rW pt lL rL pL m : Nat → Int32), u = (ss_em f, le, ri, re, ot, sl, lp, rp, lW, rW, pt, lL, rL, pL) ∧ v = (ss_em f, m) ∧ ss_P lp rp
theorem ss_R {k : Nat} {f : Nat → ss_F} {le ri re ot sl lp rp lW rW pt lL rL pL : Nat → Int32} {m : Nat → Int32} (hP : ss_P lp rp) : i_Rel k (ss_em f, le, ri, re, ot, sl, lp, rp, lW, rW, pt, lL, rL, pL) (ss_em f, m) := ⟨f, le, ri, re, ot, sl, lp, rp, lW, rW, pt, lL, rL, pL, m, rfl, rfl, hP⟩
theorem i_up {k : Nat} {u : SX} {v : SY} (h : i_Rel k u v) : i_Rel (k + 5) u v := h
theorem i_vc0 : wpX_init (fun u => wpY_init (fun v => i_Rel 0 u v)) := by
  unfold wpX_init wpY_init
  exact ⟨fun _ => 0, _, _, _, _, _, _, _, _, _, _, _, _, _, _, by rw [← ss_em_0], by rw [← ss_em_0], ⟨_, ss_em_0⟩, ⟨_, ss_em_0⟩⟩
/-! set -/
theorem ss_X_set {post : Int32 → SX → Prop} {f : Nat → ss_F} {le ri re ot sl lp rp lW rW pt lL rL pL : Nat → Int32} {s i : Nat} (hs : s < 5) (hi : i < 32) (v : Int32) (p : post 1 (ss_em (ss_u f (32 * s + i) (ss_z v.toInt)), le, ri, re, ot, sl, lp, rp, lW, rW, pt, lL, rL, pL)) : wpX_set post (ss_em f, le, ri, re, ot, sl, lp, rp, lW, rW, pt, lL, rL, pL) (nI s) (nI i) v := by
  unfold wpX_set
  refine ss_XserT hs (br_f ss_10 (ss_XplcT hi (br_f ss_10 (ss_Xr (ss_LV_any v) ⟨?_, nm_r ?_ p⟩))))
  · rw [ss_ix]
    exact ss_in160 hs hi
  · rw [ss_ix, ss_cl160 hs hi, ss_em_u]
theorem ss_Y_set {post : Int32 → SY → Prop} {f : Nat → ss_F} {m : Nat → Int32} {s i : Nat} (hs : s < 5) (hi : i < 32) (v : Int32) (p : post 1 (ss_em (ss_u f (32 * s + i) (ss_z v.toInt)), m)) : wpY_set post (ss_em f, m) (nI s) (nI i) v := by
  unfold wpY_set
  refine ss_YserT hs (br_f ss_10 (ss_YplcT hi (br_f ss_10 (ss_Yr (ss_LV_any v) ⟨?_, nm_r ?_ p⟩))))
  · rw [ss_iy]
    exact ss_in160 hs hi
  · rw [ss_iy, ss_cl160 hs hi, ss_em_u]
theorem i_vc_set {k : Nat} {u : SX} {v : SY} (I : i_Rel k u v) (hk : k + 5 ≤ 2560) (v1 : Int32) (v2 : Int32) (v3 : Int32) : wpX_set (fun r u' => wpY_set (fun r' v' => r' = r ∧ i_Rel (k + 5) u' v') v v1 v2 v3) u v1 v2 v3 := by
  obtain ⟨f, le, ri, re, ot, sl, lp, rp, lW, rW, pt, lL, rL, pL, m, rfl, rfl, hP⟩ := I
  rcases ss_ser v1 with h | ⟨s, hs, rfl⟩
  · unfold wpX_set wpY_set
    exact ss_XserF h (br_t rfl (ss_YserF h (br_t rfl ⟨rfl, ss_R hP⟩)))
  · rcases ss_plc v2 with h | ⟨i, hi, rfl⟩
    · unfold wpX_set wpY_set
      exact ss_XserT hs (br_f ss_10 (ss_XplcF h (br_t rfl (ss_YserT hs (br_f ss_10 (ss_YplcF h (br_t rfl ⟨rfl, ss_R hP⟩)))))))
    · exact ss_X_set hs hi v3 (ss_Y_set hs hi v3 ⟨rfl, ss_R hP⟩)
/-! fill -/
def ss_fl (r : ss_F) : Nat → (Nat → ss_F) → Nat → ss_F → Nat → ss_F
  | 0, f, _, _ => f
  | d + 1, f, b, t => ss_fl r d (ss_u f b t) (b + 1) (t * r)
theorem ss_X_fill_lp {post : Int32 → SX → Prop} {s : Nat} (hs : s < 5) {r : ss_F} {le ri re ot sl lp rp lW rW pt lL rL pL : Nat → Int32} : ∀ d i f t, i + d = 32 → post 1 (ss_em (ss_fl r d f (32 * s + i) t), le, ri, re, ot, sl, lp, rp, lW, rW, pt, lL, rL, pL) → wX_fill_34 post (nI s) (ss_e r) (d + 1) (ss_e t) (nI i) (ss_em f) le ri re ot sl lp rp lW rW pt lL rL pL := by
  intro d
  induction d with
  | zero =>
    intro i f t hi p
    have : i = 32 := by omega
    subst this
    exact br_t (by decide) p
  | succ d ih =>
    intro i f t hi p
    refine br_f (nI_ge (b := 32) (by omega) (by decide)) ⟨?_, nm_r (e' := ss_em (ss_u f (32 * s + i) t)) ?_ ⟨ss_pI, nm_r (ss_NV_rem (ss_NV_mul (ss_NV_e t) (ss_NV_e r))) (nm_r (nI_1 i) (ih (i + 1) _ _ (by omega) p))⟩⟩
    · rw [ss_ix]
      exact ss_in160 hs (by omega)
    · rw [ss_ix, ss_cl160 hs (by omega), ss_em_u]
theorem ss_Y_fill_lp {post : Int32 → SY → Prop} {s : Nat} (hs : s < 5) {m : Nat → Int32} (w : Int32) : ∀ d i f t, i + d = 32 → post 1 (ss_em (ss_fl (ss_z w.toInt) d f (32 * s + i) t), m) → wY_fill_29 post (nI s) w (d + 1) (ss_e t) (nI i) (ss_em f) m := by
  intro d
  induction d with
  | zero =>
    intro i f t hi p
    have : i = 32 := by omega
    subst this
    exact br_t (by decide) p
  | succ d ih =>
    intro i f t hi p
    refine br_f (nI_ge (b := 32) (by omega) (by decide)) ⟨?_, nm_r (e' := ss_em (ss_u f (32 * s + i) t)) ?_ (ss_Yr (ss_LV_any w) (ss_Yr (ss_LV_mul (ss_LVe t) (ss_LVe _)) (nm_r (nI_1 i) (ih (i + 1) _ _ (by omega) p))))⟩
    · rw [ss_iy]
      exact ss_in160 hs (by omega)
    · rw [ss_iy, ss_cl160 hs (by omega), ss_em_u]
theorem i_vc_fill {k : Nat} {u : SX} {v : SY} (I : i_Rel k u v) (hk : k + 5 ≤ 2560) (v1 : Int32) (v2 : Int32) (v3 : Int32) (v4 : Int32) : wpX_fill (fun r u' => wpY_fill (fun r' v' => r' = r ∧ i_Rel (k + 5) u' v') v v1 v2 v3 v4) u v1 v2 v3 v4 := by
  obtain ⟨f, le, ri, re, ot, sl, lp, rp, lW, rW, pt, lL, rL, pL, m, rfl, rfl, hP⟩ := I
  rcases ss_ser v1 with h | ⟨s, hs, rfl⟩
  · unfold wpX_fill wpY_fill
    exact ss_XserF h (br_t rfl (ss_YserF h (br_t rfl ⟨rfl, ss_R hP⟩)))
  · rcases ss_plc v2 with h | ⟨i, hi, rfl⟩
    · unfold wpX_fill wpY_fill
      exact ss_XserT hs (br_f ss_10 (ss_XplcF h (br_t rfl (ss_YserT hs (br_f ss_10 (ss_YplcF h (br_t rfl ⟨rfl, ss_R hP⟩)))))))
    · unfold wpX_fill
      refine ss_XserT hs (br_f ss_10 (ss_XplcT hi (br_f ss_10 (ss_Xr (ss_LV_any v3) (ss_Xr (ss_LV_any v4) ⟨32 - i + 1, ss_X_fill_lp hs (32 - i) i _ _ (by omega) ?_⟩)))))
      unfold wpY_fill
      exact ss_YserT hs (br_f ss_10 (ss_YplcT hi (br_f ss_10 (ss_Yr (ss_LV_any v3) ⟨32 - i + 1, ss_Y_fill_lp hs v4 (32 - i) i _ _ (by omega) ⟨rfl, ss_R hP⟩⟩))))
/-! coefficient -/
theorem i_vc_coefficient {k : Nat} {u : SX} {v : SY} (I : i_Rel k u v) (hk : k + 5 ≤ 2560) (v1 : Int32) (v2 : Int32) : wpX_coefficient (fun r => wpY_coefficient (fun r' => r' = r ∧ i_Rel (k + 5) u v) v v1 v2) u v1 v2 := by
  obtain ⟨f, le, ri, re, ot, sl, lp, rp, lW, rW, pt, lL, rL, pL, m, rfl, rfl, hP⟩ := I
  rcases ss_ser v1 with h | ⟨s, hs, rfl⟩
  · unfold wpX_coefficient wpY_coefficient
    exact ss_XserF h (br_t rfl (ss_YserF h (br_t rfl ⟨rfl, ss_R hP⟩)))
  · rcases ss_plc v2 with h | ⟨i, hi, rfl⟩
    · unfold wpX_coefficient wpY_coefficient
      exact ss_XserT hs (br_f ss_10 (ss_XplcF h (br_t rfl (ss_YserT hs (br_f ss_10 (ss_YplcF h (br_t rfl ⟨rfl, ss_R hP⟩)))))))
    · unfold wpX_coefficient wpY_coefficient
      refine ss_XserT hs (br_f ss_10 (ss_XplcT hi (br_f ss_10 ⟨?_, ss_YserT hs (br_f ss_10 (ss_YplcT hi (br_f ss_10 (ss_Yat hs hi ⟨?_, ss_R hP⟩))))⟩)))
      · rw [ss_ix]
        exact ss_in160 hs hi
      · rw [ss_ix, ss_cl160 hs hi]
        rfl
/-! degree -/
theorem ss_Y_deg_lp {post : Int32 → Prop} {f : Nat → ss_F} {m : Nat → Int32} {s : Nat} (hs : s < 5) : ∀ k y, k ≤ 32 → y = ss_m k → post (ss_m (ss_d (ss_g f s) k)) → wY_degree_14 post (nI s) (ss_em f) m (k + 1) y := by
  intro k
  induction k with
  | zero =>
    intro y _ hy p
    subst hy
    exact br_t (by decide) p
  | succ k ih =>
    intro y hk hy p
    subst hy
    rw [ss_m_s]
    have p' : post (ss_m (if ss_g f s k = 0 then ss_d (ss_g f s) k else k + 1)) := p
    refine br_f (nI_pos (by omega)) (ss_Yat hs (by omega) ?_)
    by_cases z : ss_g f s k = 0
    · rw [if_pos z] at p'
      exact br_t (by rw [z]; exact ss_e0) (nm_e (ih _ (by omega) rfl p'))
    · rw [if_neg z, ss_m_s] at p'
      exact br_f (fun h => z ((ss_e_eq0 _).mp h)) p'
theorem ss_Y_deg {post : Int32 → Prop} {f : Nat → ss_F} {m : Nat → Int32} {s : Nat} (hs : s < 5) (p : post (ss_m (ss_d (ss_g f s) 32))) : wpY_degree post (ss_em f, m) (nI s) := by
  unfold wpY_degree
  exact ss_YserT hs (br_f ss_10 ⟨33, ss_Y_deg_lp hs 32 31 (Nat.le_refl 32) (by decide) p⟩)
theorem i_vc_degree {k : Nat} {u : SX} {v : SY} (I : i_Rel k u v) (hk : k + 5 ≤ 2560) (v1 : Int32) : wpX_degree (fun r u' => wpY_degree (fun r' => r' = r ∧ i_Rel (k + 5) u' v) v v1) u v1 := by
  obtain ⟨f, le, ri, re, ot, sl, lp, rp, lW, rW, pt, lL, rL, pL, m, rfl, rfl, hP⟩ := I
  rcases ss_ser v1 with h | ⟨s, hs, rfl⟩
  · unfold wpX_degree wpY_degree
    exact ss_XserF h (br_t rfl (ss_YserF h (br_t rfl ⟨rfl, ss_R hP⟩)))
  · unfold wpX_degree
    exact ss_XserT hs (br_f ss_10 (ss_ld_left hs (fun x hx => ss_lz_left hx (ss_Y_deg hs ⟨rfl, ss_R hP⟩))))
/-! copy -/
theorem ss_b_t (f : Nat → ss_F) {s t i : Nat} (hi : i < 32) (g : Nat → ss_F) : ss_g (ss_b f s i g) t i = ss_g f t i := by
  show (if 32 * s ≤ 32 * t + i ∧ 32 * t + i < 32 * s + i then _ else _) = _
  rw [if_neg (by omega)]
  rfl
theorem ss_Y_copy_lp {post : Int32 → SY → Prop} {f : Nat → ss_F} {m : Nat → Int32} {s t : Nat} (hs : s < 5) (ht : t < 5) (p : post 1 (ss_em (ss_b f s 32 (ss_g f t)), m)) : ∀ d i, i + d = 32 → wY_copy_20 post (nI s) (nI t) (d + 1) (nI i) (ss_em (ss_b f s i (ss_g f t))) m := by
  intro d
  induction d with
  | zero =>
    intro i hi
    have : i = 32 := by omega
    subst this
    exact br_t (by decide) p
  | succ d ih =>
    intro i hi
    refine br_f (nI_ge (b := 32) (by omega) (by decide)) (ss_Yat ht (by omega) ⟨?_, nm_r (e' := ss_em (ss_b f s (i + 1) (ss_g f t))) ?_ (nm_r (nI_1 i) (ih (i + 1) (by omega)))⟩)
    · rw [ss_iy]
      exact ss_in160 hs (by omega)
    · rw [ss_iy, ss_cl160 hs (by omega), ss_em_u, ss_b_t f (by omega), ss_bs]
theorem i_vc_copy {k : Nat} {u : SX} {v : SY} (I : i_Rel k u v) (hk : k + 5 ≤ 2560) (v1 : Int32) (v2 : Int32) : wpX_copy (fun r u' => wpY_copy (fun r' v' => r' = r ∧ i_Rel (k + 5) u' v') v v1 v2) u v1 v2 := by
  obtain ⟨f, le, ri, re, ot, sl, lp, rp, lW, rW, pt, lL, rL, pL, m, rfl, rfl, hP⟩ := I
  rcases ss_ser v1 with h | ⟨s, hs, rfl⟩
  · unfold wpX_copy wpY_copy
    exact ss_XserF h (br_t rfl (ss_YserF h (br_t rfl ⟨rfl, ss_R hP⟩)))
  · rcases ss_ser v2 with h | ⟨t, ht, rfl⟩
    · unfold wpX_copy wpY_copy
      exact ss_XserT hs (br_f ss_10 (ss_XserF h (br_t rfl (ss_YserT hs (br_f ss_10 (ss_YserF h (br_t rfl ⟨rfl, ss_R hP⟩)))))))
    · unfold wpX_copy
      refine ss_XserT hs (br_f ss_10 (ss_XserT ht (br_f ss_10 (ss_ld_left ht (fun x hx => ss_st_left hs hx ?_)))))
      unfold wpY_copy
      have k := ss_Y_copy_lp (post := fun r' v' => r' = 1 ∧ i_Rel (k + 5) (ss_em (ss_b f s 32 (ss_g f t)), x, ri, re, ot, sl, lp, rp, lW, rW, pt, lL, rL, pL) v') (f := f) (m := m) hs ht ⟨rfl, ss_R hP⟩ 32 0 rfl
      rw [ss_b0] at k
      exact ss_YserT hs (br_f ss_10 (ss_YserT ht (br_f ss_10 ⟨33, k⟩)))
/-! add -/
def ss_ad (f : Nat → ss_F) (s t : Nat) (v : ss_F) : Nat → ss_F := fun n => ss_g f s n + v * ss_g f t n
theorem ss_X_add_lp {post : Int32 → SX → Prop} {f : Nat → ss_F} {s t : Nat} (hs : s < 5) (ht : t < 5) {v : ss_F} {le ri re ot sl lp rp lW rW pt lL rL pL : Nat → Int32} (p : post 1 (ss_em (ss_b f s 32 (ss_ad f s t v)), le, ri, re, ot, sl, lp, rp, lW, rW, pt, lL, rL, pL)) : ∀ d i, i + d = 32 → wX_add_26 post (nI s) (nI t) (ss_e v) (d + 1) (nI i) (ss_em (ss_b f s i (ss_ad f s t v))) le ri re ot sl lp rp lW rW pt lL rL pL := by
  intro d
  induction d with
  | zero =>
    intro i hi
    have : i = 32 := by omega
    subst this
    exact br_t (by decide) p
  | succ d ih =>
    intro i hi
    have e1 : ss_em (ss_b f s i (ss_ad f s t v)) (nI (32 * s + i)).toNatClampNeg = ss_e (ss_g f s i) := by
      rw [ss_cl160 hs (by omega)]
      exact congrArg ss_e (ss_b_t f (by omega) _)
    have e2 : ss_em (ss_b f s i (ss_ad f s t v)) (nI t * 32 + nI i).toNatClampNeg = ss_e (ss_g f t i) := by
      rw [ss_ix, ss_cl160 ht (by omega)]
      exact congrArg ss_e (ss_b_t f (by omega) _)
    refine br_f (nI_ge (b := 32) (by omega) (by decide)) (nm_r (ss_ix s i) ⟨ss_in160 hs (by omega), ?_, ss_pI, ss_in160 hs (by omega), nm_r (e' := ss_em (ss_b f s (i + 1) (ss_ad f s t v))) ?_ (nm_r (nI_1 i) (ih (i + 1) (by omega)))⟩)
    · rw [ss_ix]
      exact ss_in160 ht (by omega)
    · rw [e1, e2, ss_NV_rem (ss_NV_add (ss_NV_e (ss_g f s i)) (ss_NV_mul (ss_NV_e v) (ss_NV_e (ss_g f t i)))), ss_cl160 hs (by omega), ss_em_u, ← ss_bs]
      rfl
theorem ss_Y_add_lp {post : Int32 → SY → Prop} {f : Nat → ss_F} {s t : Nat} (hs : s < 5) (ht : t < 5) (v : Int32) (p : ∀ m, post 1 (ss_em (ss_b f s 32 (ss_ad f s t (ss_z v.toInt))), m)) : ∀ d i m, i + d = 32 → ss_A m (ss_ad f s t (ss_z v.toInt)) i → wY_add_21 post (nI s) (nI t) v (d + 1) (nI i) (ss_em f) m := by
  intro d
  induction d with
  | zero =>
    intro i m hi hA
    have : i = 32 := by omega
    subst this
    exact br_t (by decide) (ss_tk hs hA (p m))
  | succ d ih =>
    intro i m hi hA
    refine br_f (nI_ge (b := 32) (by omega) (by decide)) (ss_Yat hs (by omega) (ss_Yr (ss_LV_any v) (ss_Yat ht (by omega) (ss_Yr (ss_LV_add (ss_LVe _) (ss_LV_mul (ss_LVe _) (ss_LVe _))) ⟨vp_in_nI (by omega) (by decide), nm_e (nm_r (nI_1 i) (ih (i + 1) _ (by omega) ?_))⟩))))
    rw [ss_ci (by omega)]
    exact ss_A_s hA rfl
theorem i_vc_add {k : Nat} {u : SX} {v : SY} (I : i_Rel k u v) (hk : k + 5 ≤ 2560) (v1 : Int32) (v2 : Int32) (v3 : Int32) : wpX_add (fun r u' => wpY_add (fun r' v' => r' = r ∧ i_Rel (k + 5) u' v') v v1 v2 v3) u v1 v2 v3 := by
  obtain ⟨f, le, ri, re, ot, sl, lp, rp, lW, rW, pt, lL, rL, pL, m, rfl, rfl, hP⟩ := I
  rcases ss_ser v1 with h | ⟨s, hs, rfl⟩
  · unfold wpX_add wpY_add
    exact ss_XserF h (br_t rfl (ss_YserF h (br_t rfl ⟨rfl, ss_R hP⟩)))
  · rcases ss_ser v2 with h | ⟨t, ht, rfl⟩
    · unfold wpX_add wpY_add
      exact ss_XserT hs (br_f ss_10 (ss_XserF h (br_t rfl (ss_YserT hs (br_f ss_10 (ss_YserF h (br_t rfl ⟨rfl, ss_R hP⟩)))))))
    · unfold wpX_add
      have key : ∀ post : Int32 → SX → Prop, post 1 (ss_em (ss_b f s 32 (ss_ad f s t (ss_z v3.toInt))), le, ri, re, ot, sl, lp, rp, lW, rW, pt, lL, rL, pL) → wX_add_26 post (nI s) (nI t) (ss_e (ss_z v3.toInt)) 33 (nI 0) (ss_em f) le ri re ot sl lp rp lW rW pt lL rL pL := by
        intro post p
        have k := ss_X_add_lp (f := f) (v := ss_z v3.toInt) hs ht p 32 0 rfl
        rw [ss_b0] at k
        exact k
      refine ss_XserT hs (br_f ss_10 (ss_XserT ht (br_f ss_10 (ss_Xr (ss_LV_any v3) ⟨33, key _ ?_⟩))))
      unfold wpY_add
      exact ss_YserT hs (br_f ss_10 (ss_YserT ht (br_f ss_10 ⟨33, ss_Y_add_lp hs ht v3 (fun m => ⟨rfl, ss_R hP⟩) 32 0 m rfl (ss_A_0 _ _)⟩)))
/-! value -/
theorem ss_Y_val_lp {post : Int32 → Prop} {f : Nat → ss_F} {m : Nat → Int32} {s : Nat} (hs : s < 5) (x : Int32) (p : post (ss_e (ss_v 32 (ss_g f s) (ss_z x.toInt)))) : ∀ k y, k ≤ 32 → y = ss_m k → wY_value_17 post (nI s) x (ss_em f) m (k + 1) (ss_e (ss_h (ss_g f s) (ss_z x.toInt) k)) y := by
  intro k
  induction k with
  | zero =>
    intro y _ hy
    subst hy
    rw [ss_h0]
    exact br_t (by decide) p
  | succ k ih =>
    intro y hk hy
    subst hy
    rw [ss_m_s]
    refine br_f (nI_pos (by omega)) (ss_Yr (ss_LV_any x) (ss_Yat hs (by omega) (ss_Yr (ss_LV_add (ss_LV_mul (ss_LVe _) (ss_LVe _)) (ss_LVe _)) (nm_e ?_))))
    rw [← ss_hs (ss_g f s) (ss_z x.toInt) (k := k) (by omega)]
    exact ih _ (by omega) rfl
theorem i_vc_value {k : Nat} {u : SX} {v : SY} (I : i_Rel k u v) (hk : k + 5 ≤ 2560) (v1 : Int32) (v2 : Int32) : wpX_value (fun r u' => wpY_value (fun r' => r' = r ∧ i_Rel (k + 5) u' v) v v1 v2) u v1 v2 := by
  obtain ⟨f, le, ri, re, ot, sl, lp, rp, lW, rW, pt, lL, rL, pL, m, rfl, rfl, hP⟩ := I
  rcases ss_ser v1 with h | ⟨s, hs, rfl⟩
  · unfold wpX_value wpY_value
    exact ss_XserF h (br_t rfl (ss_YserF h (br_t rfl ⟨rfl, ss_R hP⟩)))
  · unfold wpX_value
    refine ss_XserT hs (br_f ss_10 (ss_ld_left hs (fun x hx => ss_Xr (ss_LV_any v2) (ss_va_left hx ?_))))
    unfold wpY_value
    exact ss_YserT hs (br_f ss_10 ⟨33, ss_Y_val_lp hs v2 ⟨rfl, ss_R hP⟩ 32 31 (Nat.le_refl 32) (by decide)⟩)
