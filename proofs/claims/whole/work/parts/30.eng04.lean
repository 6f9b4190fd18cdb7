/-! the reference's product; the component's columns and big numbers -/
theorem ss_Y_mu_in {post : Int32 → SY → Prop} {J : Int32 → (Nat → Int32) → (Nat → Int32) → Prop} {f : Nat → ss_F} {m : Nat → Int32} {s t : Nat} (hs : s < 5) (ht : t < 5) {n : Nat} (hn : n < 32) (h : J (nI (n + 1)) (ss_em f) (upd m n (ss_e (ss_c (ss_g f s) (ss_g f t) n)))) : ∀ d k sum, k + d = n + 1 → ss_LV sum (ss_s (fun i => ss_g f s i * ss_g f t (n - i)) k) (k * 150994944) → wY_multiply_43 post J (nI s) (nI t) (nI n) (ss_em f) m (d + 1) sum (nI k) := by
  intro d
  induction d with
  | zero =>
    intro k sum hk hL
    have : k = n + 1 := by omega
    subst this
    exact br_t (nI_lt (by omega) (by omega)) (ss_Yr hL ⟨vp_in_nI (by omega) (by decide), nm_r (e' := upd m n (ss_e (ss_c (ss_g f s) (ss_g f t) n))) (by rw [ss_ci (by omega)]; rfl) (nm_r (nI_1 n) h)⟩)
  | succ d ih =>
    intro k sum hk hL
    refine br_f (nI_nlt (by omega) (by omega)) ?_
    rw [pk_sub (a := n) (b := k) (by omega)]
    exact ss_Yat hs (by omega) (ss_Yat ht (by omega) (nm_e (nm_r (nI_1 k) (ih (k + 1) _ (by omega) (ss_accY hL rfl rfl (by omega))))))
theorem ss_Y_mu_lp {post : Int32 → SY → Prop} {f : Nat → ss_F} {s t : Nat} (hs : s < 5) (ht : t < 5) (p : ∀ m, post 1 (ss_em (ss_b f s 32 (ss_c (ss_g f s) (ss_g f t))), m)) : ∀ d n m, n + d = 32 → ss_A m (ss_c (ss_g f s) (ss_g f t)) n → wY_multiply_30 post (nI s) (nI t) (d + 1) (nI n) (ss_em f) m := by
  intro d
  induction d with
  | zero =>
    intro n m hn hx
    have : n = 32 := by omega
    subst this
    exact br_t (by decide) (ss_tk hs hx (p m))
  | succ d ih =>
    intro n m hn hx
    exact br_f (nI_ge (b := 32) (by omega) (by decide)) ⟨n + 2, ss_Y_mu_in hs ht (by omega) (ih (n + 1) _ (by omega) (ss_A_s hx rfl)) (n + 1) 0 0 (by omega) ss_acc0⟩
theorem ss_o0 (l r : Nat → ss_F) (n : Nat) : ss_o l r n 0 (n + 1 - 0) = ss_c l r n := by
  apply ss_s_congr
  intro i _
  rw [Nat.zero_add]
theorem ss_E0_result_lp {post : SX → Prop} {l r : Nat → ss_F} {c le ri ot sl lp rp lW rW pt lL rL pL : Nat → Int32} (hl : ss_A le l 32) (hr : ss_A ri r 32) (h : ∀ x, ss_A x (ss_c l r) 32 → post (c, le, ri, x, ot, sl, lp, rp, lW, rW, pt, lL, rL, pL)) : ∀ d n x, n + d = 32 → ss_A x (ss_c l r) n → wX_multiplyByColumns__result_2 post (d + 1) (nI n) c le ri x ot sl lp rp lW rW pt lL rL pL := by
  intro d
  induction d with
  | zero =>
    intro n x hn hx
    have : n = 32 := by omega
    subst this
    exact br_t (by decide) (h x hx)
  | succ d ih =>
    intro n x hn hx
    exact br_f (nI_ge (b := 32) (by omega) (by decide)) (ss_so_left_right l r (first := 0) (fun i _ h2 => hl i (by omega)) (fun i _ h2 => hr _ (by omega)) (by omega) (Nat.le_refl n) (by omega) ⟨vp_in_nI (by omega) (by decide), nm_r (e' := upd x n (ss_e (ss_c l r n))) (by rw [ss_ci (by omega), ss_o0]) (nm_r (nI_1 n) (ih (n + 1) _ (by omega) (ss_A_s hx rfl)))⟩)
theorem ss_E0_result {post : SX → Prop} {l r : Nat → ss_F} {c le ri re ot sl lp rp lW rW pt lL rL pL : Nat → Int32} (hl : ss_A le l 32) (hr : ss_A ri r 32) (h : ∀ x, ss_A x (ss_c l r) 32 → post (c, le, ri, x, ot, sl, lp, rp, lW, rW, pt, lL, rL, pL)) : wpX_multiplyByColumns__result post (c, le, ri, re, ot, sl, lp, rp, lW, rW, pt, lL, rL, pL) := ⟨33, ss_E0_result_lp hl hr h 32 0 re rfl (ss_A_0 _ _)⟩
theorem ss_E0_otherResult_lp {post : SX → Prop} {l r : Nat → ss_F} {c le ri re sl lp rp lW rW pt lL rL pL : Nat → Int32} (hl : ss_A le l 32) (hr : ss_A ri r 32) (h : ∀ x, ss_A x (ss_c l r) 32 → post (c, le, ri, re, x, sl, lp, rp, lW, rW, pt, lL, rL, pL)) : ∀ d n x, n + d = 32 → ss_A x (ss_c l r) n → wX_multiplyByColumns__otherResult_2 post (d + 1) (nI n) c le ri re x sl lp rp lW rW pt lL rL pL := by
  intro d
  induction d with
  | zero =>
    intro n x hn hx
    have : n = 32 := by omega
    subst this
    exact br_t (by decide) (h x hx)
  | succ d ih =>
    intro n x hn hx
    exact br_f (nI_ge (b := 32) (by omega) (by decide)) (ss_so_left_right l r (first := 0) (fun i _ h2 => hl i (by omega)) (fun i _ h2 => hr _ (by omega)) (by omega) (Nat.le_refl n) (by omega) ⟨vp_in_nI (by omega) (by decide), nm_r (e' := upd x n (ss_e (ss_c l r n))) (by rw [ss_ci (by omega), ss_o0]) (nm_r (nI_1 n) (ih (n + 1) _ (by omega) (ss_A_s hx rfl)))⟩)
theorem ss_E0_otherResult {post : SX → Prop} {l r : Nat → ss_F} {c le ri re ot sl lp rp lW rW pt lL rL pL : Nat → Int32} (hl : ss_A le l 32) (hr : ss_A ri r 32) (h : ∀ x, ss_A x (ss_c l r) 32 → post (c, le, ri, re, x, sl, lp, rp, lW, rW, pt, lL, rL, pL)) : wpX_multiplyByColumns__otherResult post (c, le, ri, re, ot, sl, lp, rp, lW, rW, pt, lL, rL, pL) := ⟨33, ss_E0_otherResult_lp hl hr h 32 0 ot rfl (ss_A_0 _ _)⟩
/-! limbs -/
def ss_L (z : Nat → Int32) (l : Nat → ss_F) (k : Nat) : Prop := ∀ j, j < k → z j = nI (ss_lm l j)
theorem ss_L_s {z : Nat → Int32} {l : Nat → ss_F} {k : Nat} {x : Int32} (h : ss_L z l k) (hx : x = nI (ss_lm l k)) : ss_L (upd z k x) l (k + 1) := by
  intro j hj
  by_cases e : j = k
  · subst e
    rw [pk_us, hx]
  · rw [pk_un e, h j (by omega)]
theorem ss_i3 (n i : Nat) : nI n * 3 + nI i = nI (3 * n + i) := by
  rw [show (3 : Int32) = nI 3 from rfl, pk_mul, nI_add, Nat.mul_comm]
theorem ss_lmd (l : Nat → ss_F) (n : Nat) : ∀ i, i < 3 → (l n).val / 4096 ^ i % 4096 = ss_lm l (3 * n + i) := by
  intro i hi
  have hv := (l n).isLt
  have h3 : i = 0 ∨ i = 1 ∨ i = 2 := by omega
  rcases h3 with rfl | rfl | rfl
  · rw [Nat.add_zero, ss_lm0, Nat.pow_zero, Nat.div_one]
  · rw [ss_lm1, Nat.pow_one]
    omega
  · rw [ss_lm2, show 4096 ^ 2 = 16777216 from rfl]
    omega
theorem ss_wl_left_leftLimbs_in {post : SX → Prop} {J : Int32 → (Nat → Int32) → (Nat → Int32) → (Nat → Int32) → (Nat → Int32) → (Nat → Int32) → (Nat → Int32) → (Nat → Int32) → (Nat → Int32) → (Nat → Int32) → (Nat → Int32) → (Nat → Int32) → (Nat → Int32) → (Nat → Int32) → (Nat → Int32) → Prop} {l : Nat → ss_F} {c le ri re ot sl lp rp lW rW pt rL pL : Nat → Int32} {n : Nat} (hn : n < 32) (h : ∀ z, ss_L z l (3 * (n + 1)) → J (nI (n + 1)) c le ri re ot sl lp rp lW rW pt z rL pL) : ∀ d i z, i + d = 3 → ss_L z l (3 * n + i) → wX_writeLimbs__left_leftLimbs_15 post J (nI n) (d + 1) (nI ((l n).val / 4096 ^ i)) (nI i) c le ri re ot sl lp rp lW rW pt z rL pL := by
  have hv := (l n).isLt
  intro d
  induction d with
  | zero =>
    intro i z hi hz
    have : i = 3 := by omega
    subst this
    exact br_t (by decide) (nm_r (nI_1 n) (h z hz))
  | succ d ih =>
    intro i z hi hz
    have hd : (l n).val / 4096 ^ i ≤ (l n).val := Nat.div_le_self _ _
    have e1 := ss_i3 n i
    have e2 : nI ((l n).val / 4096 ^ i) &&& 4095 = nI (ss_lm l (3 * n + i)) := by
      rw [← ss_lmd l n i (by omega)]
      exact pk_andN (by omega) 12 (by decide)
    have e3 : nI ((l n).val / 4096 ^ i) >>> ((12 : Int32) &&& 31) = nI ((l n).val / 4096 ^ (i + 1)) := by
      rw [pk_shrN (by omega) _ 12 (by decide), Nat.div_div_eq_div_mul]
      rfl
    refine br_f (nI_ge (b := 3) (by omega) (by decide)) ⟨?_, nm_r (e' := upd z (3 * n + i) (nI (ss_lm l (3 * n + i)))) ?_ (nm_r e3 (nm_r (nI_1 i) (ih (i + 1) _ (by omega) (ss_L_s hz rfl))))⟩
    · rw [e1]
      exact vp_in_nI (by omega) (by decide)
    · rw [e1, ss_ci (by omega), e2]
theorem ss_wl_left_leftLimbs_lp {post : SX → Prop} {l : Nat → ss_F} {c le ri re ot sl lp rp lW rW pt rL pL : Nat → Int32} (hl : ss_A le l 32) (h : ∀ z, ss_L z l 96 → post (c, le, ri, re, ot, sl, lp, rp, lW, rW, pt, z, rL, pL)) : ∀ d n z, n + d = 32 → ss_L z l (3 * n) → wX_writeLimbs__left_leftLimbs_2 post (d + 1) (nI n) c le ri re ot sl lp rp lW rW pt z rL pL := by
  intro d
  induction d with
  | zero =>
    intro n z hn hz
    have : n = 32 := by omega
    subst this
    exact br_t (by decide) (h z hz)
  | succ d ih =>
    intro n z hn hz
    refine br_f (nI_ge (b := 32) (by omega) (by decide)) ⟨vp_in_nI (by omega) (by decide), nm_r (e' := nI ((l n).val / 4096 ^ 0)) ?_ ⟨4, ss_wl_left_leftLimbs_in (by omega) (fun z' hz' => ih (n + 1) z' (by omega) hz') 3 0 z rfl hz⟩⟩
    rw [ss_ci (by omega), hl n (by omega), Nat.pow_zero, Nat.div_one]
    rfl
theorem ss_wl_left_leftLimbs {post : SX → Prop} {l : Nat → ss_F} {c le ri re ot sl lp rp lW rW pt lL rL pL : Nat → Int32} (hl : ss_A le l 32) (h : ∀ z, ss_L z l 96 → post (c, le, ri, re, ot, sl, lp, rp, lW, rW, pt, z, rL, pL)) : wpX_writeLimbs__left_leftLimbs post (c, le, ri, re, ot, sl, lp, rp, lW, rW, pt, lL, rL, pL) := ⟨33, ss_wl_left_leftLimbs_lp hl h 32 0 lL rfl (fun j hj => absurd hj (by omega))⟩
theorem ss_wl_right_rightLimbs_in {post : SX → Prop} {J : Int32 → (Nat → Int32) → (Nat → Int32) → (Nat → Int32) → (Nat → Int32) → (Nat → Int32) → (Nat → Int32) → (Nat → Int32) → (Nat → Int32) → (Nat → Int32) → (Nat → Int32) → (Nat → Int32) → (Nat → Int32) → (Nat → Int32) → (Nat → Int32) → Prop} {l : Nat → ss_F} {c le ri re ot sl lp rp lW rW pt lL pL : Nat → Int32} {n : Nat} (hn : n < 32) (h : ∀ z, ss_L z l (3 * (n + 1)) → J (nI (n + 1)) c le ri re ot sl lp rp lW rW pt lL z pL) : ∀ d i z, i + d = 3 → ss_L z l (3 * n + i) → wX_writeLimbs__right_rightLimbs_15 post J (nI n) (d + 1) (nI ((l n).val / 4096 ^ i)) (nI i) c le ri re ot sl lp rp lW rW pt lL z pL := by
  have hv := (l n).isLt
  intro d
  induction d with
  | zero =>
    intro i z hi hz
    have : i = 3 := by omega
    subst this
    exact br_t (by decide) (nm_r (nI_1 n) (h z hz))
  | succ d ih =>
    intro i z hi hz
    have hd : (l n).val / 4096 ^ i ≤ (l n).val := Nat.div_le_self _ _
    have e1 := ss_i3 n i
    have e2 : nI ((l n).val / 4096 ^ i) &&& 4095 = nI (ss_lm l (3 * n + i)) := by
      rw [← ss_lmd l n i (by omega)]
      exact pk_andN (by omega) 12 (by decide)
    have e3 : nI ((l n).val / 4096 ^ i) >>> ((12 : Int32) &&& 31) = nI ((l n).val / 4096 ^ (i + 1)) := by
      rw [pk_shrN (by omega) _ 12 (by decide), Nat.div_div_eq_div_mul]
      rfl
    refine br_f (nI_ge (b := 3) (by omega) (by decide)) ⟨?_, nm_r (e' := upd z (3 * n + i) (nI (ss_lm l (3 * n + i)))) ?_ (nm_r e3 (nm_r (nI_1 i) (ih (i + 1) _ (by omega) (ss_L_s hz rfl))))⟩
    · rw [e1]
      exact vp_in_nI (by omega) (by decide)
    · rw [e1, ss_ci (by omega), e2]
theorem ss_wl_right_rightLimbs_lp {post : SX → Prop} {l : Nat → ss_F} {c le ri re ot sl lp rp lW rW pt lL pL : Nat → Int32} (hl : ss_A ri l 32) (h : ∀ z, ss_L z l 96 → post (c, le, ri, re, ot, sl, lp, rp, lW, rW, pt, lL, z, pL)) : ∀ d n z, n + d = 32 → ss_L z l (3 * n) → wX_writeLimbs__right_rightLimbs_2 post (d + 1) (nI n) c le ri re ot sl lp rp lW rW pt lL z pL := by
  intro d
  induction d with
  | zero =>
    intro n z hn hz
    have : n = 32 := by omega
    subst this
    exact br_t (by decide) (h z hz)
  | succ d ih =>
    intro n z hn hz
    refine br_f (nI_ge (b := 32) (by omega) (by decide)) ⟨vp_in_nI (by omega) (by decide), nm_r (e' := nI ((l n).val / 4096 ^ 0)) ?_ ⟨4, ss_wl_right_rightLimbs_in (by omega) (fun z' hz' => ih (n + 1) z' (by omega) hz') 3 0 z rfl hz⟩⟩
    rw [ss_ci (by omega), hl n (by omega), Nat.pow_zero, Nat.div_one]
    rfl
theorem ss_wl_right_rightLimbs {post : SX → Prop} {l : Nat → ss_F} {c le ri re ot sl lp rp lW rW pt lL rL pL : Nat → Int32} (hl : ss_A ri l 32) (h : ∀ z, ss_L z l 96 → post (c, le, ri, re, ot, sl, lp, rp, lW, rW, pt, lL, z, pL)) : wpX_writeLimbs__right_rightLimbs post (c, le, ri, re, ot, sl, lp, rp, lW, rW, pt, lL, rL, pL) := ⟨33, ss_wl_right_rightLimbs_lp hl h 32 0 rL rfl (fun j hj => absurd hj (by omega))⟩
theorem ss_lmask {V : Nat} (h : V < 2 ^ 62) : (lN V &&& 4095).toInt32 = nI (V % 4096) := by
  have e : (lN V &&& 4095).toInt = (V : Int) % 2 ^ 12 := by
    rw [Jvm.Kit.i64_mask (lN V) 4095 (k := 12) (by decide) (by decide), pk_lT (by omega)]
  apply Int32.toInt_inj.mp
  rw [Jvm.Kit.i32_of_i64 (by rw [e]; omega) (by rw [e]; omega), e, nI_toInt (by omega)]
  omega
theorem ss_lshr {V : Nat} (h : V < 2 ^ 62) : lN V >>> ((12 : Int32).toInt64 &&& 63) = lN (V / 4096) := by
  apply Int64.toInt_inj.mp
  rw [Jvm.Kit.i64_shr _ _ (k := 12) (by decide), pk_lT (by omega), pk_lT (by omega)]
  omega
theorem ss_lshl {V : Nat} (h : V < 2 ^ 40) : lN V <<< ((12 : Int32).toInt64 &&& 63) = lN (V * 4096) := by
  apply Int64.toInt_inj.mp
  rw [Jvm.Kit.i64_shl _ _ (k := 12) (by decide) (by rw [pk_lT (by omega)]; omega) (by rw [pk_lT (by omega)]; omega), pk_lT (by omega), pk_lT (by omega)]
  omega
theorem ss_lmul {a b : Nat} (ha : a ≤ 4095) (hb : b ≤ 4095) : (nI a * nI b).toInt64 = lN (a * b) := by
  have h : a * b ≤ 4095 * 4095 := Nat.mul_le_mul ha hb
  rw [pk_mul, nI_l (by omega)]
theorem ss_ml_in {post : SX → Prop} {J : Int64 → Int32 → (Nat → Int32) → (Nat → Int32) → (Nat → Int32) → (Nat → Int32) → (Nat → Int32) → (Nat → Int32) → (Nat → Int32) → (Nat → Int32) → (Nat → Int32) → (Nat → Int32) → (Nat → Int32) → (Nat → Int32) → (Nat → Int32) → (Nat → Int32) → Prop} {l r : Nat → ss_F} {c le ri re ot sl lp rp lW rW pt lL rL pL : Nat → Int32} (hl : ss_L lL l 96) (hr : ss_L rL r 96) {n : Nat} (hn : n < 96) (h : J (lN (ss_lC l r (n + 1))) (nI (n + 1)) c le ri re ot sl lp rp lW rW pt lL rL (upd pL n (nI (ss_lP l r n)))) : ∀ d k, k + d = n + 1 → wX_multiplyLimbs_16 post J (nI n) c le ri re ot sl lp rp lW rW pt lL rL pL (d + 1) (lN (ss_lC l r n + ss_sN (fun i => ss_lm l i * ss_lm r (n - i)) k)) (nI k) := by
  have b1 := ss_lC_le l r n (by omega)
  have b2 := ss_lS_le l r hn
  intro d
  induction d with
  | zero =>
    intro k hk
    have : k = n + 1 := by omega
    subst this
    exact br_t (nI_lt (by omega) (by omega)) ⟨vp_in_nI hn (by decide), nm_r (e' := upd pL n (nI (ss_lP l r n))) (by rw [ss_ci (by omega)]; exact congrArg (upd pL n) (ss_lmask (V := ss_lC l r n + ss_lS l r n) (by omega))) (nm_r (ss_lshr (V := ss_lC l r n + ss_lS l r n) (by omega)) (nm_r (nI_1 n) h))⟩
  | succ d ih =>
    intro k hk
    have x1 : lL (nI k).toNatClampNeg = nI (ss_lm l k) := by rw [ss_ci (by omega)]; exact hl k (by omega)
    have x2 : rL (nI n - nI k).toNatClampNeg = nI (ss_lm r (n - k)) := by rw [pk_sub (by omega), ss_ci (by omega)]; exact hr _ (by omega)
    refine br_f (nI_nlt (by omega) (by omega)) ⟨vp_in_nI (by omega) (by decide), ?_, nm_r (e' := lN (ss_lC l r n + ss_sN (fun i => ss_lm l i * ss_lm r (n - i)) (k + 1))) ?_ (nm_r (nI_1 k) (ih (k + 1) (by omega)))⟩
    · rw [pk_sub (by omega)]
      exact vp_in_nI (by omega) (by decide)
    · rw [x1, x2, ss_lmul (ss_lm_le l k) (ss_lm_le r (n - k)), lN_add, ss_sNs, Nat.add_assoc]
theorem ss_ml_lp {post : SX → Prop} {l r : Nat → ss_F} {c le ri re ot sl lp rp lW rW pt lL rL : Nat → Int32} (hl : ss_L lL l 96) (hr : ss_L rL r 96) (h : ∀ z, (∀ j, j < 96 → z j = nI (ss_lP l r j)) → post (c, le, ri, re, ot, sl, lp, rp, lW, rW, pt, lL, rL, z)) : ∀ d n z, n + d = 96 → (∀ j, j < n → z j = nI (ss_lP l r j)) → wX_multiplyLimbs_4 post (d + 1) (lN (ss_lC l r n)) (nI n) c le ri re ot sl lp rp lW rW pt lL rL z := by
  intro d
  induction d with
  | zero =>
    intro n z hn hz
    have : n = 96 := by omega
    subst this
    exact br_t (by decide) (h z hz)
  | succ d ih =>
    intro n z hn hz
    refine br_f (nI_ge (b := 96) (by omega) (by decide)) ⟨n + 2, ss_ml_in hl hr (by omega) (ih (n + 1) _ (by omega) ?_) (n + 1) 0 (by omega)⟩
    intro j hj
    by_cases e : j = n
    · subst e
      exact pk_us
    · rw [pk_un e]
      exact hz j (by omega)
theorem ss_ml {post : SX → Prop} {l r : Nat → ss_F} {c le ri re ot sl lp rp lW rW pt lL rL pL : Nat → Int32} (hl : ss_L lL l 96) (hr : ss_L rL r 96) (h : ∀ z, (∀ j, j < 96 → z j = nI (ss_lP l r j)) → post (c, le, ri, re, ot, sl, lp, rp, lW, rW, pt, lL, rL, z)) : wpX_multiplyLimbs post (c, le, ri, re, ot, sl, lp, rp, lW, rW, pt, lL, rL, pL) := ⟨97, ss_ml_lp hl hr h 96 0 pL rfl (fun j hj => absurd hj (by omega))⟩
theorem ss_lP_lt (l r : Nat → ss_F) (n : Nat) : ss_lP l r n < 4096 := Nat.mod_lt _ (by decide)
theorem ss_LV_lN {n b : Nat} (h : n ≤ b) (hb : b < 2 ^ 62) : ss_LV (lN n) (ss_n n) b := by
  constructor
  · rw [pk_lT (by omega), ss_nz]
  · rw [pk_lT (by omega)]
    omega
theorem ss_E4_result_in {post : SX → Prop} {J : Int32 → (Nat → Int32) → (Nat → Int32) → (Nat → Int32) → (Nat → Int32) → (Nat → Int32) → (Nat → Int32) → (Nat → Int32) → (Nat → Int32) → (Nat → Int32) → (Nat → Int32) → (Nat → Int32) → (Nat → Int32) → (Nat → Int32) → (Nat → Int32) → Prop} {l r : Nat → ss_F} {c le ri re ot sl lp rp lW rW pt lL rL pL : Nat → Int32} (hp : ∀ j, j < 96 → pL j = nI (ss_lP l r j)) {n : Nat} (hn : n < 32) (h : J (nI (n + 1)) c le ri (upd re n (ss_e (ss_c l r n))) ot sl lp rp lW rW pt lL rL pL) : wX_multiplyByBigNumbers__result_39 post J (nI n) c le ri re ot sl lp rp lW rW pt lL rL pL 4 0 2 := by
  have q0 := ss_lP_lt l r (3 * n)
  have q1 := ss_lP_lt l r (3 * n + 1)
  have q2 := ss_lP_lt l r (3 * n + 2)
  have T := ss_lP3 l r hn
  have Tb := ss_lT_le l r hn
  have step : ∀ (i w : Nat), i < 3 → w < 2 ^ 40 → (lN w <<< ((12 : Int32).toInt64 &&& 63)) + (pL (nI n * 3 + nI i).toNatClampNeg).toInt64 = lN (w * 4096 + ss_lP l r (3 * n + i)) := by
    intro i w hi hw
    have b := ss_lP_lt l r (3 * n + i)
    rw [ss_i3, ss_ci (by omega), hp _ (by omega), ss_lshl hw, nI_l (by omega), lN_add]
  have hin : ∀ i, i < 3 → vp_in (nI n * 3 + nI i) 96 := fun i hi => by rw [ss_i3]; exact vp_in_nI (by omega) (by decide)
  have LV : ss_LV (lN (((0 * 4096 + ss_lP l r (3 * n + 2)) * 4096 + ss_lP l r (3 * n + 1)) * 4096 + ss_lP l r (3 * n + 0))) (ss_c l r n) (32 * (12288 * 12288)) := by
    show ss_LV (lN (((0 * 4096 + ss_lP l r (3 * n + 2)) * 4096 + ss_lP l r (3 * n + 1)) * 4096 + ss_lP l r (3 * n))) (ss_c l r n) (32 * (12288 * 12288))
    rw [Nat.zero_mul, Nat.zero_add, T, ← ss_lT_c]
    exact ss_LV_lN Tb (by decide)
  refine br_f (by decide) ⟨hin 2 (by decide), nm_r (step 2 0 (by decide) (by decide)) (nm_r (pk_m1 1) ?_)⟩
  refine br_f (by decide) ⟨hin 1 (by decide), nm_r (step 1 _ (by decide) (by omega)) (nm_r (pk_m1 0) ?_)⟩
  refine br_f (by decide) ⟨hin 0 (by decide), nm_r (step 0 _ (by decide) (by omega)) (nm_e ?_)⟩
  exact br_t (by decide) (ss_Xr LV ⟨vp_in_nI hn (by decide), nm_r (e' := upd re n (ss_e (ss_c l r n))) (by rw [ss_ci (by omega)]) (nm_r (nI_1 n) h)⟩)
theorem ss_E4_result_lp {post : SX → Prop} {l r : Nat → ss_F} {c le ri ot sl lp rp lW rW pt lL rL pL : Nat → Int32} (hp : ∀ j, j < 96 → pL j = nI (ss_lP l r j)) (h : ∀ x, ss_A x (ss_c l r) 32 → post (c, le, ri, x, ot, sl, lp, rp, lW, rW, pt, lL, rL, pL)) : ∀ d n x, n + d = 32 → ss_A x (ss_c l r) n → wX_multiplyByBigNumbers__result_28 post (d + 1) (nI n) c le ri x ot sl lp rp lW rW pt lL rL pL := by
  intro d
  induction d with
  | zero =>
    intro n x hn hx
    have : n = 32 := by omega
    subst this
    exact br_t (by decide) (h x hx)
  | succ d ih =>
    intro n x hn hx
    exact br_f (nI_ge (b := 32) (by omega) (by decide)) ⟨4, ss_E4_result_in hp (by omega) (ih (n + 1) _ (by omega) (ss_A_s hx rfl))⟩
theorem ss_E4_result {post : SX → Prop} {l r : Nat → ss_F} {c le ri re ot sl lp rp lW rW pt lL rL pL : Nat → Int32} (hl : ss_A le l 32) (hr : ss_A ri r 32) (h : ∀ x a b w, ss_A x (ss_c l r) 32 → post (c, le, ri, x, ot, sl, lp, rp, lW, rW, pt, a, b, w)) : wpX_multiplyByBigNumbers__result post (c, le, ri, re, ot, sl, lp, rp, lW, rW, pt, lL, rL, pL) := by
  unfold wpX_multiplyByBigNumbers__result
  exact ss_wl_left_leftLimbs hl (fun a ha => ss_wl_right_rightLimbs hr (fun b hb => ss_ml ha hb (fun w hw => ⟨33, ss_E4_result_lp hw (fun x hx => h x a b w hx) 32 0 _ rfl (ss_A_0 _ _)⟩)))
theorem ss_E4_otherResult_in {post : SX → Prop} {J : Int32 → (Nat → Int32) → (Nat → Int32) → (Nat → Int32) → (Nat → Int32) → (Nat → Int32) → (Nat → Int32) → (Nat → Int32) → (Nat → Int32) → (Nat → Int32) → (Nat → Int32) → (Nat → Int32) → (Nat → Int32) → (Nat → Int32) → (Nat → Int32) → Prop} {l r : Nat → ss_F} {c le ri re ot sl lp rp lW rW pt lL rL pL : Nat → Int32} (hp : ∀ j, j < 96 → pL j = nI (ss_lP l r j)) {n : Nat} (hn : n < 32) (h : J (nI (n + 1)) c le ri re (upd ot n (ss_e (ss_c l r n))) sl lp rp lW rW pt lL rL pL) : wX_multiplyByBigNumbers__otherResult_39 post J (nI n) c le ri re ot sl lp rp lW rW pt lL rL pL 4 0 2 := by
  have q0 := ss_lP_lt l r (3 * n)
  have q1 := ss_lP_lt l r (3 * n + 1)
  have q2 := ss_lP_lt l r (3 * n + 2)
  have T := ss_lP3 l r hn
  have Tb := ss_lT_le l r hn
  have step : ∀ (i w : Nat), i < 3 → w < 2 ^ 40 → (lN w <<< ((12 : Int32).toInt64 &&& 63)) + (pL (nI n * 3 + nI i).toNatClampNeg).toInt64 = lN (w * 4096 + ss_lP l r (3 * n + i)) := by
    intro i w hi hw
    have b := ss_lP_lt l r (3 * n + i)
    rw [ss_i3, ss_ci (by omega), hp _ (by omega), ss_lshl hw, nI_l (by omega), lN_add]
  have hin : ∀ i, i < 3 → vp_in (nI n * 3 + nI i) 96 := fun i hi => by rw [ss_i3]; exact vp_in_nI (by omega) (by decide)
  have LV : ss_LV (lN (((0 * 4096 + ss_lP l r (3 * n + 2)) * 4096 + ss_lP l r (3 * n + 1)) * 4096 + ss_lP l r (3 * n + 0))) (ss_c l r n) (32 * (12288 * 12288)) := by
    show ss_LV (lN (((0 * 4096 + ss_lP l r (3 * n + 2)) * 4096 + ss_lP l r (3 * n + 1)) * 4096 + ss_lP l r (3 * n))) (ss_c l r n) (32 * (12288 * 12288))
    rw [Nat.zero_mul, Nat.zero_add, T, ← ss_lT_c]
    exact ss_LV_lN Tb (by decide)
  refine br_f (by decide) ⟨hin 2 (by decide), nm_r (step 2 0 (by decide) (by decide)) (nm_r (pk_m1 1) ?_)⟩
  refine br_f (by decide) ⟨hin 1 (by decide), nm_r (step 1 _ (by decide) (by omega)) (nm_r (pk_m1 0) ?_)⟩
  refine br_f (by decide) ⟨hin 0 (by decide), nm_r (step 0 _ (by decide) (by omega)) (nm_e ?_)⟩
  exact br_t (by decide) (ss_Xr LV ⟨vp_in_nI hn (by decide), nm_r (e' := upd ot n (ss_e (ss_c l r n))) (by rw [ss_ci (by omega)]) (nm_r (nI_1 n) h)⟩)
theorem ss_E4_otherResult_lp {post : SX → Prop} {l r : Nat → ss_F} {c le ri re sl lp rp lW rW pt lL rL pL : Nat → Int32} (hp : ∀ j, j < 96 → pL j = nI (ss_lP l r j)) (h : ∀ x, ss_A x (ss_c l r) 32 → post (c, le, ri, re, x, sl, lp, rp, lW, rW, pt, lL, rL, pL)) : ∀ d n x, n + d = 32 → ss_A x (ss_c l r) n → wX_multiplyByBigNumbers__otherResult_28 post (d + 1) (nI n) c le ri re x sl lp rp lW rW pt lL rL pL := by
  intro d
  induction d with
  | zero =>
    intro n x hn hx
    have : n = 32 := by omega
    subst this
    exact br_t (by decide) (h x hx)
  | succ d ih =>
    intro n x hn hx
    exact br_f (nI_ge (b := 32) (by omega) (by decide)) ⟨4, ss_E4_otherResult_in hp (by omega) (ih (n + 1) _ (by omega) (ss_A_s hx rfl))⟩
theorem ss_E4_otherResult {post : SX → Prop} {l r : Nat → ss_F} {c le ri re ot sl lp rp lW rW pt lL rL pL : Nat → Int32} (hl : ss_A le l 32) (hr : ss_A ri r 32) (h : ∀ x a b w, ss_A x (ss_c l r) 32 → post (c, le, ri, re, x, sl, lp, rp, lW, rW, pt, a, b, w)) : wpX_multiplyByBigNumbers__otherResult post (c, le, ri, re, ot, sl, lp, rp, lW, rW, pt, lL, rL, pL) := by
  unfold wpX_multiplyByBigNumbers__otherResult
  exact ss_wl_left_leftLimbs hl (fun a ha => ss_wl_right_rightLimbs hr (fun b hb => ss_ml ha hb (fun w hw => ⟨33, ss_E4_otherResult_lp hw (fun x hx => h x a b w hx) 32 0 _ rfl (ss_A_0 _ _)⟩)))
