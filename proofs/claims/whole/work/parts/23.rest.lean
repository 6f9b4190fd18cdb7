/-! rest -/
theorem ss_X_rs_in {post : Int32 → SX → Prop} {J : Int32 → (Nat → Int32) → (Nat → Int32) → (Nat → Int32) → (Nat → Int32) → (Nat → Int32) → (Nat → Int32) → (Nat → Int32) → (Nat → Int32) → (Nat → Int32) → (Nat → Int32) → (Nat → Int32) → (Nat → Int32) → (Nat → Int32) → (Nat → Int32) → Prop} {t a : Nat → ss_F} {q : ss_F} {low e : Nat} {c ri re ot sl lp rp lW rW pt lL rL pL : Nat → Int32} {s1 s4 : Int32} (hr : ss_A ri t 32) (hb : low + e < 32) (h : ∀ x, ss_A x (ss_r1 t q low (e + 1) a) 32 → J (ss_m low) c x ri re ot sl lp rp lW rW pt lL rL pL) : ∀ d i x, i + d = e + 1 → ss_A x (ss_r1 t q low i a) 32 → wX_rest_91 post J s1 (nI e) s4 (nI low) (ss_e q) (d + 1) (nI i) c x ri re ot sl lp rp lW rW pt lL rL pL := by
  intro d
  induction d with
  | zero =>
    intro i x hi hx
    have : i = e + 1 := by omega
    subst this
    exact br_t (nI_lt (by omega) (by omega)) (nm_e (h x hx))
  | succ d ih =>
    intro i x hi hx
    have e1 : nI low + nI i = nI (low + i) := nI_add low i
    have LV : ss_LV (x (nI low + nI i).toNatClampNeg - ss_e q * ri (nI i).toNatClampNeg).toInt64 (a (low + i) - q * t i) (12288 + 12288 * 12288) := by
      rw [e1, ss_ci (by omega), ss_ci (by omega), hx (low + i) (by omega), hr i (by omega), ss_r1_at]
      exact ss_IV_L (ss_IV_sub (ss_IV_e _) (ss_IV_mul (ss_IV_e _) (ss_IV_e _)))
    refine br_f (nI_nlt (by omega) (by omega)) ⟨?_, vp_in_nI (by omega) (by decide), ss_Xr LV ⟨?_, nm_r (e' := upd x (low + i) (ss_e (a (low + i) - q * t i))) ?_ (nm_r (nI_1 i) (ih (i + 1) _ (by omega) ?_))⟩⟩
    · rw [e1]
      exact vp_in_nI (by omega) (by decide)
    · rw [e1]
      exact vp_in_nI (by omega) (by decide)
    · rw [e1, ss_ci (by omega)]
    · rw [← ss_r1_s]
      exact ss_A_u hx rfl
theorem ss_X_rs_lp {post : Int32 → SX → Prop} {s : Nat} (hs : s < 5) {f t : Nat → ss_F} {lead : ss_F} {e : Nat} {ri re ot sl lp rp lW rW pt lL rL pL : Nat → Int32} (hr : ss_A ri t 32) : ∀ k a x y, k + e ≤ 32 → y = ss_m k → ss_A x a 32 → (∀ x, post 1 (ss_em (ss_b f s 32 (ss_rs t e lead k a)), x, ri, re, ot, sl, lp, rp, lW, rW, pt, lL, rL, pL)) → wX_rest_65 post (nI s) (nI e) (ss_e lead) (k + 1) y (ss_em f) x ri re ot sl lp rp lW rW pt lL rL pL := by
  intro k
  induction k with
  | zero =>
    intro a x y _ hy hx p
    subst hy
    exact br_t (by decide) (ss_st_left hs hx (p x))
  | succ k ih =>
    intro a x y hk hy hx p
    subst hy
    rw [ss_m_s]
    have e1 : nI k + nI e = nI (k + e) := nI_add k e
    refine br_f (nI_pos (by omega)) ⟨?_, ss_pI, nm_r (e' := ss_e (a (k + e) * lead)) ?_ ⟨e + 2, ss_X_rs_in hr (by omega) (fun x' hx' => ih _ x' _ (by omega) rfl hx' p) (e + 1) 0 x (by omega) ?_⟩⟩
    · rw [e1]
      exact vp_in_nI (by omega) (by decide)
    · rw [e1, ss_ci (by omega), hx (k + e) (by omega)]
      exact ss_NV_rem (ss_NV_mul (ss_NV_e _) (ss_NV_e _))
    · rw [ss_r1_0]
      exact hx
theorem ss_Y_rs_in {post : Int32 → SY → Prop} {J : Int32 → (Nat → Int32) → (Nat → Int32) → Prop} {f a : Nat → ss_F} {t : Nat} (ht : t < 5) {q : ss_F} {low e : Nat} {s1 s4 : Int32} (hb : low + e < 32) (h : ∀ x, ss_A x (ss_r1 (ss_g f t) q low (e + 1) a) 32 → J (ss_m (low + e)) (ss_em f) x) : ∀ d i x, i + d = e + 1 → ss_A x (ss_r1 (ss_g f t) q low i a) 32 → wY_rest_105 post J s1 (nI t) (nI e) s4 (nI (low + e)) (ss_e q) (d + 1) (nI i) (ss_em f) x := by
  intro d
  induction d with
  | zero =>
    intro i x hi hx
    have : i = e + 1 := by omega
    subst this
    exact br_t (nI_lt (by omega) (by omega)) (nm_e (h x hx))
  | succ d ih =>
    intro i x hi hx
    have e1 : nI (low + e) - nI e + nI i = nI (low + i) := by rw [pk_sub (by omega), Nat.add_sub_cancel, nI_add]
    have LV : ss_LV ((x (nI (low + e) - nI e + nI i).toNatClampNeg).toInt64 - (ss_e q).toInt64 * (ss_e (ss_g f t i)).toInt64) (a (low + i) - q * ss_g f t i) (12288 + 12288 * 12288) := by
      rw [e1, ss_ci (by omega), hx (low + i) (by omega), ss_r1_at]
      exact ss_LV_sub (ss_LVe _) (ss_LV_mul (ss_LVe _) (ss_LVe _))
    refine br_f (nI_nlt (by omega) (by omega)) ⟨?_, ss_Yat ht (by omega) (ss_Yr LV ⟨?_, nm_r (e' := upd x (low + i) (ss_e (a (low + i) - q * ss_g f t i))) ?_ (nm_r (nI_1 i) (ih (i + 1) _ (by omega) ?_))⟩)⟩
    · rw [e1]
      exact vp_in_nI (by omega) (by decide)
    · rw [e1]
      exact vp_in_nI (by omega) (by decide)
    · rw [e1, ss_ci (by omega)]
    · rw [← ss_r1_s]
      exact ss_A_u hx rfl
theorem ss_m_lt (e : Nat) (h : e < 1000) : ss_m e < nI e := by
  cases e with
  | zero => decide
  | succ e => rw [ss_m_s]; exact nI_lt (by omega) (by omega)
theorem ss_Y_rs_lp {post : Int32 → SY → Prop} {s t : Nat} (hs : s < 5) (ht : t < 5) {f : Nat → ss_F} {lead : ss_F} {e : Nat} : ∀ k a x y, k + e ≤ 32 → y = ss_m (k + e) → ss_A x a 32 → (∀ x, post 1 (ss_em (ss_b f s 32 (ss_rs (ss_g f t) e lead k a)), x)) → wY_rest_78 post (nI s) (nI t) (nI e) (ss_e lead) (k + 1) y (ss_em f) x := by
  intro k
  induction k with
  | zero =>
    intro a x y he hy hx p
    subst hy
    rw [Nat.zero_add e]
    exact br_t (ss_m_lt e (by omega)) (ss_tk hs hx (p x))
  | succ k ih =>
    intro a x y hk hy hx p
    subst hy
    rw [show k + 1 + e = k + e + 1 from by omega, ss_m_s]
    have LV : ss_LV ((x (nI (k + e)).toNatClampNeg).toInt64 * (ss_e lead).toInt64) (a (k + e) * lead) (12288 * 12288) := by
      rw [ss_ci (by omega), hx (k + e) (by omega)]
      exact ss_LV_mul (ss_LVe _) (ss_LVe _)
    refine br_f (nI_nlt (by omega) (by omega)) ⟨vp_in_nI (by omega) (by decide), ss_Yr LV ⟨e + 2, ss_Y_rs_in ht (by omega) (fun x' hx' => ih _ x' _ (by omega) rfl hx' p) (e + 1) 0 x (by omega) ?_⟩⟩
    rw [ss_r1_0]
    exact hx
theorem ss_Y_rs_cp {post : Int32 → SY → Prop} {s t : Nat} (hs : s < 5) (ht : t < 5) {f : Nat → ss_F} {lead : ss_F} {e : Nat} (he : e < 32) (p : ∀ x, post 1 (ss_em (ss_b f s 32 (ss_rs (ss_g f t) e lead (32 - e) (ss_g f s))), x)) : ∀ d i x, i + d = 32 → ss_A x (ss_g f s) i → wY_rest_47 post (nI s) (nI t) (nI e) (ss_e lead) (d + 1) (nI i) (ss_em f) x := by
  intro d
  induction d with
  | zero =>
    intro i x hi hx
    have : i = 32 := by omega
    subst this
    refine br_t (by decide) ⟨32 - e + 1, ss_Y_rs_lp hs ht (32 - e) (ss_g f s) x 31 (by omega) ?_ hx p⟩
    rw [show 32 - e + e = 32 from by omega]
    decide
  | succ d ih =>
    intro i x hi hx
    refine br_f (nI_ge (b := 32) (by omega) (by decide)) (ss_Yat hs (by omega) ⟨vp_in_nI (by omega) (by decide), nm_r (e' := upd x i (ss_e (ss_g f s i))) (by rw [ss_ci (by omega)]) (nm_r (nI_1 i) (ih (i + 1) _ (by omega) (ss_A_s hx rfl)))⟩)
theorem i_vc_rest {k : Nat} {u : SX} {v : SY} (I : i_Rel k u v) (hk : k + 5 ≤ 2560) (v1 : Int32) (v2 : Int32) : wpX_rest (fun r u' => wpY_rest (fun r' v' => r' = r ∧ i_Rel (k + 5) u' v') v v1 v2) u v1 v2 := by
  obtain ⟨f, le, ri, re, ot, sl, lp, rp, lW, rW, pt, lL, rL, pL, m, rfl, rfl, hP⟩ := I
  rcases ss_ser v1 with h | ⟨s, hs, rfl⟩
  · unfold wpX_rest wpY_rest
    exact ss_XserF h (br_t rfl (ss_YserF h (br_t rfl ⟨rfl, ss_R hP⟩)))
  · rcases ss_ser v2 with h | ⟨t, ht, rfl⟩
    · unfold wpX_rest wpY_rest
      exact ss_XserT hs (br_f ss_10 (ss_XserF h (br_t rfl (ss_YserT hs (br_f ss_10 (ss_YserF h (br_t rfl ⟨rfl, ss_R hP⟩)))))))
    · have dl := ss_d_le (ss_g f t) 32
      have dn := ss_d_ne (ss_g f t) 32
      have YD : ∀ P : Int32 → Prop, P (ss_m (ss_d (ss_g f t) 32)) → wpY_degree P (ss_em f, m) (nI t) := fun P hP => ss_Y_deg ht hP
      have XD : ∀ (P : Int32 → Prop) (x y : Nat → Int32), ss_A y (ss_g f t) 32 → P (ss_m (ss_d (ss_g f t) 32)) → wpX_lastNonZero__right P (ss_em f, x, y, re, ot, sl, lp, rp, lW, rW, pt, lL, rL, pL) := fun P x y hy hP => ss_lz_right hy hP
      generalize ss_d (ss_g f t) 32 = D at dl dn YD XD
      unfold wpX_rest
      refine ss_XserT hs (br_f ss_10 (ss_XserT ht (br_f ss_10 (ss_ld_left hs (fun x hx => ss_ld_right ht (fun y hy => XD _ x y hy ?_))))))
      cases D with
      | zero =>
        refine br_f ss_m_neg ?_
        unfold wpY_rest
        exact ss_YserT hs (br_f ss_10 (ss_YserT ht (br_f ss_10 (YD _ (br_f ss_m_neg ⟨rfl, ss_R hP⟩)))))
      | succ e =>
        have z := dn e rfl
        rw [ss_m_s] at YD ⊢
        refine br_t (nI_pos' (by omega)) ⟨vp_in_nI (by omega) (by decide), ?_⟩
        have gl : ∀ P : Int32 → Prop, P (ss_e (ss_i (ss_g f t e))) → wpX_inverse P (y (nI e).toNatClampNeg) := fun P hP => by rw [ss_ci (by omega), hy e (by omega)]; exact ss_Xi hP
        refine gl _ (nm_r (e' := ss_m (32 - e)) ?_ ⟨32 - e + 1, ss_X_rs_lp hs hy (32 - e) (ss_g f s) x _ (by omega) rfl hx (fun x' => ?_)⟩)
        · rw [show 32 - e = 31 - e + 1 from by omega, ss_m_s]
          exact pk_sub (a := 31) (by omega)
        · unfold wpY_rest
          exact ss_YserT hs (br_f ss_10 (ss_YserT ht (br_f ss_10 (YD _ (br_t (nI_pos' (by omega)) (YD _ (ss_Yat ht (by omega) (ss_Yi z ⟨33, ss_Y_rs_cp hs ht (by omega) (fun m => ⟨rfl, ss_R hP⟩) 32 0 _ rfl (ss_A_0 _ _)⟩))))))))
/-! shift -/
theorem ss_X_sh_in {post : Int32 → SX → Prop} {J : Int32 → (Nat → Int32) → (Nat → Int32) → (Nat → Int32) → (Nat → Int32) → (Nat → Int32) → (Nat → Int32) → (Nat → Int32) → (Nat → Int32) → (Nat → Int32) → (Nat → Int32) → (Nat → Int32) → (Nat → Int32) → (Nat → Int32) → (Nat → Int32) → Prop} {a : Nat → ss_F} {x : ss_F} {t : Nat} (ht : t < 31) {c ri re ot sl lp rp lW rW pt lL rL pL : Nat → Int32} {s1 : Int32} (h : ∀ y b, ss_A y b 32 → (∀ j, t ≤ j → j < 31 → b j = a j + x * b (j + 1)) → b 31 = a 31 → (∀ j, j < t → b j = a j) → J (nI (t + 1)) c y ri re ot sl lp rp lW rW pt lL rL pL) : ∀ d k y b z, t + d = k → k ≤ 31 → z = ss_m k → ss_A y b 32 → (∀ j, k ≤ j → j < 31 → b j = a j + x * b (j + 1)) → b 31 = a 31 → (∀ j, j < k → b j = a j) → wX_shift_38 post J s1 (ss_e x) (nI t) (d + 1) z c y ri re ot sl lp rp lW rW pt lL rL pL := by
  intro d
  induction d with
  | zero =>
    intro k y b z hk _ hz hy h1 h2 h3
    have : k = t := by omega
    subst this
    subst hz
    exact br_t (ss_m_lt k (by omega)) (nm_r (nI_1 k) (h y b hy h1 h2 h3))
  | succ d ih =>
    intro k y b z hk hk2 hz hy h1 h2 h3
    obtain ⟨n, rfl⟩ : ∃ n, k = n + 1 := ⟨k - 1, by omega⟩
    subst hz
    rw [ss_m_s]
    refine br_f (nI_nlt (by omega) (by omega)) ⟨vp_in_nI (by omega) (by decide), ?_, ss_pI, vp_in_nI (by omega) (by decide), nm_r (e' := upd y n (ss_e (a n + x * b (n + 1)))) ?_ (nm_e (ih n _ (ss_u b n (a n + x * b (n + 1))) _ (by omega) (by omega) rfl (ss_A_u hy rfl) ?_ ?_ ?_))⟩
    · rw [nI_1]
      exact vp_in_nI (by omega) (by decide)
    · rw [nI_1, ss_ci (by omega), ss_ci (by omega), hy n (by omega), hy (n + 1) (by omega), h3 n (by omega)]
      exact congrArg (upd y n) (ss_NV_rem (ss_NV_add (ss_NV_e _) (ss_NV_mul (ss_NV_e _) (ss_NV_e _))))
    · intro j j1 j2
      by_cases e : j = n
      · subst e
        rw [ss_us, ss_un (by omega)]
      · rw [ss_un e, ss_un (by omega)]
        exact h1 j (by omega) j2
    · rw [ss_un (by omega)]
      exact h2
    · intro j hj
      rw [ss_un (by omega)]
      exact h3 j (by omega)
theorem ss_X_sh_lp {post : Int32 → SX → Prop} {s : Nat} (hs : s < 5) {f q : Nat → ss_F} {x : ss_F} {ri re ot sl lp rp lW rW pt lL rL pL : Nat → Int32} (p : ∀ y, post 1 (ss_em (ss_b f s 32 (ss_hh x q 32 0)), y, ri, re, ot, sl, lp, rp, lW, rW, pt, lL, rL, pL)) : ∀ d t y a, t + d = 31 → ss_A y a 32 → ss_Sh x q t a → wX_shift_27 post (nI s) (ss_e x) (d + 1) (nI t) (ss_em f) y ri re ot sl lp rp lW rW pt lL rL pL := by
  intro d
  induction d with
  | zero =>
    intro t y a ht hy hS
    have : t = 31 := by omega
    subst this
    exact br_t (by decide) (ss_st_left hs (ss_A_congr hy (ss_She hS)) (p y))
  | succ d ih =>
    intro t y a ht hy hS
    exact br_f (nI_ge (b := 31) (by omega) (by decide)) ⟨31 - t + 1, ss_X_sh_in (by omega) (fun y' b hy' h1 h2 h3 => ih (t + 1) y' b (by omega) hy' (ss_Shs (by omega) hS h1 h2 h3)) (31 - t) 31 y a 30 (by omega) (Nat.le_refl 31) (by decide) hy (fun j j1 j2 => absurd j2 (by omega)) rfl (fun j _ => rfl)⟩
/-- a step of the reference, of which the places from j on are done -/
def ss_yg (x : ss_F) (H : Nat → ss_F) (j : Nat) : Nat → ss_F := fun i => if j ≤ i then H i * x + (if i = 0 then 0 else H (i - 1)) else H i
theorem ss_Y_sh_in {post : Int32 → SY → Prop} {J : Int32 → (Nat → Int32) → (Nat → Int32) → Prop} {f H : Nat → ss_F} {s : Nat} (hs : s < 5) (x : Int32) {n : Nat} (hn : n < 32) (h : ∀ m, ss_A m (ss_u (ss_yg (ss_z x.toInt) H 0) 0 (ss_yg (ss_z x.toInt) H 0 0 + ss_g f s n)) 32 → J (ss_m n) (ss_em f) m) : ∀ j m z, j ≤ 32 → z = ss_m j → ss_A m (ss_yg (ss_z x.toInt) H j) 32 → wY_shift_42 post J (nI s) x (nI n) (j + 1) z (ss_em f) m := by
  intro j
  induction j with
  | zero =>
    intro m z _ hz hm
    subst hz
    have LV : ss_LV ((m 0).toInt64 + (ss_e (ss_g f s n)).toInt64) (ss_yg (ss_z x.toInt) H 0 0 + ss_g f s n) (12288 + 12288) := by
      rw [hm 0 (by decide)]
      exact ss_LV_add (ss_LVe _) (ss_LVe _)
    exact br_t (by decide) (ss_Yat hs hn (ss_Yr LV (nm_e (nm_e (h _ (ss_A_u hm rfl))))))
  | succ j ih =>
    intro m z hj hz hm
    subst hz
    rw [ss_m_s]
    have own : m (nI j).toNatClampNeg = ss_e (H j) := by
      rw [ss_ci (by omega), hm j (by omega)]
      exact congrArg ss_e (if_neg (by omega))
    have nx : ∀ m', ss_A m' (ss_u (ss_yg (ss_z x.toInt) H (j + 1)) j (H j * ss_z x.toInt + (if j = 0 then 0 else H (j - 1)))) 32 → wY_shift_42 post J (nI s) x (nI n) (j + 1) (nI j + (-1)) (ss_em f) m' := by
      intro m' hm'
      refine ih m' _ (by omega) rfl (ss_A_congr hm' ?_)
      intro i _
      by_cases e : i = j
      · subst e
        rw [ss_us]
        exact (if_pos (Nat.le_refl i)).symm
      · rw [ss_un e]
        unfold ss_yg
        by_cases g : j ≤ i
        · rw [if_pos g, if_pos (by omega)]
        · rw [if_neg g, if_neg (by omega)]
    refine br_f (nI_pos (by omega)) ?_
    by_cases j0 : j = 0
    · subst j0
      have LV : ss_LV ((m (nI 0).toNatClampNeg).toInt64 * (ss_e (ss_z x.toInt)).toInt64 + (0 : Int32).toInt64) (H 0 * ss_z x.toInt + (if 0 = 0 then 0 else H (0 - 1))) (12288 * 12288 + 0) := by
        rw [own, if_pos rfl]
        exact ss_LV_add (ss_LV_mul (ss_LVe _) (ss_LVe _)) (ss_IV_L ⟨by decide, by decide⟩)
      exact br_t (by decide) ⟨vp_in_nI (by omega) (by decide), ss_Yr (ss_LV_any x) (ss_Yr LV ⟨vp_in_nI (by omega) (by decide), nm_r (e' := upd m 0 _) (by rw [ss_ci (by omega)]) (nm_e (nx _ (ss_A_u hm rfl)))⟩)⟩
    · have e1 : nI j - 1 = nI (j - 1) := ss_n1I (by omega)
      have low : m (nI j - 1).toNatClampNeg = ss_e (H (j - 1)) := by
        rw [e1, ss_ci (by omega), hm (j - 1) (by omega)]
        exact congrArg ss_e (if_neg (by omega))
      have LV : ss_LV ((m (nI j).toNatClampNeg).toInt64 * (ss_e (ss_z x.toInt)).toInt64 + (m (nI j - 1).toNatClampNeg).toInt64) (H j * ss_z x.toInt + (if j = 0 then 0 else H (j - 1))) (12288 * 12288 + 12288) := by
        rw [own, low, if_neg j0]
        exact ss_LV_add (ss_LV_mul (ss_LVe _) (ss_LVe _)) (ss_LVe _)
      exact br_f (nI_nle (by omega) (by omega)) ⟨by rw [e1]; exact vp_in_nI (by omega) (by decide), vp_in_nI (by omega) (by decide), ss_Yr (ss_LV_any x) (ss_Yr LV ⟨vp_in_nI (by omega) (by decide), nm_r (e' := upd m j _) (by rw [ss_ci (by omega)]) (nm_e (nx _ (ss_A_u hm rfl)))⟩)⟩
theorem ss_Y_sh_lp {post : Int32 → SY → Prop} {f : Nat → ss_F} {s : Nat} (hs : s < 5) (x : Int32) (p : ∀ m, post 1 (ss_em (ss_b f s 32 (ss_hh (ss_z x.toInt) (ss_g f s) 32 0)), m)) : ∀ k m z, k ≤ 32 → z = ss_m k → ss_A m (ss_hh (ss_z x.toInt) (ss_g f s) (32 - k) k) 32 → wY_shift_34 post (nI s) x (k + 1) z (ss_em f) m := by
  intro k
  induction k with
  | zero =>
    intro m z _ hz hm
    subst hz
    exact br_t (by decide) (ss_tk hs hm (p m))
  | succ k ih =>
    intro m z hk hz hm
    subst hz
    rw [ss_m_s]
    refine br_f (nI_pos (by omega)) ⟨33, ss_Y_sh_in (H := ss_hh (ss_z x.toInt) (ss_g f s) (32 - (k + 1)) (k + 1)) hs x (by omega) (fun m' hm' => ih m' _ (by omega) rfl (ss_A_congr hm' ?_)) 32 m 31 (Nat.le_refl 32) (by decide) (ss_A_congr hm (fun i hi => (if_neg (by omega)).symm))⟩
    intro i _
    rw [show 32 - k = 32 - (k + 1) + 1 from by omega]
    cases i with
    | zero =>
      rw [ss_us, ss_hh_0]
      show (if 0 ≤ 0 then ss_hh (ss_z x.toInt) (ss_g f s) (32 - (k + 1)) (k + 1) 0 * ss_z x.toInt + (if 0 = 0 then 0 else ss_hh (ss_z x.toInt) (ss_g f s) (32 - (k + 1)) (k + 1) (0 - 1)) else _) + ss_g f s k = _
      rw [if_pos (Nat.le_refl 0), if_pos rfl]
      grobner
    | succ i =>
      rw [ss_un (by omega), ss_hh_s]
      show (if 0 ≤ i + 1 then ss_hh (ss_z x.toInt) (ss_g f s) (32 - (k + 1)) (k + 1) (i + 1) * ss_z x.toInt + (if i + 1 = 0 then 0 else ss_hh (ss_z x.toInt) (ss_g f s) (32 - (k + 1)) (k + 1) (i + 1 - 1)) else _) = _
      rw [if_pos (by omega), if_neg (by omega), Nat.add_sub_cancel]
      grobner
theorem ss_Y_sh_z {post : Int32 → SY → Prop} {f : Nat → ss_F} {s : Nat} (hs : s < 5) (x : Int32) (p : ∀ m, post 1 (ss_em (ss_b f s 32 (ss_hh (ss_z x.toInt) (ss_g f s) 32 0)), m)) : ∀ d i m, i + d = 32 → ss_A m (fun _ => 0) i → wY_shift_12 post (nI s) x (d + 1) (nI i) (ss_em f) m := by
  intro d
  induction d with
  | zero =>
    intro i m hi hm
    have : i = 32 := by omega
    subst this
    exact br_t (by decide) ⟨33, ss_Y_sh_lp hs x p 32 m 31 (Nat.le_refl 32) (by decide) (ss_A_congr hm (fun j _ => rfl))⟩
  | succ d ih =>
    intro i m hi hm
    exact br_f (nI_ge (b := 32) (by omega) (by decide)) ⟨vp_in_nI (by omega) (by decide), nm_r (e' := upd m i 0) (by rw [ss_ci (by omega)]) (nm_r (nI_1 i) (ih (i + 1) _ (by omega) (ss_A_s hm ss_e0.symm)))⟩
theorem i_vc_shift {k : Nat} {u : SX} {v : SY} (I : i_Rel k u v) (hk : k + 5 ≤ 2560) (v1 : Int32) (v2 : Int32) : wpX_shift (fun r u' => wpY_shift (fun r' v' => r' = r ∧ i_Rel (k + 5) u' v') v v1 v2) u v1 v2 := by
  obtain ⟨f, le, ri, re, ot, sl, lp, rp, lW, rW, pt, lL, rL, pL, m, rfl, rfl, hP⟩ := I
  rcases ss_ser v1 with h | ⟨s, hs, rfl⟩
  · unfold wpX_shift wpY_shift
    exact ss_XserF h (br_t rfl (ss_YserF h (br_t rfl ⟨rfl, ss_R hP⟩)))
  · unfold wpX_shift
    refine ss_XserT hs (br_f ss_10 (ss_ld_left hs (fun x hx => ss_Xr (ss_LV_any v2) ⟨32, ss_X_sh_lp hs (fun y => ?_) 31 0 x (ss_g f s) rfl hx (ss_Sh0 _ _)⟩)))
    unfold wpY_shift
    exact ss_YserT hs (br_f ss_10 ⟨33, ss_Y_sh_z hs v2 (fun m => ⟨rfl, ss_R hP⟩) 32 0 m rfl (ss_A_0 _ _)⟩)
