/-! the points: differences, Newton's form -/
def ss_Ak (d : Nat → ss_F) (k : Nat) : Nat → ss_F := fun x => ss_dv d (if x < k then x else k) x
def ss_Bj (d : Nat → ss_F) (k j : Nat) : Nat → ss_F := fun x => if j ≤ x then ss_dv d (k + 1) x else ss_Ak d k x
theorem ss_Ak_ge (d : Nat → ss_F) {k x : Nat} (h : k ≤ x) : ss_Ak d k x = ss_dv d k x := by
  unfold ss_Ak
  rw [if_neg (by omega)]
theorem ss_Bj_end (d : Nat → ss_F) (k x : Nat) : ss_Bj d k (k + 1) x = ss_Ak d (k + 1) x := by
  unfold ss_Bj
  by_cases h : k + 1 ≤ x
  · rw [if_pos h, ss_Ak_ge d h]
  · rw [if_neg h]
    unfold ss_Ak
    rw [if_pos (show x < k + 1 by omega)]
    by_cases e : x < k
    · rw [if_pos e]
    · rw [if_neg e, show x = k from by omega]
theorem ss_dd_in {post : SX → Prop} {J : Int32 → (Nat → Int32) → (Nat → Int32) → (Nat → Int32) → (Nat → Int32) → (Nat → Int32) → (Nat → Int32) → (Nat → Int32) → (Nat → Int32) → (Nat → Int32) → (Nat → Int32) → (Nat → Int32) → (Nat → Int32) → (Nat → Int32) → (Nat → Int32) → Prop} {d : Nat → ss_F} {c le ri re ot sl lp rp lW rW lL rL pL : Nat → Int32} {k : Nat} (hk : k < 62) (h : ∀ y, ss_A y (ss_Ak d (k + 1)) 63 → J (nI (k + 1 + 1)) c le ri re ot sl lp rp lW rW y lL rL pL) : ∀ e j y z, k + 1 + e = j → j ≤ 63 → z = ss_m j → ss_A y (ss_Bj d k j) 63 → wX_divideDifferences_16 post J (nI (k + 1)) (ss_e (ss_i (ss_n (k + 1)))) (e + 1) z c le ri re ot sl lp rp lW rW y lL rL pL := by
  intro e
  induction e with
  | zero =>
    intro j y z hj _ hz hy
    have : j = k + 1 := by omega
    subst this
    subst hz
    exact br_t (ss_m_lt (k + 1) (by omega)) (nm_r (nI_1 (k + 1)) (h y (ss_A_congr hy (fun x _ => ss_Bj_end d k x))))
  | succ e ih =>
    intro j y z hj hj2 hz hy
    obtain ⟨n, rfl⟩ : ∃ n, j = n + 1 := ⟨j - 1, by omega⟩
    subst hz
    rw [ss_m_s]
    have e1 : nI n - 1 = nI (n - 1) := ss_n1I (by omega)
    have LV : ss_LV ((y (nI n).toNatClampNeg - y (nI n - 1).toNatClampNeg) * ss_e (ss_i (ss_n (k + 1)))).toInt64 (ss_dv d (k + 1) n) ((12288 + 12288) * 12288) := by
      rw [e1, ss_ci (by omega), ss_ci (by omega), hy n (by omega), hy (n - 1) (by omega), ← ss_dv_s d hk (x := n) (by omega)]
      have v1 : ss_Bj d k (n + 1) n = ss_dv d k n := (if_neg (by omega)).trans (ss_Ak_ge d (by omega))
      have v2 : ss_Bj d k (n + 1) (n - 1) = ss_dv d k (n - 1) := (if_neg (by omega)).trans (ss_Ak_ge d (by omega))
      rw [v1, v2]
      exact ss_IV_L (ss_IV_mul (ss_IV_sub (ss_IV_e _) (ss_IV_e _)) (ss_IV_e _))
    refine br_f (nI_nlt (by omega) (by omega)) ⟨vp_in_nI (by omega) (by decide), ?_, ss_Xr LV ⟨vp_in_nI (by omega) (by decide), nm_r (e' := upd y n (ss_e (ss_dv d (k + 1) n))) (by rw [ss_ci (by omega)]) (nm_e (ih n _ _ (by omega) (by omega) rfl (ss_A_congr (ss_A_u hy rfl) ?_)))⟩⟩
    · rw [e1]
      exact vp_in_nI (by omega) (by decide)
    · intro x _
      by_cases ex : x = n
      · subst ex
        rw [ss_us]
        exact (if_pos (Nat.le_refl x)).symm
      · rw [ss_un ex]
        unfold ss_Bj
        by_cases g : n ≤ x
        · rw [if_pos g, if_pos (by omega)]
        · rw [if_neg g, if_neg (by omega)]
theorem ss_dd_lp {post : SX → Prop} {d : Nat → ss_F} {c le ri re ot sl lp rp lW rW lL rL pL : Nat → Int32} (h : ∀ y, ss_A y d 63 → post (c, le, ri, re, ot, sl, lp, rp, lW, rW, y, lL, rL, pL)) : ∀ e k y, k + e = 62 → ss_A y (ss_Ak d k) 63 → wX_divideDifferences_2 post (e + 1) (nI (k + 1)) c le ri re ot sl lp rp lW rW y lL rL pL := by
  intro e
  induction e with
  | zero =>
    intro k y hk hy
    have : k = 62 := by omega
    subst this
    refine br_t (by decide) (h y (ss_A_congr hy (fun x hx => ?_)))
    unfold ss_Ak
    by_cases g : x < 62
    · rw [if_pos g]
      exact ss_dv_d d hx
    · rw [if_neg g, show x = 62 from by omega]
      exact ss_dv_d d (by decide)
  | succ e ih =>
    intro k y hk hy
    have e3 : nI (k + 1) = ss_e (ss_n (k + 1)) := ss_ne (by omega)
    have gl : ∀ P : Int32 → Prop, P (ss_e (ss_i (ss_n (k + 1)))) → wpX_inverse P (nI (k + 1)) := fun P hP => by rw [e3]; exact ss_Xi hP
    refine br_f (nI_ge (b := 63) (by omega) (by decide)) (gl _ ⟨62 - k + 1, ss_dd_in (by omega) (fun y' hy' => ih (k + 1) y' (by omega) hy') (62 - k) 63 y 62 (by omega) (Nat.le_refl 63) (by decide) (ss_A_congr hy (fun x hx => ?_))⟩)
    exact (if_neg (by omega)).symm
theorem ss_dd {post : SX → Prop} {d : Nat → ss_F} {c le ri re ot sl lp rp lW rW pt lL rL pL : Nat → Int32} (hy : ss_A pt (ss_dv d 0) 63) (h : ∀ y, ss_A y d 63 → post (c, le, ri, re, ot, sl, lp, rp, lW, rW, y, lL, rL, pL)) : wpX_divideDifferences post (c, le, ri, re, ot, sl, lp, rp, lW, rW, pt, lL, rL, pL) := ⟨63, ss_dd_lp h 62 0 pt rfl (ss_A_congr hy (fun x _ => (ss_Ak_ge d (Nat.zero_le x)).symm))⟩
theorem ss_en_result_in {post : SX → Prop} {J : Int32 → (Nat → Int32) → (Nat → Int32) → (Nat → Int32) → (Nat → Int32) → (Nat → Int32) → (Nat → Int32) → (Nat → Int32) → (Nat → Int32) → (Nat → Int32) → (Nat → Int32) → (Nat → Int32) → (Nat → Int32) → (Nat → Int32) → (Nat → Int32) → Prop} {d : Nat → ss_F} {c le ri ot sl lp rp lW rW pt lL rL pL : Nat → Int32} {L k : Nat} (hk : k < 63) (hp : ss_A pt d 63) (h : ∀ x, ss_A x (ss_nw d (L + 1) k) 32 → J (ss_m k) c le ri x ot sl lp rp lW rW pt lL rL pL) : ∀ j x, j < 32 → ss_A x (fun i => if j < i then ss_nw d (L + 1) k i else ss_nw d L (k + 1) i) 32 → wX_expandNewton__result_28 post J (nI k) (j + 1) (nI j) c le ri x ot sl lp rp lW rW pt lL rL pL := by
  intro j
  induction j with
  | zero =>
    intro x _ hx
    have LV : ss_LV (pt (nI k).toNatClampNeg - nI k * x 0).toInt64 (ss_nw d (L + 1) k 0) (12288 + k * 12288) := by
      rw [ss_ci (by omega), hp k hk, hx 0 (by decide)]
      dsimp only
      rw [if_neg (Nat.lt_irrefl 0), ss_nw_0]
      exact ss_IV_L (ss_IV_sub (ss_IV_e _) (ss_IV_mul (ss_IV_n k (by omega)) (ss_IV_e _) (by omega)) (by omega))
    refine br_t (by decide) ⟨vp_in_nI hk (by decide), ss_Xr LV (nm_e (nm_e (h _ (ss_A_congr (ss_A_u hx rfl) ?_))))⟩
    intro i _
    by_cases e : i = 0
    · subst e
      exact ss_us _ _ _
    · rw [ss_un e, if_pos (by omega)]
  | succ j ih =>
    intro x hj hx
    have e1 : nI (j + 1) - 1 = nI j := nI_pred j
    have LV : ss_LV (x (nI (j + 1) - 1).toNatClampNeg - nI k * x (nI (j + 1)).toNatClampNeg).toInt64 (ss_nw d (L + 1) k (j + 1)) (12288 + k * 12288) := by
      rw [e1, ss_ci (by omega), ss_ci (by omega), hx j (by omega), hx (j + 1) (by omega)]
      dsimp only
      rw [if_neg (by omega), if_neg (by omega), ss_nw_s]
      exact ss_IV_L (ss_IV_sub (ss_IV_e _) (ss_IV_mul (ss_IV_n k (by omega)) (ss_IV_e _) (by omega)) (by omega))
    refine br_f (nI_nle (by omega) (by omega)) ⟨?_, vp_in_nI (by omega) (by decide), ss_Xr LV ⟨vp_in_nI (by omega) (by decide), nm_r (e' := upd x (j + 1) (ss_e (ss_nw d (L + 1) k (j + 1)))) (by rw [ss_ci (by omega)]) (nm_r (pk_m1 j) (ih _ (by omega) (ss_A_congr (ss_A_u hx rfl) ?_)))⟩⟩
    · rw [e1]
      exact vp_in_nI (by omega) (by decide)
    · intro i _
      by_cases e : i = j + 1
      · subst e
        rw [ss_us, if_pos (by omega)]
      · rw [ss_un e]
        by_cases g : j < i
        · rw [if_pos g, if_pos (by omega)]
        · rw [if_neg g, if_neg (by omega)]
theorem ss_en_result_lp {post : SX → Prop} {d : Nat → ss_F} {c le ri ot sl lp rp lW rW pt lL rL pL : Nat → Int32} (hp : ss_A pt d 63) (h : ∀ x, ss_A x (ss_nw d 63 0) 32 → post (c, le, ri, x, ot, sl, lp, rp, lW, rW, pt, lL, rL, pL)) : ∀ K x z, K ≤ 63 → z = ss_m K → ss_A x (ss_nw d (63 - K) K) 32 → wX_expandNewton__result_21 post (K + 1) z c le ri x ot sl lp rp lW rW pt lL rL pL := by
  intro K
  induction K with
  | zero =>
    intro x z _ hz hx
    subst hz
    exact br_t (by decide) (h x hx)
  | succ k ih =>
    intro x z hk hz hx
    subst hz
    rw [ss_m_s]
    refine br_f (nI_pos (by omega)) ⟨32, ss_en_result_in (L := 63 - (k + 1)) (by omega) hp (fun x' hx' => ih x' _ (by omega) rfl ?_) 31 x (by decide) (ss_A_congr hx (fun i hi => (if_neg (by omega)).symm))⟩
    rw [show 63 - k = 63 - (k + 1) + 1 from by omega]
    exact hx'
theorem ss_en_result_z {post : SX → Prop} {d : Nat → ss_F} {c le ri ot sl lp rp lW rW pt lL rL pL : Nat → Int32} (hp : ss_A pt d 63) (h : ∀ x, ss_A x (ss_nw d 63 0) 32 → post (c, le, ri, x, ot, sl, lp, rp, lW, rW, pt, lL, rL, pL)) : ∀ e i x, i + e = 32 → ss_A x (fun _ => 0) i → wX_expandNewton__result_2 post (e + 1) (nI i) c le ri x ot sl lp rp lW rW pt lL rL pL := by
  intro e
  induction e with
  | zero =>
    intro i x hi hx
    have : i = 32 := by omega
    subst this
    exact br_t (by decide) ⟨64, ss_en_result_lp hp h 63 x 62 (Nat.le_refl 63) (by decide) (ss_A_congr hx (fun j _ => rfl))⟩
  | succ e ih =>
    intro i x hi hx
    exact br_f (nI_ge (b := 32) (by omega) (by decide)) ⟨vp_in_nI (by omega) (by decide), nm_r (e' := upd x i 0) (by rw [ss_ci (by omega)]) (nm_r (nI_1 i) (ih (i + 1) _ (by omega) (ss_A_s hx ss_e0.symm)))⟩
theorem ss_en_result {post : SX → Prop} {d : Nat → ss_F} {c le ri re ot sl lp rp lW rW pt lL rL pL : Nat → Int32} (hp : ss_A pt d 63) (h : ∀ x, ss_A x (ss_nw d 63 0) 32 → post (c, le, ri, x, ot, sl, lp, rp, lW, rW, pt, lL, rL, pL)) : wpX_expandNewton__result post (c, le, ri, re, ot, sl, lp, rp, lW, rW, pt, lL, rL, pL) := ⟨33, ss_en_result_z hp h 32 0 re rfl (ss_A_0 _ _)⟩
theorem ss_E3_result_lp {post : SX → Prop} {l r d : Nat → ss_F} {c le ri re ot sl lp rp lW rW lL rL pL : Nat → Int32} (hl : ss_A le l 32) (hr : ss_A ri r 32) (hv : ∀ x, ss_v 32 l (ss_n x) * ss_v 32 r (ss_n x) = ss_dv d 0 x) (hd : ∀ n, n < 32 → ss_nw d 63 0 n = ss_c l r n) (h : ∀ x y, ss_A x (ss_c l r) 32 → post (c, le, ri, x, ot, sl, lp, rp, lW, rW, y, lL, rL, pL)) : ∀ e n y, n + e = 63 → ss_A y (ss_dv d 0) n → wX_multiplyByPoints__result_2 post (e + 1) (nI n) c le ri re ot sl lp rp lW rW y lL rL pL := by
  intro e
  induction e with
  | zero =>
    intro n y hn hy
    have : n = 63 := by omega
    subst this
    exact br_t (by decide) (ss_dd hy (fun y' hy' => ss_en_result hy' (fun x hx => h x y' (ss_A_congr hx hd))))
  | succ e ih =>
    intro n y hn hy
    have e3 : nI n = ss_e (ss_n n) := ss_ne (by omega)
    have gl : ∀ P : Int32 → Prop, P (ss_e (ss_v 32 l (ss_n n))) → wpX_valueAt__left P (c, le, ri, re, ot, sl, lp, rp, lW, rW, y, lL, rL, pL) (nI n) := fun P hP => by rw [e3]; exact ss_va_left hl hP
    have gr : ∀ P : Int32 → Prop, P (ss_e (ss_v 32 r (ss_n n))) → wpX_valueAt__right P (c, le, ri, re, ot, sl, lp, rp, lW, rW, y, lL, rL, pL) (nI n) := fun P hP => by rw [e3]; exact ss_va_right hr hP
    refine br_f (nI_ge (b := 63) (by omega) (by decide)) (gl _ (gr _ ⟨ss_pI, vp_in_nI (by omega) (by decide), nm_r (e' := upd y n (ss_e (ss_dv d 0 n))) ?_ (nm_r (nI_1 n) (ih (n + 1) _ (by omega) (ss_A_s hy rfl)))⟩))
    rw [ss_ci (by omega), ← hv n]
    exact congrArg (upd y n) (ss_NV_rem (ss_NV_mul (ss_NV_e _) (ss_NV_e _)))
theorem ss_E3_result {post : SX → Prop} {l r : Nat → ss_F} {c le ri re ot sl lp rp lW rW pt lL rL pL : Nat → Int32} (hl : ss_A le l 32) (hr : ss_A ri r 32) (h : ∀ x y, ss_A x (ss_c l r) 32 → post (c, le, ri, x, ot, sl, lp, rp, lW, rW, y, lL, rL, pL)) : wpX_multiplyByPoints__result post (c, le, ri, re, ot, sl, lp, rp, lW, rW, pt, lL, rL, pL) := by
  obtain ⟨d, hv, hd⟩ := ss_newton l r
  exact ⟨64, ss_E3_result_lp hl hr hv hd h 63 0 pt rfl (ss_A_0 _ _)⟩
theorem ss_en_otherResult_in {post : SX → Prop} {J : Int32 → (Nat → Int32) → (Nat → Int32) → (Nat → Int32) → (Nat → Int32) → (Nat → Int32) → (Nat → Int32) → (Nat → Int32) → (Nat → Int32) → (Nat → Int32) → (Nat → Int32) → (Nat → Int32) → (Nat → Int32) → (Nat → Int32) → (Nat → Int32) → Prop} {d : Nat → ss_F} {c le ri re sl lp rp lW rW pt lL rL pL : Nat → Int32} {L k : Nat} (hk : k < 63) (hp : ss_A pt d 63) (h : ∀ x, ss_A x (ss_nw d (L + 1) k) 32 → J (ss_m k) c le ri re x sl lp rp lW rW pt lL rL pL) : ∀ j x, j < 32 → ss_A x (fun i => if j < i then ss_nw d (L + 1) k i else ss_nw d L (k + 1) i) 32 → wX_expandNewton__otherResult_28 post J (nI k) (j + 1) (nI j) c le ri re x sl lp rp lW rW pt lL rL pL := by
  intro j
  induction j with
  | zero =>
    intro x _ hx
    have LV : ss_LV (pt (nI k).toNatClampNeg - nI k * x 0).toInt64 (ss_nw d (L + 1) k 0) (12288 + k * 12288) := by
      rw [ss_ci (by omega), hp k hk, hx 0 (by decide)]
      dsimp only
      rw [if_neg (Nat.lt_irrefl 0), ss_nw_0]
      exact ss_IV_L (ss_IV_sub (ss_IV_e _) (ss_IV_mul (ss_IV_n k (by omega)) (ss_IV_e _) (by omega)) (by omega))
    refine br_t (by decide) ⟨vp_in_nI hk (by decide), ss_Xr LV (nm_e (nm_e (h _ (ss_A_congr (ss_A_u hx rfl) ?_))))⟩
    intro i _
    by_cases e : i = 0
    · subst e
      exact ss_us _ _ _
    · rw [ss_un e, if_pos (by omega)]
  | succ j ih =>
    intro x hj hx
    have e1 : nI (j + 1) - 1 = nI j := nI_pred j
    have LV : ss_LV (x (nI (j + 1) - 1).toNatClampNeg - nI k * x (nI (j + 1)).toNatClampNeg).toInt64 (ss_nw d (L + 1) k (j + 1)) (12288 + k * 12288) := by
      rw [e1, ss_ci (by omega), ss_ci (by omega), hx j (by omega), hx (j + 1) (by omega)]
      dsimp only
      rw [if_neg (by omega), if_neg (by omega), ss_nw_s]
      exact ss_IV_L (ss_IV_sub (ss_IV_e _) (ss_IV_mul (ss_IV_n k (by omega)) (ss_IV_e _) (by omega)) (by omega))
    refine br_f (nI_nle (by omega) (by omega)) ⟨?_, vp_in_nI (by omega) (by decide), ss_Xr LV ⟨vp_in_nI (by omega) (by decide), nm_r (e' := upd x (j + 1) (ss_e (ss_nw d (L + 1) k (j + 1)))) (by rw [ss_ci (by omega)]) (nm_r (pk_m1 j) (ih _ (by omega) (ss_A_congr (ss_A_u hx rfl) ?_)))⟩⟩
    · rw [e1]
      exact vp_in_nI (by omega) (by decide)
    · intro i _
      by_cases e : i = j + 1
      · subst e
        rw [ss_us, if_pos (by omega)]
      · rw [ss_un e]
        by_cases g : j < i
        · rw [if_pos g, if_pos (by omega)]
        · rw [if_neg g, if_neg (by omega)]
theorem ss_en_otherResult_lp {post : SX → Prop} {d : Nat → ss_F} {c le ri re sl lp rp lW rW pt lL rL pL : Nat → Int32} (hp : ss_A pt d 63) (h : ∀ x, ss_A x (ss_nw d 63 0) 32 → post (c, le, ri, re, x, sl, lp, rp, lW, rW, pt, lL, rL, pL)) : ∀ K x z, K ≤ 63 → z = ss_m K → ss_A x (ss_nw d (63 - K) K) 32 → wX_expandNewton__otherResult_21 post (K + 1) z c le ri re x sl lp rp lW rW pt lL rL pL := by
  intro K
  induction K with
  | zero =>
    intro x z _ hz hx
    subst hz
    exact br_t (by decide) (h x hx)
  | succ k ih =>
    intro x z hk hz hx
    subst hz
    rw [ss_m_s]
    refine br_f (nI_pos (by omega)) ⟨32, ss_en_otherResult_in (L := 63 - (k + 1)) (by omega) hp (fun x' hx' => ih x' _ (by omega) rfl ?_) 31 x (by decide) (ss_A_congr hx (fun i hi => (if_neg (by omega)).symm))⟩
    rw [show 63 - k = 63 - (k + 1) + 1 from by omega]
    exact hx'
theorem ss_en_otherResult_z {post : SX → Prop} {d : Nat → ss_F} {c le ri re sl lp rp lW rW pt lL rL pL : Nat → Int32} (hp : ss_A pt d 63) (h : ∀ x, ss_A x (ss_nw d 63 0) 32 → post (c, le, ri, re, x, sl, lp, rp, lW, rW, pt, lL, rL, pL)) : ∀ e i x, i + e = 32 → ss_A x (fun _ => 0) i → wX_expandNewton__otherResult_2 post (e + 1) (nI i) c le ri re x sl lp rp lW rW pt lL rL pL := by
  intro e
  induction e with
  | zero =>
    intro i x hi hx
    have : i = 32 := by omega
    subst this
    exact br_t (by decide) ⟨64, ss_en_otherResult_lp hp h 63 x 62 (Nat.le_refl 63) (by decide) (ss_A_congr hx (fun j _ => rfl))⟩
  | succ e ih =>
    intro i x hi hx
    exact br_f (nI_ge (b := 32) (by omega) (by decide)) ⟨vp_in_nI (by omega) (by decide), nm_r (e' := upd x i 0) (by rw [ss_ci (by omega)]) (nm_r (nI_1 i) (ih (i + 1) _ (by omega) (ss_A_s hx ss_e0.symm)))⟩
theorem ss_en_otherResult {post : SX → Prop} {d : Nat → ss_F} {c le ri re ot sl lp rp lW rW pt lL rL pL : Nat → Int32} (hp : ss_A pt d 63) (h : ∀ x, ss_A x (ss_nw d 63 0) 32 → post (c, le, ri, re, x, sl, lp, rp, lW, rW, pt, lL, rL, pL)) : wpX_expandNewton__otherResult post (c, le, ri, re, ot, sl, lp, rp, lW, rW, pt, lL, rL, pL) := ⟨33, ss_en_otherResult_z hp h 32 0 ot rfl (ss_A_0 _ _)⟩
theorem ss_E3_otherResult_lp {post : SX → Prop} {l r d : Nat → ss_F} {c le ri re ot sl lp rp lW rW lL rL pL : Nat → Int32} (hl : ss_A le l 32) (hr : ss_A ri r 32) (hv : ∀ x, ss_v 32 l (ss_n x) * ss_v 32 r (ss_n x) = ss_dv d 0 x) (hd : ∀ n, n < 32 → ss_nw d 63 0 n = ss_c l r n) (h : ∀ x y, ss_A x (ss_c l r) 32 → post (c, le, ri, re, x, sl, lp, rp, lW, rW, y, lL, rL, pL)) : ∀ e n y, n + e = 63 → ss_A y (ss_dv d 0) n → wX_multiplyByPoints__otherResult_2 post (e + 1) (nI n) c le ri re ot sl lp rp lW rW y lL rL pL := by
  intro e
  induction e with
  | zero =>
    intro n y hn hy
    have : n = 63 := by omega
    subst this
    exact br_t (by decide) (ss_dd hy (fun y' hy' => ss_en_otherResult hy' (fun x hx => h x y' (ss_A_congr hx hd))))
  | succ e ih =>
    intro n y hn hy
    have e3 : nI n = ss_e (ss_n n) := ss_ne (by omega)
    have gl : ∀ P : Int32 → Prop, P (ss_e (ss_v 32 l (ss_n n))) → wpX_valueAt__left P (c, le, ri, re, ot, sl, lp, rp, lW, rW, y, lL, rL, pL) (nI n) := fun P hP => by rw [e3]; exact ss_va_left hl hP
    have gr : ∀ P : Int32 → Prop, P (ss_e (ss_v 32 r (ss_n n))) → wpX_valueAt__right P (c, le, ri, re, ot, sl, lp, rp, lW, rW, y, lL, rL, pL) (nI n) := fun P hP => by rw [e3]; exact ss_va_right hr hP
    refine br_f (nI_ge (b := 63) (by omega) (by decide)) (gl _ (gr _ ⟨ss_pI, vp_in_nI (by omega) (by decide), nm_r (e' := upd y n (ss_e (ss_dv d 0 n))) ?_ (nm_r (nI_1 n) (ih (n + 1) _ (by omega) (ss_A_s hy rfl)))⟩))
    rw [ss_ci (by omega), ← hv n]
    exact congrArg (upd y n) (ss_NV_rem (ss_NV_mul (ss_NV_e _) (ss_NV_e _)))
theorem ss_E3_otherResult {post : SX → Prop} {l r : Nat → ss_F} {c le ri re ot sl lp rp lW rW pt lL rL pL : Nat → Int32} (hl : ss_A le l 32) (hr : ss_A ri r 32) (h : ∀ x y, ss_A x (ss_c l r) 32 → post (c, le, ri, re, x, sl, lp, rp, lW, rW, y, lL, rL, pL)) : wpX_multiplyByPoints__otherResult post (c, le, ri, re, ot, sl, lp, rp, lW, rW, pt, lL, rL, pL) := by
  obtain ⟨d, hv, hd⟩ := ss_newton l r
  exact ⟨64, ss_E3_otherResult_lp hl hr hv hd h 63 0 pt rfl (ss_A_0 _ _)⟩
