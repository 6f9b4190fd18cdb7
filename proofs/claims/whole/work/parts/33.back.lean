/-! the way back, and the product by the transform -/
theorem ss_jh_lp {post : SX → Prop} {A : Nat → ss_F} {h st : Nat} {ρ : ss_F} (hh : ss_H h) (hst : st % (2 * h) = 0) (hb : st + 2 * h ≤ 64) {c le ri re ot sl lp rp rW pt lL rL pL : Nat → Int32} (P : ∀ y, ss_A y (ss_mp (st + 2 * h) h 0 (ss_jn h ρ A) A) 64 → post (c, le, ri, re, ot, sl, lp, rp, y, rW, pt, lL, rL, pL)) : ∀ d q y, q + d = h → ss_A y (ss_mp st h q (ss_jn h ρ A) A) 64 → wX_joinHalves__leftWide_6 post (nI st) (nI h) (ss_e ρ) (d + 1) (ss_e (ss_p ρ q)) (nI (st + q)) c le ri re ot sl lp rp y rW pt lL rL pL := by
  have h32 := ss_H32 hh
  intro d
  induction d with
  | zero =>
    intro q y hq hy
    have : q = h := by omega
    subst this
    exact br_t (by rw [nI_add]; exact nI_le (Nat.le_refl _) (by omega)) (P y (ss_A_congr hy (fun j _ => ss_mp_e st q _ _ j)))
  | succ d ih =>
    intro q y hq hy
    have hq' : q < h := by omega
    have e1 : nI (st + q) + nI h = nI (st + q + h) := nI_add _ _
    have i1 : vp_in (nI (st + q)) 64 := vp_in_nI (by omega) (by decide)
    have i2 : vp_in (nI (st + q) + nI h) 64 := by rw [e1]; exact vp_in_nI (by omega) (by decide)
    have v1 : y (nI (st + q)).toNatClampNeg = ss_e (A (st + q)) := by rw [ss_ci (by omega), hy _ (by omega), ss_mp_lo hq']
    have v2 : y (nI (st + q) + nI h).toNatClampNeg = ss_e (A (st + q + h)) := by rw [e1, ss_ci (by omega), hy _ (by omega), ss_mp_hi hq']
    refine br_f (by rw [nI_add]; exact nI_ge (by omega) (by omega)) ⟨i2, ss_pI, nm_r (e' := ss_e (A (st + q + h) * ss_p ρ q)) (by rw [v2]; exact ss_NV_rem (ss_NV_mul (ss_NV_e _) (ss_NV_e _))) ⟨i1, nm_r (e' := ss_e (A (st + q)) - ss_e (A (st + q + h) * ss_p ρ q) + 12289) (by rw [v1]) ⟨i1, ss_pI, i1, nm_r (e' := upd y (st + q) (ss_e (ss_jn h ρ A (st + q)))) ?_ ⟨ss_pI, i2, nm_r (e' := upd (upd y (st + q) (ss_e (ss_jn h ρ A (st + q)))) (st + q + h) (ss_e (ss_jn h ρ A (st + q + h)))) ?_ ⟨ss_pI, nm_r (ss_NV_rem (ss_NV_mul (ss_NV_e (ss_p ρ q)) (ss_NV_e ρ))) (nm_r (nI_1 (st + q)) (ih (q + 1) _ (by omega) (ss_mp_s hy hq' rfl rfl)))⟩⟩⟩⟩⟩
    · rw [v1, ss_ci (by omega), ss_jn_lo hh hst hq']
      exact congrArg (upd y (st + q)) (ss_NV_rem (ss_NV_add (ss_NV_e _) (ss_NV_e _)))
    · rw [e1, ss_ci (by omega), ss_jn_hi hh hst hq']
      exact congrArg (upd _ (st + q + h)) (ss_NV_rem (ss_NV_sb _ _))
theorem ss_jh {post : SX → Prop} {A : Nat → ss_F} {h st : Nat} {ρ : ss_F} (hh : ss_H h) (hst : st % (2 * h) = 0) (hb : st + 2 * h ≤ 64) {c le ri re ot sl lp rp lW rW pt lL rL pL : Nat → Int32} (hy : ss_A lW (ss_mp st h 0 (ss_jn h ρ A) A) 64) (P : ∀ y, ss_A y (ss_mp (st + 2 * h) h 0 (ss_jn h ρ A) A) 64 → post (c, le, ri, re, ot, sl, lp, rp, y, rW, pt, lL, rL, pL)) : wpX_joinHalves__leftWide post (c, le, ri, re, ot, sl, lp, rp, lW, rW, pt, lL, rL, pL) (nI st) (nI h) (ss_e ρ) := by
  have k := ss_jh_lp hh hst hb P h 0 lW (by omega) hy
  exact ⟨h + 1, k⟩
theorem ss_tb_in {post : SX → Prop} {J : Int32 → (Nat → Int32) → (Nat → Int32) → (Nat → Int32) → (Nat → Int32) → (Nat → Int32) → (Nat → Int32) → (Nat → Int32) → (Nat → Int32) → (Nat → Int32) → (Nat → Int32) → (Nat → Int32) → (Nat → Int32) → (Nat → Int32) → (Nat → Int32) → Prop} {A : Nat → ss_F} {L h : Nat} {ρ : ss_F} (hL : L < 6) (hh : ss_H h) (h64 : 2 ^ L * (2 * h) = 64) {c le ri re ot sl lp rp rW pt lL rL pL : Nat → Int32} (P : ∀ y, ss_A y (ss_jn h ρ A) 64 → J (ss_m L) c le ri re ot sl lp rp y rW pt lL rL pL) : ∀ d b y, b + d = 2 ^ L → ss_A y (ss_mp (b * (2 * h)) h 0 (ss_jn h ρ A) A) 64 → wX_transformBack__leftWide_24 post J (nI L) (nI h) (ss_e ρ) (d + 1) (nI b) c le ri re ot sl lp rp y rW pt lL rL pL := by
  have p32 := ss_bkp L hL
  intro d
  induction d with
  | zero =>
    intro b y hb hy
    have : b = 2 ^ L := by omega
    subst this
    rw [h64] at hy
    exact br_t (by rw [ss_bk1 L hL]; exact nI_le (Nat.le_refl _) (by omega)) (nm_e (P y (ss_A_congr hy (fun j hj => ss_mp_64 h _ _ hj))))
  | succ d ih =>
    intro b y hb hy
    have m : (b + 1) * (2 * h) ≤ 2 ^ L * (2 * h) := Nat.mul_le_mul_right _ (by omega)
    rw [h64, Nat.add_mul, Nat.one_mul] at m
    refine br_f (by rw [ss_bk1 L hL]; exact nI_ge (by omega) (by omega)) ?_
    rw [ss_st2]
    refine ss_jh hh (Nat.mul_mod_left _ _) m hy (fun y' hy' => nm_r (nI_1 b) (ih (b + 1) y' (by omega) ?_))
    rw [Nat.add_mul, Nat.one_mul]
    exact hy'
theorem ss_bks : ∀ k, k < 6 → 32 / 2 ^ k = 2 ^ (5 - k) ∧ 5 - (5 - k) = k ∧ 6 - k = 5 - k + 1 ∧ 6 - (k + 1) = 5 - k := by decide
theorem ss_tb_lp {post : SX → Prop} {A : Nat → ss_F} {c le ri re ot sl lp rp rW pt lL rL pL : Nat → Int32} (P : ∀ y, ss_A y (ss_Bk A 6) 64 → post (c, le, ri, re, ot, sl, lp, rp, y, rW, pt, lL, rL, pL)) : ∀ K y z, K ≤ 6 → z = ss_m K → ss_A y (ss_Bk A (6 - K)) 64 → wX_transformBack__leftWide_2 post (K + 1) z c le ri re ot sl lp rp y rW pt lL rL pL := by
  intro K
  induction K with
  | zero =>
    intro y z _ hz hy
    subst hz
    exact br_t (by decide) (P y hy)
  | succ k ih =>
    intro y z hk hz hy
    subst hz
    rw [ss_m_s]
    have p32 := ss_bkp k (by omega)
    obtain ⟨b1, b2, b3, b4⟩ := ss_bks k (by omega)
    have gl : ∀ Q : Int32 → Prop, Q (ss_e (ss_p ss_wi (2 ^ k))) → wpX_power Q 9650 ((1 : Int32) <<< (nI k &&& 31)) := fun Q hQ => by
      rw [ss_bk1 k (by omega), show (9650 : Int32) = ss_e ss_wi from by decide]
      exact ss_Xpow (by omega) hQ
    rw [b4] at hy
    refine br_f (nI_pos (by omega)) (nm_r (ss_bk2 k (by omega)) (gl _ ⟨2 ^ k + 1, ss_tb_in (A := ss_Bk A (5 - k)) (by omega) (ss_bkH k (by omega)) (ss_bk64 k (by omega)) (fun y' hy' => ih y' _ (by omega) rfl ?_) (2 ^ k) 0 y (by omega) (ss_A_congr hy (fun j _ => by rw [Nat.zero_mul, ss_mp_0]))⟩))
    rw [b3]
    show ss_A y' (ss_jn (2 ^ (5 - k)) (ss_p ss_wi (2 ^ (5 - (5 - k)))) (ss_Bk A (5 - k))) 64
    rw [b2, ← b1]
    exact hy'
theorem ss_tb {post : SX → Prop} {A : Nat → ss_F} {c le ri re ot sl lp rp lW rW pt lL rL pL : Nat → Int32} (hy : ss_A lW A 64) (P : ∀ y, ss_A y (ss_Bk A 6) 64 → post (c, le, ri, re, ot, sl, lp, rp, y, rW, pt, lL, rL, pL)) : wpX_transformBack__leftWide post (c, le, ri, re, ot, sl, lp, rp, lW, rW, pt, lL, rL, pL) := ⟨7, ss_tb_lp P 6 lW 5 (Nat.le_refl 6) (by decide) hy⟩
theorem ss_E2_result_out {post : SX → Prop} {g B : Nat → ss_F} {c le ri ot sl lp rp lW rW pt lL rL pL : Nat → Int32} (hy : ss_A lW B 64) (hB : ∀ n, n < 32 → B n * ss_n 12097 = g n) (h : ∀ x, ss_A x g 32 → post (c, le, ri, x, ot, sl, lp, rp, lW, rW, pt, lL, rL, pL)) : ∀ d n x, n + d = 32 → ss_A x g n → wX_multiplyByTransform__result_82 post (d + 1) (nI n) c le ri x ot sl lp rp lW rW pt lL rL pL := by
  intro d
  induction d with
  | zero =>
    intro n x hn hx
    have : n = 32 := by omega
    subst this
    exact br_t (by decide) (h x hx)
  | succ d ih =>
    intro n x hn hx
    refine br_f (nI_ge (b := 32) (by omega) (by decide)) ⟨vp_in_nI (by omega) (by decide), ss_pI, vp_in_nI (by omega) (by decide), nm_r (e' := upd x n (ss_e (g n))) ?_ (nm_r (nI_1 n) (ih (n + 1) _ (by omega) (ss_A_s hx rfl)))⟩
    rw [ss_ci (by omega), hy n (by omega), ← hB n (by omega)]
    exact congrArg (upd x n) (ss_NV_rem (ss_NV_mul (ss_NV_e _) (ss_NV_n 12097)))
theorem ss_E2_result_lp {post : SX → Prop} {l r : Nat → ss_F} {c le ri re ot sl lp rp rW pt lL rL pL : Nat → Int32} (hr : ss_A rW (ss_T (ss_k r) 6) 64) (h : ∀ x y, ss_A x (ss_c l r) 32 → post (c, le, ri, x, ot, sl, lp, rp, y, rW, pt, lL, rL, pL)) : ∀ d n y, n + d = 64 → ss_A y (fun j => if j < n then ss_T (ss_k l) 6 j * ss_T (ss_k r) 6 j else ss_T (ss_k l) 6 j) 64 → wX_multiplyByTransform__result_38 post (d + 1) (nI n) c le ri re ot sl lp rp y rW pt lL rL pL := by
  intro d
  induction d with
  | zero =>
    intro n y hn hy
    have : n = 64 := by omega
    subst this
    exact br_t (by decide) (ss_tb hy (fun y' hy' => ⟨33, ss_E2_result_out hy' (fun n hn => ss_ntt l r _ (fun j hj => if_pos hj) hn) (fun x hx => h x y' hx) 32 0 _ rfl (ss_A_0 _ _)⟩))
  | succ d ih =>
    intro n y hn hy
    refine br_f (nI_ge (b := 64) (by omega) (by decide)) ⟨vp_in_nI (by omega) (by decide), vp_in_nI (by omega) (by decide), ss_pI, vp_in_nI (by omega) (by decide), nm_r (e' := upd y n (ss_e (ss_T (ss_k l) 6 n * ss_T (ss_k r) 6 n))) ?_ (nm_r (nI_1 n) (ih (n + 1) _ (by omega) (ss_A_congr (ss_A_u hy rfl) ?_)))⟩
    · rw [ss_ci (by omega), hy n (by omega), hr n (by omega)]
      dsimp only
      rw [if_neg (Nat.lt_irrefl n)]
      exact congrArg (upd y n) (ss_NV_rem (ss_NV_mul (ss_NV_e _) (ss_NV_e _)))
    · intro j _
      by_cases e : j = n
      · subst e
        rw [ss_us, if_pos (by omega)]
      · rw [ss_un e]
        by_cases g : j < n
        · rw [if_pos g, if_pos (by omega)]
        · rw [if_neg g, if_neg (by omega)]
theorem ss_E2_result {post : SX → Prop} {l r : Nat → ss_F} {c le ri re ot sl lp rp lW rW pt lL rL pL : Nat → Int32} (hl : ss_A le l 32) (hr : ss_A ri r 32) (h : ∀ x a b, ss_A x (ss_c l r) 32 → post (c, le, ri, x, ot, sl, lp, rp, a, b, pt, lL, rL, pL)) : wpX_multiplyByTransform__result post (c, le, ri, re, ot, sl, lp, rp, lW, rW, pt, lL, rL, pL) := by
  unfold wpX_multiplyByTransform__result
  exact ss_wd_left_leftWide hl (fun a ha => ss_wd_right_rightWide hr (fun b hb => ss_tr_leftWide ha (fun a' ha' => ss_tr_rightWide hb (fun b' hb' => ⟨65, ss_E2_result_lp hb' (fun x y hx => h x y b' hx) 64 0 a' rfl (ss_A_congr ha' (fun j _ => (if_neg (by omega)).symm))⟩))))
theorem ss_E2_otherResult_out {post : SX → Prop} {g B : Nat → ss_F} {c le ri re sl lp rp lW rW pt lL rL pL : Nat → Int32} (hy : ss_A lW B 64) (hB : ∀ n, n < 32 → B n * ss_n 12097 = g n) (h : ∀ x, ss_A x g 32 → post (c, le, ri, re, x, sl, lp, rp, lW, rW, pt, lL, rL, pL)) : ∀ d n x, n + d = 32 → ss_A x g n → wX_multiplyByTransform__otherResult_82 post (d + 1) (nI n) c le ri re x sl lp rp lW rW pt lL rL pL := by
  intro d
  induction d with
  | zero =>
    intro n x hn hx
    have : n = 32 := by omega
    subst this
    exact br_t (by decide) (h x hx)
  | succ d ih =>
    intro n x hn hx
    refine br_f (nI_ge (b := 32) (by omega) (by decide)) ⟨vp_in_nI (by omega) (by decide), ss_pI, vp_in_nI (by omega) (by decide), nm_r (e' := upd x n (ss_e (g n))) ?_ (nm_r (nI_1 n) (ih (n + 1) _ (by omega) (ss_A_s hx rfl)))⟩
    rw [ss_ci (by omega), hy n (by omega), ← hB n (by omega)]
    exact congrArg (upd x n) (ss_NV_rem (ss_NV_mul (ss_NV_e _) (ss_NV_n 12097)))
theorem ss_E2_otherResult_lp {post : SX → Prop} {l r : Nat → ss_F} {c le ri re ot sl lp rp rW pt lL rL pL : Nat → Int32} (hr : ss_A rW (ss_T (ss_k r) 6) 64) (h : ∀ x y, ss_A x (ss_c l r) 32 → post (c, le, ri, re, x, sl, lp, rp, y, rW, pt, lL, rL, pL)) : ∀ d n y, n + d = 64 → ss_A y (fun j => if j < n then ss_T (ss_k l) 6 j * ss_T (ss_k r) 6 j else ss_T (ss_k l) 6 j) 64 → wX_multiplyByTransform__otherResult_38 post (d + 1) (nI n) c le ri re ot sl lp rp y rW pt lL rL pL := by
  intro d
  induction d with
  | zero =>
    intro n y hn hy
    have : n = 64 := by omega
    subst this
    exact br_t (by decide) (ss_tb hy (fun y' hy' => ⟨33, ss_E2_otherResult_out hy' (fun n hn => ss_ntt l r _ (fun j hj => if_pos hj) hn) (fun x hx => h x y' hx) 32 0 _ rfl (ss_A_0 _ _)⟩))
  | succ d ih =>
    intro n y hn hy
    refine br_f (nI_ge (b := 64) (by omega) (by decide)) ⟨vp_in_nI (by omega) (by decide), vp_in_nI (by omega) (by decide), ss_pI, vp_in_nI (by omega) (by decide), nm_r (e' := upd y n (ss_e (ss_T (ss_k l) 6 n * ss_T (ss_k r) 6 n))) ?_ (nm_r (nI_1 n) (ih (n + 1) _ (by omega) (ss_A_congr (ss_A_u hy rfl) ?_)))⟩
    · rw [ss_ci (by omega), hy n (by omega), hr n (by omega)]
      dsimp only
      rw [if_neg (Nat.lt_irrefl n)]
      exact congrArg (upd y n) (ss_NV_rem (ss_NV_mul (ss_NV_e _) (ss_NV_e _)))
    · intro j _
      by_cases e : j = n
      · subst e
        rw [ss_us, if_pos (by omega)]
      · rw [ss_un e]
        by_cases g : j < n
        · rw [if_pos g, if_pos (by omega)]
        · rw [if_neg g, if_neg (by omega)]
theorem ss_E2_otherResult {post : SX → Prop} {l r : Nat → ss_F} {c le ri re ot sl lp rp lW rW pt lL rL pL : Nat → Int32} (hl : ss_A le l 32) (hr : ss_A ri r 32) (h : ∀ x a b, ss_A x (ss_c l r) 32 → post (c, le, ri, re, x, sl, lp, rp, a, b, pt, lL, rL, pL)) : wpX_multiplyByTransform__otherResult post (c, le, ri, re, ot, sl, lp, rp, lW, rW, pt, lL, rL, pL) := by
  unfold wpX_multiplyByTransform__otherResult
  exact ss_wd_left_leftWide hl (fun a ha => ss_wd_right_rightWide hr (fun b hb => ss_tr_leftWide ha (fun a' ha' => ss_tr_rightWide hb (fun b' hb' => ⟨65, ss_E2_otherResult_lp hb' (fun x y hx => h x y b' hx) 64 0 a' rfl (ss_A_congr ha' (fun j _ => (if_neg (by omega)).symm))⟩))))
