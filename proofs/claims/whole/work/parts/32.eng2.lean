/-! the transform -/
theorem ss_NV_sb (a b : ss_F) : ss_NV (ss_e a - ss_e b + 12289) (a - b) 24577 := by
  have ha := a.isLt
  have hb := b.isLt
  refine ⟨a.val + (12289 - b.val), ?_, ?_, by omega⟩
  · have e : nI a.val + nI 12289 - nI b.val = nI (a.val + (12289 - b.val)) := by
      rw [nI_add, pk_sub (by omega)]
      congr 1
      omega
    rw [← e]
    show nI a.val - nI b.val + nI 12289 = nI a.val + nI 12289 - nI b.val
    grind
  · rw [ss_n_add, ss_n_of]
    have e : ss_n (12289 - b.val) + b = 0 := by
      have k := ss_n_add (12289 - b.val) b.val
      rw [ss_n_of, show 12289 - b.val + b.val = 12289 from by omega] at k
      rw [← k]
      decide +kernel
    generalize ss_n (12289 - b.val) = x at e
    grobner
theorem ss_wd_left_leftWide_lp {post : SX → Prop} {l : Nat → ss_F} {c le ri re ot sl lp rp rW pt lL rL pL : Nat → Int32} (hl : ss_A le l 32) (h : ∀ y, ss_A y (ss_k l) 64 → post (c, le, ri, re, ot, sl, lp, rp, y, rW, pt, lL, rL, pL)) : ∀ d n y, n + d = 32 → (∀ j, j < n ∨ (32 ≤ j ∧ j < 32 + n) → y j = ss_e (ss_k l j)) → wX_widen__left_leftWide_2 post (d + 1) (nI n) c le ri re ot sl lp rp y rW pt lL rL pL := by
  intro d
  induction d with
  | zero =>
    intro n y hn hy
    have : n = 32 := by omega
    subst this
    exact br_t (by decide) (h y (fun j hj => hy j (by omega)))
  | succ d ih =>
    intro n y hn hy
    have e1 : nI n + 32 = nI (n + 32) := nI_add n 32
    refine br_f (nI_ge (b := 32) (by omega) (by decide)) ⟨vp_in_nI (by omega) (by decide), vp_in_nI (by omega) (by decide), nm_r (e' := upd y n (ss_e (l n))) (by rw [ss_ci (by omega), hl n (by omega)]) ⟨?_, nm_r (e' := upd (upd y n (ss_e (l n))) (n + 32) 0) (by rw [e1, ss_ci (by omega)]) (nm_r (nI_1 n) (ih (n + 1) _ (by omega) ?_))⟩⟩
    · rw [e1]
      exact vp_in_nI (by omega) (by decide)
    · intro j hj
      by_cases c1 : j = n + 32
      · subst c1
        rw [pk_us, ss_k_ge (by omega), ss_e0]
      · rw [pk_un c1]
        by_cases c2 : j = n
        · subst c2
          rw [pk_us, ss_k_lt (by omega)]
        · rw [pk_un c2]
          exact hy j (by omega)
theorem ss_wd_left_leftWide {post : SX → Prop} {l : Nat → ss_F} {c le ri re ot sl lp rp lW rW pt lL rL pL : Nat → Int32} (hl : ss_A le l 32) (h : ∀ y, ss_A y (ss_k l) 64 → post (c, le, ri, re, ot, sl, lp, rp, y, rW, pt, lL, rL, pL)) : wpX_widen__left_leftWide post (c, le, ri, re, ot, sl, lp, rp, lW, rW, pt, lL, rL, pL) := ⟨33, ss_wd_left_leftWide_lp hl h 32 0 lW rfl (fun j hj => absurd hj (by omega))⟩
theorem ss_wd_right_rightWide_lp {post : SX → Prop} {l : Nat → ss_F} {c le ri re ot sl lp rp lW pt lL rL pL : Nat → Int32} (hl : ss_A ri l 32) (h : ∀ y, ss_A y (ss_k l) 64 → post (c, le, ri, re, ot, sl, lp, rp, lW, y, pt, lL, rL, pL)) : ∀ d n y, n + d = 32 → (∀ j, j < n ∨ (32 ≤ j ∧ j < 32 + n) → y j = ss_e (ss_k l j)) → wX_widen__right_rightWide_2 post (d + 1) (nI n) c le ri re ot sl lp rp lW y pt lL rL pL := by
  intro d
  induction d with
  | zero =>
    intro n y hn hy
    have : n = 32 := by omega
    subst this
    exact br_t (by decide) (h y (fun j hj => hy j (by omega)))
  | succ d ih =>
    intro n y hn hy
    have e1 : nI n + 32 = nI (n + 32) := nI_add n 32
    refine br_f (nI_ge (b := 32) (by omega) (by decide)) ⟨vp_in_nI (by omega) (by decide), vp_in_nI (by omega) (by decide), nm_r (e' := upd y n (ss_e (l n))) (by rw [ss_ci (by omega), hl n (by omega)]) ⟨?_, nm_r (e' := upd (upd y n (ss_e (l n))) (n + 32) 0) (by rw [e1, ss_ci (by omega)]) (nm_r (nI_1 n) (ih (n + 1) _ (by omega) ?_))⟩⟩
    · rw [e1]
      exact vp_in_nI (by omega) (by decide)
    · intro j hj
      by_cases c1 : j = n + 32
      · subst c1
        rw [pk_us, ss_k_ge (by omega), ss_e0]
      · rw [pk_un c1]
        by_cases c2 : j = n
        · subst c2
          rw [pk_us, ss_k_lt (by omega)]
        · rw [pk_un c2]
          exact hy j (by omega)
theorem ss_wd_right_rightWide {post : SX → Prop} {l : Nat → ss_F} {c le ri re ot sl lp rp lW rW pt lL rL pL : Nat → Int32} (hl : ss_A ri l 32) (h : ∀ y, ss_A y (ss_k l) 64 → post (c, le, ri, re, ot, sl, lp, rp, lW, y, pt, lL, rL, pL)) : wpX_widen__right_rightWide post (c, le, ri, re, ot, sl, lp, rp, lW, rW, pt, lL, rL, pL) := ⟨33, ss_wd_right_rightWide_lp hl h 32 0 rW rfl (fun j hj => absurd hj (by omega))⟩
/-- a level under way: the block that begins at st has q pairs done, those ahead of it are done -/
def ss_mp (st h q : Nat) (f g : Nat → ss_F) : Nat → ss_F := fun j => if j < st + q ∨ (st + h ≤ j ∧ j < st + h + q) then f j else g j
theorem ss_mp_s {y : Nat → Int32} {st h q : Nat} {f g : Nat → ss_F} {u v : Int32} (hy : ss_A y (ss_mp st h q f g) 64) (hq : q < h) (hu : u = ss_e (f (st + q))) (hv : v = ss_e (f (st + q + h))) : ss_A (upd (upd y (st + q) u) (st + q + h) v) (ss_mp st h (q + 1) f g) 64 := by
  intro j hj
  by_cases c1 : j = st + q + h
  · subst c1
    rw [pk_us, hv]
    exact congrArg ss_e (if_pos (by omega)).symm
  · rw [pk_un c1]
    by_cases c2 : j = st + q
    · subst c2
      rw [pk_us, hu]
      exact congrArg ss_e (if_pos (by omega)).symm
    · rw [pk_un c2, hy j hj]
      unfold ss_mp
      by_cases c3 : j < st + q ∨ (st + h ≤ j ∧ j < st + h + q)
      · rw [if_pos c3, if_pos (by omega)]
      · rw [if_neg c3, if_neg (by omega)]
theorem ss_mp_e (st h : Nat) (f g : Nat → ss_F) (j : Nat) : ss_mp st h h f g j = ss_mp (st + 2 * h) h 0 f g j := by
  unfold ss_mp
  by_cases c : j < st + 2 * h
  · rw [if_pos (by omega), if_pos (by omega)]
  · rw [if_neg (by omega), if_neg (by omega)]
theorem ss_mp_0 (h : Nat) (f g : Nat → ss_F) (j : Nat) : ss_mp 0 h 0 f g j = g j := if_neg (by omega)
theorem ss_mp_64 (h : Nat) (f g : Nat → ss_F) {j : Nat} (hj : j < 64) : ss_mp 64 h 0 f g j = f j := if_pos (by omega)
theorem ss_mp_lo {st h q : Nat} {f g : Nat → ss_F} (hq : q < h) : ss_mp st h q f g (st + q) = g (st + q) := if_neg (by omega)
theorem ss_mp_hi {st h q : Nat} {f g : Nat → ss_F} (hq : q < h) : ss_mp st h q f g (st + q + h) = g (st + q + h) := if_neg (by omega)
theorem ss_md {h : Nat} (hh : ss_H h) {st q : Nat} (hst : st % (2 * h) = 0) (hq : q < h) : (st + q) % (2 * h) = q ∧ (st + q + h) % (2 * h) = q + h := by
  rcases hh with rfl | rfl | rfl | rfl | rfl | rfl <;> omega
theorem ss_pt_lo {h : Nat} (hh : ss_H h) {st q : Nat} (hst : st % (2 * h) = 0) (hq : q < h) (ρ : ss_F) (A : Nat → ss_F) : ss_pt h ρ A (st + q) = A (st + q) + A (st + q + h) := by
  unfold ss_pt
  rw [(ss_md hh hst hq).1, if_pos hq]
theorem ss_pt_hi {h : Nat} (hh : ss_H h) {st q : Nat} (hst : st % (2 * h) = 0) (hq : q < h) (ρ : ss_F) (A : Nat → ss_F) : ss_pt h ρ A (st + q + h) = (A (st + q) - A (st + q + h)) * ss_p ρ q := by
  unfold ss_pt
  rw [(ss_md hh hst hq).2, if_neg (by omega), Nat.add_sub_cancel, Nat.add_sub_cancel]
theorem ss_jn_lo {h : Nat} (hh : ss_H h) {st q : Nat} (hst : st % (2 * h) = 0) (hq : q < h) (ρ : ss_F) (A : Nat → ss_F) : ss_jn h ρ A (st + q) = A (st + q) + A (st + q + h) * ss_p ρ q := by
  unfold ss_jn
  rw [(ss_md hh hst hq).1, if_pos hq]
theorem ss_jn_hi {h : Nat} (hh : ss_H h) {st q : Nat} (hst : st % (2 * h) = 0) (hq : q < h) (ρ : ss_F) (A : Nat → ss_F) : ss_jn h ρ A (st + q + h) = A (st + q) - A (st + q + h) * ss_p ρ q := by
  unfold ss_jn
  rw [(ss_md hh hst hq).2, if_neg (by omega), Nat.add_sub_cancel, Nat.add_sub_cancel]
theorem ss_H32 {h : Nat} (hh : ss_H h) : h ≤ 32 := by
  rcases hh with rfl | rfl | rfl | rfl | rfl | rfl <;> omega
theorem ss_bk1 : ∀ L, L < 6 → (1 : Int32) <<< (nI L &&& 31) = nI (2 ^ L) := by decide
theorem ss_bk2 : ∀ L, L < 6 → (32 : Int32) >>> (nI L &&& 31) = nI (32 / 2 ^ L) := by decide
theorem ss_bkH : ∀ L, L < 6 → ss_H (32 / 2 ^ L) := by unfold ss_H; decide
theorem ss_bk64 : ∀ L, L < 6 → 2 ^ L * (2 * (32 / 2 ^ L)) = 64 := by decide
theorem ss_bkp : ∀ L, L < 6 → 2 ^ L ≤ 32 := by decide
theorem ss_st2 (b h : Nat) : nI b * 2 * nI h = nI (b * (2 * h)) := by
  rw [show (2 : Int32) = nI 2 from rfl, pk_mul, pk_mul, Nat.mul_assoc]
theorem ss_ph_leftWide_lp {post : SX → Prop} {A : Nat → ss_F} {h st : Nat} {ρ : ss_F} (hh : ss_H h) (hst : st % (2 * h) = 0) (hb : st + 2 * h ≤ 64) {c le ri re ot sl lp rp rW pt lL rL pL : Nat → Int32} (P : ∀ y, ss_A y (ss_mp (st + 2 * h) h 0 (ss_pt h ρ A) A) 64 → post (c, le, ri, re, ot, sl, lp, rp, y, rW, pt, lL, rL, pL)) : ∀ d q y, q + d = h → ss_A y (ss_mp st h q (ss_pt h ρ A) A) 64 → wX_partHalves__leftWide_6 post (nI st) (nI h) (ss_e ρ) (d + 1) (ss_e (ss_p ρ q)) (nI (st + q)) c le ri re ot sl lp rp y rW pt lL rL pL := by
  have h32 := ss_H32 hh
  intro d
  induction d with
  | zero =>
    intro q y hq hy
    have : q = h := by omega
    subst this
    exact br_t (by rw [nI_add]; exact nI_le (Nat.le_refl _) (by omega)) (P y (ss_A_congr hy (fun j _ => ss_mp_e st q _ _ j)))
  | succ d ih =>
    intro q y hq hy
    have hq' : q < h := by omega
    have e1 : nI (st + q) + nI h = nI (st + q + h) := nI_add _ _
    have i1 : vp_in (nI (st + q)) 64 := vp_in_nI (by omega) (by decide)
    have i2 : vp_in (nI (st + q) + nI h) 64 := by rw [e1]; exact vp_in_nI (by omega) (by decide)
    have v1 : y (nI (st + q)).toNatClampNeg = ss_e (A (st + q)) := by rw [ss_ci (by omega), hy _ (by omega), ss_mp_lo hq']
    have v2 : y (nI (st + q) + nI h).toNatClampNeg = ss_e (A (st + q + h)) := by rw [e1, ss_ci (by omega), hy _ (by omega), ss_mp_hi hq']
    refine br_f (by rw [nI_add]; exact nI_ge (by omega) (by omega)) ⟨i1, i2, nm_r (e' := ss_e (A (st + q)) + ss_e (A (st + q + h))) (by rw [v1, v2]) ⟨i1, i2, nm_r (e' := ss_e (A (st + q)) - ss_e (A (st + q + h)) + 12289) (by rw [v1, v2]) ⟨ss_pI, i1, nm_r (e' := upd y (st + q) (ss_e (ss_pt h ρ A (st + q)))) ?_ ⟨ss_pI, i2, nm_r (e' := upd (upd y (st + q) (ss_e (ss_pt h ρ A (st + q)))) (st + q + h) (ss_e (ss_pt h ρ A (st + q + h)))) ?_ ⟨ss_pI, nm_r (ss_NV_rem (ss_NV_mul (ss_NV_e (ss_p ρ q)) (ss_NV_e ρ))) (nm_r (nI_1 (st + q)) (ih (q + 1) _ (by omega) (ss_mp_s hy hq' rfl rfl)))⟩⟩⟩⟩⟩
    · rw [ss_ci (by omega), ss_pt_lo hh hst hq']
      exact congrArg (upd y (st + q)) (ss_NV_rem (ss_NV_add (ss_NV_e _) (ss_NV_e _)))
    · rw [e1, ss_ci (by omega), ss_pt_hi hh hst hq']
      exact congrArg (upd _ (st + q + h)) (ss_NV_rem (ss_NV_mul (ss_NV_sb _ _) (ss_NV_e _)))
theorem ss_ph_leftWide {post : SX → Prop} {A : Nat → ss_F} {h st : Nat} {ρ : ss_F} (hh : ss_H h) (hst : st % (2 * h) = 0) (hb : st + 2 * h ≤ 64) {c le ri re ot sl lp rp lW rW pt lL rL pL : Nat → Int32} (hy : ss_A lW (ss_mp st h 0 (ss_pt h ρ A) A) 64) (P : ∀ y, ss_A y (ss_mp (st + 2 * h) h 0 (ss_pt h ρ A) A) 64 → post (c, le, ri, re, ot, sl, lp, rp, y, rW, pt, lL, rL, pL)) : wpX_partHalves__leftWide post (c, le, ri, re, ot, sl, lp, rp, lW, rW, pt, lL, rL, pL) (nI st) (nI h) (ss_e ρ) := by
  have k := ss_ph_leftWide_lp hh hst hb P h 0 lW (by omega) hy
  exact ⟨h + 1, k⟩
theorem ss_tr_leftWide_in {post : SX → Prop} {J : Int32 → (Nat → Int32) → (Nat → Int32) → (Nat → Int32) → (Nat → Int32) → (Nat → Int32) → (Nat → Int32) → (Nat → Int32) → (Nat → Int32) → (Nat → Int32) → (Nat → Int32) → (Nat → Int32) → (Nat → Int32) → (Nat → Int32) → (Nat → Int32) → Prop} {A : Nat → ss_F} {L h : Nat} {ρ : ss_F} (hL : L < 6) (hh : ss_H h) (h64 : 2 ^ L * (2 * h) = 64) {c le ri re ot sl lp rp rW pt lL rL pL : Nat → Int32} (P : ∀ y, ss_A y (ss_pt h ρ A) 64 → J (nI (L + 1)) c le ri re ot sl lp rp y rW pt lL rL pL) : ∀ d b y, b + d = 2 ^ L → ss_A y (ss_mp (b * (2 * h)) h 0 (ss_pt h ρ A) A) 64 → wX_transform__leftWide_26 post J (nI L) (nI h) (ss_e ρ) (d + 1) (nI b) c le ri re ot sl lp rp y rW pt lL rL pL := by
  have p32 := ss_bkp L hL
  intro d
  induction d with
  | zero =>
    intro b y hb hy
    have : b = 2 ^ L := by omega
    subst this
    rw [h64] at hy
    exact br_t (by rw [ss_bk1 L hL]; exact nI_le (Nat.le_refl _) (by omega)) (nm_r (nI_1 L) (P y (ss_A_congr hy (fun j hj => ss_mp_64 h _ _ hj))))
  | succ d ih =>
    intro b y hb hy
    have m : (b + 1) * (2 * h) ≤ 2 ^ L * (2 * h) := Nat.mul_le_mul_right _ (by omega)
    rw [h64, Nat.add_mul, Nat.one_mul] at m
    refine br_f (by rw [ss_bk1 L hL]; exact nI_ge (by omega) (by omega)) ?_
    rw [ss_st2]
    refine ss_ph_leftWide hh (Nat.mul_mod_left _ _) m hy (fun y' hy' => nm_r (nI_1 b) (ih (b + 1) y' (by omega) ?_))
    rw [Nat.add_mul, Nat.one_mul]
    exact hy'
theorem ss_tr_leftWide_lp {post : SX → Prop} {A : Nat → ss_F} {c le ri re ot sl lp rp rW pt lL rL pL : Nat → Int32} (P : ∀ y, ss_A y (ss_T A 6) 64 → post (c, le, ri, re, ot, sl, lp, rp, y, rW, pt, lL, rL, pL)) : ∀ d L y, L + d = 6 → ss_A y (ss_T A L) 64 → wX_transform__leftWide_2 post (d + 1) (nI L) c le ri re ot sl lp rp y rW pt lL rL pL := by
  intro d
  induction d with
  | zero =>
    intro L y hL hy
    have : L = 6 := by omega
    subst this
    exact br_t (by decide) (P y hy)
  | succ d ih =>
    intro L y hL hy
    have p32 := ss_bkp L (by omega)
    have gl : ∀ Q : Int32 → Prop, Q (ss_e (ss_p ss_w (2 ^ L))) → wpX_power Q 7311 ((1 : Int32) <<< (nI L &&& 31)) := fun Q hQ => by
      rw [ss_bk1 L (by omega), show (7311 : Int32) = ss_e ss_w from by decide]
      exact ss_Xpow (by omega) hQ
    exact br_f (nI_ge (b := 6) (by omega) (by decide)) (nm_r (ss_bk2 L (by omega)) (gl _ ⟨2 ^ L + 1, ss_tr_leftWide_in (by omega) (ss_bkH L (by omega)) (ss_bk64 L (by omega)) (fun y' hy' => ih (L + 1) y' (by omega) hy') (2 ^ L) 0 y (by omega) (ss_A_congr hy (fun j _ => by rw [Nat.zero_mul, ss_mp_0]))⟩))
theorem ss_tr_leftWide {post : SX → Prop} {A : Nat → ss_F} {c le ri re ot sl lp rp lW rW pt lL rL pL : Nat → Int32} (hy : ss_A lW A 64) (P : ∀ y, ss_A y (ss_T A 6) 64 → post (c, le, ri, re, ot, sl, lp, rp, y, rW, pt, lL, rL, pL)) : wpX_transform__leftWide post (c, le, ri, re, ot, sl, lp, rp, lW, rW, pt, lL, rL, pL) := ⟨7, ss_tr_leftWide_lp P 6 0 lW rfl hy⟩
theorem ss_ph_rightWide_lp {post : SX → Prop} {A : Nat → ss_F} {h st : Nat} {ρ : ss_F} (hh : ss_H h) (hst : st % (2 * h) = 0) (hb : st + 2 * h ≤ 64) {c le ri re ot sl lp rp lW pt lL rL pL : Nat → Int32} (P : ∀ y, ss_A y (ss_mp (st + 2 * h) h 0 (ss_pt h ρ A) A) 64 → post (c, le, ri, re, ot, sl, lp, rp, lW, y, pt, lL, rL, pL)) : ∀ d q y, q + d = h → ss_A y (ss_mp st h q (ss_pt h ρ A) A) 64 → wX_partHalves__rightWide_6 post (nI st) (nI h) (ss_e ρ) (d + 1) (ss_e (ss_p ρ q)) (nI (st + q)) c le ri re ot sl lp rp lW y pt lL rL pL := by
  have h32 := ss_H32 hh
  intro d
  induction d with
  | zero =>
    intro q y hq hy
    have : q = h := by omega
    subst this
    exact br_t (by rw [nI_add]; exact nI_le (Nat.le_refl _) (by omega)) (P y (ss_A_congr hy (fun j _ => ss_mp_e st q _ _ j)))
  | succ d ih =>
    intro q y hq hy
    have hq' : q < h := by omega
    have e1 : nI (st + q) + nI h = nI (st + q + h) := nI_add _ _
    have i1 : vp_in (nI (st + q)) 64 := vp_in_nI (by omega) (by decide)
    have i2 : vp_in (nI (st + q) + nI h) 64 := by rw [e1]; exact vp_in_nI (by omega) (by decide)
    have v1 : y (nI (st + q)).toNatClampNeg = ss_e (A (st + q)) := by rw [ss_ci (by omega), hy _ (by omega), ss_mp_lo hq']
    have v2 : y (nI (st + q) + nI h).toNatClampNeg = ss_e (A (st + q + h)) := by rw [e1, ss_ci (by omega), hy _ (by omega), ss_mp_hi hq']
    refine br_f (by rw [nI_add]; exact nI_ge (by omega) (by omega)) ⟨i1, i2, nm_r (e' := ss_e (A (st + q)) + ss_e (A (st + q + h))) (by rw [v1, v2]) ⟨i1, i2, nm_r (e' := ss_e (A (st + q)) - ss_e (A (st + q + h)) + 12289) (by rw [v1, v2]) ⟨ss_pI, i1, nm_r (e' := upd y (st + q) (ss_e (ss_pt h ρ A (st + q)))) ?_ ⟨ss_pI, i2, nm_r (e' := upd (upd y (st + q) (ss_e (ss_pt h ρ A (st + q)))) (st + q + h) (ss_e (ss_pt h ρ A (st + q + h)))) ?_ ⟨ss_pI, nm_r (ss_NV_rem (ss_NV_mul (ss_NV_e (ss_p ρ q)) (ss_NV_e ρ))) (nm_r (nI_1 (st + q)) (ih (q + 1) _ (by omega) (ss_mp_s hy hq' rfl rfl)))⟩⟩⟩⟩⟩
    · rw [ss_ci (by omega), ss_pt_lo hh hst hq']
      exact congrArg (upd y (st + q)) (ss_NV_rem (ss_NV_add (ss_NV_e _) (ss_NV_e _)))
    · rw [e1, ss_ci (by omega), ss_pt_hi hh hst hq']
      exact congrArg (upd _ (st + q + h)) (ss_NV_rem (ss_NV_mul (ss_NV_sb _ _) (ss_NV_e _)))
theorem ss_ph_rightWide {post : SX → Prop} {A : Nat → ss_F} {h st : Nat} {ρ : ss_F} (hh : ss_H h) (hst : st % (2 * h) = 0) (hb : st + 2 * h ≤ 64) {c le ri re ot sl lp rp lW rW pt lL rL pL : Nat → Int32} (hy : ss_A rW (ss_mp st h 0 (ss_pt h ρ A) A) 64) (P : ∀ y, ss_A y (ss_mp (st + 2 * h) h 0 (ss_pt h ρ A) A) 64 → post (c, le, ri, re, ot, sl, lp, rp, lW, y, pt, lL, rL, pL)) : wpX_partHalves__rightWide post (c, le, ri, re, ot, sl, lp, rp, lW, rW, pt, lL, rL, pL) (nI st) (nI h) (ss_e ρ) := by
  have k := ss_ph_rightWide_lp hh hst hb P h 0 rW (by omega) hy
  exact ⟨h + 1, k⟩
theorem ss_tr_rightWide_in {post : SX → Prop} {J : Int32 → (Nat → Int32) → (Nat → Int32) → (Nat → Int32) → (Nat → Int32) → (Nat → Int32) → (Nat → Int32) → (Nat → Int32) → (Nat → Int32) → (Nat → Int32) → (Nat → Int32) → (Nat → Int32) → (Nat → Int32) → (Nat → Int32) → (Nat → Int32) → Prop} {A : Nat → ss_F} {L h : Nat} {ρ : ss_F} (hL : L < 6) (hh : ss_H h) (h64 : 2 ^ L * (2 * h) = 64) {c le ri re ot sl lp rp lW pt lL rL pL : Nat → Int32} (P : ∀ y, ss_A y (ss_pt h ρ A) 64 → J (nI (L + 1)) c le ri re ot sl lp rp lW y pt lL rL pL) : ∀ d b y, b + d = 2 ^ L → ss_A y (ss_mp (b * (2 * h)) h 0 (ss_pt h ρ A) A) 64 → wX_transform__rightWide_26 post J (nI L) (nI h) (ss_e ρ) (d + 1) (nI b) c le ri re ot sl lp rp lW y pt lL rL pL := by
  have p32 := ss_bkp L hL
  intro d
  induction d with
  | zero =>
    intro b y hb hy
    have : b = 2 ^ L := by omega
    subst this
    rw [h64] at hy
    exact br_t (by rw [ss_bk1 L hL]; exact nI_le (Nat.le_refl _) (by omega)) (nm_r (nI_1 L) (P y (ss_A_congr hy (fun j hj => ss_mp_64 h _ _ hj))))
  | succ d ih =>
    intro b y hb hy
    have m : (b + 1) * (2 * h) ≤ 2 ^ L * (2 * h) := Nat.mul_le_mul_right _ (by omega)
    rw [h64, Nat.add_mul, Nat.one_mul] at m
    refine br_f (by rw [ss_bk1 L hL]; exact nI_ge (by omega) (by omega)) ?_
    rw [ss_st2]
    refine ss_ph_rightWide hh (Nat.mul_mod_left _ _) m hy (fun y' hy' => nm_r (nI_1 b) (ih (b + 1) y' (by omega) ?_))
    rw [Nat.add_mul, Nat.one_mul]
    exact hy'
theorem ss_tr_rightWide_lp {post : SX → Prop} {A : Nat → ss_F} {c le ri re ot sl lp rp lW pt lL rL pL : Nat → Int32} (P : ∀ y, ss_A y (ss_T A 6) 64 → post (c, le, ri, re, ot, sl, lp, rp, lW, y, pt, lL, rL, pL)) : ∀ d L y, L + d = 6 → ss_A y (ss_T A L) 64 → wX_transform__rightWide_2 post (d + 1) (nI L) c le ri re ot sl lp rp lW y pt lL rL pL := by
  intro d
  induction d with
  | zero =>
    intro L y hL hy
    have : L = 6 := by omega
    subst this
    exact br_t (by decide) (P y hy)
  | succ d ih =>
    intro L y hL hy
    have p32 := ss_bkp L (by omega)
    have gl : ∀ Q : Int32 → Prop, Q (ss_e (ss_p ss_w (2 ^ L))) → wpX_power Q 7311 ((1 : Int32) <<< (nI L &&& 31)) := fun Q hQ => by
      rw [ss_bk1 L (by omega), show (7311 : Int32) = ss_e ss_w from by decide]
      exact ss_Xpow (by omega) hQ
    exact br_f (nI_ge (b := 6) (by omega) (by decide)) (nm_r (ss_bk2 L (by omega)) (gl _ ⟨2 ^ L + 1, ss_tr_rightWide_in (by omega) (ss_bkH L (by omega)) (ss_bk64 L (by omega)) (fun y' hy' => ih (L + 1) y' (by omega) hy') (2 ^ L) 0 y (by omega) (ss_A_congr hy (fun j _ => by rw [Nat.zero_mul, ss_mp_0]))⟩))
theorem ss_tr_rightWide {post : SX → Prop} {A : Nat → ss_F} {c le ri re ot sl lp rp lW rW pt lL rL pL : Nat → Int32} (hy : ss_A rW A 64) (P : ∀ y, ss_A y (ss_T A 6) 64 → post (c, le, ri, re, ot, sl, lp, rp, lW, y, pt, lL, rL, pL)) : wpX_transform__rightWide post (c, le, ri, re, ot, sl, lp, rp, lW, rW, pt, lL, rL, pL) := ⟨7, ss_tr_rightWide_lp P 6 0 rW rfl hy⟩
