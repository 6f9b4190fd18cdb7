/-! Karatsuba's pieces -/
theorem ss_t1 : ∀ n, n < 32 → ∀ k, k < 5 → (nI n &&& nI (2 ^ k) = 0 ↔ n / 2 ^ k % 2 = 0) := by decide +kernel
theorem ss_t2 : ∀ n, n < 32 → ss_pc 5 n < 243 := by decide +kernel
theorem ss_t3 : ∀ n, n < 32 → ∀ j, j < 32 → ss_pc 5 n = ss_pc 5 j → n = j := by decide +kernel
theorem ss_t4 : ∀ k, k < 5 → 2 ^ k ≤ 16 ∧ 3 ^ k ≤ 81 ∧ 0 < 3 ^ k := by decide
theorem ss_t5 : ∀ a, a < 243 → ∀ k, k < 5 → a / 3 ^ k % 3 = 2 → 2 * 3 ^ k ≤ a ∧ (a - 3 ^ k) / 3 ^ k % 3 ≠ 2 ∧ (a - 2 * 3 ^ k) / 3 ^ k % 3 ≠ 2 := by decide +kernel
theorem ss_Xpc_lp {post : Int32 → Prop} {n : Nat} (hn : n < 32) (p : post (nI (ss_pc 5 n))) : ∀ d k, k + d = 5 → wX_pieceOfPlace_6 post (nI n) (d + 1) (nI (ss_pc k n)) (nI (3 ^ k)) (nI (2 ^ k)) := by
  intro d
  induction d with
  | zero =>
    intro k hk
    have : k = 5 := by omega
    subst this
    exact br_t (by decide) p
  | succ d ih =>
    intro k hk
    obtain ⟨t1, t2, t3⟩ := ss_t4 k (by omega)
    have m3 : nI (3 ^ k) * 3 = nI (3 ^ (k + 1)) := pk_mul (3 ^ k) 3
    have m2 : nI (2 ^ k) * 2 = nI (2 ^ (k + 1)) := pk_mul (2 ^ k) 2
    have nx := ih (k + 1) (by omega)
    have e : ss_pc (k + 1) n = ss_pc k n + n / 2 ^ k % 2 * 3 ^ k := rfl
    refine br_f (nI_ge (b := 32) (by omega) (by decide)) ?_
    by_cases z : n / 2 ^ k % 2 = 0
    · rw [e, z, Nat.zero_mul, Nat.add_zero] at nx
      exact br_t ((ss_t1 n hn k (by omega)).mpr z) (nm_r m3 (nm_r m2 nx))
    · rw [e, show n / 2 ^ k % 2 = 1 from by generalize n / 2 ^ k = q at z ⊢; omega, Nat.one_mul] at nx
      exact br_f (fun y => z ((ss_t1 n hn k (by omega)).mp y)) (nm_r (nI_add _ _) (nm_r m3 (nm_r m2 nx)))
theorem ss_Xpc {post : Int32 → Prop} {n : Nat} (hn : n < 32) (p : post (nI (ss_pc 5 n))) : wpX_pieceOfPlace post (nI n) := ⟨6, ss_Xpc_lp hn p 5 0 rfl⟩
theorem ss_dgt {a k : Nat} (ha : a < 243) (hk : k < 5) : nI a / nI (3 ^ k) - nI a / nI (3 ^ k) / 3 * 3 = nI (a / 3 ^ k % 3) := by
  obtain ⟨t1, t2, t3⟩ := ss_t4 k hk
  have h : a / 3 ^ k ≤ a := Nat.div_le_self _ _
  rw [pk_div (by omega) t3 (by omega)]
  exact pk_rem (d := 3) (by omega) (by decide) (by decide)
theorem ss_3k {k : Nat} (hk : k < 5) : ¬ nI (3 ^ k) = 0 := by
  obtain ⟨t1, t2, t3⟩ := ss_t4 k hk
  exact nI_ne0 t3 (by omega)
theorem ss_30 : ¬ (3 : Int32) = 0 := by decide
theorem ss_Xpp_lp {post : Int32 → Prop} {a : Nat} (ha : a < 243) (p : post (nI (ss_pN 5 a))) : ∀ d k, k + d = 5 → wX_powerOfPiece_6 post (nI a) (d + 1) (nI (ss_pN k a)) (nI (2 ^ k)) (nI (3 ^ k)) := by
  intro d
  induction d with
  | zero =>
    intro k hk
    have : k = 5 := by omega
    subst this
    exact br_t (by decide) p
  | succ d ih =>
    intro k hk
    obtain ⟨t1, t2, t3⟩ := ss_t4 k (by omega)
    have m3 : nI (3 ^ k) * 3 = nI (3 ^ (k + 1)) := pk_mul (3 ^ k) 3
    have m2 : nI (2 ^ k) * 2 = nI (2 ^ (k + 1)) := pk_mul (2 ^ k) 2
    have nx := ih (k + 1) (by omega)
    have e : ss_pN (k + 1) a = ss_pN k a + ss_wt (a / 3 ^ k % 3) * 2 ^ k := rfl
    rw [e] at nx
    have lt : a / 3 ^ k % 3 < 3 := Nat.mod_lt _ (by decide)
    refine br_f (nI_ge (b := 243) (by omega) (by decide)) ⟨ss_3k (by omega), ss_30, nm_r (ss_dgt ha (by omega)) ?_⟩
    generalize a / 3 ^ k % 3 = g at nx lt
    have c : g = 0 ∨ g = 1 ∨ g = 2 := by omega
    rcases c with rfl | rfl | rfl
    · rw [show ss_wt 0 * 2 ^ k = 0 from Nat.zero_mul _, Nat.add_zero] at nx
      exact br_f (by decide) (br_f (by decide) (nm_r m2 (nm_r m3 nx)))
    · refine br_t (by decide) (nm_r (e' := nI (ss_pN k a + 2 * 2 ^ k)) ?_ (nm_r m2 (nm_r m3 nx)))
      rw [show (2 : Int32) = nI 2 from rfl, pk_mul, nI_add]
    · rw [show ss_wt 2 * 2 ^ k = 2 ^ k from Nat.one_mul _] at nx
      exact br_f (by decide) (br_t (by decide) (nm_r (nI_add _ _) (nm_r m2 (nm_r m3 nx))))
theorem ss_Xpp {post : Int32 → Prop} {a : Nat} (ha : a < 243) (p : post (nI (ss_pN 5 a))) : wpX_powerOfPiece post (nI a) := ⟨6, ss_Xpp_lp ha p 5 0 rfl⟩
theorem ss_sd_left_leftPieces_in {post : SX → Prop} {J : Int32 → (Nat → Int32) → (Nat → Int32) → (Nat → Int32) → (Nat → Int32) → (Nat → Int32) → (Nat → Int32) → (Nat → Int32) → (Nat → Int32) → (Nat → Int32) → (Nat → Int32) → (Nat → Int32) → (Nat → Int32) → (Nat → Int32) → (Nat → Int32) → Prop} {V : Nat → ss_F} {c le ri re ot sl rp lW rW pt lL rL pL : Nat → Int32} {k : Nat} (hk : k < 5) (P : ∀ G, (∀ j, j < 243 → G j = ss_sp k V j) → J (nI (3 ^ (k + 1))) c le ri re ot sl (ss_em G) rp lW rW pt lL rL pL) : ∀ d a G, a + d = 243 → (∀ j, j < 243 → G j = if j < a then ss_sp k V j else V j) → wX_spreadPieces__left_leftPieces_36 post J (nI (3 ^ k)) (d + 1) (nI a) c le ri re ot sl (ss_em G) rp lW rW pt lL rL pL := by
  obtain ⟨t1, t2, t3⟩ := ss_t4 k hk
  intro d
  induction d with
  | zero =>
    intro a G ha hG
    have : a = 243 := by omega
    subst this
    exact br_t (by decide) (nm_r (pk_mul (3 ^ k) 3) (P G (fun j hj => by rw [hG j hj, if_pos hj])))
  | succ d ih =>
    intro a G ha hG
    have lt : a / 3 ^ k % 3 < 3 := Nat.mod_lt _ (by decide)
    have dg := ss_dgt (a := a) (k := k) (by omega) hk
    refine br_f (nI_ge (b := 243) (by omega) (by decide)) ⟨ss_3k hk, ss_30, ?_⟩
    by_cases z : a / 3 ^ k % 3 = 2
    · obtain ⟨r1, r2, r3⟩ := ss_t5 a (by omega) k hk z
      have e1 : nI a - nI (3 ^ k) = nI (a - 3 ^ k) := pk_sub (by omega)
      have e2 : nI a - 2 * nI (3 ^ k) = nI (a - 2 * 3 ^ k) := by
        rw [show (2 : Int32) = nI 2 from rfl, pk_mul, pk_sub r1]
      have g1 : G (a - 3 ^ k) = V (a - 3 ^ k) := by rw [hG _ (by omega), if_pos (by omega), ss_sp_f r2]
      have g2 : G (a - 2 * 3 ^ k) = V (a - 2 * 3 ^ k) := by rw [hG _ (by omega), if_pos (by omega), ss_sp_f r3]
      refine br_t (dg.trans (by rw [z]; rfl)) ⟨by rw [e1]; exact vp_in_nI (by omega) (by decide), by rw [e2]; exact vp_in_nI (by omega) (by decide), ss_pI, vp_in_nI (by omega) (by decide), nm_r (e' := ss_em (ss_u G a (ss_sp k V a))) ?_ (nm_r (nI_1 a) (ih (a + 1) _ (by omega) ?_))⟩
      · rw [e1, e2, ss_ci (by omega), ss_ci (by omega), ss_ci (by omega), ← ss_em_u, ss_sp_t z, ← g1, ← g2]
        exact congrArg (upd (ss_em G) a) (ss_NV_rem (ss_NV_add (ss_NV_e _) (ss_NV_e _)))
      · intro j hj
        by_cases e : j = a
        · subst e
          rw [ss_us, if_pos (by omega)]
        · rw [ss_un e, hG j hj]
          by_cases c : j < a
          · rw [if_pos c, if_pos (by omega)]
          · rw [if_neg c, if_neg (by omega)]
    · refine br_f (fun y => z ((nI_eq (by omega) (by decide)).mp (dg.symm.trans (y.trans (show (2 : Int32) = nI 2 from rfl))))) (nm_r (nI_1 a) (ih (a + 1) G (by omega) ?_))
      intro j hj
      rw [hG j hj]
      by_cases e : j = a
      · subst e
        rw [if_neg (Nat.lt_irrefl j), if_pos (by omega), ss_sp_f z]
      · by_cases c : j < a
        · rw [if_pos c, if_pos (by omega)]
        · rw [if_neg c, if_neg (by omega)]
theorem ss_sp_congrlp {k : Nat} {V U : Nat → ss_F} (h : ∀ j, j < 243 → V j = U j) : ∀ j, j < 243 → ss_sp k V j = ss_sp k U j := by
  intro j hj
  by_cases z : j / 3 ^ k % 3 = 2
  · rw [ss_sp_t z, ss_sp_t z, h _ (Nat.lt_of_le_of_lt (Nat.sub_le _ _) hj), h _ (Nat.lt_of_le_of_lt (Nat.sub_le _ _) hj)]
  · rw [ss_sp_f z, ss_sp_f z, h j hj]
theorem ss_sd_left_leftPieces_lp {post : SX → Prop} {v : Nat → ss_F} {c le ri re ot sl rp lW rW pt lL rL pL : Nat → Int32} (P : ∀ G, (∀ j, j < 243 → G j = ss_spN 5 v j) → post (c, le, ri, re, ot, sl, ss_em G, rp, lW, rW, pt, lL, rL, pL)) : ∀ d k G, k + d = 5 → (∀ j, j < 243 → G j = ss_spN k v j) → wX_spreadPieces__left_leftPieces_27 post (d + 1) (nI (3 ^ k)) c le ri re ot sl (ss_em G) rp lW rW pt lL rL pL := by
  intro d
  induction d with
  | zero =>
    intro k G hk hG
    have : k = 5 := by omega
    subst this
    exact br_t (by decide) (P G hG)
  | succ d ih =>
    intro k G hk hG
    obtain ⟨t1, t2, t3⟩ := ss_t4 k (by omega)
    exact br_f (nI_ge (b := 243) (by omega) (by decide)) ⟨244, ss_sd_left_leftPieces_in (V := G) (by omega) (fun G' hG' => ih (k + 1) G' (by omega) (fun j hj => (hG' j hj).trans (ss_sp_congrlp hG j hj))) 243 0 G rfl (fun j hj => (if_neg (by omega)).symm)⟩
theorem ss_sd_left_leftPieces_pl {post : SX → Prop} {l : Nat → ss_F} {c le ri re ot sl rp lW rW pt lL rL pL : Nat → Int32} (hl : ss_A le l 32) (P : ∀ G v, ss_Pl 5 v l → (∀ j, j < 243 → G j = ss_spN 5 v j) → post (c, le, ri, re, ot, sl, ss_em G, rp, lW, rW, pt, lL, rL, pL)) : ∀ d n G, n + d = 32 → (∀ j, j < n → G (ss_pc 5 j) = l j) → wX_spreadPieces__left_leftPieces_2 post (d + 1) (nI n) c le ri re ot sl (ss_em G) rp lW rW pt lL rL pL := by
  intro d
  induction d with
  | zero =>
    intro n G hn hG
    have : n = 32 := by omega
    subst this
    exact br_t (by decide) ⟨6, ss_sd_left_leftPieces_lp (v := G) (fun G' hG' => P G' G hG hG') 5 0 G rfl (fun j _ => rfl)⟩
  | succ d ih =>
    intro n G hn hG
    have b := ss_t2 n (by omega)
    refine br_f (nI_ge (b := 32) (by omega) (by decide)) (ss_Xpc (by omega) ⟨vp_in_nI (by omega) (by decide), vp_in_nI b (by decide), nm_r (e' := ss_em (ss_u G (ss_pc 5 n) (l n))) ?_ (nm_r (nI_1 n) (ih (n + 1) _ (by omega) ?_))⟩)
    · rw [ss_ci (by omega), ss_ci (by omega), hl n (by omega), ss_em_u]
    · intro j hj
      by_cases e : j = n
      · subst e
        exact ss_us _ _ _
      · rw [ss_un (fun y => e (ss_t3 j (by omega) n (by omega) y))]
        exact hG j (by omega)
theorem ss_sd_left_leftPieces {post : SX → Prop} {l G : Nat → ss_F} {c le ri re ot sl rp lW rW pt lL rL pL : Nat → Int32} (hl : ss_A le l 32) (P : ∀ G v, ss_Pl 5 v l → (∀ j, j < 243 → G j = ss_spN 5 v j) → post (c, le, ri, re, ot, sl, ss_em G, rp, lW, rW, pt, lL, rL, pL)) : wpX_spreadPieces__left_leftPieces post (c, le, ri, re, ot, sl, ss_em G, rp, lW, rW, pt, lL, rL, pL) := ⟨33, ss_sd_left_leftPieces_pl hl P 32 0 G rfl (fun j hj => absurd hj (by omega))⟩
theorem ss_sd_right_rightPieces_in {post : SX → Prop} {J : Int32 → (Nat → Int32) → (Nat → Int32) → (Nat → Int32) → (Nat → Int32) → (Nat → Int32) → (Nat → Int32) → (Nat → Int32) → (Nat → Int32) → (Nat → Int32) → (Nat → Int32) → (Nat → Int32) → (Nat → Int32) → (Nat → Int32) → (Nat → Int32) → Prop} {V : Nat → ss_F} {c le ri re ot sl lp lW rW pt lL rL pL : Nat → Int32} {k : Nat} (hk : k < 5) (P : ∀ G, (∀ j, j < 243 → G j = ss_sp k V j) → J (nI (3 ^ (k + 1))) c le ri re ot sl lp (ss_em G) lW rW pt lL rL pL) : ∀ d a G, a + d = 243 → (∀ j, j < 243 → G j = if j < a then ss_sp k V j else V j) → wX_spreadPieces__right_rightPieces_36 post J (nI (3 ^ k)) (d + 1) (nI a) c le ri re ot sl lp (ss_em G) lW rW pt lL rL pL := by
  obtain ⟨t1, t2, t3⟩ := ss_t4 k hk
  intro d
  induction d with
  | zero =>
    intro a G ha hG
    have : a = 243 := by omega
    subst this
    exact br_t (by decide) (nm_r (pk_mul (3 ^ k) 3) (P G (fun j hj => by rw [hG j hj, if_pos hj])))
  | succ d ih =>
    intro a G ha hG
    have lt : a / 3 ^ k % 3 < 3 := Nat.mod_lt _ (by decide)
    have dg := ss_dgt (a := a) (k := k) (by omega) hk
    refine br_f (nI_ge (b := 243) (by omega) (by decide)) ⟨ss_3k hk, ss_30, ?_⟩
    by_cases z : a / 3 ^ k % 3 = 2
    · obtain ⟨r1, r2, r3⟩ := ss_t5 a (by omega) k hk z
      have e1 : nI a - nI (3 ^ k) = nI (a - 3 ^ k) := pk_sub (by omega)
      have e2 : nI a - 2 * nI (3 ^ k) = nI (a - 2 * 3 ^ k) := by
        rw [show (2 : Int32) = nI 2 from rfl, pk_mul, pk_sub r1]
      have g1 : G (a - 3 ^ k) = V (a - 3 ^ k) := by rw [hG _ (by omega), if_pos (by omega), ss_sp_f r2]
      have g2 : G (a - 2 * 3 ^ k) = V (a - 2 * 3 ^ k) := by rw [hG _ (by omega), if_pos (by omega), ss_sp_f r3]
      refine br_t (dg.trans (by rw [z]; rfl)) ⟨by rw [e1]; exact vp_in_nI (by omega) (by decide), by rw [e2]; exact vp_in_nI (by omega) (by decide), ss_pI, vp_in_nI (by omega) (by decide), nm_r (e' := ss_em (ss_u G a (ss_sp k V a))) ?_ (nm_r (nI_1 a) (ih (a + 1) _ (by omega) ?_))⟩
      · rw [e1, e2, ss_ci (by omega), ss_ci (by omega), ss_ci (by omega), ← ss_em_u, ss_sp_t z, ← g1, ← g2]
        exact congrArg (upd (ss_em G) a) (ss_NV_rem (ss_NV_add (ss_NV_e _) (ss_NV_e _)))
      · intro j hj
        by_cases e : j = a
        · subst e
          rw [ss_us, if_pos (by omega)]
        · rw [ss_un e, hG j hj]
          by_cases c : j < a
          · rw [if_pos c, if_pos (by omega)]
          · rw [if_neg c, if_neg (by omega)]
    · refine br_f (fun y => z ((nI_eq (by omega) (by decide)).mp (dg.symm.trans (y.trans (show (2 : Int32) = nI 2 from rfl))))) (nm_r (nI_1 a) (ih (a + 1) G (by omega) ?_))
      intro j hj
      rw [hG j hj]
      by_cases e : j = a
      · subst e
        rw [if_neg (Nat.lt_irrefl j), if_pos (by omega), ss_sp_f z]
      · by_cases c : j < a
        · rw [if_pos c, if_pos (by omega)]
        · rw [if_neg c, if_neg (by omega)]
theorem ss_sp_congrrp {k : Nat} {V U : Nat → ss_F} (h : ∀ j, j < 243 → V j = U j) : ∀ j, j < 243 → ss_sp k V j = ss_sp k U j := by
  intro j hj
  by_cases z : j / 3 ^ k % 3 = 2
  · rw [ss_sp_t z, ss_sp_t z, h _ (Nat.lt_of_le_of_lt (Nat.sub_le _ _) hj), h _ (Nat.lt_of_le_of_lt (Nat.sub_le _ _) hj)]
  · rw [ss_sp_f z, ss_sp_f z, h j hj]
theorem ss_sd_right_rightPieces_lp {post : SX → Prop} {v : Nat → ss_F} {c le ri re ot sl lp lW rW pt lL rL pL : Nat → Int32} (P : ∀ G, (∀ j, j < 243 → G j = ss_spN 5 v j) → post (c, le, ri, re, ot, sl, lp, ss_em G, lW, rW, pt, lL, rL, pL)) : ∀ d k G, k + d = 5 → (∀ j, j < 243 → G j = ss_spN k v j) → wX_spreadPieces__right_rightPieces_27 post (d + 1) (nI (3 ^ k)) c le ri re ot sl lp (ss_em G) lW rW pt lL rL pL := by
  intro d
  induction d with
  | zero =>
    intro k G hk hG
    have : k = 5 := by omega
    subst this
    exact br_t (by decide) (P G hG)
  | succ d ih =>
    intro k G hk hG
    obtain ⟨t1, t2, t3⟩ := ss_t4 k (by omega)
    exact br_f (nI_ge (b := 243) (by omega) (by decide)) ⟨244, ss_sd_right_rightPieces_in (V := G) (by omega) (fun G' hG' => ih (k + 1) G' (by omega) (fun j hj => (hG' j hj).trans (ss_sp_congrrp hG j hj))) 243 0 G rfl (fun j hj => (if_neg (by omega)).symm)⟩
theorem ss_sd_right_rightPieces_pl {post : SX → Prop} {l : Nat → ss_F} {c le ri re ot sl lp lW rW pt lL rL pL : Nat → Int32} (hl : ss_A ri l 32) (P : ∀ G v, ss_Pl 5 v l → (∀ j, j < 243 → G j = ss_spN 5 v j) → post (c, le, ri, re, ot, sl, lp, ss_em G, lW, rW, pt, lL, rL, pL)) : ∀ d n G, n + d = 32 → (∀ j, j < n → G (ss_pc 5 j) = l j) → wX_spreadPieces__right_rightPieces_2 post (d + 1) (nI n) c le ri re ot sl lp (ss_em G) lW rW pt lL rL pL := by
  intro d
  induction d with
  | zero =>
    intro n G hn hG
    have : n = 32 := by omega
    subst this
    exact br_t (by decide) ⟨6, ss_sd_right_rightPieces_lp (v := G) (fun G' hG' => P G' G hG hG') 5 0 G rfl (fun j _ => rfl)⟩
  | succ d ih =>
    intro n G hn hG
    have b := ss_t2 n (by omega)
    refine br_f (nI_ge (b := 32) (by omega) (by decide)) (ss_Xpc (by omega) ⟨vp_in_nI (by omega) (by decide), vp_in_nI b (by decide), nm_r (e' := ss_em (ss_u G (ss_pc 5 n) (l n))) ?_ (nm_r (nI_1 n) (ih (n + 1) _ (by omega) ?_))⟩)
    · rw [ss_ci (by omega), ss_ci (by omega), hl n (by omega), ss_em_u]
    · intro j hj
      by_cases e : j = n
      · subst e
        exact ss_us _ _ _
      · rw [ss_un (fun y => e (ss_t3 j (by omega) n (by omega) y))]
        exact hG j (by omega)
theorem ss_sd_right_rightPieces {post : SX → Prop} {l G : Nat → ss_F} {c le ri re ot sl lp lW rW pt lL rL pL : Nat → Int32} (hl : ss_A ri l 32) (P : ∀ G v, ss_Pl 5 v l → (∀ j, j < 243 → G j = ss_spN 5 v j) → post (c, le, ri, re, ot, sl, lp, ss_em G, lW, rW, pt, lL, rL, pL)) : wpX_spreadPieces__right_rightPieces post (c, le, ri, re, ot, sl, lp, ss_em G, lW, rW, pt, lL, rL, pL) := ⟨33, ss_sd_right_rightPieces_pl hl P 32 0 G rfl (fun j hj => absurd hj (by omega))⟩
/-! the middles -/
theorem ss_sm_in {post : SX → Prop} {J : Int32 → (Nat → Int32) → (Nat → Int32) → (Nat → Int32) → (Nat → Int32) → (Nat → Int32) → (Nat → Int32) → (Nat → Int32) → (Nat → Int32) → (Nat → Int32) → (Nat → Int32) → (Nat → Int32) → (Nat → Int32) → (Nat → Int32) → (Nat → Int32) → Prop} {V : Nat → ss_F} {c le ri re ot sl rp lW rW pt lL rL pL : Nat → Int32} {k : Nat} (hk : k < 5) (P : ∀ G, (∀ j, j < 243 → G j = ss_se k V j) → J (nI (3 ^ (k + 1))) c le ri re ot sl (ss_em G) rp lW rW pt lL rL pL) : ∀ d a G, a + d = 243 → (∀ j, j < 243 → G j = if j < a then ss_se k V j else V j) → wX_separateMiddles__leftPieces_11 post J (nI (3 ^ k)) (d + 1) (nI a) c le ri re ot sl (ss_em G) rp lW rW pt lL rL pL := by
  obtain ⟨t1, t2, t3⟩ := ss_t4 k hk
  intro d
  induction d with
  | zero =>
    intro a G ha hG
    have : a = 243 := by omega
    subst this
    exact br_t (by decide) (nm_r (pk_mul (3 ^ k) 3) (P G (fun j hj => by rw [hG j hj, if_pos hj])))
  | succ d ih =>
    intro a G ha hG
    have lt : a / 3 ^ k % 3 < 3 := Nat.mod_lt _ (by decide)
    have dg := ss_dgt (a := a) (k := k) (by omega) hk
    refine br_f (nI_ge (b := 243) (by omega) (by decide)) ⟨ss_3k hk, ss_30, ?_⟩
    by_cases z : a / 3 ^ k % 3 = 2
    · obtain ⟨r1, r2, r3⟩ := ss_t5 a (by omega) k hk z
      have e1 : nI a - nI (3 ^ k) = nI (a - 3 ^ k) := pk_sub (by omega)
      have e2 : nI a - 2 * nI (3 ^ k) = nI (a - 2 * 3 ^ k) := by
        rw [show (2 : Int32) = nI 2 from rfl, pk_mul, pk_sub r1]
      have g0 : G a = V a := by rw [hG _ (by omega), if_neg (by omega)]
      have g1 : G (a - 3 ^ k) = V (a - 3 ^ k) := by rw [hG _ (by omega), if_pos (by omega), ss_se_f r2]
      have g2 : G (a - 2 * 3 ^ k) = V (a - 2 * 3 ^ k) := by rw [hG _ (by omega), if_pos (by omega), ss_se_f r3]
      have LV : ss_LV (ss_em G (nI a).toNatClampNeg - ss_em G (nI a - nI (3 ^ k)).toNatClampNeg - ss_em G (nI a - 2 * nI (3 ^ k)).toNatClampNeg).toInt64 (ss_se k V a) (12288 + 12288 + 12288) := by
        rw [e1, e2, ss_ci (by omega), ss_ci (by omega), ss_ci (by omega), ss_se_t z, ← g0, ← g1, ← g2]
        exact ss_IV_L (ss_IV_sub (ss_IV_sub (ss_IV_e _) (ss_IV_e _)) (ss_IV_e _))
      refine br_t (dg.trans (by rw [z]; rfl)) ⟨vp_in_nI (by omega) (by decide), by rw [e1]; exact vp_in_nI (by omega) (by decide), by rw [e2]; exact vp_in_nI (by omega) (by decide), ss_Xr LV ⟨vp_in_nI (by omega) (by decide), nm_r (e' := ss_em (ss_u G a (ss_se k V a))) ?_ (nm_r (nI_1 a) (ih (a + 1) _ (by omega) ?_))⟩⟩
      · rw [ss_ci (by omega), ss_em_u]
      · intro j hj
        by_cases e : j = a
        · subst e
          rw [ss_us, if_pos (by omega)]
        · rw [ss_un e, hG j hj]
          by_cases c : j < a
          · rw [if_pos c, if_pos (by omega)]
          · rw [if_neg c, if_neg (by omega)]
    · refine br_f (fun y => z ((nI_eq (by omega) (by decide)).mp (dg.symm.trans (y.trans (show (2 : Int32) = nI 2 from rfl))))) (nm_r (nI_1 a) (ih (a + 1) G (by omega) ?_))
      intro j hj
      rw [hG j hj]
      by_cases e : j = a
      · subst e
        rw [if_neg (Nat.lt_irrefl j), if_pos (by omega), ss_se_f z]
      · by_cases c : j < a
        · rw [if_pos c, if_pos (by omega)]
        · rw [if_neg c, if_neg (by omega)]
theorem ss_se_congr {k : Nat} {V U : Nat → ss_F} (h : ∀ j, j < 243 → V j = U j) : ∀ j, j < 243 → ss_se k V j = ss_se k U j := by
  intro j hj
  by_cases z : j / 3 ^ k % 3 = 2
  · rw [ss_se_t z, ss_se_t z, h j hj, h _ (Nat.lt_of_le_of_lt (Nat.sub_le _ _) hj), h _ (Nat.lt_of_le_of_lt (Nat.sub_le _ _) hj)]
  · rw [ss_se_f z, ss_se_f z, h j hj]
theorem ss_sm_lp {post : SX → Prop} {v : Nat → ss_F} {c le ri re ot sl rp lW rW pt lL rL pL : Nat → Int32} (P : ∀ G, (∀ j, j < 243 → G j = ss_seN 5 v j) → post (c, le, ri, re, ot, sl, ss_em G, rp, lW, rW, pt, lL, rL, pL)) : ∀ d k G, k + d = 5 → (∀ j, j < 243 → G j = ss_seN k v j) → wX_separateMiddles__leftPieces_2 post (d + 1) (nI (3 ^ k)) c le ri re ot sl (ss_em G) rp lW rW pt lL rL pL := by
  intro d
  induction d with
  | zero =>
    intro k G hk hG
    have : k = 5 := by omega
    subst this
    exact br_t (by decide) (P G hG)
  | succ d ih =>
    intro k G hk hG
    obtain ⟨t1, t2, t3⟩ := ss_t4 k (by omega)
    exact br_f (nI_ge (b := 243) (by omega) (by decide)) ⟨244, ss_sm_in (V := G) (by omega) (fun G' hG' => ih (k + 1) G' (by omega) (fun j hj => (hG' j hj).trans (ss_se_congr hG j hj))) 243 0 G rfl (fun j hj => (if_neg (by omega)).symm)⟩
theorem ss_sm {post : SX → Prop} {v G : Nat → ss_F} {c le ri re ot sl rp lW rW pt lL rL pL : Nat → Int32} (hG : ∀ j, j < 243 → G j = v j) (P : ∀ G, (∀ j, j < 243 → G j = ss_seN 5 v j) → post (c, le, ri, re, ot, sl, ss_em G, rp, lW, rW, pt, lL, rL, pL)) : wpX_separateMiddles__leftPieces post (c, le, ri, re, ot, sl, ss_em G, rp, lW, rW, pt, lL, rL, pL) := ⟨6, ss_sm_lp P 5 0 G rfl hG⟩
/-- what has been collected out of the pieces below a -/
def ss_cl1 (w : Nat → ss_F) (a : Nat) : Nat → ss_F := fun n => ss_s (fun b => w b * (if ss_pN 5 b = n then 1 else 0)) a
theorem ss_cl1_ne (w : Nat → ss_F) {a n : Nat} (h : ss_pN 5 a ≠ n) : ss_cl1 w (a + 1) n = ss_cl1 w a n := by
  show ss_cl1 w a n + w a * (if ss_pN 5 a = n then 1 else 0) = _
  rw [if_neg h]
  grobner
theorem ss_cl1_eq (w : Nat → ss_F) (a : Nat) : ss_cl1 w (a + 1) (ss_pN 5 a) = ss_cl1 w a (ss_pN 5 a) + w a := by
  show ss_cl1 w a _ + w a * (if ss_pN 5 a = ss_pN 5 a then 1 else 0) = _
  rw [if_pos rfl]
  grobner
theorem ss_pN_le : ∀ a, a < 243 → ss_pN 5 a < 100 := by decide +kernel
theorem ss_E1_result_co {post : SX → Prop} {w : Nat → ss_F} {c le ri ot sl lp rp lW rW pt lL rL pL : Nat → Int32} (hw : ss_A lp w 243) (P : ∀ x, ss_A x (ss_cl1 w 243) 32 → post (c, le, ri, x, ot, sl, lp, rp, lW, rW, pt, lL, rL, pL)) : ∀ d a x, a + d = 243 → ss_A x (ss_cl1 w a) 32 → wX_multiplyByKaratsuba__result_87 post (d + 1) (nI a) c le ri x ot sl lp rp lW rW pt lL rL pL := by
  intro d
  induction d with
  | zero =>
    intro a x ha hx
    have : a = 243 := by omega
    subst this
    exact br_t (by decide) (P x hx)
  | succ d ih =>
    intro a x ha hx
    have b := ss_pN_le a (by omega)
    refine br_f (nI_ge (b := 243) (by omega) (by decide)) (ss_Xpp (by omega) ?_)
    by_cases c : ss_pN 5 a < 32
    · refine br_f (nI_ge (b := 32) c (by decide)) ⟨vp_in_nI c (by decide), vp_in_nI (by omega) (by decide), ss_pI, vp_in_nI c (by decide), nm_r (e' := upd x (ss_pN 5 a) (ss_e (ss_cl1 w (a + 1) (ss_pN 5 a)))) ?_ (nm_r (nI_1 a) (ih (a + 1) _ (by omega) (ss_A_congr (ss_A_u hx rfl) ?_)))⟩
      · rw [ss_ci (by omega), ss_ci (by omega), hx _ c, hw a (by omega), ss_cl1_eq]
        exact congrArg (upd x _) (ss_NV_rem (ss_NV_add (ss_NV_e _) (ss_NV_e _)))
      · intro n _
        by_cases e : n = ss_pN 5 a
        · subst e
          exact ss_us _ _ _
        · rw [ss_un e, ss_cl1_ne w (fun y => e y.symm)]
    · refine br_t (nI_le (a := 32) (by omega) (by omega)) (nm_r (nI_1 a) (ih (a + 1) x (by omega) (ss_A_congr hx ?_)))
      intro n hn
      rw [ss_cl1_ne w (by omega)]
theorem ss_E1_result_z {post : SX → Prop} {w : Nat → ss_F} {c le ri ot sl lp rp lW rW pt lL rL pL : Nat → Int32} (hw : ss_A lp w 243) (P : ∀ x, ss_A x (ss_cl1 w 243) 32 → post (c, le, ri, x, ot, sl, lp, rp, lW, rW, pt, lL, rL, pL)) : ∀ d i x, i + d = 32 → ss_A x (fun _ => 0) i → wX_multiplyByKaratsuba__result_69 post (d + 1) (nI i) c le ri x ot sl lp rp lW rW pt lL rL pL := by
  intro d
  induction d with
  | zero =>
    intro i x hi hx
    have : i = 32 := by omega
    subst this
    exact br_t (by decide) ⟨244, ss_E1_result_co hw P 243 0 x rfl (ss_A_congr hx (fun j _ => rfl))⟩
  | succ d ih =>
    intro i x hi hx
    exact br_f (nI_ge (b := 32) (by omega) (by decide)) ⟨vp_in_nI (by omega) (by decide), nm_r (e' := upd x i 0) (by rw [ss_ci (by omega)]) (nm_r (nI_1 i) (ih (i + 1) _ (by omega) (ss_A_s hx ss_e0.symm)))⟩
theorem ss_E1_result_lp {post : SX → Prop} {l r v u V U : Nat → ss_F} {c le ri re ot sl lW rW pt lL rL pL : Nat → Int32} (hv : ss_Pl 5 v l) (hu : ss_Pl 5 u r) (hV : ∀ j, j < 243 → V j = ss_spN 5 v j) (hU : ∀ j, j < 243 → U j = ss_spN 5 u j) (h : ∀ x G, ss_A x (ss_c l r) 32 → post (c, le, ri, x, ot, sl, ss_em G, ss_em U, lW, rW, pt, lL, rL, pL)) : ∀ d a G, a + d = 243 → (∀ j, j < 243 → G j = if j < a then ss_spN 5 v j * ss_spN 5 u j else ss_spN 5 v j) → wX_multiplyByKaratsuba__result_24 post (d + 1) (nI a) c le ri re ot sl (ss_em G) (ss_em U) lW rW pt lL rL pL := by
  intro d
  induction d with
  | zero =>
    intro a G ha hG
    have : a = 243 := by omega
    subst this
    refine br_t (by decide) (ss_sm (v := fun j => ss_spN 5 v j * ss_spN 5 u j) (fun j hj => by rw [hG j hj, if_pos hj]) (fun G' hG' => ⟨33, ss_E1_result_z (w := G') (ss_A_em G' 243) (fun x hx => h x G' (ss_A_congr hx ?_)) 32 0 _ rfl (ss_A_0 _ _)⟩))
    intro n hn
    have k := ss_kara 5 v u l r (fun t => if t = n then 1 else 0) hv hu
    rw [show 2 ^ 5 = 32 from rfl, ss_K_c l r hn] at k
    rw [← k]
    exact ss_s_congr (fun b hb => by rw [hG' b hb])
  | succ d ih =>
    intro a G ha hG
    refine br_f (nI_ge (b := 243) (by omega) (by decide)) ⟨vp_in_nI (by omega) (by decide), vp_in_nI (by omega) (by decide), ss_pI, vp_in_nI (by omega) (by decide), nm_r (e' := ss_em (ss_u G a (ss_spN 5 v a * ss_spN 5 u a))) ?_ (nm_r (nI_1 a) (ih (a + 1) _ (by omega) ?_))⟩
    · have g := hG a (by omega)
      rw [if_neg (Nat.lt_irrefl a)] at g
      rw [ss_ci (by omega), ← ss_em_u, ← g, ← hU a (by omega)]
      exact congrArg (upd (ss_em G) a) (ss_NV_rem (ss_NV_mul (ss_NV_e _) (ss_NV_e _)))
    · intro j hj
      by_cases e : j = a
      · subst e
        rw [ss_us, if_pos (by omega)]
      · rw [ss_un e, hG j hj]
        by_cases c : j < a
        · rw [if_pos c, if_pos (by omega)]
        · rw [if_neg c, if_neg (by omega)]
theorem ss_E1_result {post : SX → Prop} {l r V U : Nat → ss_F} {c le ri re ot sl lW rW pt lL rL pL : Nat → Int32} (hl : ss_A le l 32) (hr : ss_A ri r 32) (h : ∀ x G U, ss_A x (ss_c l r) 32 → post (c, le, ri, x, ot, sl, ss_em G, ss_em U, lW, rW, pt, lL, rL, pL)) : wpX_multiplyByKaratsuba__result post (c, le, ri, re, ot, sl, ss_em V, ss_em U, lW, rW, pt, lL, rL, pL) := by
  unfold wpX_multiplyByKaratsuba__result
  exact ss_sd_left_leftPieces hl (fun G v hv hG => ss_sd_right_rightPieces hr (fun U' u hu hU => ⟨244, ss_E1_result_lp hv hu hG hU (fun x G' hx => h x G' U' hx) 243 0 G rfl (fun j hj => by rw [hG j hj]; exact (if_neg (by omega)).symm)⟩))
theorem ss_E1_otherResult_co {post : SX → Prop} {w : Nat → ss_F} {c le ri re sl lp rp lW rW pt lL rL pL : Nat → Int32} (hw : ss_A lp w 243) (P : ∀ x, ss_A x (ss_cl1 w 243) 32 → post (c, le, ri, re, x, sl, lp, rp, lW, rW, pt, lL, rL, pL)) : ∀ d a x, a + d = 243 → ss_A x (ss_cl1 w a) 32 → wX_multiplyByKaratsuba__otherResult_87 post (d + 1) (nI a) c le ri re x sl lp rp lW rW pt lL rL pL := by
  intro d
  induction d with
  | zero =>
    intro a x ha hx
    have : a = 243 := by omega
    subst this
    exact br_t (by decide) (P x hx)
  | succ d ih =>
    intro a x ha hx
    have b := ss_pN_le a (by omega)
    refine br_f (nI_ge (b := 243) (by omega) (by decide)) (ss_Xpp (by omega) ?_)
    by_cases c : ss_pN 5 a < 32
    · refine br_f (nI_ge (b := 32) c (by decide)) ⟨vp_in_nI c (by decide), vp_in_nI (by omega) (by decide), ss_pI, vp_in_nI c (by decide), nm_r (e' := upd x (ss_pN 5 a) (ss_e (ss_cl1 w (a + 1) (ss_pN 5 a)))) ?_ (nm_r (nI_1 a) (ih (a + 1) _ (by omega) (ss_A_congr (ss_A_u hx rfl) ?_)))⟩
      · rw [ss_ci (by omega), ss_ci (by omega), hx _ c, hw a (by omega), ss_cl1_eq]
        exact congrArg (upd x _) (ss_NV_rem (ss_NV_add (ss_NV_e _) (ss_NV_e _)))
      · intro n _
        by_cases e : n = ss_pN 5 a
        · subst e
          exact ss_us _ _ _
        · rw [ss_un e, ss_cl1_ne w (fun y => e y.symm)]
    · refine br_t (nI_le (a := 32) (by omega) (by omega)) (nm_r (nI_1 a) (ih (a + 1) x (by omega) (ss_A_congr hx ?_)))
      intro n hn
      rw [ss_cl1_ne w (by omega)]
theorem ss_E1_otherResult_z {post : SX → Prop} {w : Nat → ss_F} {c le ri re sl lp rp lW rW pt lL rL pL : Nat → Int32} (hw : ss_A lp w 243) (P : ∀ x, ss_A x (ss_cl1 w 243) 32 → post (c, le, ri, re, x, sl, lp, rp, lW, rW, pt, lL, rL, pL)) : ∀ d i x, i + d = 32 → ss_A x (fun _ => 0) i → wX_multiplyByKaratsuba__otherResult_69 post (d + 1) (nI i) c le ri re x sl lp rp lW rW pt lL rL pL := by
  intro d
  induction d with
  | zero =>
    intro i x hi hx
    have : i = 32 := by omega
    subst this
    exact br_t (by decide) ⟨244, ss_E1_otherResult_co hw P 243 0 x rfl (ss_A_congr hx (fun j _ => rfl))⟩
  | succ d ih =>
    intro i x hi hx
    exact br_f (nI_ge (b := 32) (by omega) (by decide)) ⟨vp_in_nI (by omega) (by decide), nm_r (e' := upd x i 0) (by rw [ss_ci (by omega)]) (nm_r (nI_1 i) (ih (i + 1) _ (by omega) (ss_A_s hx ss_e0.symm)))⟩
theorem ss_E1_otherResult_lp {post : SX → Prop} {l r v u V U : Nat → ss_F} {c le ri re ot sl lW rW pt lL rL pL : Nat → Int32} (hv : ss_Pl 5 v l) (hu : ss_Pl 5 u r) (hV : ∀ j, j < 243 → V j = ss_spN 5 v j) (hU : ∀ j, j < 243 → U j = ss_spN 5 u j) (h : ∀ x G, ss_A x (ss_c l r) 32 → post (c, le, ri, re, x, sl, ss_em G, ss_em U, lW, rW, pt, lL, rL, pL)) : ∀ d a G, a + d = 243 → (∀ j, j < 243 → G j = if j < a then ss_spN 5 v j * ss_spN 5 u j else ss_spN 5 v j) → wX_multiplyByKaratsuba__otherResult_24 post (d + 1) (nI a) c le ri re ot sl (ss_em G) (ss_em U) lW rW pt lL rL pL := by
  intro d
  induction d with
  | zero =>
    intro a G ha hG
    have : a = 243 := by omega
    subst this
    refine br_t (by decide) (ss_sm (v := fun j => ss_spN 5 v j * ss_spN 5 u j) (fun j hj => by rw [hG j hj, if_pos hj]) (fun G' hG' => ⟨33, ss_E1_otherResult_z (w := G') (ss_A_em G' 243) (fun x hx => h x G' (ss_A_congr hx ?_)) 32 0 _ rfl (ss_A_0 _ _)⟩))
    intro n hn
    have k := ss_kara 5 v u l r (fun t => if t = n then 1 else 0) hv hu
    rw [show 2 ^ 5 = 32 from rfl, ss_K_c l r hn] at k
    rw [← k]
    exact ss_s_congr (fun b hb => by rw [hG' b hb])
  | succ d ih =>
    intro a G ha hG
    refine br_f (nI_ge (b := 243) (by omega) (by decide)) ⟨vp_in_nI (by omega) (by decide), vp_in_nI (by omega) (by decide), ss_pI, vp_in_nI (by omega) (by decide), nm_r (e' := ss_em (ss_u G a (ss_spN 5 v a * ss_spN 5 u a))) ?_ (nm_r (nI_1 a) (ih (a + 1) _ (by omega) ?_))⟩
    · have g := hG a (by omega)
      rw [if_neg (Nat.lt_irrefl a)] at g
      rw [ss_ci (by omega), ← ss_em_u, ← g, ← hU a (by omega)]
      exact congrArg (upd (ss_em G) a) (ss_NV_rem (ss_NV_mul (ss_NV_e _) (ss_NV_e _)))
    · intro j hj
      by_cases e : j = a
      · subst e
        rw [ss_us, if_pos (by omega)]
      · rw [ss_un e, hG j hj]
        by_cases c : j < a
        · rw [if_pos c, if_pos (by omega)]
        · rw [if_neg c, if_neg (by omega)]
theorem ss_E1_otherResult {post : SX → Prop} {l r V U : Nat → ss_F} {c le ri re ot sl lW rW pt lL rL pL : Nat → Int32} (hl : ss_A le l 32) (hr : ss_A ri r 32) (h : ∀ x G U, ss_A x (ss_c l r) 32 → post (c, le, ri, re, x, sl, ss_em G, ss_em U, lW, rW, pt, lL, rL, pL)) : wpX_multiplyByKaratsuba__otherResult post (c, le, ri, re, ot, sl, ss_em V, ss_em U, lW, rW, pt, lL, rL, pL) := by
  unfold wpX_multiplyByKaratsuba__otherResult
  exact ss_sd_left_leftPieces hl (fun G v hv hG => ss_sd_right_rightPieces hr (fun U' u hu hU => ⟨244, ss_E1_otherResult_lp hv hu hG hU (fun x G' hx => h x G' U' hx) 243 0 G rfl (fun j hj => by rw [hG j hj]; exact (if_neg (by omega)).symm)⟩))
