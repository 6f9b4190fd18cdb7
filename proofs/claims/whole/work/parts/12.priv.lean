/-! the small methods: tests of numbers, remainders, powers, inverses -/
theorem ss_ser (x : Int32) : (x < 0 ∨ 5 ≤ x) ∨ ∃ s : Nat, s < 5 ∧ x = nI s := by
  rcases pk_ix x (n := 5) (by decide) with h | h | h
  · exact Or.inl (Or.inl h)
  · exact Or.inl (Or.inr h)
  · exact Or.inr h
theorem ss_plc (x : Int32) : (x < 0 ∨ 32 ≤ x) ∨ ∃ s : Nat, s < 32 ∧ x = nI s := by
  rcases pk_ix x (n := 32) (by decide) with h | h | h
  · exact Or.inl (Or.inl h)
  · exact Or.inl (Or.inr h)
  · exact Or.inr h
theorem ss_5 {x : Int32} (h : 5 ≤ x) : 4 < x := by
  rw [Int32.le_iff_toInt_le] at h
  rw [Int32.lt_iff_toInt_lt]
  have a : (5 : Int32).toInt = 5 := by decide
  have b : (4 : Int32).toInt = 4 := by decide
  omega
theorem ss_32 {x : Int32} (h : 32 ≤ x) : 31 < x := by
  rw [Int32.le_iff_toInt_le] at h
  rw [Int32.lt_iff_toInt_lt]
  have a : (32 : Int32).toInt = 32 := by decide
  have b : (31 : Int32).toInt = 31 := by decide
  omega
theorem ss_n4 {s : Nat} (h : s < 5) : ¬ (4 : Int32) < nI s := nI_nlt (a := 4) (by omega) (by decide)
theorem ss_n31 {s : Nat} (h : s < 32) : ¬ (31 : Int32) < nI s := nI_nlt (a := 31) (by omega) (by decide)
theorem ss_XserF {post : Int32 → Prop} {x : Int32} (h : x < 0 ∨ 5 ≤ x) (p : post 0) : wpX_isSeries post x := br_c (fun _ => p) (fun h0 => br_t (h.resolve_left h0) p)
theorem ss_XserT {post : Int32 → Prop} {s : Nat} (hs : s < 5) (p : post 1) : wpX_isSeries post (nI s) := br_f (nI_pos (by omega)) (br_f (nI_ge (b := 5) hs (by decide)) p)
theorem ss_XengF {post : Int32 → Prop} {x : Int32} (h : x < 0 ∨ 5 ≤ x) (p : post 0) : wpX_isEngine post x := br_c (fun _ => p) (fun h0 => br_t (h.resolve_left h0) p)
theorem ss_XengT {post : Int32 → Prop} {s : Nat} (hs : s < 5) (p : post 1) : wpX_isEngine post (nI s) := br_f (nI_pos (by omega)) (br_f (nI_ge (b := 5) hs (by decide)) p)
theorem ss_XplcF {post : Int32 → Prop} {x : Int32} (h : x < 0 ∨ 32 ≤ x) (p : post 0) : wpX_isPlace post x := br_c (fun _ => p) (fun h0 => br_t (h.resolve_left h0) p)
theorem ss_XplcT {post : Int32 → Prop} {s : Nat} (hs : s < 32) (p : post 1) : wpX_isPlace post (nI s) := br_f (nI_pos (by omega)) (br_f (nI_ge (b := 32) hs (by decide)) p)
theorem ss_YserF {post : Int32 → Prop} {a m : Nat → Int32} {x : Int32} (h : x < 0 ∨ 5 ≤ x) (p : post 0) : wpY_series post (a, m) x := br_c (fun _ => p) (fun h0 => br_t (ss_5 (h.resolve_left h0)) p)
theorem ss_YserT {post : Int32 → Prop} {a m : Nat → Int32} {s : Nat} (hs : s < 5) (p : post 1) : wpY_series post (a, m) (nI s) := br_f (nI_pos (by omega)) (br_f (ss_n4 hs) p)
theorem ss_YplcF {post : Int32 → Prop} {a m : Nat → Int32} {x : Int32} (h : x < 0 ∨ 32 ≤ x) (p : post 0) : wpY_index post (a, m) x := br_c (fun _ => p) (fun h0 => br_t (ss_32 (h.resolve_left h0)) p)
theorem ss_YplcT {post : Int32 → Prop} {a m : Nat → Int32} {s : Nat} (hs : s < 32) (p : post 1) : wpY_index post (a, m) (nI s) := br_f (nI_pos (by omega)) (br_f (ss_n31 hs) p)
theorem ss_10 : ¬ (1 : Int32) = 0 := by decide
theorem ss_pI : ¬ (12289 : Int32) = 0 := by decide
theorem ss_pL : ¬ (12289 : Int64) = 0 := by decide
theorem ss_Xr {post : Int32 → Prop} {v : Int64} {a : ss_F} {b : Nat} (h : ss_LV v a b) (p : post (ss_e a)) : wpX_reduce post v := by
  refine ⟨ss_pL, nm_e (br_c (fun h0 => ?_) (fun h0 => ?_))⟩
  · rw [(ss_red h).1 h0]; exact p
  · rw [(ss_red h).2 h0]; exact p
theorem ss_Yr {post : Int32 → Prop} {A m : Nat → Int32} {v : Int64} {a : ss_F} {b : Nat} (h : ss_LV v a b) (p : post (ss_e a)) : wpY_reduced post (A, m) v := by
  refine ⟨ss_pL, nm_e (br_c (fun h0 => ?_) (fun h0 => ?_))⟩
  · rw [(ss_redY h).1 h0]; exact p
  · rw [(ss_redY h).2 h0]; exact p
theorem ss_in160 {s i : Nat} (hs : s < 5) (hi : i < 32) : vp_in (nI (32 * s + i)) 160 := vp_in_nI (by omega) (by decide)
theorem ss_cl160 {s i : Nat} (hs : s < 5) (hi : i < 32) : (nI (32 * s + i)).toNatClampNeg = 32 * s + i := nI_clamp (by omega)
theorem ss_Yat {post : Int32 → Prop} {f : Nat → ss_F} {m : Nat → Int32} {s i : Nat} (hs : s < 5) (hi : i < 32) (p : post (ss_e (ss_g f s i))) : wpY_at post (ss_em f, m) (nI s) (nI i) := by
  show vp_in (32 * nI s + nI i) 160 ∧ post (ss_em f (32 * nI s + nI i).toNatClampNeg)
  rw [ss_iy, ss_cl160 hs hi]
  exact ⟨ss_in160 hs hi, p⟩
theorem ss_LV_any (x : Int32) : ss_LV x.toInt64 (ss_z x.toInt) (2 ^ 31) := ss_IV_L (ss_IV_any x)
theorem ss_LVe (a : ss_F) : ss_LV (ss_e a).toInt64 a 12288 := ss_IV_L (ss_IV_e a)
/-- sums of products: the component multiplies ints, the reference longs -/
theorem ss_acc {sum : Int64} {x y : Int32} {S a b : ss_F} {k : Nat} (h : ss_LV sum S (k * 150994944)) (hx : x = ss_e a) (hy : y = ss_e b) (hk : k ≤ 1000) : ss_LV (sum + (x * y).toInt64) (S + a * b) ((k + 1) * 150994944) := by
  subst hx hy
  exact ss_LV_le (ss_LV_add h (ss_IV_L (ss_IV_mul (ss_IV_e a) (ss_IV_e b))) (by omega)) (by omega)
theorem ss_accY {sum : Int64} {x y : Int32} {S a b : ss_F} {k : Nat} (h : ss_LV sum S (k * 150994944)) (hx : x = ss_e a) (hy : y = ss_e b) (hk : k ≤ 1000) : ss_LV (sum + x.toInt64 * y.toInt64) (S + a * b) ((k + 1) * 150994944) := by
  subst hx hy
  exact ss_LV_le (ss_LV_add h (ss_LV_mul (ss_LVe a) (ss_LVe b)) (by omega)) (by omega)
theorem ss_accS {sum : Int64} {x y : Int32} {S a b : ss_F} {k : Nat} (h : ss_LV sum S (k * 150994944)) (hx : x = ss_e a) (hy : y = ss_e b) (hk : k ≤ 1000) : ss_LV (sum - x.toInt64 * y.toInt64) (S - a * b) ((k + 1) * 150994944) := by
  subst hx hy
  exact ss_LV_le (ss_LV_sub h (ss_LV_mul (ss_LVe a) (ss_LVe b)) (by omega)) (by omega)
theorem ss_acc0 : ss_LV 0 0 (0 * 150994944) := ss_LV_0
/-- the power -/
theorem ss_Xpw {post : Int32 → Prop} : ∀ (k e : Nat) (an sq : ss_F), k ≤ 31 → e < 2 ^ k → post (ss_e (an * ss_p sq e)) → wX_power_7 post (k + 1) (ss_e an) (ss_e sq) (nI e) := by
  intro k
  induction k with
  | zero =>
    intro e an sq _ he p
    have : e = 0 := by omega
    subst this
    have z : an * ss_p sq 0 = an := by rw [ss_p0]; grobner
    rw [z] at p
    exact br_t (by decide) p
  | succ k ih =>
    intro e an sq hk he p
    have hm : 2 ^ (k + 1) ≤ 2 ^ 31 := Nat.pow_le_pow_right (by decide) hk
    by_cases h0 : e = 0
    · subst h0
      have z : an * ss_p sq 0 = an := by rw [ss_p0]; grobner
      rw [z] at p
      exact br_t (by decide) p
    · have hs : nI e >>> ((1 : Int32) &&& 31) = nI (e / 2) := pk_shrN (n := e) (by omega) _ 1 (by decide)
      have ha : nI e &&& 1 = nI (e % 2) := pk_andN (n := e) (by omega) 1 (by decide)
      have hq : ss_e sq * ss_e sq - ss_e sq * ss_e sq / 12289 * 12289 = ss_e (sq * sq) := ss_NV_rem (ss_NV_mul (ss_NV_e sq) (ss_NV_e sq))
      have e2 : ss_p sq (2 * (e / 2)) = ss_p (sq * sq) (e / 2) := by
        rw [ss_p_mul]
        congr 1
        rw [ss_ps, ss_p1]
      refine br_f (nI_nle (by omega) (by omega)) ?_
      by_cases h1 : e % 2 = 1
      · refine br_t (by rw [ha, h1]; rfl) ⟨ss_pI, nm_r (ss_NV_rem (ss_NV_mul (ss_NV_e an) (ss_NV_e sq))) ⟨ss_pI, nm_r hq (nm_r hs (ih (e / 2) (an * sq) (sq * sq) (by omega) (by rw [Nat.pow_succ] at he; omega) ?_))⟩⟩
        have e4 : ss_p sq e = ss_p sq (2 * (e / 2)) * sq := by
          conv => lhs; rw [show e = 2 * (e / 2) + 1 from by omega]
          rw [ss_ps]
        have e5 : an * sq * ss_p (sq * sq) (e / 2) = an * ss_p sq e := by rw [e4, e2]; grobner
        rw [e5]
        exact p
      · refine br_f (by rw [ha]; intro z; exact h1 ((nI_eq (by omega) (by decide)).mp (z.trans rfl))) ⟨ss_pI, nm_r hq (nm_r hs (ih (e / 2) an (sq * sq) (by omega) (by rw [Nat.pow_succ] at he; omega) ?_))⟩
        have e4 : ss_p sq e = ss_p sq (2 * (e / 2)) := by
          conv => lhs; rw [show e = 2 * (e / 2) from by omega]
        rw [← e2, ← e4]
        exact p
theorem ss_Xpow {post : Int32 → Prop} {a : ss_F} {e : Nat} (he : e < 2 ^ 31) (p : post (ss_e (ss_p a e))) : wpX_power post (ss_e a) (nI e) := by
  refine ⟨32, ss_Xpw 31 e 1 a (Nat.le_refl 31) he ?_⟩
  have z : 1 * ss_p a e = ss_p a e := by grobner
  rw [z]
  exact p
theorem ss_Xi {post : Int32 → Prop} {a : ss_F} (p : post (ss_e (ss_i a))) : wpX_inverse post (ss_e a) := ss_Xpow (e := 12287) (by decide) p
theorem ss_ne {n : Nat} (h : n < 12289) : nI n = ss_e (ss_n n) := by
  show nI n = nI (ss_n n).val
  rw [ss_n_small h]
theorem ss_Yi_lp {post : Int32 → Prop} {A m : Nat → Int32} {a : ss_F} (ha : a ≠ 0) (p : post (ss_e (ss_i a))) (K : Nat) (hK : K < 12289) (hd : (1 + 12289 * K) % a.val = 0) : ∀ d k, k + d = K → (∀ j, j < k → (1 + 12289 * j) % a.val ≠ 0) → wY_inverse_2 post (ss_e a) A m (d + 1) (nI (1 + 12289 * k)) := by
  have h0 : 0 < a.val := by
    rcases Nat.eq_zero_or_pos a.val with z | z
    · exact absurd (Fin.ext z) ha
    · exact z
  have h1 := a.isLt
  have hz : ¬ ss_e a = 0 := fun z => ha ((ss_e_eq0 a).mp z)
  have fin : ∀ k, (1 + 12289 * k) % a.val = 0 → (∀ j, j < k → (1 + 12289 * j) % a.val ≠ 0) → k ≤ K → nI (1 + 12289 * k) / ss_e a = ss_e (ss_i a) := by
    intro k hk hm hle
    have q : nI (1 + 12289 * k) / nI a.val = nI ((1 + 12289 * k) / a.val) := pk_div (by omega) h0 (by omega)
    rw [(ss_srch_i ha hk hm).1] at q
    exact q
  intro d
  induction d with
  | zero =>
    intro k hk hm
    have : k = K := by omega
    subst this
    have r : nI (1 + 12289 * k) - nI (1 + 12289 * k) / nI a.val * nI a.val = nI ((1 + 12289 * k) % a.val) := pk_rem (by omega) h0 (by omega)
    rw [hd] at r
    refine ⟨hz, br_t r ⟨hz, ?_⟩⟩
    rw [fin k hd hm (Nat.le_refl k)]
    exact p
  | succ d ih =>
    intro k hk hm
    have r : nI (1 + 12289 * k) - nI (1 + 12289 * k) / nI a.val * nI a.val = nI ((1 + 12289 * k) % a.val) := pk_rem (by omega) h0 (by omega)
    by_cases hd' : (1 + 12289 * k) % a.val = 0
    · rw [hd'] at r
      refine ⟨hz, br_t r ⟨hz, ?_⟩⟩
      rw [fin k hd' hm (by omega)]
      exact p
    · have hlt : (1 + 12289 * k) % a.val < a.val := Nat.mod_lt _ h0
      refine ⟨hz, br_f (fun z => nI_ne0 (Nat.pos_of_ne_zero hd') (by omega) (r.symm.trans z)) (nm_r (e' := nI (1 + 12289 * (k + 1))) ?_ (ih (k + 1) (by omega) ?_))⟩
      · rw [show (12289 : Int32) = nI 12289 from rfl, nI_add]
        congr 1
      · intro j hj
        by_cases e : j = k
        · subst e; exact hd'
        · exact hm j (by omega)
theorem ss_Yi {post : Int32 → Prop} {A m : Nat → Int32} {a : ss_F} (ha : a ≠ 0) (p : post (ss_e (ss_i a))) : wpY_inverse post (A, m) (ss_e a) := by
  obtain ⟨K, hK, hd⟩ := ss_srch ha
  exact ⟨K + 1, ss_Yi_lp ha p K hK hd K 0 (by omega) (fun j hj => absurd hj (by omega))⟩
/-! copies of blocks -/
theorem ss_ti {s i : Nat} : nI s * 32 + nI i = nI (32 * s + i) := ss_ix s i
theorem ss_ci {i : Nat} (h : i < 1000) : (nI i).toNatClampNeg = i := nI_clamp (by omega)
theorem ss_ld_left_lp {post : SX → Prop} {f : Nat → ss_F} {s : Nat} (hs : s < 5) {ri re ot sl lp rp lW rW pt lL rL pL : Nat → Int32} (h : ∀ x, ss_A x (ss_g f s) 32 → post (ss_em f, x, ri, re, ot, sl, lp, rp, lW, rW, pt, lL, rL, pL)) : ∀ d i x, i + d = 32 → ss_A x (ss_g f s) i → wX_load__left_2 post (nI s) (d + 1) (nI i) (ss_em f) x ri re ot sl lp rp lW rW pt lL rL pL := by
  intro d
  induction d with
  | zero =>
    intro i x hi hx
    have : i = 32 := by omega
    subst this
    exact br_t (by decide) (h x hx)
  | succ d ih =>
    intro i x hi hx
    refine br_f (nI_ge (b := 32) (by omega) (by decide)) ⟨?_, vp_in_nI (by omega) (by decide), nm_r (e' := upd x i (ss_e (ss_g f s i))) ?_ (nm_r (nI_1 i) (ih (i + 1) _ (by omega) (ss_A_s hx rfl)))⟩
    · rw [ss_ix]
      exact ss_in160 hs (by omega)
    · rw [ss_ix, ss_cl160 hs (by omega), ss_ci (by omega)]
      rfl
theorem ss_ld_left {post : SX → Prop} {f : Nat → ss_F} {s : Nat} (hs : s < 5) {le ri re ot sl lp rp lW rW pt lL rL pL : Nat → Int32} (h : ∀ x, ss_A x (ss_g f s) 32 → post (ss_em f, x, ri, re, ot, sl, lp, rp, lW, rW, pt, lL, rL, pL)) : wpX_load__left post (ss_em f, le, ri, re, ot, sl, lp, rp, lW, rW, pt, lL, rL, pL) (nI s) := ⟨33, ss_ld_left_lp hs h 32 0 le rfl (ss_A_0 _ _)⟩
theorem ss_ld_right_lp {post : SX → Prop} {f : Nat → ss_F} {s : Nat} (hs : s < 5) {le re ot sl lp rp lW rW pt lL rL pL : Nat → Int32} (h : ∀ x, ss_A x (ss_g f s) 32 → post (ss_em f, le, x, re, ot, sl, lp, rp, lW, rW, pt, lL, rL, pL)) : ∀ d i x, i + d = 32 → ss_A x (ss_g f s) i → wX_load__right_2 post (nI s) (d + 1) (nI i) (ss_em f) le x re ot sl lp rp lW rW pt lL rL pL := by
  intro d
  induction d with
  | zero =>
    intro i x hi hx
    have : i = 32 := by omega
    subst this
    exact br_t (by decide) (h x hx)
  | succ d ih =>
    intro i x hi hx
    refine br_f (nI_ge (b := 32) (by omega) (by decide)) ⟨?_, vp_in_nI (by omega) (by decide), nm_r (e' := upd x i (ss_e (ss_g f s i))) ?_ (nm_r (nI_1 i) (ih (i + 1) _ (by omega) (ss_A_s hx rfl)))⟩
    · rw [ss_ix]
      exact ss_in160 hs (by omega)
    · rw [ss_ix, ss_cl160 hs (by omega), ss_ci (by omega)]
      rfl
theorem ss_ld_right {post : SX → Prop} {f : Nat → ss_F} {s : Nat} (hs : s < 5) {le ri re ot sl lp rp lW rW pt lL rL pL : Nat → Int32} (h : ∀ x, ss_A x (ss_g f s) 32 → post (ss_em f, le, x, re, ot, sl, lp, rp, lW, rW, pt, lL, rL, pL)) : wpX_load__right post (ss_em f, le, ri, re, ot, sl, lp, rp, lW, rW, pt, lL, rL, pL) (nI s) := ⟨33, ss_ld_right_lp hs h 32 0 ri rfl (ss_A_0 _ _)⟩
theorem ss_st_left_lp {post : SX → Prop} {f g : Nat → ss_F} {s : Nat} (hs : s < 5) {le ri re ot sl lp rp lW rW pt lL rL pL : Nat → Int32} (hA : ss_A le g 32) (h : post (ss_em (ss_b f s 32 g), le, ri, re, ot, sl, lp, rp, lW, rW, pt, lL, rL, pL)) : ∀ d i, i + d = 32 → wX_store__left_2 post (nI s) (d + 1) (nI i) (ss_em (ss_b f s i g)) le ri re ot sl lp rp lW rW pt lL rL pL := by
  intro d
  induction d with
  | zero =>
    intro i hi
    have : i = 32 := by omega
    subst this
    exact br_t (by decide) h
  | succ d ih =>
    intro i hi
    refine br_f (nI_ge (b := 32) (by omega) (by decide)) ⟨vp_in_nI (by omega) (by decide), ?_, nm_r (e' := ss_em (ss_b f s (i + 1) g)) ?_ (nm_r (nI_1 i) (ih (i + 1) (by omega)))⟩
    · rw [ss_ix]
      exact ss_in160 hs (by omega)
    · rw [ss_ix, ss_cl160 hs (by omega), ss_ci (by omega), hA i (by omega), ss_em_u, ss_bs]
theorem ss_st_left {post : SX → Prop} {f g : Nat → ss_F} {s : Nat} (hs : s < 5) {le ri re ot sl lp rp lW rW pt lL rL pL : Nat → Int32} (hA : ss_A le g 32) (h : post (ss_em (ss_b f s 32 g), le, ri, re, ot, sl, lp, rp, lW, rW, pt, lL, rL, pL)) : wpX_store__left post (ss_em f, le, ri, re, ot, sl, lp, rp, lW, rW, pt, lL, rL, pL) (nI s) := by
  have k := ss_st_left_lp (f := f) hs hA h 32 0 rfl
  rw [ss_b0] at k
  exact ⟨33, k⟩
theorem ss_st_result_lp {post : SX → Prop} {f g : Nat → ss_F} {s : Nat} (hs : s < 5) {le ri re ot sl lp rp lW rW pt lL rL pL : Nat → Int32} (hA : ss_A re g 32) (h : post (ss_em (ss_b f s 32 g), le, ri, re, ot, sl, lp, rp, lW, rW, pt, lL, rL, pL)) : ∀ d i, i + d = 32 → wX_store__result_2 post (nI s) (d + 1) (nI i) (ss_em (ss_b f s i g)) le ri re ot sl lp rp lW rW pt lL rL pL := by
  intro d
  induction d with
  | zero =>
    intro i hi
    have : i = 32 := by omega
    subst this
    exact br_t (by decide) h
  | succ d ih =>
    intro i hi
    refine br_f (nI_ge (b := 32) (by omega) (by decide)) ⟨vp_in_nI (by omega) (by decide), ?_, nm_r (e' := ss_em (ss_b f s (i + 1) g)) ?_ (nm_r (nI_1 i) (ih (i + 1) (by omega)))⟩
    · rw [ss_ix]
      exact ss_in160 hs (by omega)
    · rw [ss_ix, ss_cl160 hs (by omega), ss_ci (by omega), hA i (by omega), ss_em_u, ss_bs]
theorem ss_st_result {post : SX → Prop} {f g : Nat → ss_F} {s : Nat} (hs : s < 5) {le ri re ot sl lp rp lW rW pt lL rL pL : Nat → Int32} (hA : ss_A re g 32) (h : post (ss_em (ss_b f s 32 g), le, ri, re, ot, sl, lp, rp, lW, rW, pt, lL, rL, pL)) : wpX_store__result post (ss_em f, le, ri, re, ot, sl, lp, rp, lW, rW, pt, lL, rL, pL) (nI s) := by
  have k := ss_st_result_lp (f := f) hs hA h 32 0 rfl
  rw [ss_b0] at k
  exact ⟨33, k⟩
theorem ss_tk_lp {post : SY → Prop} {f g : Nat → ss_F} {s : Nat} (hs : s < 5) {m : Nat → Int32} (hA : ss_A m g 32) (h : post (ss_em (ss_b f s 32 g), m)) : ∀ d i, i + d = 32 → wY_take_2 post (nI s) (d + 1) (nI i) (ss_em (ss_b f s i g)) m := by
  intro d
  induction d with
  | zero =>
    intro i hi
    have : i = 32 := by omega
    subst this
    exact br_t (by decide) h
  | succ d ih =>
    intro i hi
    refine br_f (nI_ge (b := 32) (by omega) (by decide)) ⟨vp_in_nI (by omega) (by decide), ?_, nm_r (e' := ss_em (ss_b f s (i + 1) g)) ?_ (nm_r (nI_1 i) (ih (i + 1) (by omega)))⟩
    · rw [ss_iy]
      exact ss_in160 hs (by omega)
    · rw [ss_iy, ss_cl160 hs (by omega), ss_ci (by omega), hA i (by omega), ss_em_u, ss_bs]
theorem ss_tk {post : SY → Prop} {f g : Nat → ss_F} {s : Nat} (hs : s < 5) {m : Nat → Int32} (hA : ss_A m g 32) (h : post (ss_em (ss_b f s 32 g), m)) : wpY_take post (ss_em f, m) (nI s) := by
  have k := ss_tk_lp (f := f) hs hA h 32 0 rfl
  rw [ss_b0] at k
  exact ⟨33, k⟩
/-! sums of products, values, degrees -/
theorem ss_so_left_right_lp {post : Int32 → Prop} (a b : Nat → ss_F) {n first last : Nat} {c le ri re ot sl lp rp lW rW pt lL rL pL : Nat → Int32} (hA : ∀ i, first ≤ i → i ≤ last → le i = ss_e (a i)) (hB : ∀ i, first ≤ i → i ≤ last → ri (n - i) = ss_e (b (n - i))) (hn : n < 32) (hl : last ≤ n) (p : post (ss_e (ss_o a b n first (last + 1 - first)))) : ∀ d k sum, first + k + d = last + 1 → ss_LV sum (ss_o a b n first k) (k * 150994944) → wX_sumOfProducts__left_right_6 post (nI n) (nI last) c le ri re ot sl lp rp lW rW pt lL rL pL (d + 1) sum (nI (first + k)) := by
  intro d
  induction d with
  | zero =>
    intro k sum hk hs
    have e : last + 1 - first = k := by omega
    rw [e] at p
    exact br_t (nI_lt (by omega) (by omega)) (ss_Xr hs p)
  | succ d ih =>
    intro k sum hk hs
    have x1 : le (nI (first + k)).toNatClampNeg = ss_e (a (first + k)) := by rw [ss_ci (by omega)]; exact hA _ (by omega) (by omega)
    have x2 : ri (nI n - nI (first + k)).toNatClampNeg = ss_e (b (n - (first + k))) := by rw [pk_sub (by omega), ss_ci (by omega)]; exact hB _ (by omega) (by omega)
    refine br_f (nI_nlt (by omega) (by omega)) ⟨vp_in_nI (by omega) (by decide), ?_, nm_e (nm_r (nI_1 (first + k)) (ih (k + 1) _ (by omega) (ss_acc hs x1 x2 (by omega))))⟩
    rw [pk_sub (by omega)]
    exact vp_in_nI (by omega) (by decide)
theorem ss_so_left_right {post : Int32 → Prop} (a b : Nat → ss_F) {n first last : Nat} {c le ri re ot sl lp rp lW rW pt lL rL pL : Nat → Int32} (hA : ∀ i, first ≤ i → i ≤ last → le i = ss_e (a i)) (hB : ∀ i, first ≤ i → i ≤ last → ri (n - i) = ss_e (b (n - i))) (hn : n < 32) (hl : last ≤ n) (hf : first ≤ last + 1) (p : post (ss_e (ss_o a b n first (last + 1 - first)))) : wpX_sumOfProducts__left_right post (c, le, ri, re, ot, sl, lp, rp, lW, rW, pt, lL, rL, pL) (nI n) (nI first) (nI last) :=
  ⟨last + 1 - first + 1, ss_so_left_right_lp a b hA hB hn hl p (last + 1 - first) 0 0 (by omega) ss_acc0⟩
theorem ss_so_left_result_lp {post : Int32 → Prop} (a b : Nat → ss_F) {n first last : Nat} {c le ri re ot sl lp rp lW rW pt lL rL pL : Nat → Int32} (hA : ∀ i, first ≤ i → i ≤ last → le i = ss_e (a i)) (hB : ∀ i, first ≤ i → i ≤ last → re (n - i) = ss_e (b (n - i))) (hn : n < 32) (hl : last ≤ n) (p : post (ss_e (ss_o a b n first (last + 1 - first)))) : ∀ d k sum, first + k + d = last + 1 → ss_LV sum (ss_o a b n first k) (k * 150994944) → wX_sumOfProducts__left_result_6 post (nI n) (nI last) c le ri re ot sl lp rp lW rW pt lL rL pL (d + 1) sum (nI (first + k)) := by
  intro d
  induction d with
  | zero =>
    intro k sum hk hs
    have e : last + 1 - first = k := by omega
    rw [e] at p
    exact br_t (nI_lt (by omega) (by omega)) (ss_Xr hs p)
  | succ d ih =>
    intro k sum hk hs
    have x1 : le (nI (first + k)).toNatClampNeg = ss_e (a (first + k)) := by rw [ss_ci (by omega)]; exact hA _ (by omega) (by omega)
    have x2 : re (nI n - nI (first + k)).toNatClampNeg = ss_e (b (n - (first + k))) := by rw [pk_sub (by omega), ss_ci (by omega)]; exact hB _ (by omega) (by omega)
    refine br_f (nI_nlt (by omega) (by omega)) ⟨vp_in_nI (by omega) (by decide), ?_, nm_e (nm_r (nI_1 (first + k)) (ih (k + 1) _ (by omega) (ss_acc hs x1 x2 (by omega))))⟩
    rw [pk_sub (by omega)]
    exact vp_in_nI (by omega) (by decide)
theorem ss_so_left_result {post : Int32 → Prop} (a b : Nat → ss_F) {n first last : Nat} {c le ri re ot sl lp rp lW rW pt lL rL pL : Nat → Int32} (hA : ∀ i, first ≤ i → i ≤ last → le i = ss_e (a i)) (hB : ∀ i, first ≤ i → i ≤ last → re (n - i) = ss_e (b (n - i))) (hn : n < 32) (hl : last ≤ n) (hf : first ≤ last + 1) (p : post (ss_e (ss_o a b n first (last + 1 - first)))) : wpX_sumOfProducts__left_result post (c, le, ri, re, ot, sl, lp, rp, lW, rW, pt, lL, rL, pL) (nI n) (nI first) (nI last) :=
  ⟨last + 1 - first + 1, ss_so_left_result_lp a b hA hB hn hl p (last + 1 - first) 0 0 (by omega) ss_acc0⟩
theorem ss_so_slopes_left_lp {post : Int32 → Prop} (a b : Nat → ss_F) {n first last : Nat} {c le ri re ot sl lp rp lW rW pt lL rL pL : Nat → Int32} (hA : ∀ i, first ≤ i → i ≤ last → sl i = ss_e (a i)) (hB : ∀ i, first ≤ i → i ≤ last → le (n - i) = ss_e (b (n - i))) (hn : n < 32) (hl : last ≤ n) (p : post (ss_e (ss_o a b n first (last + 1 - first)))) : ∀ d k sum, first + k + d = last + 1 → ss_LV sum (ss_o a b n first k) (k * 150994944) → wX_sumOfProducts__slopes_left_6 post (nI n) (nI last) c le ri re ot sl lp rp lW rW pt lL rL pL (d + 1) sum (nI (first + k)) := by
  intro d
  induction d with
  | zero =>
    intro k sum hk hs
    have e : last + 1 - first = k := by omega
    rw [e] at p
    exact br_t (nI_lt (by omega) (by omega)) (ss_Xr hs p)
  | succ d ih =>
    intro k sum hk hs
    have x1 : sl (nI (first + k)).toNatClampNeg = ss_e (a (first + k)) := by rw [ss_ci (by omega)]; exact hA _ (by omega) (by omega)
    have x2 : le (nI n - nI (first + k)).toNatClampNeg = ss_e (b (n - (first + k))) := by rw [pk_sub (by omega), ss_ci (by omega)]; exact hB _ (by omega) (by omega)
    refine br_f (nI_nlt (by omega) (by omega)) ⟨vp_in_nI (by omega) (by decide), ?_, nm_e (nm_r (nI_1 (first + k)) (ih (k + 1) _ (by omega) (ss_acc hs x1 x2 (by omega))))⟩
    rw [pk_sub (by omega)]
    exact vp_in_nI (by omega) (by decide)
theorem ss_so_slopes_left {post : Int32 → Prop} (a b : Nat → ss_F) {n first last : Nat} {c le ri re ot sl lp rp lW rW pt lL rL pL : Nat → Int32} (hA : ∀ i, first ≤ i → i ≤ last → sl i = ss_e (a i)) (hB : ∀ i, first ≤ i → i ≤ last → le (n - i) = ss_e (b (n - i))) (hn : n < 32) (hl : last ≤ n) (hf : first ≤ last + 1) (p : post (ss_e (ss_o a b n first (last + 1 - first)))) : wpX_sumOfProducts__slopes_left post (c, le, ri, re, ot, sl, lp, rp, lW, rW, pt, lL, rL, pL) (nI n) (nI first) (nI last) :=
  ⟨last + 1 - first + 1, ss_so_slopes_left_lp a b hA hB hn hl p (last + 1 - first) 0 0 (by omega) ss_acc0⟩
theorem ss_so_slopes_result_lp {post : Int32 → Prop} (a b : Nat → ss_F) {n first last : Nat} {c le ri re ot sl lp rp lW rW pt lL rL pL : Nat → Int32} (hA : ∀ i, first ≤ i → i ≤ last → sl i = ss_e (a i)) (hB : ∀ i, first ≤ i → i ≤ last → re (n - i) = ss_e (b (n - i))) (hn : n < 32) (hl : last ≤ n) (p : post (ss_e (ss_o a b n first (last + 1 - first)))) : ∀ d k sum, first + k + d = last + 1 → ss_LV sum (ss_o a b n first k) (k * 150994944) → wX_sumOfProducts__slopes_result_6 post (nI n) (nI last) c le ri re ot sl lp rp lW rW pt lL rL pL (d + 1) sum (nI (first + k)) := by
  intro d
  induction d with
  | zero =>
    intro k sum hk hs
    have e : last + 1 - first = k := by omega
    rw [e] at p
    exact br_t (nI_lt (by omega) (by omega)) (ss_Xr hs p)
  | succ d ih =>
    intro k sum hk hs
    have x1 : sl (nI (first + k)).toNatClampNeg = ss_e (a (first + k)) := by rw [ss_ci (by omega)]; exact hA _ (by omega) (by omega)
    have x2 : re (nI n - nI (first + k)).toNatClampNeg = ss_e (b (n - (first + k))) := by rw [pk_sub (by omega), ss_ci (by omega)]; exact hB _ (by omega) (by omega)
    refine br_f (nI_nlt (by omega) (by omega)) ⟨vp_in_nI (by omega) (by decide), ?_, nm_e (nm_r (nI_1 (first + k)) (ih (k + 1) _ (by omega) (ss_acc hs x1 x2 (by omega))))⟩
    rw [pk_sub (by omega)]
    exact vp_in_nI (by omega) (by decide)
theorem ss_so_slopes_result {post : Int32 → Prop} (a b : Nat → ss_F) {n first last : Nat} {c le ri re ot sl lp rp lW rW pt lL rL pL : Nat → Int32} (hA : ∀ i, first ≤ i → i ≤ last → sl i = ss_e (a i)) (hB : ∀ i, first ≤ i → i ≤ last → re (n - i) = ss_e (b (n - i))) (hn : n < 32) (hl : last ≤ n) (hf : first ≤ last + 1) (p : post (ss_e (ss_o a b n first (last + 1 - first)))) : wpX_sumOfProducts__slopes_result post (c, le, ri, re, ot, sl, lp, rp, lW, rW, pt, lL, rL, pL) (nI n) (nI first) (nI last) :=
  ⟨last + 1 - first + 1, ss_so_slopes_result_lp a b hA hB hn hl p (last + 1 - first) 0 0 (by omega) ss_acc0⟩
theorem ss_so_result_result_lp {post : Int32 → Prop} (a b : Nat → ss_F) {n first last : Nat} {c le ri re ot sl lp rp lW rW pt lL rL pL : Nat → Int32} (hA : ∀ i, first ≤ i → i ≤ last → re i = ss_e (a i)) (hB : ∀ i, first ≤ i → i ≤ last → re (n - i) = ss_e (b (n - i))) (hn : n < 32) (hl : last ≤ n) (p : post (ss_e (ss_o a b n first (last + 1 - first)))) : ∀ d k sum, first + k + d = last + 1 → ss_LV sum (ss_o a b n first k) (k * 150994944) → wX_sumOfProducts__result_result_6 post (nI n) (nI last) c le ri re ot sl lp rp lW rW pt lL rL pL (d + 1) sum (nI (first + k)) := by
  intro d
  induction d with
  | zero =>
    intro k sum hk hs
    have e : last + 1 - first = k := by omega
    rw [e] at p
    exact br_t (nI_lt (by omega) (by omega)) (ss_Xr hs p)
  | succ d ih =>
    intro k sum hk hs
    have x1 : re (nI (first + k)).toNatClampNeg = ss_e (a (first + k)) := by rw [ss_ci (by omega)]; exact hA _ (by omega) (by omega)
    have x2 : re (nI n - nI (first + k)).toNatClampNeg = ss_e (b (n - (first + k))) := by rw [pk_sub (by omega), ss_ci (by omega)]; exact hB _ (by omega) (by omega)
    refine br_f (nI_nlt (by omega) (by omega)) ⟨vp_in_nI (by omega) (by decide), ?_, nm_e (nm_r (nI_1 (first + k)) (ih (k + 1) _ (by omega) (ss_acc hs x1 x2 (by omega))))⟩
    rw [pk_sub (by omega)]
    exact vp_in_nI (by omega) (by decide)
theorem ss_so_result_result {post : Int32 → Prop} (a b : Nat → ss_F) {n first last : Nat} {c le ri re ot sl lp rp lW rW pt lL rL pL : Nat → Int32} (hA : ∀ i, first ≤ i → i ≤ last → re i = ss_e (a i)) (hB : ∀ i, first ≤ i → i ≤ last → re (n - i) = ss_e (b (n - i))) (hn : n < 32) (hl : last ≤ n) (hf : first ≤ last + 1) (p : post (ss_e (ss_o a b n first (last + 1 - first)))) : wpX_sumOfProducts__result_result post (c, le, ri, re, ot, sl, lp, rp, lW, rW, pt, lL, rL, pL) (nI n) (nI first) (nI last) :=
  ⟨last + 1 - first + 1, ss_so_result_result_lp a b hA hB hn hl p (last + 1 - first) 0 0 (by omega) ss_acc0⟩
theorem ss_va_left_lp {post : Int32 → Prop} {f : Nat → ss_F} {x : ss_F} {c le ri re ot sl lp rp lW rW pt lL rL pL : Nat → Int32} (hA : ss_A le f 32) (p : post (ss_e (ss_v 32 f x))) : ∀ k y, k ≤ 32 → y = ss_m k → wX_valueAt__left_5 post (ss_e x) c le ri re ot sl lp rp lW rW pt lL rL pL (k + 1) (ss_e (ss_h f x k)) y := by
  intro k
  induction k with
  | zero =>
    intro y _ hy
    subst hy
    rw [ss_h0]
    exact br_t (by decide) p
  | succ k ih =>
    intro y hk hy
    subst hy
    rw [ss_m_s]
    refine br_f (nI_pos (by omega)) ⟨vp_in_nI (by omega) (by decide), ss_pI, nm_r ?_ (nm_e (ih _ (by omega) rfl))⟩
    rw [ss_ci (by omega), hA k (by omega), ss_hs f x (k := k) (by omega)]
    exact ss_NV_rem (ss_NV_add (ss_NV_mul (ss_NV_e _) (ss_NV_e x)) (ss_NV_e _))
theorem ss_va_left {post : Int32 → Prop} {f : Nat → ss_F} {x : ss_F} {c le ri re ot sl lp rp lW rW pt lL rL pL : Nat → Int32} (hA : ss_A le f 32) (p : post (ss_e (ss_v 32 f x))) : wpX_valueAt__left post (c, le, ri, re, ot, sl, lp, rp, lW, rW, pt, lL, rL, pL) (ss_e x) := ⟨33, ss_va_left_lp hA p 32 31 (Nat.le_refl 32) (by decide)⟩
theorem ss_lz_left_lp {post : Int32 → Prop} {f : Nat → ss_F} {c le ri re ot sl lp rp lW rW pt lL rL pL : Nat → Int32} (hA : ss_A le f 32) : ∀ k y, k ≤ 32 → y = ss_m k → post (ss_m (ss_d f k)) → wX_lastNonZero__left_3 post c le ri re ot sl lp rp lW rW pt lL rL pL (k + 1) y := by
  intro k
  induction k with
  | zero =>
    intro y _ hy p
    subst hy
    exact br_t (by decide) (ss_m_0 ▸ p)
  | succ k ih =>
    intro y hk hy p
    subst hy
    rw [ss_m_s]
    have e : le (nI k).toNatClampNeg = ss_e (f k) := by rw [ss_ci (by omega)]; exact hA k (by omega)
    have p' : post (ss_m (if f k = 0 then ss_d f k else k + 1)) := p
    refine br_f (nI_pos (by omega)) ⟨vp_in_nI (by omega) (by decide), ?_⟩
    by_cases z : f k = 0
    · rw [if_pos z] at p'
      exact br_t (by rw [e, z]; exact ss_e0) (nm_e (ih _ (by omega) rfl p'))
    · rw [if_neg z, ss_m_s] at p'
      exact br_f (by rw [e]; exact fun h => z ((ss_e_eq0 _).mp h)) p'
theorem ss_lz_left {post : Int32 → Prop} {f : Nat → ss_F} {c le ri re ot sl lp rp lW rW pt lL rL pL : Nat → Int32} (hA : ss_A le f 32) (p : post (ss_m (ss_d f 32))) : wpX_lastNonZero__left post (c, le, ri, re, ot, sl, lp, rp, lW, rW, pt, lL, rL, pL) := ⟨33, ss_lz_left_lp hA 32 31 (Nat.le_refl 32) (by decide) p⟩
theorem ss_va_right_lp {post : Int32 → Prop} {f : Nat → ss_F} {x : ss_F} {c le ri re ot sl lp rp lW rW pt lL rL pL : Nat → Int32} (hA : ss_A ri f 32) (p : post (ss_e (ss_v 32 f x))) : ∀ k y, k ≤ 32 → y = ss_m k → wX_valueAt__right_5 post (ss_e x) c le ri re ot sl lp rp lW rW pt lL rL pL (k + 1) (ss_e (ss_h f x k)) y := by
  intro k
  induction k with
  | zero =>
    intro y _ hy
    subst hy
    rw [ss_h0]
    exact br_t (by decide) p
  | succ k ih =>
    intro y hk hy
    subst hy
    rw [ss_m_s]
    refine br_f (nI_pos (by omega)) ⟨vp_in_nI (by omega) (by decide), ss_pI, nm_r ?_ (nm_e (ih _ (by omega) rfl))⟩
    rw [ss_ci (by omega), hA k (by omega), ss_hs f x (k := k) (by omega)]
    exact ss_NV_rem (ss_NV_add (ss_NV_mul (ss_NV_e _) (ss_NV_e x)) (ss_NV_e _))
theorem ss_va_right {post : Int32 → Prop} {f : Nat → ss_F} {x : ss_F} {c le ri re ot sl lp rp lW rW pt lL rL pL : Nat → Int32} (hA : ss_A ri f 32) (p : post (ss_e (ss_v 32 f x))) : wpX_valueAt__right post (c, le, ri, re, ot, sl, lp, rp, lW, rW, pt, lL, rL, pL) (ss_e x) := ⟨33, ss_va_right_lp hA p 32 31 (Nat.le_refl 32) (by decide)⟩
theorem ss_lz_right_lp {post : Int32 → Prop} {f : Nat → ss_F} {c le ri re ot sl lp rp lW rW pt lL rL pL : Nat → Int32} (hA : ss_A ri f 32) : ∀ k y, k ≤ 32 → y = ss_m k → post (ss_m (ss_d f k)) → wX_lastNonZero__right_3 post c le ri re ot sl lp rp lW rW pt lL rL pL (k + 1) y := by
  intro k
  induction k with
  | zero =>
    intro y _ hy p
    subst hy
    exact br_t (by decide) (ss_m_0 ▸ p)
  | succ k ih =>
    intro y hk hy p
    subst hy
    rw [ss_m_s]
    have e : ri (nI k).toNatClampNeg = ss_e (f k) := by rw [ss_ci (by omega)]; exact hA k (by omega)
    have p' : post (ss_m (if f k = 0 then ss_d f k else k + 1)) := p
    refine br_f (nI_pos (by omega)) ⟨vp_in_nI (by omega) (by decide), ?_⟩
    by_cases z : f k = 0
    · rw [if_pos z] at p'
      exact br_t (by rw [e, z]; exact ss_e0) (nm_e (ih _ (by omega) rfl p'))
    · rw [if_neg z, ss_m_s] at p'
      exact br_f (by rw [e]; exact fun h => z ((ss_e_eq0 _).mp h)) p'
theorem ss_lz_right {post : Int32 → Prop} {f : Nat → ss_F} {c le ri re ot sl lp rp lW rW pt lL rL pL : Nat → Int32} (hA : ss_A ri f 32) (p : post (ss_m (ss_d f 32))) : wpX_lastNonZero__right post (c, le, ri, re, ot, sl, lp, rp, lW, rW, pt, lL, rL, pL) := ⟨33, ss_lz_right_lp hA 32 31 (Nat.le_refl 32) (by decide) p⟩
