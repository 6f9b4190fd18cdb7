/-! invert, log, exp, root -/
theorem ss_c0 (f : Nat → ss_F) {s : Nat} (hs : s < 5) : ss_em f (nI s * 32).toNatClampNeg = ss_e (ss_g f s 0) := by
  rw [ss_i0, ss_cl160 hs (by decide)]
  rfl
theorem ss_v0 {s : Nat} (hs : s < 5) : vp_in (nI s * 32) 160 := by
  rw [ss_i0]
  exact ss_in160 hs (by decide)
theorem ss_n1I {n : Nat} (h : 0 < n) : nI n - 1 = nI (n - 1) := pk_sub (b := 1) h
theorem ss_LV1 : ss_LV 1 1 1 := ⟨by decide, by decide⟩
theorem ss_LVs {i : Nat} (h : i < 1000) : ss_LV ((nI i).toInt64 + 1) (ss_n (i + 1)) (i + 1) := by
  rw [ss_n_succ]
  exact ss_LV_add (ss_IV_L (ss_IV_n i (by omega))) ss_LV1 (by omega)
/-! invert -/
theorem ss_X_inv_lp {post : Int32 → SX → Prop} {s : Nat} (hs : s < 5) {f l : Nat → ss_F} {cc : ss_F} {le ri ot sl lp rp lW rW pt lL rL pL : Nat → Int32} (hA : ss_A le l 32) (p : ∀ x, post 1 (ss_em (ss_b f s 32 (ss_gI l cc)), le, ri, x, ot, sl, lp, rp, lW, rW, pt, lL, rL, pL)) : ∀ d n x, n + d = 32 → 0 < n → ss_A x (ss_gI l cc) n → wX_invert_49 post (nI s) (ss_e cc) (d + 1) (nI n) (ss_em f) le ri x ot sl lp rp lW rW pt lL rL pL := by
  intro d
  induction d with
  | zero =>
    intro n x hn _ hx
    have : n = 32 := by omega
    subst this
    exact br_t (by decide) (ss_st_result hs hx (p x))
  | succ d ih =>
    intro n x hn h0 hx
    have LV : ss_LV ((-ss_e (ss_o l (ss_gI l cc) n 1 (n + 1 - 1))) * ss_e cc).toInt64 (ss_gI l cc n) (12288 * 12288) := by
      rw [ss_gI_n l cc h0 (by omega), Nat.add_sub_cancel]
      exact ss_IV_L (ss_IV_mul (ss_IV_neg (ss_IV_e _)) (ss_IV_e cc))
    refine br_f (nI_ge (b := 32) (by omega) (by decide)) (ss_so_left_result l (ss_gI l cc) (first := 1) (fun i _ h2 => hA i (by omega)) (fun i h1 h2 => hx _ (by omega)) (by omega) (Nat.le_refl n) (by omega) (ss_Xr LV ⟨vp_in_nI (by omega) (by decide), nm_e (nm_r (nI_1 n) (ih (n + 1) _ (by omega) (by omega) ?_))⟩))
    rw [ss_ci (by omega)]
    exact ss_A_s hx rfl
theorem ss_Y_inv_in {post : Int32 → SY → Prop} {J : Int32 → (Nat → Int32) → (Nat → Int32) → Prop} {f : Nat → ss_F} {m : Nat → Int32} {s : Nat} (hs : s < 5) {cc : ss_F} {n : Nat} (h0 : 0 < n) (hn : n < 32) (hx : ss_A m (ss_gI (ss_g f s) cc) n) (h : J (nI (n + 1)) (ss_em f) (upd m n (ss_e (ss_gI (ss_g f s) cc n)))) : ∀ d k sum, 1 + k + d = n + 1 → ss_LV sum (ss_o (ss_g f s) (ss_gI (ss_g f s) cc) n 1 k) (k * 150994944) → wY_invert_54 post J (nI s) (ss_e cc) (nI n) (ss_em f) m (d + 1) sum (nI (1 + k)) := by
  intro d
  induction d with
  | zero =>
    intro k sum hk hL
    have e : k = n := by omega
    subst e
    have LV : ss_LV ((-(ss_e (ss_o (ss_g f s) (ss_gI (ss_g f s) cc) k 1 k)).toInt64) * (ss_e cc).toInt64) (ss_gI (ss_g f s) cc k) (12288 * 12288) := by
      rw [ss_gI_n _ cc h0 hn]
      exact ss_LV_mul (ss_LV_neg (ss_LVe _)) (ss_LVe cc)
    refine br_t (nI_lt (by omega) (by omega)) (ss_Yr hL (ss_Yr LV ⟨vp_in_nI (by omega) (by decide), nm_e (nm_r (nI_1 k) ?_)⟩))
    rw [ss_ci (by omega)]
    exact h
  | succ d ih =>
    intro k sum hk hL
    have x2 : m (nI n - nI (1 + k)).toNatClampNeg = ss_e (ss_gI (ss_g f s) cc (n - (1 + k))) := by rw [pk_sub (by omega), ss_ci (by omega)]; exact hx _ (by omega)
    refine br_f (nI_nlt (by omega) (by omega)) (ss_Yat hs (by omega) ⟨?_, nm_e (nm_r (nI_1 (1 + k)) (ih (k + 1) _ (by omega) (ss_accY hL rfl x2 (by omega))))⟩)
    rw [pk_sub (by omega)]
    exact vp_in_nI (by omega) (by decide)
theorem ss_Y_inv_lp {post : Int32 → SY → Prop} {f : Nat → ss_F} {s : Nat} (hs : s < 5) {cc : ss_F} (p : ∀ m, post 1 (ss_em (ss_b f s 32 (ss_gI (ss_g f s) cc)), m)) : ∀ d n m, n + d = 32 → ss_A m (ss_gI (ss_g f s) cc) n → wY_invert_32 post (nI s) (ss_e cc) (d + 1) (nI n) (ss_em f) m := by
  intro d
  induction d with
  | zero =>
    intro n m hn hx
    have : n = 32 := by omega
    subst this
    exact br_t (by decide) (ss_tk hs hx (p m))
  | succ d ih =>
    intro n m hn hx
    have nx := ih (n + 1) (upd m n (ss_e (ss_gI (ss_g f s) cc n))) (by omega) (ss_A_s hx rfl)
    refine br_f (nI_ge (b := 32) (by omega) (by decide)) ?_
    by_cases z : n = 0
    · subst z
      have LV : ss_LV ((-(ss_e (-1)).toInt64) * (ss_e cc).toInt64) (ss_gI (ss_g f s) cc 0) (12288 * 12288) := by
        rw [ss_gI_0]
        have e : cc = (-(-1)) * cc := by grobner
        have k := ss_LV_mul (ss_LV_neg (ss_LVe (-1))) (ss_LVe cc)
        rw [← e] at k
        exact k
      exact br_t rfl ⟨1, br_t (by decide) (ss_Yr ss_LV_m1 (ss_Yr LV ⟨vp_in_nI (n := 0) (by decide) (by decide), nm_e (nm_r (nI_1 0) nx)⟩))⟩
    · exact br_f (fun e => nI_ne0 (Nat.pos_of_ne_zero z) (by omega) e) ⟨n + 1, ss_Y_inv_in hs (by omega) (by omega) hx nx n 0 0 (by omega) ss_acc0⟩
theorem i_vc_invert {k : Nat} {u : SX} {v : SY} (I : i_Rel k u v) (hk : k + 5 ≤ 2560) (v1 : Int32) : wpX_invert (fun r u' => wpY_invert (fun r' v' => r' = r ∧ i_Rel (k + 5) u' v') v v1) u v1 := by
  obtain ⟨f, le, ri, re, ot, sl, lp, rp, lW, rW, pt, lL, rL, pL, m, rfl, rfl, hP⟩ := I
  rcases ss_ser v1 with h | ⟨s, hs, rfl⟩
  · unfold wpX_invert wpY_invert
    exact ss_XserF h (br_t rfl (ss_YserF h (br_t rfl ⟨rfl, ss_R hP⟩)))
  · by_cases z : ss_g f s 0 = 0
    · have e : ss_e (ss_g f s 0) = 0 := by rw [z]; exact ss_e0
      unfold wpX_invert wpY_invert
      exact ss_XserT hs (br_f ss_10 ⟨ss_v0 hs, br_t ((ss_c0 f hs).trans e) (ss_YserT hs (br_f ss_10 (ss_Yat (i := 0) hs (by decide) (br_t e ⟨rfl, ss_R hP⟩))))⟩)
    · have e : ¬ ss_e (ss_g f s 0) = 0 := fun h => z ((ss_e_eq0 _).mp h)
      unfold wpX_invert
      refine ss_XserT hs (br_f ss_10 ⟨ss_v0 hs, br_f (by rw [ss_c0 f hs]; exact e) (ss_ld_left hs (fun x hx => ?_))⟩)
      show wpX_inverse _ (x 0)
      rw [hx 0 (by decide)]
      refine ss_Xi (nm_e ⟨32, ss_X_inv_lp hs hx (fun y => ?_) 31 1 _ rfl (by decide) (ss_A_s (n := 0) (ss_A_0 _ _) (by rw [ss_gI_0]))⟩)
      unfold wpY_invert
      exact ss_YserT hs (br_f ss_10 (ss_Yat (i := 0) hs (by decide) (br_f e (ss_Yat (i := 0) hs (by decide) (ss_Yi z ⟨33, ss_Y_inv_lp hs (fun m => ⟨rfl, ss_R hP⟩) 32 0 m rfl (ss_A_0 _ _)⟩)))))
/-! log -/
theorem ss_X_log_lp {post : Int32 → SX → Prop} {s : Nat} (hs : s < 5) {f l : Nat → ss_F} {le ri ot lp rp lW rW pt lL rL pL : Nat → Int32} (hA : ss_A le l 32) (p : ∀ x y, post 1 (ss_em (ss_b f s 32 (ss_gL l)), le, ri, x, ot, y, lp, rp, lW, rW, pt, lL, rL, pL)) : ∀ d n x y, n + d = 32 → 0 < n → ss_A x (ss_gL l) n → (∀ j, 0 < j → j < n → y j = ss_e (ss_gS l j)) → wX_log_40 post (nI s) (d + 1) (nI n) (ss_em f) le ri x ot y lp rp lW rW pt lL rL pL := by
  intro d
  induction d with
  | zero =>
    intro n x y hn _ hx hy
    have : n = 32 := by omega
    subst this
    exact br_t (by decide) (ss_st_result hs hx (p x y))
  | succ d ih =>
    intro n x y hn h0 hx hy
    have e1 := ss_n1I h0
    have LV : ss_LV (nI n * le (nI n).toNatClampNeg - ss_e (ss_o (ss_gS l) l n 1 (n - 1 + 1 - 1))).toInt64 (ss_gS l n) (n * 12288 + 12288) := by
      rw [ss_gS_n l h0 (by omega), Nat.add_sub_cancel, ss_ci (by omega), hA n (by omega)]
      exact ss_IV_L (ss_IV_sub (ss_IV_mul (ss_IV_n n (by omega)) (ss_IV_e _) (by omega)) (ss_IV_e _) (by omega))
    refine br_f (nI_ge (b := 32) (by omega) (by decide)) ?_
    rw [e1]
    refine ss_so_slopes_left (ss_gS l) l (first := 1) (fun i h1 h2 => hy i (by omega) (by omega)) (fun i h1 h2 => hA _ (by omega)) (by omega) (by omega) (by omega) ⟨vp_in_nI (by omega) (by decide), ss_Xr LV ⟨vp_in_nI (by omega) (by decide), nm_r (e' := upd y n (ss_e (ss_gS l n))) (by rw [ss_ci (by omega)]) ⟨vp_in_nI (by omega) (by decide), ?_⟩⟩⟩
    have e3 : nI n = ss_e (ss_n n) := ss_ne (by omega)
    have gl : ∀ P : Int32 → Prop, P (ss_e (ss_i (ss_n n))) → wpX_inverse P (nI n) := fun P hP => by rw [e3]; exact ss_Xi hP
    refine gl _ ⟨ss_pI, vp_in_nI (by omega) (by decide), nm_r (e' := upd x n (ss_e (ss_gL l n))) ?_ (nm_r (nI_1 n) (ih (n + 1) _ _ (by omega) (by omega) (ss_A_s hx rfl) ?_))⟩
    · rw [ss_ci (by omega), pk_us]
      exact congrArg (upd x n) (ss_NV_rem (ss_NV_mul (ss_NV_e _) (ss_NV_e _)))
    · intro j j0 jn
      by_cases ej : j = n
      · subst ej
        exact pk_us
      · rw [pk_un ej]
        exact hy j j0 (by omega)
theorem ss_Y_log_in {post : Int32 → SY → Prop} {J : Int32 → (Nat → Int32) → (Nat → Int32) → Prop} {f : Nat → ss_F} {m : Nat → Int32} {s : Nat} (hs : s < 5) {n : Nat} (hn : n < 31) (hx : ss_A m (ss_gL (ss_g f s)) (n + 1)) (h : J (nI (n + 1)) (ss_em f) (upd m (n + 1) (ss_e (ss_gL (ss_g f s) (n + 1))))) : ∀ d k sum, k + d = n → ss_LV sum (ss_n (n + 1) * ss_g f s (n + 1) - ss_o (ss_gS (ss_g f s)) (ss_g f s) (n + 1) 1 k) ((k + 1) * 150994944) → wY_log_53 post J (nI s) (nI n) (ss_em f) m (d + 1) sum (nI k) := by
  intro d
  induction d with
  | zero =>
    intro k sum hk hL
    have e : k = n := by omega
    subst e
    have g := ss_gS_n (ss_g f s) (n := k + 1) (by omega) (by omega)
    rw [Nat.add_sub_cancel] at g
    rw [← g] at hL
    have e3 : nI k + 1 = ss_e (ss_n (k + 1)) := by rw [nI_1]; exact ss_ne (by omega)
    have gl : ∀ P : Int32 → Prop, P (ss_e (ss_i (ss_n (k + 1)))) → wpY_inverse P (ss_em f, m) (nI k + 1) := fun P hP => by rw [e3]; exact ss_Yi (ss_n_ne (by omega) (by omega)) hP
    refine br_t (nI_le (Nat.le_refl k) (by omega)) (ss_Yr hL (gl _ (ss_Yr (ss_LV_mul (ss_LVe _) (ss_LVe _)) ⟨?_, nm_r (e' := upd m (k + 1) (ss_e (ss_gL (ss_g f s) (k + 1)))) ?_ (nm_r (nI_1 k) h)⟩)))
    · rw [nI_1]
      exact vp_in_nI (by omega) (by decide)
    · rw [nI_1, ss_ci (by omega)]
      rfl
  | succ d ih =>
    intro k sum hk hL
    have e1 : (nI k + 1).toNatClampNeg = k + 1 := by rw [nI_1, ss_ci (by omega)]
    have LV : ss_LV (((nI k).toInt64 + 1) * (m (nI k + 1).toNatClampNeg).toInt64) (ss_gS (ss_g f s) (k + 1)) ((k + 1) * 12288) := by
      rw [e1, hx (k + 1) (by omega), ← ss_gL_s (ss_g f s) (n := k + 1) (by omega) (by omega)]
      exact ss_LV_mul (ss_LVs (by omega)) (ss_LVe _) (by omega)
    have e2 : nI n - nI k = nI (n - k) := pk_sub (by omega)
    refine br_f (nI_ge (by omega) (by omega)) ⟨?_, ss_Yr LV ?_⟩
    · rw [nI_1]
      exact vp_in_nI (by omega) (by decide)
    · rw [e2]
      refine ss_Yat hs (by omega) (nm_e (nm_r (nI_1 k) (ih (k + 1) _ (by omega) ?_)))
      have A := ss_accS hL (x := ss_e (ss_gS (ss_g f s) (k + 1))) (y := ss_e (ss_g f s (n - k))) rfl rfl (by omega)
      have o : ss_o (ss_gS (ss_g f s)) (ss_g f s) (n + 1) 1 (k + 1) = ss_o (ss_gS (ss_g f s)) (ss_g f s) (n + 1) 1 k + ss_gS (ss_g f s) (k + 1) * ss_g f s (n - k) := by
        show _ + ss_gS (ss_g f s) (1 + k) * ss_g f s (n + 1 - (1 + k)) = _
        rw [show 1 + k = k + 1 from by omega, show n + 1 - (k + 1) = n - k from by omega]
        rfl
      have r : ∀ a b c : ss_F, a - (b + c) = a - b - c := fun a b c => by grobner
      rw [o, r]
      exact A
theorem ss_Y_log_lp {post : Int32 → SY → Prop} {f : Nat → ss_F} {s : Nat} (hs : s < 5) (p : ∀ m, post 1 (ss_em (ss_b f s 32 (ss_gL (ss_g f s))), m)) : ∀ d n m, n + d = 31 → ss_A m (ss_gL (ss_g f s)) (n + 1) → wY_log_29 post (nI s) (d + 1) (nI n) (ss_em f) m := by
  intro d
  induction d with
  | zero =>
    intro n m hn hx
    have : n = 31 := by omega
    subst this
    exact br_t (by decide) (ss_tk hs hx (p m))
  | succ d ih =>
    intro n m hn hx
    have nx := ih (n + 1) (upd m (n + 1) (ss_e (ss_gL (ss_g f s) (n + 1)))) (by omega) (ss_A_s hx rfl)
    refine br_f (nI_ge (b := 31) (by omega) (by decide)) ?_
    rw [nI_1]
    refine ss_Yat hs (by omega) (nm_e ⟨n + 1, ss_Y_log_in hs (by omega) hx nx n 0 _ (by omega) ?_⟩)
    have k := ss_LV_mul (ss_LVs (i := n) (by omega)) (ss_LVe (ss_g f s (n + 1))) (by omega)
    have o : ss_n (n + 1) * ss_g f s (n + 1) - ss_o (ss_gS (ss_g f s)) (ss_g f s) (n + 1) 1 0 = ss_n (n + 1) * ss_g f s (n + 1) := by
      show _ - (0 : ss_F) = _
      grobner
    rw [o]
    exact ss_LV_le k (by omega)
theorem i_vc_log {k : Nat} {u : SX} {v : SY} (I : i_Rel k u v) (hk : k + 5 ≤ 2560) (v1 : Int32) : wpX_log (fun r u' => wpY_log (fun r' v' => r' = r ∧ i_Rel (k + 5) u' v') v v1) u v1 := by
  obtain ⟨f, le, ri, re, ot, sl, lp, rp, lW, rW, pt, lL, rL, pL, m, rfl, rfl, hP⟩ := I
  rcases ss_ser v1 with h | ⟨s, hs, rfl⟩
  · unfold wpX_log wpY_log
    exact ss_XserF h (br_t rfl (ss_YserF h (br_t rfl ⟨rfl, ss_R hP⟩)))
  · by_cases z : ss_g f s 0 = 1
    · have e : ss_e (ss_g f s 0) = 1 := by rw [z]; exact ss_e1
      unfold wpX_log
      refine ss_XserT hs (br_f ss_10 ⟨ss_v0 hs, br_t ((ss_c0 f hs).trans e) (ss_ld_left hs (fun x hx => nm_e ⟨32, ss_X_log_lp hs hx (fun y w => ?_) 31 1 _ _ rfl (by decide) (ss_A_s (n := 0) (ss_A_0 _ _) (by rw [ss_gL_0]; rfl)) (fun j j0 j1 => absurd j1 (by omega))⟩))⟩)
      unfold wpY_log
      exact ss_YserT hs (br_f ss_10 (ss_Yat (i := 0) hs (by decide) (br_t e (nm_e ⟨32, ss_Y_log_lp hs (fun m => ⟨rfl, ss_R hP⟩) 31 0 _ rfl (ss_A_s (n := 0) (ss_A_0 _ _) (by rw [ss_gL_0]; rfl))⟩))))
    · have e : ¬ ss_e (ss_g f s 0) = 1 := fun h => z ((ss_e_eq1 _).mp h)
      unfold wpX_log wpY_log
      exact ss_XserT hs (br_f ss_10 ⟨ss_v0 hs, br_f (by rw [ss_c0 f hs]; exact e) (ss_YserT hs (br_f ss_10 (ss_Yat (i := 0) hs (by decide) (br_f e ⟨rfl, ss_R hP⟩))))⟩)
