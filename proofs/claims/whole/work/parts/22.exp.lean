/-! exp -/
theorem ss_X_exp_lp {post : Int32 → SX → Prop} {s : Nat} (hs : s < 5) {f l : Nat → ss_F} {le ri ot lp rp lW rW pt lL rL pL : Nat → Int32} (hA : ss_A le l 32) (p : ∀ x y, post 1 (ss_em (ss_b f s 32 (ss_gE l)), le, ri, x, ot, y, lp, rp, lW, rW, pt, lL, rL, pL)) : ∀ d n x y, n + d = 32 → 0 < n → ss_A x (ss_gE l) n → (∀ j, 0 < j → j < n → y j = ss_e (ss_n j * l j)) → wX_exp_39 post (nI s) (d + 1) (nI n) (ss_em f) le ri x ot y lp rp lW rW pt lL rL pL := by
  intro d
  induction d with
  | zero =>
    intro n x y hn _ hx hy
    have : n = 32 := by omega
    subst this
    exact br_t (by decide) (ss_st_result hs hx (p x y))
  | succ d ih =>
    intro n x y hn h0 hx hy
    have hy' : ∀ j, 0 < j → j < n + 1 → upd y n (ss_e (ss_n n * l n)) j = ss_e (ss_n j * l j) := by
      intro j j0 jn
      by_cases ej : j = n
      · subst ej
        exact pk_us
      · rw [pk_un ej]
        exact hy j j0 (by omega)
    have e3 : nI n = ss_e (ss_n n) := ss_ne (by omega)
    have gl : ∀ P : Int32 → Prop, P (ss_e (ss_i (ss_n n))) → wpX_inverse P (nI n) := fun P hP => by rw [e3]; exact ss_Xi hP
    refine br_f (nI_ge (b := 32) (by omega) (by decide)) ⟨vp_in_nI (by omega) (by decide), ss_pI, vp_in_nI (by omega) (by decide), nm_r (e' := upd y n (ss_e (ss_n n * l n))) ?_ (ss_so_slopes_result (fun i => ss_n i * l i) (ss_gE l) (first := 1) (fun i h1 h2 => hy' i (by omega) (by omega)) (fun i h1 h2 => hx _ (by omega)) (by omega) (Nat.le_refl n) (by omega) (gl _ ⟨ss_pI, vp_in_nI (by omega) (by decide), nm_r (e' := upd x n (ss_e (ss_gE l n))) ?_ (nm_r (nI_1 n) (ih (n + 1) _ _ (by omega) (by omega) (ss_A_s hx rfl) hy'))⟩))⟩
    · rw [ss_ci (by omega), hA n (by omega)]
      exact congrArg (upd y n) (ss_NV_rem (ss_NV_mul (ss_NV_n n) (ss_NV_e _)) (by omega))
    · rw [ss_ci (by omega), ss_gE_n l h0 (by omega), Nat.add_sub_cancel]
      exact congrArg (upd x n) (ss_NV_rem (ss_NV_mul (ss_NV_e _) (ss_NV_e _)))
theorem ss_Y_exp_in {post : Int32 → SY → Prop} {J : Int32 → (Nat → Int32) → (Nat → Int32) → Prop} {f : Nat → ss_F} {m : Nat → Int32} {s : Nat} (hs : s < 5) {n : Nat} (hn : n < 31) (hx : ss_A m (ss_gE (ss_g f s)) (n + 1)) (h : J (nI (n + 1)) (ss_em f) (upd m (n + 1) (ss_e (ss_gE (ss_g f s) (n + 1))))) : ∀ d k sum, k + d = n + 1 → ss_LV sum (ss_s (fun i => ss_gE (ss_g f s) i * (fun j => ss_n j * ss_g f s j) (n - i + 1)) k) (k * 150994944) → wY_exp_39 post J (nI s) (nI n) (ss_em f) m (d + 1) sum (nI k) := by
  intro d
  induction d with
  | zero =>
    intro k sum hk hL
    have e : k = n + 1 := by omega
    subst e
    have rv := ss_o_rev (fun j => ss_n j * ss_g f s j) (ss_gE (ss_g f s)) n
    replace hL : ss_LV sum (ss_o (fun j => ss_n j * ss_g f s j) (ss_gE (ss_g f s)) (n + 1) 1 (n + 1)) ((n + 1) * 150994944) := rv ▸ hL
    have e3 : nI n + 1 = ss_e (ss_n (n + 1)) := by rw [nI_1]; exact ss_ne (by omega)
    have gl : ∀ P : Int32 → Prop, P (ss_e (ss_i (ss_n (n + 1)))) → wpY_inverse P (ss_em f, m) (nI n + 1) := fun P hP => by rw [e3]; exact ss_Yi (ss_n_ne (by omega) (by omega)) hP
    refine br_t (nI_lt (by omega) (by omega)) (ss_Yr hL (gl _ (ss_Yr (ss_LV_mul (ss_LVe _) (ss_LVe _)) ⟨?_, nm_r (e' := upd m (n + 1) (ss_e (ss_gE (ss_g f s) (n + 1)))) ?_ (nm_r (nI_1 n) h)⟩)))
    · rw [nI_1]
      exact vp_in_nI (by omega) (by decide)
    · rw [nI_1, ss_ci (by omega), ss_gE_n (ss_g f s) (n := n + 1) (by omega) (by omega)]
  | succ d ih =>
    intro k sum hk hL
    have e2 : nI n - nI k = nI (n - k) := pk_sub (by omega)
    have e4 : m (nI k).toNatClampNeg = ss_e (ss_gE (ss_g f s) k) := by rw [ss_ci (by omega)]; exact hx k (by omega)
    have LV : ss_LV (((nI (n - k)).toInt64 + 1) * (ss_e (ss_g f s (n - k + 1))).toInt64) (ss_n (n - k + 1) * ss_g f s (n - k + 1)) ((n - k + 1) * 12288) := ss_LV_mul (ss_LVs (by omega)) (ss_LVe _) (by omega)
    refine br_f (nI_nlt (by omega) (by omega)) ⟨vp_in_nI (by omega) (by decide), ?_⟩
    rw [e2, nI_1 (n - k)]
    exact ss_Yat hs (by omega) (ss_Yr LV (nm_e (nm_r (nI_1 k) (ih (k + 1) _ (by omega) (ss_accY hL e4 rfl (by omega))))))
theorem ss_Y_exp_lp {post : Int32 → SY → Prop} {f : Nat → ss_F} {s : Nat} (hs : s < 5) (p : ∀ m, post 1 (ss_em (ss_b f s 32 (ss_gE (ss_g f s))), m)) : ∀ d n m, n + d = 31 → ss_A m (ss_gE (ss_g f s)) (n + 1) → wY_exp_28 post (nI s) (d + 1) (nI n) (ss_em f) m := by
  intro d
  induction d with
  | zero =>
    intro n m hn hx
    have : n = 31 := by omega
    subst this
    exact br_t (by decide) (ss_tk hs hx (p m))
  | succ d ih =>
    intro n m hn hx
    have nx := ih (n + 1) (upd m (n + 1) (ss_e (ss_gE (ss_g f s) (n + 1)))) (by omega) (ss_A_s hx rfl)
    exact br_f (nI_ge (b := 31) (by omega) (by decide)) ⟨n + 2, ss_Y_exp_in hs (by omega) hx nx (n + 1) 0 0 (by omega) ss_acc0⟩
theorem i_vc_exp {k : Nat} {u : SX} {v : SY} (I : i_Rel k u v) (hk : k + 5 ≤ 2560) (v1 : Int32) : wpX_exp (fun r u' => wpY_exp (fun r' v' => r' = r ∧ i_Rel (k + 5) u' v') v v1) u v1 := by
  obtain ⟨f, le, ri, re, ot, sl, lp, rp, lW, rW, pt, lL, rL, pL, m, rfl, rfl, hP⟩ := I
  rcases ss_ser v1 with h | ⟨s, hs, rfl⟩
  · unfold wpX_exp wpY_exp
    exact ss_XserF h (br_t rfl (ss_YserF h (br_t rfl ⟨rfl, ss_R hP⟩)))
  · by_cases z : ss_g f s 0 = 0
    · have e : ss_e (ss_g f s 0) = 0 := by rw [z]; exact ss_e0
      unfold wpX_exp
      refine ss_XserT hs (br_f ss_10 ⟨ss_v0 hs, br_t ((ss_c0 f hs).trans e) (ss_ld_left hs (fun x hx => nm_e ⟨32, ss_X_exp_lp hs hx (fun y w => ?_) 31 1 _ _ rfl (by decide) (ss_A_s (n := 0) (ss_A_0 _ _) (by rw [ss_gE_0]; rfl)) (fun j j0 j1 => absurd j1 (by omega))⟩))⟩)
      unfold wpY_exp
      exact ss_YserT hs (br_f ss_10 (ss_Yat (i := 0) hs (by decide) (br_t e (nm_e ⟨32, ss_Y_exp_lp hs (fun m => ⟨rfl, ss_R hP⟩) 31 0 _ rfl (ss_A_s (n := 0) (ss_A_0 _ _) (by rw [ss_gE_0]; rfl))⟩))))
    · have e : ¬ ss_e (ss_g f s 0) = 0 := fun h => z ((ss_e_eq0 _).mp h)
      unfold wpX_exp wpY_exp
      exact ss_XserT hs (br_f ss_10 ⟨ss_v0 hs, br_f (by rw [ss_c0 f hs]; exact e) (ss_YserT hs (br_f ss_10 (ss_Yat (i := 0) hs (by decide) (br_f e ⟨rfl, ss_R hP⟩))))⟩)
/-! root -/
theorem ss_LV6145 : ss_LV 6145 (ss_n 6145) 6145 := ⟨by decide, by decide⟩
theorem ss_X_root_lp {post : Int32 → SX → Prop} {s : Nat} (hs : s < 5) {f l : Nat → ss_F} {le ri ot sl lp rp lW rW pt lL rL pL : Nat → Int32} (hA : ss_A le l 32) (p : ∀ x, post 1 (ss_em (ss_b f s 32 (ss_gR l)), le, ri, x, ot, sl, lp, rp, lW, rW, pt, lL, rL, pL)) : ∀ d n x, n + d = 32 → 0 < n → ss_A x (ss_gR l) n → wX_root_40 post (nI s) (d + 1) (nI n) (ss_em f) le ri x ot sl lp rp lW rW pt lL rL pL := by
  intro d
  induction d with
  | zero =>
    intro n x hn _ hx
    have : n = 32 := by omega
    subst this
    exact br_t (by decide) (ss_st_result hs hx (p x))
  | succ d ih =>
    intro n x hn h0 hx
    have e1 := ss_n1I h0
    have LV : ss_LV ((le (nI n).toNatClampNeg - ss_e (ss_o (ss_gR l) (ss_gR l) n 1 (n - 1 + 1 - 1))) * 6145).toInt64 (ss_gR l n) ((12288 + 12288) * 6145) := by
      rw [ss_gR_n l h0 (by omega), Nat.add_sub_cancel, ss_ci (by omega), hA n (by omega)]
      exact ss_IV_L (ss_IV_mul (ss_IV_sub (ss_IV_e _) (ss_IV_e _)) (ss_IV_n 6145 (by decide)))
    refine br_f (nI_ge (b := 32) (by omega) (by decide)) ?_
    rw [e1]
    refine ss_so_result_result (ss_gR l) (ss_gR l) (first := 1) (fun i h1 h2 => hx i (by omega)) (fun i h1 h2 => hx _ (by omega)) (by omega) (by omega) (by omega) ⟨vp_in_nI (by omega) (by decide), ss_Xr LV ⟨vp_in_nI (by omega) (by decide), nm_r (e' := upd x n (ss_e (ss_gR l n))) (by rw [ss_ci (by omega)]) (nm_r (nI_1 n) (ih (n + 1) _ (by omega) (by omega) (ss_A_s hx rfl)))⟩⟩
theorem ss_Y_root_in {post : Int32 → SY → Prop} {J : Int32 → (Nat → Int32) → (Nat → Int32) → Prop} {f : Nat → ss_F} {m : Nat → Int32} {s : Nat} {n : Nat} (h0 : 0 < n) (hn : n < 32) (hx : ss_A m (ss_gR (ss_g f s)) n) (h : J (nI (n + 1)) (ss_em f) (upd m n (ss_e (ss_gR (ss_g f s) n)))) : ∀ d k sum, 1 + k + d = n → ss_LV sum (ss_g f s n - ss_o (ss_gR (ss_g f s)) (ss_gR (ss_g f s)) n 1 k) ((k + 1) * 150994944) → wY_root_46 post J (nI s) (nI n) (ss_em f) m (d + 1) sum (nI (1 + k)) := by
  intro d
  induction d with
  | zero =>
    intro k sum hk hL
    have e : k = n - 1 := by omega
    have LV : ss_LV ((ss_e (ss_g f s n - ss_o (ss_gR (ss_g f s)) (ss_gR (ss_g f s)) n 1 k)).toInt64 * 6145) (ss_gR (ss_g f s) n) (12288 * 6145) := by
      rw [ss_gR_n (ss_g f s) h0 (by omega), e]
      exact ss_LV_mul (ss_LVe _) ss_LV6145
    exact br_t (nI_le (by omega) (by omega)) (ss_Yr hL (ss_Yr LV ⟨vp_in_nI (by omega) (by decide), nm_r (e' := upd m n (ss_e (ss_gR (ss_g f s) n))) (by rw [ss_ci (by omega)]) (nm_r (nI_1 n) h)⟩))
  | succ d ih =>
    intro k sum hk hL
    have x1 : m (nI (1 + k)).toNatClampNeg = ss_e (ss_gR (ss_g f s) (1 + k)) := by rw [ss_ci (by omega)]; exact hx _ (by omega)
    have x2 : m (nI n - nI (1 + k)).toNatClampNeg = ss_e (ss_gR (ss_g f s) (n - (1 + k))) := by rw [pk_sub (by omega), ss_ci (by omega)]; exact hx _ (by omega)
    refine br_f (nI_ge (by omega) (by omega)) ⟨vp_in_nI (by omega) (by decide), ?_, nm_e (nm_r (nI_1 (1 + k)) (ih (k + 1) _ (by omega) ?_))⟩
    · rw [pk_sub (by omega)]
      exact vp_in_nI (by omega) (by decide)
    · have A := ss_accS hL x1 x2 (by omega)
      have o : ss_o (ss_gR (ss_g f s)) (ss_gR (ss_g f s)) n 1 (k + 1) = ss_o (ss_gR (ss_g f s)) (ss_gR (ss_g f s)) n 1 k + ss_gR (ss_g f s) (1 + k) * ss_gR (ss_g f s) (n - (1 + k)) := rfl
      have r : ∀ a b c : ss_F, a - (b + c) = a - b - c := fun a b c => by grobner
      rw [o, r]
      exact A
theorem ss_Y_root_lp {post : Int32 → SY → Prop} {f : Nat → ss_F} {s : Nat} (hs : s < 5) (p : ∀ m, post 1 (ss_em (ss_b f s 32 (ss_gR (ss_g f s))), m)) : ∀ d n m, n + d = 32 → 0 < n → ss_A m (ss_gR (ss_g f s)) n → wY_root_29 post (nI s) (d + 1) (nI n) (ss_em f) m := by
  intro d
  induction d with
  | zero =>
    intro n m hn _ hx
    have : n = 32 := by omega
    subst this
    exact br_t (by decide) (ss_tk hs hx (p m))
  | succ d ih =>
    intro n m hn h0 hx
    have nx := ih (n + 1) (upd m n (ss_e (ss_gR (ss_g f s) n))) (by omega) (by omega) (ss_A_s hx rfl)
    refine br_f (nI_ge (b := 32) (by omega) (by decide)) (ss_Yat hs (by omega) ⟨n - 1 + 1, ss_Y_root_in h0 (by omega) hx nx (n - 1) 0 _ (by omega) ?_⟩)
    have o : ss_g f s n - ss_o (ss_gR (ss_g f s)) (ss_gR (ss_g f s)) n 1 0 = ss_g f s n := by
      show _ - (0 : ss_F) = _
      grobner
    rw [o]
    exact ss_LV_le (ss_LVe _) (by omega)
theorem i_vc_root {k : Nat} {u : SX} {v : SY} (I : i_Rel k u v) (hk : k + 5 ≤ 2560) (v1 : Int32) : wpX_root (fun r u' => wpY_root (fun r' v' => r' = r ∧ i_Rel (k + 5) u' v') v v1) u v1 := by
  obtain ⟨f, le, ri, re, ot, sl, lp, rp, lW, rW, pt, lL, rL, pL, m, rfl, rfl, hP⟩ := I
  rcases ss_ser v1 with h | ⟨s, hs, rfl⟩
  · unfold wpX_root wpY_root
    exact ss_XserF h (br_t rfl (ss_YserF h (br_t rfl ⟨rfl, ss_R hP⟩)))
  · by_cases z : ss_g f s 0 = 1
    · have e : ss_e (ss_g f s 0) = 1 := by rw [z]; exact ss_e1
      unfold wpX_root
      refine ss_XserT hs (br_f ss_10 ⟨ss_v0 hs, br_t ((ss_c0 f hs).trans e) (ss_ld_left hs (fun x hx => nm_e ⟨32, ss_X_root_lp hs hx (fun y => ?_) 31 1 _ rfl (by decide) (ss_A_s (n := 0) (ss_A_0 _ _) (by rw [ss_gR_0]; rfl))⟩))⟩)
      unfold wpY_root
      exact ss_YserT hs (br_f ss_10 (ss_Yat (i := 0) hs (by decide) (br_t e (nm_e ⟨32, ss_Y_root_lp hs (fun m => ⟨rfl, ss_R hP⟩) 31 1 _ rfl (by decide) (ss_A_s (n := 0) (ss_A_0 _ _) (by rw [ss_gR_0]; rfl))⟩))))
    · have e : ¬ ss_e (ss_g f s 0) = 1 := fun h => z ((ss_e_eq1 _).mp h)
      unfold wpX_root wpY_root
      exact ss_XserT hs (br_f ss_10 ⟨ss_v0 hs, br_f (by rw [ss_c0 f hs]; exact e) (ss_YserT hs (br_f ss_10 (ss_Yat (i := 0) hs (by decide) (br_f e ⟨rfl, ss_R hP⟩))))⟩)
/-! cross -/
def ss_x (l r : Nat → ss_F) (n : Nat) : ss_F := ss_s (fun i => l i * r (n ^^^ i)) 32
theorem ss_xlt {a b : Nat} (ha : a < 32) (hb : b < 32) : a ^^^ b < 32 := Nat.xor_lt_two_pow (n := 5) ha hb
theorem ss_X_cr_in {post : Int32 → SX → Prop} {J : Int32 → (Nat → Int32) → (Nat → Int32) → (Nat → Int32) → (Nat → Int32) → (Nat → Int32) → (Nat → Int32) → (Nat → Int32) → (Nat → Int32) → (Nat → Int32) → (Nat → Int32) → (Nat → Int32) → (Nat → Int32) → (Nat → Int32) → (Nat → Int32) → Prop} {l r : Nat → ss_F} {c le ri re ot sl lp rp lW rW pt lL rL pL : Nat → Int32} {s1 : Int32} (hl : ss_A le l 32) (hr : ss_A ri r 32) {n : Nat} (hn : n < 32) (h : J (nI (n + 1)) c le ri (upd re n (ss_e (ss_x l r n))) ot sl lp rp lW rW pt lL rL pL) : ∀ d k sum, k + d = 32 → ss_LV sum (ss_s (fun i => l i * r (n ^^^ i)) k) (k * 150994944) → wX_cross_48 post J s1 (nI n) c le ri re ot sl lp rp lW rW pt lL rL pL (d + 1) sum (nI k) := by
  intro d
  induction d with
  | zero =>
    intro k sum hk hL
    have : k = 32 := by omega
    subst this
    exact br_t (by decide) (ss_Xr hL ⟨vp_in_nI (by omega) (by decide), nm_r (e' := upd re n (ss_e (ss_x l r n))) (by rw [ss_ci (by omega)]; rfl) (nm_r (nI_1 n) h)⟩)
  | succ d ih =>
    intro k sum hk hL
    have q := ss_xlt hn (show k < 32 by omega)
    have x1 : le (nI k).toNatClampNeg = ss_e (l k) := by rw [ss_ci (by omega)]; exact hl k (by omega)
    have x2 : ri (nI n ^^^ nI k).toNatClampNeg = ss_e (r (n ^^^ k)) := by rw [nx_xor, ss_ci (by omega)]; exact hr _ q
    refine br_f (nI_ge (b := 32) (by omega) (by decide)) ⟨vp_in_nI (by omega) (by decide), ?_, nm_e (nm_r (nI_1 k) (ih (k + 1) _ (by omega) (ss_acc hL x1 x2 (by omega))))⟩
    rw [nx_xor]
    exact vp_in_nI q (by decide)
theorem ss_X_cr_lp {post : Int32 → SX → Prop} {s : Nat} (hs : s < 5) {f l r : Nat → ss_F} {le ri ot sl lp rp lW rW pt lL rL pL : Nat → Int32} (hl : ss_A le l 32) (hr : ss_A ri r 32) (p : ∀ x, post 1 (ss_em (ss_b f s 32 (ss_x l r)), le, ri, x, ot, sl, lp, rp, lW, rW, pt, lL, rL, pL)) : ∀ d n x, n + d = 32 → ss_A x (ss_x l r) n → wX_cross_36 post (nI s) (d + 1) (nI n) (ss_em f) le ri x ot sl lp rp lW rW pt lL rL pL := by
  intro d
  induction d with
  | zero =>
    intro n x hn hx
    have : n = 32 := by omega
    subst this
    exact br_t (by decide) (ss_st_result hs hx (p x))
  | succ d ih =>
    intro n x hn hx
    exact br_f (nI_ge (b := 32) (by omega) (by decide)) ⟨33, ss_X_cr_in hl hr (by omega) (ih (n + 1) _ (by omega) (ss_A_s hx rfl)) 32 0 0 rfl ss_acc0⟩
theorem ss_Y_cr_in {post : Int32 → SY → Prop} {J : Int32 → (Nat → Int32) → (Nat → Int32) → Prop} {f : Nat → ss_F} {m : Nat → Int32} {s t : Nat} (hs : s < 5) (ht : t < 5) {n : Nat} (hn : n < 32) (h : J (nI (n + 1)) (ss_em f) (upd m n (ss_e (ss_x (ss_g f s) (ss_g f t) n)))) : ∀ d k sum, k + d = 32 → ss_LV sum (ss_s (fun i => ss_g f s i * ss_g f t (n ^^^ i)) k) (k * 150994944) → wY_cross_32 post J (nI s) (nI t) (nI n) (ss_em f) m (d + 1) sum (nI k) := by
  intro d
  induction d with
  | zero =>
    intro k sum hk hL
    have : k = 32 := by omega
    subst this
    exact br_t (by decide) (ss_Yr hL ⟨vp_in_nI (by omega) (by decide), nm_r (e' := upd m n (ss_e (ss_x (ss_g f s) (ss_g f t) n))) (by rw [ss_ci (by omega)]; rfl) (nm_r (nI_1 n) h)⟩)
  | succ d ih =>
    intro k sum hk hL
    have q := ss_xlt hn (show k < 32 by omega)
    refine br_f (nI_ge (b := 32) (by omega) (by decide)) ?_
    rw [nx_xor, Nat.xor_comm k n]
    exact ss_Yat hs (by omega) (ss_Yat ht q (nm_e (nm_r (nI_1 k) (ih (k + 1) _ (by omega) (ss_accY hL rfl rfl (by omega))))))
theorem ss_Y_cr_lp {post : Int32 → SY → Prop} {f : Nat → ss_F} {s t : Nat} (hs : s < 5) (ht : t < 5) (p : ∀ m, post 1 (ss_em (ss_b f s 32 (ss_x (ss_g f s) (ss_g f t))), m)) : ∀ d n m, n + d = 32 → ss_A m (ss_x (ss_g f s) (ss_g f t)) n → wY_cross_20 post (nI s) (nI t) (d + 1) (nI n) (ss_em f) m := by
  intro d
  induction d with
  | zero =>
    intro n m hn hx
    have : n = 32 := by omega
    subst this
    exact br_t (by decide) (ss_tk hs hx (p m))
  | succ d ih =>
    intro n m hn hx
    exact br_f (nI_ge (b := 32) (by omega) (by decide)) ⟨33, ss_Y_cr_in hs ht (by omega) (ih (n + 1) _ (by omega) (ss_A_s hx rfl)) 32 0 0 rfl ss_acc0⟩
theorem i_vc_cross {k : Nat} {u : SX} {v : SY} (I : i_Rel k u v) (hk : k + 5 ≤ 2560) (v1 : Int32) (v2 : Int32) : wpX_cross (fun r u' => wpY_cross (fun r' v' => r' = r ∧ i_Rel (k + 5) u' v') v v1 v2) u v1 v2 := by
  obtain ⟨f, le, ri, re, ot, sl, lp, rp, lW, rW, pt, lL, rL, pL, m, rfl, rfl, hP⟩ := I
  rcases ss_ser v1 with h | ⟨s, hs, rfl⟩
  · unfold wpX_cross wpY_cross
    exact ss_XserF h (br_t rfl (ss_YserF h (br_t rfl ⟨rfl, ss_R hP⟩)))
  · rcases ss_ser v2 with h | ⟨t, ht, rfl⟩
    · unfold wpX_cross wpY_cross
      exact ss_XserT hs (br_f ss_10 (ss_XserF h (br_t rfl (ss_YserT hs (br_f ss_10 (ss_YserF h (br_t rfl ⟨rfl, ss_R hP⟩)))))))
    · unfold wpX_cross
      refine ss_XserT hs (br_f ss_10 (ss_XserT ht (br_f ss_10 (ss_ld_left hs (fun x hx => ss_ld_right ht (fun y hy => ⟨33, ss_X_cr_lp hs hx hy (fun w => ?_) 32 0 _ rfl (ss_A_0 _ _)⟩))))))
      unfold wpY_cross
      exact ss_YserT hs (br_f ss_10 (ss_YserT ht (br_f ss_10 ⟨33, ss_Y_cr_lp hs ht (fun m => ⟨rfl, ss_R hP⟩) 32 0 _ rfl (ss_A_0 _ _)⟩)))
