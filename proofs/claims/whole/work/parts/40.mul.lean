/-! the product by any engine; multiply and agree -/
theorem ss_YeF {A B : Prop} {x : Int32} (h : x < 0 ∨ 5 ≤ x) (p : A) : (x < 0 → A) ∧ (¬ x < 0 → ((4 < x → A) ∧ (¬ 4 < x → B))) := br_c (fun _ => p) (fun h0 => br_t (ss_5 (h.resolve_left h0)) p)
theorem ss_YeT {A B : Prop} {s : Nat} (hs : s < 5) (p : B) : (nI s < 0 → A) ∧ (¬ nI s < 0 → ((4 < nI s → A) ∧ (¬ 4 < nI s → B))) := br_f (nI_pos (by omega)) (br_f (ss_n4 hs) p)
theorem ss_FP_result {post : SX → Prop} {l r : Nat → ss_F} {c le ri re ot sl lp rp lW rW pt lL rL pL : Nat → Int32} (hP : ss_P lp rp) (hl : ss_A le l 32) (hr : ss_A ri r 32) {e : Nat} (he : e < 5) (h : ∀ x a1 a2 a3 a4 a5 a6 a7 a8, ss_P a1 a2 → ss_A x (ss_c l r) 32 → post (c, le, ri, x, ot, sl, a1, a2, a3, a4, a5, a6, a7, a8)) : wpX_findProduct__result post (c, le, ri, re, ot, sl, lp, rp, lW, rW, pt, lL, rL, pL) (nI e) := by
  obtain ⟨⟨g1, rfl⟩, ⟨g2, rfl⟩⟩ := hP
  have hP : ss_P (ss_em g1) (ss_em g2) := ⟨⟨g1, rfl⟩, ⟨g2, rfl⟩⟩
  unfold wpX_findProduct__result
  refine br_f (nI_pos (by omega)) (br_f (ss_n4 he) ?_)
  have c : e = 0 ∨ e = 1 ∨ e = 2 ∨ e = 3 ∨ e = 4 := by omega
  rcases c with rfl | rfl | rfl | rfl | rfl
  · exact br_t (by decide) (ss_E0_result hl hr (fun x hx => h x _ _ _ _ _ _ _ _ hP hx))
  · exact br_f (by decide) (br_t (by decide) (ss_E1_result hl hr (fun x G U hx => h x _ _ _ _ _ _ _ _ ⟨⟨G, rfl⟩, ⟨U, rfl⟩⟩ hx)))
  · exact br_f (by decide) (br_f (by decide) (br_t (by decide) (ss_E2_result hl hr (fun x a b hx => h x _ _ _ _ _ _ _ _ hP hx))))
  · exact br_f (by decide) (br_f (by decide) (br_f (by decide) (br_t (by decide) (ss_E3_result hl hr (fun x y hx => h x _ _ _ _ _ _ _ _ hP hx)))))
  · exact br_f (by decide) (br_f (by decide) (br_f (by decide) (br_f (by decide) (br_t (by decide) (ss_E4_result hl hr (fun x a b w hx => h x _ _ _ _ _ _ _ _ hP hx))))))
theorem ss_FP_otherResult {post : SX → Prop} {l r : Nat → ss_F} {c le ri re ot sl lp rp lW rW pt lL rL pL : Nat → Int32} (hP : ss_P lp rp) (hl : ss_A le l 32) (hr : ss_A ri r 32) {e : Nat} (he : e < 5) (h : ∀ x a1 a2 a3 a4 a5 a6 a7 a8, ss_P a1 a2 → ss_A x (ss_c l r) 32 → post (c, le, ri, re, x, sl, a1, a2, a3, a4, a5, a6, a7, a8)) : wpX_findProduct__otherResult post (c, le, ri, re, ot, sl, lp, rp, lW, rW, pt, lL, rL, pL) (nI e) := by
  obtain ⟨⟨g1, rfl⟩, ⟨g2, rfl⟩⟩ := hP
  have hP : ss_P (ss_em g1) (ss_em g2) := ⟨⟨g1, rfl⟩, ⟨g2, rfl⟩⟩
  unfold wpX_findProduct__otherResult
  refine br_f (nI_pos (by omega)) (br_f (ss_n4 he) ?_)
  have c : e = 0 ∨ e = 1 ∨ e = 2 ∨ e = 3 ∨ e = 4 := by omega
  rcases c with rfl | rfl | rfl | rfl | rfl
  · exact br_t (by decide) (ss_E0_otherResult hl hr (fun x hx => h x _ _ _ _ _ _ _ _ hP hx))
  · exact br_f (by decide) (br_t (by decide) (ss_E1_otherResult hl hr (fun x G U hx => h x _ _ _ _ _ _ _ _ ⟨⟨G, rfl⟩, ⟨U, rfl⟩⟩ hx)))
  · exact br_f (by decide) (br_f (by decide) (br_t (by decide) (ss_E2_otherResult hl hr (fun x a b hx => h x _ _ _ _ _ _ _ _ hP hx))))
  · exact br_f (by decide) (br_f (by decide) (br_f (by decide) (br_t (by decide) (ss_E3_otherResult hl hr (fun x y hx => h x _ _ _ _ _ _ _ _ hP hx)))))
  · exact br_f (by decide) (br_f (by decide) (br_f (by decide) (br_f (by decide) (br_t (by decide) (ss_E4_otherResult hl hr (fun x a b w hx => h x _ _ _ _ _ _ _ _ hP hx))))))
theorem i_vc_multiply {k : Nat} {u : SX} {v : SY} (I : i_Rel k u v) (hk : k + 5 ≤ 2560) (v1 : Int32) (v2 : Int32) (v3 : Int32) : wpX_multiply (fun r u' => wpY_multiply (fun r' v' => r' = r ∧ i_Rel (k + 5) u' v') v v1 v2 v3) u v1 v2 v3 := by
  obtain ⟨f, le, ri, re, ot, sl, lp, rp, lW, rW, pt, lL, rL, pL, m, rfl, rfl, hP⟩ := I
  rcases ss_ser v1 with h | ⟨e, he, rfl⟩
  · unfold wpX_multiply wpY_multiply
    exact ss_XengF h (br_t rfl (ss_YeF h ⟨rfl, ss_R hP⟩))
  · rcases ss_ser v2 with h | ⟨s, hs, rfl⟩
    · unfold wpX_multiply wpY_multiply
      exact ss_XengT he (br_f ss_10 (ss_XserF h (br_t rfl (ss_YeT he (ss_YserF h (br_t rfl ⟨rfl, ss_R hP⟩))))))
    · rcases ss_ser v3 with h | ⟨t, ht, rfl⟩
      · unfold wpX_multiply wpY_multiply
        exact ss_XengT he (br_f ss_10 (ss_XserT hs (br_f ss_10 (ss_XserF h (br_t rfl (ss_YeT he (ss_YserT hs (br_f ss_10 (ss_YserF h (br_t rfl ⟨rfl, ss_R hP⟩)))))))))) 
      · unfold wpX_multiply
        refine ss_XengT he (br_f ss_10 (ss_XserT hs (br_f ss_10 (ss_XserT ht (br_f ss_10 (ss_ld_left hs (fun x hx => ss_ld_right ht (fun y hy => ss_FP_result hP hx hy he (fun z a1 a2 a3 a4 a5 a6 a7 a8 hQ hz => ss_st_result hs hz ?_))))))))) 
        unfold wpY_multiply
        exact ss_YeT he (ss_YserT hs (br_f ss_10 (ss_YserT ht (br_f ss_10 ⟨33, ss_Y_mu_lp hs ht (fun m => ⟨rfl, ss_R hQ⟩) 32 0 m rfl (ss_A_0 _ _)⟩))))
theorem ss_ag_lp {post : Int32 → SX → Prop} {g : Nat → ss_F} {c le ri re ot sl lp rp lW rW pt lL rL pL : Nat → Int32} (h1 : ss_A re g 32) (h2 : ss_A ot g 32) (p : post 1 (c, le, ri, re, ot, sl, lp, rp, lW, rW, pt, lL, rL, pL)) : ∀ d n, n + d = 32 → wX_agree_71 post c le ri re ot sl lp rp lW rW pt lL rL pL (d + 1) (nI n) := by
  intro d
  induction d with
  | zero =>
    intro n hn
    have : n = 32 := by omega
    subst this
    exact br_t (by decide) p
  | succ d ih =>
    intro n hn
    exact br_f (nI_ge (b := 32) (by omega) (by decide)) ⟨vp_in_nI (by omega) (by decide), vp_in_nI (by omega) (by decide), br_t (by rw [ss_ci (by omega), h1 n (by omega), h2 n (by omega)]) (nm_r (nI_1 n) (ih (n + 1) (by omega)))⟩
theorem i_vc_agree {k : Nat} {u : SX} {v : SY} (I : i_Rel k u v) (hk : k + 5 ≤ 2560) (v1 : Int32) (v2 : Int32) (v3 : Int32) (v4 : Int32) : wpX_agree (fun r u' => wpY_agree (fun r' => r' = r ∧ i_Rel (k + 5) u' v) v v1 v2 v3 v4) u v1 v2 v3 v4 := by
  obtain ⟨f, le, ri, re, ot, sl, lp, rp, lW, rW, pt, lL, rL, pL, m, rfl, rfl, hP⟩ := I
  rcases ss_ser v1 with h | ⟨e, he, rfl⟩
  · unfold wpX_agree wpY_agree
    exact ss_XengF h (br_t rfl (ss_YeF h ⟨rfl, ss_R hP⟩))
  · rcases ss_ser v2 with h | ⟨o, ho, rfl⟩
    · unfold wpX_agree wpY_agree
      exact ss_XengT he (br_f ss_10 (ss_XengF h (br_t rfl (ss_YeT he (ss_YeF h ⟨rfl, ss_R hP⟩)))))
    · rcases ss_ser v3 with h | ⟨s, hs, rfl⟩
      · unfold wpX_agree wpY_agree
        exact ss_XengT he (br_f ss_10 (ss_XengT ho (br_f ss_10 (ss_XserF h (br_t rfl (ss_YeT he (ss_YeT ho (ss_YserF h (br_t rfl ⟨rfl, ss_R hP⟩)))))))))
      · rcases ss_ser v4 with h | ⟨t, ht, rfl⟩
        · unfold wpX_agree wpY_agree
          exact ss_XengT he (br_f ss_10 (ss_XengT ho (br_f ss_10 (ss_XserT hs (br_f ss_10 (ss_XserF h (br_t rfl (ss_YeT he (ss_YeT ho (ss_YserT hs (br_f ss_10 (ss_YserF h (br_t rfl ⟨rfl, ss_R hP⟩)))))))))))))
        · unfold wpX_agree
          refine ss_XengT he (br_f ss_10 (ss_XengT ho (br_f ss_10 (ss_XserT hs (br_f ss_10 (ss_XserT ht (br_f ss_10 (ss_ld_left hs (fun x hx => ss_ld_right ht (fun y hy => ss_FP_result hP hx hy he (fun z a1 a2 a3 a4 a5 a6 a7 a8 hQ hz => ss_FP_otherResult hQ hx hy ho (fun w b1 b2 b3 b4 b5 b6 b7 b8 hQ' hw => ⟨33, ss_ag_lp hz hw ?_ 32 0 rfl⟩))))))))))))
          unfold wpY_agree
          exact ss_YeT he (ss_YeT ho (ss_YserT hs (br_f ss_10 (ss_YserT ht (br_f ss_10 ⟨rfl, ss_R hQ'⟩)))))
