/-! values at 0 .. 62: differences, and Newton's form -/
def ss_ff (y : ss_F) : Nat → ss_F → ss_F
  | 0, _ => 1
  | r + 1, z => z * ss_ff y r (z - 1)
/-- the falling product x (x - 1) .. of r factors -/
def ss_f (x : ss_F) (r : Nat) : ss_F := ss_ff 0 r x
theorem ss_f0 (x : ss_F) : ss_f x 0 = 1 := rfl
theorem ss_fs (x : ss_F) (r : Nat) : ss_f x (r + 1) = x * ss_f (x - 1) r := rfl
theorem ss_f_last (r : Nat) : ∀ x, ss_f x (r + 1) = ss_f x r * (x - ss_n r) := by
  induction r with
  | zero =>
    intro x
    rw [ss_fs, ss_f0, ss_f0, ss_n0]
    grobner
  | succ r ih =>
    intro x
    rw [ss_fs, ih (x - 1), ss_fs x r, ss_n_succ]
    grobner
def ss_bc : Nat → Nat → ss_F
  | _, 0 => 1
  | 0, _ + 1 => 0
  | m + 1, k + 1 => ss_bc m k + ss_bc m (k + 1)
theorem ss_bc0 (m : Nat) : ss_bc m 0 = 1 := by cases m <;> rfl
theorem ss_bcz (k : Nat) : ss_bc 0 (k + 1) = 0 := rfl
theorem ss_bcs (m k : Nat) : ss_bc (m + 1) (k + 1) = ss_bc m k + ss_bc m (k + 1) := rfl
theorem ss_bc_lt : ∀ m k, m < k → ss_bc m k = 0 := by
  intro m
  induction m with
  | zero =>
    intro k h
    obtain ⟨j, rfl⟩ : ∃ j, k = j + 1 := ⟨k - 1, by omega⟩
    rfl
  | succ m ih =>
    intro k h
    obtain ⟨j, rfl⟩ : ∃ j, k = j + 1 := ⟨k - 1, by omega⟩
    rw [ss_bcs, ih j (by omega), ih (j + 1) (by omega)]
    grobner
theorem ss_bc_eq : ∀ m, ss_bc m m = 1 := by
  intro m
  induction m with
  | zero => rfl
  | succ m ih => rw [ss_bcs, ih, ss_bc_lt m (m + 1) (by omega)]; grobner
theorem ss_bc_mul : ∀ m k, ss_n (k + 1) * ss_bc m (k + 1) = (ss_n m - ss_n k) * ss_bc m k := by
  intro m
  induction m with
  | zero =>
    intro k
    cases k with
    | zero => rw [ss_bcz, ss_bc0, ss_n0]; grobner
    | succ j => rw [ss_bcz, ss_bcz]; grobner
  | succ m ih =>
    intro k
    cases k with
    | zero =>
      have i := ih 0
      rw [ss_bc0, ss_n0] at i
      rw [ss_bcs, ss_bc0, ss_bc0, ss_n0, ss_n_succ m]
      rw [ss_n_succ, ss_n0] at i
      rw [ss_n_succ, ss_n0]
      generalize ss_bc m (0 + 1) = B at i
      generalize ss_n m = M at i
      grobner
    | succ j =>
      have i1 := ih (j + 1)
      have i0 := ih j
      rw [ss_bcs, ss_bcs, ss_n_succ m]
      rw [ss_n_succ (j + 1), ss_n_succ j] at i1
      rw [ss_n_succ j] at i0
      rw [ss_n_succ (j + 1), ss_n_succ j]
      generalize ss_bc m (j + 1 + 1) = B2 at i1
      generalize ss_bc m (j + 1) = B1 at i1 i0
      generalize ss_bc m j = B0 at i0
      generalize ss_n m = M at i1 i0
      generalize ss_n j = J at i1 i0
      grobner
/-- the difference of order k of the falling product of m factors, over k! -/
def ss_df (m k : Nat) (x : ss_F) : ss_F := ss_bc m k * ss_f (x - ss_n k) (m - k)
theorem ss_df_s (m k : Nat) (x : ss_F) : ss_n (k + 1) * ss_df m (k + 1) x = ss_df m k x - ss_df m k (x - 1) := by
  unfold ss_df
  by_cases h : m ≤ k
  · rw [ss_bc_lt m (k + 1) (by omega), show m - k = 0 from by omega, ss_f0, ss_f0]
    grobner
  · obtain ⟨r, rfl⟩ : ∃ r, m = k + r + 1 := ⟨m - k - 1, by omega⟩
    rw [show k + r + 1 - k = r + 1 from by omega, show k + r + 1 - (k + 1) = r from by omega]
    have e := ss_bc_mul (k + r + 1) k
    have e1 : ss_f (x - ss_n k) (r + 1) = (x - ss_n k) * ss_f (x - ss_n (k + 1)) r := by
      rw [ss_fs]
      congr 2
      rw [ss_n_succ]
      grobner
    have e2 : ss_f (x - 1 - ss_n k) (r + 1) = ss_f (x - ss_n (k + 1)) r * (x - ss_n (k + 1) - ss_n r) := by
      have : x - 1 - ss_n k = x - ss_n (k + 1) := by rw [ss_n_succ]; grobner
      rw [this, ss_f_last]
    rw [e1, e2]
    rw [ss_n_succ (k + r), ss_n_add k r] at e
    rw [ss_n_succ k] at e ⊢
    generalize ss_bc (k + r + 1) (k + 1) = B1 at e
    generalize ss_bc (k + r + 1) k = B0 at e
    generalize ss_f (x - (ss_n k + 1)) r = Y
    generalize ss_n k = K at e
    generalize ss_n r = R at e
    grobner
def ss_dv (d : Nat → ss_F) (k x : Nat) : ss_F := ss_s (fun m => d m * ss_df m k (ss_n x)) 63
theorem ss_dv_s (d : Nat → ss_F) {k x : Nat} (hk : k < 62) (hx : 0 < x) : (ss_dv d k x - ss_dv d k (x - 1)) * ss_i (ss_n (k + 1)) = ss_dv d (k + 1) x := by
  have e : ss_n (x - 1) = ss_n x - 1 := by
    obtain ⟨y, rfl⟩ : ∃ y, x = y + 1 := ⟨x - 1, by omega⟩
    rw [Nat.add_sub_cancel, ss_n_succ]
    grobner
  have e2 : ss_dv d k x - ss_dv d k (x - 1) = ss_n (k + 1) * ss_dv d (k + 1) x := by
    unfold ss_dv
    rw [e, ← ss_s_sub, ← ss_s_mul]
    apply ss_s_congr
    intro m _
    have := ss_df_s m k (ss_n x)
    generalize ss_df m k (ss_n x) = a at this
    generalize ss_df m k (ss_n x - 1) = b at this
    generalize ss_df m (k + 1) (ss_n x) = c at this
    grobner
  rw [e2]
  have i := ss_i_mul (ss_n_ne (n := k + 1) (by omega) (by omega))
  generalize ss_i (ss_n (k + 1)) = v at i
  grobner
theorem ss_dv_d (d : Nat → ss_F) {x : Nat} (hx : x < 63) : ss_dv d x x = d x := by
  unfold ss_dv
  rw [ss_s_one hx]
  · unfold ss_df
    rw [ss_bc_eq, Nat.sub_self, ss_f0]
    grobner
  · intro m hm hne
    unfold ss_df
    by_cases h : m < x
    · rw [ss_bc_lt m x h]
      grobner
    · obtain ⟨r, hr⟩ : ∃ r, m - x = r + 1 := ⟨m - x - 1, by omega⟩
      have z : ss_n x - ss_n x = 0 := by grobner
      rw [hr, z, ss_fs]
      grobner
/-- Newton's form from the point k on, L factors, as a series -/
def ss_nw (d : Nat → ss_F) : Nat → Nat → Nat → ss_F
  | 0, _, _ => 0
  | L + 1, k, 0 => d k - ss_n k * ss_nw d L (k + 1) 0
  | L + 1, k, n + 1 => ss_nw d L (k + 1) n - ss_n k * ss_nw d L (k + 1) (n + 1)
theorem ss_nw_z (d : Nat → ss_F) (k n : Nat) : ss_nw d 0 k n = 0 := rfl
theorem ss_nw_0 (d : Nat → ss_F) (L k : Nat) : ss_nw d (L + 1) k 0 = d k - ss_n k * ss_nw d L (k + 1) 0 := rfl
theorem ss_nw_s (d : Nat → ss_F) (L k n : Nat) : ss_nw d (L + 1) k (n + 1) = ss_nw d L (k + 1) n - ss_n k * ss_nw d L (k + 1) (n + 1) := rfl
theorem ss_nw_congr {d e : Nat → ss_F} : ∀ L k, (∀ i, k ≤ i → d i = e i) → ∀ n, ss_nw d L k n = ss_nw e L k n := by
  intro L
  induction L with
  | zero => intro k _ n; rfl
  | succ L ih =>
    intro k h n
    have i := ih (k + 1) (fun i hi => h i (by omega))
    cases n with
    | zero => rw [ss_nw_0, ss_nw_0, i 0, h k (by omega)]
    | succ n => rw [ss_nw_s, ss_nw_s, i n, i (n + 1)]
theorem ss_nw_big (d : Nat → ss_F) : ∀ L k n, L ≤ n → ss_nw d L k n = 0 := by
  intro L
  induction L with
  | zero => intro k n _; rfl
  | succ L ih =>
    intro k n h
    obtain ⟨j, rfl⟩ : ∃ j, n = j + 1 := ⟨n - 1, by omega⟩
    rw [ss_nw_s, ih _ j (by omega), ih _ (j + 1) (by omega)]
    grobner
theorem ss_nw_ex : ∀ L k (c : Nat → ss_F), (∀ n, L ≤ n → c n = 0) → ∃ d, ∀ n, ss_nw d L k n = c n := by
  intro L
  induction L with
  | zero => exact fun k c h => ⟨fun _ => 0, fun n => (h n (Nat.zero_le n)).symm⟩
  | succ L ih =>
    intro k c h
    have hq : ∀ n, ss_s (fun i => c (n + 1 + i) * ss_p (ss_n k) i) L = c (n + 1) + ss_n k * ss_s (fun i => c (n + 1 + 1 + i) * ss_p (ss_n k) i) L := by
      intro n
      have e1 : ss_s (fun i => c (n + 1 + i) * ss_p (ss_n k) i) (L + 1) = ss_s (fun i => c (n + 1 + i) * ss_p (ss_n k) i) L := by
        rw [ss_ss, h (n + 1 + L) (by omega)]
        grobner
      rw [← e1, ss_s_front, ← ss_s_mul]
      congr 1
      · show c (n + 1 + 0) * ss_p (ss_n k) 0 = _
        rw [ss_p0]
        show c (n + 1) * 1 = _
        grobner
      · apply ss_s_congr
        intro i _
        rw [ss_ps, show n + 1 + (i + 1) = n + 1 + 1 + i from by omega]
        grobner
    obtain ⟨d', hd⟩ := ih (k + 1) (fun n => ss_s (fun i => c (n + 1 + i) * ss_p (ss_n k) i) L) (fun n hn => ss_s_zero (fun i _ => by rw [h (n + 1 + i) (by omega)]; grobner))
    refine ⟨fun i => if i = k then c 0 + ss_n k * ss_s (fun i => c (0 + 1 + i) * ss_p (ss_n k) i) L else d' i, fun n => ?_⟩
    have cg := ss_nw_congr (d := fun i => if i = k then c 0 + ss_n k * ss_s (fun i => c (0 + 1 + i) * ss_p (ss_n k) i) L else d' i) (e := d') L (k + 1) (fun i hi => if_neg (by omega))
    cases n with
    | zero =>
      rw [ss_nw_0, cg 0, hd 0, if_pos rfl]
      generalize ss_s (fun i => c (0 + 1 + i) * ss_p (ss_n k) i) L = t
      grobner
    | succ n =>
      rw [ss_nw_s, cg n, cg (n + 1), hd n, hd (n + 1)]
      try dsimp only
      rw [hq n]
      generalize ss_s (fun i => c (n + 1 + 1 + i) * ss_p (ss_n k) i) L = t
      grobner
theorem ss_nw_v (d : Nat → ss_F) (x : ss_F) : ∀ L k M, L ≤ M → ss_v M (ss_nw d L k) x = ss_s (fun i => d (k + i) * ss_f (x - ss_n k) i) L := by
  intro L
  induction L with
  | zero =>
    intro k M _
    exact ss_s_zero (fun i _ => by rw [ss_nw_z]; grobner)
  | succ L ih =>
    intro k M hM
    obtain ⟨M, rfl⟩ : ∃ M', M = M' + 1 := ⟨M - 1, by omega⟩
    have v0 := ih (k + 1) M (by omega)
    have v1 : ss_v (M + 1) (ss_nw d L (k + 1)) x = ss_v M (ss_nw d L (k + 1)) x := by
      unfold ss_v
      rw [ss_ss, ss_nw_big d L (k + 1) M (by omega)]
      grobner
    have f1 : ss_v (M + 1) (ss_nw d L (k + 1)) x = ss_nw d L (k + 1) 0 + ss_s (fun i => ss_nw d L (k + 1) (i + 1) * ss_p x (i + 1)) M := by
      unfold ss_v
      rw [ss_s_front, ss_p0]
      grobner
    have f2 : ss_v (M + 1) (ss_nw d (L + 1) k) x = d k - ss_n k * ss_nw d L (k + 1) 0 + (x * ss_v M (ss_nw d L (k + 1)) x - ss_n k * ss_s (fun i => ss_nw d L (k + 1) (i + 1) * ss_p x (i + 1)) M) := by
      have g0 : ss_v (M + 1) (ss_nw d (L + 1) k) x = ss_nw d (L + 1) k 0 * ss_p x 0 + ss_s (fun i => ss_nw d (L + 1) k (i + 1) * ss_p x (i + 1)) M := ss_s_front _ M
      rw [g0, ss_p0, ss_nw_0]
      have g1 : ss_s (fun i => ss_nw d (L + 1) k (i + 1) * ss_p x (i + 1)) M = x * ss_v M (ss_nw d L (k + 1)) x - ss_n k * ss_s (fun i => ss_nw d L (k + 1) (i + 1) * ss_p x (i + 1)) M := by
        unfold ss_v
        rw [← ss_s_mul, ← ss_s_mul, ← ss_s_sub]
        apply ss_s_congr
        intro i _
        rw [ss_nw_s, ss_ps]
        grobner
      rw [g1]
      grobner
    rw [ss_s_front]
    have f3 : ss_s (fun i => d (k + (i + 1)) * ss_f (x - ss_n k) (i + 1)) L = (x - ss_n k) * ss_s (fun i => d (k + 1 + i) * ss_f (x - ss_n (k + 1)) i) L := by
      rw [← ss_s_mul]
      apply ss_s_congr
      intro i _
      have : x - ss_n k - 1 = x - ss_n (k + 1) := by rw [ss_n_succ]; grobner
      rw [ss_fs, this, show k + (i + 1) = k + 1 + i from by omega]
      grobner
    rw [f3, ← v0, f2, ss_f0]
    rw [v1] at f1
    show _ = d (k + 0) * 1 + _
    rw [Nat.add_zero]
    generalize ss_s (fun i => ss_nw d L (k + 1) (i + 1) * ss_p x (i + 1)) M = S at f1
    generalize ss_v M (ss_nw d L (k + 1)) x = V at f1
    generalize ss_nw d L (k + 1) 0 = G at f1
    grobner
/-- what the points hold: the product's values are a difference table of Newton's form of the product -/
theorem ss_newton (l r : Nat → ss_F) : ∃ d : Nat → ss_F, (∀ x, ss_v 32 l (ss_n x) * ss_v 32 r (ss_n x) = ss_dv d 0 x) ∧ ∀ n, n < 32 → ss_nw d 63 0 n = ss_c l r n := by
  obtain ⟨d, hd⟩ := ss_nw_ex 63 0 (ss_c (ss_k l) (ss_k r)) (fun n hn => ss_c_big hn)
  refine ⟨d, fun x => ?_, fun n hn => by rw [hd n, ss_c_k hn]⟩
  rw [← ss_v_c l r (ss_n x) (m := 63) (by omega)]
  have e : ss_v 63 (ss_c (ss_k l) (ss_k r)) (ss_n x) = ss_v 63 (ss_nw d 63 0) (ss_n x) := ss_s_congr (fun i _ => by rw [hd i])
  rw [e, ss_nw_v d (ss_n x) 63 0 63 (by omega)]
  apply ss_s_congr
  intro m _
  unfold ss_df
  rw [ss_bc0, Nat.zero_add, Nat.sub_zero]
  grobner
/-- Horner's steps from the top -/
def ss_h (f : Nat → ss_F) (x : ss_F) (k : Nat) : ss_F := ss_s (fun i => f (k + i) * ss_p x i) (32 - k)
theorem ss_h32 (f : Nat → ss_F) (x : ss_F) : ss_h f x 32 = 0 := rfl
theorem ss_h0 (f : Nat → ss_F) (x : ss_F) : ss_h f x 0 = ss_v 32 f x := by
  apply ss_s_congr
  intro i _
  rw [Nat.zero_add]
theorem ss_hs (f : Nat → ss_F) (x : ss_F) {k : Nat} (h : k < 32) : ss_h f x k = ss_h f x (k + 1) * x + f k := by
  unfold ss_h
  rw [show 32 - k = (32 - (k + 1)) + 1 from by omega, ss_s_front, ← ss_s_mulr, ss_p0]
  have e : ss_s (fun i => f (k + (i + 1)) * ss_p x (i + 1)) (32 - (k + 1)) = ss_s (fun i => f (k + 1 + i) * ss_p x i * x) (32 - (k + 1)) := by
    apply ss_s_congr
    intro i _
    rw [ss_ps, show k + (i + 1) = k + 1 + i from by omega]
    grobner
  rw [e]
  show f (k + 0) * 1 + _ = _
  rw [Nat.add_zero]
  grobner
