/-! Karatsuba's pieces: digits of base three -/
theorem ss_dig3 {k m : Nat} (h : k < m) (a d : Nat) : (a + d * 3 ^ m) / 3 ^ k % 3 = a / 3 ^ k % 3 := by
  obtain ⟨t, rfl⟩ : ∃ t, m = k + t + 1 := ⟨m - k - 1, by omega⟩
  have e : d * 3 ^ (k + t + 1) = 3 ^ k * (d * 3 ^ t * 3) := by
    rw [Nat.pow_succ, Nat.pow_add]
    grind
  rw [e, Nat.add_mul_div_left _ _ (Nat.pow_pos (by decide)), Nat.add_mul_mod_self_right]
theorem ss_dig2 {k m : Nat} (h : k < m) (a d : Nat) : (a + d * 2 ^ m) / 2 ^ k % 2 = a / 2 ^ k % 2 := by
  obtain ⟨t, rfl⟩ : ∃ t, m = k + t + 1 := ⟨m - k - 1, by omega⟩
  have e : d * 2 ^ (k + t + 1) = 2 ^ k * (d * 2 ^ t * 2) := by
    rw [Nat.pow_succ, Nat.pow_add]
    grind
  rw [e, Nat.add_mul_div_left _ _ (Nat.pow_pos (by decide)), Nat.add_mul_mod_self_right]
theorem ss_top3 {m a d : Nat} (h : a < 3 ^ m) (hd : d < 3) : (a + d * 3 ^ m) / 3 ^ m % 3 = d := by
  rw [Nat.add_mul_div_right _ _ (Nat.pow_pos (by decide)), Nat.div_eq_of_lt h, Nat.zero_add]
  omega
theorem ss_top2 {m a d : Nat} (h : a < 2 ^ m) (hd : d < 2) : (a + d * 2 ^ m) / 2 ^ m % 2 = d := by
  rw [Nat.add_mul_div_right _ _ (Nat.pow_pos (by decide)), Nat.div_eq_of_lt h, Nat.zero_add]
  omega
/-- a digit 2 leaves room below -/
theorem ss_room {k a : Nat} (h : a / 3 ^ k % 3 = 2) : 2 * 3 ^ k ≤ a := by
  have h1 : 2 ≤ a / 3 ^ k := by generalize a / 3 ^ k = q at h; omega
  have h2 : a / 3 ^ k * 3 ^ k ≤ a := Nat.div_mul_le_self a (3 ^ k)
  have h3 : 2 * 3 ^ k ≤ a / 3 ^ k * 3 ^ k := Nat.mul_le_mul_right _ h1
  omega
def ss_sp (k : Nat) (v : Nat → ss_F) : Nat → ss_F := fun a => if a / 3 ^ k % 3 = 2 then v (a - 3 ^ k) + v (a - 2 * 3 ^ k) else v a
def ss_se (k : Nat) (v : Nat → ss_F) : Nat → ss_F := fun a => if a / 3 ^ k % 3 = 2 then v a - v (a - 3 ^ k) - v (a - 2 * 3 ^ k) else v a
def ss_spN : Nat → (Nat → ss_F) → Nat → ss_F
  | 0, v => v
  | m + 1, v => ss_sp m (ss_spN m v)
def ss_seN : Nat → (Nat → ss_F) → Nat → ss_F
  | 0, v => v
  | m + 1, v => ss_se m (ss_seN m v)
theorem ss_sp_t {k a : Nat} {v : Nat → ss_F} (h : a / 3 ^ k % 3 = 2) : ss_sp k v a = v (a - 3 ^ k) + v (a - 2 * 3 ^ k) := if_pos h
theorem ss_sp_f {k a : Nat} {v : Nat → ss_F} (h : ¬ a / 3 ^ k % 3 = 2) : ss_sp k v a = v a := if_neg h
theorem ss_se_t {k a : Nat} {v : Nat → ss_F} (h : a / 3 ^ k % 3 = 2) : ss_se k v a = v a - v (a - 3 ^ k) - v (a - 2 * 3 ^ k) := if_pos h
theorem ss_se_f {k a : Nat} {v : Nat → ss_F} (h : ¬ a / 3 ^ k % 3 = 2) : ss_se k v a = v a := if_neg h
theorem ss_spN_sh (m d : Nat) (v : Nat → ss_F) : ∀ k, k ≤ m → ∀ a, a < 3 ^ m → ss_spN k v (a + d * 3 ^ m) = ss_spN k (fun j => v (j + d * 3 ^ m)) a := by
  intro k
  induction k with
  | zero => intro _ a _; rfl
  | succ k ih =>
    intro hk a ha
    show ss_sp k (ss_spN k v) (a + d * 3 ^ m) = ss_sp k (ss_spN k (fun j => v (j + d * 3 ^ m))) a
    have dg := ss_dig3 (k := k) (m := m) (by omega) a d
    by_cases h : a / 3 ^ k % 3 = 2
    · have rm := ss_room h
      rw [ss_sp_t h, ss_sp_t (dg.trans h), show a + d * 3 ^ m - 3 ^ k = (a - 3 ^ k) + d * 3 ^ m from by omega, show a + d * 3 ^ m - 2 * 3 ^ k = (a - 2 * 3 ^ k) + d * 3 ^ m from by omega, ih (by omega) (a - 3 ^ k) (by omega), ih (by omega) (a - 2 * 3 ^ k) (by omega)]
    · rw [ss_sp_f h, ss_sp_f (by rw [dg]; exact h), ih (by omega) a ha]
theorem ss_seN_sh (m d : Nat) (v : Nat → ss_F) : ∀ k, k ≤ m → ∀ a, a < 3 ^ m → ss_seN k v (a + d * 3 ^ m) = ss_seN k (fun j => v (j + d * 3 ^ m)) a := by
  intro k
  induction k with
  | zero => intro _ a _; rfl
  | succ k ih =>
    intro hk a ha
    show ss_se k (ss_seN k v) (a + d * 3 ^ m) = ss_se k (ss_seN k (fun j => v (j + d * 3 ^ m))) a
    have dg := ss_dig3 (k := k) (m := m) (by omega) a d
    by_cases h : a / 3 ^ k % 3 = 2
    · have rm := ss_room h
      rw [ss_se_t h, ss_se_t (dg.trans h), show a + d * 3 ^ m - 3 ^ k = (a - 3 ^ k) + d * 3 ^ m from by omega, show a + d * 3 ^ m - 2 * 3 ^ k = (a - 2 * 3 ^ k) + d * 3 ^ m from by omega, ih (by omega) (a - 3 ^ k) (by omega), ih (by omega) (a - 2 * 3 ^ k) (by omega), ih (by omega) a ha]
    · rw [ss_se_f h, ss_se_f (by rw [dg]; exact h), ih (by omega) a ha]
theorem ss_seN_congr {N : Nat} {v u : Nat → ss_F} (h : ∀ j, j < N → v j = u j) : ∀ k a, a < N → ss_seN k v a = ss_seN k u a := by
  intro k
  induction k with
  | zero => exact h
  | succ k ih =>
    intro a ha
    show ss_se k (ss_seN k v) a = ss_se k (ss_seN k u) a
    by_cases g : a / 3 ^ k % 3 = 2
    · rw [ss_se_t g, ss_se_t g, ih a ha, ih (a - 3 ^ k) (Nat.lt_of_le_of_lt (Nat.sub_le _ _) ha), ih (a - 2 * 3 ^ k) (Nat.lt_of_le_of_lt (Nat.sub_le _ _) ha)]
    · rw [ss_se_f g, ss_se_f g, ih a ha]
theorem ss_spN_add (v u : Nat → ss_F) : ∀ k a, ss_spN k (fun j => v j + u j) a = ss_spN k v a + ss_spN k u a := by
  intro k
  induction k with
  | zero => intro a; rfl
  | succ k ih =>
    intro a
    show ss_sp k (ss_spN k (fun j => v j + u j)) a = ss_sp k (ss_spN k v) a + ss_sp k (ss_spN k u) a
    by_cases g : a / 3 ^ k % 3 = 2
    · rw [ss_sp_t g, ss_sp_t g, ss_sp_t g, ih, ih]
      grobner
    · rw [ss_sp_f g, ss_sp_f g, ss_sp_f g, ih]
/-- the power of a piece, the piece of a place -/
def ss_wt (d : Nat) : Nat := if d = 1 then 2 else if d = 2 then 1 else 0
def ss_pN (m a : Nat) : Nat := ss_sN (fun k => ss_wt (a / 3 ^ k % 3) * 2 ^ k) m
def ss_pc (m n : Nat) : Nat := ss_sN (fun k => n / 2 ^ k % 2 * 3 ^ k) m
theorem ss_pN_s {m a d : Nat} (h : a < 3 ^ m) (hd : d < 3) : ss_pN (m + 1) (a + d * 3 ^ m) = ss_pN m a + ss_wt d * 2 ^ m := by
  unfold ss_pN
  rw [ss_sNs, ss_top3 h hd]
  congr 1
  exact ss_sN_congr (fun k hk => by rw [ss_dig3 hk])
theorem ss_pc_s {m n d : Nat} (h : n < 2 ^ m) (hd : d < 2) : ss_pc (m + 1) (n + d * 2 ^ m) = ss_pc m n + d * 3 ^ m := by
  unfold ss_pc
  rw [ss_sNs, ss_top2 h hd]
  congr 1
  exact ss_sN_congr (fun k hk => by rw [ss_dig2 hk])
def ss_Pl (m : Nat) (v l : Nat → ss_F) : Prop := ∀ n, n < 2 ^ m → v (ss_pc m n) = l n
/-- all products l i * r j, weighed by i + j -/
def ss_K (N : Nat) (l r ψ : Nat → ss_F) : ss_F := ss_s (fun i => ss_s (fun j => l i * r j * ψ (i + j)) N) N
theorem ss_K_l (N : Nat) (l l' r ψ : Nat → ss_F) : ss_K N (fun i => l i + l' i) r ψ = ss_K N l r ψ + ss_K N l' r ψ := by
  unfold ss_K
  rw [← ss_s_add]
  apply ss_s_congr
  intro i _
  try dsimp only
  rw [← ss_s_add]
  exact ss_s_congr (fun j _ => by grobner)
theorem ss_K_r (N : Nat) (l r r' ψ : Nat → ss_F) : ss_K N l (fun i => r i + r' i) ψ = ss_K N l r ψ + ss_K N l r' ψ := by
  unfold ss_K
  rw [← ss_s_add]
  apply ss_s_congr
  intro i _
  try dsimp only
  rw [← ss_s_add]
  exact ss_s_congr (fun j _ => by grobner)
theorem ss_K_ss (N : Nat) (l r ψ : Nat → ss_F) : ss_K (N + N) l r ψ = ss_K N l r ψ + ss_K N l (fun j => r (N + j)) (fun t => ψ (t + N)) + (ss_K N (fun i => l (N + i)) r (fun t => ψ (t + N)) + ss_K N (fun i => l (N + i)) (fun j => r (N + j)) (fun t => ψ (t + 2 * N))) := by
  unfold ss_K
  rw [ss_s_split]
  congr 1
  · rw [← ss_s_add]
    apply ss_s_congr
    intro i _
    try dsimp only
    rw [ss_s_split]
    congr 1
    exact ss_s_congr (fun j _ => by rw [show i + (N + j) = i + j + N from by omega])
  · rw [← ss_s_add]
    apply ss_s_congr
    intro i _
    try dsimp only
    rw [ss_s_split]
    congr 1
    · exact ss_s_congr (fun j _ => by rw [show N + i + j = i + j + N from by omega])
    · exact ss_s_congr (fun j _ => by rw [show N + i + (N + j) = i + j + 2 * N from by omega])
theorem ss_dist3 (p q r y : ss_F) : (p - q - r) * y = p * y - q * y - r * y := by grobner
theorem ss_dist4 (x1 x2 x3 x4 a b : ss_F) : x4 + (x1 + (x2 + a + (b + x3) - x2 - x3)) = x4 + b + (a + x1) := by grobner
theorem ss_kara : ∀ (m : Nat) (v u l r ψ : Nat → ss_F), ss_Pl m v l → ss_Pl m u r → ss_s (fun a => ss_seN m (fun j => ss_spN m v j * ss_spN m u j) a * ψ (ss_pN m a)) (3 ^ m) = ss_K (2 ^ m) l r ψ := by
  intro m
  induction m with
  | zero =>
    intro v u l r ψ hv hu
    have e1 := hv 0 (by decide)
    have e2 := hu 0 (by decide)
    have z : ss_pc 0 0 = 0 := rfl
    rw [z] at e1 e2
    show (0 : ss_F) + v 0 * u 0 * ψ 0 = 0 + (0 + l 0 * r 0 * ψ 0)
    rw [e1, e2]
    grobner
  | succ m ih =>
    intro v u l r ψ hv hu
    have pos : 0 < 3 ^ m := Nat.pow_pos (by decide)
    -- the three thirds of the spread
    have S : ∀ (w : Nat → ss_F) (a : Nat), a < 3 ^ m → ss_spN (m + 1) w a = ss_spN m w a ∧ ss_spN (m + 1) w (a + 1 * 3 ^ m) = ss_spN m (fun j => w (j + 1 * 3 ^ m)) a ∧ ss_spN (m + 1) w (a + 2 * 3 ^ m) = ss_spN m (fun j => w (j + 1 * 3 ^ m) + w j) a := by
      intro w a ha
      refine ⟨?_, ?_, ?_⟩
      · refine ss_sp_f ?_
        rw [Nat.div_eq_of_lt ha]
        omega
      · refine (ss_sp_f ?_).trans (ss_spN_sh m 1 w m (Nat.le_refl m) a ha)
        rw [ss_top3 ha (by omega)]
        omega
      · refine (ss_sp_t (ss_top3 ha (by omega))).trans ?_
        rw [show a + 2 * 3 ^ m - 3 ^ m = a + 1 * 3 ^ m from by omega, show a + 2 * 3 ^ m - 2 * 3 ^ m = a from by omega, ss_spN_sh m 1 w m (Nat.le_refl m) a ha, ss_spN_add]
    -- the thirds of the product, separated below
    have Z : ∀ (d : Nat) (V U : Nat → ss_F), (∀ a, a < 3 ^ m → ss_spN (m + 1) v (a + d * 3 ^ m) = V a ∧ ss_spN (m + 1) u (a + d * 3 ^ m) = U a) → ∀ a, a < 3 ^ m → ss_seN m (fun j => ss_spN (m + 1) v j * ss_spN (m + 1) u j) (a + d * 3 ^ m) = ss_seN m (fun j => V j * U j) a := by
      intro d V U h a ha
      rw [ss_seN_sh m d _ m (Nat.le_refl m) a ha]
      exact ss_seN_congr (fun j hj => by rw [(h j hj).1, (h j hj).2]) m a ha
    have Z0 := Z 0 (ss_spN m v) (ss_spN m u) (fun a ha => by rw [Nat.zero_mul, Nat.add_zero]; exact ⟨(S v a ha).1, (S u a ha).1⟩)
    have Z1 := Z 1 _ _ (fun a ha => ⟨(S v a ha).2.1, (S u a ha).2.1⟩)
    have Z2 := Z 2 _ _ (fun a ha => ⟨(S v a ha).2.2, (S u a ha).2.2⟩)
    have hv0 : ss_Pl m v l := fun n hn => by
      have := hv (n + 0 * 2 ^ m) (by rw [Nat.pow_succ]; omega)
      rw [ss_pc_s hn (by omega)] at this
      rw [show ss_pc m n + 0 * 3 ^ m = ss_pc m n from by omega, show n + 0 * 2 ^ m = n from by omega] at this
      exact this
    have hu0 : ss_Pl m u r := fun n hn => by
      have := hu (n + 0 * 2 ^ m) (by rw [Nat.pow_succ]; omega)
      rw [ss_pc_s hn (by omega)] at this
      rw [show ss_pc m n + 0 * 3 ^ m = ss_pc m n from by omega, show n + 0 * 2 ^ m = n from by omega] at this
      exact this
    have hv1 : ss_Pl m (fun j => v (j + 1 * 3 ^ m)) (fun n => l (2 ^ m + n)) := fun n hn => by
      have := hv (n + 1 * 2 ^ m) (by rw [Nat.pow_succ]; omega)
      rw [ss_pc_s hn (by omega)] at this
      show v (ss_pc m n + 1 * 3 ^ m) = l (2 ^ m + n)
      rw [this, show n + 1 * 2 ^ m = 2 ^ m + n from by omega]
    have hu1 : ss_Pl m (fun j => u (j + 1 * 3 ^ m)) (fun n => r (2 ^ m + n)) := fun n hn => by
      have := hu (n + 1 * 2 ^ m) (by rw [Nat.pow_succ]; omega)
      rw [ss_pc_s hn (by omega)] at this
      show u (ss_pc m n + 1 * 3 ^ m) = r (2 ^ m + n)
      rw [this, show n + 1 * 2 ^ m = 2 ^ m + n from by omega]
    have hv2 : ss_Pl m (fun j => v (j + 1 * 3 ^ m) + v j) (fun n => l (2 ^ m + n) + l n) := fun n hn => by
      have a := hv0 n hn
      have b := hv1 n hn
      try dsimp only at b ⊢
      rw [a, b]
    have hu2 : ss_Pl m (fun j => u (j + 1 * 3 ^ m) + u j) (fun n => r (2 ^ m + n) + r n) := fun n hn => by
      have a := hu0 n hn
      have b := hu1 n hn
      try dsimp only at b ⊢
      rw [a, b]
    have I0 := ih _ _ _ _ ψ hv0 hu0
    have I0' := ih _ _ _ _ (fun t => ψ (t + 2 ^ m)) hv0 hu0
    have I1 := ih _ _ _ _ (fun t => ψ (t + 2 * 2 ^ m)) hv1 hu1
    have I1' := ih _ _ _ _ (fun t => ψ (t + 2 ^ m)) hv1 hu1
    have I2 := ih _ _ _ _ (fun t => ψ (t + 2 ^ m)) hv2 hu2
    rw [show 3 ^ (m + 1) = 3 ^ m + (3 ^ m + 3 ^ m) from by rw [Nat.pow_succ]; omega, ss_s_split, ss_s_split]
    have J0 : ss_s (fun a => ss_seN (m + 1) (fun j => ss_spN (m + 1) v j * ss_spN (m + 1) u j) a * ψ (ss_pN (m + 1) a)) (3 ^ m) = ss_K (2 ^ m) l r ψ := by
      rw [← I0]
      apply ss_s_congr
      intro a ha
      have e1 : ss_seN (m + 1) (fun j => ss_spN (m + 1) v j * ss_spN (m + 1) u j) a = ss_seN m (fun j => ss_spN (m + 1) v j * ss_spN (m + 1) u j) a := ss_se_f (by rw [Nat.div_eq_of_lt ha]; omega)
      have e2 := Z0 a ha
      have e3 := ss_pN_s (d := 0) ha (by omega)
      rw [show a + 0 * 3 ^ m = a from by omega] at e2 e3
      rw [e1, e2, e3, show ss_wt 0 * 2 ^ m = 0 from Nat.zero_mul _, Nat.add_zero]
    have J1 : ss_s (fun i => ss_seN (m + 1) (fun j => ss_spN (m + 1) v j * ss_spN (m + 1) u j) (3 ^ m + i) * ψ (ss_pN (m + 1) (3 ^ m + i))) (3 ^ m) = ss_K (2 ^ m) (fun n => l (2 ^ m + n)) (fun n => r (2 ^ m + n)) (fun t => ψ (t + 2 * 2 ^ m)) := by
      rw [← I1]
      apply ss_s_congr
      intro a ha
      rw [show 3 ^ m + a = a + 1 * 3 ^ m from by omega]
      have e1 : ss_seN (m + 1) (fun j => ss_spN (m + 1) v j * ss_spN (m + 1) u j) (a + 1 * 3 ^ m) = ss_seN m (fun j => ss_spN (m + 1) v j * ss_spN (m + 1) u j) (a + 1 * 3 ^ m) := ss_se_f (by rw [ss_top3 ha (by omega)]; omega)
      rw [e1, Z1 a ha, ss_pN_s ha (by omega)]
      rfl
    have J2 : ss_s (fun i => ss_seN (m + 1) (fun j => ss_spN (m + 1) v j * ss_spN (m + 1) u j) (3 ^ m + (3 ^ m + i)) * ψ (ss_pN (m + 1) (3 ^ m + (3 ^ m + i)))) (3 ^ m) = ss_K (2 ^ m) (fun n => l (2 ^ m + n) + l n) (fun n => r (2 ^ m + n) + r n) (fun t => ψ (t + 2 ^ m)) - ss_K (2 ^ m) (fun n => l (2 ^ m + n)) (fun n => r (2 ^ m + n)) (fun t => ψ (t + 2 ^ m)) - ss_K (2 ^ m) l r (fun t => ψ (t + 2 ^ m)) := by
      rw [← I2, ← I1', ← I0', ← ss_s_sub, ← ss_s_sub]
      apply ss_s_congr
      intro a ha
      rw [show 3 ^ m + (3 ^ m + a) = a + 2 * 3 ^ m from by omega]
      have e1 : ss_seN (m + 1) (fun j => ss_spN (m + 1) v j * ss_spN (m + 1) u j) (a + 2 * 3 ^ m) = ss_seN m (fun j => ss_spN (m + 1) v j * ss_spN (m + 1) u j) (a + 2 * 3 ^ m) - ss_seN m (fun j => ss_spN (m + 1) v j * ss_spN (m + 1) u j) (a + 2 * 3 ^ m - 3 ^ m) - ss_seN m (fun j => ss_spN (m + 1) v j * ss_spN (m + 1) u j) (a + 2 * 3 ^ m - 2 * 3 ^ m) := ss_se_t (ss_top3 ha (by omega))
      have e2 := Z0 a ha
      rw [show a + 0 * 3 ^ m = a from by omega] at e2
      rw [e1, show a + 2 * 3 ^ m - 3 ^ m = a + 1 * 3 ^ m from by omega, show a + 2 * 3 ^ m - 2 * 3 ^ m = a from by omega, Z2 a ha, Z1 a ha, e2, ss_pN_s ha (by omega)]
      show (_ - _ - _) * ψ (ss_pN m a + 1 * 2 ^ m) = _
      rw [Nat.one_mul (2 ^ m)]
      exact ss_dist3 _ _ _ _
    rw [J0, J1, J2, show 2 ^ (m + 1) = 2 ^ m + 2 ^ m from by rw [Nat.pow_succ]; omega, ss_K_ss, ss_K_l, ss_K_r, ss_K_r]
    generalize ss_K (2 ^ m) (fun n => l (2 ^ m + n)) (fun n => r (2 ^ m + n)) (fun t => ψ (t + 2 * 2 ^ m)) = x1
    generalize ss_K (2 ^ m) (fun n => l (2 ^ m + n)) (fun n => r (2 ^ m + n)) (fun t => ψ (t + 2 ^ m)) = x2
    generalize ss_K (2 ^ m) l r (fun t => ψ (t + 2 ^ m)) = x3
    generalize ss_K (2 ^ m) l r ψ = x4
    grobner
theorem ss_K_c (l r : Nat → ss_F) {n : Nat} (hn : n < 32) : ss_K 32 l r (fun t => if t = n then 1 else 0) = ss_c l r n := by
  unfold ss_K ss_c
  rw [ss_s_cut (m := n + 1) (by omega) (fun i h1 h2 => ss_s_zero (fun j _ => by show l i * r j * (if i + j = n then 1 else 0) = 0; rw [if_neg (by omega)]; grobner))]
  apply ss_s_congr
  intro i hi
  try dsimp only
  rw [ss_s_one (k := n - i) (by omega) (fun j _ hne => by show l i * r j * (if i + j = n then 1 else 0) = 0; rw [if_neg (by omega)]; grobner)]
  show l i * r (n - i) * (if i + (n - i) = n then 1 else 0) = _
  rw [if_pos (by omega)]
  grobner
