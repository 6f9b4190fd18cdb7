/-! the big numbers: limbs of 12 bits, three a place, and their carries -/
def ss_sN (f : Nat → Nat) : Nat → Nat
  | 0 => 0
  | n + 1 => ss_sN f n + f n
theorem ss_sN0 (f : Nat → Nat) : ss_sN f 0 = 0 := rfl
theorem ss_sNs (f : Nat → Nat) (n : Nat) : ss_sN f (n + 1) = ss_sN f n + f n := rfl
theorem ss_sN_congr {f g : Nat → Nat} {n : Nat} (h : ∀ i, i < n → f i = g i) : ss_sN f n = ss_sN g n := by
  induction n with
  | zero => rfl
  | succ n ih => rw [ss_sNs, ss_sNs, ih (fun i hi => h i (by omega)), h n (by omega)]
theorem ss_sN_add (f g : Nat → Nat) (n : Nat) : ss_sN (fun i => f i + g i) n = ss_sN f n + ss_sN g n := by
  induction n with
  | zero => rfl
  | succ n ih => rw [ss_sNs, ss_sNs, ss_sNs, ih]; omega
theorem ss_sN_mul (c : Nat) (f : Nat → Nat) (n : Nat) : ss_sN (fun i => c * f i) n = c * ss_sN f n := by
  induction n with
  | zero => rfl
  | succ n ih => rw [ss_sNs, ss_sNs, ih, Nat.mul_add]
theorem ss_sN_le {f : Nat → Nat} {n b : Nat} (h : ∀ i, i < n → f i ≤ b) : ss_sN f n ≤ n * b := by
  induction n with
  | zero => exact Nat.zero_le _
  | succ n ih =>
    rw [ss_sNs, Nat.succ_mul]
    exact Nat.add_le_add (ih (fun i hi => h i (by omega))) (h n (by omega))
theorem ss_sN_3 (f : Nat → Nat) (k : Nat) : ss_sN f (3 * k) = ss_sN (fun i => f (3 * i) + f (3 * i + 1) + f (3 * i + 2)) k := by
  induction k with
  | zero => rfl
  | succ k ih =>
    rw [show 3 * (k + 1) = 3 * k + 1 + 1 + 1 from by omega, ss_sNs, ss_sNs, ss_sNs, ih, ss_sNs]
    omega
theorem ss_n_sN (f : Nat → Nat) (n : Nat) : ss_n (ss_sN f n) = ss_s (fun i => ss_n (f i)) n := by
  induction n with
  | zero => exact ss_n0
  | succ n ih => rw [ss_sNs, ss_ss, ss_n_add, ih]
def ss_lm (l : Nat → ss_F) (i : Nat) : Nat := if i % 3 = 0 then (l (i / 3)).val % 4096 else if i % 3 = 1 then (l (i / 3)).val / 4096 else 0
theorem ss_lm0 (l : Nat → ss_F) (i : Nat) : ss_lm l (3 * i) = (l i).val % 4096 := by
  unfold ss_lm
  rw [if_pos (by omega), show 3 * i / 3 = i from by omega]
theorem ss_lm1 (l : Nat → ss_F) (i : Nat) : ss_lm l (3 * i + 1) = (l i).val / 4096 := by
  unfold ss_lm
  rw [if_neg (by omega), if_pos (by omega), show (3 * i + 1) / 3 = i from by omega]
theorem ss_lm2 (l : Nat → ss_F) (i : Nat) : ss_lm l (3 * i + 2) = 0 := by
  unfold ss_lm
  rw [if_neg (by omega), if_neg (by omega)]
theorem ss_lm_le (l : Nat → ss_F) (i : Nat) : ss_lm l i ≤ 4095 := by
  unfold ss_lm
  have := (l (i / 3)).isLt
  split
  · omega
  · split <;> omega
/-- the column n of the limbs' product -/
def ss_lS (l r : Nat → ss_F) (n : Nat) : Nat := ss_sN (fun i => ss_lm l i * ss_lm r (n - i)) (n + 1)
theorem ss_lS0 (l r : Nat → ss_F) (n : Nat) : ss_lS l r (3 * n) = ss_sN (fun i => (l i).val % 4096 * ((r (n - i)).val % 4096)) (n + 1) := by
  unfold ss_lS
  rw [ss_sNs, ss_sNs, ss_sN_3, Nat.sub_self (3 * n), ss_lm0, Nat.sub_self n, show ss_lm r 0 = ss_lm r (3 * 0) from rfl, ss_lm0]
  congr 1
  apply ss_sN_congr
  intro i hi
  try dsimp only
  rw [ss_lm2, show 3 * n - (3 * i + 1) = 3 * (n - i - 1) + 2 from by omega, ss_lm2, show 3 * n - 3 * i = 3 * (n - i) from by omega, ss_lm0, ss_lm0]
  omega
theorem ss_lS1 (l r : Nat → ss_F) (n : Nat) : ss_lS l r (3 * n + 1) = ss_sN (fun i => (l i).val % 4096 * ((r (n - i)).val / 4096) + (l i).val / 4096 * ((r (n - i)).val % 4096)) (n + 1) := by
  unfold ss_lS
  rw [ss_sNs, ss_sNs, ss_sNs, ss_sN_3, Nat.sub_self n, ss_lm0, ss_lm1, show 3 * n + 1 - 3 * n = 3 * 0 + 1 from by omega, show 3 * n + 1 - (3 * n + 1) = 3 * 0 from by omega, ss_lm0, ss_lm1, Nat.add_assoc]
  congr 1
  apply ss_sN_congr
  intro i hi
  try dsimp only
  rw [ss_lm2, show 3 * n + 1 - (3 * i + 1) = 3 * (n - i) from by omega, show 3 * n + 1 - 3 * i = 3 * (n - i) + 1 from by omega, ss_lm0, ss_lm0, ss_lm1, ss_lm1]
  omega
theorem ss_lS2 (l r : Nat → ss_F) (n : Nat) : ss_lS l r (3 * n + 2) = ss_sN (fun i => (l i).val / 4096 * ((r (n - i)).val / 4096)) (n + 1) := by
  unfold ss_lS
  rw [show 3 * n + 2 + 1 = 3 * (n + 1) from by omega, ss_sN_3]
  apply ss_sN_congr
  intro i hi
  try dsimp only
  rw [ss_lm2, show 3 * n + 2 - (3 * i + 1) = 3 * (n - i) + 1 from by omega, show 3 * n + 2 - 3 * i = 3 * (n - i) + 2 from by omega, ss_lm2, ss_lm1, ss_lm1]
  omega
def ss_lT (l r : Nat → ss_F) (n : Nat) : Nat := ss_sN (fun i => (l i).val * (r (n - i)).val) (n + 1)
theorem ss_lT_c (l r : Nat → ss_F) (n : Nat) : ss_n (ss_lT l r n) = ss_c l r n := by
  unfold ss_lT
  rw [ss_n_sN]
  apply ss_s_congr
  intro i hi
  rw [ss_n_mul, ss_n_of, ss_n_of]
theorem ss_lT_le (l r : Nat → ss_F) {n : Nat} (h : n < 32) : ss_lT l r n ≤ 32 * (12288 * 12288) := by
  refine Nat.le_trans (ss_sN_le (b := 12288 * 12288) (fun i _ => Nat.mul_le_mul (by have := (l i).isLt; omega) (by have := (r (n - i)).isLt; omega))) (Nat.mul_le_mul_right _ (by omega))
theorem ss_lsp (a b : Nat) : a * b = a % 4096 * (b % 4096) + 4096 * (a % 4096 * (b / 4096) + a / 4096 * (b % 4096)) + 16777216 * (a / 4096 * (b / 4096)) := by
  have ha : a = a % 4096 + 4096 * (a / 4096) := by omega
  have hb : b = b % 4096 + 4096 * (b / 4096) := by omega
  conv => lhs; rw [ha, hb]
  generalize a % 4096 = x
  generalize a / 4096 = y
  generalize b % 4096 = z
  generalize b / 4096 = w
  grind
theorem ss_lT_S (l r : Nat → ss_F) (n : Nat) : ss_lT l r n = ss_lS l r (3 * n) + 4096 * ss_lS l r (3 * n + 1) + 16777216 * ss_lS l r (3 * n + 2) := by
  rw [ss_lS0, ss_lS1, ss_lS2, ← ss_sN_mul, ← ss_sN_mul, ← ss_sN_add, ← ss_sN_add]
  exact ss_sN_congr (fun i _ => ss_lsp _ _)
/-- the carry into column n -/
def ss_lC (l r : Nat → ss_F) : Nat → Nat
  | 0 => 0
  | n + 1 => (ss_lC l r n + ss_lS l r n) / 4096
def ss_lP (l r : Nat → ss_F) (n : Nat) : Nat := (ss_lC l r n + ss_lS l r n) % 4096
theorem ss_l3 {S0 S1 S2 T : Nat} (h : T = S0 + 4096 * S1 + 16777216 * S2) (hT : T ≤ 32 * (12288 * 12288)) : (((0 + S0) / 4096 + S1) / 4096 + S2) / 4096 = 0 ∧ ((((0 + S0) / 4096 + S1) / 4096 + S2) % 4096 * 4096 + ((0 + S0) / 4096 + S1) % 4096) * 4096 + (0 + S0) % 4096 = T := by
  omega
theorem ss_lC3 (l r : Nat → ss_F) : ∀ n, n ≤ 32 → ss_lC l r (3 * n) = 0 := by
  intro n
  induction n with
  | zero => exact fun _ => rfl
  | succ n ih =>
    intro h
    have i := ih (by omega)
    rw [show 3 * (n + 1) = 3 * n + 1 + 1 + 1 from by omega]
    show (((ss_lC l r (3 * n) + ss_lS l r (3 * n)) / 4096 + ss_lS l r (3 * n + 1)) / 4096 + ss_lS l r (3 * n + 2)) / 4096 = 0
    rw [i]
    exact (ss_l3 (ss_lT_S l r n) (ss_lT_le l r (by omega))).1
theorem ss_lP3 (l r : Nat → ss_F) {n : Nat} (h : n < 32) : (ss_lP l r (3 * n + 2) * 4096 + ss_lP l r (3 * n + 1)) * 4096 + ss_lP l r (3 * n) = ss_lT l r n := by
  have i := ss_lC3 l r n (by omega)
  show (((((ss_lC l r (3 * n) + ss_lS l r (3 * n)) / 4096 + ss_lS l r (3 * n + 1)) / 4096 + ss_lS l r (3 * n + 2)) % 4096) * 4096 + ((ss_lC l r (3 * n) + ss_lS l r (3 * n)) / 4096 + ss_lS l r (3 * n + 1)) % 4096) * 4096 + (ss_lC l r (3 * n) + ss_lS l r (3 * n)) % 4096 = _
  rw [i]
  exact (ss_l3 (ss_lT_S l r n) (ss_lT_le l r h)).2
theorem ss_lS_le (l r : Nat → ss_F) {n : Nat} (h : n < 96) : ss_lS l r n ≤ 96 * (4095 * 4095) :=
  Nat.le_trans (ss_sN_le (b := 4095 * 4095) (fun i _ => Nat.mul_le_mul (ss_lm_le l i) (ss_lm_le r (n - i)))) (Nat.mul_le_mul_right _ (by omega))
theorem ss_lC_le (l r : Nat → ss_F) : ∀ n, n ≤ 96 → ss_lC l r n ≤ 96 * (4095 * 4095) := by
  intro n
  induction n with
  | zero => exact fun _ => Nat.zero_le _
  | succ n ih =>
    intro h
    have i := ih (by omega)
    have j := ss_lS_le l r (n := n) (by omega)
    show (ss_lC l r n + ss_lS l r n) / 4096 ≤ _
    omega
