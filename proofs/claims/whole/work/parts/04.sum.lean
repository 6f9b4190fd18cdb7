/-! finite sums modulo 12289, products of series, values -/
def ss_s (f : Nat → ss_F) : Nat → ss_F
  | 0 => 0
  | n + 1 => ss_s f n + f n
theorem ss_s0 (f : Nat → ss_F) : ss_s f 0 = 0 := rfl
theorem ss_ss (f : Nat → ss_F) (n : Nat) : ss_s f (n + 1) = ss_s f n + f n := rfl
theorem ss_s_congr {f g : Nat → ss_F} {n : Nat} (h : ∀ i, i < n → f i = g i) : ss_s f n = ss_s g n := by
  induction n with
  | zero => rfl
  | succ n ih => rw [ss_ss, ss_ss, ih (fun i hi => h i (by omega)), h n (by omega)]
theorem ss_s_zero {f : Nat → ss_F} {n : Nat} (h : ∀ i, i < n → f i = 0) : ss_s f n = 0 := by
  induction n with
  | zero => rfl
  | succ n ih => rw [ss_ss, ih (fun i hi => h i (by omega)), h n (by omega)]; grobner
theorem ss_s_add (f g : Nat → ss_F) (n : Nat) : ss_s (fun i => f i + g i) n = ss_s f n + ss_s g n := by
  induction n with
  | zero => rw [ss_s0, ss_s0, ss_s0]; grobner
  | succ n ih => rw [ss_ss, ss_ss, ss_ss, ih]; grobner
theorem ss_s_sub (f g : Nat → ss_F) (n : Nat) : ss_s (fun i => f i - g i) n = ss_s f n - ss_s g n := by
  induction n with
  | zero => rw [ss_s0, ss_s0, ss_s0]; grobner
  | succ n ih => rw [ss_ss, ss_ss, ss_ss, ih]; grobner
theorem ss_s_mul (c : ss_F) (f : Nat → ss_F) (n : Nat) : ss_s (fun i => c * f i) n = c * ss_s f n := by
  induction n with
  | zero => rw [ss_s0, ss_s0]; grobner
  | succ n ih => rw [ss_ss, ss_ss, ih]; grobner
theorem ss_s_mulr (c : ss_F) (f : Nat → ss_F) (n : Nat) : ss_s (fun i => f i * c) n = ss_s f n * c := by
  induction n with
  | zero => rw [ss_s0, ss_s0]; grobner
  | succ n ih => rw [ss_ss, ss_ss, ih]; grobner
theorem ss_s_split (f : Nat → ss_F) (m n : Nat) : ss_s f (m + n) = ss_s f m + ss_s (fun i => f (m + i)) n := by
  induction n with
  | zero => rw [Nat.add_zero, ss_s0]; grobner
  | succ n ih => rw [← Nat.add_assoc, ss_ss, ss_ss, ih]; grobner
theorem ss_s_front (f : Nat → ss_F) (n : Nat) : ss_s f (n + 1) = f 0 + ss_s (fun i => f (i + 1)) n := by
  induction n with
  | zero => rw [ss_ss, ss_s0, ss_s0]; grobner
  | succ n ih => rw [ss_ss, ih, ss_ss]; grobner
theorem ss_s_rev (f : Nat → ss_F) (n : Nat) : ss_s f n = ss_s (fun i => f (n - 1 - i)) n := by
  induction n with
  | zero => rfl
  | succ n ih =>
    rw [ss_s_front (fun i => f (n + 1 - 1 - i)) n, ss_ss, ih]
    have e : ss_s (fun i => f (n + 1 - 1 - (i + 1))) n = ss_s (fun i => f (n - 1 - i)) n := ss_s_congr (fun i _ => by congr 1; omega)
    rw [e]
    show _ = f (n + 1 - 1 - 0) + _
    rw [show n + 1 - 1 - 0 = n from by omega]
    grobner
theorem ss_s_swap (f : Nat → Nat → ss_F) (m n : Nat) : ss_s (fun i => ss_s (fun j => f i j) m) n = ss_s (fun j => ss_s (fun i => f i j) n) m := by
  induction n with
  | zero =>
    rw [ss_s0]
    exact (ss_s_zero (fun i _ => rfl)).symm
  | succ n ih =>
    rw [ss_ss, ih, ← ss_s_add]
    rfl
theorem ss_s_tri (f : Nat → Nat → ss_F) (N : Nat) : ss_s (fun n => ss_s (fun i => f i (n - i)) (n + 1)) N = ss_s (fun i => ss_s (fun j => f i j) (N - i)) N := by
  induction N with
  | zero => rfl
  | succ N ih =>
    rw [ss_ss, ih]
    have e : ss_s (fun i => ss_s (fun j => f i j) (N + 1 - i)) (N + 1) = ss_s (fun i => ss_s (fun j => f i j) (N - i) + f i (N - i)) (N + 1) := by
      apply ss_s_congr
      intro i hi
      rw [show N + 1 - i = (N - i) + 1 from by omega, ss_ss]
    rw [e, ss_s_add, ss_ss (fun i => ss_s (fun j => f i j) (N - i)) N]
    have z : ss_s (fun j => f N j) (N - N) = 0 := by rw [Nat.sub_self]; rfl
    show _ = ss_s (fun i => ss_s (fun j => f i j) (N - i)) N + ss_s (fun j => f N j) (N - N) + _
    rw [z]
    grobner
theorem ss_s_cut {f : Nat → ss_F} {m n : Nat} (hm : m ≤ n) (h : ∀ i, m ≤ i → i < n → f i = 0) : ss_s f n = ss_s f m := by
  obtain ⟨d, rfl⟩ : ∃ d, n = m + d := ⟨n - m, by omega⟩
  rw [ss_s_split, ss_s_zero (f := fun i => f (m + i)) (fun i hi => h (m + i) (by omega) (by omega))]
  grobner
theorem ss_s_one {f : Nat → ss_F} {n k : Nat} (hk : k < n) (h : ∀ i, i < n → i ≠ k → f i = 0) : ss_s f n = f k := by
  rw [ss_s_cut (m := k + 1) (by omega) (fun i h1 h2 => h i h2 (by omega)), ss_ss, ss_s_zero (fun i hi => h i (by omega) (by omega))]
  grobner
/-- the product of two series at n -/
def ss_c (l r : Nat → ss_F) (n : Nat) : ss_F := ss_s (fun i => l i * r (n - i)) (n + 1)
/-- the value at x of the m lowest places -/
def ss_v (m : Nat) (f : Nat → ss_F) (x : ss_F) : ss_F := ss_s (fun i => f i * ss_p x i) m
/-- nothing from 32 on -/
def ss_k (f : Nat → ss_F) : Nat → ss_F := fun i => if i < 32 then f i else 0
theorem ss_k_lt {f : Nat → ss_F} {i : Nat} (h : i < 32) : ss_k f i = f i := if_pos h
theorem ss_k_ge {f : Nat → ss_F} {i : Nat} (h : 32 ≤ i) : ss_k f i = 0 := if_neg (by omega)
theorem ss_c_k {l r : Nat → ss_F} {n : Nat} (h : n < 32) : ss_c (ss_k l) (ss_k r) n = ss_c l r n := by
  apply ss_s_congr
  intro i hi
  rw [ss_k_lt (by omega), ss_k_lt (by omega)]
theorem ss_c_big {l r : Nat → ss_F} {n : Nat} (h : 63 ≤ n) : ss_c (ss_k l) (ss_k r) n = 0 := by
  apply ss_s_zero
  intro i hi
  by_cases h2 : i < 32
  · rw [ss_k_ge (f := r) (by omega)]; grobner
  · rw [ss_k_ge (f := l) (by omega)]; grobner
theorem ss_v_c (l r : Nat → ss_F) (x : ss_F) {m : Nat} (hm : 63 ≤ m) : ss_v m (ss_c (ss_k l) (ss_k r)) x = ss_v 32 l x * ss_v 32 r x := by
  have e1 : ss_v m (ss_c (ss_k l) (ss_k r)) x = ss_s (fun n => ss_s (fun i => (fun i j => (ss_k l i * ss_p x i) * (ss_k r j * ss_p x j)) i (n - i)) (n + 1)) m := by
    apply ss_s_congr
    intro n hn
    show ss_s (fun i => ss_k l i * ss_k r (n - i)) (n + 1) * ss_p x n = _
    rw [← ss_s_mulr]
    apply ss_s_congr
    intro i hi
    have e : ss_p x n = ss_p x i * ss_p x (n - i) := by rw [← ss_p_add, show i + (n - i) = n from by omega]
    show ss_k l i * ss_k r (n - i) * ss_p x n = (ss_k l i * ss_p x i) * (ss_k r (n - i) * ss_p x (n - i))
    rw [e]
    grobner
  have e2 : ss_s (fun i => ss_s (fun j => (fun i j => (ss_k l i * ss_p x i) * (ss_k r j * ss_p x j)) i j) (m - i)) m = ss_s (fun i => (ss_k l i * ss_p x i) * ss_v 32 r x) m := by
    apply ss_s_congr
    intro i hi
    show ss_s (fun j => (ss_k l i * ss_p x i) * (ss_k r j * ss_p x j)) (m - i) = _
    rw [ss_s_mul]
    by_cases h : i < 32
    · congr 1
      rw [ss_s_cut (m := 32) (by omega) (fun j h1 _ => by rw [ss_k_ge h1]; grobner)]
      exact ss_s_congr (fun j hj => by rw [ss_k_lt hj])
    · rw [ss_k_ge (f := l) (by omega)]
      grobner
  refine (e1.trans (ss_s_tri (fun i j => (ss_k l i * ss_p x i) * (ss_k r j * ss_p x j)) m)).trans (e2.trans ?_)
  rw [ss_s_mulr, ss_s_cut (m := 32) (by omega) (fun j h1 _ => by rw [ss_k_ge h1]; grobner)]
  exact congrArg (fun t => t * ss_v 32 r x) (ss_s_congr (fun j hj => by rw [ss_k_lt hj]))
/-! arrays of residues -/
def ss_em (f : Nat → ss_F) : Nat → Int32 := fun j => ss_e (f j)
def ss_u (f : Nat → ss_F) (k : Nat) (a : ss_F) : Nat → ss_F := fun j => if j = k then a else f j
theorem ss_us (f : Nat → ss_F) (k : Nat) (a : ss_F) : ss_u f k a k = a := if_pos rfl
theorem ss_un {f : Nat → ss_F} {k j : Nat} {a : ss_F} (h : j ≠ k) : ss_u f k a j = f j := if_neg h
theorem ss_em_u (f : Nat → ss_F) (k : Nat) (a : ss_F) : upd (ss_em f) k (ss_e a) = ss_em (ss_u f k a) := by
  funext j
  by_cases h : j = k
  · subst h
    rw [pk_us]
    show _ = ss_e (ss_u f j a j)
    rw [ss_us]
  · rw [pk_un h]
    show ss_e (f j) = ss_e (ss_u f k a j)
    rw [ss_un h]
theorem ss_em_0 : (fun _ => 0 : Nat → Int32) = ss_em (fun _ => 0) := by
  funext j
  exact ss_e0.symm
/-- the n lowest cells of an array are those residues -/
def ss_A (a : Nat → Int32) (f : Nat → ss_F) (n : Nat) : Prop := ∀ j, j < n → a j = ss_e (f j)
theorem ss_A_em (f : Nat → ss_F) (n : Nat) : ss_A (ss_em f) f n := fun _ _ => rfl
theorem ss_A_congr {a : Nat → Int32} {f g : Nat → ss_F} {n : Nat} (h : ss_A a f n) (e : ∀ j, j < n → f j = g j) : ss_A a g n := fun j hj => by rw [h j hj, e j hj]
theorem ss_A_le {a : Nat → Int32} {f : Nat → ss_F} {m n : Nat} (h : ss_A a f n) (hm : m ≤ n) : ss_A a f m := fun j hj => h j (by omega)
theorem ss_A_0 (a : Nat → Int32) (f : Nat → ss_F) : ss_A a f 0 := fun j hj => absurd hj (by omega)
theorem ss_A_u {a : Nat → Int32} {f : Nat → ss_F} {n k : Nat} {x : Int32} {v : ss_F} (h : ss_A a f n) (hx : x = ss_e v) : ss_A (upd a k x) (ss_u f k v) n := by
  intro j hj
  by_cases e : j = k
  · subst e
    rw [pk_us, ss_us, hx]
  · rw [pk_un e, ss_un e, h j hj]
/-- one more cell -/
theorem ss_A_s {a : Nat → Int32} {f : Nat → ss_F} {n : Nat} {x : Int32} (h : ss_A a f n) (hx : x = ss_e (f n)) : ss_A (upd a n x) f (n + 1) := by
  intro j hj
  by_cases e : j = n
  · subst e
    rw [pk_us, hx]
  · rw [pk_un e, h j (by omega)]
/-- a block of 32 cells taken out, and put in -/
def ss_g (f : Nat → ss_F) (s : Nat) : Nat → ss_F := fun n => f (32 * s + n)
def ss_b (f : Nat → ss_F) (s m : Nat) (g : Nat → ss_F) : Nat → ss_F := fun j => if 32 * s ≤ j ∧ j < 32 * s + m then g (j - 32 * s) else f j
theorem ss_b0 (f : Nat → ss_F) (s : Nat) (g : Nat → ss_F) : ss_b f s 0 g = f := by
  funext j
  exact if_neg (by omega)
theorem ss_bs (f : Nat → ss_F) (s m : Nat) (g : Nat → ss_F) : ss_u (ss_b f s m g) (32 * s + m) (g m) = ss_b f s (m + 1) g := by
  funext j
  by_cases h : j = 32 * s + m
  · subst h
    rw [ss_us]
    unfold ss_b
    rw [if_pos (by omega), show 32 * s + m - 32 * s = m from by omega]
  · rw [ss_un h]
    unfold ss_b
    by_cases h2 : 32 * s ≤ j ∧ j < 32 * s + m
    · rw [if_pos h2, if_pos (by omega)]
    · rw [if_neg h2, if_neg (by omega)]
theorem ss_b_congr {f : Nat → ss_F} {s m : Nat} {g h : Nat → ss_F} (e : ∀ n, n < m → g n = h n) : ss_b f s m g = ss_b f s m h := by
  funext j
  unfold ss_b
  by_cases h2 : 32 * s ≤ j ∧ j < 32 * s + m
  · rw [if_pos h2, if_pos h2, e _ (by omega)]
  · rw [if_neg h2, if_neg h2]
/-- a sequence built place by place, each from those before it -/
def ss_q (st : (Nat → ss_F) → Nat → ss_F) : Nat → Nat → ss_F
  | 0 => fun _ => 0
  | n + 1 => ss_u (ss_q st n) n (st (ss_q st n) n)
theorem ss_q_keep (st : (Nat → ss_F) → Nat → ss_F) (n j d : Nat) (h : j < n) : ss_q st (n + d) j = ss_q st n j := by
  induction d with
  | zero => rfl
  | succ d ih =>
    show ss_u (ss_q st (n + d)) (n + d) _ j = _
    rw [ss_un (by omega), ih]
theorem ss_q_at (st : (Nat → ss_F) → Nat → ss_F) {n m : Nat} (h : n < m) : ss_q st m n = st (ss_q st n) n := by
  obtain ⟨d, rfl⟩ : ∃ d, m = n + 1 + d := ⟨m - (n + 1), by omega⟩
  rw [ss_q_keep st (n + 1) n d (by omega)]
  exact ss_us _ _ _
/-- that sequence is a fixed point of its step -/
theorem ss_q_eq (st : (Nat → ss_F) → Nat → ss_F) (N : Nat) (hst : ∀ f h n, (∀ j, j < n → f j = h j) → st f n = st h n) : ∀ n, n < N → ss_q st N n = st (ss_q st N) n := by
  intro n hn
  rw [ss_q_at st hn]
  apply hst
  intro j hj
  obtain ⟨d, rfl⟩ : ∃ d, N = n + d := ⟨N - n, by omega⟩
  exact (ss_q_keep st n j d hj).symm
