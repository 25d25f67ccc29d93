section
/-! rows pasted from kit/rows -/
theorem pk_us {f : Nat → Int32} {k : Nat} {x : Int32} : upd f k x k = x := if_pos rfl
theorem pk_un {f : Nat → Int32} {k j : Nat} {x : Int32} (h : j ≠ k) : upd f k x j = f j := if_neg h
theorem pk_sub {a b : Nat} (h : b ≤ a) : nI a - nI b = nI (a - b) := by
  obtain ⟨c, rfl⟩ : ∃ c, a = c + b := ⟨a - b, by omega⟩
  rw [← nI_add, Int32.add_sub_cancel, Nat.add_sub_cancel]
theorem pk_m1 (n : Nat) : nI (n + 1) + (-1) = nI n := by
  rw [← nI_1, Int32.add_assoc, show (1 : Int32) + (-1) = 0 from rfl, Int32.add_zero]
theorem pk_le {x y : Int32} {A B : Prop} (a b : Nat) (f : a ≤ b → A) (g : b < a → B) (hx : x = nI a := by rfl) (hy : y = nI b := by rfl) (ha : a < 2 ^ 31 := by omega) (hb : b < 2 ^ 31 := by omega) : (x ≤ y → A) ∧ (¬ x ≤ y → B) := by
  subst hx hy
  rw [nI_leI ha hb]
  exact ⟨f, fun z => g (by omega)⟩
theorem pk_lt {x y : Int32} {A B : Prop} (a b : Nat) (f : a < b → A) (g : b ≤ a → B) (hx : x = nI a := by rfl) (hy : y = nI b := by rfl) (ha : a < 2 ^ 31 := by omega) (hb : b < 2 ^ 31 := by omega) : (x < y → A) ∧ (¬ x < y → B) := by
  subst hx hy
  rw [nI_ltI ha hb]
  exact ⟨f, fun z => g (by omega)⟩
theorem pk_eq {x y : Int32} {A B : Prop} (a b : Nat) (f : a = b → A) (g : a ≠ b → B) (hx : x = nI a := by rfl) (hy : y = nI b := by rfl) (ha : a < 2 ^ 31 := by omega) (hb : b < 2 ^ 31 := by omega) : (x = y → A) ∧ (¬ x = y → B) := by
  subst hx hy
  rw [nI_eq ha hb]
  exact ⟨f, g⟩
theorem pk_in {x : Int32} (n N : Nat) (h : n < N) (hx : x = nI n := by rfl) (hN : N < 2 ^ 31 := by omega) : vp_in x N := by
  subst hx
  exact vp_in_nI h hN
theorem pk_cl {x : Int32} (n : Nat) (hx : x = nI n := by rfl) (h : n < 2 ^ 31 := by omega) : x.toNatClampNeg = n := by
  subst hx
  exact nI_clamp h
theorem pk_ix (x : Int32) {n : Nat} (hn : n < 2 ^ 31) : x < 0 ∨ nI n ≤ x ∨ ∃ j : Nat, j < n ∧ x = nI j := by
  by_cases h : x < 0
  · exact Or.inl h
  · obtain ⟨j, hj, rfl⟩ := nI_of h
    by_cases h2 : j < n
    · exact Or.inr (Or.inr ⟨j, h2, rfl⟩)
    · exact Or.inr (Or.inl (nI_le (by omega) hj))
/-! the pure mathematics: neat groupings b of n positions with sizes w -/
def bd_mx (b : Nat → Nat) : Nat → Nat
  | 0 => 0
  | k + 1 => if bd_mx b k ≤ b k then b k + 1 else bd_mx b k
def bd_neat (b : Nat → Nat) (n : Nat) : Prop := ∀ k, k < n → b k ≤ bd_mx b k
def bd_ld (b w : Nat → Nat) (c : Nat) : Nat → Nat
  | 0 => 0
  | k + 1 => if b k = c then bd_ld b w c k + w k else bd_ld b w c k
def bd_lt (c b : Nat → Nat) (n : Nat) : Prop := ∃ j, j < n ∧ (∀ i, i < j → c i = b i) ∧ c j < b j
def bd_fit (b w : Nat → Nat) (n R : Nat) : Prop := ∀ c, bd_ld b w c n ≤ R
def bd_nx (b : Nat → Nat) (k : Nat) : Nat → Nat := fun j => if j < k then b j else if j = k then b k + 1 else 0
theorem bd_mx_s1 {b : Nat → Nat} {k : Nat} (h : bd_mx b k ≤ b k) : bd_mx b (k + 1) = b k + 1 := if_pos h
theorem bd_mx_s0 {b : Nat → Nat} {k : Nat} (h : ¬ bd_mx b k ≤ b k) : bd_mx b (k + 1) = bd_mx b k := if_neg h
theorem bd_ld_s1 {b w : Nat → Nat} {c k : Nat} (h : b k = c) : bd_ld b w c (k + 1) = bd_ld b w c k + w k := if_pos h
theorem bd_ld_s0 {b w : Nat → Nat} {c k : Nat} (h : ¬ b k = c) : bd_ld b w c (k + 1) = bd_ld b w c k := if_neg h
theorem bd_mx_cg {b c : Nat → Nat} : ∀ k, (∀ i, i < k → c i = b i) → bd_mx c k = bd_mx b k := by
  intro k
  induction k with
  | zero => exact fun _ => rfl
  | succ k ih =>
    intro h
    have e := ih (fun i hi => h i (by omega))
    have e2 := h k (by omega)
    show (if bd_mx c k ≤ c k then c k + 1 else bd_mx c k) = (if bd_mx b k ≤ b k then b k + 1 else bd_mx b k)
    rw [e, e2]
theorem bd_ld_cg {b c w : Nat → Nat} {d : Nat} : ∀ k, (∀ i, i < k → c i = b i) → bd_ld c w d k = bd_ld b w d k := by
  intro k
  induction k with
  | zero => exact fun _ => rfl
  | succ k ih =>
    intro h
    have e := ih (fun i hi => h i (by omega))
    have e2 := h k (by omega)
    show (if c k = d then bd_ld c w d k + w k else bd_ld c w d k) = (if b k = d then bd_ld b w d k + w k else bd_ld b w d k)
    rw [e, e2]
theorem bd_mx_up {b : Nat → Nat} {k : Nat} : bd_mx b k ≤ bd_mx b (k + 1) := by
  by_cases h : bd_mx b k ≤ b k
  · rw [bd_mx_s1 h]; omega
  · rw [bd_mx_s0 h]; omega
theorem bd_mx_mono {b : Nat → Nat} {j : Nat} : ∀ d, bd_mx b j ≤ bd_mx b (j + d) := by
  intro d
  induction d with
  | zero => exact Nat.le_refl _
  | succ d ih => exact Nat.le_trans ih bd_mx_up
theorem bd_mx_mono' {b : Nat → Nat} {j k : Nat} (h : j ≤ k) : bd_mx b j ≤ bd_mx b k := by
  obtain ⟨d, rfl⟩ : ∃ d, k = j + d := ⟨k - j, by omega⟩
  exact bd_mx_mono d
theorem bd_lt_up {b : Nat → Nat} {k : Nat} : b k < bd_mx b (k + 1) := by
  by_cases h : bd_mx b k ≤ b k
  · rw [bd_mx_s1 h]; omega
  · rw [bd_mx_s0 h]; omega
theorem bd_lt_mx {b : Nat → Nat} {j k : Nat} (h : j < k) : b j < bd_mx b k :=
  Nat.lt_of_lt_of_le bd_lt_up (bd_mx_mono' h)
theorem bd_mx_le {b : Nat → Nat} {n : Nat} (hb : bd_neat b n) : ∀ k, k ≤ n → bd_mx b k ≤ k := by
  intro k
  induction k with
  | zero => exact fun _ => Nat.le_refl _
  | succ k ih =>
    intro h
    have e := ih (by omega)
    have e2 := hb k (by omega)
    by_cases h : bd_mx b k ≤ b k
    · rw [bd_mx_s1 h]; omega
    · rw [bd_mx_s0 h]; omega
theorem bd_b_le {b : Nat → Nat} {n k : Nat} (hb : bd_neat b n) (h : k < n) : b k ≤ k :=
  Nat.le_trans (hb k h) (bd_mx_le hb k (Nat.le_of_lt h))
theorem bd_mx_pos {b : Nat → Nat} {n : Nat} (h : 0 < n) : 0 < bd_mx b n :=
  Nat.lt_of_le_of_lt (Nat.zero_le _) (bd_lt_mx h)
theorem bd_ld_up {b w : Nat → Nat} {c k : Nat} : bd_ld b w c k ≤ bd_ld b w c (k + 1) := by
  by_cases h : b k = c
  · rw [bd_ld_s1 h]; omega
  · rw [bd_ld_s0 h]; omega
theorem bd_ld_mono {b w : Nat → Nat} {c j k : Nat} (h : j ≤ k) : bd_ld b w c j ≤ bd_ld b w c k := by
  obtain ⟨d, rfl⟩ : ∃ d, k = j + d := ⟨k - j, by omega⟩
  clear h
  induction d with
  | zero => exact Nat.le_refl _
  | succ d ih => exact Nat.le_trans ih bd_ld_up
theorem bd_ld_zero {b w : Nat → Nat} {c : Nat} : ∀ k, bd_mx b k ≤ c → bd_ld b w c k = 0 := by
  intro k
  induction k with
  | zero => exact fun _ => rfl
  | succ k ih =>
    intro h
    have h1 : b k < bd_mx b (k + 1) := bd_lt_up
    rw [bd_ld_s0 (by omega)]
    exact ih (Nat.le_trans bd_mx_up h)
theorem bd_ld_le {b w : Nat → Nat} {c : Nat} (hw : ∀ k, w k ≤ 60) : ∀ k, bd_ld b w c k ≤ 60 * k := by
  intro k
  induction k with
  | zero => exact Nat.le_refl _
  | succ k ih =>
    have := hw k
    by_cases h : b k = c
    · rw [bd_ld_s1 h]; omega
    · rw [bd_ld_s0 h]; omega
theorem bd_tri (c b : Nat → Nat) : ∀ n, bd_lt c b n ∨ bd_lt b c n ∨ ∀ i, i < n → c i = b i := by
  intro n
  induction n with
  | zero => exact Or.inr (Or.inr (fun i h => absurd h (by omega)))
  | succ n ih =>
    rcases ih with ⟨j, hj, h⟩ | ⟨j, hj, h⟩ | h
    · exact Or.inl ⟨j, by omega, h⟩
    · exact Or.inr (Or.inl ⟨j, by omega, h⟩)
    · by_cases h1 : c n < b n
      · exact Or.inl ⟨n, by omega, h, h1⟩
      · by_cases h2 : b n < c n
        · exact Or.inr (Or.inl ⟨n, by omega, fun i hi => (h i hi).symm, h2⟩)
        · refine Or.inr (Or.inr (fun i hi => ?_))
          by_cases h3 : i = n
          · subst h3; omega
          · exact h i (by omega)
theorem bd_cmp {b c : Nat → Nat} {n q : Nat} (hc : bd_neat c n) (hq : q ≤ n) : ∀ d k, k + d = q → (∀ i, i < k → c i = b i) → (∀ j, k ≤ j → j < q → b j = bd_mx b j) → bd_lt c b n ∨ ∀ i, i < q → c i = b i := by
  intro d
  induction d with
  | zero =>
    intro k hk h _
    exact Or.inr (fun i hi => h i (by omega))
  | succ d ih =>
    intro k hk h hm
    have e := bd_mx_cg k h
    have h1 := hc k (by omega)
    have h2 := hm k (by omega) (by omega)
    by_cases h3 : c k = b k
    · refine ih (k + 1) (by omega) (fun i hi => ?_) (fun j hj hj2 => hm j (by omega) hj2)
      by_cases h4 : i = k
      · subst h4; exact h3
      · exact h i (by omega)
    · exact Or.inl ⟨k, by omega, h, by omega⟩
theorem bd_nx_lo {b : Nat → Nat} {k j : Nat} (h : j < k) : bd_nx b k j = b j := if_pos h
theorem bd_nx_at {b : Nat → Nat} {k : Nat} : bd_nx b k k = b k + 1 := by
  show (if k < k then b k else if k = k then b k + 1 else 0) = b k + 1
  rw [if_neg (by omega), if_pos rfl]
theorem bd_nx_hi {b : Nat → Nat} {k j : Nat} (h : k < j) : bd_nx b k j = 0 := by
  show (if j < k then b j else if j = k then b k + 1 else 0) = 0
  rw [if_neg (by omega), if_neg (by omega)]
theorem bd_nx_mx {b : Nat → Nat} {k j : Nat} (h : j ≤ k) : bd_mx (bd_nx b k) j = bd_mx b j :=
  bd_mx_cg j (fun i hi => bd_nx_lo (by omega))
theorem bd_nx_neat {b : Nat → Nat} {n k : Nat} (hb : bd_neat b n) (hk : b k < bd_mx b k) : bd_neat (bd_nx b k) n := by
  intro j hj
  by_cases h1 : j < k
  · rw [bd_nx_lo h1, bd_nx_mx (by omega)]; exact hb j hj
  · by_cases h2 : j = k
    · subst h2; rw [bd_nx_at, bd_nx_mx (by omega)]; omega
    · rw [bd_nx_hi (by omega)]; omega
/-- what is passed over in the step from b at its first q positions -/
def bd_Fin (n q : Nat) (b : Nat → Nat) : Prop := ∀ c, bd_neat c n → bd_lt c b n ∨ ∀ i, i < q → c i = b i
theorem bd_fin {b : Nat → Nat} {n q : Nat} (hq : q ≤ n) (hm : ∀ j, j < q → b j = bd_mx b j) : bd_Fin n q b :=
  fun c hc => bd_cmp hc hq q 0 (by omega) (fun i h => absurd h (by omega)) (fun j _ h => hm j h)
theorem bd_step {b : Nat → Nat} {n q k : Nat} (hk : k < q) (hq : q ≤ n) (hm : ∀ j, k < j → j < q → b j = bd_mx b j) (c : Nat → Nat) (hc : bd_neat c n) (hl : bd_lt c (bd_nx b k) n) : bd_lt c b n ∨ ∀ i, i < q → c i = b i := by
  obtain ⟨j, hj, h1, h2⟩ := hl
  by_cases hjk : j < k
  · rw [bd_nx_lo hjk] at h2
    exact Or.inl ⟨j, hj, fun i hi => by rw [h1 i hi, bd_nx_lo (by omega)], h2⟩
  · by_cases hjk2 : j = k
    · subst hjk2
      rw [bd_nx_at] at h2
      have h3 : ∀ i, i < j → c i = b i := fun i hi => by rw [h1 i hi, bd_nx_lo hi]
      by_cases h4 : c j < b j
      · exact Or.inl ⟨j, hj, h3, h4⟩
      · refine bd_cmp hc hq (q - (j + 1)) (j + 1) (by omega) (fun i hi => ?_) (fun i hi hi2 => hm i (by omega) hi2)
        by_cases h5 : i = j
        · subst h5; omega
        · exact h3 i (by omega)
    · rw [bd_nx_hi (by omega)] at h2
      omega
/-! the number of groupings ahead of b -/
def bd_D : Nat → Nat → Nat
  | 0, _ => 1
  | j + 1, m => m * bd_D j m + bd_D j (m + 1)
def bd_S (b : Nat → Nat) (n : Nat) : Nat → Nat
  | 0 => 0
  | k + 1 => bd_S b n k + b k * bd_D (n - 1 - k) (bd_mx b k)
theorem bd_S_1 {b : Nat → Nat} {n k : Nat} (hb : bd_neat b n) (hk : k < n) : bd_S b n (k + 1) + bd_D (n - (k + 1)) (bd_mx b (k + 1)) ≤ bd_S b n k + bd_D (n - k) (bd_mx b k) := by
  obtain ⟨d, hd⟩ : ∃ d, n - k = d + 1 := ⟨n - k - 1, by omega⟩
  have e1 : n - (k + 1) = d := by omega
  have e2 : n - 1 - k = d := by omega
  show bd_S b n k + b k * bd_D (n - 1 - k) (bd_mx b k) + bd_D (n - (k + 1)) (bd_mx b (k + 1)) ≤ bd_S b n k + bd_D (n - k) (bd_mx b k)
  rw [e1, e2, hd]
  show bd_S b n k + b k * bd_D d (bd_mx b k) + bd_D d (bd_mx b (k + 1)) ≤ bd_S b n k + (bd_mx b k * bd_D d (bd_mx b k) + bd_D d (bd_mx b k + 1))
  have h1 := hb k hk
  by_cases h : bd_mx b k ≤ b k
  · rw [bd_mx_s1 h]
    have h2 : b k = bd_mx b k := by omega
    rw [h2]; omega
  · rw [bd_mx_s0 h]
    have h3 : (b k + 1) * bd_D d (bd_mx b k) ≤ bd_mx b k * bd_D d (bd_mx b k) := Nat.mul_le_mul_right _ (by omega)
    rw [Nat.add_mul, Nat.one_mul] at h3
    omega
theorem bd_S_le {b : Nat → Nat} {n j : Nat} (hb : bd_neat b n) : ∀ d, j + d ≤ n → bd_S b n (j + d) + bd_D (n - (j + d)) (bd_mx b (j + d)) ≤ bd_S b n j + bd_D (n - j) (bd_mx b j) := by
  intro d
  induction d with
  | zero => exact fun _ => Nat.le_refl _
  | succ d ih =>
    intro h
    exact Nat.le_trans (bd_S_1 (k := j + d) hb (by omega)) (ih (by omega))
theorem bd_S_lt {b : Nat → Nat} {n : Nat} (hb : bd_neat b n) (hn : n ≤ 8) : bd_S b n n < 4140 := by
  have h := bd_S_le (j := 0) hb n (by omega)
  rw [Nat.zero_add, Nat.sub_self] at h
  have h2 : bd_D (n - 0) (bd_mx b 0) ≤ 4140 := by
    show bd_D (n - 0) 0 ≤ 4140
    rw [Nat.sub_zero]
    have : ∀ n, n < 9 → bd_D n 0 ≤ 4140 := by decide +kernel
    exact this n (by omega)
  have h3 : bd_D 0 (bd_mx b n) = 1 := rfl
  have h4 : bd_S b n 0 = 0 := rfl
  omega
theorem bd_S_cg {b c : Nat → Nat} {n : Nat} : ∀ k, (∀ i, i < k → c i = b i) → bd_S c n k = bd_S b n k := by
  intro k
  induction k with
  | zero => exact fun _ => rfl
  | succ k ih =>
    intro h
    have e := ih (fun i hi => h i (by omega))
    have e2 := h k (by omega)
    have e3 := bd_mx_cg k (fun i hi => h i (Nat.lt_succ_of_lt hi))
    show bd_S c n k + c k * bd_D (n - 1 - k) (bd_mx c k) = bd_S b n k + b k * bd_D (n - 1 - k) (bd_mx b k)
    rw [e, e2, e3]
theorem bd_S_mono {b : Nat → Nat} {n j : Nat} : ∀ d, bd_S b n j ≤ bd_S b n (j + d) := by
  intro d
  induction d with
  | zero => exact Nat.le_refl _
  | succ d ih => exact Nat.le_trans ih (Nat.le_add_right _ _)
theorem bd_S_nx {b : Nat → Nat} {n k : Nat} (hb : bd_neat b n) (hk : k < n) (h : b k < bd_mx b k) : bd_S b n n < bd_S (bd_nx b k) n n := by
  have h1 := bd_S_le (j := k + 1) hb (n - (k + 1)) (by omega)
  have e : k + 1 + (n - (k + 1)) = n := by omega
  rw [e, Nat.sub_self] at h1
  have h2 : bd_D 0 (bd_mx b n) = 1 := rfl
  rw [h2, bd_mx_s0 (by omega)] at h1
  have h3 := bd_S_mono (b := bd_nx b k) (n := n) (j := k + 1) (n - (k + 1))
  rw [e] at h3
  have h4 : bd_S (bd_nx b k) n (k + 1) = bd_S b n k + (b k + 1) * bd_D (n - 1 - k) (bd_mx b k) := by
    show bd_S (bd_nx b k) n k + bd_nx b k k * bd_D (n - 1 - k) (bd_mx (bd_nx b k) k) = _
    rw [bd_S_cg k (fun i hi => bd_nx_lo hi), bd_nx_at, bd_nx_mx (Nat.le_refl _)]
  have h5 : bd_S b n (k + 1) = bd_S b n k + b k * bd_D (n - 1 - k) (bd_mx b k) := rfl
  have e2 : n - (k + 1) = n - 1 - k := by omega
  rw [h4, Nat.add_mul, Nat.one_mul] at h3
  rw [h5, e2] at h1
  omega
/-- b' is the next grouping behind b that differs in the first q positions -/
def bd_Go (n q : Nat) (b b' : Nat → Nat) : Prop := bd_neat b' n ∧ bd_S b n n < bd_S b' n n ∧ ∀ c, bd_neat c n → bd_lt c b' n → bd_lt c b n ∨ ∀ i, i < q → c i = b i
theorem bd_go {b : Nat → Nat} {n q k : Nat} (hb : bd_neat b n) (hk : k < q) (hq : q ≤ n) (h : b k < bd_mx b k) (hm : ∀ j, k < j → j < q → b j = bd_mx b j) : bd_Go n q b (bd_nx b k) :=
  ⟨bd_nx_neat hb h, bd_S_nx hb (by omega) h, bd_step hk hq hm⟩
theorem bd_zero_neat (n : Nat) : bd_neat (fun _ => 0) n := fun k _ => Nat.zero_le _
theorem bd_zero_lt {c : Nat → Nat} {n : Nat} : ¬ bd_lt c (fun _ => 0) n := by
  intro ⟨j, _, _, h⟩
  exact absurd h (Nat.not_lt_zero _)
theorem bd_zero_S {n : Nat} : ∀ k, bd_S (fun _ => 0) n k = 0 := by
  intro k
  induction k with
  | zero => rfl
  | succ k ih =>
    show bd_S (fun _ => 0) n k + 0 * _ = 0
    rw [ih, Nat.zero_mul]
theorem bd_zero_mx : ∀ k, bd_mx (fun _ => 0) k ≤ 1 := by
  intro k
  induction k with
  | zero => exact Nat.zero_le _
  | succ k ih =>
    by_cases h : bd_mx (fun _ => 0) k ≤ (fun _ => 0 : Nat → Nat) k
    · rw [bd_mx_s1 h]; exact Nat.le_refl _
    · rw [bd_mx_s0 h]; exact ih
theorem bd_id_mx : ∀ k, bd_mx (fun j => j) k = k := by
  intro k
  induction k with
  | zero => rfl
  | succ k ih => rw [bd_mx_s1 (by rw [ih]; exact Nat.le_refl _)]
theorem bd_id_neat (n : Nat) : bd_neat (fun j => j) n := fun k _ => by rw [bd_id_mx]; exact Nat.le_refl _
theorem bd_id_ld {w : Nat → Nat} {c : Nat} : ∀ k, bd_ld (fun j => j) w c k = if c < k then w c else 0 := by
  intro k
  induction k with
  | zero => rw [if_neg (by omega)]; rfl
  | succ k ih =>
    by_cases h : k = c
    · rw [bd_ld_s1 (b := fun j => j) h, ih, if_neg (by omega), if_pos (by omega), h, Nat.zero_add]
    · rw [bd_ld_s0 (b := fun j => j) h, ih]
      by_cases h2 : c < k
      · rw [if_pos h2, if_pos (by omega)]
      · rw [if_neg h2, if_neg (by omega)]
theorem bd_id_fit {w : Nat → Nat} {n R : Nat} (hw : ∀ k, w k ≤ R) : bd_fit (fun j => j) w n R := by
  intro c
  rw [bd_id_ld]
  by_cases h : c < n
  · rw [if_pos h]; exact hw c
  · rw [if_neg h]; exact Nat.zero_le _
/-- v is the least count -/
def bd_L (n : Nat) (w : Nat → Nat) (R v : Nat) : Prop := (∀ c, bd_neat c n → bd_fit c w n R → v ≤ bd_mx c n) ∧ ∃ f, bd_neat f n ∧ bd_fit f w n R ∧ bd_mx f n = v
theorem bd_L_one {n : Nat} {w : Nat → Nat} {R v v' : Nat} (h : bd_L n w R v) (h' : bd_L n w R v') : v' = v := by
  obtain ⟨h1, f, h2, h3, h4⟩ := h
  obtain ⟨g1, g, g2, g3, g4⟩ := h'
  have a := h1 g g2 g3
  have b := g1 f h2 h3
  omega
theorem bd_L_le {n : Nat} {w : Nat → Nat} {R v : Nat} (h : bd_L n w R v) : v ≤ n := by
  obtain ⟨_, f, h2, _, h4⟩ := h
  rw [← h4]; exact bd_mx_le h2 n (Nat.le_refl _)
/-- f is the first packing of count v -/
def bd_F (n : Nat) (w : Nat → Nat) (R v : Nat) (f : Nat → Nat) : Prop := bd_neat f n ∧ bd_fit f w n R ∧ bd_mx f n = v ∧ ∀ c, bd_neat c n → bd_fit c w n R → bd_lt c f n → v < bd_mx c n
theorem bd_F_one {n : Nat} {w : Nat → Nat} {R v : Nat} {f g : Nat → Nat} (h : bd_F n w R v f) (h' : bd_F n w R v g) : ∀ i, i < n → g i = f i := by
  obtain ⟨h1, h2, h3, h4⟩ := h
  obtain ⟨g1, g2, g3, g4⟩ := h'
  rcases bd_tri g f n with z | z | z
  · have := h4 g g1 g2 z; omega
  · have := g4 f h1 h2 z; omega
  · exact z
theorem bd_fit_cg {b c w : Nat → Nat} {n R : Nat} (h : ∀ i, i < n → c i = b i) (hb : bd_fit b w n R) : bd_fit c w n R := fun d => by
  rw [bd_ld_cg n h]; exact hb d
/-! counting the items of a set -/
def bd_cnt (m : Nat) : Nat → Nat
  | 0 => 0
  | i + 1 => if m.testBit i = true then bd_cnt m i + 1 else bd_cnt m i
theorem bd_cnt_s1 {m i : Nat} (h : m.testBit i = true) : bd_cnt m (i + 1) = bd_cnt m i + 1 := if_pos h
theorem bd_cnt_s0 {m i : Nat} (h : m.testBit i = false) : bd_cnt m (i + 1) = bd_cnt m i := if_neg (by rw [h]; decide)
theorem bd_cnt_le (m : Nat) : ∀ i, bd_cnt m i ≤ i := by
  intro i
  induction i with
  | zero => exact Nat.le_refl _
  | succ i ih =>
    cases h : m.testBit i
    · rw [bd_cnt_s0 h]; omega
    · rw [bd_cnt_s1 h]; omega
theorem bd_cnt_mono {m i : Nat} : ∀ d, bd_cnt m i ≤ bd_cnt m (i + d) := by
  intro d
  induction d with
  | zero => exact Nat.le_refl _
  | succ d ih =>
    refine Nat.le_trans ih ?_
    show bd_cnt m (i + d) ≤ bd_cnt m (i + d + 1)
    cases h : m.testBit (i + d)
    · rw [bd_cnt_s0 h]; omega
    · rw [bd_cnt_s1 h]; omega
theorem bd_cnt_mono' {m i j : Nat} (h : i ≤ j) : bd_cnt m i ≤ bd_cnt m j := by
  obtain ⟨d, rfl⟩ : ∃ d, j = i + d := ⟨j - i, by omega⟩
  exact bd_cnt_mono d
theorem bd_cnt_lt {m i j : Nat} (h : m.testBit i = true) (hij : i < j) : bd_cnt m i < bd_cnt m j := by
  have h1 := bd_cnt_mono' (m := m) (i := i + 1) (j := j) hij
  rw [bd_cnt_s1 h] at h1
  omega
theorem bd_cnt_inj {m i j : Nat} (hi : m.testBit i = true) (hj : m.testBit j = true) (h : bd_cnt m i = bd_cnt m j) : i = j := by
  by_cases h1 : i < j
  · have := bd_cnt_lt hi h1; omega
  · by_cases h2 : j < i
    · have := bd_cnt_lt hj h2; omega
    · omega
theorem bd_cnt_ltI {m i j : Nat} (h : bd_cnt m i < bd_cnt m j) : i < j := by
  by_cases h1 : i < j
  · exact h1
  · have := bd_cnt_mono' (m := m) (i := j) (j := i) (by omega); omega
theorem bd_w {m R : Nat} {s : Nat → Nat} (hs : ∀ i, i < 8 → s i ≤ R) : ∀ N, N ≤ 8 → ∃ w : Nat → Nat, (∀ k, w k ≤ R) ∧ ∀ i, i < N → m.testBit i = true → w (bd_cnt m i) = s i := by
  intro N
  induction N with
  | zero => exact fun _ => ⟨fun _ => 0, fun _ => Nat.zero_le _, fun i h => absurd h (by omega)⟩
  | succ N ih =>
    intro hN
    obtain ⟨w, h1, h2⟩ := ih (by omega)
    refine ⟨fun k => if k = bd_cnt m N then s N else w k, fun k => ?_, fun i hi hb => ?_⟩
    · by_cases h : k = bd_cnt m N
      · show (if k = bd_cnt m N then s N else w k) ≤ R
        rw [if_pos h]; exact hs N (by omega)
      · show (if k = bd_cnt m N then s N else w k) ≤ R
        rw [if_neg h]; exact h1 k
    · show (if bd_cnt m i = bd_cnt m N then s N else w (bd_cnt m i)) = s i
      by_cases h : i = N
      · subst h; rw [if_pos rfl]
      · have := bd_cnt_lt hb (show i < N by omega)
        rw [if_neg (by omega)]; exact h2 i (by omega) hb
end
section
/-! bits -/
theorem xd_bit : ∀ m, m < 256 → ∀ i, i < 8 → (((nI m &&& ((1 : Int32) <<< (nI i &&& 31))) = 0) ↔ m.testBit i = false) := by decide +kernel
theorem xd_or : ∀ m, m < 256 → ∀ i, i < 8 → (nI m ||| ((1 : Int32) <<< (nI i &&& 31))) = nI (m ||| 2 ^ i) := by decide +kernel
theorem xd_wo : ∀ m, m < 256 → ∀ i, i < 8 → (nI m &&& (((1 : Int32) <<< (nI i &&& 31)) ^^^ (-1))) = nI (m &&& (255 - 2 ^ i)) := by decide +kernel
theorem xd_or_lt : ∀ m, m < 256 → ∀ i, i < 8 → m ||| 2 ^ i < 256 := by decide +kernel
theorem xd_wo_lt {m i : Nat} (hm : m < 256) : m &&& (255 - 2 ^ i) < 256 := Nat.lt_of_le_of_lt Nat.and_le_left hm
theorem xd_or_bit (m i j : Nat) : (m ||| 2 ^ i).testBit j = (m.testBit j || decide (i = j)) := by
  rw [Nat.testBit_or, Nat.testBit_two_pow]
theorem xd_wo_tab : ∀ i, i < 8 → ∀ j, j < 8 → (255 - 2 ^ i).testBit j = !(decide (i = j)) := by decide +kernel
theorem xd_wo_bit {m i j : Nat} (hi : i < 8) (hj : j < 8) : (m &&& (255 - 2 ^ i)).testBit j = (m.testBit j && !(decide (i = j))) := by
  rw [Nat.testBit_and, xd_wo_tab i hi j hj]
theorem xd_isIn {A B : Prop} {m i : Nat} (hm : m < 256) (hi : i < 8) (f : m.testBit i = false → A) (g : m.testBit i = true → B) : wpX_isIn (fun r => (r = 0 → A) ∧ (¬ r = 0 → B)) (nI m) (nI i) := by
  refine br_c (fun h => ?_) (fun h => ?_)
  · exact br_t rfl (f ((xd_bit m hm i hi).mp h))
  · refine br_f (by decide) (g ?_)
    cases hb : m.testBit i
    · exact absurd ((xd_bit m hm i hi).mpr hb) h
    · rfl
/-- the array ab holds the grouping b of the items of m -/
def xd_B (m : Nat) (b : Nat → Nat) (ab : Nat → Int32) : Prop := bd_neat b (bd_cnt m 8) ∧ ∀ i, i < 8 → m.testBit i = true → ab i = nI (b (bd_cnt m i))
def xd_W (m : Nat) (w : Nat → Nat) (as : Nat → Int32) : Prop := (∀ k, w k ≤ 60) ∧ ∀ i, i < 8 → m.testBit i = true → as i = nI (w (bd_cnt m i))
theorem xd_le8 (m : Nat) : bd_cnt m 8 ≤ 8 := bd_cnt_le m 8
theorem xd_bd {m i : Nat} {b : Nat → Nat} {ab : Nat → Int32} (hB : xd_B m b ab) (hi : i < 8) (h : m.testBit i = true) : b (bd_cnt m i) ≤ bd_mx b (bd_cnt m i) ∧ bd_mx b (bd_cnt m i) ≤ bd_cnt m i ∧ bd_cnt m i ≤ 7 ∧ bd_cnt m i < bd_cnt m 8 := by
  have h1 := bd_cnt_lt h hi
  exact ⟨hB.1 _ h1, bd_mx_le hB.1 _ (Nat.le_of_lt h1), Nat.le_trans (bd_cnt_le m i) (by omega), h1⟩
theorem xd_mxle {m i : Nat} {b : Nat → Nat} {ab : Nat → Int32} (hB : xd_B m b ab) (hi : i ≤ 8) : bd_mx b (bd_cnt m i) ≤ 8 := by
  have h1 := bd_mx_le hB.1 _ (bd_cnt_mono' (m := m) hi)
  have h2 := bd_cnt_le m i
  omega
theorem xd_in {i : Nat} (h : i < 8) : vp_in (nI i) 8 := vp_in_nI h (by decide)
theorem xd_cl {i : Nat} (h : i ≤ 480) : (nI i).toNatClampNeg = i := nI_clamp (by omega)
theorem xd_ge8 : ∀ i, i < 8 → ¬ (8 : Int32) ≤ nI i := by decide +kernel
theorem xd_88 : (8 : Int32) ≤ nI 8 := by decide +kernel
theorem xd_ne8 : ∀ i, i < 8 → ¬ nI i = (8 : Int32) := by decide +kernel
/-! binsBefore -/
theorem xd_bb5 {post : Int32 → Prop} {m e : Nat} (hm : m < 256) (he : e ≤ 8) {b : Nat → Nat} {fb fp : Int32} {as ab al af : Nat → Int32} (hB : xd_B m b ab) (hp : post (nI (bd_mx b (bd_cnt m e)))) : ∀ d i, i + d = e → wX_binsBefore_5 post (nI m) (nI e) fb fp as ab al af (d + 1) (nI (bd_mx b (bd_cnt m i))) (nI i) := by
  intro d
  induction d with
  | zero =>
    intro i hi
    obtain rfl : i = e := by omega
    exact br_t (nI_le (Nat.le_refl _) (by omega)) hp
  | succ d ih =>
    intro i hi
    have h8 : i < 8 := by omega
    have H := ih (i + 1) (by omega)
    refine br_f (nI_ge (by omega) (by omega)) (xd_isIn hm h8 (fun h => nm_r (nI_1 i) ?_) (fun h => ?_))
    · rw [bd_cnt_s0 h] at H
      exact H
    · obtain ⟨h1, h2, h3, _⟩ := xd_bd hB h8 h
      have e1 : ab (nI i).toNatClampNeg = nI (b (bd_cnt m i)) := by rw [xd_cl (by omega)]; exact hB.2 i h8 h
      rw [bd_cnt_s1 h] at H
      refine ⟨xd_in h8, pk_lt (b (bd_cnt m i)) (bd_mx b (bd_cnt m i)) (fun z => nm_r (nI_1 i) ?_) (fun z => ⟨xd_in h8, nm_r (e' := nI (b (bd_cnt m i) + 1)) (by rw [e1, nI_1]) (nm_r (nI_1 i) ?_)⟩) (hx := e1)⟩
      · rw [bd_mx_s0 (by omega)] at H
        exact H
      · rw [bd_mx_s1 z] at H
        exact H
theorem xd_bb {post : Int32 → Prop} {m : Nat} (e : Nat) (hm : m < 256) (he : e ≤ 8) {b : Nat → Nat} {fb fp : Int32} {as ab al af : Nat → Int32} (hB : xd_B m b ab) (hp : post (nI (bd_mx b (bd_cnt m e)))) : wpX_binsBefore post (fb, fp, as, ab, al, af) (nI m) (nI e) :=
  ⟨e + 1, xd_bb5 hm he hB hp e 0 (by omega)⟩
/-! startGroupings, keepAsFirst -/
theorem xd_sg2 {post : SX → Prop} {fb fp : Int32} {as al af : Nat → Int32} (hp : ∀ ab, (∀ i, i < 8 → ab i = 0) → post (fb, fp, as, ab, al, af)) : ∀ d i ab, i + d = 8 → (∀ j, j < i → ab j = 0) → wX_startGroupings_2 post fb fp (d + 1) (nI i) as ab al af := by
  intro d
  induction d with
  | zero =>
    intro i ab hi h
    obtain rfl : i = 8 := by omega
    exact br_t xd_88 (hp ab h)
  | succ d ih =>
    intro i ab hi h
    refine br_f (xd_ge8 i (by omega)) ⟨xd_in (by omega), nm_r (e' := upd ab i 0) (by rw [xd_cl (by omega)]) (nm_r (nI_1 i) (ih (i + 1) _ (by omega) (fun j hj => ?_)))⟩
    by_cases hj2 : j = i
    · subst hj2; exact pk_us
    · rw [pk_un hj2]; exact h j (by omega)
theorem xd_sg {post : SX → Prop} {fb fp : Int32} {as ab al af : Nat → Int32} (hp : ∀ ab, (∀ i, i < 8 → ab i = 0) → post (fb, fp, as, ab, al, af)) : wpX_startGroupings post (fb, fp, as, ab, al, af) :=
  ⟨9, xd_sg2 hp 8 0 ab (by omega) (fun j hj => absurd hj (by omega))⟩
theorem xd_kf2 {post : SX → Prop} {fb fp : Int32} {as ab al : Nat → Int32} (hp : ∀ af, (∀ i, i < 8 → af i = ab i) → post (fb, fp, as, ab, al, af)) : ∀ d i af, i + d = 8 → (∀ j, j < i → af j = ab j) → wX_keepAsFirst_2 post fb fp (d + 1) (nI i) as ab al af := by
  intro d
  induction d with
  | zero =>
    intro i af hi h
    obtain rfl : i = 8 := by omega
    exact br_t xd_88 (hp af h)
  | succ d ih =>
    intro i af hi h
    refine br_f (xd_ge8 i (by omega)) ⟨xd_in (by omega), xd_in (by omega), nm_r (e' := upd af i (ab i)) (by rw [xd_cl (by omega)]) (nm_r (nI_1 i) (ih (i + 1) _ (by omega) (fun j hj => ?_)))⟩
    by_cases hj2 : j = i
    · subst hj2; exact pk_us
    · rw [pk_un hj2]; exact h j (by omega)
theorem xd_kf {post : SX → Prop} {fb fp : Int32} {as ab al af : Nat → Int32} (hp : ∀ af, (∀ i, i < 8 → af i = ab i) → post (fb, fp, as, ab, al, af)) : wpX_keepAsFirst post (fb, fp, as, ab, al, af) :=
  ⟨9, xd_kf2 hp 8 0 af (by omega) (fun j hj => absurd hj (by omega))⟩
/-! fillBins -/
theorem xd_fb23 {post : Int32 → SX → Prop} {m R : Nat} (hm : m < 256) (hR : R ≤ 480) {b w : Nat → Nat} {fb fp : Int32} {as ab af : Nat → Int32} (hB : xd_B m b ab) (hW : xd_W m w as)
    (h8 : ∀ al, (∀ c, c < 8 → al c = nI (bd_ld b w c (bd_cnt m 8))) → bd_fit b w (bd_cnt m 8) R → post 8 (fb, fp, as, ab, al, af))
    (h9 : ∀ al i, i < 8 → m.testBit i = true → R < bd_ld b w (b (bd_cnt m i)) (bd_cnt m i + 1) → post (nI i) (fb, fp, as, ab, al, af)) :
    ∀ d i al, i + d = 8 → (∀ c, c < 8 → al c = nI (bd_ld b w c (bd_cnt m i))) → bd_fit b w (bd_cnt m i) R → wX_fillBins_23 post (nI m) (nI R) fb fp (d + 1) (nI i) as ab al af := by
  intro d
  induction d with
  | zero =>
    intro i al hi h hf
    obtain rfl : i = 8 := by omega
    exact br_t xd_88 (h8 al h hf)
  | succ d ih =>
    intro i al hi hL hf
    have hi8 : i < 8 := by omega
    refine br_f (xd_ge8 i (by omega)) (xd_isIn hm hi8 (fun h => nm_r (nI_1 i) (ih (i + 1) al (by omega) ?_ ?_)) (fun h => ?_))
    · rw [bd_cnt_s0 h]; exact hL
    · rw [bd_cnt_s0 h]; exact hf
    · obtain ⟨h1, h2, h3, _⟩ := xd_bd hB hi8 h
      have e1 : ab (nI i).toNatClampNeg = nI (b (bd_cnt m i)) := by rw [xd_cl (by omega)]; exact hB.2 i hi8 h
      have e2 : as (nI i).toNatClampNeg = nI (w (bd_cnt m i)) := by rw [xd_cl (by omega)]; exact hW.2 i hi8 h
      have vb : vp_in (ab (nI i).toNatClampNeg) 8 := by rw [e1]; exact xd_in (by omega)
      have e4 : bd_ld b w (b (bd_cnt m i)) (bd_cnt m i + 1) = bd_ld b w (b (bd_cnt m i)) (bd_cnt m i) + w (bd_cnt m i) := bd_ld_s1 rfl
      have e5 : bd_ld b w (b (bd_cnt m i)) (bd_cnt m i + 1) ≤ 60 * (bd_cnt m i + 1) := bd_ld_le hW.1 _
      have ea : upd al (ab (nI i).toNatClampNeg).toNatClampNeg (al (ab (nI i).toNatClampNeg).toNatClampNeg + as (nI i).toNatClampNeg) = upd al (b (bd_cnt m i)) (nI (bd_ld b w (b (bd_cnt m i)) (bd_cnt m i + 1))) := by
        rw [e1, e2, xd_cl (by omega), hL _ (by omega), nI_add, e4]
      refine ⟨xd_in hi8, vb, xd_in hi8, vb, nm_r ea ⟨xd_in hi8, vb, ?_⟩⟩
      have e3 : upd al (b (bd_cnt m i)) (nI (bd_ld b w (b (bd_cnt m i)) (bd_cnt m i + 1))) (ab (nI i).toNatClampNeg).toNatClampNeg = nI (bd_ld b w (b (bd_cnt m i)) (bd_cnt m i + 1)) := by
        rw [e1, xd_cl (by omega)]; exact pk_us
      refine pk_le (bd_ld b w (b (bd_cnt m i)) (bd_cnt m i + 1)) R (fun z => nm_r (nI_1 i) (ih (i + 1) _ (by omega) (fun c hc => ?_) ?_)) (fun z => h9 _ i hi8 h z) (hx := e3)
      · rw [bd_cnt_s1 h]
        by_cases hc2 : c = b (bd_cnt m i)
        · subst hc2; exact pk_us
        · rw [pk_un hc2, bd_ld_s0 (fun z => hc2 z.symm)]; exact hL c hc
      · rw [bd_cnt_s1 h]
        intro c
        by_cases hc2 : b (bd_cnt m i) = c
        · subst hc2; exact z
        · rw [bd_ld_s0 hc2]; exact hf c
theorem xd_fb2 {post : Int32 → SX → Prop} {x1 x2 : Int32} {fb fp : Int32} {as ab af : Nat → Int32} (hp : ∀ al, (∀ i, i < 8 → al i = 0) → ∃ n, wX_fillBins_23 post x1 x2 fb fp n 0 as ab al af) : ∀ d i al, i + d = 8 → (∀ j, j < i → al j = 0) → wX_fillBins_2 post x1 x2 fb fp (d + 1) (nI i) as ab al af := by
  intro d
  induction d with
  | zero =>
    intro i al hi h
    obtain rfl : i = 8 := by omega
    exact br_t xd_88 (hp al h)
  | succ d ih =>
    intro i al hi h
    refine br_f (xd_ge8 i (by omega)) ⟨xd_in (by omega), nm_r (e' := upd al i 0) (by rw [xd_cl (by omega)]) (nm_r (nI_1 i) (ih (i + 1) _ (by omega) (fun j hj => ?_)))⟩
    by_cases hj2 : j = i
    · subst hj2; exact pk_us
    · rw [pk_un hj2]; exact h j (by omega)
theorem xd_fb {post : Int32 → SX → Prop} {m R : Nat} (hm : m < 256) (hR : R ≤ 480) {b w : Nat → Nat} {fb fp : Int32} {as ab al af : Nat → Int32} (hB : xd_B m b ab) (hW : xd_W m w as)
    (h8 : ∀ al, (∀ c, c < 8 → al c = nI (bd_ld b w c (bd_cnt m 8))) → bd_fit b w (bd_cnt m 8) R → post 8 (fb, fp, as, ab, al, af))
    (h9 : ∀ al i, i < 8 → m.testBit i = true → R < bd_ld b w (b (bd_cnt m i)) (bd_cnt m i + 1) → post (nI i) (fb, fp, as, ab, al, af)) :
    wpX_fillBins post (fb, fp, as, ab, al, af) (nI m) (nI R) :=
  ⟨9, xd_fb2 (fun al h => ⟨9, xd_fb23 hm hR hB hW h8 h9 8 0 al (by omega) (fun c hc => h c hc) (fun c => Nat.zero_le _)⟩) 8 0 al (by omega) (fun j hj => absurd hj (by omega))⟩
/-! nextGrouping -/
theorem xd_ng50 {post : Int32 → SX → Prop} {fb fp : Int32} {as al af : Nat → Int32} : ∀ d i ab, i + d = 8 → (∀ ab', (∀ j, j < i → ab' j = ab j) → (∀ j, i ≤ j → j < 8 → ab' j = 0) → post 1 (fb, fp, as, ab', al, af)) → wX_nextGrouping_50 post fb fp (d + 1) (nI i) as ab al af := by
  intro d
  induction d with
  | zero =>
    intro i ab hi h
    obtain rfl : i = 8 := by omega
    exact br_t xd_88 (h ab (fun _ _ => rfl) (fun j h1 h2 => absurd h1 (by omega)))
  | succ d ih =>
    intro i ab hi h
    refine br_f (xd_ge8 i (by omega)) ⟨xd_in (by omega), nm_r (e' := upd ab i 0) (by rw [xd_cl (by omega)]) (nm_r (nI_1 i) (ih (i + 1) _ (by omega) (fun ab' h1 h2 => h ab' (fun j hj => ?_) (fun j hj hj8 => ?_))))⟩
    · rw [h1 j (by omega), pk_un (by omega)]
    · by_cases hj2 : j = i
      · subst hj2; rw [h1 j (by omega)]; exact pk_us
      · exact h2 j (by omega) hj8
theorem xd_ng3 {post : Int32 → SX → Prop} {m l e : Nat} (hm : m < 256) (hl : l ≤ 8) (he : (l < 8 ∧ e = l + 1) ∨ (l = 8 ∧ e = 8)) {b : Nat → Nat} {fb fp : Int32} {as ab al af : Nat → Int32} (hB : xd_B m b ab)
    (h0 : bd_Fin (bd_cnt m 8) (bd_cnt m e) b → post 0 (fb, fp, as, ab, al, af))
    (h1 : ∀ b' ab', bd_Go (bd_cnt m 8) (bd_cnt m e) b b' → xd_B m b' ab' → post 1 (fb, fp, as, ab', al, af)) :
    ∀ i, i < 8 → (∀ j, bd_cnt m (i + 1) ≤ j → j < bd_cnt m e → b j = bd_mx b j) → wX_nextGrouping_3 post (nI m) (nI l) fb fp as ab al af (i + 1) (nI i) := by
  have he8 : bd_cnt m e ≤ bd_cnt m 8 := bd_cnt_mono' (by omega)
  intro i
  induction i with
  | zero =>
    intro _ hmx
    refine br_t (nI_le (Nat.le_refl 0) (by decide)) (h0 (bd_fin he8 (fun j hj => ?_)))
    by_cases hj0 : j = 0
    · subst hj0
      have := hB.1 0 (by omega)
      have z : bd_mx b 0 = 0 := rfl
      omega
    · have := bd_cnt_le m (0 + 1)
      exact hmx j (by omega) hj
  | succ i ih =>
    intro hi hmx
    refine br_f (nI_nle (by omega) (by omega)) (pk_lt l (i + 1) (fun z => nm_r (pk_m1 i) (ih (by omega) (fun j hj hj2 => ?_))) (fun z => xd_isIn hm hi (fun h => nm_r (pk_m1 i) (ih (by omega) (fun j hj hj2 => hmx j ?_ hj2))) (fun h => ⟨xd_in hi, xd_bb (i + 1) hm (by omega) hB ?_⟩)))
    · have := bd_cnt_mono' (m := m) (i := e) (j := i + 1) (by omega)
      omega
    · rw [bd_cnt_s0 h]; exact hj
    · obtain ⟨g1, g2, g3, g4⟩ := xd_bd hB hi h
      have e1 : ab (nI (i + 1)).toNatClampNeg = nI (b (bd_cnt m (i + 1))) := by rw [xd_cl (by omega)]; exact hB.2 (i + 1) hi h
      refine pk_le (bd_mx b (bd_cnt m (i + 1))) (b (bd_cnt m (i + 1))) (fun y => nm_r (pk_m1 i) (ih (by omega) (fun j hj hj2 => ?_))) (fun y => ⟨xd_in hi, xd_in hi, nm_r (e' := upd ab (i + 1) (nI (b (bd_cnt m (i + 1)) + 1))) (by rw [e1, xd_cl (by omega), nI_1]) (nm_r (nI_1 (i + 1)) ⟨_, xd_ng50 (8 - (i + 1 + 1)) (i + 1 + 1) _ (by omega) (fun ab' k1 k2 => ?_)⟩)⟩) (hy := e1)
      · by_cases hjj : j = bd_cnt m (i + 1)
        · subst hjj; omega
        · exact hmx j (by rw [bd_cnt_s1 h]; omega) hj2
      · have hke : bd_cnt m (i + 1) < bd_cnt m e := bd_cnt_lt h (by omega)
        have hgo : bd_Go (bd_cnt m 8) (bd_cnt m e) b (bd_nx b (bd_cnt m (i + 1))) := bd_go hB.1 hke he8 y (fun j hj hj2 => hmx j (by rw [bd_cnt_s1 h]; omega) hj2)
        refine h1 _ ab' hgo ⟨hgo.1, fun j hj hbj => ?_⟩
        by_cases hj1 : j < i + 1
        · rw [k1 j (by omega), pk_un (by omega), bd_nx_lo (bd_cnt_lt hbj hj1)]; exact hB.2 j hj hbj
        · by_cases hj3 : j = i + 1
          · subst hj3; rw [k1 (i + 1) (by omega), bd_nx_at]; exact pk_us
          · rw [k2 j (by omega) hj, bd_nx_hi (bd_cnt_lt h (by omega))]; rfl
theorem xd_ng {post : Int32 → SX → Prop} {m : Nat} (l e : Nat) (hm : m < 256) (he : (l < 8 ∧ e = l + 1) ∨ (l = 8 ∧ e = 8)) {b : Nat → Nat} {fb fp : Int32} {as ab al af : Nat → Int32} (hB : xd_B m b ab)
    (h0 : bd_Fin (bd_cnt m 8) (bd_cnt m e) b → post 0 (fb, fp, as, ab, al, af))
    (h1 : ∀ b' ab', bd_Go (bd_cnt m 8) (bd_cnt m e) b b' → xd_B m b' ab' → post 1 (fb, fp, as, ab', al, af)) : wpX_nextGrouping post (fb, fp, as, ab, al, af) (nI m) (nI l) :=
  ⟨8, xd_ng3 hm (by omega) he hB h0 h1 7 (by omega) (fun j hj hj2 => by
    have := bd_cnt_mono' (m := m) (i := e) (j := 7 + 1) (by omega)
    omega)⟩
end
section
/-! what the searches look for -/
def bd_Sp (n : Nat) (w : Nat → Nat) (R v M : Nat) : Prop := (∀ c, bd_neat c n → bd_fit c w n R → bd_mx c n = v → ∀ d, d < v → R ≤ M + bd_ld c w d n) ∧ (M = 0 ∨ ∃ c d, bd_neat c n ∧ bd_fit c w n R ∧ bd_mx c n = v ∧ d < v ∧ bd_ld c w d n + M = R)
theorem bd_Sp_le {n : Nat} {w : Nat → Nat} {R v M M' : Nat} (h : bd_Sp n w R v M) (h' : bd_Sp n w R v M') : M' ≤ M := by
  rcases h'.2 with z | ⟨c, d, h1, h2, h3, h4, h5⟩
  · omega
  · have := h.1 c h1 h2 h3 d h4
    omega
theorem bd_Sp_one {n : Nat} {w : Nat → Nat} {R v M M' : Nat} (h : bd_Sp n w R v M) (h' : bd_Sp n w R v M') : M' = M :=
  Nat.le_antisymm (bd_Sp_le h h') (bd_Sp_le h' h)
def bd_Z (n : Nat) (w : Nat → Nat) (q v : Nat) : Prop := (∀ c, bd_neat c n → bd_mx c n ≤ q → ∃ d, v ≤ bd_ld c w d n) ∧ ∃ c, bd_neat c n ∧ bd_mx c n ≤ q ∧ bd_fit c w n v
theorem bd_Z_le {n : Nat} {w : Nat → Nat} {q v v' : Nat} (h : bd_Z n w q v) (h' : bd_Z n w q v') : v' ≤ v := by
  obtain ⟨c, h1, h2, h3⟩ := h.2
  obtain ⟨d, hd⟩ := h'.1 c h1 h2
  exact Nat.le_trans hd (h3 d)
theorem bd_Z_one {n : Nat} {w : Nat → Nat} {q v v' : Nat} (h : bd_Z n w q v) (h' : bd_Z n w q v') : v' = v :=
  Nat.le_antisymm (bd_Z_le h h') (bd_Z_le h' h)
def bd_T (n : Nat) (w : Nat → Nat) (R v k l : Nat) : Prop := ∃ c, bd_neat c n ∧ bd_fit c w n R ∧ bd_mx c n = v ∧ c k = c l
theorem bd_surj {m : Nat} : ∀ N k, k < bd_cnt m N → ∃ i, i < N ∧ m.testBit i = true ∧ bd_cnt m i = k := by
  intro N
  induction N with
  | zero => exact fun k h => absurd h (Nat.not_lt_zero _)
  | succ N ih =>
    intro k h
    cases hb : m.testBit N
    · rw [bd_cnt_s0 hb] at h
      obtain ⟨i, h1, h2⟩ := ih k h
      exact ⟨i, by omega, h2⟩
    · rw [bd_cnt_s1 hb] at h
      by_cases hk : k = bd_cnt m N
      · exact ⟨N, by omega, hb, hk.symm⟩
      · obtain ⟨i, h1, h2⟩ := ih k (by omega)
        exact ⟨i, by omega, h2⟩
theorem xd_burst {m i R : Nat} {b c w : Nat → Nat} (hi : i < 8) (h : m.testBit i = true) (hg : R < bd_ld b w (b (bd_cnt m i)) (bd_cnt m i + 1)) (ha : ∀ j, j < bd_cnt m (i + 1) → c j = b j) : R < bd_ld c w (b (bd_cnt m i)) (bd_cnt m 8) := by
  rw [bd_cnt_s1 h] at ha
  rw [← bd_ld_cg _ ha] at hg
  exact Nat.lt_of_lt_of_le hg (bd_ld_mono (bd_cnt_lt h hi))
/-! packFirst -/
def xd_I (m : Nat) (w : Nat → Nat) (R v : Nat) (af : Nat → Int32) : Prop := v = 9 ∨ ∃ f, bd_F (bd_cnt m 8) w R v f ∧ ∀ i, i < 8 → m.testBit i = true → af i = nI (f (bd_cnt m i))
theorem xd_pf12 {post : Int32 → SX → Prop} {m R : Nat} (hm : m < 256) (hR : R ≤ 60) {w : Nat → Nat} {fp : Int32} {as : Nat → Int32} (hW : xd_W m w as)
    (hp : ∀ v ab al af, v ≤ 9 → (∀ c, bd_neat c (bd_cnt m 8) → bd_fit c w (bd_cnt m 8) R → v ≤ bd_mx c (bd_cnt m 8)) → xd_I m w R v af → post (nI v) (nI R, fp, as, ab, al, af)) :
    ∀ d t v b ab al af, t ≤ bd_S b (bd_cnt m 8) (bd_cnt m 8) → 4141 ≤ bd_S b (bd_cnt m 8) (bd_cnt m 8) + d → xd_B m b ab → v ≤ 9 →
      (∀ c, bd_neat c (bd_cnt m 8) → bd_fit c w (bd_cnt m 8) R → bd_lt c b (bd_cnt m 8) → v ≤ bd_mx c (bd_cnt m 8)) → xd_I m w R v af →
      wX_packFirst_12 post (nI m) (d + 1) (nI v) 1 (nI t) (nI R) fp as ab al af := by
  intro d
  induction d with
  | zero =>
    intro t v b ab al af ht hd hB
    have hS := bd_S_lt hB.1 (xd_le8 m)
    omega
  | succ d ih =>
    intro t v b ab al af ht hd hB hv hlow hI
    have hS := bd_S_lt hB.1 (xd_le8 m)
    have ht2 : ¬ (1000000 : Int32) ≤ nI t := nI_ge (b := 1000000) (by omega) (by decide)
    have hmx := xd_mxle hB (Nat.le_refl 8)
    have T : ∀ l e v' al' af', ((l < 8 ∧ e = l + 1) ∨ (l = 8 ∧ e = 8)) → v' ≤ 9 →
        (∀ c, bd_neat c (bd_cnt m 8) → bd_fit c w (bd_cnt m 8) R → (bd_lt c b (bd_cnt m 8) ∨ ∀ i, i < bd_cnt m e → c i = b i) → v' ≤ bd_mx c (bd_cnt m 8)) → xd_I m w R v' af' →
        wX_packFirst_63 post (wX_packFirst_12 post (nI m) (d + 1)) (nI m) (nI v') (nI t) (nI l) (nI R) fp as ab al' af' := by
      intro l e v' al' af' he hv' hall hI'
      exact xd_ng l e hm he hB (fun hfin x _ => br_t rfl (hp v' ab al' af' hv' (fun c hc hf => hall c hc hf (hfin c hc)) hI'))
        (fun b' ab' hgo hB' => nm_r (nI_1 t) (ih (t + 1) v' b' ab' al' af' (by have := hgo.2.1; omega) (by have := hgo.2.1; omega) hB' hv' (fun c hc hf hl => hall c hc hf (hgo.2.2 c hc hl)) hI'))
    refine br_f (by decide) (br_f ht2 (xd_fb hm (by omega) hB hW (fun al' hL hF => br_t rfl (xd_bb 8 hm (by omega) hB ?_)) (fun al' i hi hb hgt => br_f (xd_ne8 i hi) ?_)))
    · refine pk_le v (bd_mx b (bd_cnt m 8)) (fun z => ?_) (fun z => xd_kf (fun af' hk => ?_))
      · exact T 8 8 v al' af (Or.inr ⟨rfl, rfl⟩) hv (fun c hc hf h => h.elim (hlow c hc hf) (fun ha => by rw [bd_mx_cg _ ha]; exact z)) hI
      · exact T 8 8 (bd_mx b (bd_cnt m 8)) al' af' (Or.inr ⟨rfl, rfl⟩) (by omega)
          (fun c hc hf h => h.elim (fun hl => by have := hlow c hc hf hl; omega) (fun ha => by rw [bd_mx_cg _ ha]; exact Nat.le_refl _))
          (Or.inr ⟨b, ⟨hB.1, hF, rfl, fun c hc hf hl => by have := hlow c hc hf hl; omega⟩, fun i hi hb => by rw [hk i hi]; exact hB.2 i hi hb⟩)
    · exact T i (i + 1) v al' af (Or.inl ⟨hi, rfl⟩) hv (fun c hc hf h => h.elim (hlow c hc hf) (fun ha => absurd (hf (b (bd_cnt m i))) (by have := xd_burst hi hb hgt ha; omega))) hI
theorem xd_pf {post : Int32 → SX → Prop} {m R : Nat} (hm : m < 256) (hR : R ≤ 60) {w : Nat → Nat} {fp : Int32} {as ab al af : Nat → Int32} (hW : xd_W m w as) (hwR : ∀ k, w k ≤ R)
    (hp : ∀ v ab al af, bd_L (bd_cnt m 8) w R v → (∃ f, bd_F (bd_cnt m 8) w R v f ∧ ∀ i, i < 8 → m.testBit i = true → af i = nI (f (bd_cnt m i))) → post (nI v) (nI R, fp, as, ab, al, af)) :
    wpX_packFirst post (nI R, fp, as, ab, al, af) (nI m) := by
  refine xd_sg (fun ab hz => ⟨_, xd_pf12 hm hR hW (fun v ab al af hv hlow hI => ?_) 4141 0 9 (fun _ => 0) ab al af (Nat.zero_le _) (Nat.le_add_left _ _) ⟨bd_zero_neat _, fun i hi _ => hz i hi⟩ (Nat.le_refl _) (fun c _ _ hl => absurd hl bd_zero_lt) (Or.inl rfl)⟩)
  rcases hI with h9 | ⟨f, hf, hfa⟩
  · have h1 := hlow _ (bd_id_neat (bd_cnt m 8)) (bd_id_fit hwR)
    rw [bd_id_mx] at h1
    have := xd_le8 m
    omega
  · exact hp v ab al af ⟨hlow, f, hf.1, hf.2.1, hf.2.2.1⟩ ⟨f, hf, hfa⟩
/-! lightest, heaviest -/
theorem xd_li9 {post : Int32 → Prop} {fb fp : Int32} {as ab al af : Nat → Int32} {L : Nat → Nat} {k : Nat} (hk : k ≤ 8) (hL : ∀ c, c < 8 → al c = nI (L c)) (hb : ∀ c, L c ≤ 480)
    (hp : ∀ M, (∀ c, c < k → M ≤ L c) → (∃ c, c < k ∧ L c = M) → post (nI M)) :
    ∀ d i M, i + d = k → (∀ c, c < i → M ≤ L c) → (∃ c, c < i ∧ L c = M) → wX_lightest_9 post (nI k) fb fp as ab al af (d + 1) (nI M) (nI i) := by
  intro d
  induction d with
  | zero =>
    intro i M hi h1 h2
    obtain rfl : i = k := by omega
    exact br_t (nI_le (Nat.le_refl _) (by omega)) (hp M h1 h2)
  | succ d ih =>
    intro i M hi h1 h2
    have h8 : i < 8 := by omega
    have e1 : al (nI i).toNatClampNeg = nI (L i) := by rw [xd_cl (by omega)]; exact hL i h8
    have b1 := hb i
    have b2 : M ≤ 480 := by obtain ⟨c, _, rfl⟩ := h2; exact hb c
    refine br_f (nI_ge (by omega) (by omega)) ⟨xd_in h8, pk_le M (L i) (fun z => nm_r (nI_1 i) (ih (i + 1) M (by omega) ?_ ?_)) (fun z => ⟨xd_in h8, nm_r e1 (nm_r (nI_1 i) (ih (i + 1) (L i) (by omega) ?_ ?_))⟩) (hy := e1)⟩
    · intro c hc
      by_cases hc2 : c = i
      · subst hc2; exact z
      · exact h1 c (by omega)
    · obtain ⟨c, hc, e⟩ := h2
      exact ⟨c, by omega, e⟩
    · intro c hc
      by_cases hc2 : c = i
      · subst hc2; exact Nat.le_refl _
      · have := h1 c (by omega); omega
    · exact ⟨i, by omega, rfl⟩
theorem xd_li {post : Int32 → Prop} {fb fp : Int32} {as ab al af : Nat → Int32} {L : Nat → Nat} {k : Nat} (hk0 : 0 < k) (hk : k ≤ 8) (hL : ∀ c, c < 8 → al c = nI (L c)) (hb : ∀ c, L c ≤ 480)
    (hp : ∀ M, (∀ c, c < k → M ≤ L c) → (∃ c, c < k ∧ L c = M) → post (nI M)) : wpX_lightest post (fb, fp, as, ab, al, af) (nI k) :=
  nm_r (hL 0 (by omega)) ⟨_, xd_li9 hk hL hb hp (k - 1) 1 (L 0) (by omega) (fun c hc => by obtain rfl : c = 0 := by omega
                                                                                           exact Nat.le_refl _) ⟨0, by omega, rfl⟩⟩
theorem xd_he9 {post : Int32 → Prop} {fb fp : Int32} {as ab al af : Nat → Int32} {L : Nat → Nat} (hL : ∀ c, c < 8 → al c = nI (L c)) (hb : ∀ c, L c ≤ 480)
    (hp : ∀ M, (∀ c, c < 8 → L c ≤ M) → (∃ c, c < 8 ∧ L c = M) → post (nI M)) :
    ∀ d i M, i + d = 8 → (∀ c, c < i → L c ≤ M) → (∃ c, c < i ∧ L c = M) → wX_heaviest_9 post fb fp as ab al af (d + 1) (nI M) (nI i) := by
  intro d
  induction d with
  | zero =>
    intro i M hi h1 h2
    obtain rfl : i = 8 := by omega
    exact br_t xd_88 (hp M h1 h2)
  | succ d ih =>
    intro i M hi h1 h2
    have h8 : i < 8 := by omega
    have e1 : al (nI i).toNatClampNeg = nI (L i) := by rw [xd_cl (by omega)]; exact hL i h8
    have b1 := hb i
    have b2 : M ≤ 480 := by obtain ⟨c, _, rfl⟩ := h2; exact hb c
    refine br_f (xd_ge8 i h8) ⟨xd_in h8, pk_le (L i) M (fun z => nm_r (nI_1 i) (ih (i + 1) M (by omega) ?_ ?_)) (fun z => ⟨xd_in h8, nm_r e1 (nm_r (nI_1 i) (ih (i + 1) (L i) (by omega) ?_ ?_))⟩) (hx := e1)⟩
    · intro c hc
      by_cases hc2 : c = i
      · subst hc2; exact z
      · exact h1 c (by omega)
    · obtain ⟨c, hc, e⟩ := h2
      exact ⟨c, by omega, e⟩
    · intro c hc
      by_cases hc2 : c = i
      · subst hc2; exact Nat.le_refl _
      · have := h1 c (by omega); omega
    · exact ⟨i, by omega, rfl⟩
theorem xd_he {post : Int32 → Prop} {fb fp : Int32} {as ab al af : Nat → Int32} {L : Nat → Nat} (hL : ∀ c, c < 8 → al c = nI (L c)) (hb : ∀ c, L c ≤ 480)
    (hp : ∀ M, (∀ c, c < 8 → L c ≤ M) → (∃ c, c < 8 ∧ L c = M) → post (nI M)) : wpX_heaviest post (fb, fp, as, ab, al, af) :=
  nm_r (hL 0 (by omega)) ⟨_, xd_he9 hL hb hp 7 1 (L 0) (by omega) (fun c hc => by obtain rfl : c = 0 := by omega
                                                                                  exact Nat.le_refl _) ⟨0, by omega, rfl⟩⟩
theorem xd_ld480 {m : Nat} {b w : Nat → Nat} {as : Nat → Int32} (hW : xd_W m w as) (c : Nat) : bd_ld b w c (bd_cnt m 8) ≤ 480 := by
  have h1 := bd_ld_le (b := b) (c := c) hW.1 (bd_cnt m 8)
  have h2 := xd_le8 m
  omega
/-! spare -/
theorem xd_sp28 {post : Int32 → SX → Prop} {m R v : Nat} (hm : m < 256) (hR : R ≤ 60) (hv0 : 0 < v) (hv : v ≤ 8) {w : Nat → Nat} {as : Nat → Int32} (hW : xd_W m w as)
    (hp : ∀ M ab al af, bd_Sp (bd_cnt m 8) w R v M → post (nI M) (nI R, nI m, as, ab, al, af)) :
    ∀ d t M b ab al af, t ≤ bd_S b (bd_cnt m 8) (bd_cnt m 8) → 4141 ≤ bd_S b (bd_cnt m 8) (bd_cnt m 8) + d → xd_B m b ab →
      (∀ c, bd_neat c (bd_cnt m 8) → bd_fit c w (bd_cnt m 8) R → bd_mx c (bd_cnt m 8) = v → bd_lt c b (bd_cnt m 8) → ∀ e, e < v → R ≤ M + bd_ld c w e (bd_cnt m 8)) →
      (M = 0 ∨ ∃ c e, bd_neat c (bd_cnt m 8) ∧ bd_fit c w (bd_cnt m 8) R ∧ bd_mx c (bd_cnt m 8) = v ∧ e < v ∧ bd_ld c w e (bd_cnt m 8) + M = R) →
      wX_spare_28 post (nI v) (d + 1) (nI M) 1 (nI t) (nI R) (nI m) as ab al af := by
  intro d
  induction d with
  | zero =>
    intro t M b ab al af ht hd hB
    have hS := bd_S_lt hB.1 (xd_le8 m)
    omega
  | succ d ih =>
    intro t M b ab al af ht hd hB hlow hI
    have hS := bd_S_lt hB.1 (xd_le8 m)
    have ht2 : ¬ (1000000 : Int32) ≤ nI t := nI_ge (b := 1000000) (by omega) (by decide)
    have hmx := xd_mxle hB (Nat.le_refl 8)
    have hM : M ≤ 60 := by
      rcases hI with z | ⟨c, e, _, _, _, _, z⟩
      · omega
      · omega
    have T : ∀ l e M' al', ((l < 8 ∧ e = l + 1) ∨ (l = 8 ∧ e = 8)) →
        (∀ c, bd_neat c (bd_cnt m 8) → bd_fit c w (bd_cnt m 8) R → bd_mx c (bd_cnt m 8) = v → (bd_lt c b (bd_cnt m 8) ∨ ∀ i, i < bd_cnt m e → c i = b i) → ∀ e, e < v → R ≤ M' + bd_ld c w e (bd_cnt m 8)) →
        (M' = 0 ∨ ∃ c e, bd_neat c (bd_cnt m 8) ∧ bd_fit c w (bd_cnt m 8) R ∧ bd_mx c (bd_cnt m 8) = v ∧ e < v ∧ bd_ld c w e (bd_cnt m 8) + M' = R) →
        wX_spare_99 post (wX_spare_28 post (nI v) (d + 1)) (nI v) (nI M') (nI t) (nI l) (nI R) (nI m) as ab al' af := by
      intro l e M' al' he hall hI'
      exact xd_ng l e hm he hB (fun hfin x _ => br_t rfl (hp M' ab al' af ⟨fun c hc hf hx => hall c hc hf hx (hfin c hc), hI'⟩))
        (fun b' ab' hgo hB' => nm_r (nI_1 t) (ih (t + 1) M' b' ab' al' af (by have := hgo.2.1; omega) (by have := hgo.2.1; omega) hB' (fun c hc hf hx hl => hall c hc hf hx (hgo.2.2 c hc hl)) hI'))
    refine br_f (by decide) (br_f ht2 (xd_fb hm (by omega) hB hW (fun al' hL hF => br_t rfl (xd_bb 8 hm (by omega) hB ?_)) (fun al' i hi hb hgt => br_f (xd_ne8 i hi) ?_)))
    · refine pk_eq (bd_mx b (bd_cnt m 8)) v (fun z => xd_li hv0 hv hL (xd_ld480 hW) (fun q hq1 hq2 => ?_)) (fun z => ?_)
      · have hqR : q ≤ R := by obtain ⟨c, _, rfl⟩ := hq2; exact hF c
        refine nm_r (e' := nI (R - q)) (pk_sub hqR) (pk_le (R - q) M (fun y => ?_) (fun y => ?_))
        · exact T 8 8 M al' (Or.inr ⟨rfl, rfl⟩) (fun c hc hf hx h => h.elim (hlow c hc hf hx) (fun ha e he => by rw [bd_ld_cg _ ha]; have := hq1 e he; omega)) hI
        · refine T 8 8 (R - q) al' (Or.inr ⟨rfl, rfl⟩) (fun c hc hf hx h => h.elim (fun hl e he => by have := hlow c hc hf hx hl e he; omega) (fun ha e he => by rw [bd_ld_cg _ ha]; have := hq1 e he; omega)) (Or.inr ?_)
          obtain ⟨c, hc, e⟩ := hq2
          exact ⟨b, c, hB.1, hF, z, hc, by omega⟩
      · exact T 8 8 M al' (Or.inr ⟨rfl, rfl⟩) (fun c hc hf hx h => h.elim (hlow c hc hf hx) (fun ha => absurd hx (by rw [bd_mx_cg _ ha]; exact z))) hI
    · exact T i (i + 1) M al' (Or.inl ⟨hi, rfl⟩) (fun c hc hf hx h => h.elim (hlow c hc hf hx) (fun ha => absurd (hf (b (bd_cnt m i))) (by have := xd_burst hi hb hgt ha; omega))) hI
/-! sizeFor -/
theorem xd_sf33 {post : Int32 → SX → Prop} {m q : Nat} (hm : m < 256) (hq : q ≤ 8) {w : Nat → Nat} {fb : Int32} {as : Nat → Int32} (hW : xd_W m w as) (hn : 0 < bd_cnt m 8) (hw0 : 1 ≤ w 0)
    (hp : ∀ v ab al af, v ≤ 481 → (∀ c, bd_neat c (bd_cnt m 8) → bd_mx c (bd_cnt m 8) ≤ q → ∃ e, v ≤ bd_ld c w e (bd_cnt m 8)) →
      (v = 481 ∨ ∃ c, bd_neat c (bd_cnt m 8) ∧ bd_mx c (bd_cnt m 8) ≤ q ∧ bd_fit c w (bd_cnt m 8) v) → post (nI v) (fb, nI m, as, ab, al, af)) :
    ∀ d t v b ab al af, t ≤ bd_S b (bd_cnt m 8) (bd_cnt m 8) → 4141 ≤ bd_S b (bd_cnt m 8) (bd_cnt m 8) + d → xd_B m b ab → 1 ≤ v → v ≤ 481 →
      (∀ c, bd_neat c (bd_cnt m 8) → bd_mx c (bd_cnt m 8) ≤ q → bd_lt c b (bd_cnt m 8) → ∃ e, v ≤ bd_ld c w e (bd_cnt m 8)) →
      (v = 481 ∨ ∃ c, bd_neat c (bd_cnt m 8) ∧ bd_mx c (bd_cnt m 8) ≤ q ∧ bd_fit c w (bd_cnt m 8) v) →
      wX_sizeFor_33 post (nI q) (d + 1) (nI v) 1 (nI t) fb (nI m) as ab al af := by
  intro d
  induction d with
  | zero =>
    intro t v b ab al af ht hd hB
    have hS := bd_S_lt hB.1 (xd_le8 m)
    omega
  | succ d ih =>
    intro t v b ab al af ht hd hB hv1 hv2 hlow hI
    have hS := bd_S_lt hB.1 (xd_le8 m)
    have ht2 : ¬ (1000000 : Int32) ≤ nI t := nI_ge (b := 1000000) (by omega) (by decide)
    have hmx := xd_mxle hB (Nat.le_refl 8)
    have T : ∀ l e v' al', ((l < 8 ∧ e = l + 1) ∨ (l = 8 ∧ e = 8)) → 1 ≤ v' → v' ≤ 481 →
        (∀ c, bd_neat c (bd_cnt m 8) → bd_mx c (bd_cnt m 8) ≤ q → (bd_lt c b (bd_cnt m 8) ∨ ∀ i, i < bd_cnt m e → c i = b i) → ∃ e, v' ≤ bd_ld c w e (bd_cnt m 8)) →
        (v' = 481 ∨ ∃ c, bd_neat c (bd_cnt m 8) ∧ bd_mx c (bd_cnt m 8) ≤ q ∧ bd_fit c w (bd_cnt m 8) v') →
        wX_sizeFor_83 post (wX_sizeFor_33 post (nI q) (d + 1)) (nI q) (nI v') (nI t) (nI l) fb (nI m) as ab al' af := by
      intro l e v' al' he h1 h2 hall hI'
      exact xd_ng l e hm he hB (fun hfin x _ => br_t rfl (hp v' ab al' af h2 (fun c hc hx => hall c hc hx (hfin c hc)) hI'))
        (fun b' ab' hgo hB' => nm_r (nI_1 t) (ih (t + 1) v' b' ab' al' af (by have := hgo.2.1; omega) (by have := hgo.2.1; omega) hB' h1 h2 (fun c hc hx hl => hall c hc hx (hgo.2.2 c hc hl)) hI'))
    have ev : nI v - 1 = nI (v - 1) := pk_sub (b := 1) hv1
    refine br_f (by decide) (br_f ht2 ?_)
    rw [ev]
    refine xd_fb hm (by omega) hB hW (fun al' hL hF => br_t rfl (xd_bb 8 hm (by omega) hB ?_)) (fun al' i hi hb hgt => br_f (xd_ne8 i hi) ?_)
    · refine pk_lt q (bd_mx b (bd_cnt m 8)) (fun z => ?_) (fun z => xd_he hL (xd_ld480 hW) (fun M h1 h2 => ?_))
      · exact T 8 8 v al' (Or.inr ⟨rfl, rfl⟩) hv1 hv2 (fun c hc hx h => h.elim (hlow c hc hx) (fun ha => absurd hx (by rw [bd_mx_cg _ ha]; omega))) hI
      · obtain ⟨c0, hc0, e0⟩ := h2
        have hMv : M ≤ v - 1 := by rw [← e0]; exact hF c0
        have hM1 : 1 ≤ M := by
          have k1 := h1 (b 0) (by have := bd_b_le hB.1 hn; omega)
          have k2 : bd_ld b w (b 0) (0 + 1) ≤ bd_ld b w (b 0) (bd_cnt m 8) := bd_ld_mono hn
          have k3 : bd_ld b w (b 0) (0 + 1) = bd_ld b w (b 0) 0 + w 0 := bd_ld_s1 rfl
          omega
        refine T 8 8 M al' (Or.inr ⟨rfl, rfl⟩) hM1 (by omega) (fun c hc hx h => h.elim (fun hl => ?_) (fun ha => ⟨c0, by rw [bd_ld_cg _ ha, e0]; exact Nat.le_refl _⟩)) (Or.inr ⟨b, hB.1, z, fun c => ?_⟩)
        · obtain ⟨e, he⟩ := hlow c hc hx hl
          exact ⟨e, by omega⟩
        · by_cases hc : c < 8
          · exact h1 c hc
          · rw [bd_ld_zero _ (by omega)]; exact Nat.zero_le _
    · exact T i (i + 1) v al' (Or.inl ⟨hi, rfl⟩) hv1 hv2 (fun c hc hx h => h.elim (hlow c hc hx) (fun ha => ⟨b (bd_cnt m i), by have := xd_burst hi hb hgt ha; omega⟩)) hI
/-! together -/
theorem xd_tg42 {post : Int32 → SX → Prop} {m R v i j : Nat} (hm : m < 256) (hR : R ≤ 60) (hv : v ≤ 8) (hi : i < 8) (hj : j < 8) (hbi : m.testBit i = true) (hbj : m.testBit j = true) {w : Nat → Nat} {as : Nat → Int32} (hW : xd_W m w as)
    (hp1 : ∀ ab al af, bd_T (bd_cnt m 8) w R v (bd_cnt m i) (bd_cnt m j) → post 1 (nI R, nI m, as, ab, al, af))
    (hp0 : ∀ ab al af, ¬ bd_T (bd_cnt m 8) w R v (bd_cnt m i) (bd_cnt m j) → post 0 (nI R, nI m, as, ab, al, af)) :
    ∀ d t b ab al af, t ≤ bd_S b (bd_cnt m 8) (bd_cnt m 8) → 4141 ≤ bd_S b (bd_cnt m 8) (bd_cnt m 8) + d → xd_B m b ab →
      (∀ c, bd_neat c (bd_cnt m 8) → bd_fit c w (bd_cnt m 8) R → bd_mx c (bd_cnt m 8) = v → bd_lt c b (bd_cnt m 8) → ¬ c (bd_cnt m i) = c (bd_cnt m j)) →
      wX_together_42 post (nI i) (nI j) (nI v) (d + 1) 1 (nI t) (nI R) (nI m) as ab al af := by
  intro d
  induction d with
  | zero =>
    intro t b ab al af ht hd hB
    have hS := bd_S_lt hB.1 (xd_le8 m)
    omega
  | succ d ih =>
    intro t b ab al af ht hd hB hlow
    have hS := bd_S_lt hB.1 (xd_le8 m)
    have ht2 : ¬ (1000000 : Int32) ≤ nI t := nI_ge (b := 1000000) (by omega) (by decide)
    have hmx := xd_mxle hB (Nat.le_refl 8)
    obtain ⟨i1, i2, i3, i4⟩ := xd_bd hB hi hbi
    obtain ⟨j1, j2, j3, j4⟩ := xd_bd hB hj hbj
    have ei : ab (nI i).toNatClampNeg = nI (b (bd_cnt m i)) := by rw [xd_cl (by omega)]; exact hB.2 i hi hbi
    have ej : ab (nI j).toNatClampNeg = nI (b (bd_cnt m j)) := by rw [xd_cl (by omega)]; exact hB.2 j hj hbj
    have T : ∀ l e al', ((l < 8 ∧ e = l + 1) ∨ (l = 8 ∧ e = 8)) →
        (∀ c, bd_neat c (bd_cnt m 8) → bd_fit c w (bd_cnt m 8) R → bd_mx c (bd_cnt m 8) = v → (bd_lt c b (bd_cnt m 8) ∨ ∀ i, i < bd_cnt m e → c i = b i) → ¬ c (bd_cnt m i) = c (bd_cnt m j)) →
        wX_together_106 post (wX_together_42 post (nI i) (nI j) (nI v) (d + 1)) (nI i) (nI j) (nI v) (nI t) (nI l) (nI R) (nI m) as ab al' af := by
      intro l e al' he hall
      exact xd_ng l e hm he hB (fun hfin x _ => br_t rfl (hp0 ab al' af (fun ⟨c, hc, hf, hx, hs⟩ => hall c hc hf hx (hfin c hc) hs)))
        (fun b' ab' hgo hB' => nm_r (nI_1 t) (ih (t + 1) b' ab' al' af (by have := hgo.2.1; omega) (by have := hgo.2.1; omega) hB' (fun c hc hf hx hl => hall c hc hf hx (hgo.2.2 c hc hl))))
    refine br_f (by decide) (br_f ht2 (xd_fb hm (by omega) hB hW (fun al' hL hF => br_t rfl ⟨xd_in hi, xd_in hj, ?_⟩) (fun al' i hi hb hgt => br_f (xd_ne8 i hi) ?_)))
    · refine pk_eq (b (bd_cnt m i)) (b (bd_cnt m j)) (fun z => xd_bb 8 hm (by omega) hB (pk_eq (bd_mx b (bd_cnt m 8)) v (fun y => ?_) (fun y => ?_))) (fun z => ?_) (hx := ei) (hy := ej)
      · exact hp1 ab al' af ⟨b, hB.1, hF, y, z⟩
      · exact T 8 8 al' (Or.inr ⟨rfl, rfl⟩) (fun c hc hf hx h => h.elim (hlow c hc hf hx) (fun ha => absurd hx (by rw [bd_mx_cg _ ha]; exact y)))
      · exact T 8 8 al' (Or.inr ⟨rfl, rfl⟩) (fun c hc hf hx h => h.elim (hlow c hc hf hx) (fun ha => by rw [ha _ i4, ha _ j4]; exact z))
    · exact T i (i + 1) al' (Or.inl ⟨hi, rfl⟩) (fun c hc hf hx h => h.elim (hlow c hc hf hx) (fun ha => absurd (hf (b (bd_cnt m i))) (by have := xd_burst hi hb hgt ha; omega)))
end
section
/-! the reference's private methods -/
def yd_Z (m : Nat) (s : Nat → Nat) (as : Nat → Int32) : Prop := ∀ i, i < 8 → as i = nI (s i) ∧ s i ≤ 60 ∧ m.testBit i = decide (0 < s i)
theorem yd_is {post : Int32 → Prop} {m i : Nat} {s : Nat → Nat} {fr fn : Int32} {as ai ab : Nat → Int32} (hZ : yd_Z m s as) (hi : i < 8) (h0 : m.testBit i = false → post 0) (h1 : m.testBit i = true → post 1) : wpY_is post (fr, fn, as, ai, ab) (nI i) := by
  obtain ⟨z1, z2, z3⟩ := hZ i hi
  have e1 : as (nI i).toNatClampNeg = nI (s i) := by rw [xd_cl (by omega)]; exact z1
  refine br_f (nI_pos (by omega)) (br_f (xd_ge8 i hi) ⟨xd_in hi, pk_le (s i) 0 (fun z => h0 ?_) (fun z => h1 ?_) (hx := e1)⟩)
  · rw [z3]; exact decide_eq_false (by omega)
  · rw [z3]; exact decide_eq_true z
theorem yd_is2 {A B : Prop} {m i : Nat} {s : Nat → Nat} {fr fn : Int32} {as ai ab : Nat → Int32} (hZ : yd_Z m s as) (hi : i < 8) (f : m.testBit i = false → A) (g : m.testBit i = true → B) : wpY_is (fun r => (r = 0 → A) ∧ (¬ r = 0 → B)) (fr, fn, as, ai, ab) (nI i) :=
  yd_is hZ hi (fun h => br_t rfl (f h)) (fun h => br_f (by decide) (g h))
theorem yd_isN {post : Int32 → Prop} {m : Nat} {p : Int32} {s : Nat → Nat} {fr fn : Int32} {as ai ab : Nat → Int32} (hZ : yd_Z m s as) (hno : ∀ i, i < 8 → p = nI i → m.testBit i = false) (h0 : post 0) : wpY_is post (fr, fn, as, ai, ab) p := by
  rcases pk_ix p (n := 8) (by decide) with z | z | ⟨i, hi, rfl⟩
  · exact br_t z h0
  · exact br_c (fun _ => h0) (fun _ => br_t z h0)
  · exact yd_is hZ hi (fun _ => h0) (fun h => absurd h (by rw [hno i hi rfl]; decide))
def yd_W (n : Nat) (w : Nat → Nat) (as ai : Nat → Int32) : Prop := (∀ k, w k ≤ 60) ∧ ∀ k, k < n → ∃ i, i < 8 ∧ ai k = nI i ∧ as i = nI (w k)
def yd_B (n : Nat) (b : Nat → Nat) (ab : Nat → Int32) : Prop := bd_neat b n ∧ ∀ k, k < n → ab k = nI (b k)
theorem yd_fi7 {post : SY → Prop} {m : Nat} {s : Nat → Nat} {fr : Int32} {as : Nat → Int32} (hZ : yd_Z m s as)
    (hp : ∀ ai ab, (∀ j, j < 8 → ab j = 0) → (∀ k, k < bd_cnt m 8 → ∃ j, j < 8 ∧ m.testBit j = true ∧ bd_cnt m j = k ∧ ai k = nI j) → post (fr, nI (bd_cnt m 8), as, ai, ab)) :
    ∀ d i ai ab, i + d = 8 → (∀ j, j < i → ab j = 0) → (∀ k, k < bd_cnt m i → ∃ j, j < 8 ∧ m.testBit j = true ∧ bd_cnt m j = k ∧ ai k = nI j) → wY_first_7 post fr (d + 1) (nI i) (nI (bd_cnt m i)) as ai ab := by
  intro d
  induction d with
  | zero =>
    intro i ai ab hi h1 h2
    obtain rfl : i = 8 := by omega
    exact br_t xd_88 (hp ai ab h1 h2)
  | succ d ih =>
    intro i ai ab hi h1 h2
    have h8 : i < 8 := by omega
    have hc := bd_cnt_le m i
    have hz : ∀ j, j < i + 1 → upd ab i 0 j = 0 := by
      intro j hj
      by_cases hj2 : j = i
      · subst hj2; exact pk_us
      · rw [pk_un hj2]; exact h1 j (by omega)
    refine br_f (xd_ge8 i h8) ⟨xd_in h8, nm_r (e' := upd ab i 0) (by rw [xd_cl (by omega)]) (yd_is2 hZ h8 (fun h => nm_r (nI_1 i) ?_) (fun h => ⟨xd_in (by omega), nm_r (e' := upd ai (bd_cnt m i) (nI i)) (by rw [xd_cl (by omega)]) (nm_r (nI_1 (bd_cnt m i)) (nm_r (nI_1 i) ?_))⟩))⟩
    · have H := ih (i + 1) ai (upd ab i 0) (by omega) hz (by rw [bd_cnt_s0 h]; exact h2)
      rw [bd_cnt_s0 h] at H
      exact H
    · have H := ih (i + 1) (upd ai (bd_cnt m i) (nI i)) (upd ab i 0) (by omega) hz (by
        rw [bd_cnt_s1 h]
        intro k hk
        by_cases hk2 : k = bd_cnt m i
        · subst hk2; exact ⟨i, h8, h, rfl, pk_us⟩
        · obtain ⟨j, j1, j2, j3, j4⟩ := h2 k (by omega)
          exact ⟨j, j1, j2, j3, by rw [pk_un hk2]; exact j4⟩)
      rw [bd_cnt_s1 h] at H
      exact H
theorem yd_fi {post : SY → Prop} {m : Nat} {s w : Nat → Nat} {fr fn : Int32} {as ai ab : Nat → Int32} (hZ : yd_Z m s as) (hw : ∀ k, w k ≤ 60) (hws : ∀ i, i < 8 → m.testBit i = true → w (bd_cnt m i) = s i)
    (hp : ∀ ai ab, (∀ j, j < 8 → ab j = 0) → yd_W (bd_cnt m 8) w as ai → post (fr, nI (bd_cnt m 8), as, ai, ab)) : wpY_first post (fr, fn, as, ai, ab) :=
  ⟨9, yd_fi7 hZ (fun ai ab h1 h2 => hp ai ab h1 ⟨hw, fun k hk => by
    obtain ⟨j, j1, j2, j3, j4⟩ := h2 k hk
    exact ⟨j, j1, j4, by rw [← j3, hws j j1 j2]; exact (hZ j j1).1⟩⟩) 8 0 ai ab (by omega) (fun j hj => absurd hj (by omega)) (fun k hk => absurd hk (Nat.not_lt_zero _))⟩
/-! greatest -/
theorem yd_gle : ∀ v, v < 9 → ∀ b, b < 9 → (nI b ≤ nI v - 1 ↔ b < v) := by decide +kernel
theorem yd_glt : ∀ v, v < 9 → ∀ b, b < 9 → (nI v - 1 < nI b ↔ v ≤ b) := by decide +kernel
theorem yd_g1 (v : Nat) : nI v - 1 + 1 = nI v := Int32.sub_add_cancel _ _
theorem yd_gm (v : Nat) : nI v = nI (v + 1) - 1 := by rw [← nI_1, Int32.add_sub_cancel]
theorem yd_gr4 {post : Int32 → Prop} {n k : Nat} {b : Nat → Nat} {fr fn : Int32} {as ai ab : Nat → Int32} (hn : n ≤ 8) (hk : k ≤ n) (hB : yd_B n b ab) (hp : post (nI (bd_mx b k) - 1)) : ∀ d i, i + d = k → wY_greatest_4 post (nI k) fr fn as ai ab (d + 1) (nI (bd_mx b i) - 1) (nI i) := by
  intro d
  induction d with
  | zero =>
    intro i hi
    obtain rfl : i = k := by omega
    exact br_t (nI_le (Nat.le_refl _) (by omega)) hp
  | succ d ih =>
    intro i hi
    have h8 : i < 8 := by omega
    have e1 : ab (nI i).toNatClampNeg = nI (b i) := by rw [xd_cl (by omega)]; exact hB.2 i (by omega)
    have b1 := bd_b_le hB.1 (k := i) (by omega)
    have b2 := bd_mx_le hB.1 i (by omega)
    have H := ih (i + 1) (by omega)
    have hq := yd_gle (bd_mx b i) (by omega) (b i) (by omega)
    refine br_f (nI_ge (by omega) (by omega)) ⟨xd_in h8, br_c (fun z => nm_r (nI_1 i) ?_) (fun z => ⟨xd_in h8, nm_r (e' := nI (b i + 1) - 1) (by rw [e1]; exact yd_gm _) (nm_r (nI_1 i) ?_)⟩)⟩
    · rw [e1, hq] at z
      rw [bd_mx_s0 (by omega)] at H
      exact H
    · rw [e1, hq] at z
      rw [bd_mx_s1 (by omega)] at H
      exact H
theorem yd_gr {post : Int32 → Prop} {n : Nat} (k : Nat) {b : Nat → Nat} {fr fn : Int32} {as ai ab : Nat → Int32} (hn : n ≤ 8) (hk : k ≤ n) (hB : yd_B n b ab) (hp : post (nI (bd_mx b k) - 1)) : wpY_greatest post (fr, fn, as, ai, ab) (nI k) :=
  ⟨k + 1, yd_gr4 hn hk hB hp k 0 (by omega)⟩
/-! next -/
theorem yd_ne39 {post : Int32 → SY → Prop} {n : Nat} {fr : Int32} {as ai : Nat → Int32} (hn : n ≤ 8) : ∀ d i ab, i + d = n → (∀ ab', (∀ j, j < i → ab' j = ab j) → (∀ j, i ≤ j → j < n → ab' j = 0) → post 1 (fr, nI n, as, ai, ab')) → wY_next_39 post fr (nI n) (d + 1) (nI i) as ai ab := by
  intro d
  induction d with
  | zero =>
    intro i ab hi h
    obtain rfl : i = n := by omega
    exact br_t (nI_le (Nat.le_refl _) (by omega)) (h ab (fun _ _ => rfl) (fun j h1 h2 => absurd h1 (by omega)))
  | succ d ih =>
    intro i ab hi h
    refine br_f (nI_ge (by omega) (by omega)) ⟨xd_in (by omega), nm_r (e' := upd ab i 0) (by rw [xd_cl (by omega)]) (nm_r (nI_1 i) (ih (i + 1) _ (by omega) (fun ab' h1 h2 => h ab' (fun j hj => ?_) (fun j hj hj8 => ?_))))⟩
    · rw [h1 j (by omega), pk_un (by omega)]
    · by_cases hj2 : j = i
      · subst hj2; rw [h1 j (by omega)]; exact pk_us
      · exact h2 j (by omega) hj8
theorem yd_ne7 {post : Int32 → SY → Prop} {n : Nat} {b : Nat → Nat} {fr : Int32} {as ai ab : Nat → Int32} (hn : n ≤ 8) (hn0 : 0 < n) (hB : yd_B n b ab)
    (h0 : bd_Fin n n b → post 0 (fr, nI n, as, ai, ab))
    (h1 : ∀ b' ab', bd_Go n n b b' → yd_B n b' ab' → post 1 (fr, nI n, as, ai, ab')) :
    ∀ i, i < n → (∀ j, i < j → j < n → b j = bd_mx b j) → wY_next_7 post fr (nI n) as ai ab (i + 1) (nI i) := by
  intro i
  induction i with
  | zero =>
    intro _ hmx
    refine br_t (nI_le (Nat.le_refl 0) (by decide)) (h0 (bd_fin (Nat.le_refl _) (fun j hj => ?_)))
    by_cases hj0 : j = 0
    · subst hj0
      have := hB.1 0 hn0
      have z : bd_mx b 0 = 0 := rfl
      omega
    · exact hmx j (by omega) hj
  | succ i ih =>
    intro hi hmx
    have e1 : ab (nI (i + 1)).toNatClampNeg = nI (b (i + 1)) := by rw [xd_cl (by omega)]; exact hB.2 (i + 1) hi
    have b1 := hB.1 (i + 1) hi
    have b2 := bd_mx_le hB.1 (i + 1) (by omega)
    have hq := yd_glt (bd_mx b (i + 1)) (by omega) (b (i + 1)) (by omega)
    refine br_f (nI_nle (by omega) (by omega)) ⟨xd_in (by omega), yd_gr (i + 1) hn (by omega) hB (br_c (fun z => nm_r (pk_m1 i) (ih (by omega) (fun j hj hj2 => ?_))) (fun z => ⟨xd_in (by omega), xd_in (by omega), nm_r (e' := upd ab (i + 1) (nI (b (i + 1) + 1))) (by rw [e1, xd_cl (by omega), nI_1]) (nm_r (nI_1 (i + 1)) ⟨_, yd_ne39 hn (n - (i + 1 + 1)) (i + 1 + 1) _ (by omega) (fun ab' k1 k2 => ?_)⟩)⟩))⟩
    · rw [e1, hq] at z
      by_cases hjj : j = i + 1
      · subst hjj; omega
      · exact hmx j (by omega) hj2
    · rw [e1, hq] at z
      have hgo : bd_Go n n b (bd_nx b (i + 1)) := bd_go hB.1 hi (Nat.le_refl _) (by omega) (fun j hj hj2 => hmx j (by omega) hj2)
      refine h1 _ ab' hgo ⟨hgo.1, fun j hj => ?_⟩
      by_cases hj1 : j < i + 1
      · rw [k1 j (by omega), pk_un (by omega), bd_nx_lo hj1]; exact hB.2 j hj
      · by_cases hj3 : j = i + 1
        · subst hj3; rw [k1 (i + 1) (by omega), bd_nx_at]; exact pk_us
        · rw [k2 j (by omega) hj, bd_nx_hi (by omega)]; rfl
theorem yd_ne {post : Int32 → SY → Prop} {n : Nat} {b : Nat → Nat} {fr : Int32} {as ai ab : Nat → Int32} (hn : n ≤ 8) (hn0 : 0 < n) (hB : yd_B n b ab)
    (h0 : bd_Fin n n b → post 0 (fr, nI n, as, ai, ab))
    (h1 : ∀ b' ab', bd_Go n n b b' → yd_B n b' ab' → post 1 (fr, nI n, as, ai, ab')) : wpY_next post (fr, nI n, as, ai, ab) :=
  nm_r (e' := nI (n - 1)) (pk_sub (b := 1) hn0) ⟨_, yd_ne7 hn hn0 hB h0 h1 (n - 1) (by omega) (fun j hj hj2 => by omega)⟩
/-! load, extreme -/
theorem yd_lo4 {post : Int32 → Prop} {n c : Nat} {b w : Nat → Nat} {fr : Int32} {as ai ab : Nat → Int32} (hn : n ≤ 8) (hc : c ≤ 480) (hB : yd_B n b ab) (hW : yd_W n w as ai) (hp : post (nI (bd_ld b w c n))) : ∀ d i, i + d = n → wY_load_4 post (nI c) fr (nI n) as ai ab (d + 1) (nI (bd_ld b w c i)) (nI i) := by
  intro d
  induction d with
  | zero =>
    intro i hi
    obtain rfl : i = n := by omega
    exact br_t (nI_le (Nat.le_refl _) (by omega)) hp
  | succ d ih =>
    intro i hi
    have h8 : i < 8 := by omega
    have e1 : ab (nI i).toNatClampNeg = nI (b i) := by rw [xd_cl (by omega)]; exact hB.2 i (by omega)
    have b1 := bd_b_le hB.1 (k := i) (by omega)
    obtain ⟨j, j1, j2, j3⟩ := hW.2 i (by omega)
    have e2 : ai (nI i).toNatClampNeg = nI j := by rw [xd_cl (by omega)]; exact j2
    have v2 : vp_in (ai (nI i).toNatClampNeg) 8 := by rw [e2]; exact xd_in j1
    have H := ih (i + 1) (by omega)
    refine br_f (nI_ge (by omega) (by omega)) ⟨xd_in h8, pk_eq (b i) c (fun z => ⟨xd_in h8, v2, nm_r (e' := nI (bd_ld b w c i + w i)) (by rw [e2, xd_cl (by omega), j3, nI_add]) (nm_r (nI_1 i) ?_)⟩) (fun z => nm_r (nI_1 i) ?_) (hx := e1)⟩
    · rw [bd_ld_s1 z] at H
      exact H
    · rw [bd_ld_s0 z] at H
      exact H
theorem yd_lo {post : Int32 → Prop} {n : Nat} (c : Nat) {b w : Nat → Nat} {fr : Int32} {as ai ab : Nat → Int32} (hn : n ≤ 8) (hc : c ≤ 480) (hB : yd_B n b ab) (hW : yd_W n w as ai) (hp : post (nI (bd_ld b w c n))) : wpY_load post (fr, nI n, as, ai, ab) (nI c) :=
  ⟨n + 1, yd_lo4 hn hc hB hW hp n 0 (by omega)⟩
theorem yd_ld480 {n : Nat} {b w : Nat → Nat} {as ai : Nat → Int32} (hn : n ≤ 8) (hW : yd_W n w as ai) (c : Nat) : bd_ld b w c n ≤ 480 := by
  have h1 := bd_ld_le (b := b) (c := c) hW.1 n
  omega
theorem yd_mx1 {post : Int32 → Prop} {n : Nat} {b w : Nat → Nat} {fr : Int32} {as ai ab : Nat → Int32} (hn : n ≤ 8) (hB : yd_B n b ab) (hW : yd_W n w as ai)
    (hp : ∀ M, M ≤ 480 → (∀ c, c < bd_mx b n → bd_ld b w c n ≤ M) → (∃ c, c < bd_mx b n ∧ bd_ld b w c n = M) → post (nI M)) :
    ∀ d i M, i + d = bd_mx b n → (∀ c, c < i → bd_ld b w c n ≤ M) → (∃ c, c < i ∧ bd_ld b w c n = M) → wY_extreme_18 post 1 (nI (bd_mx b n) - 1) fr (nI n) as ai ab (d + 1) (nI M) (nI i) := by
  have hx := bd_mx_le hB.1 n (Nat.le_refl _)
  intro d
  induction d with
  | zero =>
    intro i M hi h1 h2
    obtain rfl : i = bd_mx b n := by omega
    have b2 : M ≤ 480 := by obtain ⟨c, _, rfl⟩ := h2; exact yd_ld480 hn hW c
    exact br_t ((yd_glt _ (by omega) _ (by omega)).mpr (Nat.le_refl _)) (hp M b2 h1 h2)
  | succ d ih =>
    intro i M hi h1 h2
    have b1 := yd_ld480 (b := b) hn hW i
    have b2 : M ≤ 480 := by obtain ⟨c, _, rfl⟩ := h2; exact yd_ld480 hn hW c
    refine br_f (fun z => absurd ((yd_glt _ (by omega) _ (by omega)).mp z) (by omega)) (yd_lo i hn (by omega) hB hW (br_f (by decide) (pk_le (bd_ld b w i n) M (fun z => nm_r (nI_1 i) (ih (i + 1) M (by omega) ?_ ?_)) (fun z => nm_r (nI_1 i) (ih (i + 1) (bd_ld b w i n) (by omega) ?_ ?_)))))
    · intro c hc
      by_cases hc2 : c = i
      · subst hc2; exact z
      · exact h1 c (by omega)
    · obtain ⟨c, hc, e⟩ := h2
      exact ⟨c, by omega, e⟩
    · intro c hc
      by_cases hc2 : c = i
      · subst hc2; exact Nat.le_refl _
      · have := h1 c (by omega); omega
    · exact ⟨i, by omega, rfl⟩
theorem yd_ex1 {post : Int32 → Prop} {n : Nat} {b w : Nat → Nat} {fr : Int32} {as ai ab : Nat → Int32} (hn : n ≤ 8) (hn0 : 0 < n) (hB : yd_B n b ab) (hW : yd_W n w as ai)
    (hp : ∀ M, M ≤ 480 → bd_fit b w n M → (∃ c, bd_ld b w c n = M) → post (nI M)) : wpY_extreme post (fr, nI n, as, ai, ab) 1 := by
  have hx := bd_mx_pos (b := b) hn0
  refine yd_lo 0 hn (by omega) hB hW (yd_gr n hn (Nat.le_refl _) hB ⟨_, yd_mx1 hn hB hW (fun M h1 h2 h3 => ?_) (bd_mx b n - 1) 1 (bd_ld b w 0 n) (by omega) (fun c hc => ?_) ⟨0, by omega, rfl⟩⟩)
  · obtain ⟨c, _, e⟩ := h3
    refine hp M h1 (fun c => ?_) ⟨c, e⟩
    by_cases hc : c < bd_mx b n
    · exact h2 c hc
    · rw [bd_ld_zero _ (by omega)]; exact Nat.zero_le _
  · obtain rfl : c = 0 := by omega
    exact Nat.le_refl _
theorem yd_mn0 {post : Int32 → Prop} {n : Nat} {b w : Nat → Nat} {fr : Int32} {as ai ab : Nat → Int32} (hn : n ≤ 8) (hB : yd_B n b ab) (hW : yd_W n w as ai)
    (hp : ∀ M, M ≤ 480 → (∀ c, c < bd_mx b n → M ≤ bd_ld b w c n) → (∃ c, c < bd_mx b n ∧ bd_ld b w c n = M) → post (nI M)) :
    ∀ d i M, i + d = bd_mx b n → (∀ c, c < i → M ≤ bd_ld b w c n) → (∃ c, c < i ∧ bd_ld b w c n = M) → wY_extreme_18 post 0 (nI (bd_mx b n) - 1) fr (nI n) as ai ab (d + 1) (nI M) (nI i) := by
  have hx := bd_mx_le hB.1 n (Nat.le_refl _)
  intro d
  induction d with
  | zero =>
    intro i M hi h1 h2
    obtain rfl : i = bd_mx b n := by omega
    have b2 : M ≤ 480 := by obtain ⟨c, _, rfl⟩ := h2; exact yd_ld480 hn hW c
    exact br_t ((yd_glt _ (by omega) _ (by omega)).mpr (Nat.le_refl _)) (hp M b2 h1 h2)
  | succ d ih =>
    intro i M hi h1 h2
    have b1 := yd_ld480 (b := b) hn hW i
    have b2 : M ≤ 480 := by obtain ⟨c, _, rfl⟩ := h2; exact yd_ld480 hn hW c
    refine br_f (fun z => absurd ((yd_glt _ (by omega) _ (by omega)).mp z) (by omega)) (yd_lo i hn (by omega) hB hW (br_t rfl (pk_le M (bd_ld b w i n) (fun z => nm_r (nI_1 i) (ih (i + 1) M (by omega) ?_ ?_)) (fun z => nm_r (nI_1 i) (ih (i + 1) (bd_ld b w i n) (by omega) ?_ ?_)))))
    · intro c hc
      by_cases hc2 : c = i
      · subst hc2; exact z
      · exact h1 c (by omega)
    · obtain ⟨c, hc, e⟩ := h2
      exact ⟨c, by omega, e⟩
    · intro c hc
      by_cases hc2 : c = i
      · subst hc2; exact Nat.le_refl _
      · have := h1 c (by omega); omega
    · exact ⟨i, by omega, rfl⟩
theorem yd_ex0 {post : Int32 → Prop} {n : Nat} {b w : Nat → Nat} {fr : Int32} {as ai ab : Nat → Int32} (hn : n ≤ 8) (hn0 : 0 < n) (hB : yd_B n b ab) (hW : yd_W n w as ai)
    (hp : ∀ M, M ≤ 480 → (∀ c, c < bd_mx b n → M ≤ bd_ld b w c n) → (∃ c, c < bd_mx b n ∧ bd_ld b w c n = M) → post (nI M)) : wpY_extreme post (fr, nI n, as, ai, ab) 0 := by
  have hx := bd_mx_pos (b := b) hn0
  refine yd_lo 0 hn (by omega) hB hW (yd_gr n hn (Nat.le_refl _) hB ⟨_, yd_mn0 hn hB hW hp (bd_mx b n - 1) 1 (bd_ld b w 0 n) (by omega) (fun c hc => ?_) ⟨0, by omega, rfl⟩⟩)
  obtain rfl : c = 0 := by omega
  exact Nat.le_refl _
/-! rank -/
theorem yd_and7 : ∀ v, v < 8 → nI v &&& 7 = nI v := by decide +kernel
theorem yd_ra4 {post : Int32 → Prop} {m q : Nat} {s : Nat → Nat} {fr fn : Int32} {as ai ab : Nat → Int32} (hZ : yd_Z m s as) (hq : q < 8) (hp : post (nI (bd_cnt m q))) : ∀ d i, i + d = q → wY_rank_4 post (nI q) fr fn as ai ab (d + 1) (nI (bd_cnt m i)) (nI i) := by
  intro d
  induction d with
  | zero =>
    intro i hi
    obtain rfl : i = q := by omega
    have hc := bd_cnt_le m i
    refine br_t (nI_le (Nat.le_refl _) (by omega)) ?_
    rw [yd_and7 _ (by omega)]
    exact hp
  | succ d ih =>
    intro i hi
    have H := ih (i + 1) (by omega)
    refine br_f (nI_ge (by omega) (by omega)) (br_f (xd_ge8 i (by omega)) (yd_is2 hZ (by omega) (fun h => nm_r (Int32.add_zero _) (nm_r (nI_1 i) ?_)) (fun h => nm_r (nI_1 _) (nm_r (nI_1 i) ?_))))
    · rw [bd_cnt_s0 h] at H
      exact H
    · rw [bd_cnt_s1 h] at H
      exact H
theorem yd_ra {post : Int32 → Prop} {m q : Nat} {s : Nat → Nat} {fr fn : Int32} {as ai ab : Nat → Int32} (hZ : yd_Z m s as) (hq : q < 8) (hp : post (nI (bd_cnt m q))) : wpY_rank post (fr, fn, as, ai, ab) (nI q) :=
  ⟨q + 1, yd_ra4 hZ hq hp q 0 (by omega)⟩
end
section
/-! the reference's searches -/
theorem yd_4140 {t : Nat} (h : t < 4140) : ¬ (4140 : Int32) ≤ nI t := nI_ge (b := 4140) h (by decide)
theorem yd_le33 {post : Int32 → SY → Prop} {n R : Nat} (hn : n ≤ 8) (hn0 : 0 < n) (hR : R ≤ 60) {w : Nat → Nat} {as ai : Nat → Int32} (hW : yd_W n w as ai)
    (hp : ∀ v ab, v ≤ 9 → (∀ c, bd_neat c n → bd_fit c w n R → v ≤ bd_mx c n) → (v = 9 ∨ ∃ f, bd_neat f n ∧ bd_fit f w n R ∧ bd_mx f n = v) → post (nI v) (nI R, nI n, as, ai, ab)) :
    ∀ d t v b ab, t ≤ bd_S b n n → 4141 ≤ bd_S b n n + d → yd_B n b ab → v ≤ 9 →
      (∀ c, bd_neat c n → bd_fit c w n R → bd_lt c b n → v ≤ bd_mx c n) → (v = 9 ∨ ∃ f, bd_neat f n ∧ bd_fit f w n R ∧ bd_mx f n = v) →
      wY_least_33 post (d + 1) (nI v) 1 (nI t) (nI R) (nI n) as ai ab := by
  intro d
  induction d with
  | zero =>
    intro t v b ab ht hd hB
    have hS := bd_S_lt hB.1 hn
    omega
  | succ d ih =>
    intro t v b ab ht hd hB hv hlow hI
    have hS := bd_S_lt hB.1 hn
    have hmx := bd_mx_le hB.1 n (Nat.le_refl _)
    have T : ∀ v', v' ≤ 9 → (∀ c, bd_neat c n → bd_fit c w n R → (bd_lt c b n ∨ ∀ i, i < n → c i = b i) → v' ≤ bd_mx c n) → (v' = 9 ∨ ∃ f, bd_neat f n ∧ bd_fit f w n R ∧ bd_mx f n = v') →
        wY_least_77 post (wY_least_33 post (d + 1)) (nI v') (nI t) (nI R) (nI n) as ai ab := by
      intro v' hv' hall hI'
      exact yd_ne hn hn0 hB (fun hfin x hx => by
          subst hx
          rw [nI_1]
          have h1 : bd_S b n n < 4140 := hS
          exact br_c (fun _ => hp v' ab hv' (fun c hc hf => hall c hc hf (hfin c hc)) hI') (fun _ => br_t rfl (hp v' ab hv' (fun c hc hf => hall c hc hf (hfin c hc)) hI')))
        (fun b' ab' hgo hB' => nm_r (nI_1 t) (ih (t + 1) v' b' ab' (by have := hgo.2.1; omega) (by have := hgo.2.1; omega) hB' hv' (fun c hc hf hl => hall c hc hf (hgo.2.2 c hc hl)) hI'))
    refine br_f (yd_4140 (by omega)) (br_f (by decide) (yd_gr n hn (Nat.le_refl _) hB (nm_r (yd_g1 _) (pk_le v (bd_mx b n) (fun z => ?_) (fun z => yd_ex1 hn hn0 hB hW (fun M hM h1 h2 => pk_lt R M (fun y => ?_) (fun y => ?_)))))))
    · exact T v hv (fun c hc hf h => h.elim (hlow c hc hf) (fun ha => by rw [bd_mx_cg _ ha]; exact z)) hI
    · obtain ⟨e, he⟩ := h2
      exact T v hv (fun c hc hf h => h.elim (hlow c hc hf) (fun ha => absurd (hf e) (by rw [bd_ld_cg _ ha, he]; omega))) hI
    · exact T (bd_mx b n) (by omega) (fun c hc hf h => h.elim (fun hl => by have := hlow c hc hf hl; omega) (fun ha => by rw [bd_mx_cg _ ha]; exact Nat.le_refl _))
        (Or.inr ⟨b, hB.1, fun c => Nat.le_trans (h1 c) y, rfl⟩)
theorem yd_zB {n : Nat} {ab : Nat → Int32} (hn : n ≤ 8) (h : ∀ j, j < 8 → ab j = 0) : yd_B n (fun _ => 0) ab :=
  ⟨bd_zero_neat n, fun k hk => h k (by omega)⟩
theorem yd_le {post : Int32 → SY → Prop} {m R : Nat} (hR : R ≤ 60) {s w : Nat → Nat} {fn : Int32} {as ai ab : Nat → Int32} (hZ : yd_Z m s as) (hwR : ∀ k, w k ≤ R) (hws : ∀ i, i < 8 → m.testBit i = true → w (bd_cnt m i) = s i)
    (hp : ∀ v fn ai ab, bd_L (bd_cnt m 8) w R v → post (nI v) (nI R, fn, as, ai, ab)) : wpY_least post (nI R, fn, as, ai, ab) := by
  have hn := xd_le8 m
  refine yd_fi (fn := fn) hZ (fun k => Nat.le_trans (hwR k) hR) hws (fun ai ab hz hW => ?_)
  by_cases h0 : bd_cnt m 8 = 0
  · have hL : bd_L (bd_cnt m 8) w R 0 := by
      rw [h0]
      exact ⟨fun _ _ _ => Nat.zero_le _, fun _ => 0, bd_zero_neat 0, fun _ => Nat.zero_le _, rfl⟩
    have H := hp 0 (nI (bd_cnt m 8)) ai ab hL
    rw [h0] at H ⊢
    exact br_t rfl (br_t (by decide) ⟨1, br_f (by decide) (br_t rfl H)⟩)
  · refine br_f (nI_ne0 (by omega) (by omega)) (br_f (nI_nle (by omega) (by omega)) ⟨_, yd_le33 hn (by omega) hR hW (fun v ab hv hlow hI => ?_) 4141 0 9 (fun _ => 0) ab (Nat.zero_le _) (Nat.le_add_left _ _) (yd_zB hn hz) (Nat.le_refl _) (fun c _ _ hl => absurd hl bd_zero_lt) (Or.inl rfl)⟩)
    rcases hI with h9 | hf
    · have h1 := hlow _ (bd_id_neat (bd_cnt m 8)) (bd_id_fit hwR)
      rw [bd_id_mx] at h1
      omega
    · exact hp v _ ai ab ⟨hlow, hf⟩
/-! binOf -/
theorem yd_bo18 {post : Int32 → SY → Prop} {m n R v i : Nat} (hn : n ≤ 8) (hn0 : 0 < n) (hR : R ≤ 60) {s w : Nat → Nat} {as ai : Nat → Int32} (hZ : yd_Z m s as) (hW : yd_W n w as ai) (hL : bd_L n w R v) (hi : i < 8) (hin : bd_cnt m i < n)
    (hp : ∀ f ab, bd_F n w R v f → post (nI (f (bd_cnt m i))) (nI R, nI n, as, ai, ab)) :
    ∀ d t b ab, t ≤ bd_S b n n → 4141 ≤ bd_S b n n + d → yd_B n b ab →
      (∀ c, bd_neat c n → bd_fit c w n R → bd_lt c b n → ¬ bd_mx c n = v) →
      wY_binOf_18 post (nI i) (nI v) (d + 1) 1 (nI t) (nI R) (nI n) as ai ab := by
  have hv := bd_L_le hL
  intro d
  induction d with
  | zero =>
    intro t b ab ht hd hB
    have hS := bd_S_lt hB.1 hn
    omega
  | succ d ih =>
    intro t b ab ht hd hB hlow
    have hS := bd_S_lt hB.1 hn
    have hmx := bd_mx_le hB.1 n (Nat.le_refl _)
    have T : (∀ c, bd_neat c n → bd_fit c w n R → (bd_lt c b n ∨ ∀ i, i < n → c i = b i) → ¬ bd_mx c n = v) →
        wY_binOf_67 post (wY_binOf_18 post (nI i) (nI v) (d + 1)) (nI i) (nI v) (nI t) (nI R) (nI n) as ai ab := by
      intro hall
      refine yd_ne hn hn0 hB (fun hfin => ?_) (fun b' ab' hgo hB' => nm_r (nI_1 t) (ih (t + 1) b' ab' (by have := hgo.2.1; omega) (by have := hgo.2.1; omega) hB' (fun c hc hf hl => hall c hc hf (hgo.2.2 c hc hl))))
      obtain ⟨_, f, f1, f2, f3⟩ := hL
      exact absurd f3 (hall f f1 f2 (hfin f f1))
    refine br_f (yd_4140 (by omega)) (br_f (by decide) (yd_gr n hn (Nat.le_refl _) hB ?_))
    rw [yd_g1]
    refine pk_eq (bd_mx b n) v (fun z => yd_ex1 hn hn0 hB hW (fun M hM h1 h2 => pk_lt R M (fun y => ?_) (fun y => yd_ra hZ hi ⟨xd_in (by omega), ?_⟩))) (fun z => ?_)
    · obtain ⟨e, he⟩ := h2
      exact T (fun c hc hf h => h.elim (hlow c hc hf) (fun ha => absurd (hf e) (by rw [bd_ld_cg _ ha, he]; omega)))
    · have e1 : ab (nI (bd_cnt m i)).toNatClampNeg = nI (b (bd_cnt m i)) := by rw [xd_cl (by omega)]; exact hB.2 _ hin
      rw [e1]
      refine hp b ab ⟨hB.1, fun c => Nat.le_trans (h1 c) y, z, fun c hc hf hl => ?_⟩
      have g1 := hL.1 c hc hf
      have g2 := hlow c hc hf hl
      omega
    · exact T (fun c hc hf h => h.elim (hlow c hc hf) (fun ha => by rw [bd_mx_cg _ ha]; exact z))
/-! spare -/
theorem yd_sp27 {post : Int32 → SY → Prop} {n R v : Nat} (hn : n ≤ 8) (hn0 : 0 < n) (hR : R ≤ 60) (hv : v ≤ 8) {w : Nat → Nat} {as ai : Nat → Int32} (hW : yd_W n w as ai)
    (hp : ∀ M ab, bd_Sp n w R v M → post (nI M) (nI R, nI n, as, ai, ab)) :
    ∀ d t M b ab, t ≤ bd_S b n n → 4141 ≤ bd_S b n n + d → yd_B n b ab →
      (∀ c, bd_neat c n → bd_fit c w n R → bd_mx c n = v → bd_lt c b n → ∀ e, e < v → R ≤ M + bd_ld c w e n) →
      (M = 0 ∨ ∃ c e, bd_neat c n ∧ bd_fit c w n R ∧ bd_mx c n = v ∧ e < v ∧ bd_ld c w e n + M = R) →
      wY_spare_27 post (nI v) (d + 1) (nI M) 1 (nI t) (nI R) (nI n) as ai ab := by
  intro d
  induction d with
  | zero =>
    intro t M b ab ht hd hB
    have hS := bd_S_lt hB.1 hn
    omega
  | succ d ih =>
    intro t M b ab ht hd hB hlow hI
    have hS := bd_S_lt hB.1 hn
    have hmx := bd_mx_le hB.1 n (Nat.le_refl _)
    have hM : M ≤ 60 := by
      rcases hI with z | ⟨c, e, _, _, _, _, z⟩
      · omega
      · omega
    have T : ∀ M', (∀ c, bd_neat c n → bd_fit c w n R → bd_mx c n = v → (bd_lt c b n ∨ ∀ i, i < n → c i = b i) → ∀ e, e < v → R ≤ M' + bd_ld c w e n) →
        (M' = 0 ∨ ∃ c e, bd_neat c n ∧ bd_fit c w n R ∧ bd_mx c n = v ∧ e < v ∧ bd_ld c w e n + M' = R) →
        wY_spare_90 post (wY_spare_27 post (nI v) (d + 1)) (nI v) (nI M') (nI t) (nI R) (nI n) as ai ab := by
      intro M' hall hI'
      exact yd_ne hn hn0 hB (fun hfin x hx => br_c (fun _ => hp M' ab ⟨fun c hc hf hx => hall c hc hf hx (hfin c hc), hI'⟩) (fun _ => br_t rfl (hp M' ab ⟨fun c hc hf hx => hall c hc hf hx (hfin c hc), hI'⟩)))
        (fun b' ab' hgo hB' => nm_r (nI_1 t) (ih (t + 1) M' b' ab' (by have := hgo.2.1; omega) (by have := hgo.2.1; omega) hB' (fun c hc hf hx hl => hall c hc hf hx (hgo.2.2 c hc hl)) hI'))
    refine br_f (yd_4140 (by omega)) (br_f (by decide) (yd_gr n hn (Nat.le_refl _) hB ?_))
    rw [yd_g1]
    refine pk_eq (bd_mx b n) v (fun z => yd_ex1 hn hn0 hB hW (fun P hP h1 h2 => pk_lt R P (fun y => ?_) (fun y => yd_ex0 hn hn0 hB hW (fun q hq hq1 hq2 => ?_)))) (fun z => ?_)
    · obtain ⟨e, he⟩ := h2
      exact T M (fun c hc hf hx h => h.elim (hlow c hc hf hx) (fun ha => absurd (hf e) (by rw [bd_ld_cg _ ha, he]; omega))) hI
    · have hF : bd_fit b w n R := fun c => Nat.le_trans (h1 c) y
      have hqR : q ≤ R := by obtain ⟨c, _, rfl⟩ := hq2; exact hF c
      refine nm_r (e' := nI (R - q)) (pk_sub hqR) (pk_le (R - q) M (fun y => ?_) (fun y => ?_))
      · exact T M (fun c hc hf hx h => h.elim (hlow c hc hf hx) (fun ha e he => by rw [bd_ld_cg _ ha]; have := hq1 e (by omega); omega)) hI
      · refine T (R - q) (fun c hc hf hx h => h.elim (fun hl e he => by have := hlow c hc hf hx hl e he; omega) (fun ha e he => by rw [bd_ld_cg _ ha]; have := hq1 e (by omega); omega)) (Or.inr ?_)
        obtain ⟨c, hc, e⟩ := hq2
        exact ⟨b, c, hB.1, hF, z, by omega, by omega⟩
    · exact T M (fun c hc hf hx h => h.elim (hlow c hc hf hx) (fun ha => absurd hx (by rw [bd_mx_cg _ ha]; exact z))) hI
/-! sizeFor -/
theorem yd_sf33 {post : Int32 → SY → Prop} {n q : Nat} (hn : n ≤ 8) (hn0 : 0 < n) (hq0 : 1 ≤ q) (hq : q ≤ 8) {fr : Int32} {w : Nat → Nat} {as ai : Nat → Int32} (hW : yd_W n w as ai)
    (hp : ∀ v ab, bd_Z n w q v → post (nI v) (fr, nI n, as, ai, ab)) :
    ∀ d t x b ab, t ≤ bd_S b n n → 4141 ≤ bd_S b n n + d → yd_B n b ab →
      ((x = -1 ∧ ∀ c, bd_neat c n → bd_lt c b n → ¬ bd_mx c n ≤ q) ∨ ∃ v, x = nI v ∧ v ≤ 480 ∧ (∀ c, bd_neat c n → bd_mx c n ≤ q → bd_lt c b n → ∃ e, v ≤ bd_ld c w e n) ∧ ∃ c, bd_neat c n ∧ bd_mx c n ≤ q ∧ bd_fit c w n v) →
      wY_sizeFor_33 post (nI q) (d + 1) x 1 (nI t) fr (nI n) as ai ab := by
  intro d
  induction d with
  | zero =>
    intro t x b ab ht hd hB
    have hS := bd_S_lt hB.1 hn
    omega
  | succ d ih =>
    intro t x b ab ht hd hB hI
    have hS := bd_S_lt hB.1 hn
    have hmx := bd_mx_le hB.1 n (Nat.le_refl _)
    have T : ∀ x', ((x' = -1 ∧ ∀ c, bd_neat c n → (bd_lt c b n ∨ ∀ i, i < n → c i = b i) → ¬ bd_mx c n ≤ q) ∨ ∃ v, x' = nI v ∧ v ≤ 480 ∧ (∀ c, bd_neat c n → bd_mx c n ≤ q → (bd_lt c b n ∨ ∀ i, i < n → c i = b i) → ∃ e, v ≤ bd_ld c w e n) ∧ ∃ c, bd_neat c n ∧ bd_mx c n ≤ q ∧ bd_fit c w n v) →
        wY_sizeFor_83 post (wY_sizeFor_33 post (nI q) (d + 1)) (nI q) x' (nI t) fr (nI n) as ai ab := by
      intro x' hall
      refine yd_ne hn hn0 hB (fun hfin y hy => ?_) (fun b' ab' hgo hB' => nm_r (nI_1 t) (ih (t + 1) x' b' ab' (by have := hgo.2.1; omega) (by have := hgo.2.1; omega) hB' ?_))
      · rcases hall with ⟨_, h⟩ | ⟨v, rfl, h1, h2, h3⟩
        · have g := bd_zero_mx n
          exact absurd (Nat.le_trans g hq0) (h _ (bd_zero_neat n) (hfin _ (bd_zero_neat n)))
        · have H := hp v ab ⟨fun c hc hx => h2 c hc hx (hfin c hc), h3⟩
          exact br_c (fun _ => H) (fun _ => br_t rfl H)
      · rcases hall with ⟨h0, h⟩ | ⟨v, h0, h1, h2, h3⟩
        · exact Or.inl ⟨h0, fun c hc hl => h c hc (hgo.2.2 c hc hl)⟩
        · exact Or.inr ⟨v, h0, h1, fun c hc hx hl => h2 c hc hx (hgo.2.2 c hc hl), h3⟩
    refine br_f (yd_4140 (by omega)) (br_f (by decide) (yd_gr n hn (Nat.le_refl _) hB ?_))
    rw [yd_g1]
    refine pk_lt q (bd_mx b n) (fun z => T x ?_) (fun z => yd_ex1 hn hn0 hB hW (fun P hP h1 h2 => ?_))
    · rcases hI with ⟨h0, h⟩ | ⟨v, h0, h1, h2, h3⟩
      · exact Or.inl ⟨h0, fun c hc h' => h'.elim (h c hc) (fun ha => by rw [bd_mx_cg _ ha]; omega)⟩
      · exact Or.inr ⟨v, h0, h1, fun c hc hx h' => h'.elim (h2 c hc hx) (fun ha => absurd hx (by rw [bd_mx_cg _ ha]; omega)), h3⟩
    · obtain ⟨e0, he0⟩ := h2
      rcases hI with ⟨rfl, h⟩ | ⟨v, rfl, g1, g2, g3⟩
      · refine br_t (by decide) (T (nI P) (Or.inr ⟨P, rfl, hP, fun c hc hx h' => h'.elim (fun hl => absurd hx (h c hc hl)) (fun ha => ⟨e0, by rw [bd_ld_cg _ ha, he0]; exact Nat.le_refl _⟩), b, hB.1, z, h1⟩))
      · refine br_f (nI_pos (by omega)) (pk_le v P (fun y => T (nI v) ?_) (fun y => T (nI P) ?_))
        · exact Or.inr ⟨v, rfl, g1, fun c hc hx h' => h'.elim (g2 c hc hx) (fun ha => ⟨e0, by rw [bd_ld_cg _ ha, he0]; exact y⟩), g3⟩
        · refine Or.inr ⟨P, rfl, hP, fun c hc hx h' => h'.elim (fun hl => ?_) (fun ha => ⟨e0, by rw [bd_ld_cg _ ha, he0]; exact Nat.le_refl _⟩), b, hB.1, z, h1⟩
          obtain ⟨e, he⟩ := g2 c hc hx hl
          exact ⟨e, by omega⟩
/-! together -/
theorem yd_tg43 {post : Int32 → SY → Prop} {m n R v i j : Nat} (hn : n ≤ 8) (hn0 : 0 < n) (hR : R ≤ 60) (hv : v ≤ 8) {s w : Nat → Nat} {as ai : Nat → Int32} (hZ : yd_Z m s as) (hW : yd_W n w as ai) (hi : i < 8) (hj : j < 8) (hin : bd_cnt m i < n) (hjn : bd_cnt m j < n)
    (hp1 : ∀ ab, bd_T n w R v (bd_cnt m i) (bd_cnt m j) → post 1 (nI R, nI n, as, ai, ab))
    (hp0 : ∀ ab, ¬ bd_T n w R v (bd_cnt m i) (bd_cnt m j) → post 0 (nI R, nI n, as, ai, ab)) :
    ∀ d t x b ab, t ≤ bd_S b n n → 4141 ≤ bd_S b n n + d → yd_B n b ab →
      ((x = 0 ∧ ∀ c, bd_neat c n → bd_fit c w n R → bd_mx c n = v → bd_lt c b n → ¬ c (bd_cnt m i) = c (bd_cnt m j)) ∨ (x = 1 ∧ bd_T n w R v (bd_cnt m i) (bd_cnt m j))) →
      wY_together_43 post (nI i) (nI j) (nI v) (d + 1) x 1 (nI t) (nI R) (nI n) as ai ab := by
  intro d
  induction d with
  | zero =>
    intro t x b ab ht hd hB
    have hS := bd_S_lt hB.1 hn
    omega
  | succ d ih =>
    intro t x b ab ht hd hB hI
    have hS := bd_S_lt hB.1 hn
    have hmx := bd_mx_le hB.1 n (Nat.le_refl _)
    have T : ∀ x', ((x' = 0 ∧ ∀ c, bd_neat c n → bd_fit c w n R → bd_mx c n = v → (bd_lt c b n ∨ ∀ i, i < n → c i = b i) → ¬ c (bd_cnt m i) = c (bd_cnt m j)) ∨ (x' = 1 ∧ bd_T n w R v (bd_cnt m i) (bd_cnt m j))) →
        wY_together_117 post (wY_together_43 post (nI i) (nI j) (nI v) (d + 1)) (nI i) (nI j) (nI v) x' (nI t) (nI R) (nI n) as ai ab := by
      intro x' hall
      refine yd_ne hn hn0 hB (fun hfin y hy => ?_) (fun b' ab' hgo hB' => nm_r (nI_1 t) (ih (t + 1) x' b' ab' (by have := hgo.2.1; omega) (by have := hgo.2.1; omega) hB' ?_))
      · rcases hall with ⟨rfl, h⟩ | ⟨rfl, h⟩
        · have H := hp0 ab (fun ⟨c, hc, hf, hx, hs⟩ => h c hc hf hx (hfin c hc) hs)
          exact br_c (fun _ => ⟨rfl, H⟩) (fun _ => br_t rfl ⟨rfl, H⟩)
        · have H := hp1 ab h
          exact br_c (fun _ => ⟨rfl, H⟩) (fun _ => br_t rfl ⟨rfl, H⟩)
      · rcases hall with ⟨h0, h⟩ | ⟨h0, h⟩
        · exact Or.inl ⟨h0, fun c hc hf hx hl => h c hc hf hx (hgo.2.2 c hc hl)⟩
        · exact Or.inr ⟨h0, h⟩
    have ei : ab (nI (bd_cnt m i)).toNatClampNeg = nI (b (bd_cnt m i)) := by rw [xd_cl (by omega)]; exact hB.2 _ hin
    have ej : ab (nI (bd_cnt m j)).toNatClampNeg = nI (b (bd_cnt m j)) := by rw [xd_cl (by omega)]; exact hB.2 _ hjn
    have bi := bd_b_le hB.1 hin
    have bj := bd_b_le hB.1 hjn
    refine br_f (yd_4140 (by omega)) (br_f (by decide) (yd_gr n hn (Nat.le_refl _) hB ?_))
    rw [yd_g1]
    refine pk_eq (bd_mx b n) v (fun z => yd_ra hZ hi ⟨xd_in (by omega), yd_ra hZ hj ⟨xd_in (by omega), pk_eq (b (bd_cnt m i)) (b (bd_cnt m j)) (fun y => ?_) (fun y => ?_) (hx := ei) (hy := ej)⟩⟩) (fun z => ?_)
    · rcases hI with ⟨rfl, h⟩ | ⟨rfl, h⟩
      · refine br_t rfl (yd_ex1 hn hn0 hB hW (fun P hP h1 h2 => pk_lt R P (fun u => ?_) (fun u => ?_)))
        · obtain ⟨e, he⟩ := h2
          exact T 0 (Or.inl ⟨rfl, fun c hc hf hx h' => h'.elim (h c hc hf hx) (fun ha => absurd (hf e) (by rw [bd_ld_cg _ ha, he]; omega))⟩)
        · exact T 1 (Or.inr ⟨rfl, b, hB.1, fun c => Nat.le_trans (h1 c) u, z, y⟩)
      · exact br_f (by decide) (T 1 (Or.inr ⟨rfl, h⟩))
    · refine T x ?_
      rcases hI with ⟨h0, h⟩ | ⟨h0, h⟩
      · exact Or.inl ⟨h0, fun c hc hf hx h' => h'.elim (h c hc hf hx) (fun ha => by rw [ha _ hin, ha _ hjn]; exact y)⟩
      · exact Or.inr ⟨h0, h⟩
    · refine T x ?_
      rcases hI with ⟨h0, h⟩ | ⟨h0, h⟩
      · exact Or.inl ⟨h0, fun c hc hf hx h' => h'.elim (h c hc hf hx) (fun ha => absurd hx (by rw [bd_mx_cg _ ha]; exact z))⟩
      · exact Or.inr ⟨h0, h⟩
end
section
/-! the relation and the small methods -/
def rd_R (m R : Nat) (s : Nat → Nat) (as bs : Nat → Int32) : Prop := m < 256 ∧ 1 ≤ R ∧ R ≤ 60 ∧ yd_Z m s bs ∧ (∀ i, i < 8 → m.testBit i = true → as i = nI (s i)) ∧ ∀ i, i < 8 → s i ≤ R
def i_Rel (_ : Nat) (u : SX) (v : SY) : Prop := ∃ (m R : Nat) (s : Nat → Nat) (as ab al af : Nat → Int32) (fn : Int32) (bs bi bb : Nat → Int32), u = (nI R, nI m, as, ab, al, af) ∧ v = (nI R, fn, bs, bi, bb) ∧ rd_R m R s as bs
theorem i_up {k : Nat} {u : SX} {v : SY} (h : i_Rel k u v) : i_Rel (k + 3) u v := h
theorem rd_mk {k m R : Nat} {s : Nat → Nat} {as ab al af : Nat → Int32} {fn : Int32} {bs bi bb : Nat → Int32} (h : rd_R m R s as bs) : i_Rel k (nI R, nI m, as, ab, al, af) (nI R, fn, bs, bi, bb) :=
  ⟨m, R, s, as, ab, al, af, fn, bs, bi, bb, rfl, rfl, h⟩
theorem rd_0 {R : Nat} (h1 : 1 ≤ R) (h2 : R ≤ 60) : rd_R 0 R (fun _ => 0) (fun _ => 0) (fun _ => 0) :=
  ⟨by omega, h1, h2, fun i _ => ⟨rfl, Nat.zero_le _, by rw [Nat.zero_testBit]; rfl⟩, fun i _ _ => rfl, fun _ _ => Nat.zero_le _⟩
theorem rd_of {x : Int32} (h1 : ¬ x < 1) : ∃ j : Nat, 1 ≤ j ∧ j < 2 ^ 31 ∧ x = nI j := by
  have h0 : ¬ x < 0 := fun z => h1 (Int32.lt_trans z (by decide))
  obtain ⟨j, hj, rfl⟩ := nI_of h0
  refine ⟨j, ?_, hj, rfl⟩
  by_cases h : j = 0
  · subst h; exact absurd (by decide) h1
  · omega
theorem i_vc0 (k0 : Int32) : wpX_init (fun u => wpY_init (fun v => i_Rel 1 u v) k0) k0 := by
  by_cases h1 : 1 ≤ k0
  · obtain ⟨j, j1, j2, rfl⟩ := rd_of (Int32.not_lt.mpr h1)
    by_cases h2 : nI j ≤ 60
    · have h3 : j ≤ 60 := (nI_leI (b := 60) j2 (by decide)).mp h2
      exact br_t h1 (br_t h2 (br_t h1 (br_t h2 (rd_mk (m := 0) (rd_0 j1 h3)))))
    · exact br_t h1 (br_f h2 (br_t h1 (br_f h2 (rd_mk (m := 0) (R := 60) (rd_0 (by decide) (by decide))))))
  · exact br_f h1 (br_f h1 (rd_mk (m := 0) (R := 1) (rd_0 (by decide) (by decide))))
/-! an item's size set, an item taken away -/
theorem rd_set {m m' R q i : Nat} {s : Nat → Nat} {as bs : Nat → Int32} (h : rd_R m R s as bs) (hm' : m' < 256) (hb : ∀ j, j < 8 → m'.testBit j = (m.testBit j || decide (i = j))) (h1 : 1 ≤ q) (h2 : q ≤ R) : rd_R m' R (fun j => if j = i then q else s j) (upd as i (nI q)) (upd bs i (nI q)) := by
  obtain ⟨_, r1, r2, hZ, ha, hs⟩ := h
  refine ⟨hm', r1, r2, fun j hj => ?_, fun j hj hbj => ?_, fun j hj => ?_⟩
  · show upd bs i (nI q) j = nI (if j = i then q else s j) ∧ (if j = i then q else s j) ≤ 60 ∧ m'.testBit j = decide (0 < (if j = i then q else s j))
    by_cases e : j = i
    · subst e
      rw [if_pos rfl, hb j hj]
      exact ⟨pk_us, by omega, by rw [decide_eq_true rfl, Bool.or_true, decide_eq_true (by omega)]⟩
    · rw [if_neg e, pk_un e, hb j hj, decide_eq_false (fun z => e z.symm), Bool.or_false]
      exact hZ j hj
  · show upd as i (nI q) j = nI (if j = i then q else s j)
    by_cases e : j = i
    · subst e
      rw [if_pos rfl]; exact pk_us
    · rw [if_neg e, pk_un e]
      rw [hb j hj, decide_eq_false (fun z => e z.symm), Bool.or_false] at hbj
      exact ha j hj hbj
  · show (if j = i then q else s j) ≤ R
    by_cases e : j = i
    · rw [if_pos e]; exact h2
    · rw [if_neg e]; exact hs j hj
theorem rd_rem {m R i : Nat} {s : Nat → Nat} {as bs : Nat → Int32} (h : rd_R m R s as bs) (hi : i < 8) : rd_R (m &&& (255 - 2 ^ i)) R (fun j => if j = i then 0 else s j) as (upd bs i 0) := by
  obtain ⟨hm, r1, r2, hZ, ha, hs⟩ := h
  refine ⟨xd_wo_lt hm, r1, r2, fun j hj => ?_, fun j hj hbj => ?_, fun j hj => ?_⟩
  · show upd bs i 0 j = nI (if j = i then 0 else s j) ∧ (if j = i then 0 else s j) ≤ 60 ∧ (m &&& (255 - 2 ^ i)).testBit j = decide (0 < (if j = i then 0 else s j))
    by_cases e : j = i
    · subst e
      rw [if_pos rfl, xd_wo_bit hi hj]
      exact ⟨pk_us, by omega, by rw [decide_eq_true rfl]; simp⟩
    · rw [if_neg e, pk_un e, xd_wo_bit hi hj, decide_eq_false (fun z => e z.symm), Bool.not_false, Bool.and_true]
      exact hZ j hj
  · show as j = nI (if j = i then 0 else s j)
    rw [xd_wo_bit hi hj] at hbj
    by_cases e : j = i
    · subst e
      rw [decide_eq_true rfl] at hbj
      simp at hbj
    · rw [if_neg e]
      rw [decide_eq_false (fun z => e z.symm), Bool.not_false, Bool.and_true] at hbj
      exact ha j hj hbj
  · show (if j = i then 0 else s j) ≤ R
    by_cases e : j = i
    · rw [if_pos e]; exact Nat.zero_le _
    · rw [if_neg e]; exact hs j hj
/-! isItem -/
theorem xd_itY {post : Int32 → Prop} {m i : Nat} {fb : Int32} {as ab al af : Nat → Int32} (hm : m < 256) (hi : i < 8) (hb : m.testBit i = true) (h : post 1) : wpX_isItem post (fb, nI m, as, ab, al, af) (nI i) :=
  br_f (nI_pos (by omega)) (br_f (xd_ge8 i hi) (xd_isIn hm hi (fun z => absurd hb (by rw [z]; decide)) (fun _ => h)))
theorem xd_itN {post : Int32 → Prop} {m : Nat} {p fb : Int32} {as ab al af : Nat → Int32} (hm : m < 256) (hno : ∀ i, i < 8 → p = nI i → m.testBit i = false) (h : post 0) : wpX_isItem post (fb, nI m, as, ab, al, af) p := by
  rcases pk_ix p (n := 8) (by decide) with z | z | ⟨i, hi, rfl⟩
  · exact br_t z h
  · exact br_c (fun _ => h) (fun _ => br_t z h)
  · exact br_f (nI_pos (by omega)) (br_f (xd_ge8 i hi) (xd_isIn hm hi (fun _ => h) (fun y => absurd y (by rw [hno i hi rfl]; decide))))
theorem yd_isY {post : Int32 → Prop} {m i : Nat} {s : Nat → Nat} {fr fn : Int32} {as ai ab : Nat → Int32} (hZ : yd_Z m s as) (hi : i < 8) (hb : m.testBit i = true) (h1 : post 1) : wpY_is post (fr, fn, as, ai, ab) (nI i) :=
  yd_is hZ hi (fun z => absurd hb (by rw [z]; decide)) (fun _ => h1)
theorem rd_item (m : Nat) (p : Int32) : (∃ i, i < 8 ∧ p = nI i ∧ m.testBit i = true) ∨ ∀ i, i < 8 → p = nI i → m.testBit i = false := by
  by_cases h : ∃ i, i < 8 ∧ p = nI i ∧ m.testBit i = true
  · exact Or.inl h
  · refine Or.inr (fun i hi e => ?_)
    cases hb : m.testBit i
    · rfl
    · exact absurd ⟨i, hi, e, hb⟩ h
/-! add -/
theorem xd_ad12 {post : Int32 → SX → Prop} {m : Nat} {x fb : Int32} {as ab al af : Nat → Int32} (hm : m < 256)
    (h1 : ∀ i, i < 8 → m.testBit i = false → (∀ j, j < i → m.testBit j = true) → post (nI i) (fb, nI (m ||| 2 ^ i), upd as i x, ab, al, af))
    (h2 : (∀ j, j < 8 → m.testBit j = true) → post (-2) (fb, nI m, as, ab, al, af)) :
    ∀ d i, i + d = 8 → (∀ j, j < i → m.testBit j = true) → wX_add_12 post x fb (nI m) as ab al af (d + 1) (nI i) := by
  intro d
  induction d with
  | zero =>
    intro i hi h
    obtain rfl : i = 8 := by omega
    exact br_t xd_88 (h2 h)
  | succ d ih =>
    intro i hi h
    have h8 : i < 8 := by omega
    refine br_f (xd_ge8 i h8) (xd_isIn hm h8 (fun z => nm_r (xd_or m hm i h8) ⟨xd_in h8, nm_r (e' := upd as i x) (by rw [xd_cl (by omega)]) (h1 i h8 z h)⟩) (fun z => nm_r (nI_1 i) (ih (i + 1) (by omega) (fun j hj => ?_))))
    by_cases e : j = i
    · subst e; exact z
    · exact h j (by omega)
theorem yd_ad17 {post : Int32 → SY → Prop} {m q : Nat} {s : Nat → Nat} {x fr fn : Int32} {as ai ab : Nat → Int32} (hZ : yd_Z m s as) (hq : q ≤ 8) (hall : ∀ j, j < q → m.testBit j = true)
    (h1 : q < 8 → m.testBit q = false ∧ post (nI q) (fr, fn, upd as q x, ai, ab))
    (h2 : q = 8 → post (-2) (fr, fn, as, ai, ab)) :
    ∀ d i, i + d = q → wY_add_17 post x fr fn as ai ab (d + 1) (nI i) := by
  intro d
  induction d with
  | zero =>
    intro i hi
    obtain rfl : i = q := by omega
    by_cases h8 : i < 8
    · obtain ⟨g1, g2⟩ := h1 h8
      obtain ⟨z1, z2, z3⟩ := hZ i h8
      have e1 : as (nI i).toNatClampNeg = 0 := by
        rw [xd_cl (by omega), z1]
        rw [g1] at z3
        have : ¬ 0 < s i := of_decide_eq_false z3.symm
        have e : s i = 0 := by omega
        rw [e]; rfl
      exact br_f (xd_ge8 i h8) ⟨xd_in h8, br_t e1 ⟨xd_in h8, nm_r (e' := upd as i x) (by rw [xd_cl (by omega)]) g2⟩⟩
    · obtain rfl : i = 8 := by omega
      exact br_t xd_88 (h2 rfl)
  | succ d ih =>
    intro i hi
    have h8 : i < 8 := by omega
    obtain ⟨z1, z2, z3⟩ := hZ i h8
    have hb := hall i (by omega)
    rw [hb] at z3
    have hpos : 0 < s i := of_decide_eq_true z3.symm
    have e1 : ¬ as (nI i).toNatClampNeg = 0 := by
      rw [xd_cl (by omega), z1]
      exact nI_ne0 hpos (by omega)
    exact br_f (xd_ge8 i h8) ⟨xd_in h8, br_f e1 (nm_r (nI_1 i) (ih (i + 1) (by omega)))⟩
theorem i_vc_add {k : Nat} {u : SX} {v : SY} (I : i_Rel k u v) (hk : k + 3 ≤ 1537) (v1 : Int32) : wpX_add (fun r u' => wpY_add (fun r' v' => r' = r ∧ i_Rel (k + 3) u' v') v v1) u v1 := by
  obtain ⟨m, R, s, as, ab, al, af, fn, bs, bi, bb, rfl, rfl, h⟩ := I
  have h' := h
  obtain ⟨hm, r1, r2, hZ, ha, hs⟩ := h'
  by_cases g1 : v1 < 1
  · exact br_t g1 (br_t rfl (br_t g1 ⟨rfl, rd_mk h⟩))
  · by_cases g2 : nI R < v1
    · exact br_f g1 (br_t g2 (br_t rfl (br_f g1 (br_f (Int32.not_le.mpr g2) ⟨rfl, rd_mk h⟩))))
    · obtain ⟨q, q1, q2, rfl⟩ := rd_of g1
      have g3 : q ≤ R := by
        have := (not_congr (nI_ltI (a := R) (b := q) (by omega) q2)).mp g2
        omega
      have g4 : nI q ≤ nI R := nI_le g3 (by omega)
      refine br_f g1 (br_f g2 (br_f (by decide) ⟨_, xd_ad12 hm (fun i hi hb hall => ?_) (fun hall => ?_) 8 0 (by omega) (fun j hj => absurd hj (by omega))⟩))
      · exact br_f g1 (br_t g4 ⟨_, yd_ad17 hZ (q := i) (by omega) hall (fun _ => ⟨hb, rfl, rd_mk (rd_set h (xd_or_lt m hm i hi) (fun j _ => xd_or_bit m i j) q1 g3)⟩) (fun z => by omega) i 0 (by omega)⟩)
      · exact br_f g1 (br_t g4 ⟨_, yd_ad17 hZ (q := 8) (by omega) hall (fun z => absurd z (by omega)) (fun _ => ⟨rfl, rd_mk h⟩) 8 0 (by omega)⟩)
/-! remove, resize -/
theorem i_vc_remove {k : Nat} {u : SX} {v : SY} (I : i_Rel k u v) (hk : k + 3 ≤ 1537) (v1 : Int32) : wpX_remove (fun r u' => wpY_remove (fun r' v' => r' = r ∧ i_Rel (k + 3) u' v') v v1) u v1 := by
  obtain ⟨m, R, s, as, ab, al, af, fn, bs, bi, bb, rfl, rfl, h⟩ := I
  have h' := h
  obtain ⟨hm, r1, r2, hZ, ha, hs⟩ := h'
  unfold wpX_remove wpY_remove
  dsimp only
  rcases rd_item m v1 with ⟨i, hi, rfl, hb⟩ | hno
  · refine xd_itY hm hi hb (br_f (by decide) ?_)
    unfold wpX_without
    dsimp only
    rw [xd_wo m hm i hi]
    refine yd_isY hZ hi hb (br_f (by decide) ⟨xd_in hi, nm_r (e' := upd bs i 0) (by rw [xd_cl (by omega)]) ⟨rfl, rd_mk (rd_rem h hi)⟩⟩)
  · exact xd_itN hm hno (br_t rfl (yd_isN hZ hno (br_t rfl ⟨rfl, rd_mk h⟩)))
theorem i_vc_resize {k : Nat} {u : SX} {v : SY} (I : i_Rel k u v) (hk : k + 3 ≤ 1537) (v1 : Int32) (v2 : Int32) : wpX_resize (fun r u' => wpY_resize (fun r' v' => r' = r ∧ i_Rel (k + 3) u' v') v v1 v2) u v1 v2 := by
  obtain ⟨m, R, s, as, ab, al, af, fn, bs, bi, bb, rfl, rfl, h⟩ := I
  have h' := h
  obtain ⟨hm, r1, r2, hZ, ha, hs⟩ := h'
  unfold wpX_resize wpY_resize
  dsimp only
  rcases rd_item m v1 with ⟨i, hi, rfl, hb⟩ | hno
  · refine xd_itY hm hi hb (br_f (by decide) ?_)
    by_cases g1 : v2 < 1
    · exact br_t g1 (br_t rfl (yd_isY hZ hi hb (br_f (by decide) (br_t g1 ⟨rfl, rd_mk h⟩))))
    · by_cases g2 : nI R < v2
      · exact br_f g1 (br_t g2 (br_t rfl (yd_isY hZ hi hb (br_f (by decide) (br_f g1 (br_f (Int32.not_le.mpr g2) ⟨rfl, rd_mk h⟩))))))
      · obtain ⟨q, q1, q2, rfl⟩ := rd_of g1
        have g3 : q ≤ R := by
          have := (not_congr (nI_ltI (a := R) (b := q) (by omega) q2)).mp g2
          omega
        have g4 : nI q ≤ nI R := nI_le g3 (by omega)
        have hset : rd_R m R (fun j => if j = i then q else s j) (upd as i (nI q)) (upd bs i (nI q)) := rd_set h hm (fun j hj => by
          by_cases e : i = j
          · subst e; rw [hb]; rfl
          · rw [decide_eq_false e, Bool.or_false]) q1 g3
        exact br_f g1 (br_f g2 (br_f (by decide) ⟨xd_in hi, nm_r (e' := upd as i (nI q)) (by rw [xd_cl (by omega)]) (yd_isY hZ hi hb (br_f (by decide) (br_f g1 (br_t g4 ⟨xd_in hi, nm_r (e' := upd bs i (nI q)) (by rw [xd_cl (by omega)]) ⟨rfl, rd_mk hset⟩⟩))))⟩))
  · exact xd_itN hm hno (br_t rfl (yd_isN hZ hno (br_t rfl ⟨rfl, rd_mk h⟩)))
/-! setSize -/
theorem xd_la4 {post : Int32 → Prop} {m : Nat} {s : Nat → Nat} {fb : Int32} {as ab al af : Nat → Int32} (hm : m < 256) (ha : ∀ i, i < 8 → m.testBit i = true → as i = nI (s i)) (hs : ∀ i, i < 8 → s i ≤ 60)
    (hp : ∀ M, M ≤ 60 → (∀ i, i < 8 → m.testBit i = true → s i ≤ M) → (M = 0 ∨ ∃ i, i < 8 ∧ s i = M) → post (nI M)) :
    ∀ d i M, i + d = 8 → M ≤ 60 → (∀ j, j < i → m.testBit j = true → s j ≤ M) → (M = 0 ∨ ∃ i, i < 8 ∧ s i = M) → wX_largest_4 post fb (nI m) as ab al af (d + 1) (nI M) (nI i) := by
  intro d
  induction d with
  | zero =>
    intro i M hi hM h1 h2
    obtain rfl : i = 8 := by omega
    exact br_t xd_88 (hp M hM h1 h2)
  | succ d ih =>
    intro i M hi hM h1 h2
    have h8 : i < 8 := by omega
    have b1 := hs i h8
    refine br_f (xd_ge8 i h8) (xd_isIn hm h8 (fun z => nm_r (nI_1 i) (ih (i + 1) M (by omega) hM (fun j hj hb => ?_) h2)) (fun z => ?_))
    · by_cases e : j = i
      · subst e; rw [z] at hb; exact absurd hb (by decide)
      · exact h1 j (by omega) hb
    · have e1 : as (nI i).toNatClampNeg = nI (s i) := by rw [xd_cl (by omega)]; exact ha i h8 z
      refine ⟨xd_in h8, pk_le (s i) M (fun y => nm_r (nI_1 i) (ih (i + 1) M (by omega) hM (fun j hj hb => ?_) h2)) (fun y => ⟨xd_in h8, nm_r e1 (nm_r (nI_1 i) (ih (i + 1) (s i) (by omega) b1 (fun j hj hb => ?_) (Or.inr ⟨i, h8, rfl⟩)))⟩) (hx := e1)⟩
      · by_cases e : j = i
        · subst e; exact y
        · exact h1 j (by omega) hb
      · by_cases e : j = i
        · subst e; exact Nat.le_refl _
        · have := h1 j (by omega) hb; omega
theorem yd_ss15 {post : Int32 → SY → Prop} {m q : Nat} {s : Nat → Nat} {fr fn : Int32} {as ai ab : Nat → Int32} (hZ : yd_Z m s as) (hq : q ≤ 60)
    (h1 : (∀ i, i < 8 → s i ≤ q) → post 1 (nI q, fn, as, ai, ab)) (h0 : ∀ i, i < 8 → q < s i → post 0 (fr, fn, as, ai, ab)) :
    ∀ d i, i + d = 8 → (∀ j, j < i → s j ≤ q) → wY_setSize_15 post (nI q) fr fn as ai ab (d + 1) (nI i) := by
  intro d
  induction d with
  | zero =>
    intro i hi h
    obtain rfl : i = 8 := by omega
    exact br_t xd_88 (h1 h)
  | succ d ih =>
    intro i hi h
    have h8 : i < 8 := by omega
    obtain ⟨z1, z2, z3⟩ := hZ i h8
    have e1 : as (nI i).toNatClampNeg = nI (s i) := by rw [xd_cl (by omega)]; exact z1
    refine br_f (xd_ge8 i h8) ⟨xd_in h8, pk_le (s i) q (fun y => nm_r (nI_1 i) (ih (i + 1) (by omega) (fun j hj => ?_))) (fun y => h0 i h8 y) (hx := e1)⟩
    by_cases e : j = i
    · subst e; exact y
    · exact h j (by omega)
theorem i_vc_setSize {k : Nat} {u : SX} {v : SY} (I : i_Rel k u v) (hk : k + 3 ≤ 1537) (v1 : Int32) : wpX_setSize (fun r u' => wpY_setSize (fun r' v' => r' = r ∧ i_Rel (k + 3) u' v') v v1) u v1 := by
  obtain ⟨m, R, s, as, ab, al, af, fn, bs, bi, bb, rfl, rfl, h⟩ := I
  have h' := h
  obtain ⟨hm, r1, r2, hZ, ha, hs⟩ := h'
  by_cases g1 : v1 < 1
  · exact br_t g1 (br_t g1 ⟨rfl, rd_mk h⟩)
  · by_cases g2 : 60 < v1
    · exact br_f g1 (br_t g2 (br_f g1 (br_f (Int32.not_le.mpr g2) ⟨rfl, rd_mk h⟩)))
    · have g2' : v1 ≤ 60 := Int32.not_lt.mp g2
      obtain ⟨q, q1, q2, rfl⟩ := rd_of g1
      have g3 : q ≤ 60 := (nI_leI (b := 60) q2 (by decide)).mp g2'
      refine br_f g1 (br_f g2 ⟨_, xd_la4 hm ha (fun i hi => (hZ i hi).2.1) (fun M hM h1 h2 => pk_le M q (fun y => ?_) (fun y => ?_)) 8 0 0 (by omega) (by omega) (fun j hj => absurd hj (by omega)) (Or.inl rfl)⟩)
      · have hall : ∀ i, i < 8 → s i ≤ q := by
          intro i hi
          obtain ⟨z1, z2, z3⟩ := hZ i hi
          cases hb : m.testBit i
          · rw [hb] at z3
            have : ¬ 0 < s i := of_decide_eq_false z3.symm
            omega
          · exact Nat.le_trans (h1 i hi hb) y
        exact br_f g1 (br_t g2' ⟨_, yd_ss15 hZ g3 (fun _ => ⟨rfl, rd_mk ⟨hm, q1, g3, hZ, ha, hall⟩⟩) (fun i hi z => absurd (hall i hi) (by omega)) 8 0 (by omega) (fun j hj => absurd hj (by omega))⟩)
      · refine br_f g1 (br_t g2' ⟨_, yd_ss15 hZ g3 (fun hall => ?_) (fun i hi z => ⟨rfl, rd_mk h⟩) 8 0 (by omega) (fun j hj => absurd hj (by omega))⟩)
        rcases h2 with z | ⟨i, hi, e⟩
        · omega
        · have := hall i hi; omega
/-! size, items, sizeOf -/
theorem i_vc_size {k : Nat} {u : SX} {v : SY} (I : i_Rel k u v) (hk : k + 3 ≤ 1537) : wpX_size (fun r => wpY_size (fun r' => r' = r ∧ i_Rel (k + 3) u v) v) u := by
  obtain ⟨m, R, s, as, ab, al, af, fn, bs, bi, bb, rfl, rfl, h⟩ := I
  exact ⟨rfl, rd_mk h⟩
theorem rd_tab0 : ∀ m, m < 256 → ∀ i, i < 8 → m.testBit i = false → nI (m % 2 ^ i) ||| 0 = nI (m % 2 ^ (i + 1)) := by decide +kernel
theorem rd_tab1 : ∀ m, m < 256 → ∀ i, i < 8 → m.testBit i = true → nI (m % 2 ^ i) ||| ((1 : Int32) <<< (nI i &&& 31)) = nI (m % 2 ^ (i + 1)) := by decide +kernel
theorem yd_it4 {post : Int32 → Prop} {m : Nat} {s : Nat → Nat} {fr fn : Int32} {as ai ab : Nat → Int32} (hm : m < 256) (hZ : yd_Z m s as) (hp : post (nI m)) : ∀ d i, i + d = 8 → wY_items_4 post fr fn as ai ab (d + 1) (nI (m % 2 ^ i)) (nI i) := by
  intro d
  induction d with
  | zero =>
    intro i hi
    obtain rfl : i = 8 := by omega
    refine br_t xd_88 ?_
    rw [Nat.mod_eq_of_lt hm]
    exact hp
  | succ d ih =>
    intro i hi
    have h8 : i < 8 := by omega
    exact br_f (xd_ge8 i h8) (yd_is2 hZ h8 (fun z => nm_r (rd_tab0 m hm i h8 z) (nm_r (nI_1 i) (ih (i + 1) (by omega)))) (fun z => nm_r (rd_tab1 m hm i h8 z) (nm_r (nI_1 i) (ih (i + 1) (by omega)))))
theorem i_vc_items {k : Nat} {u : SX} {v : SY} (I : i_Rel k u v) (hk : k + 3 ≤ 1537) : wpX_items (fun r => wpY_items (fun r' => r' = r ∧ i_Rel (k + 3) u v) v) u := by
  obtain ⟨m, R, s, as, ab, al, af, fn, bs, bi, bb, rfl, rfl, h⟩ := I
  have H := yd_it4 (post := fun r' => r' = nI m ∧ i_Rel (k + 3) (nI R, nI m, as, ab, al, af) (nI R, fn, bs, bi, bb)) (fr := nI R) (fn := fn) (ai := bi) (ab := bb) h.1 h.2.2.2.1 ⟨rfl, rd_mk h⟩ 8 0 (by omega)
  rw [Nat.pow_zero, Nat.mod_one] at H
  exact ⟨9, H⟩
theorem i_vc_sizeOf {k : Nat} {u : SX} {v : SY} (I : i_Rel k u v) (hk : k + 3 ≤ 1537) (v1 : Int32) : wpX_sizeOf (fun r => wpY_sizeOf (fun r' => r' = r ∧ i_Rel (k + 3) u v) v v1) u v1 := by
  obtain ⟨m, R, s, as, ab, al, af, fn, bs, bi, bb, rfl, rfl, h⟩ := I
  have h' := h
  obtain ⟨hm, r1, r2, hZ, ha, hs⟩ := h'
  unfold wpX_sizeOf wpY_sizeOf
  dsimp only
  rcases rd_item m v1 with ⟨i, hi, rfl, hb⟩ | hno
  · refine xd_itY hm hi hb (br_f (by decide) ⟨xd_in hi, yd_isY hZ hi hb (br_f (by decide) ⟨xd_in hi, ?_, rd_mk h⟩)⟩)
    rw [xd_cl (by omega), ha i hi hb]; exact (hZ i hi).1
  · exact xd_itN hm hno (br_t rfl (yd_isN hZ hno (br_t rfl ⟨rfl, rd_mk h⟩)))
end
section
/-! the methods that search -/
theorem rd_w {m R : Nat} {s : Nat → Nat} {as bs : Nat → Int32} (h : rd_R m R s as bs) : ∃ w : Nat → Nat, (∀ k, w k ≤ R) ∧ (∀ i, i < 8 → m.testBit i = true → w (bd_cnt m i) = s i) ∧ xd_W m w as := by
  obtain ⟨hm, r1, r2, hZ, ha, hs⟩ := h
  obtain ⟨w, h1, h2⟩ := bd_w (m := m) hs 8 (Nat.le_refl 8)
  exact ⟨w, h1, h2, fun k => Nat.le_trans (h1 k) r2, fun i hi hb => by rw [h2 i hi hb]; exact ha i hi hb⟩
theorem i_vc_least {k : Nat} {u : SX} {v : SY} (I : i_Rel k u v) (hk : k + 3 ≤ 1537) : wpX_least (fun r u' => wpY_least (fun r' v' => r' = r ∧ i_Rel (k + 3) u' v') v) u := by
  obtain ⟨m, R, s, as, ab, al, af, fn, bs, bi, bb, rfl, rfl, h⟩ := I
  obtain ⟨w, hwR, hws, hW⟩ := rd_w h
  unfold wpX_least
  dsimp only
  refine xd_pf h.1 h.2.2.1 hW hwR (fun v ab al af hL _ => ?_)
  dsimp only
  refine yd_le h.2.2.1 h.2.2.2.1 hwR hws (fun v' fn ai ab hL' => ⟨by rw [bd_L_one hL hL'], rd_mk h⟩)
theorem i_vc_leastWithout {k : Nat} {u : SX} {v : SY} (I : i_Rel k u v) (hk : k + 3 ≤ 1537) (v1 : Int32) : wpX_leastWithout (fun r u' => wpY_leastWithout (fun r' v' => r' = r ∧ i_Rel (k + 3) u' v') v v1) u v1 := by
  obtain ⟨m, R, s, as, ab, al, af, fn, bs, bi, bb, rfl, rfl, h⟩ := I
  have h' := h
  obtain ⟨hm, r1, r2, hZ, ha, hs⟩ := h'
  unfold wpX_leastWithout wpY_leastWithout
  dsimp only
  rcases rd_item m v1 with ⟨i, hi, rfl, hb⟩ | hno
  · refine xd_itY hm hi hb (br_f (by decide) ?_)
    unfold wpX_without
    dsimp only
    rw [xd_wo m hm i hi]
    have h2 := rd_rem h hi
    obtain ⟨w, hwR, hws, hW⟩ := rd_w h2
    refine xd_pf h2.1 r2 hW hwR (fun v ab al af hL _ => ?_)
    dsimp only
    refine yd_isY hZ hi hb (br_f (by decide) ⟨xd_in hi, nm_r (e' := bs i) (by rw [xd_cl (by omega)]) ⟨xd_in hi, nm_r (e' := upd bs i 0) (by rw [xd_cl (by omega)]) ?_⟩⟩)
    refine yd_le r2 h2.2.2.2.1 hwR hws (fun v' fn ai ab hL' => ⟨xd_in hi, nm_r (e' := bs) ?_ ⟨by rw [bd_L_one hL hL'], rd_mk h⟩⟩)
    rw [xd_cl (by omega)]
    funext j
    by_cases e : j = i
    · subst e; exact pk_us
    · rw [pk_un e]; exact pk_un e
  · exact xd_itN hm hno (br_t rfl (yd_isN hZ hno (br_t rfl ⟨rfl, rd_mk h⟩)))
theorem i_vc_binOf {k : Nat} {u : SX} {v : SY} (I : i_Rel k u v) (hk : k + 3 ≤ 1537) (v1 : Int32) : wpX_binOf (fun r u' => wpY_binOf (fun r' v' => r' = r ∧ i_Rel (k + 3) u' v') v v1) u v1 := by
  obtain ⟨m, R, s, as, ab, al, af, fn, bs, bi, bb, rfl, rfl, h⟩ := I
  have h' := h
  obtain ⟨hm, r1, r2, hZ, ha, hs⟩ := h'
  obtain ⟨w, hwR, hws, hW⟩ := rd_w h
  have hw60 : ∀ k, w k ≤ 60 := fun k => Nat.le_trans (hwR k) r2
  have hn := xd_le8 m
  unfold wpX_binOf wpY_binOf
  dsimp only
  rcases rd_item m v1 with ⟨i, hi, rfl, hb⟩ | hno
  · have hin := bd_cnt_lt hb hi
    refine xd_itY hm hi hb (br_f (by decide) ?_)
    refine xd_pf hm r2 hW hwR (fun v ab al af hL hf => ?_)
    obtain ⟨f, hF, hfa⟩ := hf
    dsimp only
    refine ⟨xd_in hi, ?_⟩
    refine yd_le r2 hZ hwR hws (fun v' fn ai ab hL' => ?_)
    obtain rfl := bd_L_one hL hL'
    dsimp only
    refine yd_fi hZ hw60 hws (fun ai ab hz hW' => ?_)
    dsimp only
    refine yd_isY hZ hi hb ⟨_, yd_bo18 hn (by omega) r2 hZ hW' hL hi hin (fun g ab hG => ⟨?_, rd_mk h⟩) 4141 0 (fun _ => 0) ab (Nat.zero_le _) (Nat.le_add_left _ _) (yd_zB hn hz) (fun c _ _ hl => absurd hl bd_zero_lt)⟩
    rw [xd_cl (by omega), hfa i hi hb, bd_F_one hF hG _ hin]
  · refine xd_itN hm hno (br_t rfl ?_)
    refine yd_le r2 hZ hwR hws (fun v' fn ai ab hL' => ?_)
    dsimp only
    refine yd_fi hZ hw60 hws (fun ai ab hz hW' => ?_)
    dsimp only
    exact yd_isN hZ hno ⟨1, br_f (by decide) (br_t rfl ⟨rfl, rd_mk h⟩)⟩
/-! spare -/
theorem xd_spare {post : Int32 → SX → Prop} {m R : Nat} {w : Nat → Nat} {as ab al af : Nat → Int32} (hm : m < 256) (hR : R ≤ 60) (hwR : ∀ k, w k ≤ R) (hW : xd_W m w as)
    (hp : ∀ v M ab al af, bd_L (bd_cnt m 8) w R v → bd_Sp (bd_cnt m 8) w R v M → post (nI M) (nI R, nI m, as, ab, al, af)) : wpX_spare post (nI R, nI m, as, ab, al, af) := by
  have hn := xd_le8 m
  unfold wpX_spare
  dsimp only
  refine xd_pf hm hR hW hwR (fun v ab al af hL _ => ?_)
  have hv := bd_L_le hL
  dsimp only
  by_cases h0 : v = 0
  · subst h0
    refine br_t (by decide) ?_
    unfold wX_spare_20
    refine xd_sg (fun ab hz => ?_)
    dsimp only
    exact ⟨1, br_t rfl (hp 0 0 ab al af hL ⟨fun _ _ _ _ d hd => absurd hd (Nat.not_lt_zero _), Or.inl rfl⟩)⟩
  · refine br_f (nI_nle (by omega) (by omega)) ?_
    unfold wX_spare_20
    refine xd_sg (fun ab hz => ?_)
    dsimp only
    exact ⟨_, xd_sp28 hm hR (by omega) (by omega) hW (fun M ab al af hS => hp v M ab al af hL hS) 4141 0 0 (fun _ => 0) ab al af (Nat.zero_le _) (Nat.le_add_left _ _) ⟨bd_zero_neat _, fun i hi _ => hz i hi⟩ (fun c _ _ _ hl => absurd hl bd_zero_lt) (Or.inl rfl)⟩
theorem yd_spare {post : Int32 → SY → Prop} {m R : Nat} {s w : Nat → Nat} {fn : Int32} {as ai ab : Nat → Int32} (hR : R ≤ 60) (hZ : yd_Z m s as) (hwR : ∀ k, w k ≤ R) (hws : ∀ i, i < 8 → m.testBit i = true → w (bd_cnt m i) = s i)
    (hp : ∀ v M fn ai ab, bd_L (bd_cnt m 8) w R v → bd_Sp (bd_cnt m 8) w R v M → post (nI M) (nI R, fn, as, ai, ab)) : wpY_spare post (nI R, fn, as, ai, ab) := by
  have hn := xd_le8 m
  unfold wpY_spare
  dsimp only
  refine yd_le hR hZ hwR hws (fun v fn ai ab hL => ?_)
  have hv := bd_L_le hL
  dsimp only
  refine yd_fi hZ (fun k => Nat.le_trans (hwR k) hR) hws (fun ai ab hz hW => ?_)
  dsimp only
  by_cases h0 : bd_cnt m 8 = 0
  · refine br_t ?_ ⟨1, br_f (by decide) (br_t rfl (hp v 0 _ ai ab hL ⟨fun _ _ _ _ d hd => absurd hd (by omega), Or.inl rfl⟩))⟩
    rw [h0]; decide
  · exact br_f (nI_nle (by omega) (by omega)) ⟨_, yd_sp27 hn (by omega) hR (by omega) hW (fun M ab hS => hp v M _ ai ab hL hS) 4141 0 0 (fun _ => 0) ab (Nat.zero_le _) (Nat.le_add_left _ _) (yd_zB hn hz) (fun c _ _ _ hl => absurd hl bd_zero_lt) (Or.inl rfl)⟩
theorem i_vc_spare {k : Nat} {u : SX} {v : SY} (I : i_Rel k u v) (hk : k + 3 ≤ 1537) : wpX_spare (fun r u' => wpY_spare (fun r' v' => r' = r ∧ i_Rel (k + 3) u' v') v) u := by
  obtain ⟨m, R, s, as, ab, al, af, fn, bs, bi, bb, rfl, rfl, h⟩ := I
  obtain ⟨w, hwR, hws, hW⟩ := rd_w h
  refine xd_spare h.1 h.2.2.1 hwR hW (fun v M ab al af hL hS => ?_)
  refine yd_spare h.2.2.1 h.2.2.2.1 hwR hws (fun v' M' fn ai ab hL' hS' => ⟨?_, rd_mk h⟩)
  obtain rfl := bd_L_one hL hL'
  rw [bd_Sp_one hS hS']
/-! sizeFor -/
theorem rd_cnt0 : ∀ m, m < 256 → bd_cnt m 8 = 0 → m = 0 := by decide +kernel
theorem rd_cnt00 : bd_cnt 0 8 = 0 := by decide +kernel
theorem rd_w0 {m R : Nat} {s w : Nat → Nat} {as bs : Nat → Int32} (h : rd_R m R s as bs) (hws : ∀ i, i < 8 → m.testBit i = true → w (bd_cnt m i) = s i) (hn : 0 < bd_cnt m 8) : 1 ≤ w 0 := by
  obtain ⟨i, hi, hb, e⟩ := bd_surj (m := m) 8 0 hn
  have h1 := hws i hi hb
  obtain ⟨_, _, z3⟩ := h.2.2.2.1 i hi
  rw [hb] at z3
  have : 0 < s i := of_decide_eq_true z3.symm
  rw [e] at h1
  omega
theorem i_vc_sizeFor {k : Nat} {u : SX} {v : SY} (I : i_Rel k u v) (hk : k + 3 ≤ 1537) (v1 : Int32) : wpX_sizeFor (fun r u' => wpY_sizeFor (fun r' v' => r' = r ∧ i_Rel (k + 3) u' v') v v1) u v1 := by
  obtain ⟨m, R, s, as, ab, al, af, fn, bs, bi, bb, rfl, rfl, h⟩ := I
  have h' := h
  obtain ⟨hm, r1, r2, hZ, ha, hs⟩ := h'
  obtain ⟨w, hwR, hws, hW⟩ := rd_w h
  have hw60 : ∀ k, w k ≤ 60 := fun k => Nat.le_trans (hwR k) r2
  have hn := xd_le8 m
  by_cases g1 : v1 < 1
  · refine br_t g1 ?_
    unfold wpY_sizeFor
    dsimp only
    refine yd_fi hZ hw60 hws (fun ai ab hz hW' => ?_)
    dsimp only
    exact br_c (fun _ => ⟨1, br_f (by decide) (br_t rfl ⟨rfl, rd_mk h⟩)⟩) (fun _ => br_t g1 ⟨1, br_f (by decide) (br_t rfl ⟨rfl, rd_mk h⟩)⟩)
  · by_cases g2 : 8 < v1
    · refine br_f g1 (br_t g2 ?_)
      unfold wpY_sizeFor
      dsimp only
      refine yd_fi hZ hw60 hws (fun ai ab hz hW' => ?_)
      dsimp only
      exact br_c (fun _ => ⟨1, br_f (by decide) (br_t rfl ⟨rfl, rd_mk h⟩)⟩) (fun _ => br_f g1 (br_t g2 ⟨1, br_f (by decide) (br_t rfl ⟨rfl, rd_mk h⟩)⟩))
    · obtain ⟨q, q1, q2, rfl⟩ := rd_of g1
      have q3 : q ≤ 8 := by
        have := (not_congr (nI_ltI (a := 8) (b := q) (by decide) q2)).mp g2
        omega
      by_cases h0 : bd_cnt m 8 = 0
      · obtain rfl := rd_cnt0 m hm h0
        refine br_f g1 (br_f g2 (br_t rfl ?_))
        unfold wpY_sizeFor
        dsimp only
        refine yd_fi hZ hw60 hws (fun ai ab hz hW' => ?_)
        dsimp only
        refine br_t ?_ ⟨1, br_f (by decide) (br_t rfl ⟨rfl, rd_mk h⟩)⟩
        rw [rd_cnt00]; decide
      · have hm0 : ¬ nI m = 0 := by
          refine nI_ne0 ?_ (by omega)
          by_cases e : m = 0
          · subst e; exact absurd rd_cnt00 h0
          · omega
        refine br_f g1 (br_f g2 (br_f hm0 ?_))
        refine xd_sg (fun ab hz => ?_)
        dsimp only
        refine ⟨_, xd_sf33 hm q3 hW (by omega) (rd_w0 h hws (by omega)) (fun v ab al af hv hlow hI => ?_) 4141 0 481 (fun _ => 0) ab al af (Nat.zero_le _) (Nat.le_add_left _ _) ⟨bd_zero_neat _, fun i hi _ => hz i hi⟩ (by decide) (by decide) (fun c _ _ hl => absurd hl bd_zero_lt) (Or.inl rfl)⟩
        have hZ1 : bd_Z (bd_cnt m 8) w q v := by
          refine ⟨hlow, ?_⟩
          rcases hI with z | z
          · obtain ⟨e, he⟩ := hlow _ (bd_zero_neat _) (Nat.le_trans (bd_zero_mx _) q1)
            have := xd_ld480 (b := fun _ => 0) hW e
            omega
          · exact z
        unfold wpY_sizeFor
        dsimp only
        refine yd_fi hZ hw60 hws (fun ai ab hz hW' => ?_)
        dsimp only
        refine br_f (nI_nle (by omega) (by omega)) (br_f g1 (br_f g2 ⟨_, yd_sf33 hn (by omega) q1 q3 hW' (fun v' ab hZ2 => ⟨by rw [bd_Z_one hZ1 hZ2], rd_mk h⟩) 4141 0 (-1) (fun _ => 0) ab (Nat.zero_le _) (Nat.le_add_left _ _) (yd_zB hn hz) (Or.inl ⟨rfl, fun c _ hl => absurd hl bd_zero_lt⟩)⟩))
/-! together -/
theorem i_vc_together {k : Nat} {u : SX} {v : SY} (I : i_Rel k u v) (hk : k + 3 ≤ 1537) (v1 : Int32) (v2 : Int32) : wpX_together (fun r u' => wpY_together (fun r' v' => r' = r ∧ i_Rel (k + 3) u' v') v v1 v2) u v1 v2 := by
  obtain ⟨m, R, s, as, ab, al, af, fn, bs, bi, bb, rfl, rfl, h⟩ := I
  have h' := h
  obtain ⟨hm, r1, r2, hZ, ha, hs⟩ := h'
  obtain ⟨w, hwR, hws, hW⟩ := rd_w h
  have hw60 : ∀ k, w k ≤ 60 := fun k => Nat.le_trans (hwR k) r2
  have hn := xd_le8 m
  unfold wpX_together wpY_together
  dsimp only
  rcases rd_item m v1 with ⟨i, hi, rfl, hb⟩ | hno
  · refine xd_itY hm hi hb (br_f (by decide) ?_)
    rcases rd_item m v2 with ⟨j, hj, rfl, hbj⟩ | hno
    · refine xd_itY hm hj hbj (br_f (by decide) ?_)
      by_cases e : nI i = nI j
      · refine br_t e ?_
        refine yd_le r2 hZ hwR hws (fun v' fn ai ab hL' => ?_)
        dsimp only
        refine yd_fi hZ hw60 hws (fun ai ab hz hW' => ?_)
        dsimp only
        exact yd_isY hZ hi hb (br_f (by decide) (yd_isY hZ hj hbj (br_f (by decide) (br_t e ⟨1, br_f (by decide) (br_t rfl ⟨rfl, rfl, rd_mk h⟩)⟩))))
      · have hin := bd_cnt_lt hb hi
        have hjn := bd_cnt_lt hbj hj
        refine br_f e ?_
        refine xd_pf hm r2 hW hwR (fun v ab al af hL _ => ?_)
        have hv := bd_L_le hL
        dsimp only
        refine xd_sg (fun ab hz => ?_)
        dsimp only
        have Y : ∀ (r : Int32) (u' : SX), (∀ fn ai ab, i_Rel (k + 3) u' (nI R, fn, bs, ai, ab)) → ((r = 1 ∧ bd_T (bd_cnt m 8) w R v (bd_cnt m i) (bd_cnt m j)) ∨ (r = 0 ∧ ¬ bd_T (bd_cnt m 8) w R v (bd_cnt m i) (bd_cnt m j))) →
            wpY_together (fun r' v' => r' = r ∧ i_Rel (k + 3) u' v') (nI R, fn, bs, bi, bb) (nI i) (nI j) := by
          intro r u' hu hr
          unfold wpY_together
          dsimp only
          refine yd_le r2 hZ hwR hws (fun v' fn ai ab hL' => ?_)
          obtain rfl := bd_L_one hL hL'
          dsimp only
          refine yd_fi hZ hw60 hws (fun ai ab hz hW' => ?_)
          dsimp only
          refine yd_isY hZ hi hb (br_f (by decide) (yd_isY hZ hj hbj (br_f (by decide) (br_f e ⟨_, yd_tg43 hn (by omega) r2 (by omega) hZ hW' hi hj hin hjn (fun ab hT => ⟨?_, hu _ _ _⟩) (fun ab hT => ⟨?_, hu _ _ _⟩) 4141 0 0 (fun _ => 0) ab (Nat.zero_le _) (Nat.le_add_left _ _) (yd_zB hn hz) (Or.inl ⟨rfl, fun c _ _ _ hl => absurd hl bd_zero_lt⟩)⟩))))
          · rcases hr with ⟨z, _⟩ | ⟨_, z⟩
            · exact z.symm
            · exact absurd hT z
          · rcases hr with ⟨_, z⟩ | ⟨z, _⟩
            · exact absurd z hT
            · exact z.symm
        exact ⟨_, xd_tg42 hm r2 (by omega) hi hj hb hbj hW (fun ab al af hT => Y 1 _ (fun _ _ _ => rd_mk h) (Or.inl ⟨rfl, hT⟩)) (fun ab al af hT => Y 0 _ (fun _ _ _ => rd_mk h) (Or.inr ⟨rfl, hT⟩)) 4141 0 (fun _ => 0) ab al af (Nat.zero_le _) (Nat.le_add_left _ _) ⟨bd_zero_neat _, fun i hi _ => hz i hi⟩ (fun c _ _ _ hl => absurd hl bd_zero_lt)⟩
    · refine xd_itN hm hno (br_t rfl ?_)
      refine yd_le r2 hZ hwR hws (fun v' fn ai ab hL' => ?_)
      dsimp only
      refine yd_fi hZ hw60 hws (fun ai ab hz hW' => ?_)
      dsimp only
      exact yd_isY hZ hi hb (br_f (by decide) (yd_isN hZ hno (br_t rfl ⟨1, br_f (by decide) (br_t rfl ⟨rfl, rfl, rd_mk h⟩)⟩)))
  · refine xd_itN hm hno (br_t rfl ?_)
    refine yd_le r2 hZ hwR hws (fun v' fn ai ab hL' => ?_)
    dsimp only
    refine yd_fi hZ hw60 hws (fun ai ab hz hW' => ?_)
    dsimp only
    exact yd_isN hZ hno (br_t rfl ⟨1, br_f (by decide) (br_t rfl ⟨rfl, rfl, rd_mk h⟩)⟩)
end
