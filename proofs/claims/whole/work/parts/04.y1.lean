/-! the reference's private methods -/
def yd_Z (m : Nat) (s : Nat → Nat) (as : Nat → Int32) : Prop := ∀ i, i < 8 → as i = nI (s i) ∧ s i ≤ 60 ∧ m.testBit i = decide (0 < s i)
theorem yd_is {post : Int32 → Prop} {m i : Nat} {s : Nat → Nat} {fr fn : Int32} {as ai ab : Nat → Int32} (hZ : yd_Z m s as) (hi : i < 8) (h0 : m.testBit i = false → post 0) (h1 : m.testBit i = true → post 1) : wpY_is post (fr, fn, as, ai, ab) (nI i) := by
  obtain ⟨z1, z2, z3⟩ := hZ i hi
  have e1 : as (nI i).toNatClampNeg = nI (s i) := by rw [xd_cl (by omega)]; exact z1
  refine br_f (nI_pos (by omega)) (br_f (xd_ge8 i hi) ⟨xd_in hi, pk_le (s i) 0 (fun z => h0 ?_) (fun z => h1 ?_) (hx := e1)⟩)
  · rw [z3]; exact decide_eq_false (by omega)
  · rw [z3]; exact decide_eq_true z
theorem yd_is2 {A B : Prop} {m i : Nat} {s : Nat → Nat} {fr fn : Int32} {as ai ab : Nat → Int32} (hZ : yd_Z m s as) (hi : i < 8) (f : m.testBit i = false → A) (g : m.testBit i = true → B) : wpY_is (fun r => (r = 0 → A) ∧ (¬ r = 0 → B)) (fr, fn, as, ai, ab) (nI i) :=
  yd_is hZ hi (fun h => br_t rfl (f h)) (fun h => br_f (by decide) (g h))
theorem yd_isN {post : Int32 → Prop} {m : Nat} {p : Int32} {s : Nat → Nat} {fr fn : Int32} {as ai ab : Nat → Int32} (hZ : yd_Z m s as) (hno : ∀ i, i < 8 → p = nI i → m.testBit i = false) (h0 : post 0) : wpY_is post (fr, fn, as, ai, ab) p := by
  rcases pk_ix p (n := 8) (by decide) with z | z | ⟨i, hi, rfl⟩
  · exact br_t z h0
  · exact br_c (fun _ => h0) (fun _ => br_t z h0)
  · exact yd_is hZ hi (fun _ => h0) (fun h => absurd h (by rw [hno i hi rfl]; decide))
def yd_W (n : Nat) (w : Nat → Nat) (as ai : Nat → Int32) : Prop := (∀ k, w k ≤ 60) ∧ ∀ k, k < n → ∃ i, i < 8 ∧ ai k = nI i ∧ as i = nI (w k)
def yd_B (n : Nat) (b : Nat → Nat) (ab : Nat → Int32) : Prop := bd_neat b n ∧ ∀ k, k < n → ab k = nI (b k)
theorem yd_fi7 {post : SY → Prop} {m : Nat} {s : Nat → Nat} {fr : Int32} {as : Nat → Int32} (hZ : yd_Z m s as)
    (hp : ∀ ai ab, (∀ j, j < 8 → ab j = 0) → (∀ k, k < bd_cnt m 8 → ∃ j, j < 8 ∧ m.testBit j = true ∧ bd_cnt m j = k ∧ ai k = nI j) → post (fr, nI (bd_cnt m 8), as, ai, ab)) :
    ∀ d i ai ab, i + d = 8 → (∀ j, j < i → ab j = 0) → (∀ k, k < bd_cnt m i → ∃ j, j < 8 ∧ m.testBit j = true ∧ bd_cnt m j = k ∧ ai k = nI j) → wY_first_7 post fr (d + 1) (nI i) (nI (bd_cnt m i)) as ai ab := by
  intro d
  induction d with
  | zero =>
    intro i ai ab hi h1 h2
    obtain rfl : i = 8 := by omega
    exact br_t xd_88 (hp ai ab h1 h2)
  | succ d ih =>
    intro i ai ab hi h1 h2
    have h8 : i < 8 := by omega
    have hc := bd_cnt_le m i
    have hz : ∀ j, j < i + 1 → upd ab i 0 j = 0 := by
      intro j hj
      by_cases hj2 : j = i
      · subst hj2; exact pk_us
      · rw [pk_un hj2]; exact h1 j (by omega)
    refine br_f (xd_ge8 i h8) ⟨xd_in h8, nm_r (e' := upd ab i 0) (by rw [xd_cl (by omega)]) (yd_is2 hZ h8 (fun h => nm_r (nI_1 i) ?_) (fun h => ⟨xd_in (by omega), nm_r (e' := upd ai (bd_cnt m i) (nI i)) (by rw [xd_cl (by omega)]) (nm_r (nI_1 (bd_cnt m i)) (nm_r (nI_1 i) ?_))⟩))⟩
    · have H := ih (i + 1) ai (upd ab i 0) (by omega) hz (by rw [bd_cnt_s0 h]; exact h2)
      rw [bd_cnt_s0 h] at H
      exact H
    · have H := ih (i + 1) (upd ai (bd_cnt m i) (nI i)) (upd ab i 0) (by omega) hz (by
        rw [bd_cnt_s1 h]
        intro k hk
        by_cases hk2 : k = bd_cnt m i
        · subst hk2; exact ⟨i, h8, h, rfl, pk_us⟩
        · obtain ⟨j, j1, j2, j3, j4⟩ := h2 k (by omega)
          exact ⟨j, j1, j2, j3, by rw [pk_un hk2]; exact j4⟩)
      rw [bd_cnt_s1 h] at H
      exact H
theorem yd_fi {post : SY → Prop} {m : Nat} {s w : Nat → Nat} {fr fn : Int32} {as ai ab : Nat → Int32} (hZ : yd_Z m s as) (hw : ∀ k, w k ≤ 60) (hws : ∀ i, i < 8 → m.testBit i = true → w (bd_cnt m i) = s i)
    (hp : ∀ ai ab, (∀ j, j < 8 → ab j = 0) → yd_W (bd_cnt m 8) w as ai → post (fr, nI (bd_cnt m 8), as, ai, ab)) : wpY_first post (fr, fn, as, ai, ab) :=
  ⟨9, yd_fi7 hZ (fun ai ab h1 h2 => hp ai ab h1 ⟨hw, fun k hk => by
    obtain ⟨j, j1, j2, j3, j4⟩ := h2 k hk
    exact ⟨j, j1, j4, by rw [← j3, hws j j1 j2]; exact (hZ j j1).1⟩⟩) 8 0 ai ab (by omega) (fun j hj => absurd hj (by omega)) (fun k hk => absurd hk (Nat.not_lt_zero _))⟩
/-! greatest -/
theorem yd_gle : ∀ v, v < 9 → ∀ b, b < 9 → (nI b ≤ nI v - 1 ↔ b < v) := by decide +kernel
theorem yd_glt : ∀ v, v < 9 → ∀ b, b < 9 → (nI v - 1 < nI b ↔ v ≤ b) := by decide +kernel
theorem yd_g1 (v : Nat) : nI v - 1 + 1 = nI v := Int32.sub_add_cancel _ _
theorem yd_gm (v : Nat) : nI v = nI (v + 1) - 1 := by rw [← nI_1, Int32.add_sub_cancel]
theorem yd_gr4 {post : Int32 → Prop} {n k : Nat} {b : Nat → Nat} {fr fn : Int32} {as ai ab : Nat → Int32} (hn : n ≤ 8) (hk : k ≤ n) (hB : yd_B n b ab) (hp : post (nI (bd_mx b k) - 1)) : ∀ d i, i + d = k → wY_greatest_4 post (nI k) fr fn as ai ab (d + 1) (nI (bd_mx b i) - 1) (nI i) := by
  intro d
  induction d with
  | zero =>
    intro i hi
    obtain rfl : i = k := by omega
    exact br_t (nI_le (Nat.le_refl _) (by omega)) hp
  | succ d ih =>
    intro i hi
    have h8 : i < 8 := by omega
    have e1 : ab (nI i).toNatClampNeg = nI (b i) := by rw [xd_cl (by omega)]; exact hB.2 i (by omega)
    have b1 := bd_b_le hB.1 (k := i) (by omega)
    have b2 := bd_mx_le hB.1 i (by omega)
    have H := ih (i + 1) (by omega)
    have hq := yd_gle (bd_mx b i) (by omega) (b i) (by omega)
    refine br_f (nI_ge (by omega) (by omega)) ⟨xd_in h8, br_c (fun z => nm_r (nI_1 i) ?_) (fun z => ⟨xd_in h8, nm_r (e' := nI (b i + 1) - 1) (by rw [e1]; exact yd_gm _) (nm_r (nI_1 i) ?_)⟩)⟩
    · rw [e1, hq] at z
      rw [bd_mx_s0 (by omega)] at H
      exact H
    · rw [e1, hq] at z
      rw [bd_mx_s1 (by omega)] at H
      exact H
theorem yd_gr {post : Int32 → Prop} {n : Nat} (k : Nat) {b : Nat → Nat} {fr fn : Int32} {as ai ab : Nat → Int32} (hn : n ≤ 8) (hk : k ≤ n) (hB : yd_B n b ab) (hp : post (nI (bd_mx b k) - 1)) : wpY_greatest post (fr, fn, as, ai, ab) (nI k) :=
  ⟨k + 1, yd_gr4 hn hk hB hp k 0 (by omega)⟩
/-! next -/
theorem yd_ne39 {post : Int32 → SY → Prop} {n : Nat} {fr : Int32} {as ai : Nat → Int32} (hn : n ≤ 8) : ∀ d i ab, i + d = n → (∀ ab', (∀ j, j < i → ab' j = ab j) → (∀ j, i ≤ j → j < n → ab' j = 0) → post 1 (fr, nI n, as, ai, ab')) → wY_next_39 post fr (nI n) (d + 1) (nI i) as ai ab := by
  intro d
  induction d with
  | zero =>
    intro i ab hi h
    obtain rfl : i = n := by omega
    exact br_t (nI_le (Nat.le_refl _) (by omega)) (h ab (fun _ _ => rfl) (fun j h1 h2 => absurd h1 (by omega)))
  | succ d ih =>
    intro i ab hi h
    refine br_f (nI_ge (by omega) (by omega)) ⟨xd_in (by omega), nm_r (e' := upd ab i 0) (by rw [xd_cl (by omega)]) (nm_r (nI_1 i) (ih (i + 1) _ (by omega) (fun ab' h1 h2 => h ab' (fun j hj => ?_) (fun j hj hj8 => ?_))))⟩
    · rw [h1 j (by omega), pk_un (by omega)]
    · by_cases hj2 : j = i
      · subst hj2; rw [h1 j (by omega)]; exact pk_us
      · exact h2 j (by omega) hj8
theorem yd_ne7 {post : Int32 → SY → Prop} {n : Nat} {b : Nat → Nat} {fr : Int32} {as ai ab : Nat → Int32} (hn : n ≤ 8) (hn0 : 0 < n) (hB : yd_B n b ab)
    (h0 : bd_Fin n n b → post 0 (fr, nI n, as, ai, ab))
    (h1 : ∀ b' ab', bd_Go n n b b' → yd_B n b' ab' → post 1 (fr, nI n, as, ai, ab')) :
    ∀ i, i < n → (∀ j, i < j → j < n → b j = bd_mx b j) → wY_next_7 post fr (nI n) as ai ab (i + 1) (nI i) := by
  intro i
  induction i with
  | zero =>
    intro _ hmx
    refine br_t (nI_le (Nat.le_refl 0) (by decide)) (h0 (bd_fin (Nat.le_refl _) (fun j hj => ?_)))
    by_cases hj0 : j = 0
    · subst hj0
      have := hB.1 0 hn0
      have z : bd_mx b 0 = 0 := rfl
      omega
    · exact hmx j (by omega) hj
  | succ i ih =>
    intro hi hmx
    have e1 : ab (nI (i + 1)).toNatClampNeg = nI (b (i + 1)) := by rw [xd_cl (by omega)]; exact hB.2 (i + 1) hi
    have b1 := hB.1 (i + 1) hi
    have b2 := bd_mx_le hB.1 (i + 1) (by omega)
    have hq := yd_glt (bd_mx b (i + 1)) (by omega) (b (i + 1)) (by omega)
    refine br_f (nI_nle (by omega) (by omega)) ⟨xd_in (by omega), yd_gr (i + 1) hn (by omega) hB (br_c (fun z => nm_r (pk_m1 i) (ih (by omega) (fun j hj hj2 => ?_))) (fun z => ⟨xd_in (by omega), xd_in (by omega), nm_r (e' := upd ab (i + 1) (nI (b (i + 1) + 1))) (by rw [e1, xd_cl (by omega), nI_1]) (nm_r (nI_1 (i + 1)) ⟨_, yd_ne39 hn (n - (i + 1 + 1)) (i + 1 + 1) _ (by omega) (fun ab' k1 k2 => ?_)⟩)⟩))⟩
    · rw [e1, hq] at z
      by_cases hjj : j = i + 1
      · subst hjj; omega
      · exact hmx j (by omega) hj2
    · rw [e1, hq] at z
      have hgo : bd_Go n n b (bd_nx b (i + 1)) := bd_go hB.1 hi (Nat.le_refl _) (by omega) (fun j hj hj2 => hmx j (by omega) hj2)
      refine h1 _ ab' hgo ⟨hgo.1, fun j hj => ?_⟩
      by_cases hj1 : j < i + 1
      · rw [k1 j (by omega), pk_un (by omega), bd_nx_lo hj1]; exact hB.2 j hj
      · by_cases hj3 : j = i + 1
        · subst hj3; rw [k1 (i + 1) (by omega), bd_nx_at]; exact pk_us
        · rw [k2 j (by omega) hj, bd_nx_hi (by omega)]; rfl
theorem yd_ne {post : Int32 → SY → Prop} {n : Nat} {b : Nat → Nat} {fr : Int32} {as ai ab : Nat → Int32} (hn : n ≤ 8) (hn0 : 0 < n) (hB : yd_B n b ab)
    (h0 : bd_Fin n n b → post 0 (fr, nI n, as, ai, ab))
    (h1 : ∀ b' ab', bd_Go n n b b' → yd_B n b' ab' → post 1 (fr, nI n, as, ai, ab')) : wpY_next post (fr, nI n, as, ai, ab) :=
  nm_r (e' := nI (n - 1)) (pk_sub (b := 1) hn0) ⟨_, yd_ne7 hn hn0 hB h0 h1 (n - 1) (by omega) (fun j hj hj2 => by omega)⟩
/-! load, extreme -/
theorem yd_lo4 {post : Int32 → Prop} {n c : Nat} {b w : Nat → Nat} {fr : Int32} {as ai ab : Nat → Int32} (hn : n ≤ 8) (hc : c ≤ 480) (hB : yd_B n b ab) (hW : yd_W n w as ai) (hp : post (nI (bd_ld b w c n))) : ∀ d i, i + d = n → wY_load_4 post (nI c) fr (nI n) as ai ab (d + 1) (nI (bd_ld b w c i)) (nI i) := by
  intro d
  induction d with
  | zero =>
    intro i hi
    obtain rfl : i = n := by omega
    exact br_t (nI_le (Nat.le_refl _) (by omega)) hp
  | succ d ih =>
    intro i hi
    have h8 : i < 8 := by omega
    have e1 : ab (nI i).toNatClampNeg = nI (b i) := by rw [xd_cl (by omega)]; exact hB.2 i (by omega)
    have b1 := bd_b_le hB.1 (k := i) (by omega)
    obtain ⟨j, j1, j2, j3⟩ := hW.2 i (by omega)
    have e2 : ai (nI i).toNatClampNeg = nI j := by rw [xd_cl (by omega)]; exact j2
    have v2 : vp_in (ai (nI i).toNatClampNeg) 8 := by rw [e2]; exact xd_in j1
    have H := ih (i + 1) (by omega)
    refine br_f (nI_ge (by omega) (by omega)) ⟨xd_in h8, pk_eq (b i) c (fun z => ⟨xd_in h8, v2, nm_r (e' := nI (bd_ld b w c i + w i)) (by rw [e2, xd_cl (by omega), j3, nI_add]) (nm_r (nI_1 i) ?_)⟩) (fun z => nm_r (nI_1 i) ?_) (hx := e1)⟩
    · rw [bd_ld_s1 z] at H
      exact H
    · rw [bd_ld_s0 z] at H
      exact H
theorem yd_lo {post : Int32 → Prop} {n : Nat} (c : Nat) {b w : Nat → Nat} {fr : Int32} {as ai ab : Nat → Int32} (hn : n ≤ 8) (hc : c ≤ 480) (hB : yd_B n b ab) (hW : yd_W n w as ai) (hp : post (nI (bd_ld b w c n))) : wpY_load post (fr, nI n, as, ai, ab) (nI c) :=
  ⟨n + 1, yd_lo4 hn hc hB hW hp n 0 (by omega)⟩
theorem yd_ld480 {n : Nat} {b w : Nat → Nat} {as ai : Nat → Int32} (hn : n ≤ 8) (hW : yd_W n w as ai) (c : Nat) : bd_ld b w c n ≤ 480 := by
  have h1 := bd_ld_le (b := b) (c := c) hW.1 n
  omega
theorem yd_mx1 {post : Int32 → Prop} {n : Nat} {b w : Nat → Nat} {fr : Int32} {as ai ab : Nat → Int32} (hn : n ≤ 8) (hB : yd_B n b ab) (hW : yd_W n w as ai)
    (hp : ∀ M, M ≤ 480 → (∀ c, c < bd_mx b n → bd_ld b w c n ≤ M) → (∃ c, c < bd_mx b n ∧ bd_ld b w c n = M) → post (nI M)) :
    ∀ d i M, i + d = bd_mx b n → (∀ c, c < i → bd_ld b w c n ≤ M) → (∃ c, c < i ∧ bd_ld b w c n = M) → wY_extreme_18 post 1 (nI (bd_mx b n) - 1) fr (nI n) as ai ab (d + 1) (nI M) (nI i) := by
  have hx := bd_mx_le hB.1 n (Nat.le_refl _)
  intro d
  induction d with
  | zero =>
    intro i M hi h1 h2
    obtain rfl : i = bd_mx b n := by omega
    have b2 : M ≤ 480 := by obtain ⟨c, _, rfl⟩ := h2; exact yd_ld480 hn hW c
    exact br_t ((yd_glt _ (by omega) _ (by omega)).mpr (Nat.le_refl _)) (hp M b2 h1 h2)
  | succ d ih =>
    intro i M hi h1 h2
    have b1 := yd_ld480 (b := b) hn hW i
    have b2 : M ≤ 480 := by obtain ⟨c, _, rfl⟩ := h2; exact yd_ld480 hn hW c
    refine br_f (fun z => absurd ((yd_glt _ (by omega) _ (by omega)).mp z) (by omega)) (yd_lo i hn (by omega) hB hW (br_f (by decide) (pk_le (bd_ld b w i n) M (fun z => nm_r (nI_1 i) (ih (i + 1) M (by omega) ?_ ?_)) (fun z => nm_r (nI_1 i) (ih (i + 1) (bd_ld b w i n) (by omega) ?_ ?_)))))
    · intro c hc
      by_cases hc2 : c = i
      · subst hc2; exact z
      · exact h1 c (by omega)
    · obtain ⟨c, hc, e⟩ := h2
      exact ⟨c, by omega, e⟩
    · intro c hc
      by_cases hc2 : c = i
      · subst hc2; exact Nat.le_refl _
      · have := h1 c (by omega); omega
    · exact ⟨i, by omega, rfl⟩
theorem yd_ex1 {post : Int32 → Prop} {n : Nat} {b w : Nat → Nat} {fr : Int32} {as ai ab : Nat → Int32} (hn : n ≤ 8) (hn0 : 0 < n) (hB : yd_B n b ab) (hW : yd_W n w as ai)
    (hp : ∀ M, M ≤ 480 → bd_fit b w n M → (∃ c, bd_ld b w c n = M) → post (nI M)) : wpY_extreme post (fr, nI n, as, ai, ab) 1 := by
  have hx := bd_mx_pos (b := b) hn0
  refine yd_lo 0 hn (by omega) hB hW (yd_gr n hn (Nat.le_refl _) hB ⟨_, yd_mx1 hn hB hW (fun M h1 h2 h3 => ?_) (bd_mx b n - 1) 1 (bd_ld b w 0 n) (by omega) (fun c hc => ?_) ⟨0, by omega, rfl⟩⟩)
  · obtain ⟨c, _, e⟩ := h3
    refine hp M h1 (fun c => ?_) ⟨c, e⟩
    by_cases hc : c < bd_mx b n
    · exact h2 c hc
    · rw [bd_ld_zero _ (by omega)]; exact Nat.zero_le _
  · obtain rfl : c = 0 := by omega
    exact Nat.le_refl _
theorem yd_mn0 {post : Int32 → Prop} {n : Nat} {b w : Nat → Nat} {fr : Int32} {as ai ab : Nat → Int32} (hn : n ≤ 8) (hB : yd_B n b ab) (hW : yd_W n w as ai)
    (hp : ∀ M, M ≤ 480 → (∀ c, c < bd_mx b n → M ≤ bd_ld b w c n) → (∃ c, c < bd_mx b n ∧ bd_ld b w c n = M) → post (nI M)) :
    ∀ d i M, i + d = bd_mx b n → (∀ c, c < i → M ≤ bd_ld b w c n) → (∃ c, c < i ∧ bd_ld b w c n = M) → wY_extreme_18 post 0 (nI (bd_mx b n) - 1) fr (nI n) as ai ab (d + 1) (nI M) (nI i) := by
  have hx := bd_mx_le hB.1 n (Nat.le_refl _)
  intro d
  induction d with
  | zero =>
    intro i M hi h1 h2
    obtain rfl : i = bd_mx b n := by omega
    have b2 : M ≤ 480 := by obtain ⟨c, _, rfl⟩ := h2; exact yd_ld480 hn hW c
    exact br_t ((yd_glt _ (by omega) _ (by omega)).mpr (Nat.le_refl _)) (hp M b2 h1 h2)
  | succ d ih =>
    intro i M hi h1 h2
    have b1 := yd_ld480 (b := b) hn hW i
    have b2 : M ≤ 480 := by obtain ⟨c, _, rfl⟩ := h2; exact yd_ld480 hn hW c
    refine br_f (fun z => absurd ((yd_glt _ (by omega) _ (by omega)).mp z) (by omega)) (yd_lo i hn (by omega) hB hW (br_t rfl (pk_le M (bd_ld b w i n) (fun z => nm_r (nI_1 i) (ih (i + 1) M (by omega) ?_ ?_)) (fun z => nm_r (nI_1 i) (ih (i + 1) (bd_ld b w i n) (by omega) ?_ ?_)))))
    · intro c hc
      by_cases hc2 : c = i
      · subst hc2; exact z
      · exact h1 c (by omega)
    · obtain ⟨c, hc, e⟩ := h2
      exact ⟨c, by omega, e⟩
    · intro c hc
      by_cases hc2 : c = i
      · subst hc2; exact Nat.le_refl _
      · have := h1 c (by omega); omega
    · exact ⟨i, by omega, rfl⟩
theorem yd_ex0 {post : Int32 → Prop} {n : Nat} {b w : Nat → Nat} {fr : Int32} {as ai ab : Nat → Int32} (hn : n ≤ 8) (hn0 : 0 < n) (hB : yd_B n b ab) (hW : yd_W n w as ai)
    (hp : ∀ M, M ≤ 480 → (∀ c, c < bd_mx b n → M ≤ bd_ld b w c n) → (∃ c, c < bd_mx b n ∧ bd_ld b w c n = M) → post (nI M)) : wpY_extreme post (fr, nI n, as, ai, ab) 0 := by
  have hx := bd_mx_pos (b := b) hn0
  refine yd_lo 0 hn (by omega) hB hW (yd_gr n hn (Nat.le_refl _) hB ⟨_, yd_mn0 hn hB hW hp (bd_mx b n - 1) 1 (bd_ld b w 0 n) (by omega) (fun c hc => ?_) ⟨0, by omega, rfl⟩⟩)
  obtain rfl : c = 0 := by omega
  exact Nat.le_refl _
/-! rank -/
theorem yd_and7 : ∀ v, v < 8 → nI v &&& 7 = nI v := by decide +kernel
theorem yd_ra4 {post : Int32 → Prop} {m q : Nat} {s : Nat → Nat} {fr fn : Int32} {as ai ab : Nat → Int32} (hZ : yd_Z m s as) (hq : q < 8) (hp : post (nI (bd_cnt m q))) : ∀ d i, i + d = q → wY_rank_4 post (nI q) fr fn as ai ab (d + 1) (nI (bd_cnt m i)) (nI i) := by
  intro d
  induction d with
  | zero =>
    intro i hi
    obtain rfl : i = q := by omega
    have hc := bd_cnt_le m i
    refine br_t (nI_le (Nat.le_refl _) (by omega)) ?_
    rw [yd_and7 _ (by omega)]
    exact hp
  | succ d ih =>
    intro i hi
    have H := ih (i + 1) (by omega)
    refine br_f (nI_ge (by omega) (by omega)) (br_f (xd_ge8 i (by omega)) (yd_is2 hZ (by omega) (fun h => nm_r (Int32.add_zero _) (nm_r (nI_1 i) ?_)) (fun h => nm_r (nI_1 _) (nm_r (nI_1 i) ?_))))
    · rw [bd_cnt_s0 h] at H
      exact H
    · rw [bd_cnt_s1 h] at H
      exact H
theorem yd_ra {post : Int32 → Prop} {m q : Nat} {s : Nat → Nat} {fr fn : Int32} {as ai ab : Nat → Int32} (hZ : yd_Z m s as) (hq : q < 8) (hp : post (nI (bd_cnt m q))) : wpY_rank post (fr, fn, as, ai, ab) (nI q) :=
  ⟨q + 1, yd_ra4 hZ hq hp q 0 (by omega)⟩
