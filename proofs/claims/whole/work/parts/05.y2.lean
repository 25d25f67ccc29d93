/-! the reference's searches -/
theorem yd_4140 {t : Nat} (h : t < 4140) : ¬ (4140 : Int32) ≤ nI t := nI_ge (b := 4140) h (by decide)
theorem yd_le33 {post : Int32 → SY → Prop} {n R : Nat} (hn : n ≤ 8) (hn0 : 0 < n) (hR : R ≤ 60) {w : Nat → Nat} {as ai : Nat → Int32} (hW : yd_W n w as ai)
    (hp : ∀ v ab, v ≤ 9 → (∀ c, bd_neat c n → bd_fit c w n R → v ≤ bd_mx c n) → (v = 9 ∨ ∃ f, bd_neat f n ∧ bd_fit f w n R ∧ bd_mx f n = v) → post (nI v) (nI R, nI n, as, ai, ab)) :
    ∀ d t v b ab, t ≤ bd_S b n n → 4141 ≤ bd_S b n n + d → yd_B n b ab → v ≤ 9 →
      (∀ c, bd_neat c n → bd_fit c w n R → bd_lt c b n → v ≤ bd_mx c n) → (v = 9 ∨ ∃ f, bd_neat f n ∧ bd_fit f w n R ∧ bd_mx f n = v) →
      wY_least_33 post (d + 1) (nI v) 1 (nI t) (nI R) (nI n) as ai ab := by
  intro d
  induction d with
  | zero =>
    intro t v b ab ht hd hB
    have hS := bd_S_lt hB.1 hn
    omega
  | succ d ih =>
    intro t v b ab ht hd hB hv hlow hI
    have hS := bd_S_lt hB.1 hn
    have hmx := bd_mx_le hB.1 n (Nat.le_refl _)
    have T : ∀ v', v' ≤ 9 → (∀ c, bd_neat c n → bd_fit c w n R → (bd_lt c b n ∨ ∀ i, i < n → c i = b i) → v' ≤ bd_mx c n) → (v' = 9 ∨ ∃ f, bd_neat f n ∧ bd_fit f w n R ∧ bd_mx f n = v') →
        wY_least_77 post (wY_least_33 post (d + 1)) (nI v') (nI t) (nI R) (nI n) as ai ab := by
      intro v' hv' hall hI'
      exact yd_ne hn hn0 hB (fun hfin x hx => by
          subst hx
          rw [nI_1]
          have h1 : bd_S b n n < 4140 := hS
          exact br_c (fun _ => hp v' ab hv' (fun c hc hf => hall c hc hf (hfin c hc)) hI') (fun _ => br_t rfl (hp v' ab hv' (fun c hc hf => hall c hc hf (hfin c hc)) hI')))
        (fun b' ab' hgo hB' => nm_r (nI_1 t) (ih (t + 1) v' b' ab' (by have := hgo.2.1; omega) (by have := hgo.2.1; omega) hB' hv' (fun c hc hf hl => hall c hc hf (hgo.2.2 c hc hl)) hI'))
    refine br_f (yd_4140 (by omega)) (br_f (by decide) (yd_gr n hn (Nat.le_refl _) hB (nm_r (yd_g1 _) (pk_le v (bd_mx b n) (fun z => ?_) (fun z => yd_ex1 hn hn0 hB hW (fun M hM h1 h2 => pk_lt R M (fun y => ?_) (fun y => ?_)))))))
    · exact T v hv (fun c hc hf h => h.elim (hlow c hc hf) (fun ha => by rw [bd_mx_cg _ ha]; exact z)) hI
    · obtain ⟨e, he⟩ := h2
      exact T v hv (fun c hc hf h => h.elim (hlow c hc hf) (fun ha => absurd (hf e) (by rw [bd_ld_cg _ ha, he]; omega))) hI
    · exact T (bd_mx b n) (by omega) (fun c hc hf h => h.elim (fun hl => by have := hlow c hc hf hl; omega) (fun ha => by rw [bd_mx_cg _ ha]; exact Nat.le_refl _))
        (Or.inr ⟨b, hB.1, fun c => Nat.le_trans (h1 c) y, rfl⟩)
theorem yd_zB {n : Nat} {ab : Nat → Int32} (hn : n ≤ 8) (h : ∀ j, j < 8 → ab j = 0) : yd_B n (fun _ => 0) ab :=
  ⟨bd_zero_neat n, fun k hk => h k (by omega)⟩
theorem yd_le {post : Int32 → SY → Prop} {m R : Nat} (hR : R ≤ 60) {s w : Nat → Nat} {fn : Int32} {as ai ab : Nat → Int32} (hZ : yd_Z m s as) (hwR : ∀ k, w k ≤ R) (hws : ∀ i, i < 8 → m.testBit i = true → w (bd_cnt m i) = s i)
    (hp : ∀ v fn ai ab, bd_L (bd_cnt m 8) w R v → post (nI v) (nI R, fn, as, ai, ab)) : wpY_least post (nI R, fn, as, ai, ab) := by
  have hn := xd_le8 m
  refine yd_fi (fn := fn) hZ (fun k => Nat.le_trans (hwR k) hR) hws (fun ai ab hz hW => ?_)
  by_cases h0 : bd_cnt m 8 = 0
  · have hL : bd_L (bd_cnt m 8) w R 0 := by
      rw [h0]
      exact ⟨fun _ _ _ => Nat.zero_le _, fun _ => 0, bd_zero_neat 0, fun _ => Nat.zero_le _, rfl⟩
    have H := hp 0 (nI (bd_cnt m 8)) ai ab hL
    rw [h0] at H ⊢
    exact br_t rfl (br_t (by decide) ⟨1, br_f (by decide) (br_t rfl H)⟩)
  · refine br_f (nI_ne0 (by omega) (by omega)) (br_f (nI_nle (by omega) (by omega)) ⟨_, yd_le33 hn (by omega) hR hW (fun v ab hv hlow hI => ?_) 4141 0 9 (fun _ => 0) ab (Nat.zero_le _) (Nat.le_add_left _ _) (yd_zB hn hz) (Nat.le_refl _) (fun c _ _ hl => absurd hl bd_zero_lt) (Or.inl rfl)⟩)
    rcases hI with h9 | hf
    · have h1 := hlow _ (bd_id_neat (bd_cnt m 8)) (bd_id_fit hwR)
      rw [bd_id_mx] at h1
      omega
    · exact hp v _ ai ab ⟨hlow, hf⟩
/-! binOf -/
theorem yd_bo18 {post : Int32 → SY → Prop} {m n R v i : Nat} (hn : n ≤ 8) (hn0 : 0 < n) (hR : R ≤ 60) {s w : Nat → Nat} {as ai : Nat → Int32} (hZ : yd_Z m s as) (hW : yd_W n w as ai) (hL : bd_L n w R v) (hi : i < 8) (hin : bd_cnt m i < n)
    (hp : ∀ f ab, bd_F n w R v f → post (nI (f (bd_cnt m i))) (nI R, nI n, as, ai, ab)) :
    ∀ d t b ab, t ≤ bd_S b n n → 4141 ≤ bd_S b n n + d → yd_B n b ab →
      (∀ c, bd_neat c n → bd_fit c w n R → bd_lt c b n → ¬ bd_mx c n = v) →
      wY_binOf_18 post (nI i) (nI v) (d + 1) 1 (nI t) (nI R) (nI n) as ai ab := by
  have hv := bd_L_le hL
  intro d
  induction d with
  | zero =>
    intro t b ab ht hd hB
    have hS := bd_S_lt hB.1 hn
    omega
  | succ d ih =>
    intro t b ab ht hd hB hlow
    have hS := bd_S_lt hB.1 hn
    have hmx := bd_mx_le hB.1 n (Nat.le_refl _)
    have T : (∀ c, bd_neat c n → bd_fit c w n R → (bd_lt c b n ∨ ∀ i, i < n → c i = b i) → ¬ bd_mx c n = v) →
        wY_binOf_67 post (wY_binOf_18 post (nI i) (nI v) (d + 1)) (nI i) (nI v) (nI t) (nI R) (nI n) as ai ab := by
      intro hall
      refine yd_ne hn hn0 hB (fun hfin => ?_) (fun b' ab' hgo hB' => nm_r (nI_1 t) (ih (t + 1) b' ab' (by have := hgo.2.1; omega) (by have := hgo.2.1; omega) hB' (fun c hc hf hl => hall c hc hf (hgo.2.2 c hc hl))))
      obtain ⟨_, f, f1, f2, f3⟩ := hL
      exact absurd f3 (hall f f1 f2 (hfin f f1))
    refine br_f (yd_4140 (by omega)) (br_f (by decide) (yd_gr n hn (Nat.le_refl _) hB ?_))
    rw [yd_g1]
    refine pk_eq (bd_mx b n) v (fun z => yd_ex1 hn hn0 hB hW (fun M hM h1 h2 => pk_lt R M (fun y => ?_) (fun y => yd_ra hZ hi ⟨xd_in (by omega), ?_⟩))) (fun z => ?_)
    · obtain ⟨e, he⟩ := h2
      exact T (fun c hc hf h => h.elim (hlow c hc hf) (fun ha => absurd (hf e) (by rw [bd_ld_cg _ ha, he]; omega)))
    · have e1 : ab (nI (bd_cnt m i)).toNatClampNeg = nI (b (bd_cnt m i)) := by rw [xd_cl (by omega)]; exact hB.2 _ hin
      rw [e1]
      refine hp b ab ⟨hB.1, fun c => Nat.le_trans (h1 c) y, z, fun c hc hf hl => ?_⟩
      have g1 := hL.1 c hc hf
      have g2 := hlow c hc hf hl
      omega
    · exact T (fun c hc hf h => h.elim (hlow c hc hf) (fun ha => by rw [bd_mx_cg _ ha]; exact z))
/-! spare -/
theorem yd_sp27 {post : Int32 → SY → Prop} {n R v : Nat} (hn : n ≤ 8) (hn0 : 0 < n) (hR : R ≤ 60) (hv : v ≤ 8) {w : Nat → Nat} {as ai : Nat → Int32} (hW : yd_W n w as ai)
    (hp : ∀ M ab, bd_Sp n w R v M → post (nI M) (nI R, nI n, as, ai, ab)) :
    ∀ d t M b ab, t ≤ bd_S b n n → 4141 ≤ bd_S b n n + d → yd_B n b ab →
      (∀ c, bd_neat c n → bd_fit c w n R → bd_mx c n = v → bd_lt c b n → ∀ e, e < v → R ≤ M + bd_ld c w e n) →
      (M = 0 ∨ ∃ c e, bd_neat c n ∧ bd_fit c w n R ∧ bd_mx c n = v ∧ e < v ∧ bd_ld c w e n + M = R) →
      wY_spare_27 post (nI v) (d + 1) (nI M) 1 (nI t) (nI R) (nI n) as ai ab := by
  intro d
  induction d with
  | zero =>
    intro t M b ab ht hd hB
    have hS := bd_S_lt hB.1 hn
    omega
  | succ d ih =>
    intro t M b ab ht hd hB hlow hI
    have hS := bd_S_lt hB.1 hn
    have hmx := bd_mx_le hB.1 n (Nat.le_refl _)
    have hM : M ≤ 60 := by
      rcases hI with z | ⟨c, e, _, _, _, _, z⟩
      · omega
      · omega
    have T : ∀ M', (∀ c, bd_neat c n → bd_fit c w n R → bd_mx c n = v → (bd_lt c b n ∨ ∀ i, i < n → c i = b i) → ∀ e, e < v → R ≤ M' + bd_ld c w e n) →
        (M' = 0 ∨ ∃ c e, bd_neat c n ∧ bd_fit c w n R ∧ bd_mx c n = v ∧ e < v ∧ bd_ld c w e n + M' = R) →
        wY_spare_90 post (wY_spare_27 post (nI v) (d + 1)) (nI v) (nI M') (nI t) (nI R) (nI n) as ai ab := by
      intro M' hall hI'
      exact yd_ne hn hn0 hB (fun hfin x hx => br_c (fun _ => hp M' ab ⟨fun c hc hf hx => hall c hc hf hx (hfin c hc), hI'⟩) (fun _ => br_t rfl (hp M' ab ⟨fun c hc hf hx => hall c hc hf hx (hfin c hc), hI'⟩)))
        (fun b' ab' hgo hB' => nm_r (nI_1 t) (ih (t + 1) M' b' ab' (by have := hgo.2.1; omega) (by have := hgo.2.1; omega) hB' (fun c hc hf hx hl => hall c hc hf hx (hgo.2.2 c hc hl)) hI'))
    refine br_f (yd_4140 (by omega)) (br_f (by decide) (yd_gr n hn (Nat.le_refl _) hB ?_))
    rw [yd_g1]
    refine pk_eq (bd_mx b n) v (fun z => yd_ex1 hn hn0 hB hW (fun P hP h1 h2 => pk_lt R P (fun y => ?_) (fun y => yd_ex0 hn hn0 hB hW (fun q hq hq1 hq2 => ?_)))) (fun z => ?_)
    · obtain ⟨e, he⟩ := h2
      exact T M (fun c hc hf hx h => h.elim (hlow c hc hf hx) (fun ha => absurd (hf e) (by rw [bd_ld_cg _ ha, he]; omega))) hI
    · have hF : bd_fit b w n R := fun c => Nat.le_trans (h1 c) y
      have hqR : q ≤ R := by obtain ⟨c, _, rfl⟩ := hq2; exact hF c
      refine nm_r (e' := nI (R - q)) (pk_sub hqR) (pk_le (R - q) M (fun y => ?_) (fun y => ?_))
      · exact T M (fun c hc hf hx h => h.elim (hlow c hc hf hx) (fun ha e he => by rw [bd_ld_cg _ ha]; have := hq1 e (by omega); omega)) hI
      · refine T (R - q) (fun c hc hf hx h => h.elim (fun hl e he => by have := hlow c hc hf hx hl e he; omega) (fun ha e he => by rw [bd_ld_cg _ ha]; have := hq1 e (by omega); omega)) (Or.inr ?_)
        obtain ⟨c, hc, e⟩ := hq2
        exact ⟨b, c, hB.1, hF, z, by omega, by omega⟩
    · exact T M (fun c hc hf hx h => h.elim (hlow c hc hf hx) (fun ha => absurd hx (by rw [bd_mx_cg _ ha]; exact z))) hI
/-! sizeFor -/
theorem yd_sf33 {post : Int32 → SY → Prop} {n q : Nat} (hn : n ≤ 8) (hn0 : 0 < n) (hq0 : 1 ≤ q) (hq : q ≤ 8) {fr : Int32} {w : Nat → Nat} {as ai : Nat → Int32} (hW : yd_W n w as ai)
    (hp : ∀ v ab, bd_Z n w q v → post (nI v) (fr, nI n, as, ai, ab)) :
    ∀ d t x b ab, t ≤ bd_S b n n → 4141 ≤ bd_S b n n + d → yd_B n b ab →
      ((x = -1 ∧ ∀ c, bd_neat c n → bd_lt c b n → ¬ bd_mx c n ≤ q) ∨ ∃ v, x = nI v ∧ v ≤ 480 ∧ (∀ c, bd_neat c n → bd_mx c n ≤ q → bd_lt c b n → ∃ e, v ≤ bd_ld c w e n) ∧ ∃ c, bd_neat c n ∧ bd_mx c n ≤ q ∧ bd_fit c w n v) →
      wY_sizeFor_33 post (nI q) (d + 1) x 1 (nI t) fr (nI n) as ai ab := by
  intro d
  induction d with
  | zero =>
    intro t x b ab ht hd hB
    have hS := bd_S_lt hB.1 hn
    omega
  | succ d ih =>
    intro t x b ab ht hd hB hI
    have hS := bd_S_lt hB.1 hn
    have hmx := bd_mx_le hB.1 n (Nat.le_refl _)
    have T : ∀ x', ((x' = -1 ∧ ∀ c, bd_neat c n → (bd_lt c b n ∨ ∀ i, i < n → c i = b i) → ¬ bd_mx c n ≤ q) ∨ ∃ v, x' = nI v ∧ v ≤ 480 ∧ (∀ c, bd_neat c n → bd_mx c n ≤ q → (bd_lt c b n ∨ ∀ i, i < n → c i = b i) → ∃ e, v ≤ bd_ld c w e n) ∧ ∃ c, bd_neat c n ∧ bd_mx c n ≤ q ∧ bd_fit c w n v) →
        wY_sizeFor_83 post (wY_sizeFor_33 post (nI q) (d + 1)) (nI q) x' (nI t) fr (nI n) as ai ab := by
      intro x' hall
      refine yd_ne hn hn0 hB (fun hfin y hy => ?_) (fun b' ab' hgo hB' => nm_r (nI_1 t) (ih (t + 1) x' b' ab' (by have := hgo.2.1; omega) (by have := hgo.2.1; omega) hB' ?_))
      · rcases hall with ⟨_, h⟩ | ⟨v, rfl, h1, h2, h3⟩
        · have g := bd_zero_mx n
          exact absurd (Nat.le_trans g hq0) (h _ (bd_zero_neat n) (hfin _ (bd_zero_neat n)))
        · have H := hp v ab ⟨fun c hc hx => h2 c hc hx (hfin c hc), h3⟩
          exact br_c (fun _ => H) (fun _ => br_t rfl H)
      · rcases hall with ⟨h0, h⟩ | ⟨v, h0, h1, h2, h3⟩
        · exact Or.inl ⟨h0, fun c hc hl => h c hc (hgo.2.2 c hc hl)⟩
        · exact Or.inr ⟨v, h0, h1, fun c hc hx hl => h2 c hc hx (hgo.2.2 c hc hl), h3⟩
    refine br_f (yd_4140 (by omega)) (br_f (by decide) (yd_gr n hn (Nat.le_refl _) hB ?_))
    rw [yd_g1]
    refine pk_lt q (bd_mx b n) (fun z => T x ?_) (fun z => yd_ex1 hn hn0 hB hW (fun P hP h1 h2 => ?_))
    · rcases hI with ⟨h0, h⟩ | ⟨v, h0, h1, h2, h3⟩
      · exact Or.inl ⟨h0, fun c hc h' => h'.elim (h c hc) (fun ha => by rw [bd_mx_cg _ ha]; omega)⟩
      · exact Or.inr ⟨v, h0, h1, fun c hc hx h' => h'.elim (h2 c hc hx) (fun ha => absurd hx (by rw [bd_mx_cg _ ha]; omega)), h3⟩
    · obtain ⟨e0, he0⟩ := h2
      rcases hI with ⟨rfl, h⟩ | ⟨v, rfl, g1, g2, g3⟩
      · refine br_t (by decide) (T (nI P) (Or.inr ⟨P, rfl, hP, fun c hc hx h' => h'.elim (fun hl => absurd hx (h c hc hl)) (fun ha => ⟨e0, by rw [bd_ld_cg _ ha, he0]; exact Nat.le_refl _⟩), b, hB.1, z, h1⟩))
      · refine br_f (nI_pos (by omega)) (pk_le v P (fun y => T (nI v) ?_) (fun y => T (nI P) ?_))
        · exact Or.inr ⟨v, rfl, g1, fun c hc hx h' => h'.elim (g2 c hc hx) (fun ha => ⟨e0, by rw [bd_ld_cg _ ha, he0]; exact y⟩), g3⟩
        · refine Or.inr ⟨P, rfl, hP, fun c hc hx h' => h'.elim (fun hl => ?_) (fun ha => ⟨e0, by rw [bd_ld_cg _ ha, he0]; exact Nat.le_refl _⟩), b, hB.1, z, h1⟩
          obtain ⟨e, he⟩ := g2 c hc hx hl
          exact ⟨e, by omega⟩
/-! together -/
theorem yd_tg43 {post : Int32 → SY → Prop} {m n R v i j : Nat} (hn : n ≤ 8) (hn0 : 0 < n) (hR : R ≤ 60) (hv : v ≤ 8) {s w : Nat → Nat} {as ai : Nat → Int32} (hZ : yd_Z m s as) (hW : yd_W n w as ai) (hi : i < 8) (hj : j < 8) (hin : bd_cnt m i < n) (hjn : bd_cnt m j < n)
    (hp1 : ∀ ab, bd_T n w R v (bd_cnt m i) (bd_cnt m j) → post 1 (nI R, nI n, as, ai, ab))
    (hp0 : ∀ ab, ¬ bd_T n w R v (bd_cnt m i) (bd_cnt m j) → post 0 (nI R, nI n, as, ai, ab)) :
    ∀ d t x b ab, t ≤ bd_S b n n → 4141 ≤ bd_S b n n + d → yd_B n b ab →
      ((x = 0 ∧ ∀ c, bd_neat c n → bd_fit c w n R → bd_mx c n = v → bd_lt c b n → ¬ c (bd_cnt m i) = c (bd_cnt m j)) ∨ (x = 1 ∧ bd_T n w R v (bd_cnt m i) (bd_cnt m j))) →
      wY_together_43 post (nI i) (nI j) (nI v) (d + 1) x 1 (nI t) (nI R) (nI n) as ai ab := by
  intro d
  induction d with
  | zero =>
    intro t x b ab ht hd hB
    have hS := bd_S_lt hB.1 hn
    omega
  | succ d ih =>
    intro t x b ab ht hd hB hI
    have hS := bd_S_lt hB.1 hn
    have hmx := bd_mx_le hB.1 n (Nat.le_refl _)
    have T : ∀ x', ((x' = 0 ∧ ∀ c, bd_neat c n → bd_fit c w n R → bd_mx c n = v → (bd_lt c b n ∨ ∀ i, i < n → c i = b i) → ¬ c (bd_cnt m i) = c (bd_cnt m j)) ∨ (x' = 1 ∧ bd_T n w R v (bd_cnt m i) (bd_cnt m j))) →
        wY_together_117 post (wY_together_43 post (nI i) (nI j) (nI v) (d + 1)) (nI i) (nI j) (nI v) x' (nI t) (nI R) (nI n) as ai ab := by
      intro x' hall
      refine yd_ne hn hn0 hB (fun hfin y hy => ?_) (fun b' ab' hgo hB' => nm_r (nI_1 t) (ih (t + 1) x' b' ab' (by have := hgo.2.1; omega) (by have := hgo.2.1; omega) hB' ?_))
      · rcases hall with ⟨rfl, h⟩ | ⟨rfl, h⟩
        · have H := hp0 ab (fun ⟨c, hc, hf, hx, hs⟩ => h c hc hf hx (hfin c hc) hs)
          exact br_c (fun _ => ⟨rfl, H⟩) (fun _ => br_t rfl ⟨rfl, H⟩)
        · have H := hp1 ab h
          exact br_c (fun _ => ⟨rfl, H⟩) (fun _ => br_t rfl ⟨rfl, H⟩)
      · rcases hall with ⟨h0, h⟩ | ⟨h0, h⟩
        · exact Or.inl ⟨h0, fun c hc hf hx hl => h c hc hf hx (hgo.2.2 c hc hl)⟩
        · exact Or.inr ⟨h0, h⟩
    have ei : ab (nI (bd_cnt m i)).toNatClampNeg = nI (b (bd_cnt m i)) := by rw [xd_cl (by omega)]; exact hB.2 _ hin
    have ej : ab (nI (bd_cnt m j)).toNatClampNeg = nI (b (bd_cnt m j)) := by rw [xd_cl (by omega)]; exact hB.2 _ hjn
    have bi := bd_b_le hB.1 hin
    have bj := bd_b_le hB.1 hjn
    refine br_f (yd_4140 (by omega)) (br_f (by decide) (yd_gr n hn (Nat.le_refl _) hB ?_))
    rw [yd_g1]
    refine pk_eq (bd_mx b n) v (fun z => yd_ra hZ hi ⟨xd_in (by omega), yd_ra hZ hj ⟨xd_in (by omega), pk_eq (b (bd_cnt m i)) (b (bd_cnt m j)) (fun y => ?_) (fun y => ?_) (hx := ei) (hy := ej)⟩⟩) (fun z => ?_)
    · rcases hI with ⟨rfl, h⟩ | ⟨rfl, h⟩
      · refine br_t rfl (yd_ex1 hn hn0 hB hW (fun P hP h1 h2 => pk_lt R P (fun u => ?_) (fun u => ?_)))
        · obtain ⟨e, he⟩ := h2
          exact T 0 (Or.inl ⟨rfl, fun c hc hf hx h' => h'.elim (h c hc hf hx) (fun ha => absurd (hf e) (by rw [bd_ld_cg _ ha, he]; omega))⟩)
        · exact T 1 (Or.inr ⟨rfl, b, hB.1, fun c => Nat.le_trans (h1 c) u, z, y⟩)
      · exact br_f (by decide) (T 1 (Or.inr ⟨rfl, h⟩))
    · refine T x ?_
      rcases hI with ⟨h0, h⟩ | ⟨h0, h⟩
      · exact Or.inl ⟨h0, fun c hc hf hx h' => h'.elim (h c hc hf hx) (fun ha => by rw [ha _ hin, ha _ hjn]; exact y)⟩
      · exact Or.inr ⟨h0, h⟩
    · refine T x ?_
      rcases hI with ⟨h0, h⟩ | ⟨h0, h⟩
      · exact Or.inl ⟨h0, fun c hc hf hx h' => h'.elim (h c hc hf hx) (fun ha => absurd hx (by rw [bd_mx_cg _ ha]; exact z))⟩
      · exact Or.inr ⟨h0, h⟩
