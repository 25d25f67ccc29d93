/-! what the searches look for -/
def bd_Sp (n : Nat) (w : Nat → Nat) (R v M : Nat) : Prop := (∀ c, bd_neat c n → bd_fit c w n R → bd_mx c n = v → ∀ d, d < v → R ≤ M + bd_ld c w d n) ∧ (M = 0 ∨ ∃ c d, bd_neat c n ∧ bd_fit c w n R ∧ bd_mx c n = v ∧ d < v ∧ bd_ld c w d n + M = R)
theorem bd_Sp_le {n : Nat} {w : Nat → Nat} {R v M M' : Nat} (h : bd_Sp n w R v M) (h' : bd_Sp n w R v M') : M' ≤ M := by
  rcases h'.2 with z | ⟨c, d, h1, h2, h3, h4, h5⟩
  · omega
  · have := h.1 c h1 h2 h3 d h4
    omega
theorem bd_Sp_one {n : Nat} {w : Nat → Nat} {R v M M' : Nat} (h : bd_Sp n w R v M) (h' : bd_Sp n w R v M') : M' = M :=
  Nat.le_antisymm (bd_Sp_le h h') (bd_Sp_le h' h)
def bd_Z (n : Nat) (w : Nat → Nat) (q v : Nat) : Prop := (∀ c, bd_neat c n → bd_mx c n ≤ q → ∃ d, v ≤ bd_ld c w d n) ∧ ∃ c, bd_neat c n ∧ bd_mx c n ≤ q ∧ bd_fit c w n v
theorem bd_Z_le {n : Nat} {w : Nat → Nat} {q v v' : Nat} (h : bd_Z n w q v) (h' : bd_Z n w q v') : v' ≤ v := by
  obtain ⟨c, h1, h2, h3⟩ := h.2
  obtain ⟨d, hd⟩ := h'.1 c h1 h2
  exact Nat.le_trans hd (h3 d)
theorem bd_Z_one {n : Nat} {w : Nat → Nat} {q v v' : Nat} (h : bd_Z n w q v) (h' : bd_Z n w q v') : v' = v :=
  Nat.le_antisymm (bd_Z_le h h') (bd_Z_le h' h)
def bd_T (n : Nat) (w : Nat → Nat) (R v k l : Nat) : Prop := ∃ c, bd_neat c n ∧ bd_fit c w n R ∧ bd_mx c n = v ∧ c k = c l
theorem bd_surj {m : Nat} : ∀ N k, k < bd_cnt m N → ∃ i, i < N ∧ m.testBit i = true ∧ bd_cnt m i = k := by
  intro N
  induction N with
  | zero => exact fun k h => absurd h (Nat.not_lt_zero _)
  | succ N ih =>
    intro k h
    cases hb : m.testBit N
    · rw [bd_cnt_s0 hb] at h
      obtain ⟨i, h1, h2⟩ := ih k h
      exact ⟨i, by omega, h2⟩
    · rw [bd_cnt_s1 hb] at h
      by_cases hk : k = bd_cnt m N
      · exact ⟨N, by omega, hb, hk.symm⟩
      · obtain ⟨i, h1, h2⟩ := ih k (by omega)
        exact ⟨i, by omega, h2⟩
theorem xd_burst {m i R : Nat} {b c w : Nat → Nat} (hi : i < 8) (h : m.testBit i = true) (hg : R < bd_ld b w (b (bd_cnt m i)) (bd_cnt m i + 1)) (ha : ∀ j, j < bd_cnt m (i + 1) → c j = b j) : R < bd_ld c w (b (bd_cnt m i)) (bd_cnt m 8) := by
  rw [bd_cnt_s1 h] at ha
  rw [← bd_ld_cg _ ha] at hg
  exact Nat.lt_of_lt_of_le hg (bd_ld_mono (bd_cnt_lt h hi))
/-! packFirst -/
def xd_I (m : Nat) (w : Nat → Nat) (R v : Nat) (af : Nat → Int32) : Prop := v = 9 ∨ ∃ f, bd_F (bd_cnt m 8) w R v f ∧ ∀ i, i < 8 → m.testBit i = true → af i = nI (f (bd_cnt m i))
theorem xd_pf12 {post : Int32 → SX → Prop} {m R : Nat} (hm : m < 256) (hR : R ≤ 60) {w : Nat → Nat} {fp : Int32} {as : Nat → Int32} (hW : xd_W m w as)
    (hp : ∀ v ab al af, v ≤ 9 → (∀ c, bd_neat c (bd_cnt m 8) → bd_fit c w (bd_cnt m 8) R → v ≤ bd_mx c (bd_cnt m 8)) → xd_I m w R v af → post (nI v) (nI R, fp, as, ab, al, af)) :
    ∀ d t v b ab al af, t ≤ bd_S b (bd_cnt m 8) (bd_cnt m 8) → 4141 ≤ bd_S b (bd_cnt m 8) (bd_cnt m 8) + d → xd_B m b ab → v ≤ 9 →
      (∀ c, bd_neat c (bd_cnt m 8) → bd_fit c w (bd_cnt m 8) R → bd_lt c b (bd_cnt m 8) → v ≤ bd_mx c (bd_cnt m 8)) → xd_I m w R v af →
      wX_packFirst_12 post (nI m) (d + 1) (nI v) 1 (nI t) (nI R) fp as ab al af := by
  intro d
  induction d with
  | zero =>
    intro t v b ab al af ht hd hB
    have hS := bd_S_lt hB.1 (xd_le8 m)
    omega
  | succ d ih =>
    intro t v b ab al af ht hd hB hv hlow hI
    have hS := bd_S_lt hB.1 (xd_le8 m)
    have ht2 : ¬ (1000000 : Int32) ≤ nI t := nI_ge (b := 1000000) (by omega) (by decide)
    have hmx := xd_mxle hB (Nat.le_refl 8)
    have T : ∀ l e v' al' af', ((l < 8 ∧ e = l + 1) ∨ (l = 8 ∧ e = 8)) → v' ≤ 9 →
        (∀ c, bd_neat c (bd_cnt m 8) → bd_fit c w (bd_cnt m 8) R → (bd_lt c b (bd_cnt m 8) ∨ ∀ i, i < bd_cnt m e → c i = b i) → v' ≤ bd_mx c (bd_cnt m 8)) → xd_I m w R v' af' →
        wX_packFirst_63 post (wX_packFirst_12 post (nI m) (d + 1)) (nI m) (nI v') (nI t) (nI l) (nI R) fp as ab al' af' := by
      intro l e v' al' af' he hv' hall hI'
      exact xd_ng l e hm he hB (fun hfin x _ => br_t rfl (hp v' ab al' af' hv' (fun c hc hf => hall c hc hf (hfin c hc)) hI'))
        (fun b' ab' hgo hB' => nm_r (nI_1 t) (ih (t + 1) v' b' ab' al' af' (by have := hgo.2.1; omega) (by have := hgo.2.1; omega) hB' hv' (fun c hc hf hl => hall c hc hf (hgo.2.2 c hc hl)) hI'))
    refine br_f (by decide) (br_f ht2 (xd_fb hm (by omega) hB hW (fun al' hL hF => br_t rfl (xd_bb 8 hm (by omega) hB ?_)) (fun al' i hi hb hgt => br_f (xd_ne8 i hi) ?_)))
    · refine pk_le v (bd_mx b (bd_cnt m 8)) (fun z => ?_) (fun z => xd_kf (fun af' hk => ?_))
      · exact T 8 8 v al' af (Or.inr ⟨rfl, rfl⟩) hv (fun c hc hf h => h.elim (hlow c hc hf) (fun ha => by rw [bd_mx_cg _ ha]; exact z)) hI
      · exact T 8 8 (bd_mx b (bd_cnt m 8)) al' af' (Or.inr ⟨rfl, rfl⟩) (by omega)
          (fun c hc hf h => h.elim (fun hl => by have := hlow c hc hf hl; omega) (fun ha => by rw [bd_mx_cg _ ha]; exact Nat.le_refl _))
          (Or.inr ⟨b, ⟨hB.1, hF, rfl, fun c hc hf hl => by have := hlow c hc hf hl; omega⟩, fun i hi hb => by rw [hk i hi]; exact hB.2 i hi hb⟩)
    · exact T i (i + 1) v al' af (Or.inl ⟨hi, rfl⟩) hv (fun c hc hf h => h.elim (hlow c hc hf) (fun ha => absurd (hf (b (bd_cnt m i))) (by have := xd_burst hi hb hgt ha; omega))) hI
theorem xd_pf {post : Int32 → SX → Prop} {m R : Nat} (hm : m < 256) (hR : R ≤ 60) {w : Nat → Nat} {fp : Int32} {as ab al af : Nat → Int32} (hW : xd_W m w as) (hwR : ∀ k, w k ≤ R)
    (hp : ∀ v ab al af, bd_L (bd_cnt m 8) w R v → (∃ f, bd_F (bd_cnt m 8) w R v f ∧ ∀ i, i < 8 → m.testBit i = true → af i = nI (f (bd_cnt m i))) → post (nI v) (nI R, fp, as, ab, al, af)) :
    wpX_packFirst post (nI R, fp, as, ab, al, af) (nI m) := by
  refine xd_sg (fun ab hz => ⟨_, xd_pf12 hm hR hW (fun v ab al af hv hlow hI => ?_) 4141 0 9 (fun _ => 0) ab al af (Nat.zero_le _) (Nat.le_add_left _ _) ⟨bd_zero_neat _, fun i hi _ => hz i hi⟩ (Nat.le_refl _) (fun c _ _ hl => absurd hl bd_zero_lt) (Or.inl rfl)⟩)
  rcases hI with h9 | ⟨f, hf, hfa⟩
  · have h1 := hlow _ (bd_id_neat (bd_cnt m 8)) (bd_id_fit hwR)
    rw [bd_id_mx] at h1
    have := xd_le8 m
    omega
  · exact hp v ab al af ⟨hlow, f, hf.1, hf.2.1, hf.2.2.1⟩ ⟨f, hf, hfa⟩
/-! lightest, heaviest -/
theorem xd_li9 {post : Int32 → Prop} {fb fp : Int32} {as ab al af : Nat → Int32} {L : Nat → Nat} {k : Nat} (hk : k ≤ 8) (hL : ∀ c, c < 8 → al c = nI (L c)) (hb : ∀ c, L c ≤ 480)
    (hp : ∀ M, (∀ c, c < k → M ≤ L c) → (∃ c, c < k ∧ L c = M) → post (nI M)) :
    ∀ d i M, i + d = k → (∀ c, c < i → M ≤ L c) → (∃ c, c < i ∧ L c = M) → wX_lightest_9 post (nI k) fb fp as ab al af (d + 1) (nI M) (nI i) := by
  intro d
  induction d with
  | zero =>
    intro i M hi h1 h2
    obtain rfl : i = k := by omega
    exact br_t (nI_le (Nat.le_refl _) (by omega)) (hp M h1 h2)
  | succ d ih =>
    intro i M hi h1 h2
    have h8 : i < 8 := by omega
    have e1 : al (nI i).toNatClampNeg = nI (L i) := by rw [xd_cl (by omega)]; exact hL i h8
    have b1 := hb i
    have b2 : M ≤ 480 := by obtain ⟨c, _, rfl⟩ := h2; exact hb c
    refine br_f (nI_ge (by omega) (by omega)) ⟨xd_in h8, pk_le M (L i) (fun z => nm_r (nI_1 i) (ih (i + 1) M (by omega) ?_ ?_)) (fun z => ⟨xd_in h8, nm_r e1 (nm_r (nI_1 i) (ih (i + 1) (L i) (by omega) ?_ ?_))⟩) (hy := e1)⟩
    · intro c hc
      by_cases hc2 : c = i
      · subst hc2; exact z
      · exact h1 c (by omega)
    · obtain ⟨c, hc, e⟩ := h2
      exact ⟨c, by omega, e⟩
    · intro c hc
      by_cases hc2 : c = i
      · subst hc2; exact Nat.le_refl _
      · have := h1 c (by omega); omega
    · exact ⟨i, by omega, rfl⟩
theorem xd_li {post : Int32 → Prop} {fb fp : Int32} {as ab al af : Nat → Int32} {L : Nat → Nat} {k : Nat} (hk0 : 0 < k) (hk : k ≤ 8) (hL : ∀ c, c < 8 → al c = nI (L c)) (hb : ∀ c, L c ≤ 480)
    (hp : ∀ M, (∀ c, c < k → M ≤ L c) → (∃ c, c < k ∧ L c = M) → post (nI M)) : wpX_lightest post (fb, fp, as, ab, al, af) (nI k) :=
  nm_r (hL 0 (by omega)) ⟨_, xd_li9 hk hL hb hp (k - 1) 1 (L 0) (by omega) (fun c hc => by obtain rfl : c = 0 := by omega
                                                                                           exact Nat.le_refl _) ⟨0, by omega, rfl⟩⟩
theorem xd_he9 {post : Int32 → Prop} {fb fp : Int32} {as ab al af : Nat → Int32} {L : Nat → Nat} (hL : ∀ c, c < 8 → al c = nI (L c)) (hb : ∀ c, L c ≤ 480)
    (hp : ∀ M, (∀ c, c < 8 → L c ≤ M) → (∃ c, c < 8 ∧ L c = M) → post (nI M)) :
    ∀ d i M, i + d = 8 → (∀ c, c < i → L c ≤ M) → (∃ c, c < i ∧ L c = M) → wX_heaviest_9 post fb fp as ab al af (d + 1) (nI M) (nI i) := by
  intro d
  induction d with
  | zero =>
    intro i M hi h1 h2
    obtain rfl : i = 8 := by omega
    exact br_t xd_88 (hp M h1 h2)
  | succ d ih =>
    intro i M hi h1 h2
    have h8 : i < 8 := by omega
    have e1 : al (nI i).toNatClampNeg = nI (L i) := by rw [xd_cl (by omega)]; exact hL i h8
    have b1 := hb i
    have b2 : M ≤ 480 := by obtain ⟨c, _, rfl⟩ := h2; exact hb c
    refine br_f (xd_ge8 i h8) ⟨xd_in h8, pk_le (L i) M (fun z => nm_r (nI_1 i) (ih (i + 1) M (by omega) ?_ ?_)) (fun z => ⟨xd_in h8, nm_r e1 (nm_r (nI_1 i) (ih (i + 1) (L i) (by omega) ?_ ?_))⟩) (hx := e1)⟩
    · intro c hc
      by_cases hc2 : c = i
      · subst hc2; exact z
      · exact h1 c (by omega)
    · obtain ⟨c, hc, e⟩ := h2
      exact ⟨c, by omega, e⟩
    · intro c hc
      by_cases hc2 : c = i
      · subst hc2; exact Nat.le_refl _
      · have := h1 c (by omega); omega
    · exact ⟨i, by omega, rfl⟩
theorem xd_he {post : Int32 → Prop} {fb fp : Int32} {as ab al af : Nat → Int32} {L : Nat → Nat} (hL : ∀ c, c < 8 → al c = nI (L c)) (hb : ∀ c, L c ≤ 480)
    (hp : ∀ M, (∀ c, c < 8 → L c ≤ M) → (∃ c, c < 8 ∧ L c = M) → post (nI M)) : wpX_heaviest post (fb, fp, as, ab, al, af) :=
  nm_r (hL 0 (by omega)) ⟨_, xd_he9 hL hb hp 7 1 (L 0) (by omega) (fun c hc => by obtain rfl : c = 0 := by omega
                                                                                  exact Nat.le_refl _) ⟨0, by omega, rfl⟩⟩
theorem xd_ld480 {m : Nat} {b w : Nat → Nat} {as : Nat → Int32} (hW : xd_W m w as) (c : Nat) : bd_ld b w c (bd_cnt m 8) ≤ 480 := by
  have h1 := bd_ld_le (b := b) (c := c) hW.1 (bd_cnt m 8)
  have h2 := xd_le8 m
  omega
/-! spare -/
theorem xd_sp28 {post : Int32 → SX → Prop} {m R v : Nat} (hm : m < 256) (hR : R ≤ 60) (hv0 : 0 < v) (hv : v ≤ 8) {w : Nat → Nat} {as : Nat → Int32} (hW : xd_W m w as)
    (hp : ∀ M ab al af, bd_Sp (bd_cnt m 8) w R v M → post (nI M) (nI R, nI m, as, ab, al, af)) :
    ∀ d t M b ab al af, t ≤ bd_S b (bd_cnt m 8) (bd_cnt m 8) → 4141 ≤ bd_S b (bd_cnt m 8) (bd_cnt m 8) + d → xd_B m b ab →
      (∀ c, bd_neat c (bd_cnt m 8) → bd_fit c w (bd_cnt m 8) R → bd_mx c (bd_cnt m 8) = v → bd_lt c b (bd_cnt m 8) → ∀ e, e < v → R ≤ M + bd_ld c w e (bd_cnt m 8)) →
      (M = 0 ∨ ∃ c e, bd_neat c (bd_cnt m 8) ∧ bd_fit c w (bd_cnt m 8) R ∧ bd_mx c (bd_cnt m 8) = v ∧ e < v ∧ bd_ld c w e (bd_cnt m 8) + M = R) →
      wX_spare_28 post (nI v) (d + 1) (nI M) 1 (nI t) (nI R) (nI m) as ab al af := by
  intro d
  induction d with
  | zero =>
    intro t M b ab al af ht hd hB
    have hS := bd_S_lt hB.1 (xd_le8 m)
    omega
  | succ d ih =>
    intro t M b ab al af ht hd hB hlow hI
    have hS := bd_S_lt hB.1 (xd_le8 m)
    have ht2 : ¬ (1000000 : Int32) ≤ nI t := nI_ge (b := 1000000) (by omega) (by decide)
    have hmx := xd_mxle hB (Nat.le_refl 8)
    have hM : M ≤ 60 := by
      rcases hI with z | ⟨c, e, _, _, _, _, z⟩
      · omega
      · omega
    have T : ∀ l e M' al', ((l < 8 ∧ e = l + 1) ∨ (l = 8 ∧ e = 8)) →
        (∀ c, bd_neat c (bd_cnt m 8) → bd_fit c w (bd_cnt m 8) R → bd_mx c (bd_cnt m 8) = v → (bd_lt c b (bd_cnt m 8) ∨ ∀ i, i < bd_cnt m e → c i = b i) → ∀ e, e < v → R ≤ M' + bd_ld c w e (bd_cnt m 8)) →
        (M' = 0 ∨ ∃ c e, bd_neat c (bd_cnt m 8) ∧ bd_fit c w (bd_cnt m 8) R ∧ bd_mx c (bd_cnt m 8) = v ∧ e < v ∧ bd_ld c w e (bd_cnt m 8) + M' = R) →
        wX_spare_99 post (wX_spare_28 post (nI v) (d + 1)) (nI v) (nI M') (nI t) (nI l) (nI R) (nI m) as ab al' af := by
      intro l e M' al' he hall hI'
      exact xd_ng l e hm he hB (fun hfin x _ => br_t rfl (hp M' ab al' af ⟨fun c hc hf hx => hall c hc hf hx (hfin c hc), hI'⟩))
        (fun b' ab' hgo hB' => nm_r (nI_1 t) (ih (t + 1) M' b' ab' al' af (by have := hgo.2.1; omega) (by have := hgo.2.1; omega) hB' (fun c hc hf hx hl => hall c hc hf hx (hgo.2.2 c hc hl)) hI'))
    refine br_f (by decide) (br_f ht2 (xd_fb hm (by omega) hB hW (fun al' hL hF => br_t rfl (xd_bb 8 hm (by omega) hB ?_)) (fun al' i hi hb hgt => br_f (xd_ne8 i hi) ?_)))
    · refine pk_eq (bd_mx b (bd_cnt m 8)) v (fun z => xd_li hv0 hv hL (xd_ld480 hW) (fun q hq1 hq2 => ?_)) (fun z => ?_)
      · have hqR : q ≤ R := by obtain ⟨c, _, rfl⟩ := hq2; exact hF c
        refine nm_r (e' := nI (R - q)) (pk_sub hqR) (pk_le (R - q) M (fun y => ?_) (fun y => ?_))
        · exact T 8 8 M al' (Or.inr ⟨rfl, rfl⟩) (fun c hc hf hx h => h.elim (hlow c hc hf hx) (fun ha e he => by rw [bd_ld_cg _ ha]; have := hq1 e he; omega)) hI
        · refine T 8 8 (R - q) al' (Or.inr ⟨rfl, rfl⟩) (fun c hc hf hx h => h.elim (fun hl e he => by have := hlow c hc hf hx hl e he; omega) (fun ha e he => by rw [bd_ld_cg _ ha]; have := hq1 e he; omega)) (Or.inr ?_)
          obtain ⟨c, hc, e⟩ := hq2
          exact ⟨b, c, hB.1, hF, z, hc, by omega⟩
      · exact T 8 8 M al' (Or.inr ⟨rfl, rfl⟩) (fun c hc hf hx h => h.elim (hlow c hc hf hx) (fun ha => absurd hx (by rw [bd_mx_cg _ ha]; exact z))) hI
    · exact T i (i + 1) M al' (Or.inl ⟨hi, rfl⟩) (fun c hc hf hx h => h.elim (hlow c hc hf hx) (fun ha => absurd (hf (b (bd_cnt m i))) (by have := xd_burst hi hb hgt ha; omega))) hI
/-! sizeFor -/
theorem xd_sf33 {post : Int32 → SX → Prop} {m q : Nat} (hm : m < 256) (hq : q ≤ 8) {w : Nat → Nat} {fb : Int32} {as : Nat → Int32} (hW : xd_W m w as) (hn : 0 < bd_cnt m 8) (hw0 : 1 ≤ w 0)
    (hp : ∀ v ab al af, v ≤ 481 → (∀ c, bd_neat c (bd_cnt m 8) → bd_mx c (bd_cnt m 8) ≤ q → ∃ e, v ≤ bd_ld c w e (bd_cnt m 8)) →
      (v = 481 ∨ ∃ c, bd_neat c (bd_cnt m 8) ∧ bd_mx c (bd_cnt m 8) ≤ q ∧ bd_fit c w (bd_cnt m 8) v) → post (nI v) (fb, nI m, as, ab, al, af)) :
    ∀ d t v b ab al af, t ≤ bd_S b (bd_cnt m 8) (bd_cnt m 8) → 4141 ≤ bd_S b (bd_cnt m 8) (bd_cnt m 8) + d → xd_B m b ab → 1 ≤ v → v ≤ 481 →
      (∀ c, bd_neat c (bd_cnt m 8) → bd_mx c (bd_cnt m 8) ≤ q → bd_lt c b (bd_cnt m 8) → ∃ e, v ≤ bd_ld c w e (bd_cnt m 8)) →
      (v = 481 ∨ ∃ c, bd_neat c (bd_cnt m 8) ∧ bd_mx c (bd_cnt m 8) ≤ q ∧ bd_fit c w (bd_cnt m 8) v) →
      wX_sizeFor_33 post (nI q) (d + 1) (nI v) 1 (nI t) fb (nI m) as ab al af := by
  intro d
  induction d with
  | zero =>
    intro t v b ab al af ht hd hB
    have hS := bd_S_lt hB.1 (xd_le8 m)
    omega
  | succ d ih =>
    intro t v b ab al af ht hd hB hv1 hv2 hlow hI
    have hS := bd_S_lt hB.1 (xd_le8 m)
    have ht2 : ¬ (1000000 : Int32) ≤ nI t := nI_ge (b := 1000000) (by omega) (by decide)
    have hmx := xd_mxle hB (Nat.le_refl 8)
    have T : ∀ l e v' al', ((l < 8 ∧ e = l + 1) ∨ (l = 8 ∧ e = 8)) → 1 ≤ v' → v' ≤ 481 →
        (∀ c, bd_neat c (bd_cnt m 8) → bd_mx c (bd_cnt m 8) ≤ q → (bd_lt c b (bd_cnt m 8) ∨ ∀ i, i < bd_cnt m e → c i = b i) → ∃ e, v' ≤ bd_ld c w e (bd_cnt m 8)) →
        (v' = 481 ∨ ∃ c, bd_neat c (bd_cnt m 8) ∧ bd_mx c (bd_cnt m 8) ≤ q ∧ bd_fit c w (bd_cnt m 8) v') →
        wX_sizeFor_83 post (wX_sizeFor_33 post (nI q) (d + 1)) (nI q) (nI v') (nI t) (nI l) fb (nI m) as ab al' af := by
      intro l e v' al' he h1 h2 hall hI'
      exact xd_ng l e hm he hB (fun hfin x _ => br_t rfl (hp v' ab al' af h2 (fun c hc hx => hall c hc hx (hfin c hc)) hI'))
        (fun b' ab' hgo hB' => nm_r (nI_1 t) (ih (t + 1) v' b' ab' al' af (by have := hgo.2.1; omega) (by have := hgo.2.1; omega) hB' h1 h2 (fun c hc hx hl => hall c hc hx (hgo.2.2 c hc hl)) hI'))
    have ev : nI v - 1 = nI (v - 1) := pk_sub (b := 1) hv1
    refine br_f (by decide) (br_f ht2 ?_)
    rw [ev]
    refine xd_fb hm (by omega) hB hW (fun al' hL hF => br_t rfl (xd_bb 8 hm (by omega) hB ?_)) (fun al' i hi hb hgt => br_f (xd_ne8 i hi) ?_)
    · refine pk_lt q (bd_mx b (bd_cnt m 8)) (fun z => ?_) (fun z => xd_he hL (xd_ld480 hW) (fun M h1 h2 => ?_))
      · exact T 8 8 v al' (Or.inr ⟨rfl, rfl⟩) hv1 hv2 (fun c hc hx h => h.elim (hlow c hc hx) (fun ha => absurd hx (by rw [bd_mx_cg _ ha]; omega))) hI
      · obtain ⟨c0, hc0, e0⟩ := h2
        have hMv : M ≤ v - 1 := by rw [← e0]; exact hF c0
        have hM1 : 1 ≤ M := by
          have k1 := h1 (b 0) (by have := bd_b_le hB.1 hn; omega)
          have k2 : bd_ld b w (b 0) (0 + 1) ≤ bd_ld b w (b 0) (bd_cnt m 8) := bd_ld_mono hn
          have k3 : bd_ld b w (b 0) (0 + 1) = bd_ld b w (b 0) 0 + w 0 := bd_ld_s1 rfl
          omega
        refine T 8 8 M al' (Or.inr ⟨rfl, rfl⟩) hM1 (by omega) (fun c hc hx h => h.elim (fun hl => ?_) (fun ha => ⟨c0, by rw [bd_ld_cg _ ha, e0]; exact Nat.le_refl _⟩)) (Or.inr ⟨b, hB.1, z, fun c => ?_⟩)
        · obtain ⟨e, he⟩ := hlow c hc hx hl
          exact ⟨e, by omega⟩
        · by_cases hc : c < 8
          · exact h1 c hc
          · rw [bd_ld_zero _ (by omega)]; exact Nat.zero_le _
    · exact T i (i + 1) v al' (Or.inl ⟨hi, rfl⟩) hv1 hv2 (fun c hc hx h => h.elim (hlow c hc hx) (fun ha => ⟨b (bd_cnt m i), by have := xd_burst hi hb hgt ha; omega⟩)) hI
/-! together -/
theorem xd_tg42 {post : Int32 → SX → Prop} {m R v i j : Nat} (hm : m < 256) (hR : R ≤ 60) (hv : v ≤ 8) (hi : i < 8) (hj : j < 8) (hbi : m.testBit i = true) (hbj : m.testBit j = true) {w : Nat → Nat} {as : Nat → Int32} (hW : xd_W m w as)
    (hp1 : ∀ ab al af, bd_T (bd_cnt m 8) w R v (bd_cnt m i) (bd_cnt m j) → post 1 (nI R, nI m, as, ab, al, af))
    (hp0 : ∀ ab al af, ¬ bd_T (bd_cnt m 8) w R v (bd_cnt m i) (bd_cnt m j) → post 0 (nI R, nI m, as, ab, al, af)) :
    ∀ d t b ab al af, t ≤ bd_S b (bd_cnt m 8) (bd_cnt m 8) → 4141 ≤ bd_S b (bd_cnt m 8) (bd_cnt m 8) + d → xd_B m b ab →
      (∀ c, bd_neat c (bd_cnt m 8) → bd_fit c w (bd_cnt m 8) R → bd_mx c (bd_cnt m 8) = v → bd_lt c b (bd_cnt m 8) → ¬ c (bd_cnt m i) = c (bd_cnt m j)) →
      wX_together_42 post (nI i) (nI j) (nI v) (d + 1) 1 (nI t) (nI R) (nI m) as ab al af := by
  intro d
  induction d with
  | zero =>
    intro t b ab al af ht hd hB
    have hS := bd_S_lt hB.1 (xd_le8 m)
    omega
  | succ d ih =>
    intro t b ab al af ht hd hB hlow
    have hS := bd_S_lt hB.1 (xd_le8 m)
    have ht2 : ¬ (1000000 : Int32) ≤ nI t := nI_ge (b := 1000000) (by omega) (by decide)
    have hmx := xd_mxle hB (Nat.le_refl 8)
    obtain ⟨i1, i2, i3, i4⟩ := xd_bd hB hi hbi
    obtain ⟨j1, j2, j3, j4⟩ := xd_bd hB hj hbj
    have ei : ab (nI i).toNatClampNeg = nI (b (bd_cnt m i)) := by rw [xd_cl (by omega)]; exact hB.2 i hi hbi
    have ej : ab (nI j).toNatClampNeg = nI (b (bd_cnt m j)) := by rw [xd_cl (by omega)]; exact hB.2 j hj hbj
    have T : ∀ l e al', ((l < 8 ∧ e = l + 1) ∨ (l = 8 ∧ e = 8)) →
        (∀ c, bd_neat c (bd_cnt m 8) → bd_fit c w (bd_cnt m 8) R → bd_mx c (bd_cnt m 8) = v → (bd_lt c b (bd_cnt m 8) ∨ ∀ i, i < bd_cnt m e → c i = b i) → ¬ c (bd_cnt m i) = c (bd_cnt m j)) →
        wX_together_106 post (wX_together_42 post (nI i) (nI j) (nI v) (d + 1)) (nI i) (nI j) (nI v) (nI t) (nI l) (nI R) (nI m) as ab al' af := by
      intro l e al' he hall
      exact xd_ng l e hm he hB (fun hfin x _ => br_t rfl (hp0 ab al' af (fun ⟨c, hc, hf, hx, hs⟩ => hall c hc hf hx (hfin c hc) hs)))
        (fun b' ab' hgo hB' => nm_r (nI_1 t) (ih (t + 1) b' ab' al' af (by have := hgo.2.1; omega) (by have := hgo.2.1; omega) hB' (fun c hc hf hx hl => hall c hc hf hx (hgo.2.2 c hc hl))))
    refine br_f (by decide) (br_f ht2 (xd_fb hm (by omega) hB hW (fun al' hL hF => br_t rfl ⟨xd_in hi, xd_in hj, ?_⟩) (fun al' i hi hb hgt => br_f (xd_ne8 i hi) ?_)))
    · refine pk_eq (b (bd_cnt m i)) (b (bd_cnt m j)) (fun z => xd_bb 8 hm (by omega) hB (pk_eq (bd_mx b (bd_cnt m 8)) v (fun y => ?_) (fun y => ?_))) (fun z => ?_) (hx := ei) (hy := ej)
      · exact hp1 ab al' af ⟨b, hB.1, hF, y, z⟩
      · exact T 8 8 al' (Or.inr ⟨rfl, rfl⟩) (fun c hc hf hx h => h.elim (hlow c hc hf hx) (fun ha => absurd hx (by rw [bd_mx_cg _ ha]; exact y)))
      · exact T 8 8 al' (Or.inr ⟨rfl, rfl⟩) (fun c hc hf hx h => h.elim (hlow c hc hf hx) (fun ha => by rw [ha _ i4, ha _ j4]; exact z))
    · exact T i (i + 1) al' (Or.inl ⟨hi, rfl⟩) (fun c hc hf hx h => h.elim (hlow c hc hf hx) (fun ha => absurd (hf (b (bd_cnt m i))) (by have := xd_burst hi hb hgt ha; omega)))
