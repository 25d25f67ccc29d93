/-! bits -/
theorem xd_bit : ∀ m, m < 256 → ∀ i, i < 8 → (((nI m &&& ((1 : Int32) <<< (nI i &&& 31))) = 0) ↔ m.testBit i = false) := by decide +kernel
theorem xd_or : ∀ m, m < 256 → ∀ i, i < 8 → (nI m ||| ((1 : Int32) <<< (nI i &&& 31))) = nI (m ||| 2 ^ i) := by decide +kernel
theorem xd_wo : ∀ m, m < 256 → ∀ i, i < 8 → (nI m &&& (((1 : Int32) <<< (nI i &&& 31)) ^^^ (-1))) = nI (m &&& (255 - 2 ^ i)) := by decide +kernel
theorem xd_or_lt : ∀ m, m < 256 → ∀ i, i < 8 → m ||| 2 ^ i < 256 := by decide +kernel
theorem xd_wo_lt {m i : Nat} (hm : m < 256) : m &&& (255 - 2 ^ i) < 256 := Nat.lt_of_le_of_lt Nat.and_le_left hm
theorem xd_or_bit (m i j : Nat) : (m ||| 2 ^ i).testBit j = (m.testBit j || decide (i = j)) := by
  rw [Nat.testBit_or, Nat.testBit_two_pow]
theorem xd_wo_tab : ∀ i, i < 8 → ∀ j, j < 8 → (255 - 2 ^ i).testBit j = !(decide (i = j)) := by decide +kernel
theorem xd_wo_bit {m i j : Nat} (hi : i < 8) (hj : j < 8) : (m &&& (255 - 2 ^ i)).testBit j = (m.testBit j && !(decide (i = j))) := by
  rw [Nat.testBit_and, xd_wo_tab i hi j hj]
theorem xd_isIn {A B : Prop} {m i : Nat} (hm : m < 256) (hi : i < 8) (f : m.testBit i = false → A) (g : m.testBit i = true → B) : wpX_isIn (fun r => (r = 0 → A) ∧ (¬ r = 0 → B)) (nI m) (nI i) := by
  refine br_c (fun h => ?_) (fun h => ?_)
  · exact br_t rfl (f ((xd_bit m hm i hi).mp h))
  · refine br_f (by decide) (g ?_)
    cases hb : m.testBit i
    · exact absurd ((xd_bit m hm i hi).mpr hb) h
    · rfl
/-- the array ab holds the grouping b of the items of m -/
def xd_B (m : Nat) (b : Nat → Nat) (ab : Nat → Int32) : Prop := bd_neat b (bd_cnt m 8) ∧ ∀ i, i < 8 → m.testBit i = true → ab i = nI (b (bd_cnt m i))
def xd_W (m : Nat) (w : Nat → Nat) (as : Nat → Int32) : Prop := (∀ k, w k ≤ 60) ∧ ∀ i, i < 8 → m.testBit i = true → as i = nI (w (bd_cnt m i))
theorem xd_le8 (m : Nat) : bd_cnt m 8 ≤ 8 := bd_cnt_le m 8
theorem xd_bd {m i : Nat} {b : Nat → Nat} {ab : Nat → Int32} (hB : xd_B m b ab) (hi : i < 8) (h : m.testBit i = true) : b (bd_cnt m i) ≤ bd_mx b (bd_cnt m i) ∧ bd_mx b (bd_cnt m i) ≤ bd_cnt m i ∧ bd_cnt m i ≤ 7 ∧ bd_cnt m i < bd_cnt m 8 := by
  have h1 := bd_cnt_lt h hi
  exact ⟨hB.1 _ h1, bd_mx_le hB.1 _ (Nat.le_of_lt h1), Nat.le_trans (bd_cnt_le m i) (by omega), h1⟩
theorem xd_mxle {m i : Nat} {b : Nat → Nat} {ab : Nat → Int32} (hB : xd_B m b ab) (hi : i ≤ 8) : bd_mx b (bd_cnt m i) ≤ 8 := by
  have h1 := bd_mx_le hB.1 _ (bd_cnt_mono' (m := m) hi)
  have h2 := bd_cnt_le m i
  omega
theorem xd_in {i : Nat} (h : i < 8) : vp_in (nI i) 8 := vp_in_nI h (by decide)
theorem xd_cl {i : Nat} (h : i ≤ 480) : (nI i).toNatClampNeg = i := nI_clamp (by omega)
theorem xd_ge8 : ∀ i, i < 8 → ¬ (8 : Int32) ≤ nI i := by decide +kernel
theorem xd_88 : (8 : Int32) ≤ nI 8 := by decide +kernel
theorem xd_ne8 : ∀ i, i < 8 → ¬ nI i = (8 : Int32) := by decide +kernel
/-! binsBefore -/
theorem xd_bb5 {post : Int32 → Prop} {m e : Nat} (hm : m < 256) (he : e ≤ 8) {b : Nat → Nat} {fb fp : Int32} {as ab al af : Nat → Int32} (hB : xd_B m b ab) (hp : post (nI (bd_mx b (bd_cnt m e)))) : ∀ d i, i + d = e → wX_binsBefore_5 post (nI m) (nI e) fb fp as ab al af (d + 1) (nI (bd_mx b (bd_cnt m i))) (nI i) := by
  intro d
  induction d with
  | zero =>
    intro i hi
    obtain rfl : i = e := by omega
    exact br_t (nI_le (Nat.le_refl _) (by omega)) hp
  | succ d ih =>
    intro i hi
    have h8 : i < 8 := by omega
    have H := ih (i + 1) (by omega)
    refine br_f (nI_ge (by omega) (by omega)) (xd_isIn hm h8 (fun h => nm_r (nI_1 i) ?_) (fun h => ?_))
    · rw [bd_cnt_s0 h] at H
      exact H
    · obtain ⟨h1, h2, h3, _⟩ := xd_bd hB h8 h
      have e1 : ab (nI i).toNatClampNeg = nI (b (bd_cnt m i)) := by rw [xd_cl (by omega)]; exact hB.2 i h8 h
      rw [bd_cnt_s1 h] at H
      refine ⟨xd_in h8, pk_lt (b (bd_cnt m i)) (bd_mx b (bd_cnt m i)) (fun z => nm_r (nI_1 i) ?_) (fun z => ⟨xd_in h8, nm_r (e' := nI (b (bd_cnt m i) + 1)) (by rw [e1, nI_1]) (nm_r (nI_1 i) ?_)⟩) (hx := e1)⟩
      · rw [bd_mx_s0 (by omega)] at H
        exact H
      · rw [bd_mx_s1 z] at H
        exact H
theorem xd_bb {post : Int32 → Prop} {m : Nat} (e : Nat) (hm : m < 256) (he : e ≤ 8) {b : Nat → Nat} {fb fp : Int32} {as ab al af : Nat → Int32} (hB : xd_B m b ab) (hp : post (nI (bd_mx b (bd_cnt m e)))) : wpX_binsBefore post (fb, fp, as, ab, al, af) (nI m) (nI e) :=
  ⟨e + 1, xd_bb5 hm he hB hp e 0 (by omega)⟩
/-! startGroupings, keepAsFirst -/
theorem xd_sg2 {post : SX → Prop} {fb fp : Int32} {as al af : Nat → Int32} (hp : ∀ ab, (∀ i, i < 8 → ab i = 0) → post (fb, fp, as, ab, al, af)) : ∀ d i ab, i + d = 8 → (∀ j, j < i → ab j = 0) → wX_startGroupings_2 post fb fp (d + 1) (nI i) as ab al af := by
  intro d
  induction d with
  | zero =>
    intro i ab hi h
    obtain rfl : i = 8 := by omega
    exact br_t xd_88 (hp ab h)
  | succ d ih =>
    intro i ab hi h
    refine br_f (xd_ge8 i (by omega)) ⟨xd_in (by omega), nm_r (e' := upd ab i 0) (by rw [xd_cl (by omega)]) (nm_r (nI_1 i) (ih (i + 1) _ (by omega) (fun j hj => ?_)))⟩
    by_cases hj2 : j = i
    · subst hj2; exact pk_us
    · rw [pk_un hj2]; exact h j (by omega)
theorem xd_sg {post : SX → Prop} {fb fp : Int32} {as ab al af : Nat → Int32} (hp : ∀ ab, (∀ i, i < 8 → ab i = 0) → post (fb, fp, as, ab, al, af)) : wpX_startGroupings post (fb, fp, as, ab, al, af) :=
  ⟨9, xd_sg2 hp 8 0 ab (by omega) (fun j hj => absurd hj (by omega))⟩
theorem xd_kf2 {post : SX → Prop} {fb fp : Int32} {as ab al : Nat → Int32} (hp : ∀ af, (∀ i, i < 8 → af i = ab i) → post (fb, fp, as, ab, al, af)) : ∀ d i af, i + d = 8 → (∀ j, j < i → af j = ab j) → wX_keepAsFirst_2 post fb fp (d + 1) (nI i) as ab al af := by
  intro d
  induction d with
  | zero =>
    intro i af hi h
    obtain rfl : i = 8 := by omega
    exact br_t xd_88 (hp af h)
  | succ d ih =>
    intro i af hi h
    refine br_f (xd_ge8 i (by omega)) ⟨xd_in (by omega), xd_in (by omega), nm_r (e' := upd af i (ab i)) (by rw [xd_cl (by omega)]) (nm_r (nI_1 i) (ih (i + 1) _ (by omega) (fun j hj => ?_)))⟩
    by_cases hj2 : j = i
    · subst hj2; exact pk_us
    · rw [pk_un hj2]; exact h j (by omega)
theorem xd_kf {post : SX → Prop} {fb fp : Int32} {as ab al af : Nat → Int32} (hp : ∀ af, (∀ i, i < 8 → af i = ab i) → post (fb, fp, as, ab, al, af)) : wpX_keepAsFirst post (fb, fp, as, ab, al, af) :=
  ⟨9, xd_kf2 hp 8 0 af (by omega) (fun j hj => absurd hj (by omega))⟩
/-! fillBins -/
theorem xd_fb23 {post : Int32 → SX → Prop} {m R : Nat} (hm : m < 256) (hR : R ≤ 480) {b w : Nat → Nat} {fb fp : Int32} {as ab af : Nat → Int32} (hB : xd_B m b ab) (hW : xd_W m w as)
    (h8 : ∀ al, (∀ c, c < 8 → al c = nI (bd_ld b w c (bd_cnt m 8))) → bd_fit b w (bd_cnt m 8) R → post 8 (fb, fp, as, ab, al, af))
    (h9 : ∀ al i, i < 8 → m.testBit i = true → R < bd_ld b w (b (bd_cnt m i)) (bd_cnt m i + 1) → post (nI i) (fb, fp, as, ab, al, af)) :
    ∀ d i al, i + d = 8 → (∀ c, c < 8 → al c = nI (bd_ld b w c (bd_cnt m i))) → bd_fit b w (bd_cnt m i) R → wX_fillBins_23 post (nI m) (nI R) fb fp (d + 1) (nI i) as ab al af := by
  intro d
  induction d with
  | zero =>
    intro i al hi h hf
    obtain rfl : i = 8 := by omega
    exact br_t xd_88 (h8 al h hf)
  | succ d ih =>
    intro i al hi hL hf
    have hi8 : i < 8 := by omega
    refine br_f (xd_ge8 i (by omega)) (xd_isIn hm hi8 (fun h => nm_r (nI_1 i) (ih (i + 1) al (by omega) ?_ ?_)) (fun h => ?_))
    · rw [bd_cnt_s0 h]; exact hL
    · rw [bd_cnt_s0 h]; exact hf
    · obtain ⟨h1, h2, h3, _⟩ := xd_bd hB hi8 h
      have e1 : ab (nI i).toNatClampNeg = nI (b (bd_cnt m i)) := by rw [xd_cl (by omega)]; exact hB.2 i hi8 h
      have e2 : as (nI i).toNatClampNeg = nI (w (bd_cnt m i)) := by rw [xd_cl (by omega)]; exact hW.2 i hi8 h
      have vb : vp_in (ab (nI i).toNatClampNeg) 8 := by rw [e1]; exact xd_in (by omega)
      have e4 : bd_ld b w (b (bd_cnt m i)) (bd_cnt m i + 1) = bd_ld b w (b (bd_cnt m i)) (bd_cnt m i) + w (bd_cnt m i) := bd_ld_s1 rfl
      have e5 : bd_ld b w (b (bd_cnt m i)) (bd_cnt m i + 1) ≤ 60 * (bd_cnt m i + 1) := bd_ld_le hW.1 _
      have ea : upd al (ab (nI i).toNatClampNeg).toNatClampNeg (al (ab (nI i).toNatClampNeg).toNatClampNeg + as (nI i).toNatClampNeg) = upd al (b (bd_cnt m i)) (nI (bd_ld b w (b (bd_cnt m i)) (bd_cnt m i + 1))) := by
        rw [e1, e2, xd_cl (by omega), hL _ (by omega), nI_add, e4]
      refine ⟨xd_in hi8, vb, xd_in hi8, vb, nm_r ea ⟨xd_in hi8, vb, ?_⟩⟩
      have e3 : upd al (b (bd_cnt m i)) (nI (bd_ld b w (b (bd_cnt m i)) (bd_cnt m i + 1))) (ab (nI i).toNatClampNeg).toNatClampNeg = nI (bd_ld b w (b (bd_cnt m i)) (bd_cnt m i + 1)) := by
        rw [e1, xd_cl (by omega)]; exact pk_us
      refine pk_le (bd_ld b w (b (bd_cnt m i)) (bd_cnt m i + 1)) R (fun z => nm_r (nI_1 i) (ih (i + 1) _ (by omega) (fun c hc => ?_) ?_)) (fun z => h9 _ i hi8 h z) (hx := e3)
      · rw [bd_cnt_s1 h]
        by_cases hc2 : c = b (bd_cnt m i)
        · subst hc2; exact pk_us
        · rw [pk_un hc2, bd_ld_s0 (fun z => hc2 z.symm)]; exact hL c hc
      · rw [bd_cnt_s1 h]
        intro c
        by_cases hc2 : b (bd_cnt m i) = c
        · subst hc2; exact z
        · rw [bd_ld_s0 hc2]; exact hf c
theorem xd_fb2 {post : Int32 → SX → Prop} {x1 x2 : Int32} {fb fp : Int32} {as ab af : Nat → Int32} (hp : ∀ al, (∀ i, i < 8 → al i = 0) → ∃ n, wX_fillBins_23 post x1 x2 fb fp n 0 as ab al af) : ∀ d i al, i + d = 8 → (∀ j, j < i → al j = 0) → wX_fillBins_2 post x1 x2 fb fp (d + 1) (nI i) as ab al af := by
  intro d
  induction d with
  | zero =>
    intro i al hi h
    obtain rfl : i = 8 := by omega
    exact br_t xd_88 (hp al h)
  | succ d ih =>
    intro i al hi h
    refine br_f (xd_ge8 i (by omega)) ⟨xd_in (by omega), nm_r (e' := upd al i 0) (by rw [xd_cl (by omega)]) (nm_r (nI_1 i) (ih (i + 1) _ (by omega) (fun j hj => ?_)))⟩
    by_cases hj2 : j = i
    · subst hj2; exact pk_us
    · rw [pk_un hj2]; exact h j (by omega)
theorem xd_fb {post : Int32 → SX → Prop} {m R : Nat} (hm : m < 256) (hR : R ≤ 480) {b w : Nat → Nat} {fb fp : Int32} {as ab al af : Nat → Int32} (hB : xd_B m b ab) (hW : xd_W m w as)
    (h8 : ∀ al, (∀ c, c < 8 → al c = nI (bd_ld b w c (bd_cnt m 8))) → bd_fit b w (bd_cnt m 8) R → post 8 (fb, fp, as, ab, al, af))
    (h9 : ∀ al i, i < 8 → m.testBit i = true → R < bd_ld b w (b (bd_cnt m i)) (bd_cnt m i + 1) → post (nI i) (fb, fp, as, ab, al, af)) :
    wpX_fillBins post (fb, fp, as, ab, al, af) (nI m) (nI R) :=
  ⟨9, xd_fb2 (fun al h => ⟨9, xd_fb23 hm hR hB hW h8 h9 8 0 al (by omega) (fun c hc => h c hc) (fun c => Nat.zero_le _)⟩) 8 0 al (by omega) (fun j hj => absurd hj (by omega))⟩
/-! nextGrouping -/
theorem xd_ng50 {post : Int32 → SX → Prop} {fb fp : Int32} {as al af : Nat → Int32} : ∀ d i ab, i + d = 8 → (∀ ab', (∀ j, j < i → ab' j = ab j) → (∀ j, i ≤ j → j < 8 → ab' j = 0) → post 1 (fb, fp, as, ab', al, af)) → wX_nextGrouping_50 post fb fp (d + 1) (nI i) as ab al af := by
  intro d
  induction d with
  | zero =>
    intro i ab hi h
    obtain rfl : i = 8 := by omega
    exact br_t xd_88 (h ab (fun _ _ => rfl) (fun j h1 h2 => absurd h1 (by omega)))
  | succ d ih =>
    intro i ab hi h
    refine br_f (xd_ge8 i (by omega)) ⟨xd_in (by omega), nm_r (e' := upd ab i 0) (by rw [xd_cl (by omega)]) (nm_r (nI_1 i) (ih (i + 1) _ (by omega) (fun ab' h1 h2 => h ab' (fun j hj => ?_) (fun j hj hj8 => ?_))))⟩
    · rw [h1 j (by omega), pk_un (by omega)]
    · by_cases hj2 : j = i
      · subst hj2; rw [h1 j (by omega)]; exact pk_us
      · exact h2 j (by omega) hj8
theorem xd_ng3 {post : Int32 → SX → Prop} {m l e : Nat} (hm : m < 256) (hl : l ≤ 8) (he : (l < 8 ∧ e = l + 1) ∨ (l = 8 ∧ e = 8)) {b : Nat → Nat} {fb fp : Int32} {as ab al af : Nat → Int32} (hB : xd_B m b ab)
    (h0 : bd_Fin (bd_cnt m 8) (bd_cnt m e) b → post 0 (fb, fp, as, ab, al, af))
    (h1 : ∀ b' ab', bd_Go (bd_cnt m 8) (bd_cnt m e) b b' → xd_B m b' ab' → post 1 (fb, fp, as, ab', al, af)) :
    ∀ i, i < 8 → (∀ j, bd_cnt m (i + 1) ≤ j → j < bd_cnt m e → b j = bd_mx b j) → wX_nextGrouping_3 post (nI m) (nI l) fb fp as ab al af (i + 1) (nI i) := by
  have he8 : bd_cnt m e ≤ bd_cnt m 8 := bd_cnt_mono' (by omega)
  intro i
  induction i with
  | zero =>
    intro _ hmx
    refine br_t (nI_le (Nat.le_refl 0) (by decide)) (h0 (bd_fin he8 (fun j hj => ?_)))
    by_cases hj0 : j = 0
    · subst hj0
      have := hB.1 0 (by omega)
      have z : bd_mx b 0 = 0 := rfl
      omega
    · have := bd_cnt_le m (0 + 1)
      exact hmx j (by omega) hj
  | succ i ih =>
    intro hi hmx
    refine br_f (nI_nle (by omega) (by omega)) (pk_lt l (i + 1) (fun z => nm_r (pk_m1 i) (ih (by omega) (fun j hj hj2 => ?_))) (fun z => xd_isIn hm hi (fun h => nm_r (pk_m1 i) (ih (by omega) (fun j hj hj2 => hmx j ?_ hj2))) (fun h => ⟨xd_in hi, xd_bb (i + 1) hm (by omega) hB ?_⟩)))
    · have := bd_cnt_mono' (m := m) (i := e) (j := i + 1) (by omega)
      omega
    · rw [bd_cnt_s0 h]; exact hj
    · obtain ⟨g1, g2, g3, g4⟩ := xd_bd hB hi h
      have e1 : ab (nI (i + 1)).toNatClampNeg = nI (b (bd_cnt m (i + 1))) := by rw [xd_cl (by omega)]; exact hB.2 (i + 1) hi h
      refine pk_le (bd_mx b (bd_cnt m (i + 1))) (b (bd_cnt m (i + 1))) (fun y => nm_r (pk_m1 i) (ih (by omega) (fun j hj hj2 => ?_))) (fun y => ⟨xd_in hi, xd_in hi, nm_r (e' := upd ab (i + 1) (nI (b (bd_cnt m (i + 1)) + 1))) (by rw [e1, xd_cl (by omega), nI_1]) (nm_r (nI_1 (i + 1)) ⟨_, xd_ng50 (8 - (i + 1 + 1)) (i + 1 + 1) _ (by omega) (fun ab' k1 k2 => ?_)⟩)⟩) (hy := e1)
      · by_cases hjj : j = bd_cnt m (i + 1)
        · subst hjj; omega
        · exact hmx j (by rw [bd_cnt_s1 h]; omega) hj2
      · have hke : bd_cnt m (i + 1) < bd_cnt m e := bd_cnt_lt h (by omega)
        have hgo : bd_Go (bd_cnt m 8) (bd_cnt m e) b (bd_nx b (bd_cnt m (i + 1))) := bd_go hB.1 hke he8 y (fun j hj hj2 => hmx j (by rw [bd_cnt_s1 h]; omega) hj2)
        refine h1 _ ab' hgo ⟨hgo.1, fun j hj hbj => ?_⟩
        by_cases hj1 : j < i + 1
        · rw [k1 j (by omega), pk_un (by omega), bd_nx_lo (bd_cnt_lt hbj hj1)]; exact hB.2 j hj hbj
        · by_cases hj3 : j = i + 1
          · subst hj3; rw [k1 (i + 1) (by omega), bd_nx_at]; exact pk_us
          · rw [k2 j (by omega) hj, bd_nx_hi (bd_cnt_lt h (by omega))]; rfl
theorem xd_ng {post : Int32 → SX → Prop} {m : Nat} (l e : Nat) (hm : m < 256) (he : (l < 8 ∧ e = l + 1) ∨ (l = 8 ∧ e = 8)) {b : Nat → Nat} {fb fp : Int32} {as ab al af : Nat → Int32} (hB : xd_B m b ab)
    (h0 : bd_Fin (bd_cnt m 8) (bd_cnt m e) b → post 0 (fb, fp, as, ab, al, af))
    (h1 : ∀ b' ab', bd_Go (bd_cnt m 8) (bd_cnt m e) b b' → xd_B m b' ab' → post 1 (fb, fp, as, ab', al, af)) : wpX_nextGrouping post (fb, fp, as, ab, al, af) (nI m) (nI l) :=
  ⟨8, xd_ng3 hm (by omega) he hB h0 h1 7 (by omega) (fun j hj hj2 => by
    have := bd_cnt_mono' (m := m) (i := e) (j := 7 + 1) (by omega)
    omega)⟩
