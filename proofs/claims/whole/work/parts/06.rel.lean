/-! the relation and the small methods -/
def rd_R (m R : Nat) (s : Nat → Nat) (as bs : Nat → Int32) : Prop := m < 256 ∧ 1 ≤ R ∧ R ≤ 60 ∧ yd_Z m s bs ∧ (∀ i, i < 8 → m.testBit i = true → as i = nI (s i)) ∧ ∀ i, i < 8 → s i ≤ R
def i_Rel (_ : Nat) (u : SX) (v : SY) : Prop := ∃ (m R : Nat) (s : Nat → Nat) (as ab al af : Nat → Int32) (fn : Int32) (bs bi bb : Nat → Int32), u = (nI R, nI m, as, ab, al, af) ∧ v = (nI R, fn, bs, bi, bb) ∧ rd_R m R s as bs
theorem i_up {k : Nat} {u : SX} {v : SY} (h : i_Rel k u v) : i_Rel (k + 3) u v := h
theorem rd_mk {k m R : Nat} {s : Nat → Nat} {as ab al af : Nat → Int32} {fn : Int32} {bs bi bb : Nat → Int32} (h : rd_R m R s as bs) : i_Rel k (nI R, nI m, as, ab, al, af) (nI R, fn, bs, bi, bb) :=
  ⟨m, R, s, as, ab, al, af, fn, bs, bi, bb, rfl, rfl, h⟩
theorem rd_0 {R : Nat} (h1 : 1 ≤ R) (h2 : R ≤ 60) : rd_R 0 R (fun _ => 0) (fun _ => 0) (fun _ => 0) :=
  ⟨by omega, h1, h2, fun i _ => ⟨rfl, Nat.zero_le _, by rw [Nat.zero_testBit]; rfl⟩, fun i _ _ => rfl, fun _ _ => Nat.zero_le _⟩
theorem rd_of {x : Int32} (h1 : ¬ x < 1) : ∃ j : Nat, 1 ≤ j ∧ j < 2 ^ 31 ∧ x = nI j := by
  have h0 : ¬ x < 0 := fun z => h1 (Int32.lt_trans z (by decide))
  obtain ⟨j, hj, rfl⟩ := nI_of h0
  refine ⟨j, ?_, hj, rfl⟩
  by_cases h : j = 0
  · subst h; exact absurd (by decide) h1
  · omega
theorem i_vc0 (k0 : Int32) : wpX_init (fun u => wpY_init (fun v => i_Rel 1 u v) k0) k0 := by
  by_cases h1 : 1 ≤ k0
  · obtain ⟨j, j1, j2, rfl⟩ := rd_of (Int32.not_lt.mpr h1)
    by_cases h2 : nI j ≤ 60
    · have h3 : j ≤ 60 := (nI_leI (b := 60) j2 (by decide)).mp h2
      exact br_t h1 (br_t h2 (br_t h1 (br_t h2 (rd_mk (m := 0) (rd_0 j1 h3)))))
    · exact br_t h1 (br_f h2 (br_t h1 (br_f h2 (rd_mk (m := 0) (R := 60) (rd_0 (by decide) (by decide))))))
  · exact br_f h1 (br_f h1 (rd_mk (m := 0) (R := 1) (rd_0 (by decide) (by decide))))
/-! an item's size set, an item taken away -/
theorem rd_set {m m' R q i : Nat} {s : Nat → Nat} {as bs : Nat → Int32} (h : rd_R m R s as bs) (hm' : m' < 256) (hb : ∀ j, j < 8 → m'.testBit j = (m.testBit j || decide (i = j))) (h1 : 1 ≤ q) (h2 : q ≤ R) : rd_R m' R (fun j => if j = i then q else s j) (upd as i (nI q)) (upd bs i (nI q)) := by
  obtain ⟨_, r1, r2, hZ, ha, hs⟩ := h
  refine ⟨hm', r1, r2, fun j hj => ?_, fun j hj hbj => ?_, fun j hj => ?_⟩
  · show upd bs i (nI q) j = nI (if j = i then q else s j) ∧ (if j = i then q else s j) ≤ 60 ∧ m'.testBit j = decide (0 < (if j = i then q else s j))
    by_cases e : j = i
    · subst e
      rw [if_pos rfl, hb j hj]
      exact ⟨pk_us, by omega, by rw [decide_eq_true rfl, Bool.or_true, decide_eq_true (by omega)]⟩
    · rw [if_neg e, pk_un e, hb j hj, decide_eq_false (fun z => e z.symm), Bool.or_false]
      exact hZ j hj
  · show upd as i (nI q) j = nI (if j = i then q else s j)
    by_cases e : j = i
    · subst e
      rw [if_pos rfl]; exact pk_us
    · rw [if_neg e, pk_un e]
      rw [hb j hj, decide_eq_false (fun z => e z.symm), Bool.or_false] at hbj
      exact ha j hj hbj
  · show (if j = i then q else s j) ≤ R
    by_cases e : j = i
    · rw [if_pos e]; exact h2
    · rw [if_neg e]; exact hs j hj
theorem rd_rem {m R i : Nat} {s : Nat → Nat} {as bs : Nat → Int32} (h : rd_R m R s as bs) (hi : i < 8) : rd_R (m &&& (255 - 2 ^ i)) R (fun j => if j = i then 0 else s j) as (upd bs i 0) := by
  obtain ⟨hm, r1, r2, hZ, ha, hs⟩ := h
  refine ⟨xd_wo_lt hm, r1, r2, fun j hj => ?_, fun j hj hbj => ?_, fun j hj => ?_⟩
  · show upd bs i 0 j = nI (if j = i then 0 else s j) ∧ (if j = i then 0 else s j) ≤ 60 ∧ (m &&& (255 - 2 ^ i)).testBit j = decide (0 < (if j = i then 0 else s j))
    by_cases e : j = i
    · subst e
      rw [if_pos rfl, xd_wo_bit hi hj]
      exact ⟨pk_us, by omega, by rw [decide_eq_true rfl]; simp⟩
    · rw [if_neg e, pk_un e, xd_wo_bit hi hj, decide_eq_false (fun z => e z.symm), Bool.not_false, Bool.and_true]
      exact hZ j hj
  · show as j = nI (if j = i then 0 else s j)
    rw [xd_wo_bit hi hj] at hbj
    by_cases e : j = i
    · subst e
      rw [decide_eq_true rfl] at hbj
      simp at hbj
    · rw [if_neg e]
      rw [decide_eq_false (fun z => e z.symm), Bool.not_false, Bool.and_true] at hbj
      exact ha j hj hbj
  · show (if j = i then 0 else s j) ≤ R
    by_cases e : j = i
    · rw [if_pos e]; exact Nat.zero_le _
    · rw [if_neg e]; exact hs j hj
/-! isItem -/
theorem xd_itY {post : Int32 → Prop} {m i : Nat} {fb : Int32} {as ab al af : Nat → Int32} (hm : m < 256) (hi : i < 8) (hb : m.testBit i = true) (h : post 1) : wpX_isItem post (fb, nI m, as, ab, al, af) (nI i) :=
  br_f (nI_pos (by omega)) (br_f (xd_ge8 i hi) (xd_isIn hm hi (fun z => absurd hb (by rw [z]; decide)) (fun _ => h)))
theorem xd_itN {post : Int32 → Prop} {m : Nat} {p fb : Int32} {as ab al af : Nat → Int32} (hm : m < 256) (hno : ∀ i, i < 8 → p = nI i → m.testBit i = false) (h : post 0) : wpX_isItem post (fb, nI m, as, ab, al, af) p := by
  rcases pk_ix p (n := 8) (by decide) with z | z | ⟨i, hi, rfl⟩
  · exact br_t z h
  · exact br_c (fun _ => h) (fun _ => br_t z h)
  · exact br_f (nI_pos (by omega)) (br_f (xd_ge8 i hi) (xd_isIn hm hi (fun _ => h) (fun y => absurd y (by rw [hno i hi rfl]; decide))))
theorem yd_isY {post : Int32 → Prop} {m i : Nat} {s : Nat → Nat} {fr fn : Int32} {as ai ab : Nat → Int32} (hZ : yd_Z m s as) (hi : i < 8) (hb : m.testBit i = true) (h1 : post 1) : wpY_is post (fr, fn, as, ai, ab) (nI i) :=
  yd_is hZ hi (fun z => absurd hb (by rw [z]; decide)) (fun _ => h1)
theorem rd_item (m : Nat) (p : Int32) : (∃ i, i < 8 ∧ p = nI i ∧ m.testBit i = true) ∨ ∀ i, i < 8 → p = nI i → m.testBit i = false := by
  by_cases h : ∃ i, i < 8 ∧ p = nI i ∧ m.testBit i = true
  · exact Or.inl h
  · refine Or.inr (fun i hi e => ?_)
    cases hb : m.testBit i
    · rfl
    · exact absurd ⟨i, hi, e, hb⟩ h
/-! add -/
theorem xd_ad12 {post : Int32 → SX → Prop} {m : Nat} {x fb : Int32} {as ab al af : Nat → Int32} (hm : m < 256)
    (h1 : ∀ i, i < 8 → m.testBit i = false → (∀ j, j < i → m.testBit j = true) → post (nI i) (fb, nI (m ||| 2 ^ i), upd as i x, ab, al, af))
    (h2 : (∀ j, j < 8 → m.testBit j = true) → post (-2) (fb, nI m, as, ab, al, af)) :
    ∀ d i, i + d = 8 → (∀ j, j < i → m.testBit j = true) → wX_add_12 post x fb (nI m) as ab al af (d + 1) (nI i) := by
  intro d
  induction d with
  | zero =>
    intro i hi h
    obtain rfl : i = 8 := by omega
    exact br_t xd_88 (h2 h)
  | succ d ih =>
    intro i hi h
    have h8 : i < 8 := by omega
    refine br_f (xd_ge8 i h8) (xd_isIn hm h8 (fun z => nm_r (xd_or m hm i h8) ⟨xd_in h8, nm_r (e' := upd as i x) (by rw [xd_cl (by omega)]) (h1 i h8 z h)⟩) (fun z => nm_r (nI_1 i) (ih (i + 1) (by omega) (fun j hj => ?_))))
    by_cases e : j = i
    · subst e; exact z
    · exact h j (by omega)
theorem yd_ad17 {post : Int32 → SY → Prop} {m q : Nat} {s : Nat → Nat} {x fr fn : Int32} {as ai ab : Nat → Int32} (hZ : yd_Z m s as) (hq : q ≤ 8) (hall : ∀ j, j < q → m.testBit j = true)
    (h1 : q < 8 → m.testBit q = false ∧ post (nI q) (fr, fn, upd as q x, ai, ab))
    (h2 : q = 8 → post (-2) (fr, fn, as, ai, ab)) :
    ∀ d i, i + d = q → wY_add_17 post x fr fn as ai ab (d + 1) (nI i) := by
  intro d
  induction d with
  | zero =>
    intro i hi
    obtain rfl : i = q := by omega
    by_cases h8 : i < 8
    · obtain ⟨g1, g2⟩ := h1 h8
      obtain ⟨z1, z2, z3⟩ := hZ i h8
      have e1 : as (nI i).toNatClampNeg = 0 := by
        rw [xd_cl (by omega), z1]
        rw [g1] at z3
        have : ¬ 0 < s i := of_decide_eq_false z3.symm
        have e : s i = 0 := by omega
        rw [e]; rfl
      exact br_f (xd_ge8 i h8) ⟨xd_in h8, br_t e1 ⟨xd_in h8, nm_r (e' := upd as i x) (by rw [xd_cl (by omega)]) g2⟩⟩
    · obtain rfl : i = 8 := by omega
      exact br_t xd_88 (h2 rfl)
  | succ d ih =>
    intro i hi
    have h8 : i < 8 := by omega
    obtain ⟨z1, z2, z3⟩ := hZ i h8
    have hb := hall i (by omega)
    rw [hb] at z3
    have hpos : 0 < s i := of_decide_eq_true z3.symm
    have e1 : ¬ as (nI i).toNatClampNeg = 0 := by
      rw [xd_cl (by omega), z1]
      exact nI_ne0 hpos (by omega)
    exact br_f (xd_ge8 i h8) ⟨xd_in h8, br_f e1 (nm_r (nI_1 i) (ih (i + 1) (by omega)))⟩
theorem i_vc_add {k : Nat} {u : SX} {v : SY} (I : i_Rel k u v) (hk : k + 3 ≤ 1537) (v1 : Int32) : wpX_add (fun r u' => wpY_add (fun r' v' => r' = r ∧ i_Rel (k + 3) u' v') v v1) u v1 := by
  obtain ⟨m, R, s, as, ab, al, af, fn, bs, bi, bb, rfl, rfl, h⟩ := I
  have h' := h
  obtain ⟨hm, r1, r2, hZ, ha, hs⟩ := h'
  by_cases g1 : v1 < 1
  · exact br_t g1 (br_t rfl (br_t g1 ⟨rfl, rd_mk h⟩))
  · by_cases g2 : nI R < v1
    · exact br_f g1 (br_t g2 (br_t rfl (br_f g1 (br_f (Int32.not_le.mpr g2) ⟨rfl, rd_mk h⟩))))
    · obtain ⟨q, q1, q2, rfl⟩ := rd_of g1
      have g3 : q ≤ R := by
        have := (not_congr (nI_ltI (a := R) (b := q) (by omega) q2)).mp g2
        omega
      have g4 : nI q ≤ nI R := nI_le g3 (by omega)
      refine br_f g1 (br_f g2 (br_f (by decide) ⟨_, xd_ad12 hm (fun i hi hb hall => ?_) (fun hall => ?_) 8 0 (by omega) (fun j hj => absurd hj (by omega))⟩))
      · exact br_f g1 (br_t g4 ⟨_, yd_ad17 hZ (q := i) (by omega) hall (fun _ => ⟨hb, rfl, rd_mk (rd_set h (xd_or_lt m hm i hi) (fun j _ => xd_or_bit m i j) q1 g3)⟩) (fun z => by omega) i 0 (by omega)⟩)
      · exact br_f g1 (br_t g4 ⟨_, yd_ad17 hZ (q := 8) (by omega) hall (fun z => absurd z (by omega)) (fun _ => ⟨rfl, rd_mk h⟩) 8 0 (by omega)⟩)
/-! remove, resize -/
theorem i_vc_remove {k : Nat} {u : SX} {v : SY} (I : i_Rel k u v) (hk : k + 3 ≤ 1537) (v1 : Int32) : wpX_remove (fun r u' => wpY_remove (fun r' v' => r' = r ∧ i_Rel (k + 3) u' v') v v1) u v1 := by
  obtain ⟨m, R, s, as, ab, al, af, fn, bs, bi, bb, rfl, rfl, h⟩ := I
  have h' := h
  obtain ⟨hm, r1, r2, hZ, ha, hs⟩ := h'
  unfold wpX_remove wpY_remove
  dsimp only
  rcases rd_item m v1 with ⟨i, hi, rfl, hb⟩ | hno
  · refine xd_itY hm hi hb (br_f (by decide) ?_)
    unfold wpX_without
    dsimp only
    rw [xd_wo m hm i hi]
    refine yd_isY hZ hi hb (br_f (by decide) ⟨xd_in hi, nm_r (e' := upd bs i 0) (by rw [xd_cl (by omega)]) ⟨rfl, rd_mk (rd_rem h hi)⟩⟩)
  · exact xd_itN hm hno (br_t rfl (yd_isN hZ hno (br_t rfl ⟨rfl, rd_mk h⟩)))
theorem i_vc_resize {k : Nat} {u : SX} {v : SY} (I : i_Rel k u v) (hk : k + 3 ≤ 1537) (v1 : Int32) (v2 : Int32) : wpX_resize (fun r u' => wpY_resize (fun r' v' => r' = r ∧ i_Rel (k + 3) u' v') v v1 v2) u v1 v2 := by
  obtain ⟨m, R, s, as, ab, al, af, fn, bs, bi, bb, rfl, rfl, h⟩ := I
  have h' := h
  obtain ⟨hm, r1, r2, hZ, ha, hs⟩ := h'
  unfold wpX_resize wpY_resize
  dsimp only
  rcases rd_item m v1 with ⟨i, hi, rfl, hb⟩ | hno
  · refine xd_itY hm hi hb (br_f (by decide) ?_)
    by_cases g1 : v2 < 1
    · exact br_t g1 (br_t rfl (yd_isY hZ hi hb (br_f (by decide) (br_t g1 ⟨rfl, rd_mk h⟩))))
    · by_cases g2 : nI R < v2
      · exact br_f g1 (br_t g2 (br_t rfl (yd_isY hZ hi hb (br_f (by decide) (br_f g1 (br_f (Int32.not_le.mpr g2) ⟨rfl, rd_mk h⟩))))))
      · obtain ⟨q, q1, q2, rfl⟩ := rd_of g1
        have g3 : q ≤ R := by
          have := (not_congr (nI_ltI (a := R) (b := q) (by omega) q2)).mp g2
          omega
        have g4 : nI q ≤ nI R := nI_le g3 (by omega)
        have hset : rd_R m R (fun j => if j = i then q else s j) (upd as i (nI q)) (upd bs i (nI q)) := rd_set h hm (fun j hj => by
          by_cases e : i = j
          · subst e; rw [hb]; rfl
          · rw [decide_eq_false e, Bool.or_false]) q1 g3
        exact br_f g1 (br_f g2 (br_f (by decide) ⟨xd_in hi, nm_r (e' := upd as i (nI q)) (by rw [xd_cl (by omega)]) (yd_isY hZ hi hb (br_f (by decide) (br_f g1 (br_t g4 ⟨xd_in hi, nm_r (e' := upd bs i (nI q)) (by rw [xd_cl (by omega)]) ⟨rfl, rd_mk hset⟩⟩))))⟩))
  · exact xd_itN hm hno (br_t rfl (yd_isN hZ hno (br_t rfl ⟨rfl, rd_mk h⟩)))
/-! setSize -/
theorem xd_la4 {post : Int32 → Prop} {m : Nat} {s : Nat → Nat} {fb : Int32} {as ab al af : Nat → Int32} (hm : m < 256) (ha : ∀ i, i < 8 → m.testBit i = true → as i = nI (s i)) (hs : ∀ i, i < 8 → s i ≤ 60)
    (hp : ∀ M, M ≤ 60 → (∀ i, i < 8 → m.testBit i = true → s i ≤ M) → (M = 0 ∨ ∃ i, i < 8 ∧ s i = M) → post (nI M)) :
    ∀ d i M, i + d = 8 → M ≤ 60 → (∀ j, j < i → m.testBit j = true → s j ≤ M) → (M = 0 ∨ ∃ i, i < 8 ∧ s i = M) → wX_largest_4 post fb (nI m) as ab al af (d + 1) (nI M) (nI i) := by
  intro d
  induction d with
  | zero =>
    intro i M hi hM h1 h2
    obtain rfl : i = 8 := by omega
    exact br_t xd_88 (hp M hM h1 h2)
  | succ d ih =>
    intro i M hi hM h1 h2
    have h8 : i < 8 := by omega
    have b1 := hs i h8
    refine br_f (xd_ge8 i h8) (xd_isIn hm h8 (fun z => nm_r (nI_1 i) (ih (i + 1) M (by omega) hM (fun j hj hb => ?_) h2)) (fun z => ?_))
    · by_cases e : j = i
      · subst e; rw [z] at hb; exact absurd hb (by decide)
      · exact h1 j (by omega) hb
    · have e1 : as (nI i).toNatClampNeg = nI (s i) := by rw [xd_cl (by omega)]; exact ha i h8 z
      refine ⟨xd_in h8, pk_le (s i) M (fun y => nm_r (nI_1 i) (ih (i + 1) M (by omega) hM (fun j hj hb => ?_) h2)) (fun y => ⟨xd_in h8, nm_r e1 (nm_r (nI_1 i) (ih (i + 1) (s i) (by omega) b1 (fun j hj hb => ?_) (Or.inr ⟨i, h8, rfl⟩)))⟩) (hx := e1)⟩
      · by_cases e : j = i
        · subst e; exact y
        · exact h1 j (by omega) hb
      · by_cases e : j = i
        · subst e; exact Nat.le_refl _
        · have := h1 j (by omega) hb; omega
theorem yd_ss15 {post : Int32 → SY → Prop} {m q : Nat} {s : Nat → Nat} {fr fn : Int32} {as ai ab : Nat → Int32} (hZ : yd_Z m s as) (hq : q ≤ 60)
    (h1 : (∀ i, i < 8 → s i ≤ q) → post 1 (nI q, fn, as, ai, ab)) (h0 : ∀ i, i < 8 → q < s i → post 0 (fr, fn, as, ai, ab)) :
    ∀ d i, i + d = 8 → (∀ j, j < i → s j ≤ q) → wY_setSize_15 post (nI q) fr fn as ai ab (d + 1) (nI i) := by
  intro d
  induction d with
  | zero =>
    intro i hi h
    obtain rfl : i = 8 := by omega
    exact br_t xd_88 (h1 h)
  | succ d ih =>
    intro i hi h
    have h8 : i < 8 := by omega
    obtain ⟨z1, z2, z3⟩ := hZ i h8
    have e1 : as (nI i).toNatClampNeg = nI (s i) := by rw [xd_cl (by omega)]; exact z1
    refine br_f (xd_ge8 i h8) ⟨xd_in h8, pk_le (s i) q (fun y => nm_r (nI_1 i) (ih (i + 1) (by omega) (fun j hj => ?_))) (fun y => h0 i h8 y) (hx := e1)⟩
    by_cases e : j = i
    · subst e; exact y
    · exact h j (by omega)
theorem i_vc_setSize {k : Nat} {u : SX} {v : SY} (I : i_Rel k u v) (hk : k + 3 ≤ 1537) (v1 : Int32) : wpX_setSize (fun r u' => wpY_setSize (fun r' v' => r' = r ∧ i_Rel (k + 3) u' v') v v1) u v1 := by
  obtain ⟨m, R, s, as, ab, al, af, fn, bs, bi, bb, rfl, rfl, h⟩ := I
  have h' := h
  obtain ⟨hm, r1, r2, hZ, ha, hs⟩ := h'
  by_cases g1 : v1 < 1
  · exact br_t g1 (br_t g1 ⟨rfl, rd_mk h⟩)
  · by_cases g2 : 60 < v1
    · exact br_f g1 (br_t g2 (br_f g1 (br_f (Int32.not_le.mpr g2) ⟨rfl, rd_mk h⟩)))
    · have g2' : v1 ≤ 60 := Int32.not_lt.mp g2
      obtain ⟨q, q1, q2, rfl⟩ := rd_of g1
      have g3 : q ≤ 60 := (nI_leI (b := 60) q2 (by decide)).mp g2'
      refine br_f g1 (br_f g2 ⟨_, xd_la4 hm ha (fun i hi => (hZ i hi).2.1) (fun M hM h1 h2 => pk_le M q (fun y => ?_) (fun y => ?_)) 8 0 0 (by omega) (by omega) (fun j hj => absurd hj (by omega)) (Or.inl rfl)⟩)
      · have hall : ∀ i, i < 8 → s i ≤ q := by
          intro i hi
          obtain ⟨z1, z2, z3⟩ := hZ i hi
          cases hb : m.testBit i
          · rw [hb] at z3
            have : ¬ 0 < s i := of_decide_eq_false z3.symm
            omega
          · exact Nat.le_trans (h1 i hi hb) y
        exact br_f g1 (br_t g2' ⟨_, yd_ss15 hZ g3 (fun _ => ⟨rfl, rd_mk ⟨hm, q1, g3, hZ, ha, hall⟩⟩) (fun i hi z => absurd (hall i hi) (by omega)) 8 0 (by omega) (fun j hj => absurd hj (by omega))⟩)
      · refine br_f g1 (br_t g2' ⟨_, yd_ss15 hZ g3 (fun hall => ?_) (fun i hi z => ⟨rfl, rd_mk h⟩) 8 0 (by omega) (fun j hj => absurd hj (by omega))⟩)
        rcases h2 with z | ⟨i, hi, e⟩
        · omega
        · have := hall i hi; omega
/-! size, items, sizeOf -/
theorem i_vc_size {k : Nat} {u : SX} {v : SY} (I : i_Rel k u v) (hk : k + 3 ≤ 1537) : wpX_size (fun r => wpY_size (fun r' => r' = r ∧ i_Rel (k + 3) u v) v) u := by
  obtain ⟨m, R, s, as, ab, al, af, fn, bs, bi, bb, rfl, rfl, h⟩ := I
  exact ⟨rfl, rd_mk h⟩
theorem rd_tab0 : ∀ m, m < 256 → ∀ i, i < 8 → m.testBit i = false → nI (m % 2 ^ i) ||| 0 = nI (m % 2 ^ (i + 1)) := by decide +kernel
theorem rd_tab1 : ∀ m, m < 256 → ∀ i, i < 8 → m.testBit i = true → nI (m % 2 ^ i) ||| ((1 : Int32) <<< (nI i &&& 31)) = nI (m % 2 ^ (i + 1)) := by decide +kernel
theorem yd_it4 {post : Int32 → Prop} {m : Nat} {s : Nat → Nat} {fr fn : Int32} {as ai ab : Nat → Int32} (hm : m < 256) (hZ : yd_Z m s as) (hp : post (nI m)) : ∀ d i, i + d = 8 → wY_items_4 post fr fn as ai ab (d + 1) (nI (m % 2 ^ i)) (nI i) := by
  intro d
  induction d with
  | zero =>
    intro i hi
    obtain rfl : i = 8 := by omega
    refine br_t xd_88 ?_
    rw [Nat.mod_eq_of_lt hm]
    exact hp
  | succ d ih =>
    intro i hi
    have h8 : i < 8 := by omega
    exact br_f (xd_ge8 i h8) (yd_is2 hZ h8 (fun z => nm_r (rd_tab0 m hm i h8 z) (nm_r (nI_1 i) (ih (i + 1) (by omega)))) (fun z => nm_r (rd_tab1 m hm i h8 z) (nm_r (nI_1 i) (ih (i + 1) (by omega)))))
theorem i_vc_items {k : Nat} {u : SX} {v : SY} (I : i_Rel k u v) (hk : k + 3 ≤ 1537) : wpX_items (fun r => wpY_items (fun r' => r' = r ∧ i_Rel (k + 3) u v) v) u := by
  obtain ⟨m, R, s, as, ab, al, af, fn, bs, bi, bb, rfl, rfl, h⟩ := I
  have H := yd_it4 (post := fun r' => r' = nI m ∧ i_Rel (k + 3) (nI R, nI m, as, ab, al, af) (nI R, fn, bs, bi, bb)) (fr := nI R) (fn := fn) (ai := bi) (ab := bb) h.1 h.2.2.2.1 ⟨rfl, rd_mk h⟩ 8 0 (by omega)
  rw [Nat.pow_zero, Nat.mod_one] at H
  exact ⟨9, H⟩
theorem i_vc_sizeOf {k : Nat} {u : SX} {v : SY} (I : i_Rel k u v) (hk : k + 3 ≤ 1537) (v1 : Int32) : wpX_sizeOf (fun r => wpY_sizeOf (fun r' => r' = r ∧ i_Rel (k + 3) u v) v v1) u v1 := by
  obtain ⟨m, R, s, as, ab, al, af, fn, bs, bi, bb, rfl, rfl, h⟩ := I
  have h' := h
  obtain ⟨hm, r1, r2, hZ, ha, hs⟩ := h'
  unfold wpX_sizeOf wpY_sizeOf
  dsimp only
  rcases rd_item m v1 with ⟨i, hi, rfl, hb⟩ | hno
  · refine xd_itY hm hi hb (br_f (by decide) ⟨xd_in hi, yd_isY hZ hi hb (br_f (by decide) ⟨xd_in hi, ?_, rd_mk h⟩)⟩)
    rw [xd_cl (by omega), ha i hi hb]; exact (hZ i hi).1
  · exact xd_itN hm hno (br_t rfl (yd_isN hZ hno (br_t rfl ⟨rfl, rd_mk h⟩)))
