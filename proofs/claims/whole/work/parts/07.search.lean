/-! the methods that search -/
theorem rd_w {m R : Nat} {s : Nat → Nat} {as bs : Nat → Int32} (h : rd_R m R s as bs) : ∃ w : Nat → Nat, (∀ k, w k ≤ R) ∧ (∀ i, i < 8 → m.testBit i = true → w (bd_cnt m i) = s i) ∧ xd_W m w as := by
  obtain ⟨hm, r1, r2, hZ, ha, hs⟩ := h
  obtain ⟨w, h1, h2⟩ := bd_w (m := m) hs 8 (Nat.le_refl 8)
  exact ⟨w, h1, h2, fun k => Nat.le_trans (h1 k) r2, fun i hi hb => by rw [h2 i hi hb]; exact ha i hi hb⟩
theorem i_vc_least {k : Nat} {u : SX} {v : SY} (I : i_Rel k u v) (hk : k + 3 ≤ 1537) : wpX_least (fun r u' => wpY_least (fun r' v' => r' = r ∧ i_Rel (k + 3) u' v') v) u := by
  obtain ⟨m, R, s, as, ab, al, af, fn, bs, bi, bb, rfl, rfl, h⟩ := I
  obtain ⟨w, hwR, hws, hW⟩ := rd_w h
  unfold wpX_least
  dsimp only
  refine xd_pf h.1 h.2.2.1 hW hwR (fun v ab al af hL _ => ?_)
  dsimp only
  refine yd_le h.2.2.1 h.2.2.2.1 hwR hws (fun v' fn ai ab hL' => ⟨by rw [bd_L_one hL hL'], rd_mk h⟩)
theorem i_vc_leastWithout {k : Nat} {u : SX} {v : SY} (I : i_Rel k u v) (hk : k + 3 ≤ 1537) (v1 : Int32) : wpX_leastWithout (fun r u' => wpY_leastWithout (fun r' v' => r' = r ∧ i_Rel (k + 3) u' v') v v1) u v1 := by
  obtain ⟨m, R, s, as, ab, al, af, fn, bs, bi, bb, rfl, rfl, h⟩ := I
  have h' := h
  obtain ⟨hm, r1, r2, hZ, ha, hs⟩ := h'
  unfold wpX_leastWithout wpY_leastWithout
  dsimp only
  rcases rd_item m v1 with ⟨i, hi, rfl, hb⟩ | hno
  · refine xd_itY hm hi hb (br_f (by decide) ?_)
    unfold wpX_without
    dsimp only
    rw [xd_wo m hm i hi]
    have h2 := rd_rem h hi
    obtain ⟨w, hwR, hws, hW⟩ := rd_w h2
    refine xd_pf h2.1 r2 hW hwR (fun v ab al af hL _ => ?_)
    dsimp only
    refine yd_isY hZ hi hb (br_f (by decide) ⟨xd_in hi, nm_r (e' := bs i) (by rw [xd_cl (by omega)]) ⟨xd_in hi, nm_r (e' := upd bs i 0) (by rw [xd_cl (by omega)]) ?_⟩⟩)
    refine yd_le r2 h2.2.2.2.1 hwR hws (fun v' fn ai ab hL' => ⟨xd_in hi, nm_r (e' := bs) ?_ ⟨by rw [bd_L_one hL hL'], rd_mk h⟩⟩)
    rw [xd_cl (by omega)]
    funext j
    by_cases e : j = i
    · subst e; exact pk_us
    · rw [pk_un e]; exact pk_un e
  · exact xd_itN hm hno (br_t rfl (yd_isN hZ hno (br_t rfl ⟨rfl, rd_mk h⟩)))
theorem i_vc_binOf {k : Nat} {u : SX} {v : SY} (I : i_Rel k u v) (hk : k + 3 ≤ 1537) (v1 : Int32) : wpX_binOf (fun r u' => wpY_binOf (fun r' v' => r' = r ∧ i_Rel (k + 3) u' v') v v1) u v1 := by
  obtain ⟨m, R, s, as, ab, al, af, fn, bs, bi, bb, rfl, rfl, h⟩ := I
  have h' := h
  obtain ⟨hm, r1, r2, hZ, ha, hs⟩ := h'
  obtain ⟨w, hwR, hws, hW⟩ := rd_w h
  have hw60 : ∀ k, w k ≤ 60 := fun k => Nat.le_trans (hwR k) r2
  have hn := xd_le8 m
  unfold wpX_binOf wpY_binOf
  dsimp only
  rcases rd_item m v1 with ⟨i, hi, rfl, hb⟩ | hno
  · have hin := bd_cnt_lt hb hi
    refine xd_itY hm hi hb (br_f (by decide) ?_)
    refine xd_pf hm r2 hW hwR (fun v ab al af hL hf => ?_)
    obtain ⟨f, hF, hfa⟩ := hf
    dsimp only
    refine ⟨xd_in hi, ?_⟩
    refine yd_le r2 hZ hwR hws (fun v' fn ai ab hL' => ?_)
    obtain rfl := bd_L_one hL hL'
    dsimp only
    refine yd_fi hZ hw60 hws (fun ai ab hz hW' => ?_)
    dsimp only
    refine yd_isY hZ hi hb ⟨_, yd_bo18 hn (by omega) r2 hZ hW' hL hi hin (fun g ab hG => ⟨?_, rd_mk h⟩) 4141 0 (fun _ => 0) ab (Nat.zero_le _) (Nat.le_add_left _ _) (yd_zB hn hz) (fun c _ _ hl => absurd hl bd_zero_lt)⟩
    rw [xd_cl (by omega), hfa i hi hb, bd_F_one hF hG _ hin]
  · refine xd_itN hm hno (br_t rfl ?_)
    refine yd_le r2 hZ hwR hws (fun v' fn ai ab hL' => ?_)
    dsimp only
    refine yd_fi hZ hw60 hws (fun ai ab hz hW' => ?_)
    dsimp only
    exact yd_isN hZ hno ⟨1, br_f (by decide) (br_t rfl ⟨rfl, rd_mk h⟩)⟩
/-! spare -/
theorem xd_spare {post : Int32 → SX → Prop} {m R : Nat} {w : Nat → Nat} {as ab al af : Nat → Int32} (hm : m < 256) (hR : R ≤ 60) (hwR : ∀ k, w k ≤ R) (hW : xd_W m w as)
    (hp : ∀ v M ab al af, bd_L (bd_cnt m 8) w R v → bd_Sp (bd_cnt m 8) w R v M → post (nI M) (nI R, nI m, as, ab, al, af)) : wpX_spare post (nI R, nI m, as, ab, al, af) := by
  have hn := xd_le8 m
  unfold wpX_spare
  dsimp only
  refine xd_pf hm hR hW hwR (fun v ab al af hL _ => ?_)
  have hv := bd_L_le hL
  dsimp only
  by_cases h0 : v = 0
  · subst h0
    refine br_t (by decide) ?_
    unfold wX_spare_20
    refine xd_sg (fun ab hz => ?_)
    dsimp only
    exact ⟨1, br_t rfl (hp 0 0 ab al af hL ⟨fun _ _ _ _ d hd => absurd hd (Nat.not_lt_zero _), Or.inl rfl⟩)⟩
  · refine br_f (nI_nle (by omega) (by omega)) ?_
    unfold wX_spare_20
    refine xd_sg (fun ab hz => ?_)
    dsimp only
    exact ⟨_, xd_sp28 hm hR (by omega) (by omega) hW (fun M ab al af hS => hp v M ab al af hL hS) 4141 0 0 (fun _ => 0) ab al af (Nat.zero_le _) (Nat.le_add_left _ _) ⟨bd_zero_neat _, fun i hi _ => hz i hi⟩ (fun c _ _ _ hl => absurd hl bd_zero_lt) (Or.inl rfl)⟩
theorem yd_spare {post : Int32 → SY → Prop} {m R : Nat} {s w : Nat → Nat} {fn : Int32} {as ai ab : Nat → Int32} (hR : R ≤ 60) (hZ : yd_Z m s as) (hwR : ∀ k, w k ≤ R) (hws : ∀ i, i < 8 → m.testBit i = true → w (bd_cnt m i) = s i)
    (hp : ∀ v M fn ai ab, bd_L (bd_cnt m 8) w R v → bd_Sp (bd_cnt m 8) w R v M → post (nI M) (nI R, fn, as, ai, ab)) : wpY_spare post (nI R, fn, as, ai, ab) := by
  have hn := xd_le8 m
  unfold wpY_spare
  dsimp only
  refine yd_le hR hZ hwR hws (fun v fn ai ab hL => ?_)
  have hv := bd_L_le hL
  dsimp only
  refine yd_fi hZ (fun k => Nat.le_trans (hwR k) hR) hws (fun ai ab hz hW => ?_)
  dsimp only
  by_cases h0 : bd_cnt m 8 = 0
  · refine br_t ?_ ⟨1, br_f (by decide) (br_t rfl (hp v 0 _ ai ab hL ⟨fun _ _ _ _ d hd => absurd hd (by omega), Or.inl rfl⟩))⟩
    rw [h0]; decide
  · exact br_f (nI_nle (by omega) (by omega)) ⟨_, yd_sp27 hn (by omega) hR (by omega) hW (fun M ab hS => hp v M _ ai ab hL hS) 4141 0 0 (fun _ => 0) ab (Nat.zero_le _) (Nat.le_add_left _ _) (yd_zB hn hz) (fun c _ _ _ hl => absurd hl bd_zero_lt) (Or.inl rfl)⟩
theorem i_vc_spare {k : Nat} {u : SX} {v : SY} (I : i_Rel k u v) (hk : k + 3 ≤ 1537) : wpX_spare (fun r u' => wpY_spare (fun r' v' => r' = r ∧ i_Rel (k + 3) u' v') v) u := by
  obtain ⟨m, R, s, as, ab, al, af, fn, bs, bi, bb, rfl, rfl, h⟩ := I
  obtain ⟨w, hwR, hws, hW⟩ := rd_w h
  refine xd_spare h.1 h.2.2.1 hwR hW (fun v M ab al af hL hS => ?_)
  refine yd_spare h.2.2.1 h.2.2.2.1 hwR hws (fun v' M' fn ai ab hL' hS' => ⟨?_, rd_mk h⟩)
  obtain rfl := bd_L_one hL hL'
  rw [bd_Sp_one hS hS']
/-! sizeFor -/
theorem rd_cnt0 : ∀ m, m < 256 → bd_cnt m 8 = 0 → m = 0 := by decide +kernel
theorem rd_cnt00 : bd_cnt 0 8 = 0 := by decide +kernel
theorem rd_w0 {m R : Nat} {s w : Nat → Nat} {as bs : Nat → Int32} (h : rd_R m R s as bs) (hws : ∀ i, i < 8 → m.testBit i = true → w (bd_cnt m i) = s i) (hn : 0 < bd_cnt m 8) : 1 ≤ w 0 := by
  obtain ⟨i, hi, hb, e⟩ := bd_surj (m := m) 8 0 hn
  have h1 := hws i hi hb
  obtain ⟨_, _, z3⟩ := h.2.2.2.1 i hi
  rw [hb] at z3
  have : 0 < s i := of_decide_eq_true z3.symm
  rw [e] at h1
  omega
theorem i_vc_sizeFor {k : Nat} {u : SX} {v : SY} (I : i_Rel k u v) (hk : k + 3 ≤ 1537) (v1 : Int32) : wpX_sizeFor (fun r u' => wpY_sizeFor (fun r' v' => r' = r ∧ i_Rel (k + 3) u' v') v v1) u v1 := by
  obtain ⟨m, R, s, as, ab, al, af, fn, bs, bi, bb, rfl, rfl, h⟩ := I
  have h' := h
  obtain ⟨hm, r1, r2, hZ, ha, hs⟩ := h'
  obtain ⟨w, hwR, hws, hW⟩ := rd_w h
  have hw60 : ∀ k, w k ≤ 60 := fun k => Nat.le_trans (hwR k) r2
  have hn := xd_le8 m
  by_cases g1 : v1 < 1
  · refine br_t g1 ?_
    unfold wpY_sizeFor
    dsimp only
    refine yd_fi hZ hw60 hws (fun ai ab hz hW' => ?_)
    dsimp only
    exact br_c (fun _ => ⟨1, br_f (by decide) (br_t rfl ⟨rfl, rd_mk h⟩)⟩) (fun _ => br_t g1 ⟨1, br_f (by decide) (br_t rfl ⟨rfl, rd_mk h⟩)⟩)
  · by_cases g2 : 8 < v1
    · refine br_f g1 (br_t g2 ?_)
      unfold wpY_sizeFor
      dsimp only
      refine yd_fi hZ hw60 hws (fun ai ab hz hW' => ?_)
      dsimp only
      exact br_c (fun _ => ⟨1, br_f (by decide) (br_t rfl ⟨rfl, rd_mk h⟩)⟩) (fun _ => br_f g1 (br_t g2 ⟨1, br_f (by decide) (br_t rfl ⟨rfl, rd_mk h⟩)⟩))
    · obtain ⟨q, q1, q2, rfl⟩ := rd_of g1
      have q3 : q ≤ 8 := by
        have := (not_congr (nI_ltI (a := 8) (b := q) (by decide) q2)).mp g2
        omega
      by_cases h0 : bd_cnt m 8 = 0
      · obtain rfl := rd_cnt0 m hm h0
        refine br_f g1 (br_f g2 (br_t rfl ?_))
        unfold wpY_sizeFor
        dsimp only
        refine yd_fi hZ hw60 hws (fun ai ab hz hW' => ?_)
        dsimp only
        refine br_t ?_ ⟨1, br_f (by decide) (br_t rfl ⟨rfl, rd_mk h⟩)⟩
        rw [rd_cnt00]; decide
      · have hm0 : ¬ nI m = 0 := by
          refine nI_ne0 ?_ (by omega)
          by_cases e : m = 0
          · subst e; exact absurd rd_cnt00 h0
          · omega
        refine br_f g1 (br_f g2 (br_f hm0 ?_))
        refine xd_sg (fun ab hz => ?_)
        dsimp only
        refine ⟨_, xd_sf33 hm q3 hW (by omega) (rd_w0 h hws (by omega)) (fun v ab al af hv hlow hI => ?_) 4141 0 481 (fun _ => 0) ab al af (Nat.zero_le _) (Nat.le_add_left _ _) ⟨bd_zero_neat _, fun i hi _ => hz i hi⟩ (by decide) (by decide) (fun c _ _ hl => absurd hl bd_zero_lt) (Or.inl rfl)⟩
        have hZ1 : bd_Z (bd_cnt m 8) w q v := by
          refine ⟨hlow, ?_⟩
          rcases hI with z | z
          · obtain ⟨e, he⟩ := hlow _ (bd_zero_neat _) (Nat.le_trans (bd_zero_mx _) q1)
            have := xd_ld480 (b := fun _ => 0) hW e
            omega
          · exact z
        unfold wpY_sizeFor
        dsimp only
        refine yd_fi hZ hw60 hws (fun ai ab hz hW' => ?_)
        dsimp only
        refine br_f (nI_nle (by omega) (by omega)) (br_f g1 (br_f g2 ⟨_, yd_sf33 hn (by omega) q1 q3 hW' (fun v' ab hZ2 => ⟨by rw [bd_Z_one hZ1 hZ2], rd_mk h⟩) 4141 0 (-1) (fun _ => 0) ab (Nat.zero_le _) (Nat.le_add_left _ _) (yd_zB hn hz) (Or.inl ⟨rfl, fun c _ hl => absurd hl bd_zero_lt⟩)⟩))
/-! together -/
theorem i_vc_together {k : Nat} {u : SX} {v : SY} (I : i_Rel k u v) (hk : k + 3 ≤ 1537) (v1 : Int32) (v2 : Int32) : wpX_together (fun r u' => wpY_together (fun r' v' => r' = r ∧ i_Rel (k + 3) u' v') v v1 v2) u v1 v2 := by
  obtain ⟨m, R, s, as, ab, al, af, fn, bs, bi, bb, rfl, rfl, h⟩ := I
  have h' := h
  obtain ⟨hm, r1, r2, hZ, ha, hs⟩ := h'
  obtain ⟨w, hwR, hws, hW⟩ := rd_w h
  have hw60 : ∀ k, w k ≤ 60 := fun k => Nat.le_trans (hwR k) r2
  have hn := xd_le8 m
  unfold wpX_together wpY_together
  dsimp only
  rcases rd_item m v1 with ⟨i, hi, rfl, hb⟩ | hno
  · refine xd_itY hm hi hb (br_f (by decide) ?_)
    rcases rd_item m v2 with ⟨j, hj, rfl, hbj⟩ | hno
    · refine xd_itY hm hj hbj (br_f (by decide) ?_)
      by_cases e : nI i = nI j
      · refine br_t e ?_
        refine yd_le r2 hZ hwR hws (fun v' fn ai ab hL' => ?_)
        dsimp only
        refine yd_fi hZ hw60 hws (fun ai ab hz hW' => ?_)
        dsimp only
        exact yd_isY hZ hi hb (br_f (by decide) (yd_isY hZ hj hbj (br_f (by decide) (br_t e ⟨1, br_f (by decide) (br_t rfl ⟨rfl, rfl, rd_mk h⟩)⟩))))
      · have hin := bd_cnt_lt hb hi
        have hjn := bd_cnt_lt hbj hj
        refine br_f e ?_
        refine xd_pf hm r2 hW hwR (fun v ab al af hL _ => ?_)
        have hv := bd_L_le hL
        dsimp only
        refine xd_sg (fun ab hz => ?_)
        dsimp only
        have Y : ∀ (r : Int32) (u' : SX), (∀ fn ai ab, i_Rel (k + 3) u' (nI R, fn, bs, ai, ab)) → ((r = 1 ∧ bd_T (bd_cnt m 8) w R v (bd_cnt m i) (bd_cnt m j)) ∨ (r = 0 ∧ ¬ bd_T (bd_cnt m 8) w R v (bd_cnt m i) (bd_cnt m j))) →
            wpY_together (fun r' v' => r' = r ∧ i_Rel (k + 3) u' v') (nI R, fn, bs, bi, bb) (nI i) (nI j) := by
          intro r u' hu hr
          unfold wpY_together
          dsimp only
          refine yd_le r2 hZ hwR hws (fun v' fn ai ab hL' => ?_)
          obtain rfl := bd_L_one hL hL'
          dsimp only
          refine yd_fi hZ hw60 hws (fun ai ab hz hW' => ?_)
          dsimp only
          refine yd_isY hZ hi hb (br_f (by decide) (yd_isY hZ hj hbj (br_f (by decide) (br_f e ⟨_, yd_tg43 hn (by omega) r2 (by omega) hZ hW' hi hj hin hjn (fun ab hT => ⟨?_, hu _ _ _⟩) (fun ab hT => ⟨?_, hu _ _ _⟩) 4141 0 0 (fun _ => 0) ab (Nat.zero_le _) (Nat.le_add_left _ _) (yd_zB hn hz) (Or.inl ⟨rfl, fun c _ _ _ hl => absurd hl bd_zero_lt⟩)⟩))))
          · rcases hr with ⟨z, _⟩ | ⟨_, z⟩
            · exact z.symm
            · exact absurd hT z
          · rcases hr with ⟨_, z⟩ | ⟨z, _⟩
            · exact absurd z hT
            · exact z.symm
        exact ⟨_, xd_tg42 hm r2 (by omega) hi hj hb hbj hW (fun ab al af hT => Y 1 _ (fun _ _ _ => rd_mk h) (Or.inl ⟨rfl, hT⟩)) (fun ab al af hT => Y 0 _ (fun _ _ _ => rd_mk h) (Or.inr ⟨rfl, hT⟩)) 4141 0 (fun _ => 0) ab al af (Nat.zero_le _) (Nat.le_add_left _ _) ⟨bd_zero_neat _, fun i hi _ => hz i hi⟩ (fun c _ _ _ hl => absurd hl bd_zero_lt)⟩
    · refine xd_itN hm hno (br_t rfl ?_)
      refine yd_le r2 hZ hwR hws (fun v' fn ai ab hL' => ?_)
      dsimp only
      refine yd_fi hZ hw60 hws (fun ai ab hz hW' => ?_)
      dsimp only
      exact yd_isY hZ hi hb (br_f (by decide) (yd_isN hZ hno (br_t rfl ⟨1, br_f (by decide) (br_t rfl ⟨rfl, rfl, rd_mk h⟩)⟩)))
  · refine xd_itN hm hno (br_t rfl ?_)
    refine yd_le r2 hZ hwR hws (fun v' fn ai ab hL' => ?_)
    dsimp only
    refine yd_fi hZ hw60 hws (fun ai ab hz hW' => ?_)
    dsimp only
    exact yd_isN hZ hno (br_t rfl ⟨1, br_f (by decide) (br_t rfl ⟨rfl, rfl, rd_mk h⟩)⟩)
