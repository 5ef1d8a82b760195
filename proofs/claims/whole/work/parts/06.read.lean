/-! rows bt to b_sshr: out of kit/rows/BITS -/
def bt (x : Int32) (i : Nat) : Bool := x.toBitVec.getLsbD i
theorem b_ext {x y : Int32} (h : ∀ i, i < 32 → bt x i = bt y i) : x = y := Int32.toBitVec_inj.mp (BitVec.eq_of_getLsbD_eq (fun i hi => h i hi))
theorem b_or (x y : Int32) (i : Nat) : bt (x ||| y) i = (bt x i || bt y i) := by unfold bt; rw [Int32.toBitVec_or, BitVec.getLsbD_or]
theorem b_and (x y : Int32) (i : Nat) : bt (x &&& y) i = (bt x i && bt y i) := by unfold bt; rw [Int32.toBitVec_and, BitVec.getLsbD_and]
theorem b_0 (i : Nat) : bt 0 i = false := BitVec.getLsbD_zero
theorem s_l : ∀ n, n < 32 → ((nI n &&& 31).toBitVec.smod 32).toNat = n := by decide +kernel
theorem b_shl (n : Nat) (hn : n < 32) (x : Int32) {i : Nat} (hi : i < 32) : bt (x <<< (nI n &&& 31)) i = (decide (n ≤ i) && bt x (i - n)) := by
  unfold bt
  rw [Int32.toBitVec_shiftLeft]
  show (x.toBitVec <<< ((nI n &&& 31).toBitVec.smod 32).toNat).getLsbD i = _
  rw [s_l n hn, BitVec.getLsbD_shiftLeft]
  rcases Nat.lt_or_ge i n with h | h
  · simp [h, Nat.not_le.mpr h]
  · simp [hi, h, Nat.not_lt.mpr h]
theorem b_sshr (n : Nat) (hn : n < 32) (x : Int32) {i : Nat} (hi : i < 32) : bt (x >>> (nI n &&& 31)) i = if n + i < 32 then bt x (n + i) else bt x 31 := by
  unfold bt
  rw [Int32.toBitVec_shiftRight]
  show (x.toBitVec.sshiftRight ((nI n &&& 31).toBitVec.smod 32).toNat).getLsbD i = _
  rw [s_l n hn, BitVec.getLsbD_sshiftRight, BitVec.msb_eq_getLsbD_last]
  simp [hi]
theorem az_b1 : ∀ i, i < 32 → bt 1 i = decide (i = 0) := by decide +kernel
theorem az_and1 (y : Int32) : y &&& 1 = 0 ↔ bt y 0 = false := by
  constructor
  · intro h
    have e := b_and y 1 0
    rw [h, b_0, az_b1 0 (by omega)] at e
    simpa using e.symm
  · intro h
    apply b_ext
    intro i hi
    rw [b_and, b_0, az_b1 i hi]
    by_cases e : i = 0
    · subst e; rw [h]; rfl
    · simp [e]
theorem az_bit (s : Int32) {z : Nat} (hz : z < 12) : ((s >>> (nI z &&& 31)) &&& 1) = 0 ↔ bt s z = false := by
  rw [az_and1, b_sshr z (by omega) s (by omega), if_pos (by omega), Nat.add_zero]
theorem az_set (s : Int32) {z : Nat} (hz : z < 12) {j : Nat} (hj : j < 12) : bt (s ||| ((1 : Int32) <<< (nI z &&& 31))) j = true ↔ (bt s j = true ∨ j = z) := by
  rw [b_or, b_shl z (by omega) 1 (by omega), az_b1 (j - z) (by omega)]
  by_cases e : j = z
  · subst e; simp
  · have : (decide (z ≤ j) && decide (j - z = 0)) = false := by
      by_cases g : z ≤ j
      · have : ¬ (j - z = 0) := by omega
        simp [this]
      · simp [g]
    rw [this]
    simp [e]
theorem az_sh : ∀ i, i < 12 → (1 : Int32) <<< (nI i &&& 31) = nI (2 ^ i) := by decide +kernel
theorem az_or (a b : Nat) : nI a ||| nI b = nI (a ||| b) := by
  apply Int32.toBitVec_inj.1
  show BitVec.ofNat 32 a ||| BitVec.ofNat 32 b = BitVec.ofNat 32 (a ||| b)
  apply BitVec.eq_of_getLsbD_eq
  intro i hi
  simp [hi]
theorem az_orp {m i : Nat} (h : m < 2 ^ i) : m ||| 2 ^ i = m + 2 ^ i := by
  have e := Nat.two_pow_add_eq_or_of_lt h 1
  rw [Nat.mul_one] at e
  rw [Nat.or_comm, ← e, Nat.add_comm]
/-! ===== refused or not ===== -/
def az_bad (N : Nat) (x : Int32) : Prop := ¬ ∃ j, j < N ∧ x = nI j
theorem az_badc {N : Nat} {x : Int32} (h : az_bad N x) : x < 0 ∨ (¬ x < 0 ∧ ∃ j, j < 2 ^ 31 ∧ N ≤ j ∧ x = nI j) := by
  by_cases e : x < 0
  · exact Or.inl e
  · obtain ⟨j, hj, rfl⟩ := nI_of e
    refine Or.inr ⟨e, j, hj, ?_, rfl⟩
    rcases Nat.lt_or_ge j N with g | g
    · exact absurd ⟨j, g, rfl⟩ h
    · exact g
theorem az_good {N : Nat} {x : Int32} (h : ¬ az_bad N x) : ∃ j, j < N ∧ x = nI j := Classical.not_not.mp h
section
variable {post : Int32 → Prop}
theorem ax_k1 {x : Nat} (hx : x < 4) (H : post 1) : wpX_isKind post (nI x) := br_f (nI_pos (by omega)) (br_f (nI_nlt (a := 3) (b := x) (by omega) (by decide)) H)
theorem ax_k0 {x : Int32} (h : az_bad 4 x) (H : post 0) : wpX_isKind post x := by
  rcases az_badc h with e | ⟨e, j, hj, g, rfl⟩
  · exact br_t e H
  · exact br_f e (br_t (nI_lt (a := 3) (b := j) (by omega) hj) H)
theorem ax_v1 {x : Nat} (hx : x < 12) (H : post 1) : wpX_isVariable post (nI x) := br_f (ay_nn hx) (br_f (az_ge hx) H)
theorem ax_v0 {x : Int32} (h : az_bad 12 x) (H : post 0) : wpX_isVariable post x := by
  rcases az_badc h with e | ⟨e, j, hj, g, rfl⟩
  · exact br_t e H
  · exact br_f e (br_t (nI_le (a := 12) (b := j) (by omega) hj) H)
theorem ax_vv1 {x y : Nat} (hx : x < 12) (hy : y < 12) (H : post 1) : wpX_areVariables post (nI x) (nI y) := by
  unfold wpX_areVariables
  exact ax_v1 hx (br_f (by decide) (ax_v1 hy (br_f (by decide) H)))
theorem ax_vv0 {x y : Int32} (h : az_bad 12 x ∨ az_bad 12 y) (H : post 0) : wpX_areVariables post x y := by
  unfold wpX_areVariables
  by_cases e : az_bad 12 x
  · exact ax_v0 e (br_t rfl H)
  · obtain ⟨j, hj, rfl⟩ := az_good e
    exact ax_v1 hj (br_f (by decide) (ax_v0 (h.resolve_left e) (br_t rfl H)))
theorem ay_b1 {x : Nat} (hx : x < 12) (H : post 0) : wpY_bad post (nI x) := br_f (ay_nn hx) (br_t (nI_le (a := x) (b := 11) (by omega) (by decide)) H)
theorem ay_b0 {x : Int32} (h : az_bad 12 x) (H : post 1) : wpY_bad post x := by
  rcases az_badc h with e | ⟨e, j, hj, g, rfl⟩
  · exact br_t e H
  · exact br_f e (br_f (nI_ge (a := 11) (b := j) (by omega) hj) H)
end
/-! ===== the two finished states side by side ===== -/
theorem az_none {c t c' t' : Nat → Int32} (U : az_same c t c' t') (F' : az_F c' t') {a : Nat} (ha : a < 12) (F : az_F c t) (h : t a = -1) : t' a = -1 := by
  rcases F'.2.1 a ha with e | ⟨w, hw, e1, e2⟩
  · exact e
  · have := (U.2 a w ha hw).mpr (e1.trans e2.symm)
    exact absurd (this.symm.trans h) (az_cne F hw)
theorem az_some {c t c' t' : Nat → Int32} (U : az_same c t c' t') {a w : Nat} (ha : a < 12) (hw : w < 12) (h : t a = nI w) (e : c w = nI w) : t' a = c' w := (U.2 a w ha hw).mp (h.trans e.symm)
theorem az_rep {c t c' t' : Nat → Int32} (U : az_same c t c' t') (F : az_F c t) (L : az_L c) {i : Nat} (hi : i < 12) : c i = nI i ↔ ¬ ∃ u, u < i ∧ c' u = c' i := by
  constructor
  · intro h ⟨u, hu, e⟩
    have e2 := (U.1 u i (by omega) hi).mpr e
    obtain ⟨m, hm, e3⟩ := L u (by omega)
    have := az_inj (by omega) hi (e3.symm.trans (e2.trans h))
    omega
  · intro h
    obtain ⟨m, hm, e⟩ := L i hi
    obtain ⟨w, hw, w1, w2⟩ := F.1 i hi
    have : m = w := az_inj (by omega) hw (e.symm.trans w1)
    subst this
    by_cases g : m = i
    · rw [e, g]
    · exact absurd ⟨m, by omega, (U.1 m i hw hi).mp (w2.trans w1.symm)⟩ h
section
variable {h : Int32} {k l r c t : Nat → Int32}
theorem aq_members {a : Nat} (ha : a < 12) : ∀ d i m, i + d = 12 → m < 2 ^ i → ∃ R : Int32, (∀ post : Int32 → Prop, post R → wX_members_13 post (nI a) h k l r c t (d + 1) (nI m) (nI i)) ∧ (∀ (ch : Int32) (cl to : Nat → Int32), az_same c t cl (ay_T cl to) → ∀ post : Int32 → Prop, post R → wY_membersOf_4 post (cl a) h ch k l r cl to (d + 1) (nI m) (nI i)) := by
  intro d
  induction d with
  | zero =>
    intro i m hi hm
    have e : i = 12 := by omega
    subst e
    exact ⟨nI m, fun _ H => br_t az_12 H, fun _ _ _ _ _ H => br_t az_12 H⟩
  | succ d ih =>
    intro i m hi hm
    have hi2 : i < 12 := by omega
    have p2 : 2 ^ (i + 1) = 2 ^ i * 2 := Nat.pow_succ 2 i
    by_cases e : c i = c a
    · obtain ⟨R, hX, hY⟩ := ih (i + 1) (m + 2 ^ i) (by omega) (by omega)
      refine ⟨R, fun post H => br_f (az_ge hi2) ⟨az_in hi2, az_in ha, br_t (by rw [az_c12 hi2, az_c12 ha]; exact e) (nm_r (e' := nI (m + 2 ^ i)) (by rw [az_sh i hi2, nI_add]) (nm_r (nI_1 i) (hX post H)))⟩, fun ch cl to U post H => ?_⟩
      have e2 := (U.1 i a hi2 ha).mp e
      exact br_f (az_ge hi2) ⟨az_in hi2, br_t (by rw [az_c12 hi2]; exact e2) (nm_r (e' := nI (m + 2 ^ i)) (by rw [az_sh i hi2, az_or, az_orp hm]) (nm_r (nI_1 i) (hY ch cl to U post H)))⟩
    · obtain ⟨R, hX, hY⟩ := ih (i + 1) m (by omega) (by omega)
      refine ⟨R, fun post H => br_f (az_ge hi2) ⟨az_in hi2, az_in ha, br_f (by rw [az_c12 hi2, az_c12 ha]; exact e) (nm_r (nI_1 i) (hX post H))⟩, fun ch cl to U post H => ?_⟩
      have e2 : ¬ cl i = cl a := fun z => e ((U.1 i a hi2 ha).mpr z)
      exact br_f (az_ge hi2) ⟨az_in hi2, br_f (by rw [az_c12 hi2]; exact e2) (nm_r (nI_1 i) (hY ch cl to U post H))⟩
theorem aq_steps (F : az_F c t) : ∀ d i p, i + d = 12 → p < 12 → ∃ R : Int32, (∀ post : Int32 → Prop, post R → wX_steps_13 post h k l r c t (d + 1) (nI i) (nI p)) ∧ (∀ (ch : Int32) (cl to : Nat → Int32), az_same c t cl (ay_T cl to) → az_F cl (ay_T cl to) → ∀ z, z < 12 → cl p = nI z → ∀ post : Int32 → SY → Prop, post R (h, ch, k, l, r, cl, to) → wY_steps_22 post h ch k l r cl to (d + 1) (nI z) (nI i)) := by
  intro d
  induction d with
  | zero =>
    intro i p hi _
    have e : i = 12 := by omega
    subst e
    exact ⟨nI 12, fun _ H => br_t az_12 H, fun _ _ _ _ _ _ _ _ _ H => br_t az_12 H⟩
  | succ d ih =>
    intro i p hi hp
    have hi2 : i < 12 := by omega
    have T : ∀ (cl to : Nat → Int32) z, z < 12 → cl p = nI z → ay_T cl to p = to z := by
      intro cl to z hz ez
      show to (cl p).toNatClampNeg = to z
      rw [ez, az_c12 hz]
    rcases F.2.1 p hp with e | ⟨w, hw, e, cw⟩
    · refine ⟨nI i, fun post H => br_f (az_ge hi2) ⟨az_in hp, br_t (by rw [az_c12 hp]; exact e) H⟩, fun ch cl to U F' z hz ez post H => ?_⟩
      have e2 : to z = -1 := (T cl to z hz ez).symm.trans (az_none U F' hp F e)
      exact br_f (az_ge hi2) ⟨az_in hz, br_t (by rw [az_c12 hz, e2]; exact ay_neg) H⟩
    · obtain ⟨R, hX, hY⟩ := ih (i + 1) w (by omega) hw
      refine ⟨R, fun post H => br_f (az_ge hi2) ⟨az_in hp, br_f (by rw [az_c12 hp, e]; exact az_m1 w hw) ⟨az_in hp, nm_r (e' := nI w) (by rw [az_c12 hp, e]) (nm_r (nI_1 i) (hX post H))⟩⟩, fun ch cl to U F' z hz ez post H => ?_⟩
      obtain ⟨y, hy, y1, y2⟩ := F'.1 w hw
      have e2 : to z = nI y := (T cl to z hz ez).symm.trans ((az_some U hp hw e cw).trans y1)
      exact br_f (az_ge hi2) ⟨az_in hz, br_f (by rw [az_c12 hz, e2]; exact ay_nn hy) ⟨az_in hz, nm_r (e' := nI y) (by rw [az_c12 hz, e2]) (nm_r (nI_1 i) (hY ch cl to U F' y hy y1 post H))⟩⟩
/-- the bits of s are the blocks of the variables below i -/
def aq_seen (cl : Nat → Int32) (i : Nat) (s : Int32) : Prop := ∀ j, j < 12 → (bt s j = true ↔ ∃ u, u < i ∧ cl u = nI j)
theorem aq_seen0 {cl : Nat → Int32} : aq_seen cl 0 0 := by
  intro j _
  rw [b_0]
  exact ⟨fun z => absurd z (by decide), fun ⟨u, hu, _⟩ => absurd hu (by omega)⟩
theorem aq_seen1 {cl : Nat → Int32} {i z : Nat} {s : Int32} (hz : z < 12) (ez : cl i = nI z) (S : aq_seen cl i s) : aq_seen cl (i + 1) (s ||| ((1 : Int32) <<< (nI z &&& 31))) := by
  intro j hj
  rw [az_set s hz hj, S j hj]
  constructor
  · intro g
    rcases g with ⟨u, hu, e⟩ | g
    · exact ⟨u, by omega, e⟩
    · subst g; exact ⟨i, by omega, ez⟩
  · intro ⟨u, hu, e⟩
    by_cases g : u = i
    · subst g
      exact Or.inr (az_inj hj hz (e.symm.trans ez))
    · exact Or.inl ⟨u, by omega, e⟩
theorem aq_first {cl to : Nat → Int32} (U : az_same c t cl (ay_T cl to)) (F : az_F c t) (L : az_L c) {i z : Nat} {s : Int32} (hi : i < 12) (hz : z < 12) (ez : cl i = nI z) (S : aq_seen cl i s) : ((s >>> (nI z &&& 31)) &&& 1) = 0 ↔ c i = nI i := by
  rw [az_bit s hz, az_rep U F L hi, ez, ← S z hz]
  simp
theorem aq_classes (F : az_F c t) (L : az_L c) : ∀ d i (m : Int32), i + d = 12 → ∃ R : Int32, (∀ post : Int32 → Prop, post R → wX_classes_4 post h k l r c t (d + 1) m (nI i)) ∧ (∀ (ch : Int32) (cl to : Nat → Int32), az_same c t cl (ay_T cl to) → az_F cl (ay_T cl to) → ∀ s, aq_seen cl i s → ∀ post : Int32 → SY → Prop, post R (h, ch, k, l, r, cl, to) → wY_count_11 post 0 h ch k l r cl to (d + 1) s m (nI i)) := by
  intro d
  induction d with
  | zero =>
    intro i m hi
    have e : i = 12 := by omega
    subst e
    exact ⟨m, fun _ H => br_t az_12 H, fun _ _ _ _ _ _ _ _ H => br_t az_12 H⟩
  | succ d ih =>
    intro i m hi
    have hi2 : i < 12 := by omega
    by_cases e : c i = nI i
    · obtain ⟨R, hX, hY⟩ := ih (i + 1) (m + 1) (by omega)
      refine ⟨R, fun post H => br_f (az_ge hi2) ⟨az_in hi2, br_t (by rw [az_c12 hi2]; exact e) (nm_e (nm_r (nI_1 i) (hX post H)))⟩, fun ch cl to U F' s S post H => ?_⟩
      obtain ⟨z, hz, ez, _⟩ := F'.1 i hi2
      have Q := aq_first U F L hi2 hz ez S
      exact br_f (az_ge hi2) ⟨az_in hi2, nm_r (e' := nI z) (by rw [az_c12 hi2, ez]) (br_t (Q.mpr e) (br_t rfl (nm_e (nm_e (nm_r (nI_1 i) (hY ch cl to U F' _ (aq_seen1 hz ez S) post H))))))⟩
    · obtain ⟨R, hX, hY⟩ := ih (i + 1) m (by omega)
      refine ⟨R, fun post H => br_f (az_ge hi2) ⟨az_in hi2, br_f (by rw [az_c12 hi2]; exact e) (nm_r (nI_1 i) (hX post H))⟩, fun ch cl to U F' s S post H => ?_⟩
      obtain ⟨z, hz, ez, _⟩ := F'.1 i hi2
      have Q := aq_first U F L hi2 hz ez S
      exact br_f (az_ge hi2) ⟨az_in hi2, nm_r (e' := nI z) (by rw [az_c12 hi2, ez]) (br_f (fun g => e (Q.mp g)) (nm_e (nm_r (nI_1 i) (hY ch cl to U F' _ (aq_seen1 hz ez S) post H))))⟩
theorem aq_pointing (F : az_F c t) (L : az_L c) : ∀ d i (m : Int32), i + d = 12 → ∃ R : Int32, (∀ post : Int32 → Prop, post R → wX_pointing_4 post h k l r c t (d + 1) m (nI i)) ∧ (∀ (ch : Int32) (cl to : Nat → Int32), az_same c t cl (ay_T cl to) → az_F cl (ay_T cl to) → ∀ s, aq_seen cl i s → ∀ post : Int32 → SY → Prop, post R (h, ch, k, l, r, cl, to) → wY_count_11 post 1 h ch k l r cl to (d + 1) s m (nI i)) := by
  intro d
  induction d with
  | zero =>
    intro i m hi
    have e : i = 12 := by omega
    subst e
    exact ⟨m, fun _ H => br_t az_12 H, fun _ _ _ _ _ _ _ _ H => br_t az_12 H⟩
  | succ d ih =>
    intro i m hi
    have hi2 : i < 12 := by omega
    have T : ∀ (cl to : Nat → Int32) z, z < 12 → cl i = nI z → ay_T cl to i = to z := by
      intro cl to z hz ez
      show to (cl i).toNatClampNeg = to z
      rw [ez, az_c12 hz]
    by_cases e : c i = nI i
    · rcases F.2.1 i hi2 with p | ⟨w, hw, p, cw⟩
      · obtain ⟨R, hX, hY⟩ := ih (i + 1) m (by omega)
        refine ⟨R, fun post H => br_f (az_ge hi2) ⟨az_in hi2, br_t (by rw [az_c12 hi2]; exact e) ⟨az_in hi2, br_t (by rw [az_c12 hi2]; exact p) (nm_r (nI_1 i) (hX post H))⟩⟩, fun ch cl to U F' s S post H => ?_⟩
        obtain ⟨z, hz, ez, _⟩ := F'.1 i hi2
        have Q := aq_first U F L hi2 hz ez S
        have p2 : to z = -1 := (T cl to z hz ez).symm.trans (az_none U F' hi2 F p)
        exact br_f (az_ge hi2) ⟨az_in hi2, nm_r (e' := nI z) (by rw [az_c12 hi2, ez]) (br_t (Q.mpr e) (br_f (by decide) ⟨az_in hz, br_t (by rw [az_c12 hz, p2]; exact ay_neg) (nm_e (nm_r (nI_1 i) (hY ch cl to U F' _ (aq_seen1 hz ez S) post H)))⟩))⟩
      · obtain ⟨R, hX, hY⟩ := ih (i + 1) (m + 1) (by omega)
        refine ⟨R, fun post H => br_f (az_ge hi2) ⟨az_in hi2, br_t (by rw [az_c12 hi2]; exact e) ⟨az_in hi2, br_f (by rw [az_c12 hi2, p]; exact az_m1 w hw) (nm_e (nm_r (nI_1 i) (hX post H)))⟩⟩, fun ch cl to U F' s S post H => ?_⟩
        obtain ⟨z, hz, ez, _⟩ := F'.1 i hi2
        have Q := aq_first U F L hi2 hz ez S
        obtain ⟨y, hy, y1, y2⟩ := F'.1 w hw
        have p2 : to z = nI y := (T cl to z hz ez).symm.trans ((az_some U hi2 hw p cw).trans y1)
        exact br_f (az_ge hi2) ⟨az_in hi2, nm_r (e' := nI z) (by rw [az_c12 hi2, ez]) (br_t (Q.mpr e) (br_f (by decide) ⟨az_in hz, br_f (by rw [az_c12 hz, p2]; exact ay_nn hy) (nm_e (nm_e (nm_r (nI_1 i) (hY ch cl to U F' _ (aq_seen1 hz ez S) post H))))⟩))⟩
    · obtain ⟨R, hX, hY⟩ := ih (i + 1) m (by omega)
      refine ⟨R, fun post H => br_f (az_ge hi2) ⟨az_in hi2, br_f (by rw [az_c12 hi2]; exact e) (nm_r (nI_1 i) (hX post H))⟩, fun ch cl to U F' s S post H => ?_⟩
      obtain ⟨z, hz, ez, _⟩ := F'.1 i hi2
      have Q := aq_first U F L hi2 hz ez S
      exact br_f (az_ge hi2) ⟨az_in hi2, nm_r (e' := nI z) (by rw [az_c12 hi2, ez]) (br_f (fun g => e (Q.mp g)) (nm_e (nm_r (nI_1 i) (hY ch cl to U F' _ (aq_seen1 hz ez S) post H))))⟩
end
section
variable {h : Int32} {k l r c t : Nat → Int32} {ch : Int32} {cl to : Nat → Int32}
theorem aq_target0 {post : Int32 → SY → Prop} (H : post (-1) (h, ch, k, l, r, cl, to)) : ∀ d i, i + d = 12 → wY_target_27 post (-1) h ch k l r cl to (d + 1) (nI i) := by
  intro d
  induction d with
  | zero =>
    intro i hi
    have e : i = 12 := by omega
    subst e
    exact br_t az_12 H
  | succ d ih =>
    intro i hi
    exact br_f (az_ge (by omega)) (br_t ay_neg (nm_r (nI_1 i) (ih (i + 1) (by omega))))
theorem aq_target1 {post : Int32 → SY → Prop} (U : az_same c t cl (ay_T cl to)) (L : az_L c) {w z : Nat} (hw : w < 12) (hz : z < 12) (cw : c w = nI w) (ez : cl w = nI z) (H : post (nI w) (h, ch, k, l, r, cl, to)) : ∀ d i, i + d = 12 → i ≤ w → wY_target_27 post (nI z) h ch k l r cl to (d + 1) (nI i) := by
  intro d
  induction d with
  | zero => intro i hi hiw; exact absurd hiw (by omega)
  | succ d ih =>
    intro i hi hiw
    refine br_f (az_ge (by omega)) (br_f (ay_nn hz) ⟨az_in (by omega), ?_⟩)
    rw [az_c12 (by omega)]
    by_cases e : i = w
    · subst e
      exact br_t ez H
    · refine br_f ?_ (nm_r (nI_1 i) (ih (i + 1) (by omega) (by omega)))
      intro g
      have g2 := (U.1 i w (by omega) hw).mpr (g.trans ez.symm)
      obtain ⟨m, hm, e3⟩ := L i (by omega)
      have := az_inj (by omega) hw (e3.symm.trans (g2.trans cw))
      omega
end
