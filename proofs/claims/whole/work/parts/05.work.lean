section
variable {M : (Nat → Nat → Prop) → (Nat → Nat → Prop) → Prop} {h : Int32} {k l r : Nat → Int32} {post : SY → Prop}
theorem ay_106n {i : Nat} (hi : i < 24) {x2 x4 ch : Int32} {cl to : Nat → Int32} (e : k i ≠ 3) (H : post (h, ch, k, l, r, cl, to)) : wY_apply_106 post (nI i) x2 x4 h ch k l r cl to :=
  ⟨az_in24 hi, br_f (by rw [az_cl hi]; exact e) H⟩
theorem ay_69n {i : Nat} (hi : i < 24) {x2 x4 ch : Int32} {cl to : Nat → Int32} (e : k i ≠ 2) (H : wY_apply_106 post (nI i) x2 x4 h ch k l r cl to) : wY_apply_69 post (nI i) x2 x4 h ch k l r cl to :=
  ⟨az_in24 hi, br_f (by rw [az_cl hi]; exact e) H⟩
theorem ay_47n {i : Nat} (hi : i < 24) {x2 x4 ch : Int32} {cl to : Nat → Int32} (e : k i ≠ 1) (H : wY_apply_69 post (nI i) x2 x4 h ch k l r cl to) : wY_apply_47 post (nI i) x2 x4 h ch k l r cl to :=
  ⟨az_in24 hi, br_f (by rw [az_cl hi]; exact e) H⟩
theorem ay_apply (hB : ∀ E P, M E P → az_B E P) {ch : Int32} {cl to : Nat → Int32} (I : az_I M cl (ay_T cl to)) {i x a b : Nat} (hi : i < 24) (hx : x < 4) (ha : a < 12) (hb : b < 12) (ex : k i = nI x) (ea : l i = nI a) (eb : r i = nI b) (hQ : ∀ E P, M E P → az_Q P (nI x) a b) (H : ∀ ch' cl' to', az_I M cl' (ay_T cl' to') → ay_St cl to ch (az_R cl (ay_T cl to) (nI x) a b) ch' cl' to' → post (h, ch', k, l, r, cl', to')) : wpY_apply post (h, ch, k, l, r, cl, to) (nI i) := by
  have F2 := I.1.2.1
  have F3 := I.1.2.2
  obtain ⟨ca, hca, a1, a2⟩ := I.1.1 a ha
  obtain ⟨cb, hcb, b1, b2⟩ := I.1.1 b hb
  have Ta : ay_T cl to a = to ca := by
    show to (cl a).toNatClampNeg = to ca
    rw [a1, az_c12 hca]
  have Tb : ay_T cl to b = to cb := by
    show to (cl b).toNatClampNeg = to cb
    rw [b1, az_c12 hcb]
  have Tca : ay_T cl to ca = ay_T cl to a := F3 ca a hca ha (a2.trans a1.symm)
  have N : az_R cl (ay_T cl to) (nI x) a b → post (h, ch, k, l, r, cl, to) := fun z => H ch cl to I (Or.inl ⟨z, rfl, rfl, rfl⟩)
  have PA : ∀ E P, M E P → ∀ w, P a w → P ca w := fun E P hM w p => (hB E P hM).2.2.2.1 _ _ _ _ p ((I.2 E P hM).1 a ca ha hca (a1.trans a2.symm)) ((hB E P hM).1 w)
  have SP : ∀ E P, M E P → ∀ u v, u < 12 → v < 12 → ay_T cl to u = cl v → P u v := fun E P hM => (I.2 E P hM).2
  have ii : (nI i).toNatClampNeg = i := az_cl hi
  refine ⟨az_in24 hi, by rw [ii, ea]; exact az_in ha, nm_r (e' := nI ca) (by rw [ii, ea, az_c12 ha, a1]) ⟨az_in24 hi, by rw [ii, eb]; exact az_in hb, nm_r (e' := nI cb) (by rw [ii, eb, az_c12 hb, b1]) ⟨az_in hcb, nm_r (e' := to cb) (by rw [az_c12 hcb]) ⟨az_in24 hi, ?_⟩⟩⟩⟩
  rw [ii]
  have hx4 : x = 0 ∨ x = 1 ∨ x = 2 ∨ x = 3 := by omega
  rcases hx4 with rfl | rfl | rfl | rfl
  · have n1 : k i ≠ 1 := by rw [ex]; decide +kernel
    have n2 : k i ≠ 2 := by rw [ex]; decide +kernel
    have n3 : k i ≠ 3 := by rw [ex]; decide +kernel
    refine br_t (by rw [ex]; decide +kernel) (ay_point hB I hca hcb a2 b2 (A := az_R cl (ay_T cl to) (nI 0) a b) ?_ ?_ ?_)
    · intro E P hM
      exact (hB E P hM).2.2.2.1 _ _ _ _ (PA E P hM b ((hQ E P hM).1 (by decide +kernel))) ((hB E P hM).1 ca) ((I.2 E P hM).1 b cb hb hcb (b1.trans b2.symm))
    · rw [az_R0, Tca, b2, b1]
    · intro ch' cl' to' I' S
      exact ay_47n hi n1 (ay_69n hi n2 (ay_106n hi n3 (H ch' cl' to' I' S)))
  · have n0 : k i ≠ 0 := by rw [ex]; decide +kernel
    have n2 : k i ≠ 2 := by rw [ex]; decide +kernel
    have n3 : k i ≠ 3 := by rw [ex]; decide +kernel
    refine br_f n0 ⟨az_in24 hi, br_t (by rw [ii, ex]; decide +kernel) ?_⟩
    rcases F2 b hb with tb | ⟨w, hw, tb, cw⟩
    · rw [← Tb, tb]
      exact br_t ay_neg (ay_69n hi n2 (ay_106n hi n3 (N (az_R1.mpr (fun z => absurd tb z)))))
    · rw [← Tb, tb]
      refine br_f (ay_nn hw) (ay_point hB I hca hw a2 cw (A := az_R cl (ay_T cl to) (nI 1) a b) ?_ ?_ ?_)
      · intro E P hM
        exact PA E P hM w ((hQ E P hM).2.1 (by decide +kernel) w (SP E P hM b w hb hw (tb.trans cw.symm)))
      · rw [az_R1, Tca, tb, cw]
        exact ⟨fun z => z (az_m1 w hw), fun z _ => z⟩
      · intro ch' cl' to' I' S
        exact ay_69n hi n2 (ay_106n hi n3 (H ch' cl' to' I' S))
  · have n0 : k i ≠ 0 := by rw [ex]; decide +kernel
    have n1 : k i ≠ 1 := by rw [ex]; decide +kernel
    have n3 : k i ≠ 3 := by rw [ex]; decide +kernel
    refine br_f n0 (ay_47n hi n1 ⟨az_in24 hi, br_t (by rw [ii, ex]; decide +kernel) ?_⟩)
    rcases F2 b hb with tb | ⟨w, hw, tb, cw⟩
    · rw [← Tb, tb]
      exact br_t ay_neg (ay_106n hi n3 (N (az_R2.mpr (fun z => absurd tb z))))
    · have et : ay_T cl to (ay_T cl to b).toNatClampNeg = ay_T cl to w := by rw [tb, az_c12 hw]
      have ew : ay_T cl to w = to w := ay_Tr hw cw
      rw [← Tb, tb]
      refine br_f (ay_nn hw) ⟨az_in hw, ?_⟩
      rw [az_c12 hw, ← ew]
      rcases F2 w hw with tw | ⟨y, hy, tw, cy⟩
      · rw [tw]
        exact br_t ay_neg (ay_106n hi n3 (N (az_R2.mpr (fun _ z => absurd (et.trans tw) z))))
      · rw [tw]
        refine br_f (ay_nn hy) ⟨az_in hw, ay_point hB I hca hy a2 cy (A := az_R cl (ay_T cl to) (nI 2) a b) ?_ ?_ ?_⟩
        · intro E P hM
          exact PA E P hM y ((hQ E P hM).2.2.1 (by decide +kernel) w y (SP E P hM b w hb hw (tb.trans cw.symm)) (SP E P hM w y hw hy (tw.trans cy.symm)))
        · rw [az_R2, et, Tca, tb, tw, cy]
          exact ⟨fun z => z (az_m1 w hw) (az_m1 y hy), fun z _ _ => z⟩
        · intro ch' cl' to' I' S
          exact ay_106n hi n3 (H ch' cl' to' I' S)
  · have n0 : k i ≠ 0 := by rw [ex]; decide +kernel
    have n1 : k i ≠ 1 := by rw [ex]; decide +kernel
    have n2 : k i ≠ 2 := by rw [ex]; decide +kernel
    refine br_f n0 (ay_47n hi n1 (ay_69n hi n2 ⟨az_in24 hi, br_t (by rw [ii, ex]; decide +kernel) ⟨az_in hca, ?_⟩⟩))
    rw [az_c12 hca, ← Ta, ← Tb]
    rcases F2 a ha with ta | ⟨w, hw, ta, cw⟩
    · rw [ta]
      exact br_t ay_neg (N (az_R3.mpr (fun z => absurd ta z)))
    · have et : ay_T cl to (ay_T cl to a).toNatClampNeg = ay_T cl to w := by rw [ta, az_c12 hw]
      rw [ta]
      refine br_f (ay_nn hw) ?_
      rcases F2 b hb with tb | ⟨y, hy, tb, cy⟩
      · rw [tb]
        exact br_t ay_neg (N (az_R3.mpr (fun _ z => absurd tb z)))
      · rw [tb]
        refine br_f (ay_nn hy) ⟨az_in hca, ay_point hB I hw hy cw cy (A := az_R cl (ay_T cl to) (nI 3) a b) ?_ ?_ ?_⟩
        · intro E P hM
          exact (hQ E P hM).2.2.2 (by decide +kernel) w y (SP E P hM a w ha hw (ta.trans cw.symm)) (SP E P hM b y hb hy (tb.trans cy.symm))
        · rw [az_R3, et, ta, tb, cy]
          exact ⟨fun z => z (az_m1 w hw) (az_m1 y hy), fun z _ _ => z⟩
        · intro ch' cl' to' I' S
          exact H ch' cl' to' I' S
end
/-- how far a round of the reference is -/
def ay_Rd (k l r c0 to0 : Nat → Int32) (i : Nat) (ch : Int32) (cl to : Nat → Int32) : Prop := (ch = 0 ∧ cl = c0 ∧ to = to0 ∧ ∀ j, j < i → az_R c0 (ay_T c0 to0) (k j) (l j).toNatClampNeg (r j).toNatClampNeg) ∨ (ch = 1 ∧ az_mu cl (ay_T cl to) < az_mu c0 (ay_T c0 to0))
theorem ay_Rd_step {i : Nat} {k l r c0 to0 cl to cl' to' : Nat → Int32} {ch ch' : Int32} (D : ay_Rd k l r c0 to0 i ch cl to) (S : ay_St cl to ch (az_R cl (ay_T cl to) (k i) (l i).toNatClampNeg (r i).toNatClampNeg) ch' cl' to') : ay_Rd k l r c0 to0 (i + 1) ch' cl' to' := by
  rcases D with ⟨rfl, rfl, rfl, D⟩ | ⟨rfl, D⟩
  · rcases S with ⟨S1, rfl, rfl, rfl⟩ | ⟨S1, rfl, S2⟩
    · refine Or.inl ⟨rfl, rfl, rfl, ?_⟩
      intro j hj
      by_cases e : j = i
      · subst e; exact S1
      · exact D j (by omega)
    · exact Or.inr ⟨rfl, S2⟩
  · rcases S with ⟨S1, rfl, rfl, rfl⟩ | ⟨S1, rfl, S2⟩
    · exact Or.inr ⟨rfl, D⟩
    · exact Or.inr ⟨rfl, Nat.lt_trans S2 D⟩
section
variable {n : Nat} {k l r : Nat → Int32} {post : SY → Prop}
theorem ay_round (hn : n ≤ 24) (O : az_ok n k l r) {J : Int32 → Int32 → Int32 → (Nat → Int32) → (Nat → Int32) → (Nat → Int32) → (Nat → Int32) → (Nat → Int32) → Prop} {m : Nat} {c0 to0 : Nat → Int32} (H : ∀ ch' cl' to', az_I (az_M n k l r) cl' (ay_T cl' to') → ay_Rd k l r c0 to0 n ch' cl' to' → J (nI (m + 1)) (nI n) ch' k l r cl' to') : ∀ d i, i + d = n → ∀ ch cl to, az_I (az_M n k l r) cl (ay_T cl to) → ay_Rd k l r c0 to0 i ch cl to → wY_work_55 post J (nI m) (d + 1) (nI i) (nI n) ch k l r cl to := by
  intro d
  induction d with
  | zero =>
    intro i hi ch cl to I D
    have e : i = n := by omega
    subst e
    exact br_t (nI_le (Nat.le_refl i) (by omega)) (nm_r (nI_1 m) (H ch cl to I D))
  | succ d ih =>
    intro i hi ch cl to I D
    obtain ⟨⟨x, hx, ex⟩, ⟨a, ha, ea⟩, ⟨b, hb, eb⟩⟩ := O i (by omega)
    refine br_f (nI_ge (by omega) (by omega)) (ay_apply az_MB I (by omega) hx ha hb ex ea eb ?_ ?_)
    · intro E P hM
      have q := hM.2 i (by omega)
      rw [ex, ea, eb, az_c12 ha, az_c12 hb] at q
      exact q
    · intro ch' cl' to' I' S
      refine nm_r (nI_1 i) (ih (i + 1) (by omega) ch' cl' to' I' (ay_Rd_step D ?_))
      rw [ex, ea, eb, az_c12 ha, az_c12 hb]
      exact S
theorem ay_rounds (hn : n ≤ 24) (O : az_ok n k l r) (H : ∀ ch' cl' to', az_fin n k l r cl' (ay_T cl' to') → post (nI n, ch', k, l, r, cl', to')) : ∀ d i, i + d = 30 → ∀ ch cl to, az_I (az_M n k l r) cl (ay_T cl to) → ((ch = 0 ∧ az_cd n k l r cl (ay_T cl to)) ∨ (ch = 1 ∧ az_mu cl (ay_T cl to) + i ≤ 24)) → wY_work_35 post (d + 1) (nI i) (nI n) ch k l r cl to := by
  intro d
  induction d with
  | zero =>
    intro i hi ch cl to I D
    have e : i = 30 := by omega
    subst e
    refine br_t (by decide +kernel) (H ch cl to ⟨I, ?_⟩)
    rcases D with D | D
    · exact D.2
    · have := D.2
      omega
  | succ d ih =>
    intro i hi ch cl to I D
    refine br_f (nI_ge (b := 30) (by omega) (by decide)) ?_
    rcases D with ⟨D0, D⟩ | ⟨D0, D⟩
    · exact br_t D0 (H ch cl to ⟨I, D⟩)
    · refine br_f (by rw [D0]; decide) ⟨n + 1, ay_round hn O (c0 := cl) (to0 := to) ?_ n 0 (by omega) 0 cl to I (Or.inl ⟨rfl, rfl, rfl, fun j hj => absurd hj (by omega)⟩)⟩
      intro ch' cl' to' I' S
      refine ih (i + 1) (by omega) ch' cl' to' I' ?_
      rcases S with ⟨S0, rfl, rfl, S⟩ | ⟨S0, S⟩
      · exact Or.inl ⟨S0, S⟩
      · exact Or.inr ⟨S0, by omega⟩
theorem ay_work (hn : n ≤ 24) (O : az_ok n k l r) {ch : Int32} {cl to : Nat → Int32} (H : ∀ ch' cl' to', az_fin n k l r cl' (ay_T cl' to') → post (nI n, ch', k, l, r, cl', to')) : wpY_work post (nI n, ch, k, l, r, cl, to) := by
  refine loop_0 (fun m i s => wY_work_2 post (nI n) ch m (nI i) k l r s.1 s.2) (fun i s => ∀ v, v < i → s.1 v = nI v ∧ s.2 v = -1) 12 (cl, to) (fun v hv => absurd hv (by omega)) ?_ ?_
  · intro m s hI
    have hc : ∀ v, v < 12 → s.1 v = nI v := fun v hv => (hI v hv).1
    have ht : ∀ v, v < 12 → ay_T s.1 s.2 v = -1 := by
      intro v hv
      rw [ay_Tr hv (hc v hv)]
      exact (hI v hv).2
    have mi := az_mu_init hc ht
    have K : wY_work_35 post (30 + 1) (nI 0) (nI n) 1 k l r s.1 s.2 := ay_rounds hn O H 30 0 (by omega) 1 s.1 s.2 (az_init az_MB hc ht) (Or.inr ⟨rfl, by omega⟩)
    rw [nI_0] at K
    exact br_t az_12 (Exists.intro (30 + 1) K)
  · intro m i s hi hI hk
    refine br_f (az_ge hi) ⟨az_in hi, nm_r (e' := upd s.1 i (nI i)) (by rw [az_c12 hi]) ⟨az_in hi, nm_r (e' := upd s.2 i (-1)) (by rw [az_c12 hi]) (nm_r (nI_1 i) (hk (upd s.1 i (nI i), upd s.2 i (-1)) ?_))⟩⟩
    intro v hv
    by_cases e : v = i
    · subst e; exact ⟨az_us, az_us⟩
    · have := hI v (by omega)
      exact ⟨(az_un e).trans this.1, (az_un e).trans this.2⟩
end
