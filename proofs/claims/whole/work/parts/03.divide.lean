theorem az_R0 {c t : Nat → Int32} {a b : Nat} : az_R c t (nI 0) a b ↔ t a = c b :=
  ⟨fun z => z.1 (by decide +kernel), fun z => ⟨fun _ => z, fun e => absurd e (by decide +kernel), fun e => absurd e (by decide +kernel), fun e => absurd e (by decide +kernel)⟩⟩
theorem az_R1 {c t : Nat → Int32} {a b : Nat} : az_R c t (nI 1) a b ↔ (t b ≠ -1 → t a = t b) :=
  ⟨fun z => z.2.1 (by decide +kernel), fun z => ⟨fun e => absurd e (by decide +kernel), fun _ => z, fun e => absurd e (by decide +kernel), fun e => absurd e (by decide +kernel)⟩⟩
theorem az_R2 {c t : Nat → Int32} {a b : Nat} : az_R c t (nI 2) a b ↔ (t b ≠ -1 → t (t b).toNatClampNeg ≠ -1 → t a = t (t b).toNatClampNeg) :=
  ⟨fun z => z.2.2.1 (by decide +kernel), fun z => ⟨fun e => absurd e (by decide +kernel), fun e => absurd e (by decide +kernel), fun _ => z, fun e => absurd e (by decide +kernel)⟩⟩
theorem az_R3 {c t : Nat → Int32} {a b : Nat} : az_R c t (nI 3) a b ↔ (t a ≠ -1 → t b ≠ -1 → t (t a).toNatClampNeg = t b) :=
  ⟨fun z => z.2.2.2 (by decide +kernel), fun z => ⟨fun e => absurd e (by decide +kernel), fun e => absurd e (by decide +kernel), fun e => absurd e (by decide +kernel), fun _ => z⟩⟩
/-- what one rule does to a state: it holds and nothing changes, or it doesn't and the measure falls -/
def az_St (c t : Nat → Int32) (x : Int32) (a b : Nat) (c' t' : Nat → Int32) : Prop := (az_R c t x a b ∧ c' = c ∧ t' = t) ∨ (¬ az_R c t x a b ∧ az_mu c' t' < az_mu c t)
theorem az_St_of {c t c' t' : Nat → Int32} {x : Int32} {a b : Nat} {A : Prop} (e : az_R c t x a b ↔ A) (m : (A ∧ c' = c ∧ t' = t) ∨ (¬ A ∧ az_mu c' t' < az_mu c t)) : az_St c t x a b c' t' := by
  rcases m with m | m
  · exact Or.inl ⟨e.mpr m.1, m.2⟩
  · exact Or.inr ⟨fun z => m.1 (e.mp z), m.2⟩
section
variable {M : (Nat → Nat → Prop) → (Nat → Nat → Prop) → Prop} {h : Int32} {k l r : Nat → Int32} {post : SX → Prop}
theorem ax_let2 (hB : ∀ E P, M E P → az_B E P) {c t : Nat → Int32} (I : az_I M c t) (L : az_L c) {f w : Nat} (hf : f < 12) (hw : w < 12) (hP : ∀ E P, M E P → P f w) {x : Int32} {a b : Nat} (e : az_R c t x a b ↔ t f = c w) (H : ∀ c' t', az_I M c' t' → az_L c' → az_St c t x a b c' t' → post (h, k, l, r, c', t')) : wX_applyRule_53 post (nI f) (nI w) h k l r c t :=
  br_f (az_m1 f hf) (br_f (az_m1 w hw) (ax_let hB I L hf hw hP (fun c' t' I' L' m => H c' t' I' L' (az_St_of e m))))
theorem ax_apply (hB : ∀ E P, M E P → az_B E P) {c t : Nat → Int32} (I : az_I M c t) (L : az_L c) {x a b : Nat} (hx : x < 4) (ha : a < 12) (hb : b < 12) (hQ : ∀ E P, M E P → az_Q P (nI x) a b) (H : ∀ c' t', az_I M c' t' → az_L c' → az_St c t (nI x) a b c' t' → post (h, k, l, r, c', t')) : wpX_applyRule post (h, k, l, r, c, t) (nI x) (nI a) (nI b) := by
  have F2 := I.1.2.1
  have N : az_R c t (nI x) a b → post (h, k, l, r, c, t) := fun z => H c t I L (Or.inl ⟨z, rfl, rfl⟩)
  have hx4 : x = 0 ∨ x = 1 ∨ x = 2 ∨ x = 3 := by omega
  rcases hx4 with rfl | rfl | rfl | rfl
  · refine br_f (by decide +kernel) (br_t (by decide +kernel) (br_f (by decide +kernel) (ax_let2 hB I L ha hb (fun E P hM => (hQ E P hM).1 (by decide +kernel)) az_R0 H)))
  · refine br_f (by decide +kernel) (br_f (by decide +kernel) ⟨az_in hb, br_f (by decide +kernel) ?_⟩)
    rw [az_c12 hb]
    rcases F2 b hb with tb | ⟨w, hw, tb, cw⟩
    · rw [tb]
      exact br_f (az_m1 a ha) (br_t rfl (N (az_R1.mpr (fun z => absurd tb z))))
    · rw [tb]
      refine ax_let2 hB I L ha hw (fun E P hM => (hQ E P hM).2.1 (by decide +kernel) w ((I.2 E P hM).2 b w hb hw (tb.trans cw.symm))) ?_ H
      rw [az_R1, tb, cw]
      exact ⟨fun z => z (az_m1 w hw), fun z _ => z⟩
  · refine br_f (by decide +kernel) (br_f (by decide +kernel) ⟨az_in hb, br_t (by decide +kernel) ?_⟩)
    rw [az_c12 hb]
    rcases F2 b hb with tb | ⟨w, hw, tb, cw⟩
    · rw [tb]
      exact br_t rfl (br_f (az_m1 a ha) (br_t rfl (N (az_R2.mpr (fun z => absurd tb z)))))
    · have et : t (t b).toNatClampNeg = t w := by rw [tb, az_c12 hw]
      rw [tb]
      refine br_f (az_m1 w hw) ⟨az_in hw, ?_⟩
      rw [az_c12 hw]
      rcases F2 w hw with tw | ⟨y, hy, tw, cy⟩
      · refine nm_r tw (br_f (az_m1 a ha) (br_t rfl (N (az_R2.mpr ?_))))
        intro _ z
        exact absurd (et.trans tw) z
      · refine nm_r tw (ax_let2 hB I L ha hy (fun E P hM => (hQ E P hM).2.2.1 (by decide +kernel) w y ((I.2 E P hM).2 b w hb hw (tb.trans cw.symm)) ((I.2 E P hM).2 w y hw hy (tw.trans cy.symm))) ?_ H)
        rw [az_R2, et, tb, tw, cy]
        exact ⟨fun z => z (az_m1 w hw) (az_m1 y hy), fun z _ _ => z⟩
  · refine br_t (by decide +kernel) ⟨az_in ha, br_f (by decide +kernel) ⟨az_in hb, br_f (by decide +kernel) ?_⟩⟩
    rw [az_c12 ha, az_c12 hb]
    rcases F2 a ha with ta | ⟨w, hw, ta, cw⟩
    · rw [ta]
      exact br_t rfl (N (az_R3.mpr (fun z => absurd ta z)))
    · have et : t (t a).toNatClampNeg = t w := by rw [ta, az_c12 hw]
      rw [ta]
      rcases F2 b hb with tb | ⟨y, hy, tb, cy⟩
      · rw [tb]
        exact br_f (az_m1 w hw) (br_t rfl (N (az_R3.mpr (fun _ z => absurd tb z))))
      · rw [tb]
        refine ax_let2 hB I L hw hy (fun E P hM => (hQ E P hM).2.2.2 (by decide +kernel) w y ((I.2 E P hM).2 a w ha hw (ta.trans cw.symm)) ((I.2 E P hM).2 b y hb hy (tb.trans cy.symm))) ?_ H
        rw [az_R3, et, ta, tb, cy]
        exact ⟨fun z => z (az_m1 w hw) (az_m1 y hy), fun z _ _ => z⟩
end
/-- how far a round is that began at c0, t0: the rules below i held and nothing changed, or one didn't hold and the measure fell -/
def az_Rd (n : Nat) (k l r c0 t0 : Nat → Int32) (i : Nat) (c t : Nat → Int32) : Prop := (c = c0 ∧ t = t0 ∧ ∀ j, j < i → az_R c0 t0 (k j) (l j).toNatClampNeg (r j).toNatClampNeg) ∨ (az_mu c t < az_mu c0 t0 ∧ ¬ az_cd n k l r c0 t0)
theorem az_Rd_step {n i : Nat} (hi : i < n) {k l r c0 t0 c t c' t' : Nat → Int32} (D : az_Rd n k l r c0 t0 i c t) (S : az_St c t (k i) (l i).toNatClampNeg (r i).toNatClampNeg c' t') : az_Rd n k l r c0 t0 (i + 1) c' t' := by
  rcases D with ⟨rfl, rfl, D⟩ | ⟨D1, D2⟩
  · rcases S with ⟨S1, rfl, rfl⟩ | ⟨S1, S2⟩
    · refine Or.inl ⟨rfl, rfl, ?_⟩
      intro j hj
      by_cases e : j = i
      · subst e; exact S1
      · exact D j (by omega)
    · exact Or.inr ⟨S2, fun z => S1 (z i hi)⟩
  · rcases S with ⟨S1, rfl, rfl⟩ | ⟨S1, S2⟩
    · exact Or.inr ⟨D1, D2⟩
    · exact Or.inr ⟨Nat.lt_trans S2 D1, D2⟩
section
variable {n : Nat} {k l r : Nat → Int32} {post : SX → Prop}
theorem ax_round (hn : n ≤ 24) (O : az_ok n k l r) {J : Int32 → Int32 → (Nat → Int32) → (Nat → Int32) → (Nat → Int32) → (Nat → Int32) → (Nat → Int32) → Prop} {m : Nat} {c0 t0 : Nat → Int32} (H : ∀ c' t', az_I (az_M n k l r) c' t' → az_L c' → az_Rd n k l r c0 t0 n c' t' → J (nI (m + 1)) (nI n) k l r c' t') : ∀ d i, i + d = n → ∀ c t, az_I (az_M n k l r) c t → az_L c → az_Rd n k l r c0 t0 i c t → wX_divide_14 post J (nI m) (d + 1) (nI i) (nI n) k l r c t := by
  intro d
  induction d with
  | zero =>
    intro i hi c t I L D
    have e : i = n := by omega
    subst e
    exact br_t (nI_le (Nat.le_refl i) (by omega)) (nm_r (nI_1 m) (H c t I L D))
  | succ d ih =>
    intro i hi c t I L D
    obtain ⟨⟨x, hx, ex⟩, ⟨a, ha, ea⟩, ⟨b, hb, eb⟩⟩ := O i (by omega)
    refine br_f (nI_ge (by omega) (by omega)) ⟨az_in24 (by omega), az_in24 (by omega), az_in24 (by omega), ?_⟩
    rw [az_cl (by omega : i < 24), ex, ea, eb]
    refine ax_apply az_MB I L hx ha hb ?_ ?_
    · intro E P hM
      have q := hM.2 i (by omega)
      rw [ex, ea, eb, az_c12 ha, az_c12 hb] at q
      exact q
    · intro c' t' I' L' S
      refine nm_r (nI_1 i) (ih (i + 1) (by omega) c' t' I' L' (az_Rd_step (by omega) D ?_))
      rw [ex, ea, eb, az_c12 ha, az_c12 hb]
      exact S
theorem ax_rounds (hn : n ≤ 24) (O : az_ok n k l r) (H : ∀ c' t', az_fin n k l r c' t' → az_L c' → post (nI n, k, l, r, c', t')) : ∀ d i, i + d = 24 → ∀ c t, az_I (az_M n k l r) c t → az_L c → (az_cd n k l r c t ∨ az_mu c t + i ≤ 24) → wX_divide_6 post (d + 1) (nI i) (nI n) k l r c t := by
  intro d
  induction d with
  | zero =>
    intro i hi c t I L D
    have e : i = 24 := by omega
    subst e
    refine br_t (by decide +kernel) (H c t ⟨I, ?_⟩ L)
    rcases D with D | D
    · exact D
    · have := az_mu_pos I.1
      omega
  | succ d ih =>
    intro i hi c t I L D
    refine br_f (nI_ge (b := 24) (by omega) (by decide)) ⟨n + 1, ax_round hn O (c0 := c) (t0 := t) ?_ n 0 (by omega) c t I L (Or.inl ⟨rfl, rfl, fun j hj => absurd hj (by omega)⟩)⟩
    intro c' t' I' L' S
    refine ih (i + 1) (by omega) c' t' I' L' ?_
    rcases S with ⟨rfl, rfl, S⟩ | ⟨S1, S2⟩
    · exact Or.inl S
    · rcases D with D | D
      · exact absurd D S2
      · exact Or.inr (by omega)
theorem ax_divide (hn : n ≤ 24) (O : az_ok n k l r) {c t : Nat → Int32} (H : ∀ c' t', az_fin n k l r c' t' → az_L c' → post (nI n, k, l, r, c', t')) : wpX_divide post (nI n, k, l, r, c, t) := by
  unfold wpX_divide
  dsimp only
  refine ax_sep ?_
  intro c' t' hc ht
  dsimp only
  have mi := az_mu_init hc ht
  have K : wX_divide_6 post (24 + 1) (nI 0) (nI n) k l r c' t' := ax_rounds hn O H 24 0 (by omega) c' t' (az_init az_MB hc ht) (fun w hw => ⟨w, Nat.le_refl w, hc w hw⟩) (Or.inr (by omega))
  rw [nI_0] at K
  exact Exists.intro (24 + 1) K
end
