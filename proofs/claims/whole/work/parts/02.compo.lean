theorem az_ui {f : Nat → Int32} {i : Nat} : upd f i (f i) = f := funext fun j => by
  by_cases h : j = i
  · subst h; exact az_us
  · exact az_un h
theorem az_ge {i : Nat} (hi : i < 12) : ¬ (12 : Int32) ≤ nI i := nI_ge (b := 12) hi (by decide)
theorem az_in {i : Nat} (hi : i < 12) : vp_in (nI i) 12 := vp_in_nI hi (by decide)
theorem az_in24 {i : Nat} (hi : i < 24) : vp_in (nI i) 24 := vp_in_nI hi (by decide)
theorem az_c12 {i : Nat} (hi : i < 12) : (nI i).toNatClampNeg = i := az_cl (by omega)
theorem az_12 : (12 : Int32) ≤ nI 12 := by decide +kernel
/-- the least variable of its block names it -/
def az_L (c : Nat → Int32) : Prop := ∀ w, w < 12 → ∃ m, m ≤ w ∧ c w = nI m
theorem ax_sep {post : SX → Prop} {h : Int32} {k l r c t : Nat → Int32} (H : ∀ c' t', (∀ v, v < 12 → c' v = nI v) → (∀ v, v < 12 → t' v = -1) → post (h, k, l, r, c', t')) : wpX_separateAll post (h, k, l, r, c, t) := by
  refine loop_0 (fun n i s => wX_separateAll_2 post h n (nI i) k l r s.1 s.2) (fun i s => ∀ v, v < i → s.1 v = nI v ∧ s.2 v = -1) 12 (c, t) (fun v hv => absurd hv (by omega)) ?_ ?_
  · intro n s hI
    exact br_t az_12 (H s.1 s.2 (fun v hv => (hI v hv).1) (fun v hv => (hI v hv).2))
  · intro n i s hi hI hk
    refine br_f (az_ge hi) ⟨az_in hi, nm_r (e' := upd s.1 i (nI i)) (by rw [az_c12 hi]) ⟨az_in hi, nm_r (e' := upd s.2 i (-1)) (by rw [az_c12 hi]) (nm_r (nI_1 i) (hk (upd s.1 i (nI i), upd s.2 i (-1)) ?_))⟩⟩
    intro v hv
    by_cases e : v = i
    · subst e; exact ⟨az_us, az_us⟩
    · have := hI v (by omega)
      exact ⟨(az_un e).trans this.1, (az_un e).trans this.2⟩
theorem ax_140 {post : SX → Prop} {J : Int32 → (Nat → Int32) → (Nat → Int32) → (Nat → Int32) → (Nat → Int32) → (Nat → Int32) → Prop} {x3 x4 x5 : Int32} {i : Nat} (hi : i < 12) {h : Int32} {k l r c t : Nat → Int32} (H : J (nI (i + 1)) k l r c (upd t i (az_ren x4 x3 (t i)))) : wX_join_140 post J x3 x4 x5 (nI i) h k l r c t := by
  refine ⟨az_in hi, ?_⟩
  rw [az_c12 hi]
  by_cases e : t i = x4
  · rw [az_ren, if_pos e] at H
    exact br_t e ⟨az_in hi, nm_e (nm_r (nI_1 i) H)⟩
  · rw [az_ren, if_neg e, az_ui] at H
    exact br_f e (nm_r (nI_1 i) H)
theorem ax_123 {post : SX → Prop} {J : Int32 → (Nat → Int32) → (Nat → Int32) → (Nat → Int32) → (Nat → Int32) → (Nat → Int32) → Prop} {x3 x4 x5 : Int32} {i : Nat} (hi : i < 12) {h : Int32} {k l r c t : Nat → Int32} (H : J (nI (i + 1)) k l r (upd c i x3) (upd (upd t i x5) i (az_ren x4 x3 x5))) : wX_join_123 post J x3 x4 x5 (nI i) h k l r c t := by
  refine ⟨az_in hi, nm_r (e' := upd c i x3) (by rw [az_c12 hi]) ⟨az_in hi, nm_r (e' := upd t i x5) (by rw [az_c12 hi]) (ax_140 hi ?_)⟩⟩
  have e : upd t i x5 i = x5 := az_us
  rw [e]
  exact H
theorem ax_jl {post : SX → Prop} {h : Int32} {k l r c t : Nat → Int32} {x3 x4 x5 : Int32} (H : ∀ c' t', (∀ v, v < 12 → c' v = if c v = x3 ∨ c v = x4 then x3 else c v) → (∀ v, v < 12 → t' v = az_ren x4 x3 (if c v = x3 ∨ c v = x4 then x5 else t v)) → post (h, k, l, r, c', t')) : ∃ n, wX_join_93 post x3 x4 x5 h n 0 k l r c t := by
  refine loop_0 (fun n i s => wX_join_93 post x3 x4 x5 h n (nI i) k l r s.1 s.2) (fun i s => (∀ v, v < i → (s.1 v = if c v = x3 ∨ c v = x4 then x3 else c v) ∧ s.2 v = az_ren x4 x3 (if c v = x3 ∨ c v = x4 then x5 else t v)) ∧ (∀ v, i ≤ v → s.1 v = c v ∧ s.2 v = t v)) 12 (c, t) ⟨fun v hv => absurd hv (by omega), fun v _ => ⟨rfl, rfl⟩⟩ ?_ ?_
  · intro n s hI
    exact br_t az_12 (H s.1 s.2 (fun v hv => (hI.1 v hv).1) (fun v hv => (hI.1 v hv).2))
  · intro n i s hi hI hk
    obtain ⟨I1, I2⟩ := hI
    obtain ⟨sc, st⟩ := I2 i (Nat.le_refl i)
    have K : ∀ c' t' : Nat → Int32, (c' i = if c i = x3 ∨ c i = x4 then x3 else c i) → t' i = az_ren x4 x3 (if c i = x3 ∨ c i = x4 then x5 else t i) → (∀ v, v ≠ i → c' v = s.1 v ∧ t' v = s.2 v) → wX_join_93 post x3 x4 x5 h n (nI (i + 1)) k l r c' t' := by
      intro c' t' h1 h2 h3
      refine hk (c', t') ⟨?_, ?_⟩
      · intro v hv
        by_cases e : v = i
        · subst e; exact ⟨h1, h2⟩
        · have a := I1 v (by omega)
          have b := h3 v e
          exact ⟨b.1.trans a.1, b.2.trans a.2⟩
      · intro v hv
        have a := I2 v (by omega)
        have b := h3 v (by omega)
        exact ⟨b.1.trans a.1, b.2.trans a.2⟩
    have A : (c i = x3 ∨ c i = x4) → wX_join_123 post (wX_join_93 post x3 x4 x5 h n) x3 x4 x5 (nI i) h k l r s.1 s.2 := by
      intro e
      refine ax_123 hi (K _ _ ?_ ?_ ?_)
      · rw [if_pos e]; exact az_us
      · rw [if_pos e]; exact az_us
      · intro v hv
        exact ⟨az_un hv, (az_un hv).trans (az_un hv)⟩
    have B : ¬ (c i = x3 ∨ c i = x4) → wX_join_140 post (wX_join_93 post x3 x4 x5 h n) x3 x4 x5 (nI i) h k l r s.1 s.2 := by
      intro e
      refine ax_140 hi (K _ _ ?_ ?_ ?_)
      · rw [if_neg e]; exact sc
      · rw [if_neg e, ← st]; exact az_us
      · intro v hv
        exact ⟨rfl, az_un hv⟩
    have q : s.1 (nI i).toNatClampNeg = c i := by rw [az_c12 hi]; exact sc
    refine br_f (az_ge hi) ⟨az_in hi, ?_⟩
    by_cases e : c i = x3
    · exact br_t (q.trans e) (A (Or.inl e))
    · refine br_f (fun z => e (q.symm.trans z)) ⟨az_in hi, ?_⟩
      by_cases e2 : c i = x4
      · exact br_t (q.trans e2) (A (Or.inr e2))
      · exact br_f (fun z => e2 (q.symm.trans z)) (B (fun z => z.elim e e2))
section
variable {M : (Nat → Nat → Prop) → (Nat → Nat → Prop) → Prop} {h : Int32} {k l r : Nat → Int32} {post : SX → Prop}
theorem ax_61 (hB : ∀ E P, M E P → az_B E P) {c t : Nat → Int32} (I : az_I M c t) (L : az_L c) {p q lo hi : Nat} (hp : p < 12) (hq : q < 12) (hlh : lo < hi) (hhi : hi < 12) (elo : c lo = nI lo) (ehi : c hi = nI hi) (hE : ∀ E P, M E P → E lo hi) (hpq : (c p = nI lo ∧ c q = nI hi) ∨ (c p = nI hi ∧ c q = nI lo)) (H : ∀ c' t', az_I M c' t' → az_L c' → az_mu c' t' < az_mu c t → post (h, k, l, r, c', t')) : wX_join_61 post (nI p) (nI q) (nI lo) (nI hi) h k l r c t := by
  have hlo : lo < 12 := by omega
  have F3 := I.1.2.2
  have K : ∀ jt, (jt = t lo ∨ jt = t hi) → (jt = -1 → t lo = -1 ∧ t hi = -1) → ∃ n, wX_join_93 post (nI lo) (nI hi) jt h n 0 k l r c t := by
    intro jt hj hj1
    refine ax_jl ?_
    intro c' t' hc ht
    have hc2 : ∀ v, v < 12 → c' v = az_ren (nI hi) (nI lo) (c v) := by
      intro v hv
      rw [hc v hv, az_ren]
      by_cases a : c v = nI hi
      · rw [if_pos a, if_pos (Or.inr a)]
      · rw [if_neg a]
        by_cases b : c v = nI lo
        · rw [if_pos (Or.inl b), b]
        · rw [if_neg (fun z => z.elim b a)]
    obtain ⟨a, b⟩ := az_join hB I hlo hhi elo ehi (by omega) hE hj hj1 hc2 ht
    refine H c' t' a ?_ b
    intro w hw
    obtain ⟨m, hm, e⟩ := L w hw
    rw [hc2 w hw, az_ren]
    by_cases z : c w = nI hi
    · rw [if_pos z]
      have : m = hi := az_inj (by omega) hhi (e.symm.trans z)
      exact ⟨lo, by omega, rfl⟩
    · rw [if_neg z]
      exact ⟨m, hm, e⟩
  have T : (t p = t lo ∧ t q = t hi) ∨ (t p = t hi ∧ t q = t lo) := by
    rcases hpq with ⟨a, b⟩ | ⟨a, b⟩
    · exact Or.inl ⟨F3 p lo hp hlo (a.trans elo.symm), F3 q hi hq hhi (b.trans ehi.symm)⟩
    · exact Or.inr ⟨F3 p hi hp hhi (a.trans ehi.symm), F3 q lo hq hlo (b.trans elo.symm)⟩
  refine ⟨az_in hp, ?_⟩
  rw [az_c12 hp, az_c12 hq]
  by_cases e : t p = -1
  · refine br_t e ⟨az_in hq, nm_e (K _ ?_ ?_)⟩
    · rcases T with T | T
      · exact Or.inr T.2
      · exact Or.inl T.2
    · intro z
      rcases T with T | T
      · exact ⟨T.1.symm.trans e, T.2.symm.trans z⟩
      · exact ⟨T.2.symm.trans z, T.1.symm.trans e⟩
  · refine br_f e ⟨az_in hp, nm_e (K _ ?_ (fun z => absurd z e))⟩
    rcases T with T | T
    · exact Or.inl T.1
    · exact Or.inr T.1
theorem ax_join (hB : ∀ E P, M E P → az_B E P) {c t : Nat → Int32} (I : az_I M c t) (L : az_L c) {p q : Nat} (hp : p < 12) (hq : q < 12) (hne : c p ≠ c q) (hE : ∀ E P, M E P → E p q) (H : ∀ c' t', az_I M c' t' → az_L c' → az_mu c' t' < az_mu c t → post (h, k, l, r, c', t')) : wpX_join post (h, k, l, r, c, t) (nI p) (nI q) := by
  obtain ⟨x, hx, x1, x2⟩ := I.1.1 p hp
  obtain ⟨y, hy, y1, y2⟩ := I.1.1 q hq
  have exy : ∀ E P, M E P → E x y := by
    intro E P hM
    obtain ⟨e1, e2, e3, _, _⟩ := hB E P hM
    obtain ⟨SE, _⟩ := I.2 E P hM
    exact e3 _ _ _ (SE x p hx hp (x2.trans x1.symm)) (e3 _ _ _ (hE E P hM) (SE q y hq hy (y1.trans y2.symm)))
  have nxy : x ≠ y := fun z => hne (by rw [x1, y1, z])
  refine ⟨az_in hp, az_in hq, ?_⟩
  rw [az_c12 hp, az_c12 hq]
  by_cases g : y ≤ x
  · have gi : c q ≤ c p := by rw [x1, y1]; exact nI_le g (by omega)
    refine br_t gi ⟨az_in hq, az_in hp, az_in hq, ?_⟩
    rw [az_c12 hp, az_c12 hq]
    refine br_t gi ⟨az_in hp, ?_⟩
    have K := ax_61 (post := post) (h := h) (k := k) (l := l) (r := r) hB I L hp hq (lo := y) (hi := x) (by omega) hx y2 x2 (fun E P hM => (hB E P hM).2.1 _ _ (exy E P hM)) (Or.inr ⟨x1, y1⟩) H
    rw [x1, y1]
    exact K
  · have gi : ¬ c q ≤ c p := by rw [x1, y1]; exact nI_ge (by omega) (by omega)
    refine br_f gi ⟨az_in hp, az_in hp, az_in hq, ?_⟩
    rw [az_c12 hp, az_c12 hq]
    refine br_f gi ⟨az_in hq, ?_⟩
    have K := ax_61 (post := post) (h := h) (k := k) (l := l) (r := r) hB I L hp hq (lo := x) (hi := y) (by omega) hy x2 y2 exy (Or.inl ⟨x1, y1⟩) H
    rw [x1, y1]
    exact K
theorem ax_next (hB : ∀ E P, M E P → az_B E P) {c t : Nat → Int32} (I : az_I M c t) {p q x y : Nat} (hp : p < 12) (hq : q < 12) (hx : x < 12) (hy : y < 12) (x1 : t p = c x) (y1 : t q = c y) (hE : ∀ E P, M E P → E p q) : ∀ E P, M E P → E x y := by
  intro E P hM
  obtain ⟨e1, e2, e3, p1, p2⟩ := hB E P hM
  obtain ⟨_, SP⟩ := I.2 E P hM
  exact p2 _ _ _ (SP p x hp hx x1) (p1 _ _ _ _ (SP q y hq hy y1) (e2 _ _ (hE E P hM)) (e1 y))
theorem ax_ul (hB : ∀ E P, M E P → az_B E P) : ∀ d i, i + d = 12 → ∀ (p q : Nat) (c t : Nat → Int32), p < 12 → q < 12 → az_I M c t → az_L c → (∀ E P, M E P → E p q) → (∀ c' t', az_I M c' t' → az_L c' → ((c p ≠ c q ∧ az_mu c' t' < az_mu c t) ∨ (c' = c ∧ t' = t ∧ (i < 12 → c p = c q))) → post (h, k, l, r, c', t')) → wX_unite_8 post (d + 1) (nI p) (nI q) (nI i) h k l r c t := by
  intro d
  induction d with
  | zero =>
    intro i hi p q c t hp hq I L hE H
    have e : i = 12 := by omega
    subst e
    exact br_t az_12 (H c t I L (Or.inr ⟨rfl, rfl, fun z => absurd z (by omega)⟩))
  | succ d ih =>
    intro i hi p q c t hp hq I L hE H
    refine br_f (az_ge (by omega)) ⟨az_in hp, az_in hq, ?_⟩
    rw [az_c12 hp, az_c12 hq]
    by_cases e : c p = c q
    · exact br_t e (H c t I L (Or.inr ⟨rfl, rfl, fun _ => e⟩))
    · refine br_f e ⟨az_in hp, ?_⟩
      rcases I.1.2.1 p hp with tp | ⟨x, hx, tp, cx⟩
      · refine nm_r tp ⟨az_in hq, nm_e (ax_join hB I L hp hq e hE ?_)⟩
        intro c' t' I' L' m
        exact br_t rfl (H c' t' I' L' (Or.inl ⟨e, m⟩))
      · refine nm_r tp ⟨az_in hq, ?_⟩
        rcases I.1.2.1 q hq with tq | ⟨y, hy, tq, cy⟩
        · refine nm_r tq (ax_join hB I L hp hq e hE ?_)
          intro c' t' I' L' m
          exact br_f (az_m1 x hx) (br_t rfl (H c' t' I' L' (Or.inl ⟨e, m⟩)))
        · refine nm_r tq (ax_join hB I L hp hq e hE ?_)
          intro c' t' I' L' m
          refine br_f (az_m1 x hx) (br_f (az_m1 y hy) (nm_r (nI_1 i) (ih (i + 1) (by omega) x y c' t' hx hy I' L' (ax_next hB I hp hq hx hy (tp.trans cx.symm) (tq.trans cy.symm) hE) ?_)))
          intro c2 t2 I2 L2 m2
          refine H c2 t2 I2 L2 (Or.inl ⟨e, ?_⟩)
          rcases m2 with m2 | ⟨e1, e2, _⟩
          · exact Nat.lt_trans m2.2 m
          · rw [e1, e2]; exact m
theorem ax_let (hB : ∀ E P, M E P → az_B E P) {c t : Nat → Int32} (I : az_I M c t) (L : az_L c) {f w : Nat} (hf : f < 12) (hw : w < 12) (hP : ∀ E P, M E P → P f w) (H : ∀ c' t', az_I M c' t' → az_L c' → ((t f = c w ∧ c' = c ∧ t' = t) ∨ (t f ≠ c w ∧ az_mu c' t' < az_mu c t)) → post (h, k, l, r, c', t')) : wpX_letPoint post (h, k, l, r, c, t) (nI f) (nI w) := by
  have nw : c w ≠ -1 := az_cne I.1 hw
  refine ⟨az_in hf, ?_⟩
  rw [az_c12 hf]
  by_cases e : t f = -1
  · refine br_t e ?_
    refine loop_0 (fun n i s => wX_letPoint_24 post (nI f) (nI w) h n (nI i) k l r c s) (fun i s => (∀ v, v < i → s v = if c v = c f then c w else t v) ∧ (∀ v, i ≤ v → s v = t v)) 12 t ⟨fun v hv => absurd hv (by omega), fun v _ => rfl⟩ ?_ ?_
    · intro n s hI
      obtain ⟨a, b⟩ := az_point hB I hf hw e hP hI.1
      exact br_t az_12 (H c s a L (Or.inr ⟨fun z => nw (z.symm.trans e), b⟩))
    · intro n i s hi hI hk
      refine br_f (az_ge hi) ⟨az_in hi, az_in hf, ?_⟩
      rw [az_c12 hi, az_c12 hf]
      by_cases g : c i = c f
      · refine br_t g ⟨az_in hw, az_in hi, nm_r (e' := upd s i (c w)) (by rw [az_c12 hw]) (nm_r (nI_1 i) (hk (upd s i (c w)) ⟨?_, ?_⟩))⟩
        · intro v hv
          by_cases z : v = i
          · subst z; rw [if_pos g]; exact az_us
          · rw [az_un z]; exact hI.1 v (by omega)
        · intro v hv
          rw [az_un (by omega)]; exact hI.2 v (by omega)
      · refine br_f g (nm_r (nI_1 i) (hk s ⟨?_, ?_⟩))
        · intro v hv
          by_cases z : v = i
          · subst z; rw [if_neg g]; exact hI.2 v (Nat.le_refl v)
          · exact hI.1 v (by omega)
        · intro v hv
          exact hI.2 v (by omega)
  · rcases I.1.2.1 f hf with tf | ⟨x, hx, tf, cx⟩
    · exact absurd tf e
    · refine br_f e ⟨az_in hf, ?_⟩
      rw [tf]
      refine ⟨13, ax_ul hB 12 0 (by omega) x w c t hx hw I L ?_ ?_⟩
      · intro E P hM
        obtain ⟨_, SP⟩ := I.2 E P hM
        exact (hB E P hM).2.2.2.2 _ _ _ (SP f x hf hx (tf.trans cx.symm)) (hP E P hM)
      · intro c' t' I' L' m
        refine H c' t' I' L' ?_
        rcases m with ⟨m1, m2⟩ | ⟨e1, e2, e3⟩
        · exact Or.inr ⟨fun z => m1 (cx.trans (tf.symm.trans z)), m2⟩
        · exact Or.inl ⟨tf.trans (cx.symm.trans (e3 (by omega))), e1, e2⟩
end
