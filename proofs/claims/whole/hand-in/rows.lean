section
/-! ===== numbers ===== -/
theorem az_m1 : ∀ w, w < 12 → nI w ≠ -1 := by decide +kernel
theorem az_inj {a b : Nat} (ha : a < 12) (hb : b < 12) (h : nI a = nI b) : a = b := (nI_eq (by omega) (by omega)).mp h
theorem az_cl {a : Nat} (ha : a < 24) : (nI a).toNatClampNeg = a := nI_clamp (by omega)
theorem az_us {f : Nat → Int32} {k : Nat} {x : Int32} : upd f k x k = x := if_pos rfl
theorem az_un {f : Nat → Int32} {k j : Nat} {x : Int32} (h : j ≠ k) : upd f k x j = f j := if_neg h
/-! ===== the form of a state: c v names v's block by one of its members, t v names the block that v's block points at, or is -1 ===== -/
def az_F (c t : Nat → Int32) : Prop :=
  (∀ v, v < 12 → ∃ w, w < 12 ∧ c v = nI w ∧ c w = nI w) ∧
  (∀ v, v < 12 → t v = -1 ∨ ∃ w, w < 12 ∧ t v = nI w ∧ c w = nI w) ∧
  (∀ u v, u < 12 → v < 12 → c u = c v → t u = t v)
/-! ===== divisions E with pointing P; M says which ones keep the rules ===== -/
def az_B (E P : Nat → Nat → Prop) : Prop :=
  (∀ u, E u u) ∧ (∀ u v, E u v → E v u) ∧ (∀ u v w, E u v → E v w → E u w) ∧
  (∀ u v x y, P u v → E u x → E v y → P x y) ∧ (∀ u v w, P u v → P u w → E v w)
def az_S (M : (Nat → Nat → Prop) → (Nat → Nat → Prop) → Prop) (c t : Nat → Int32) : Prop :=
  ∀ E P, M E P → (∀ u v, u < 12 → v < 12 → c u = c v → E u v) ∧ (∀ u v, u < 12 → v < 12 → t u = c v → P u v)
def az_I (M : (Nat → Nat → Prop) → (Nat → Nat → Prop) → Prop) (c t : Nat → Int32) : Prop := az_F c t ∧ az_S M c t
/-! ===== the measure: blocks, and blocks that point at none ===== -/
def az_u (c t : Nat → Int32) (v : Nat) : Nat := if c v = nI v then (if t v = -1 then 2 else 1) else 0
def az_sm (f : Nat → Nat) : Nat → Nat
  | 0 => 0
  | n + 1 => az_sm f n + f n
def az_mu (c t : Nat → Int32) : Nat := az_sm (az_u c t) 12
theorem az_sm_le (f g : Nat → Nat) : ∀ n, (∀ v, v < n → f v ≤ g v) → az_sm f n ≤ az_sm g n := by
  intro n
  induction n with
  | zero => intro _; exact Nat.le_refl _
  | succ n ih =>
    intro h
    have h1 := ih (fun v hv => h v (by omega))
    have h2 := h n (by omega)
    show az_sm f n + f n ≤ az_sm g n + g n
    omega
theorem az_sm_lt (f g : Nat → Nat) : ∀ n, (∀ v, v < n → f v ≤ g v) → ∀ x, x < n → f x < g x → az_sm f n < az_sm g n := by
  intro n
  induction n with
  | zero => intro _ x hx; exact absurd hx (by omega)
  | succ n ih =>
    intro h x hx hl
    show az_sm f n + f n < az_sm g n + g n
    have h2 := h n (by omega)
    by_cases e : x = n
    · subst e
      have h1 := az_sm_le f g x (fun v hv => h v (by omega))
      omega
    · have h1 := ih (fun v hv => h v (by omega)) x (by omega) hl
      omega
theorem az_sm_ge (f : Nat → Nat) : ∀ n x, x < n → f x ≤ az_sm f n := by
  intro n
  induction n with
  | zero => intro x hx; exact absurd hx (by omega)
  | succ n ih =>
    intro x hx
    show f x ≤ az_sm f n + f n
    by_cases e : x = n
    · subst e; omega
    · have h1 := ih x (by omega)
      omega
theorem az_mu_pos {c t : Nat → Int32} (F : az_F c t) : 1 ≤ az_mu c t := by
  obtain ⟨w, hw, _, e⟩ := F.1 0 (by omega)
  have h := az_sm_ge (az_u c t) 12 w hw
  have h2 : 1 ≤ az_u c t w := by
    unfold az_u
    rw [if_pos e]
    split <;> omega
  exact Nat.le_trans h2 h
theorem az_mu_init {c t : Nat → Int32} (hc : ∀ v, v < 12 → c v = nI v) (ht : ∀ v, v < 12 → t v = -1) : az_mu c t ≤ 24 := by
  have h : ∀ v, v < 12 → az_u c t v ≤ 2 := by
    intro v _
    unfold az_u
    split
    · split <;> omega
    · omega
  have h2 := az_sm_le (az_u c t) (fun _ => 2) 12 h
  exact Nat.le_trans h2 (by decide)
/-! ===== two blocks made one ===== -/
def az_ren (hi lo x : Int32) : Int32 := if x = hi then lo else x
section
variable {M : (Nat → Nat → Prop) → (Nat → Nat → Prop) → Prop}
theorem az_join (hB : ∀ E P, M E P → az_B E P) {c t : Nat → Int32} (I : az_I M c t) {lo hi : Nat} (hlo : lo < 12) (hhi : hi < 12) (elo : c lo = nI lo) (ehi : c hi = nI hi) (hne : lo ≠ hi) (hE : ∀ E P, M E P → E lo hi) {jt : Int32} (hj : jt = t lo ∨ jt = t hi) (hj1 : jt = -1 → t lo = -1 ∧ t hi = -1) {c' t' : Nat → Int32} (hc : ∀ v, v < 12 → c' v = az_ren (nI hi) (nI lo) (c v)) (ht : ∀ v, v < 12 → t' v = az_ren (nI hi) (nI lo) (if c v = nI lo ∨ c v = nI hi then jt else t v)) : az_I M c' t' ∧ az_mu c' t' < az_mu c t := by
  obtain ⟨⟨F1, F2, F3⟩, S⟩ := I
  have nlo : nI lo ≠ nI hi := fun h => hne (az_inj hlo hhi h)
  have c1 : ∀ v, v < 12 → c v = nI hi → c' v = nI lo := fun v hv h => by rw [hc v hv, az_ren, if_pos h]
  have c2 : ∀ v, v < 12 → c v ≠ nI hi → c' v = c v := fun v hv h => by rw [hc v hv, az_ren, if_neg h]
  have clo : c' lo = nI lo := by rw [c2 lo hlo (by rw [elo]; exact nlo), elo]
  have F1' : ∀ v, v < 12 → ∃ w, w < 12 ∧ c' v = nI w ∧ c' w = nI w := by
    intro v hv
    obtain ⟨w, hw, e1, e2⟩ := F1 v hv
    by_cases h : c v = nI hi
    · exact ⟨lo, hlo, c1 v hv h, clo⟩
    · exact ⟨w, hw, by rw [c2 v hv h, e1], by rw [c2 w hw (by rw [e2, ← e1]; exact h), e2]⟩
  have jf : jt = -1 ∨ ∃ w, w < 12 ∧ jt = nI w ∧ c w = nI w := by
    rcases hj with h | h
    · rw [h]; exact F2 lo hlo
    · rw [h]; exact F2 hi hhi
  have t0 : ∀ v, v < 12 → ∃ s, (s = jt ∧ (c v = nI lo ∨ c v = nI hi) ∨ s = t v ∧ ¬ (c v = nI lo ∨ c v = nI hi)) ∧ (s = -1 ∧ t' v = -1 ∨ ∃ w, w < 12 ∧ s = nI w ∧ c w = nI w ∧ t' v = c' w) := by
    intro v hv
    refine ⟨if c v = nI lo ∨ c v = nI hi then jt else t v, ?_, ?_⟩
    · by_cases h : c v = nI lo ∨ c v = nI hi
      · exact Or.inl ⟨if_pos h, h⟩
      · exact Or.inr ⟨if_neg h, h⟩
    · have hs : (if c v = nI lo ∨ c v = nI hi then jt else t v) = -1 ∨ ∃ w, w < 12 ∧ (if c v = nI lo ∨ c v = nI hi then jt else t v) = nI w ∧ c w = nI w := by
        by_cases h : c v = nI lo ∨ c v = nI hi
        · rw [if_pos h]; exact jf
        · rw [if_neg h]; exact F2 v hv
      rcases hs with h | ⟨w, hw, h, e⟩
      · refine Or.inl ⟨h, ?_⟩
        rw [ht v hv, h, az_ren, if_neg (fun z => az_m1 hi hhi z.symm)]
      · refine Or.inr ⟨w, hw, h, e, ?_⟩
        rw [ht v hv, h, hc w hw, e]
  have F3' : ∀ u v, u < 12 → v < 12 → c' u = c' v → t' u = t' v := by
    intro u v hu hv h
    rw [ht u hu, ht v hv]
    have key : (if c u = nI lo ∨ c u = nI hi then jt else t u) = (if c v = nI lo ∨ c v = nI hi then jt else t v) := by
      have k1 : ∀ x, x < 12 → (c x = nI lo ∨ c x = nI hi) → c' x = nI lo := by
        intro x hx hh
        rcases hh with hh | hh
        · rw [c2 x hx (by rw [hh]; exact nlo), hh]
        · exact c1 x hx hh
      by_cases a : c u = nI lo ∨ c u = nI hi
      · by_cases b : c v = nI lo ∨ c v = nI hi
        · rw [if_pos a, if_pos b]
        · exact absurd (Or.inl (by rw [← c2 v hv (fun z => b (Or.inr z)), ← h, k1 u hu a])) b
      · by_cases b : c v = nI lo ∨ c v = nI hi
        · exact absurd (Or.inl (by rw [← c2 u hu (fun z => a (Or.inr z)), h, k1 v hv b])) a
        · rw [if_neg a, if_neg b]
          refine F3 u v hu hv ?_
          rw [← c2 u hu (fun z => a (Or.inr z)), ← c2 v hv (fun z => b (Or.inr z)), h]
    rw [key]
  refine ⟨⟨⟨F1', ?_, F3'⟩, ?_⟩, ?_⟩
  · intro v hv
    obtain ⟨s, _, h | ⟨w, hw, _, _, h⟩⟩ := t0 v hv
    · exact Or.inl h.2
    · obtain ⟨x, hx, e1, e2⟩ := F1' w hw
      exact Or.inr ⟨x, hx, h.trans e1, e2⟩
  · intro E P hM
    obtain ⟨e1, e2, e3, p1, p2⟩ := hB E P hM
    obtain ⟨SE, SP⟩ := S E P hM
    have lh := hE E P hM
    have A : ∀ u v, u < 12 → v < 12 → c' u = c' v → E u v := by
      intro u v hu hv h
      by_cases a : c u = nI hi
      · by_cases b : c v = nI hi
        · exact SE u v hu hv (a.trans b.symm)
        · rw [c1 u hu a, c2 v hv b] at h
          exact e3 _ _ _ (SE u hi hu hhi (a.trans ehi.symm)) (e3 _ _ _ (e2 _ _ lh) (SE lo v hlo hv (elo.trans h)))
      · by_cases b : c v = nI hi
        · rw [c2 u hu a, c1 v hv b] at h
          exact e3 _ _ _ (SE u lo hu hlo (h.trans elo.symm)) (e3 _ _ _ lh (SE hi v hhi hv (ehi.trans b.symm)))
        · rw [c2 u hu a, c2 v hv b] at h
          exact SE u v hu hv h
    refine ⟨A, ?_⟩
    intro u v hu hv h
    obtain ⟨s, hs, h2 | ⟨w, hw, sw, cw, h2⟩⟩ := t0 u hu
    · obtain ⟨x, hx, e, _⟩ := F1' v hv
      exact absurd (e.symm.trans (h.symm.trans h2.2)) (az_m1 x hx)
    · have pw : P u w := by
        rcases hs with ⟨hs, hu2⟩ | ⟨hs, _⟩
        · have lu : E lo u := by
            rcases hu2 with z | z
            · exact SE lo u hlo hu (elo.trans z.symm)
            · exact e3 _ _ _ lh (SE hi u hhi hu (ehi.trans z.symm))
          have hu3 : E hi u := e3 _ _ _ (e2 _ _ lh) lu
          rcases hj with z | z
          · exact p1 _ _ _ _ (SP lo w hlo hw (z.symm.trans (hs.symm.trans (sw.trans cw.symm)))) lu (e1 w)
          · exact p1 _ _ _ _ (SP hi w hhi hw (z.symm.trans (hs.symm.trans (sw.trans cw.symm)))) hu3 (e1 w)
        · exact SP u w hu hw (hs.symm.trans (sw.trans cw.symm))
      exact p1 _ _ _ _ pw (e1 u) (A w v hw hv (h2.symm.trans h))
  · refine az_sm_lt _ _ 12 ?_ hi hhi ?_
    · intro v hv
      unfold az_u
      by_cases a : c v = nI v
      · rw [if_pos a]
        by_cases b : c' v = nI v
        · rw [if_pos b]
          by_cases d : t' v = -1
          · have : t v = -1 := by
              obtain ⟨s, hs, h2 | ⟨w, hw, _, _, h2⟩⟩ := t0 v hv
              · rcases hs with ⟨hs, hv2⟩ | ⟨hs, _⟩
                · have q := hj1 (hs.symm.trans h2.1)
                  rcases hv2 with z | z
                  · rw [F3 v lo hv hlo (z.trans elo.symm)]; exact q.1
                  · rw [F3 v hi hv hhi (z.trans ehi.symm)]; exact q.2
                · exact hs.symm.trans h2.1
              · obtain ⟨x, hx, e, _⟩ := F1' w hw
                exact absurd (e.symm.trans (h2.symm.trans d)) (az_m1 x hx)
            rw [if_pos d, if_pos this]
            exact Nat.le_refl _
          · rw [if_neg d]
            split <;> omega
        · rw [if_neg b]; omega
      · rw [if_neg a]
        have b : ¬ c' v = nI v := by
          intro b
          by_cases d : c v = nI hi
          · have : lo = v := az_inj hlo hv ((c1 v hv d).symm.trans b)
            exact a (this ▸ elo)
          · exact a ((c2 v hv d).symm.trans b)
        rw [if_neg b]
        exact Nat.le_refl _
    · unfold az_u
      rw [if_pos ehi, if_neg (by rw [c1 hi hhi ehi]; exact nlo)]
      split <;> omega
/-! ===== a block begins to point ===== -/
theorem az_point (hB : ∀ E P, M E P → az_B E P) {c t : Nat → Int32} (I : az_I M c t) {f w : Nat} (hf : f < 12) (hw : w < 12) (htf : t f = -1) (hP : ∀ E P, M E P → P f w) {t' : Nat → Int32} (ht : ∀ v, v < 12 → t' v = if c v = c f then c w else t v) : az_I M c t' ∧ az_mu c t' < az_mu c t := by
  obtain ⟨⟨F1, F2, F3⟩, S⟩ := I
  have t1 : ∀ v, v < 12 → c v = c f → t' v = c w := fun v hv h => by rw [ht v hv, if_pos h]
  have t2 : ∀ v, v < 12 → c v ≠ c f → t' v = t v := fun v hv h => by rw [ht v hv, if_neg h]
  refine ⟨⟨⟨F1, ?_, ?_⟩, ?_⟩, ?_⟩
  · intro v hv
    by_cases h : c v = c f
    · obtain ⟨x, hx, e1, e2⟩ := F1 w hw
      exact Or.inr ⟨x, hx, (t1 v hv h).trans e1, e2⟩
    · rw [t2 v hv h]; exact F2 v hv
  · intro u v hu hv h
    by_cases a : c u = c f
    · rw [t1 u hu a, t1 v hv (h.symm.trans a)]
    · rw [t2 u hu a, t2 v hv (fun z => a (h.trans z)), F3 u v hu hv h]
  · intro E P hM
    obtain ⟨e1, e2, e3, p1, p2⟩ := hB E P hM
    obtain ⟨SE, SP⟩ := S E P hM
    refine ⟨SE, ?_⟩
    intro u v hu hv h
    by_cases a : c u = c f
    · rw [t1 u hu a] at h
      exact p1 _ _ _ _ (hP E P hM) (SE f u hf hu a.symm) (SE w v hw hv h)
    · rw [t2 u hu a] at h
      exact SP u v hu hv h
  · obtain ⟨x, hx, x1, x2⟩ := F1 f hf
    obtain ⟨y, hy, y1, y2⟩ := F1 w hw
    have ny : c w ≠ -1 := by rw [y1]; exact az_m1 y hy
    refine az_sm_lt _ _ 12 ?_ x hx ?_
    · intro v hv
      unfold az_u
      by_cases a : c v = nI v
      · rw [if_pos a, if_pos a]
        by_cases b : c v = c f
        · rw [t1 v hv b, if_neg ny]
          split <;> omega
        · rw [t2 v hv b]
          exact Nat.le_refl _
      · rw [if_neg a, if_neg a]
        exact Nat.le_refl _
    · unfold az_u
      rw [if_pos x2, if_pos x2, t1 x hx (x2.trans x1.symm), if_neg ny, F3 x f hx hf (x2.trans x1.symm), if_pos htf]
      omega
end
/-! ===== the rules, of a state and of a division ===== -/
def az_R (c t : Nat → Int32) (k : Int32) (a b : Nat) : Prop :=
  (k = 0 → t a = c b) ∧ (k = 1 → t b ≠ -1 → t a = t b) ∧ (k = 2 → t b ≠ -1 → t (t b).toNatClampNeg ≠ -1 → t a = t (t b).toNatClampNeg) ∧ (k = 3 → t a ≠ -1 → t b ≠ -1 → t (t a).toNatClampNeg = t b)
def az_Q (P : Nat → Nat → Prop) (k : Int32) (a b : Nat) : Prop :=
  (k = 0 → P a b) ∧ (k = 1 → ∀ w, P b w → P a w) ∧ (k = 2 → ∀ w z, P b w → P w z → P a z) ∧ (k = 3 → ∀ w z, P a w → P b z → P w z)
def az_M (n : Nat) (k l r : Nat → Int32) (E P : Nat → Nat → Prop) : Prop :=
  az_B E P ∧ ∀ i, i < n → az_Q P (k i) (l i).toNatClampNeg (r i).toNatClampNeg
def az_ok (n : Nat) (k l r : Nat → Int32) : Prop :=
  ∀ i, i < n → (∃ x, x < 4 ∧ k i = nI x) ∧ (∃ a, a < 12 ∧ l i = nI a) ∧ (∃ b, b < 12 ∧ r i = nI b)
def az_cd (n : Nat) (k l r c t : Nat → Int32) : Prop := ∀ i, i < n → az_R c t (k i) (l i).toNatClampNeg (r i).toNatClampNeg
def az_fin (n : Nat) (k l r c t : Nat → Int32) : Prop := az_I (az_M n k l r) c t ∧ az_cd n k l r c t
def az_EE (c : Nat → Int32) (u v : Nat) : Prop := u = v ∨ (u < 12 ∧ v < 12 ∧ c u = c v)
def az_PP (c t : Nat → Int32) (u v : Nat) : Prop := u < 12 ∧ v < 12 ∧ t u = c v
theorem az_MB {n : Nat} {k l r : Nat → Int32} : ∀ E P, az_M n k l r E P → az_B E P := fun _ _ h => h.1
theorem az_mod {c t : Nat → Int32} (F : az_F c t) : az_B (az_EE c) (az_PP c t) := by
  obtain ⟨F1, F2, F3⟩ := F
  refine ⟨fun u => Or.inl rfl, ?_, ?_, ?_, ?_⟩
  · intro u v h
    rcases h with h | ⟨a, b, h⟩
    · exact Or.inl h.symm
    · exact Or.inr ⟨b, a, h.symm⟩
  · intro u v w h g
    rcases h with h | ⟨a, b, h⟩
    · subst h; exact g
    · rcases g with g | ⟨a', b', g⟩
      · subst g; exact Or.inr ⟨a, b, h⟩
      · exact Or.inr ⟨a, b', h.trans g⟩
  · intro u v x y p h g
    obtain ⟨hu, hv, p⟩ := p
    rcases h with h | ⟨_, hx, h⟩
    · subst h
      rcases g with g | ⟨_, hy, g⟩
      · subst g; exact ⟨hu, hv, p⟩
      · exact ⟨hu, hy, p.trans g⟩
    · rcases g with g | ⟨_, hy, g⟩
      · subst g; exact ⟨hx, hv, (F3 u x hu hx h).symm.trans p⟩
      · exact ⟨hx, hy, (F3 u x hu hx h).symm.trans (p.trans g)⟩
  · intro u v w p q
    exact Or.inr ⟨p.2.1, q.2.1, p.2.2.symm.trans q.2.2⟩
theorem az_cne {c t : Nat → Int32} (F : az_F c t) {v : Nat} (hv : v < 12) : c v ≠ -1 := by
  obtain ⟨w, hw, e, _⟩ := F.1 v hv
  rw [e]; exact az_m1 w hw
theorem az_tt {c t : Nat → Int32} (F : az_F c t) {v w : Nat} (hv : v < 12) (hw : w < 12) (h : t v = c w) : t (t v).toNatClampNeg = t w := by
  obtain ⟨x, hx, e1, e2⟩ := F.1 w hw
  rw [h, e1, az_cl (by omega)]
  exact F.2.2 x w hx hw (e2.trans e1.symm)
theorem az_RQ {c t : Nat → Int32} (F : az_F c t) {k : Int32} {a b : Nat} (ha : a < 12) (hb : b < 12) (R : az_R c t k a b) : az_Q (az_PP c t) k a b := by
  obtain ⟨R0, R1, R2, R3⟩ := R
  refine ⟨fun h => ⟨ha, hb, R0 h⟩, ?_, ?_, ?_⟩
  · intro h w p
    have z : t b ≠ -1 := by rw [p.2.2]; exact az_cne F p.2.1
    exact ⟨ha, p.2.1, (R1 h z).trans p.2.2⟩
  · intro h w z p q
    have y : t b ≠ -1 := by rw [p.2.2]; exact az_cne F p.2.1
    have e := az_tt F p.1 p.2.1 p.2.2
    have x : t w ≠ -1 := by rw [q.2.2]; exact az_cne F q.2.1
    refine ⟨ha, q.2.1, ?_⟩
    rw [R2 h y (by rw [e]; exact x), e]
    exact q.2.2
  · intro h w z p q
    have y : t a ≠ -1 := by rw [p.2.2]; exact az_cne F p.2.1
    have x : t b ≠ -1 := by rw [q.2.2]; exact az_cne F q.2.1
    have e := az_tt F p.1 p.2.1 p.2.2
    refine ⟨p.2.1, q.2.1, ?_⟩
    rw [← e, R3 h y x]
    exact q.2.2
theorem az_model {n : Nat} {k l r c t : Nat → Int32} (O : az_ok n k l r) (H : az_fin n k l r c t) : az_M n k l r (az_EE c) (az_PP c t) := by
  refine ⟨az_mod H.1.1, ?_⟩
  intro i hi
  obtain ⟨_, ⟨a, ha, ea⟩, ⟨b, hb, eb⟩⟩ := O i hi
  have R := H.2 i hi
  rw [ea, eb, az_cl (by omega), az_cl (by omega)] at R ⊢
  exact az_RQ H.1.1 ha hb R
theorem az_half {n : Nat} {k l r c t c' t' : Nat → Int32} (O : az_ok n k l r) (H : az_fin n k l r c t) (H' : az_fin n k l r c' t') : (∀ u v, u < 12 → v < 12 → c u = c v → c' u = c' v) ∧ (∀ u v, u < 12 → v < 12 → t u = c v → t' u = c' v) := by
  obtain ⟨a, b⟩ := H.1.2 _ _ (az_model O H')
  refine ⟨?_, fun u v hu hv h => (b u v hu hv h).2.2⟩
  intro u v hu hv h
  rcases a u v hu hv h with e | e
  · rw [e]
  · exact e.2.2
/-- the two finished states say the same of blocks and of pointing -/
def az_same (c t c' t' : Nat → Int32) : Prop := (∀ u v, u < 12 → v < 12 → (c u = c v ↔ c' u = c' v)) ∧ (∀ u v, u < 12 → v < 12 → (t u = c v ↔ t' u = c' v))
theorem az_uniq {n : Nat} {k l r c t c' t' : Nat → Int32} (O : az_ok n k l r) (H : az_fin n k l r c t) (H' : az_fin n k l r c' t') : az_same c t c' t' := by
  have a := az_half O H H'
  have b := az_half O H' H
  exact ⟨fun u v hu hv => ⟨a.1 u v hu hv, b.1 u v hu hv⟩, fun u v hu hv => ⟨a.2 u v hu hv, b.2 u v hu hv⟩⟩
/-- the state at the beginning -/
theorem az_init {M : (Nat → Nat → Prop) → (Nat → Nat → Prop) → Prop} (hB : ∀ E P, M E P → az_B E P) {c t : Nat → Int32} (hc : ∀ v, v < 12 → c v = nI v) (ht : ∀ v, v < 12 → t v = -1) : az_I M c t := by
  refine ⟨⟨fun v hv => ⟨v, hv, hc v hv, hc v hv⟩, fun v hv => Or.inl (ht v hv), fun u v hu hv _ => by rw [ht u hu, ht v hv]⟩, ?_⟩
  intro E P h
  refine ⟨?_, ?_⟩
  · intro u v hu hv e
    rw [hc u hu, hc v hv] at e
    rw [az_inj hu hv e]
    exact (hB E P h).1 v
  · intro u v hu hv e
    rw [ht u hu, hc v hv] at e
    exact absurd e.symm (az_m1 v hv)
end
section
theorem az_ui {f : Nat → Int32} {i : Nat} : upd f i (f i) = f := funext fun j => by
  by_cases h : j = i
  · subst h; exact az_us
  · exact az_un h
theorem az_ge {i : Nat} (hi : i < 12) : ¬ (12 : Int32) ≤ nI i := nI_ge (b := 12) hi (by decide)
theorem az_in {i : Nat} (hi : i < 12) : vp_in (nI i) 12 := vp_in_nI hi (by decide)
theorem az_in24 {i : Nat} (hi : i < 24) : vp_in (nI i) 24 := vp_in_nI hi (by decide)
theorem az_c12 {i : Nat} (hi : i < 12) : (nI i).toNatClampNeg = i := az_cl (by omega)
theorem az_12 : (12 : Int32) ≤ nI 12 := by decide +kernel
/-- the least variable of its block names it -/
def az_L (c : Nat → Int32) : Prop := ∀ w, w < 12 → ∃ m, m ≤ w ∧ c w = nI m
theorem ax_sep {post : SX → Prop} {h : Int32} {k l r c t : Nat → Int32} (H : ∀ c' t', (∀ v, v < 12 → c' v = nI v) → (∀ v, v < 12 → t' v = -1) → post (h, k, l, r, c', t')) : wpX_separateAll post (h, k, l, r, c, t) := by
  refine loop_0 (fun n i s => wX_separateAll_2 post h n (nI i) k l r s.1 s.2) (fun i s => ∀ v, v < i → s.1 v = nI v ∧ s.2 v = -1) 12 (c, t) (fun v hv => absurd hv (by omega)) ?_ ?_
  · intro n s hI
    exact br_t az_12 (H s.1 s.2 (fun v hv => (hI v hv).1) (fun v hv => (hI v hv).2))
  · intro n i s hi hI hk
    refine br_f (az_ge hi) ⟨az_in hi, nm_r (e' := upd s.1 i (nI i)) (by rw [az_c12 hi]) ⟨az_in hi, nm_r (e' := upd s.2 i (-1)) (by rw [az_c12 hi]) (nm_r (nI_1 i) (hk (upd s.1 i (nI i), upd s.2 i (-1)) ?_))⟩⟩
    intro v hv
    by_cases e : v = i
    · subst e; exact ⟨az_us, az_us⟩
    · have := hI v (by omega)
      exact ⟨(az_un e).trans this.1, (az_un e).trans this.2⟩
theorem ax_140 {post : SX → Prop} {J : Int32 → (Nat → Int32) → (Nat → Int32) → (Nat → Int32) → (Nat → Int32) → (Nat → Int32) → Prop} {x3 x4 x5 : Int32} {i : Nat} (hi : i < 12) {h : Int32} {k l r c t : Nat → Int32} (H : J (nI (i + 1)) k l r c (upd t i (az_ren x4 x3 (t i)))) : wX_join_140 post J x3 x4 x5 (nI i) h k l r c t := by
  refine ⟨az_in hi, ?_⟩
  rw [az_c12 hi]
  by_cases e : t i = x4
  · rw [az_ren, if_pos e] at H
    exact br_t e ⟨az_in hi, nm_e (nm_r (nI_1 i) H)⟩
  · rw [az_ren, if_neg e, az_ui] at H
    exact br_f e (nm_r (nI_1 i) H)
theorem ax_123 {post : SX → Prop} {J : Int32 → (Nat → Int32) → (Nat → Int32) → (Nat → Int32) → (Nat → Int32) → (Nat → Int32) → Prop} {x3 x4 x5 : Int32} {i : Nat} (hi : i < 12) {h : Int32} {k l r c t : Nat → Int32} (H : J (nI (i + 1)) k l r (upd c i x3) (upd (upd t i x5) i (az_ren x4 x3 x5))) : wX_join_123 post J x3 x4 x5 (nI i) h k l r c t := by
  refine ⟨az_in hi, nm_r (e' := upd c i x3) (by rw [az_c12 hi]) ⟨az_in hi, nm_r (e' := upd t i x5) (by rw [az_c12 hi]) (ax_140 hi ?_)⟩⟩
  have e : upd t i x5 i = x5 := az_us
  rw [e]
  exact H
theorem ax_jl {post : SX → Prop} {h : Int32} {k l r c t : Nat → Int32} {x3 x4 x5 : Int32} (H : ∀ c' t', (∀ v, v < 12 → c' v = if c v = x3 ∨ c v = x4 then x3 else c v) → (∀ v, v < 12 → t' v = az_ren x4 x3 (if c v = x3 ∨ c v = x4 then x5 else t v)) → post (h, k, l, r, c', t')) : ∃ n, wX_join_93 post x3 x4 x5 h n 0 k l r c t := by
  refine loop_0 (fun n i s => wX_join_93 post x3 x4 x5 h n (nI i) k l r s.1 s.2) (fun i s => (∀ v, v < i → (s.1 v = if c v = x3 ∨ c v = x4 then x3 else c v) ∧ s.2 v = az_ren x4 x3 (if c v = x3 ∨ c v = x4 then x5 else t v)) ∧ (∀ v, i ≤ v → s.1 v = c v ∧ s.2 v = t v)) 12 (c, t) ⟨fun v hv => absurd hv (by omega), fun v _ => ⟨rfl, rfl⟩⟩ ?_ ?_
  · intro n s hI
    exact br_t az_12 (H s.1 s.2 (fun v hv => (hI.1 v hv).1) (fun v hv => (hI.1 v hv).2))
  · intro n i s hi hI hk
    obtain ⟨I1, I2⟩ := hI
    obtain ⟨sc, st⟩ := I2 i (Nat.le_refl i)
    have K : ∀ c' t' : Nat → Int32, (c' i = if c i = x3 ∨ c i = x4 then x3 else c i) → t' i = az_ren x4 x3 (if c i = x3 ∨ c i = x4 then x5 else t i) → (∀ v, v ≠ i → c' v = s.1 v ∧ t' v = s.2 v) → wX_join_93 post x3 x4 x5 h n (nI (i + 1)) k l r c' t' := by
      intro c' t' h1 h2 h3
      refine hk (c', t') ⟨?_, ?_⟩
      · intro v hv
        by_cases e : v = i
        · subst e; exact ⟨h1, h2⟩
        · have a := I1 v (by omega)
          have b := h3 v e
          exact ⟨b.1.trans a.1, b.2.trans a.2⟩
      · intro v hv
        have a := I2 v (by omega)
        have b := h3 v (by omega)
        exact ⟨b.1.trans a.1, b.2.trans a.2⟩
    have A : (c i = x3 ∨ c i = x4) → wX_join_123 post (wX_join_93 post x3 x4 x5 h n) x3 x4 x5 (nI i) h k l r s.1 s.2 := by
      intro e
      refine ax_123 hi (K _ _ ?_ ?_ ?_)
      · rw [if_pos e]; exact az_us
      · rw [if_pos e]; exact az_us
      · intro v hv
        exact ⟨az_un hv, (az_un hv).trans (az_un hv)⟩
    have B : ¬ (c i = x3 ∨ c i = x4) → wX_join_140 post (wX_join_93 post x3 x4 x5 h n) x3 x4 x5 (nI i) h k l r s.1 s.2 := by
      intro e
      refine ax_140 hi (K _ _ ?_ ?_ ?_)
      · rw [if_neg e]; exact sc
      · rw [if_neg e, ← st]; exact az_us
      · intro v hv
        exact ⟨rfl, az_un hv⟩
    have q : s.1 (nI i).toNatClampNeg = c i := by rw [az_c12 hi]; exact sc
    refine br_f (az_ge hi) ⟨az_in hi, ?_⟩
    by_cases e : c i = x3
    · exact br_t (q.trans e) (A (Or.inl e))
    · refine br_f (fun z => e (q.symm.trans z)) ⟨az_in hi, ?_⟩
      by_cases e2 : c i = x4
      · exact br_t (q.trans e2) (A (Or.inr e2))
      · exact br_f (fun z => e2 (q.symm.trans z)) (B (fun z => z.elim e e2))
section
variable {M : (Nat → Nat → Prop) → (Nat → Nat → Prop) → Prop} {h : Int32} {k l r : Nat → Int32} {post : SX → Prop}
theorem ax_61 (hB : ∀ E P, M E P → az_B E P) {c t : Nat → Int32} (I : az_I M c t) (L : az_L c) {p q lo hi : Nat} (hp : p < 12) (hq : q < 12) (hlh : lo < hi) (hhi : hi < 12) (elo : c lo = nI lo) (ehi : c hi = nI hi) (hE : ∀ E P, M E P → E lo hi) (hpq : (c p = nI lo ∧ c q = nI hi) ∨ (c p = nI hi ∧ c q = nI lo)) (H : ∀ c' t', az_I M c' t' → az_L c' → az_mu c' t' < az_mu c t → post (h, k, l, r, c', t')) : wX_join_61 post (nI p) (nI q) (nI lo) (nI hi) h k l r c t := by
  have hlo : lo < 12 := by omega
  have F3 := I.1.2.2
  have K : ∀ jt, (jt = t lo ∨ jt = t hi) → (jt = -1 → t lo = -1 ∧ t hi = -1) → ∃ n, wX_join_93 post (nI lo) (nI hi) jt h n 0 k l r c t := by
    intro jt hj hj1
    refine ax_jl ?_
    intro c' t' hc ht
    have hc2 : ∀ v, v < 12 → c' v = az_ren (nI hi) (nI lo) (c v) := by
      intro v hv
      rw [hc v hv, az_ren]
      by_cases a : c v = nI hi
      · rw [if_pos a, if_pos (Or.inr a)]
      · rw [if_neg a]
        by_cases b : c v = nI lo
        · rw [if_pos (Or.inl b), b]
        · rw [if_neg (fun z => z.elim b a)]
    obtain ⟨a, b⟩ := az_join hB I hlo hhi elo ehi (by omega) hE hj hj1 hc2 ht
    refine H c' t' a ?_ b
    intro w hw
    obtain ⟨m, hm, e⟩ := L w hw
    rw [hc2 w hw, az_ren]
    by_cases z : c w = nI hi
    · rw [if_pos z]
      have : m = hi := az_inj (by omega) hhi (e.symm.trans z)
      exact ⟨lo, by omega, rfl⟩
    · rw [if_neg z]
      exact ⟨m, hm, e⟩
  have T : (t p = t lo ∧ t q = t hi) ∨ (t p = t hi ∧ t q = t lo) := by
    rcases hpq with ⟨a, b⟩ | ⟨a, b⟩
    · exact Or.inl ⟨F3 p lo hp hlo (a.trans elo.symm), F3 q hi hq hhi (b.trans ehi.symm)⟩
    · exact Or.inr ⟨F3 p hi hp hhi (a.trans ehi.symm), F3 q lo hq hlo (b.trans elo.symm)⟩
  refine ⟨az_in hp, ?_⟩
  rw [az_c12 hp, az_c12 hq]
  by_cases e : t p = -1
  · refine br_t e ⟨az_in hq, nm_e (K _ ?_ ?_)⟩
    · rcases T with T | T
      · exact Or.inr T.2
      · exact Or.inl T.2
    · intro z
      rcases T with T | T
      · exact ⟨T.1.symm.trans e, T.2.symm.trans z⟩
      · exact ⟨T.2.symm.trans z, T.1.symm.trans e⟩
  · refine br_f e ⟨az_in hp, nm_e (K _ ?_ (fun z => absurd z e))⟩
    rcases T with T | T
    · exact Or.inl T.1
    · exact Or.inr T.1
theorem ax_join (hB : ∀ E P, M E P → az_B E P) {c t : Nat → Int32} (I : az_I M c t) (L : az_L c) {p q : Nat} (hp : p < 12) (hq : q < 12) (hne : c p ≠ c q) (hE : ∀ E P, M E P → E p q) (H : ∀ c' t', az_I M c' t' → az_L c' → az_mu c' t' < az_mu c t → post (h, k, l, r, c', t')) : wpX_join post (h, k, l, r, c, t) (nI p) (nI q) := by
  obtain ⟨x, hx, x1, x2⟩ := I.1.1 p hp
  obtain ⟨y, hy, y1, y2⟩ := I.1.1 q hq
  have exy : ∀ E P, M E P → E x y := by
    intro E P hM
    obtain ⟨e1, e2, e3, _, _⟩ := hB E P hM
    obtain ⟨SE, _⟩ := I.2 E P hM
    exact e3 _ _ _ (SE x p hx hp (x2.trans x1.symm)) (e3 _ _ _ (hE E P hM) (SE q y hq hy (y1.trans y2.symm)))
  have nxy : x ≠ y := fun z => hne (by rw [x1, y1, z])
  refine ⟨az_in hp, az_in hq, ?_⟩
  rw [az_c12 hp, az_c12 hq]
  by_cases g : y ≤ x
  · have gi : c q ≤ c p := by rw [x1, y1]; exact nI_le g (by omega)
    refine br_t gi ⟨az_in hq, az_in hp, az_in hq, ?_⟩
    rw [az_c12 hp, az_c12 hq]
    refine br_t gi ⟨az_in hp, ?_⟩
    have K := ax_61 (post := post) (h := h) (k := k) (l := l) (r := r) hB I L hp hq (lo := y) (hi := x) (by omega) hx y2 x2 (fun E P hM => (hB E P hM).2.1 _ _ (exy E P hM)) (Or.inr ⟨x1, y1⟩) H
    rw [x1, y1]
    exact K
  · have gi : ¬ c q ≤ c p := by rw [x1, y1]; exact nI_ge (by omega) (by omega)
    refine br_f gi ⟨az_in hp, az_in hp, az_in hq, ?_⟩
    rw [az_c12 hp, az_c12 hq]
    refine br_f gi ⟨az_in hq, ?_⟩
    have K := ax_61 (post := post) (h := h) (k := k) (l := l) (r := r) hB I L hp hq (lo := x) (hi := y) (by omega) hy x2 y2 exy (Or.inl ⟨x1, y1⟩) H
    rw [x1, y1]
    exact K
theorem ax_next (hB : ∀ E P, M E P → az_B E P) {c t : Nat → Int32} (I : az_I M c t) {p q x y : Nat} (hp : p < 12) (hq : q < 12) (hx : x < 12) (hy : y < 12) (x1 : t p = c x) (y1 : t q = c y) (hE : ∀ E P, M E P → E p q) : ∀ E P, M E P → E x y := by
  intro E P hM
  obtain ⟨e1, e2, e3, p1, p2⟩ := hB E P hM
  obtain ⟨_, SP⟩ := I.2 E P hM
  exact p2 _ _ _ (SP p x hp hx x1) (p1 _ _ _ _ (SP q y hq hy y1) (e2 _ _ (hE E P hM)) (e1 y))
theorem ax_ul (hB : ∀ E P, M E P → az_B E P) : ∀ d i, i + d = 12 → ∀ (p q : Nat) (c t : Nat → Int32), p < 12 → q < 12 → az_I M c t → az_L c → (∀ E P, M E P → E p q) → (∀ c' t', az_I M c' t' → az_L c' → ((c p ≠ c q ∧ az_mu c' t' < az_mu c t) ∨ (c' = c ∧ t' = t ∧ (i < 12 → c p = c q))) → post (h, k, l, r, c', t')) → wX_unite_8 post (d + 1) (nI p) (nI q) (nI i) h k l r c t := by
  intro d
  induction d with
  | zero =>
    intro i hi p q c t hp hq I L hE H
    have e : i = 12 := by omega
    subst e
    exact br_t az_12 (H c t I L (Or.inr ⟨rfl, rfl, fun z => absurd z (by omega)⟩))
  | succ d ih =>
    intro i hi p q c t hp hq I L hE H
    refine br_f (az_ge (by omega)) ⟨az_in hp, az_in hq, ?_⟩
    rw [az_c12 hp, az_c12 hq]
    by_cases e : c p = c q
    · exact br_t e (H c t I L (Or.inr ⟨rfl, rfl, fun _ => e⟩))
    · refine br_f e ⟨az_in hp, ?_⟩
      rcases I.1.2.1 p hp with tp | ⟨x, hx, tp, cx⟩
      · refine nm_r tp ⟨az_in hq, nm_e (ax_join hB I L hp hq e hE ?_)⟩
        intro c' t' I' L' m
        exact br_t rfl (H c' t' I' L' (Or.inl ⟨e, m⟩))
      · refine nm_r tp ⟨az_in hq, ?_⟩
        rcases I.1.2.1 q hq with tq | ⟨y, hy, tq, cy⟩
        · refine nm_r tq (ax_join hB I L hp hq e hE ?_)
          intro c' t' I' L' m
          exact br_f (az_m1 x hx) (br_t rfl (H c' t' I' L' (Or.inl ⟨e, m⟩)))
        · refine nm_r tq (ax_join hB I L hp hq e hE ?_)
          intro c' t' I' L' m
          refine br_f (az_m1 x hx) (br_f (az_m1 y hy) (nm_r (nI_1 i) (ih (i + 1) (by omega) x y c' t' hx hy I' L' (ax_next hB I hp hq hx hy (tp.trans cx.symm) (tq.trans cy.symm) hE) ?_)))
          intro c2 t2 I2 L2 m2
          refine H c2 t2 I2 L2 (Or.inl ⟨e, ?_⟩)
          rcases m2 with m2 | ⟨e1, e2, _⟩
          · exact Nat.lt_trans m2.2 m
          · rw [e1, e2]; exact m
theorem ax_let (hB : ∀ E P, M E P → az_B E P) {c t : Nat → Int32} (I : az_I M c t) (L : az_L c) {f w : Nat} (hf : f < 12) (hw : w < 12) (hP : ∀ E P, M E P → P f w) (H : ∀ c' t', az_I M c' t' → az_L c' → ((t f = c w ∧ c' = c ∧ t' = t) ∨ (t f ≠ c w ∧ az_mu c' t' < az_mu c t)) → post (h, k, l, r, c', t')) : wpX_letPoint post (h, k, l, r, c, t) (nI f) (nI w) := by
  have nw : c w ≠ -1 := az_cne I.1 hw
  refine ⟨az_in hf, ?_⟩
  rw [az_c12 hf]
  by_cases e : t f = -1
  · refine br_t e ?_
    refine loop_0 (fun n i s => wX_letPoint_24 post (nI f) (nI w) h n (nI i) k l r c s) (fun i s => (∀ v, v < i → s v = if c v = c f then c w else t v) ∧ (∀ v, i ≤ v → s v = t v)) 12 t ⟨fun v hv => absurd hv (by omega), fun v _ => rfl⟩ ?_ ?_
    · intro n s hI
      obtain ⟨a, b⟩ := az_point hB I hf hw e hP hI.1
      exact br_t az_12 (H c s a L (Or.inr ⟨fun z => nw (z.symm.trans e), b⟩))
    · intro n i s hi hI hk
      refine br_f (az_ge hi) ⟨az_in hi, az_in hf, ?_⟩
      rw [az_c12 hi, az_c12 hf]
      by_cases g : c i = c f
      · refine br_t g ⟨az_in hw, az_in hi, nm_r (e' := upd s i (c w)) (by rw [az_c12 hw]) (nm_r (nI_1 i) (hk (upd s i (c w)) ⟨?_, ?_⟩))⟩
        · intro v hv
          by_cases z : v = i
          · subst z; rw [if_pos g]; exact az_us
          · rw [az_un z]; exact hI.1 v (by omega)
        · intro v hv
          rw [az_un (by omega)]; exact hI.2 v (by omega)
      · refine br_f g (nm_r (nI_1 i) (hk s ⟨?_, ?_⟩))
        · intro v hv
          by_cases z : v = i
          · subst z; rw [if_neg g]; exact hI.2 v (Nat.le_refl v)
          · exact hI.1 v (by omega)
        · intro v hv
          exact hI.2 v (by omega)
  · rcases I.1.2.1 f hf with tf | ⟨x, hx, tf, cx⟩
    · exact absurd tf e
    · refine br_f e ⟨az_in hf, ?_⟩
      rw [tf]
      refine ⟨13, ax_ul hB 12 0 (by omega) x w c t hx hw I L ?_ ?_⟩
      · intro E P hM
        obtain ⟨_, SP⟩ := I.2 E P hM
        exact (hB E P hM).2.2.2.2 _ _ _ (SP f x hf hx (tf.trans cx.symm)) (hP E P hM)
      · intro c' t' I' L' m
        refine H c' t' I' L' ?_
        rcases m with ⟨m1, m2⟩ | ⟨e1, e2, e3⟩
        · exact Or.inr ⟨fun z => m1 (cx.trans (tf.symm.trans z)), m2⟩
        · exact Or.inl ⟨tf.trans (cx.symm.trans (e3 (by omega))), e1, e2⟩
end
end
section
theorem az_R0 {c t : Nat → Int32} {a b : Nat} : az_R c t (nI 0) a b ↔ t a = c b :=
  ⟨fun z => z.1 (by decide +kernel), fun z => ⟨fun _ => z, fun e => absurd e (by decide +kernel), fun e => absurd e (by decide +kernel), fun e => absurd e (by decide +kernel)⟩⟩
theorem az_R1 {c t : Nat → Int32} {a b : Nat} : az_R c t (nI 1) a b ↔ (t b ≠ -1 → t a = t b) :=
  ⟨fun z => z.2.1 (by decide +kernel), fun z => ⟨fun e => absurd e (by decide +kernel), fun _ => z, fun e => absurd e (by decide +kernel), fun e => absurd e (by decide +kernel)⟩⟩
theorem az_R2 {c t : Nat → Int32} {a b : Nat} : az_R c t (nI 2) a b ↔ (t b ≠ -1 → t (t b).toNatClampNeg ≠ -1 → t a = t (t b).toNatClampNeg) :=
  ⟨fun z => z.2.2.1 (by decide +kernel), fun z => ⟨fun e => absurd e (by decide +kernel), fun e => absurd e (by decide +kernel), fun _ => z, fun e => absurd e (by decide +kernel)⟩⟩
theorem az_R3 {c t : Nat → Int32} {a b : Nat} : az_R c t (nI 3) a b ↔ (t a ≠ -1 → t b ≠ -1 → t (t a).toNatClampNeg = t b) :=
  ⟨fun z => z.2.2.2 (by decide +kernel), fun z => ⟨fun e => absurd e (by decide +kernel), fun e => absurd e (by decide +kernel), fun e => absurd e (by decide +kernel), fun _ => z⟩⟩
/-- what one rule does to a state: it holds and nothing changes, or it doesn't and the measure falls -/
def az_St (c t : Nat → Int32) (x : Int32) (a b : Nat) (c' t' : Nat → Int32) : Prop := (az_R c t x a b ∧ c' = c ∧ t' = t) ∨ (¬ az_R c t x a b ∧ az_mu c' t' < az_mu c t)
theorem az_St_of {c t c' t' : Nat → Int32} {x : Int32} {a b : Nat} {A : Prop} (e : az_R c t x a b ↔ A) (m : (A ∧ c' = c ∧ t' = t) ∨ (¬ A ∧ az_mu c' t' < az_mu c t)) : az_St c t x a b c' t' := by
  rcases m with m | m
  · exact Or.inl ⟨e.mpr m.1, m.2⟩
  · exact Or.inr ⟨fun z => m.1 (e.mp z), m.2⟩
section
variable {M : (Nat → Nat → Prop) → (Nat → Nat → Prop) → Prop} {h : Int32} {k l r : Nat → Int32} {post : SX → Prop}
theorem ax_let2 (hB : ∀ E P, M E P → az_B E P) {c t : Nat → Int32} (I : az_I M c t) (L : az_L c) {f w : Nat} (hf : f < 12) (hw : w < 12) (hP : ∀ E P, M E P → P f w) {x : Int32} {a b : Nat} (e : az_R c t x a b ↔ t f = c w) (H : ∀ c' t', az_I M c' t' → az_L c' → az_St c t x a b c' t' → post (h, k, l, r, c', t')) : wX_applyRule_53 post (nI f) (nI w) h k l r c t :=
  br_f (az_m1 f hf) (br_f (az_m1 w hw) (ax_let hB I L hf hw hP (fun c' t' I' L' m => H c' t' I' L' (az_St_of e m))))
theorem ax_apply (hB : ∀ E P, M E P → az_B E P) {c t : Nat → Int32} (I : az_I M c t) (L : az_L c) {x a b : Nat} (hx : x < 4) (ha : a < 12) (hb : b < 12) (hQ : ∀ E P, M E P → az_Q P (nI x) a b) (H : ∀ c' t', az_I M c' t' → az_L c' → az_St c t (nI x) a b c' t' → post (h, k, l, r, c', t')) : wpX_applyRule post (h, k, l, r, c, t) (nI x) (nI a) (nI b) := by
  have F2 := I.1.2.1
  have N : az_R c t (nI x) a b → post (h, k, l, r, c, t) := fun z => H c t I L (Or.inl ⟨z, rfl, rfl⟩)
  have hx4 : x = 0 ∨ x = 1 ∨ x = 2 ∨ x = 3 := by omega
  rcases hx4 with rfl | rfl | rfl | rfl
  · refine br_f (by decide +kernel) (br_t (by decide +kernel) (br_f (by decide +kernel) (ax_let2 hB I L ha hb (fun E P hM => (hQ E P hM).1 (by decide +kernel)) az_R0 H)))
  · refine br_f (by decide +kernel) (br_f (by decide +kernel) ⟨az_in hb, br_f (by decide +kernel) ?_⟩)
    rw [az_c12 hb]
    rcases F2 b hb with tb | ⟨w, hw, tb, cw⟩
    · rw [tb]
      exact br_f (az_m1 a ha) (br_t rfl (N (az_R1.mpr (fun z => absurd tb z))))
    · rw [tb]
      refine ax_let2 hB I L ha hw (fun E P hM => (hQ E P hM).2.1 (by decide +kernel) w ((I.2 E P hM).2 b w hb hw (tb.trans cw.symm))) ?_ H
      rw [az_R1, tb, cw]
      exact ⟨fun z => z (az_m1 w hw), fun z _ => z⟩
  · refine br_f (by decide +kernel) (br_f (by decide +kernel) ⟨az_in hb, br_t (by decide +kernel) ?_⟩)
    rw [az_c12 hb]
    rcases F2 b hb with tb | ⟨w, hw, tb, cw⟩
    · rw [tb]
      exact br_t rfl (br_f (az_m1 a ha) (br_t rfl (N (az_R2.mpr (fun z => absurd tb z)))))
    · have et : t (t b).toNatClampNeg = t w := by rw [tb, az_c12 hw]
      rw [tb]
      refine br_f (az_m1 w hw) ⟨az_in hw, ?_⟩
      rw [az_c12 hw]
      rcases F2 w hw with tw | ⟨y, hy, tw, cy⟩
      · refine nm_r tw (br_f (az_m1 a ha) (br_t rfl (N (az_R2.mpr ?_))))
        intro _ z
        exact absurd (et.trans tw) z
      · refine nm_r tw (ax_let2 hB I L ha hy (fun E P hM => (hQ E P hM).2.2.1 (by decide +kernel) w y ((I.2 E P hM).2 b w hb hw (tb.trans cw.symm)) ((I.2 E P hM).2 w y hw hy (tw.trans cy.symm))) ?_ H)
        rw [az_R2, et, tb, tw, cy]
        exact ⟨fun z => z (az_m1 w hw) (az_m1 y hy), fun z _ _ => z⟩
  · refine br_t (by decide +kernel) ⟨az_in ha, br_f (by decide +kernel) ⟨az_in hb, br_f (by decide +kernel) ?_⟩⟩
    rw [az_c12 ha, az_c12 hb]
    rcases F2 a ha with ta | ⟨w, hw, ta, cw⟩
    · rw [ta]
      exact br_t rfl (N (az_R3.mpr (fun z => absurd ta z)))
    · have et : t (t a).toNatClampNeg = t w := by rw [ta, az_c12 hw]
      rw [ta]
      rcases F2 b hb with tb | ⟨y, hy, tb, cy⟩
      · rw [tb]
        exact br_f (az_m1 w hw) (br_t rfl (N (az_R3.mpr (fun _ z => absurd tb z))))
      · rw [tb]
        refine ax_let2 hB I L hw hy (fun E P hM => (hQ E P hM).2.2.2 (by decide +kernel) w y ((I.2 E P hM).2 a w ha hw (ta.trans cw.symm)) ((I.2 E P hM).2 b y hb hy (tb.trans cy.symm))) ?_ H
        rw [az_R3, et, ta, tb, cy]
        exact ⟨fun z => z (az_m1 w hw) (az_m1 y hy), fun z _ _ => z⟩
end
/-- how far a round is that began at c0, t0: the rules below i held and nothing changed, or one didn't hold and the measure fell -/
def az_Rd (n : Nat) (k l r c0 t0 : Nat → Int32) (i : Nat) (c t : Nat → Int32) : Prop := (c = c0 ∧ t = t0 ∧ ∀ j, j < i → az_R c0 t0 (k j) (l j).toNatClampNeg (r j).toNatClampNeg) ∨ (az_mu c t < az_mu c0 t0 ∧ ¬ az_cd n k l r c0 t0)
theorem az_Rd_step {n i : Nat} (hi : i < n) {k l r c0 t0 c t c' t' : Nat → Int32} (D : az_Rd n k l r c0 t0 i c t) (S : az_St c t (k i) (l i).toNatClampNeg (r i).toNatClampNeg c' t') : az_Rd n k l r c0 t0 (i + 1) c' t' := by
  rcases D with ⟨rfl, rfl, D⟩ | ⟨D1, D2⟩
  · rcases S with ⟨S1, rfl, rfl⟩ | ⟨S1, S2⟩
    · refine Or.inl ⟨rfl, rfl, ?_⟩
      intro j hj
      by_cases e : j = i
      · subst e; exact S1
      · exact D j (by omega)
    · exact Or.inr ⟨S2, fun z => S1 (z i hi)⟩
  · rcases S with ⟨S1, rfl, rfl⟩ | ⟨S1, S2⟩
    · exact Or.inr ⟨D1, D2⟩
    · exact Or.inr ⟨Nat.lt_trans S2 D1, D2⟩
section
variable {n : Nat} {k l r : Nat → Int32} {post : SX → Prop}
theorem ax_round (hn : n ≤ 24) (O : az_ok n k l r) {J : Int32 → Int32 → (Nat → Int32) → (Nat → Int32) → (Nat → Int32) → (Nat → Int32) → (Nat → Int32) → Prop} {m : Nat} {c0 t0 : Nat → Int32} (H : ∀ c' t', az_I (az_M n k l r) c' t' → az_L c' → az_Rd n k l r c0 t0 n c' t' → J (nI (m + 1)) (nI n) k l r c' t') : ∀ d i, i + d = n → ∀ c t, az_I (az_M n k l r) c t → az_L c → az_Rd n k l r c0 t0 i c t → wX_divide_14 post J (nI m) (d + 1) (nI i) (nI n) k l r c t := by
  intro d
  induction d with
  | zero =>
    intro i hi c t I L D
    have e : i = n := by omega
    subst e
    exact br_t (nI_le (Nat.le_refl i) (by omega)) (nm_r (nI_1 m) (H c t I L D))
  | succ d ih =>
    intro i hi c t I L D
    obtain ⟨⟨x, hx, ex⟩, ⟨a, ha, ea⟩, ⟨b, hb, eb⟩⟩ := O i (by omega)
    refine br_f (nI_ge (by omega) (by omega)) ⟨az_in24 (by omega), az_in24 (by omega), az_in24 (by omega), ?_⟩
    rw [az_cl (by omega : i < 24), ex, ea, eb]
    refine ax_apply az_MB I L hx ha hb ?_ ?_
    · intro E P hM
      have q := hM.2 i (by omega)
      rw [ex, ea, eb, az_c12 ha, az_c12 hb] at q
      exact q
    · intro c' t' I' L' S
      refine nm_r (nI_1 i) (ih (i + 1) (by omega) c' t' I' L' (az_Rd_step (by omega) D ?_))
      rw [ex, ea, eb, az_c12 ha, az_c12 hb]
      exact S
theorem ax_rounds (hn : n ≤ 24) (O : az_ok n k l r) (H : ∀ c' t', az_fin n k l r c' t' → az_L c' → post (nI n, k, l, r, c', t')) : ∀ d i, i + d = 24 → ∀ c t, az_I (az_M n k l r) c t → az_L c → (az_cd n k l r c t ∨ az_mu c t + i ≤ 24) → wX_divide_6 post (d + 1) (nI i) (nI n) k l r c t := by
  intro d
  induction d with
  | zero =>
    intro i hi c t I L D
    have e : i = 24 := by omega
    subst e
    refine br_t (by decide +kernel) (H c t ⟨I, ?_⟩ L)
    rcases D with D | D
    · exact D
    · have := az_mu_pos I.1
      omega
  | succ d ih =>
    intro i hi c t I L D
    refine br_f (nI_ge (b := 24) (by omega) (by decide)) ⟨n + 1, ax_round hn O (c0 := c) (t0 := t) ?_ n 0 (by omega) c t I L (Or.inl ⟨rfl, rfl, fun j hj => absurd hj (by omega)⟩)⟩
    intro c' t' I' L' S
    refine ih (i + 1) (by omega) c' t' I' L' ?_
    rcases S with ⟨rfl, rfl, S⟩ | ⟨S1, S2⟩
    · exact Or.inl S
    · rcases D with D | D
      · exact absurd D S2
      · exact Or.inr (by omega)
theorem ax_divide (hn : n ≤ 24) (O : az_ok n k l r) {c t : Nat → Int32} (H : ∀ c' t', az_fin n k l r c' t' → az_L c' → post (nI n, k, l, r, c', t')) : wpX_divide post (nI n, k, l, r, c, t) := by
  unfold wpX_divide
  dsimp only
  refine ax_sep ?_
  intro c' t' hc ht
  dsimp only
  have mi := az_mu_init hc ht
  have K : wX_divide_6 post (24 + 1) (nI 0) (nI n) k l r c' t' := ax_rounds hn O H 24 0 (by omega) c' t' (az_init az_MB hc ht) (fun w hw => ⟨w, Nat.le_refl w, hc w hw⟩) (Or.inr (by omega))
  rw [nI_0] at K
  exact Exists.intro (24 + 1) K
end
end
section
/-- the block that v's block points at, as the reference keeps it -/
def ay_T (cl to : Nat → Int32) : Nat → Int32 := fun v => to (cl v).toNatClampNeg
theorem ay_Tr {cl to : Nat → Int32} {p : Nat} (hp : p < 12) (e : cl p = nI p) : ay_T cl to p = to p := by
  show to (cl p).toNatClampNeg = to p
  rw [e, az_c12 hp]
theorem ay_neg : (-1 : Int32) < 0 := by decide
theorem ay_nn {w : Nat} (hw : w < 12) : ¬ nI w < 0 := nI_pos (by omega)
theorem ay_nn' {w : Nat} (hw : w < 12) : (0 : Int32) ≤ nI w := nI_pos' (by omega)
theorem ay_103 {post : SY → Prop} {J5 : Int32 → Int32 → Int32 → (Nat → Int32) → (Nat → Int32) → (Nat → Int32) → (Nat → Int32) → (Nat → Int32) → Prop} {J : Int32 → (Nat → Int32) → (Nat → Int32) → (Nat → Int32) → (Nat → Int32) → (Nat → Int32) → Prop} {x3 x4 x5 x6 : Int32} {i : Nat} (hi : i < 12) {h ch : Int32} {k l r cl to : Nat → Int32} (H : J (nI (i + 1)) k l r cl (upd to i (az_ren x4 x3 (to i)))) : wY_join_103 post J5 J x3 x4 x5 x6 (nI i) h ch k l r cl to := by
  refine ⟨az_in hi, ?_⟩
  rw [az_c12 hi]
  by_cases e : to i = x4
  · rw [az_ren, if_pos e] at H
    exact br_t e ⟨az_in hi, nm_e (nm_r (nI_1 i) H)⟩
  · rw [az_ren, if_neg e, az_ui] at H
    exact br_f e (nm_r (nI_1 i) H)
theorem ay_146 {post : SY → Prop} {J5 : Int32 → Int32 → Int32 → (Nat → Int32) → (Nat → Int32) → (Nat → Int32) → (Nat → Int32) → (Nat → Int32) → Prop} {p q : Nat} (hp : p < 12) (hq : q < 12) {x5 x6 z0 h ch : Int32} {k l r cl to : Nat → Int32} (H : J5 x5 x6 ch k l r cl (upd (upd to p z0) q (-1))) : wY_join_146 post J5 (nI q) x5 x6 z0 (nI p) h ch k l r cl to :=
  ⟨az_in hp, nm_r (e' := upd to p z0) (by rw [az_c12 hp]) ⟨az_in hq, nm_r (e' := upd (upd to p z0) q (-1)) (by rw [az_c12 hq]) H⟩⟩
theorem ay_jl {post : SY → Prop} {J5 : Int32 → Int32 → Int32 → (Nat → Int32) → (Nat → Int32) → (Nat → Int32) → (Nat → Int32) → (Nat → Int32) → Prop} {p q : Nat} (hp : p < 12) (hq : q < 12) {x5 x6 h ch : Int32} {k l r cl to : Nat → Int32} (H : ∀ cl' to', (∀ v, v < 12 → cl' v = az_ren (nI q) (nI p) (cl v)) → (∀ v, v < 12 → to' v = if v = q then -1 else if v = p then (if x5 < 0 then x6 else x5) else az_ren (nI q) (nI p) (to v)) → J5 x5 x6 ch k l r cl' to') : ∃ n, wY_join_76 post J5 (nI p) (nI q) x5 x6 h ch n 0 k l r cl to := by
  refine loop_0 (fun n i s => wY_join_76 post J5 (nI p) (nI q) x5 x6 h ch n (nI i) k l r s.1 s.2) (fun i s => (∀ v, v < i → s.1 v = az_ren (nI q) (nI p) (cl v) ∧ s.2 v = az_ren (nI q) (nI p) (to v)) ∧ (∀ v, i ≤ v → s.1 v = cl v ∧ s.2 v = to v)) 12 (cl, to) ⟨fun v hv => absurd hv (by omega), fun v _ => ⟨rfl, rfl⟩⟩ ?_ ?_
  · intro n s hI
    have K : ∀ z0, z0 = (if x5 < 0 then x6 else x5) → J5 x5 x6 ch k l r s.1 (upd (upd s.2 p z0) q (-1)) := by
      intro z0 hz
      refine H _ _ (fun v hv => (hI.1 v hv).1) ?_
      intro v hv
      by_cases a : v = q
      · rw [if_pos a, a]; exact az_us
      · rw [if_neg a, az_un a]
        by_cases b : v = p
        · rw [if_pos b, b, ← hz]; exact az_us
        · rw [if_neg b, az_un b]; exact (hI.1 v hv).2
    refine br_t az_12 ?_
    by_cases e : x5 < 0
    · exact br_t e (ay_146 hp hq (K x6 (by rw [if_pos e])))
    · exact br_f e (ay_146 hp hq (K x5 (by rw [if_neg e])))
  · intro n i s hi hI hk
    obtain ⟨I1, I2⟩ := hI
    obtain ⟨sc, st⟩ := I2 i (Nat.le_refl i)
    have K := hk (upd s.1 i (az_ren (nI q) (nI p) (s.1 i)), upd s.2 i (az_ren (nI q) (nI p) (s.2 i))) ⟨by
      intro v hv
      by_cases e : v = i
      · subst e
        rw [← sc, ← st]
        exact ⟨az_us, az_us⟩
      · have := I1 v (by omega)
        exact ⟨(az_un e).trans this.1, (az_un e).trans this.2⟩, by
      intro v hv
      have := I2 v (by omega)
      exact ⟨(az_un (by omega)).trans this.1, (az_un (by omega)).trans this.2⟩⟩
    have K : wY_join_76 post J5 (nI p) (nI q) x5 x6 h ch n (nI (i + 1)) k l r (upd s.1 i (az_ren (nI q) (nI p) (s.1 i))) (upd s.2 i (az_ren (nI q) (nI p) (s.2 i))) := K
    refine br_f (az_ge hi) ⟨az_in hi, ?_⟩
    rw [az_c12 hi]
    by_cases e : s.1 i = nI q
    · rw [az_ren, if_pos e] at K
      exact br_t e ⟨az_in hi, nm_e (ay_103 hi K)⟩
    · rw [az_ren, if_neg e, az_ui] at K
      exact br_f e (ay_103 hi K)
/-- a value that names a block, or -1 -/
def ay_V (cl : Nat → Int32) (x : Int32) : Prop := x = -1 ∨ ∃ p, p < 12 ∧ x = nI p ∧ cl p = nI p
section
variable {M : (Nat → Nat → Prop) → (Nat → Nat → Prop) → Prop} {h : Int32} {k l r : Nat → Int32} {post : SY → Prop}
/-- one joining: what the two arrays are afterwards -/
theorem ay_jm (hB : ∀ E P, M E P → az_B E P) {cl to : Nat → Int32} (I : az_I M cl (ay_T cl to)) {p q : Nat} (hp : p < 12) (hq : q < 12) (ep : cl p = nI p) (eq : cl q = nI q) (hne : p ≠ q) (hE : ∀ E P, M E P → E p q) {cl' to' : Nat → Int32} (hc : ∀ v, v < 12 → cl' v = az_ren (nI q) (nI p) (cl v)) (ht : ∀ v, v < 12 → to' v = if v = q then -1 else if v = p then (if az_ren (nI q) (nI p) (to p) < 0 then az_ren (nI q) (nI p) (to q) else az_ren (nI q) (nI p) (to p)) else az_ren (nI q) (nI p) (to v)) : az_I M cl' (ay_T cl' to') ∧ az_mu cl' (ay_T cl' to') < az_mu cl (ay_T cl to) := by
  have tp : ay_T cl to p = to p := ay_Tr hp ep
  have tq : ay_T cl to q = to q := ay_Tr hq eq
  have npq : nI p ≠ nI q := fun z => hne (az_inj hp hq z)
  have fp := I.1.2.1 p hp
  rw [tp] at fp
  have jn : (if az_ren (nI q) (nI p) (to p) < 0 then az_ren (nI q) (nI p) (to q) else az_ren (nI q) (nI p) (to p)) = az_ren (nI q) (nI p) (if to p = -1 then to q else to p) := by
    rcases fp with fp | ⟨w, hw, fp, _⟩
    · have e1 : az_ren (nI q) (nI p) (to p) = -1 := by rw [fp, az_ren, if_neg (fun z => az_m1 q hq z.symm)]
      rw [e1, if_pos ay_neg, if_pos fp]
    · have e1 : ¬ az_ren (nI q) (nI p) (to p) < 0 := by
        rw [fp, az_ren]
        split
        · exact ay_nn hp
        · exact ay_nn hw
      rw [if_neg e1, if_neg (by rw [fp]; exact az_m1 w hw)]
  refine az_join hB I hp hq ep eq hne hE (jt := if to p = -1 then to q else to p) ?_ ?_ hc ?_
  · rw [tp, tq]
    by_cases e : to p = -1
    · rw [if_pos e]; exact Or.inr rfl
    · rw [if_neg e]; exact Or.inl rfl
  · intro z
    rw [tp, tq]
    by_cases e : to p = -1
    · rw [if_pos e] at z; exact ⟨e, z⟩
    · rw [if_neg e] at z; exact absurd z e
  · intro v hv
    show to' (cl' v).toNatClampNeg = _
    by_cases a : cl v = nI p ∨ cl v = nI q
    · have e : cl' v = nI p := by
        rw [hc v hv, az_ren]
        rcases a with a | a
        · rw [a, if_neg npq]
        · rw [if_pos a]
      rw [e, az_c12 hp, ht p hp, if_neg hne, if_pos rfl, jn, if_pos a]
    · obtain ⟨w, hw, w1, w2⟩ := I.1.1 v hv
      have wq : w ≠ q := fun z => a (Or.inr (by rw [w1, z]))
      have wp : w ≠ p := fun z => a (Or.inl (by rw [w1, z]))
      have e : cl' v = nI w := by
        rw [hc v hv, az_ren, if_neg (fun z => a (Or.inr z)), w1]
      rw [e, az_c12 hw, ht w hw, if_neg wq, if_neg wp, if_neg a]
      show _ = az_ren (nI q) (nI p) (to (cl v).toNatClampNeg)
      rw [w1, az_c12 hw]
theorem ay_jo (hB : ∀ E P, M E P → az_B E P) : ∀ (n : Nat) (x y ch : Int32) (cl to : Nat → Int32), az_I M cl (ay_T cl to) → ay_V cl x → ay_V cl y → az_mu cl (ay_T cl to) < n → (∀ p q, p < 12 → q < 12 → x = nI p → y = nI q → ∀ E P, M E P → E p q) → (∀ ch' cl' to', az_I M cl' (ay_T cl' to') → (((x = y ∨ x = -1 ∨ y = -1) ∧ ch' = ch ∧ cl' = cl ∧ to' = to) ∨ (x ≠ y ∧ ch' = 1 ∧ az_mu cl' (ay_T cl' to') < az_mu cl (ay_T cl to))) → post (h, ch', k, l, r, cl', to')) → wY_join_5 post h n x y ch k l r cl to := by
  intro n
  induction n with
  | zero => intro x y ch cl to _ _ _ hm; exact absurd hm (by omega)
  | succ n ih =>
    intro x y ch cl to I vx vy hm hE H
    by_cases e : x = y
    · exact br_t e (H ch cl to I (Or.inl ⟨Or.inl e, rfl, rfl, rfl⟩))
    · refine br_f e ?_
      rcases vx with vx | ⟨p, hp, vx, ep⟩
      · exact br_t (by rw [vx]; exact ay_neg) (H ch cl to I (Or.inl ⟨Or.inr (Or.inl vx), rfl, rfl, rfl⟩))
      · refine br_f (by rw [vx]; exact ay_nn hp) ?_
        rcases vy with vy | ⟨q, hq, vy, eq⟩
        · exact br_t (by rw [vy]; exact ay_neg) (H ch cl to I (Or.inl ⟨Or.inr (Or.inr vy), rfl, rfl, rfl⟩))
        · refine br_f (by rw [vy]; exact ay_nn hq) ?_
          have hpq := hE p q hp hq vx vy
          have hne : p ≠ q := fun z => e (by rw [vx, vy, z])
          have G : ∃ m, wY_join_76 post (wY_join_5 post h n) (nI p) (nI q) (az_ren (nI q) (nI p) (to p)) (az_ren (nI q) (nI p) (to q)) h 1 m 0 k l r cl to := by
            refine ay_jl hp hq ?_
            intro cl' to' hc ht
            obtain ⟨I', m'⟩ := ay_jm hB I hp hq ep eq hne hpq hc ht
            have tp : ay_T cl to p = to p := ay_Tr hp ep
            have tq : ay_T cl to q = to q := ay_Tr hq eq
            have W : ∀ z, z < 12 → (ay_T cl to z = -1 → az_ren (nI q) (nI p) (ay_T cl to z) = -1) ∧ ∀ w, w < 12 → ay_T cl to z = nI w → cl w = nI w → az_ren (nI q) (nI p) (ay_T cl to z) = cl' w := by
              intro z hz
              refine ⟨fun e1 => by rw [e1, az_ren, if_neg (fun z => az_m1 q hq z.symm)], fun w hw e1 e2 => by rw [e1, hc w hw, e2]⟩
            have V : ∀ z, z < 12 → ay_V cl' (az_ren (nI q) (nI p) (ay_T cl to z)) := by
              intro z hz
              rcases I.1.2.1 z hz with e1 | ⟨w, hw, e1, e2⟩
              · exact Or.inl ((W z hz).1 e1)
              · obtain ⟨w', hw', f1, f2⟩ := I'.1.1 w hw
                exact Or.inr ⟨w', hw', ((W z hz).2 w hw e1 e2).trans f1, f2⟩
            have Vp := V p hp
            have Vq := V q hq
            rw [tp] at Vp
            rw [tq] at Vq
            refine ih _ _ 1 cl' to' I' Vp Vq (by omega) ?_ ?_
            · intro x' y' hx' hy' ex' ey' E P hM
              obtain ⟨e1, e2, e3, p1, p2⟩ := hB E P hM
              obtain ⟨SE', _⟩ := I'.2 E P hM
              have Z : ∀ z, z < 12 → ∀ x', x' < 12 → az_ren (nI q) (nI p) (ay_T cl to z) = nI x' → ∃ w, w < 12 ∧ ay_T cl to z = cl w ∧ E w x' := by
                intro z hz x' hx' ex'
                rcases I.1.2.1 z hz with f | ⟨w, hw, f1, f2⟩
                · exact absurd (ex'.symm.trans ((W z hz).1 f)) (az_m1 x' hx')
                · have g := ((W z hz).2 w hw f1 f2).symm.trans ex'
                  obtain ⟨w', hw', g1, g2⟩ := I'.1.1 w hw
                  have : w' = x' := az_inj hw' hx' (g1.symm.trans g)
                  subst this
                  exact ⟨w, hw, f1.trans f2.symm, SE' w w' hw hw' (g1.trans g2.symm)⟩
              obtain ⟨a, ha, a1, a2⟩ := Z p hp x' hx' (by rw [tp]; exact ex')
              obtain ⟨b, hb, b1, b2⟩ := Z q hq y' hy' (by rw [tq]; exact ey')
              exact e3 _ _ _ (e2 _ _ a2) (e3 _ _ _ (ax_next hB I hp hq ha hb a1 b1 hpq E P hM) b2)
            · intro ch2 cl2 to2 I2 m2
              refine H ch2 cl2 to2 I2 (Or.inr ⟨e, ?_⟩)
              rcases m2 with ⟨_, f1, f2, f3⟩ | ⟨_, f1, f2⟩
              · subst f2 f3
                exact ⟨f1, m'⟩
              · exact ⟨f1, Nat.lt_trans f2 m'⟩
          subst vx vy
          have S46 : wY_join_46 post (wY_join_5 post h n) (nI p) (nI q) (az_ren (nI q) (nI p) (to p)) h 1 k l r cl to := by
            refine ⟨az_in hq, ?_⟩
            rw [az_c12 hq]
            by_cases f : to q = nI q
            · refine br_t f ?_
              rw [show az_ren (nI q) (nI p) (to q) = nI p from if_pos f] at G
              exact G
            · refine br_f f ⟨az_in hq, nm_e ?_⟩
              rw [show az_ren (nI q) (nI p) (to q) = to q from if_neg f] at G
              exact G
          refine ⟨az_in hp, ?_⟩
          rw [az_c12 hp]
          by_cases f : to p = nI q
          · refine br_t f ?_
            rw [show az_ren (nI q) (nI p) (to p) = nI p from if_pos f] at S46
            exact S46
          · refine br_f f ⟨az_in hp, ?_⟩
            rw [show az_ren (nI q) (nI p) (to p) = to p from if_neg f] at S46
            exact S46
/-- what one rule does to the reference's state -/
def ay_St (cl to : Nat → Int32) (ch : Int32) (A : Prop) (ch' : Int32) (cl' to' : Nat → Int32) : Prop := (A ∧ ch' = ch ∧ cl' = cl ∧ to' = to) ∨ (¬ A ∧ ch' = 1 ∧ az_mu cl' (ay_T cl' to') < az_mu cl (ay_T cl to))
theorem ay_point (hB : ∀ E P, M E P → az_B E P) {ch : Int32} {cl to : Nat → Int32} (I : az_I M cl (ay_T cl to)) {p q : Nat} (hp : p < 12) (hq : q < 12) (ep : cl p = nI p) (eq : cl q = nI q) (hP : ∀ E P, M E P → P p q) {A : Prop} (eA : A ↔ ay_T cl to p = cl q) (H : ∀ ch' cl' to', az_I M cl' (ay_T cl' to') → ay_St cl to ch A ch' cl' to' → post (h, ch', k, l, r, cl', to')) : wpY_point post (h, ch, k, l, r, cl, to) (nI p) (nI q) := by
  have tp : ay_T cl to p = to p := ay_Tr hp ep
  have fp := I.1.2.1 p hp
  rw [tp] at fp
  refine ⟨az_in hp, ?_⟩
  rw [az_c12 hp]
  rcases fp with fp | ⟨w, hw, fp, ew⟩
  · rw [fp]
    refine br_f (by decide) ⟨az_in hp, nm_e ?_⟩
    have K := az_point hB I hp hq (tp.trans fp) hP (t' := ay_T cl (upd to p (nI q))) (by
      intro v hv
      show upd to p (nI q) (cl v).toNatClampNeg = _
      obtain ⟨x, hx, x1, x2⟩ := I.1.1 v hv
      by_cases e : cl v = cl p
      · rw [if_pos e, e, ep, az_c12 hp, eq]; exact az_us
      · have : x ≠ p := fun z => e (by rw [x1, ep, z])
        rw [if_neg e, x1, az_c12 hx, az_un this]
        show to x = to (cl v).toNatClampNeg
        rw [x1, az_c12 hx])
    refine H 1 cl _ K.1 (Or.inr ⟨?_, rfl, K.2⟩)
    rw [eA, tp, fp, eq]
    exact fun z => az_m1 q hq z.symm
  · rw [fp]
    refine br_t (ay_nn' hw) ⟨az_in hp, ?_⟩
    refine ⟨az_mu cl (ay_T cl to) + 1, ay_jo hB _ (nI w) (nI q) ch cl to I (Or.inr ⟨w, hw, rfl, ew⟩) (Or.inr ⟨q, hq, rfl, eq⟩) (by omega) ?_ ?_⟩
    · intro a b ha hb ea eb E P hM
      have ea' : w = a := az_inj hw ha ea
      have eb' : q = b := az_inj hq hb eb
      subst ea' eb'
      exact (hB E P hM).2.2.2.2 _ _ _ ((I.2 E P hM).2 p w hp hw (tp.trans (fp.trans ew.symm))) (hP E P hM)
    · intro ch' cl' to' I' m
      refine H ch' cl' to' I' ?_
      rcases m with ⟨m0, m1⟩ | ⟨m0, m1⟩
      · refine Or.inl ⟨?_, m1⟩
        rw [eA, tp, fp, eq]
        rcases m0 with m0 | m0 | m0
        · exact m0
        · exact absurd m0 (az_m1 w hw)
        · exact absurd m0 (az_m1 q hq)
      · refine Or.inr ⟨?_, m1⟩
        rw [eA, tp, fp, eq]
        exact m0
end
end
section
section
variable {M : (Nat → Nat → Prop) → (Nat → Nat → Prop) → Prop} {h : Int32} {k l r : Nat → Int32} {post : SY → Prop}
theorem ay_106n {i : Nat} (hi : i < 24) {x2 x4 ch : Int32} {cl to : Nat → Int32} (e : k i ≠ 3) (H : post (h, ch, k, l, r, cl, to)) : wY_apply_106 post (nI i) x2 x4 h ch k l r cl to :=
  ⟨az_in24 hi, br_f (by rw [az_cl hi]; exact e) H⟩
theorem ay_69n {i : Nat} (hi : i < 24) {x2 x4 ch : Int32} {cl to : Nat → Int32} (e : k i ≠ 2) (H : wY_apply_106 post (nI i) x2 x4 h ch k l r cl to) : wY_apply_69 post (nI i) x2 x4 h ch k l r cl to :=
  ⟨az_in24 hi, br_f (by rw [az_cl hi]; exact e) H⟩
theorem ay_47n {i : Nat} (hi : i < 24) {x2 x4 ch : Int32} {cl to : Nat → Int32} (e : k i ≠ 1) (H : wY_apply_69 post (nI i) x2 x4 h ch k l r cl to) : wY_apply_47 post (nI i) x2 x4 h ch k l r cl to :=
  ⟨az_in24 hi, br_f (by rw [az_cl hi]; exact e) H⟩
theorem ay_apply (hB : ∀ E P, M E P → az_B E P) {ch : Int32} {cl to : Nat → Int32} (I : az_I M cl (ay_T cl to)) {i x a b : Nat} (hi : i < 24) (hx : x < 4) (ha : a < 12) (hb : b < 12) (ex : k i = nI x) (ea : l i = nI a) (eb : r i = nI b) (hQ : ∀ E P, M E P → az_Q P (nI x) a b) (H : ∀ ch' cl' to', az_I M cl' (ay_T cl' to') → ay_St cl to ch (az_R cl (ay_T cl to) (nI x) a b) ch' cl' to' → post (h, ch', k, l, r, cl', to')) : wpY_apply post (h, ch, k, l, r, cl, to) (nI i) := by
  have F2 := I.1.2.1
  have F3 := I.1.2.2
  obtain ⟨ca, hca, a1, a2⟩ := I.1.1 a ha
  obtain ⟨cb, hcb, b1, b2⟩ := I.1.1 b hb
  have Ta : ay_T cl to a = to ca := by
    show to (cl a).toNatClampNeg = to ca
    rw [a1, az_c12 hca]
  have Tb : ay_T cl to b = to cb := by
    show to (cl b).toNatClampNeg = to cb
    rw [b1, az_c12 hcb]
  have Tca : ay_T cl to ca = ay_T cl to a := F3 ca a hca ha (a2.trans a1.symm)
  have N : az_R cl (ay_T cl to) (nI x) a b → post (h, ch, k, l, r, cl, to) := fun z => H ch cl to I (Or.inl ⟨z, rfl, rfl, rfl⟩)
  have PA : ∀ E P, M E P → ∀ w, P a w → P ca w := fun E P hM w p => (hB E P hM).2.2.2.1 _ _ _ _ p ((I.2 E P hM).1 a ca ha hca (a1.trans a2.symm)) ((hB E P hM).1 w)
  have SP : ∀ E P, M E P → ∀ u v, u < 12 → v < 12 → ay_T cl to u = cl v → P u v := fun E P hM => (I.2 E P hM).2
  have ii : (nI i).toNatClampNeg = i := az_cl hi
  refine ⟨az_in24 hi, by rw [ii, ea]; exact az_in ha, nm_r (e' := nI ca) (by rw [ii, ea, az_c12 ha, a1]) ⟨az_in24 hi, by rw [ii, eb]; exact az_in hb, nm_r (e' := nI cb) (by rw [ii, eb, az_c12 hb, b1]) ⟨az_in hcb, nm_r (e' := to cb) (by rw [az_c12 hcb]) ⟨az_in24 hi, ?_⟩⟩⟩⟩
  rw [ii]
  have hx4 : x = 0 ∨ x = 1 ∨ x = 2 ∨ x = 3 := by omega
  rcases hx4 with rfl | rfl | rfl | rfl
  · have n1 : k i ≠ 1 := by rw [ex]; decide +kernel
    have n2 : k i ≠ 2 := by rw [ex]; decide +kernel
    have n3 : k i ≠ 3 := by rw [ex]; decide +kernel
    refine br_t (by rw [ex]; decide +kernel) (ay_point hB I hca hcb a2 b2 (A := az_R cl (ay_T cl to) (nI 0) a b) ?_ ?_ ?_)
    · intro E P hM
      exact (hB E P hM).2.2.2.1 _ _ _ _ (PA E P hM b ((hQ E P hM).1 (by decide +kernel))) ((hB E P hM).1 ca) ((I.2 E P hM).1 b cb hb hcb (b1.trans b2.symm))
    · rw [az_R0, Tca, b2, b1]
    · intro ch' cl' to' I' S
      exact ay_47n hi n1 (ay_69n hi n2 (ay_106n hi n3 (H ch' cl' to' I' S)))
  · have n0 : k i ≠ 0 := by rw [ex]; decide +kernel
    have n2 : k i ≠ 2 := by rw [ex]; decide +kernel
    have n3 : k i ≠ 3 := by rw [ex]; decide +kernel
    refine br_f n0 ⟨az_in24 hi, br_t (by rw [ii, ex]; decide +kernel) ?_⟩
    rcases F2 b hb with tb | ⟨w, hw, tb, cw⟩
    · rw [← Tb, tb]
      exact br_t ay_neg (ay_69n hi n2 (ay_106n hi n3 (N (az_R1.mpr (fun z => absurd tb z)))))
    · rw [← Tb, tb]
      refine br_f (ay_nn hw) (ay_point hB I hca hw a2 cw (A := az_R cl (ay_T cl to) (nI 1) a b) ?_ ?_ ?_)
      · intro E P hM
        exact PA E P hM w ((hQ E P hM).2.1 (by decide +kernel) w (SP E P hM b w hb hw (tb.trans cw.symm)))
      · rw [az_R1, Tca, tb, cw]
        exact ⟨fun z => z (az_m1 w hw), fun z _ => z⟩
      · intro ch' cl' to' I' S
        exact ay_69n hi n2 (ay_106n hi n3 (H ch' cl' to' I' S))
  · have n0 : k i ≠ 0 := by rw [ex]; decide +kernel
    have n1 : k i ≠ 1 := by rw [ex]; decide +kernel
    have n3 : k i ≠ 3 := by rw [ex]; decide +kernel
    refine br_f n0 (ay_47n hi n1 ⟨az_in24 hi, br_t (by rw [ii, ex]; decide +kernel) ?_⟩)
    rcases F2 b hb with tb | ⟨w, hw, tb, cw⟩
    · rw [← Tb, tb]
      exact br_t ay_neg (ay_106n hi n3 (N (az_R2.mpr (fun z => absurd tb z))))
    · have et : ay_T cl to (ay_T cl to b).toNatClampNeg = ay_T cl to w := by rw [tb, az_c12 hw]
      have ew : ay_T cl to w = to w := ay_Tr hw cw
      rw [← Tb, tb]
      refine br_f (ay_nn hw) ⟨az_in hw, ?_⟩
      rw [az_c12 hw, ← ew]
      rcases F2 w hw with tw | ⟨y, hy, tw, cy⟩
      · rw [tw]
        exact br_t ay_neg (ay_106n hi n3 (N (az_R2.mpr (fun _ z => absurd (et.trans tw) z))))
      · rw [tw]
        refine br_f (ay_nn hy) ⟨az_in hw, ay_point hB I hca hy a2 cy (A := az_R cl (ay_T cl to) (nI 2) a b) ?_ ?_ ?_⟩
        · intro E P hM
          exact PA E P hM y ((hQ E P hM).2.2.1 (by decide +kernel) w y (SP E P hM b w hb hw (tb.trans cw.symm)) (SP E P hM w y hw hy (tw.trans cy.symm)))
        · rw [az_R2, et, Tca, tb, tw, cy]
          exact ⟨fun z => z (az_m1 w hw) (az_m1 y hy), fun z _ _ => z⟩
        · intro ch' cl' to' I' S
          exact ay_106n hi n3 (H ch' cl' to' I' S)
  · have n0 : k i ≠ 0 := by rw [ex]; decide +kernel
    have n1 : k i ≠ 1 := by rw [ex]; decide +kernel
    have n2 : k i ≠ 2 := by rw [ex]; decide +kernel
    refine br_f n0 (ay_47n hi n1 (ay_69n hi n2 ⟨az_in24 hi, br_t (by rw [ii, ex]; decide +kernel) ⟨az_in hca, ?_⟩⟩))
    rw [az_c12 hca, ← Ta, ← Tb]
    rcases F2 a ha with ta | ⟨w, hw, ta, cw⟩
    · rw [ta]
      exact br_t ay_neg (N (az_R3.mpr (fun z => absurd ta z)))
    · have et : ay_T cl to (ay_T cl to a).toNatClampNeg = ay_T cl to w := by rw [ta, az_c12 hw]
      rw [ta]
      refine br_f (ay_nn hw) ?_
      rcases F2 b hb with tb | ⟨y, hy, tb, cy⟩
      · rw [tb]
        exact br_t ay_neg (N (az_R3.mpr (fun _ z => absurd tb z)))
      · rw [tb]
        refine br_f (ay_nn hy) ⟨az_in hca, ay_point hB I hw hy cw cy (A := az_R cl (ay_T cl to) (nI 3) a b) ?_ ?_ ?_⟩
        · intro E P hM
          exact (hQ E P hM).2.2.2 (by decide +kernel) w y (SP E P hM a w ha hw (ta.trans cw.symm)) (SP E P hM b y hb hy (tb.trans cy.symm))
        · rw [az_R3, et, ta, tb, cy]
          exact ⟨fun z => z (az_m1 w hw) (az_m1 y hy), fun z _ _ => z⟩
        · intro ch' cl' to' I' S
          exact H ch' cl' to' I' S
end
/-- how far a round of the reference is -/
def ay_Rd (k l r c0 to0 : Nat → Int32) (i : Nat) (ch : Int32) (cl to : Nat → Int32) : Prop := (ch = 0 ∧ cl = c0 ∧ to = to0 ∧ ∀ j, j < i → az_R c0 (ay_T c0 to0) (k j) (l j).toNatClampNeg (r j).toNatClampNeg) ∨ (ch = 1 ∧ az_mu cl (ay_T cl to) < az_mu c0 (ay_T c0 to0))
theorem ay_Rd_step {i : Nat} {k l r c0 to0 cl to cl' to' : Nat → Int32} {ch ch' : Int32} (D : ay_Rd k l r c0 to0 i ch cl to) (S : ay_St cl to ch (az_R cl (ay_T cl to) (k i) (l i).toNatClampNeg (r i).toNatClampNeg) ch' cl' to') : ay_Rd k l r c0 to0 (i + 1) ch' cl' to' := by
  rcases D with ⟨rfl, rfl, rfl, D⟩ | ⟨rfl, D⟩
  · rcases S with ⟨S1, rfl, rfl, rfl⟩ | ⟨S1, rfl, S2⟩
    · refine Or.inl ⟨rfl, rfl, rfl, ?_⟩
      intro j hj
      by_cases e : j = i
      · subst e; exact S1
      · exact D j (by omega)
    · exact Or.inr ⟨rfl, S2⟩
  · rcases S with ⟨S1, rfl, rfl, rfl⟩ | ⟨S1, rfl, S2⟩
    · exact Or.inr ⟨rfl, D⟩
    · exact Or.inr ⟨rfl, Nat.lt_trans S2 D⟩
section
variable {n : Nat} {k l r : Nat → Int32} {post : SY → Prop}
theorem ay_round (hn : n ≤ 24) (O : az_ok n k l r) {J : Int32 → Int32 → Int32 → (Nat → Int32) → (Nat → Int32) → (Nat → Int32) → (Nat → Int32) → (Nat → Int32) → Prop} {m : Nat} {c0 to0 : Nat → Int32} (H : ∀ ch' cl' to', az_I (az_M n k l r) cl' (ay_T cl' to') → ay_Rd k l r c0 to0 n ch' cl' to' → J (nI (m + 1)) (nI n) ch' k l r cl' to') : ∀ d i, i + d = n → ∀ ch cl to, az_I (az_M n k l r) cl (ay_T cl to) → ay_Rd k l r c0 to0 i ch cl to → wY_work_55 post J (nI m) (d + 1) (nI i) (nI n) ch k l r cl to := by
  intro d
  induction d with
  | zero =>
    intro i hi ch cl to I D
    have e : i = n := by omega
    subst e
    exact br_t (nI_le (Nat.le_refl i) (by omega)) (nm_r (nI_1 m) (H ch cl to I D))
  | succ d ih =>
    intro i hi ch cl to I D
    obtain ⟨⟨x, hx, ex⟩, ⟨a, ha, ea⟩, ⟨b, hb, eb⟩⟩ := O i (by omega)
    refine br_f (nI_ge (by omega) (by omega)) (ay_apply az_MB I (by omega) hx ha hb ex ea eb ?_ ?_)
    · intro E P hM
      have q := hM.2 i (by omega)
      rw [ex, ea, eb, az_c12 ha, az_c12 hb] at q
      exact q
    · intro ch' cl' to' I' S
      refine nm_r (nI_1 i) (ih (i + 1) (by omega) ch' cl' to' I' (ay_Rd_step D ?_))
      rw [ex, ea, eb, az_c12 ha, az_c12 hb]
      exact S
theorem ay_rounds (hn : n ≤ 24) (O : az_ok n k l r) (H : ∀ ch' cl' to', az_fin n k l r cl' (ay_T cl' to') → post (nI n, ch', k, l, r, cl', to')) : ∀ d i, i + d = 30 → ∀ ch cl to, az_I (az_M n k l r) cl (ay_T cl to) → ((ch = 0 ∧ az_cd n k l r cl (ay_T cl to)) ∨ (ch = 1 ∧ az_mu cl (ay_T cl to) + i ≤ 24)) → wY_work_35 post (d + 1) (nI i) (nI n) ch k l r cl to := by
  intro d
  induction d with
  | zero =>
    intro i hi ch cl to I D
    have e : i = 30 := by omega
    subst e
    refine br_t (by decide +kernel) (H ch cl to ⟨I, ?_⟩)
    rcases D with D | D
    · exact D.2
    · have := D.2
      omega
  | succ d ih =>
    intro i hi ch cl to I D
    refine br_f (nI_ge (b := 30) (by omega) (by decide)) ?_
    rcases D with ⟨D0, D⟩ | ⟨D0, D⟩
    · exact br_t D0 (H ch cl to ⟨I, D⟩)
    · refine br_f (by rw [D0]; decide) ⟨n + 1, ay_round hn O (c0 := cl) (to0 := to) ?_ n 0 (by omega) 0 cl to I (Or.inl ⟨rfl, rfl, rfl, fun j hj => absurd hj (by omega)⟩)⟩
      intro ch' cl' to' I' S
      refine ih (i + 1) (by omega) ch' cl' to' I' ?_
      rcases S with ⟨S0, rfl, rfl, S⟩ | ⟨S0, S⟩
      · exact Or.inl ⟨S0, S⟩
      · exact Or.inr ⟨S0, by omega⟩
theorem ay_work (hn : n ≤ 24) (O : az_ok n k l r) {ch : Int32} {cl to : Nat → Int32} (H : ∀ ch' cl' to', az_fin n k l r cl' (ay_T cl' to') → post (nI n, ch', k, l, r, cl', to')) : wpY_work post (nI n, ch, k, l, r, cl, to) := by
  refine loop_0 (fun m i s => wY_work_2 post (nI n) ch m (nI i) k l r s.1 s.2) (fun i s => ∀ v, v < i → s.1 v = nI v ∧ s.2 v = -1) 12 (cl, to) (fun v hv => absurd hv (by omega)) ?_ ?_
  · intro m s hI
    have hc : ∀ v, v < 12 → s.1 v = nI v := fun v hv => (hI v hv).1
    have ht : ∀ v, v < 12 → ay_T s.1 s.2 v = -1 := by
      intro v hv
      rw [ay_Tr hv (hc v hv)]
      exact (hI v hv).2
    have mi := az_mu_init hc ht
    have K : wY_work_35 post (30 + 1) (nI 0) (nI n) 1 k l r s.1 s.2 := ay_rounds hn O H 30 0 (by omega) 1 s.1 s.2 (az_init az_MB hc ht) (Or.inr ⟨rfl, by omega⟩)
    rw [nI_0] at K
    exact br_t az_12 (Exists.intro (30 + 1) K)
  · intro m i s hi hI hk
    refine br_f (az_ge hi) ⟨az_in hi, nm_r (e' := upd s.1 i (nI i)) (by rw [az_c12 hi]) ⟨az_in hi, nm_r (e' := upd s.2 i (-1)) (by rw [az_c12 hi]) (nm_r (nI_1 i) (hk (upd s.1 i (nI i), upd s.2 i (-1)) ?_))⟩⟩
    intro v hv
    by_cases e : v = i
    · subst e; exact ⟨az_us, az_us⟩
    · have := hI v (by omega)
      exact ⟨(az_un e).trans this.1, (az_un e).trans this.2⟩
end
end
section
/-! rows bt to b_sshr: out of kit/rows/BITS -/
def bt (x : Int32) (i : Nat) : Bool := x.toBitVec.getLsbD i
theorem b_ext {x y : Int32} (h : ∀ i, i < 32 → bt x i = bt y i) : x = y := Int32.toBitVec_inj.mp (BitVec.eq_of_getLsbD_eq (fun i hi => h i hi))
theorem b_or (x y : Int32) (i : Nat) : bt (x ||| y) i = (bt x i || bt y i) := by unfold bt; rw [Int32.toBitVec_or, BitVec.getLsbD_or]
theorem b_and (x y : Int32) (i : Nat) : bt (x &&& y) i = (bt x i && bt y i) := by unfold bt; rw [Int32.toBitVec_and, BitVec.getLsbD_and]
theorem b_0 (i : Nat) : bt 0 i = false := BitVec.getLsbD_zero
theorem s_l : ∀ n, n < 32 → ((nI n &&& 31).toBitVec.smod 32).toNat = n := by decide +kernel
theorem b_shl (n : Nat) (hn : n < 32) (x : Int32) {i : Nat} (hi : i < 32) : bt (x <<< (nI n &&& 31)) i = (decide (n ≤ i) && bt x (i - n)) := by
  unfold bt
  rw [Int32.toBitVec_shiftLeft]
  show (x.toBitVec <<< ((nI n &&& 31).toBitVec.smod 32).toNat).getLsbD i = _
  rw [s_l n hn, BitVec.getLsbD_shiftLeft]
  rcases Nat.lt_or_ge i n with h | h
  · simp [h, Nat.not_le.mpr h]
  · simp [hi, h, Nat.not_lt.mpr h]
theorem b_sshr (n : Nat) (hn : n < 32) (x : Int32) {i : Nat} (hi : i < 32) : bt (x >>> (nI n &&& 31)) i = if n + i < 32 then bt x (n + i) else bt x 31 := by
  unfold bt
  rw [Int32.toBitVec_shiftRight]
  show (x.toBitVec.sshiftRight ((nI n &&& 31).toBitVec.smod 32).toNat).getLsbD i = _
  rw [s_l n hn, BitVec.getLsbD_sshiftRight, BitVec.msb_eq_getLsbD_last]
  simp [hi]
theorem az_b1 : ∀ i, i < 32 → bt 1 i = decide (i = 0) := by decide +kernel
theorem az_and1 (y : Int32) : y &&& 1 = 0 ↔ bt y 0 = false := by
  constructor
  · intro h
    have e := b_and y 1 0
    rw [h, b_0, az_b1 0 (by omega)] at e
    simpa using e.symm
  · intro h
    apply b_ext
    intro i hi
    rw [b_and, b_0, az_b1 i hi]
    by_cases e : i = 0
    · subst e; rw [h]; rfl
    · simp [e]
theorem az_bit (s : Int32) {z : Nat} (hz : z < 12) : ((s >>> (nI z &&& 31)) &&& 1) = 0 ↔ bt s z = false := by
  rw [az_and1, b_sshr z (by omega) s (by omega), if_pos (by omega), Nat.add_zero]
theorem az_set (s : Int32) {z : Nat} (hz : z < 12) {j : Nat} (hj : j < 12) : bt (s ||| ((1 : Int32) <<< (nI z &&& 31))) j = true ↔ (bt s j = true ∨ j = z) := by
  rw [b_or, b_shl z (by omega) 1 (by omega), az_b1 (j - z) (by omega)]
  by_cases e : j = z
  · subst e; simp
  · have : (decide (z ≤ j) && decide (j - z = 0)) = false := by
      by_cases g : z ≤ j
      · have : ¬ (j - z = 0) := by omega
        simp [this]
      · simp [g]
    rw [this]
    simp [e]
theorem az_sh : ∀ i, i < 12 → (1 : Int32) <<< (nI i &&& 31) = nI (2 ^ i) := by decide +kernel
theorem az_or (a b : Nat) : nI a ||| nI b = nI (a ||| b) := by
  apply Int32.toBitVec_inj.1
  show BitVec.ofNat 32 a ||| BitVec.ofNat 32 b = BitVec.ofNat 32 (a ||| b)
  apply BitVec.eq_of_getLsbD_eq
  intro i hi
  simp [hi]
theorem az_orp {m i : Nat} (h : m < 2 ^ i) : m ||| 2 ^ i = m + 2 ^ i := by
  have e := Nat.two_pow_add_eq_or_of_lt h 1
  rw [Nat.mul_one] at e
  rw [Nat.or_comm, ← e, Nat.add_comm]
/-! ===== refused or not ===== -/
def az_bad (N : Nat) (x : Int32) : Prop := ¬ ∃ j, j < N ∧ x = nI j
theorem az_badc {N : Nat} {x : Int32} (h : az_bad N x) : x < 0 ∨ (¬ x < 0 ∧ ∃ j, j < 2 ^ 31 ∧ N ≤ j ∧ x = nI j) := by
  by_cases e : x < 0
  · exact Or.inl e
  · obtain ⟨j, hj, rfl⟩ := nI_of e
    refine Or.inr ⟨e, j, hj, ?_, rfl⟩
    rcases Nat.lt_or_ge j N with g | g
    · exact absurd ⟨j, g, rfl⟩ h
    · exact g
theorem az_good {N : Nat} {x : Int32} (h : ¬ az_bad N x) : ∃ j, j < N ∧ x = nI j := Classical.not_not.mp h
section
variable {post : Int32 → Prop}
theorem ax_k1 {x : Nat} (hx : x < 4) (H : post 1) : wpX_isKind post (nI x) := br_f (nI_pos (by omega)) (br_f (nI_nlt (a := 3) (b := x) (by omega) (by decide)) H)
theorem ax_k0 {x : Int32} (h : az_bad 4 x) (H : post 0) : wpX_isKind post x := by
  rcases az_badc h with e | ⟨e, j, hj, g, rfl⟩
  · exact br_t e H
  · exact br_f e (br_t (nI_lt (a := 3) (b := j) (by omega) hj) H)
theorem ax_v1 {x : Nat} (hx : x < 12) (H : post 1) : wpX_isVariable post (nI x) := br_f (ay_nn hx) (br_f (az_ge hx) H)
theorem ax_v0 {x : Int32} (h : az_bad 12 x) (H : post 0) : wpX_isVariable post x := by
  rcases az_badc h with e | ⟨e, j, hj, g, rfl⟩
  · exact br_t e H
  · exact br_f e (br_t (nI_le (a := 12) (b := j) (by omega) hj) H)
theorem ax_vv1 {x y : Nat} (hx : x < 12) (hy : y < 12) (H : post 1) : wpX_areVariables post (nI x) (nI y) := by
  unfold wpX_areVariables
  exact ax_v1 hx (br_f (by decide) (ax_v1 hy (br_f (by decide) H)))
theorem ax_vv0 {x y : Int32} (h : az_bad 12 x ∨ az_bad 12 y) (H : post 0) : wpX_areVariables post x y := by
  unfold wpX_areVariables
  by_cases e : az_bad 12 x
  · exact ax_v0 e (br_t rfl H)
  · obtain ⟨j, hj, rfl⟩ := az_good e
    exact ax_v1 hj (br_f (by decide) (ax_v0 (h.resolve_left e) (br_t rfl H)))
theorem ay_b1 {x : Nat} (hx : x < 12) (H : post 0) : wpY_bad post (nI x) := br_f (ay_nn hx) (br_t (nI_le (a := x) (b := 11) (by omega) (by decide)) H)
theorem ay_b0 {x : Int32} (h : az_bad 12 x) (H : post 1) : wpY_bad post x := by
  rcases az_badc h with e | ⟨e, j, hj, g, rfl⟩
  · exact br_t e H
  · exact br_f e (br_f (nI_ge (a := 11) (b := j) (by omega) hj) H)
end
/-! ===== the two finished states side by side ===== -/
theorem az_none {c t c' t' : Nat → Int32} (U : az_same c t c' t') (F' : az_F c' t') {a : Nat} (ha : a < 12) (F : az_F c t) (h : t a = -1) : t' a = -1 := by
  rcases F'.2.1 a ha with e | ⟨w, hw, e1, e2⟩
  · exact e
  · have := (U.2 a w ha hw).mpr (e1.trans e2.symm)
    exact absurd (this.symm.trans h) (az_cne F hw)
theorem az_some {c t c' t' : Nat → Int32} (U : az_same c t c' t') {a w : Nat} (ha : a < 12) (hw : w < 12) (h : t a = nI w) (e : c w = nI w) : t' a = c' w := (U.2 a w ha hw).mp (h.trans e.symm)
theorem az_rep {c t c' t' : Nat → Int32} (U : az_same c t c' t') (F : az_F c t) (L : az_L c) {i : Nat} (hi : i < 12) : c i = nI i ↔ ¬ ∃ u, u < i ∧ c' u = c' i := by
  constructor
  · intro h ⟨u, hu, e⟩
    have e2 := (U.1 u i (by omega) hi).mpr e
    obtain ⟨m, hm, e3⟩ := L u (by omega)
    have := az_inj (by omega) hi (e3.symm.trans (e2.trans h))
    omega
  · intro h
    obtain ⟨m, hm, e⟩ := L i hi
    obtain ⟨w, hw, w1, w2⟩ := F.1 i hi
    have : m = w := az_inj (by omega) hw (e.symm.trans w1)
    subst this
    by_cases g : m = i
    · rw [e, g]
    · exact absurd ⟨m, by omega, (U.1 m i hw hi).mp (w2.trans w1.symm)⟩ h
section
variable {h : Int32} {k l r c t : Nat → Int32}
theorem aq_members {a : Nat} (ha : a < 12) : ∀ d i m, i + d = 12 → m < 2 ^ i → ∃ R : Int32, (∀ post : Int32 → Prop, post R → wX_members_13 post (nI a) h k l r c t (d + 1) (nI m) (nI i)) ∧ (∀ (ch : Int32) (cl to : Nat → Int32), az_same c t cl (ay_T cl to) → ∀ post : Int32 → Prop, post R → wY_membersOf_4 post (cl a) h ch k l r cl to (d + 1) (nI m) (nI i)) := by
  intro d
  induction d with
  | zero =>
    intro i m hi hm
    have e : i = 12 := by omega
    subst e
    exact ⟨nI m, fun _ H => br_t az_12 H, fun _ _ _ _ _ H => br_t az_12 H⟩
  | succ d ih =>
    intro i m hi hm
    have hi2 : i < 12 := by omega
    have p2 : 2 ^ (i + 1) = 2 ^ i * 2 := Nat.pow_succ 2 i
    by_cases e : c i = c a
    · obtain ⟨R, hX, hY⟩ := ih (i + 1) (m + 2 ^ i) (by omega) (by omega)
      refine ⟨R, fun post H => br_f (az_ge hi2) ⟨az_in hi2, az_in ha, br_t (by rw [az_c12 hi2, az_c12 ha]; exact e) (nm_r (e' := nI (m + 2 ^ i)) (by rw [az_sh i hi2, nI_add]) (nm_r (nI_1 i) (hX post H)))⟩, fun ch cl to U post H => ?_⟩
      have e2 := (U.1 i a hi2 ha).mp e
      exact br_f (az_ge hi2) ⟨az_in hi2, br_t (by rw [az_c12 hi2]; exact e2) (nm_r (e' := nI (m + 2 ^ i)) (by rw [az_sh i hi2, az_or, az_orp hm]) (nm_r (nI_1 i) (hY ch cl to U post H)))⟩
    · obtain ⟨R, hX, hY⟩ := ih (i + 1) m (by omega) (by omega)
      refine ⟨R, fun post H => br_f (az_ge hi2) ⟨az_in hi2, az_in ha, br_f (by rw [az_c12 hi2, az_c12 ha]; exact e) (nm_r (nI_1 i) (hX post H))⟩, fun ch cl to U post H => ?_⟩
      have e2 : ¬ cl i = cl a := fun z => e ((U.1 i a hi2 ha).mpr z)
      exact br_f (az_ge hi2) ⟨az_in hi2, br_f (by rw [az_c12 hi2]; exact e2) (nm_r (nI_1 i) (hY ch cl to U post H))⟩
theorem aq_steps (F : az_F c t) : ∀ d i p, i + d = 12 → p < 12 → ∃ R : Int32, (∀ post : Int32 → Prop, post R → wX_steps_13 post h k l r c t (d + 1) (nI i) (nI p)) ∧ (∀ (ch : Int32) (cl to : Nat → Int32), az_same c t cl (ay_T cl to) → az_F cl (ay_T cl to) → ∀ z, z < 12 → cl p = nI z → ∀ post : Int32 → SY → Prop, post R (h, ch, k, l, r, cl, to) → wY_steps_22 post h ch k l r cl to (d + 1) (nI z) (nI i)) := by
  intro d
  induction d with
  | zero =>
    intro i p hi _
    have e : i = 12 := by omega
    subst e
    exact ⟨nI 12, fun _ H => br_t az_12 H, fun _ _ _ _ _ _ _ _ _ H => br_t az_12 H⟩
  | succ d ih =>
    intro i p hi hp
    have hi2 : i < 12 := by omega
    have T : ∀ (cl to : Nat → Int32) z, z < 12 → cl p = nI z → ay_T cl to p = to z := by
      intro cl to z hz ez
      show to (cl p).toNatClampNeg = to z
      rw [ez, az_c12 hz]
    rcases F.2.1 p hp with e | ⟨w, hw, e, cw⟩
    · refine ⟨nI i, fun post H => br_f (az_ge hi2) ⟨az_in hp, br_t (by rw [az_c12 hp]; exact e) H⟩, fun ch cl to U F' z hz ez post H => ?_⟩
      have e2 : to z = -1 := (T cl to z hz ez).symm.trans (az_none U F' hp F e)
      exact br_f (az_ge hi2) ⟨az_in hz, br_t (by rw [az_c12 hz, e2]; exact ay_neg) H⟩
    · obtain ⟨R, hX, hY⟩ := ih (i + 1) w (by omega) hw
      refine ⟨R, fun post H => br_f (az_ge hi2) ⟨az_in hp, br_f (by rw [az_c12 hp, e]; exact az_m1 w hw) ⟨az_in hp, nm_r (e' := nI w) (by rw [az_c12 hp, e]) (nm_r (nI_1 i) (hX post H))⟩⟩, fun ch cl to U F' z hz ez post H => ?_⟩
      obtain ⟨y, hy, y1, y2⟩ := F'.1 w hw
      have e2 : to z = nI y := (T cl to z hz ez).symm.trans ((az_some U hp hw e cw).trans y1)
      exact br_f (az_ge hi2) ⟨az_in hz, br_f (by rw [az_c12 hz, e2]; exact ay_nn hy) ⟨az_in hz, nm_r (e' := nI y) (by rw [az_c12 hz, e2]) (nm_r (nI_1 i) (hY ch cl to U F' y hy y1 post H))⟩⟩
/-- the bits of s are the blocks of the variables below i -/
def aq_seen (cl : Nat → Int32) (i : Nat) (s : Int32) : Prop := ∀ j, j < 12 → (bt s j = true ↔ ∃ u, u < i ∧ cl u = nI j)
theorem aq_seen0 {cl : Nat → Int32} : aq_seen cl 0 0 := by
  intro j _
  rw [b_0]
  exact ⟨fun z => absurd z (by decide), fun ⟨u, hu, _⟩ => absurd hu (by omega)⟩
theorem aq_seen1 {cl : Nat → Int32} {i z : Nat} {s : Int32} (hz : z < 12) (ez : cl i = nI z) (S : aq_seen cl i s) : aq_seen cl (i + 1) (s ||| ((1 : Int32) <<< (nI z &&& 31))) := by
  intro j hj
  rw [az_set s hz hj, S j hj]
  constructor
  · intro g
    rcases g with ⟨u, hu, e⟩ | g
    · exact ⟨u, by omega, e⟩
    · subst g; exact ⟨i, by omega, ez⟩
  · intro ⟨u, hu, e⟩
    by_cases g : u = i
    · subst g
      exact Or.inr (az_inj hj hz (e.symm.trans ez))
    · exact Or.inl ⟨u, by omega, e⟩
theorem aq_first {cl to : Nat → Int32} (U : az_same c t cl (ay_T cl to)) (F : az_F c t) (L : az_L c) {i z : Nat} {s : Int32} (hi : i < 12) (hz : z < 12) (ez : cl i = nI z) (S : aq_seen cl i s) : ((s >>> (nI z &&& 31)) &&& 1) = 0 ↔ c i = nI i := by
  rw [az_bit s hz, az_rep U F L hi, ez, ← S z hz]
  simp
theorem aq_classes (F : az_F c t) (L : az_L c) : ∀ d i (m : Int32), i + d = 12 → ∃ R : Int32, (∀ post : Int32 → Prop, post R → wX_classes_4 post h k l r c t (d + 1) m (nI i)) ∧ (∀ (ch : Int32) (cl to : Nat → Int32), az_same c t cl (ay_T cl to) → az_F cl (ay_T cl to) → ∀ s, aq_seen cl i s → ∀ post : Int32 → SY → Prop, post R (h, ch, k, l, r, cl, to) → wY_count_11 post 0 h ch k l r cl to (d + 1) s m (nI i)) := by
  intro d
  induction d with
  | zero =>
    intro i m hi
    have e : i = 12 := by omega
    subst e
    exact ⟨m, fun _ H => br_t az_12 H, fun _ _ _ _ _ _ _ _ H => br_t az_12 H⟩
  | succ d ih =>
    intro i m hi
    have hi2 : i < 12 := by omega
    by_cases e : c i = nI i
    · obtain ⟨R, hX, hY⟩ := ih (i + 1) (m + 1) (by omega)
      refine ⟨R, fun post H => br_f (az_ge hi2) ⟨az_in hi2, br_t (by rw [az_c12 hi2]; exact e) (nm_e (nm_r (nI_1 i) (hX post H)))⟩, fun ch cl to U F' s S post H => ?_⟩
      obtain ⟨z, hz, ez, _⟩ := F'.1 i hi2
      have Q := aq_first U F L hi2 hz ez S
      exact br_f (az_ge hi2) ⟨az_in hi2, nm_r (e' := nI z) (by rw [az_c12 hi2, ez]) (br_t (Q.mpr e) (br_t rfl (nm_e (nm_e (nm_r (nI_1 i) (hY ch cl to U F' _ (aq_seen1 hz ez S) post H))))))⟩
    · obtain ⟨R, hX, hY⟩ := ih (i + 1) m (by omega)
      refine ⟨R, fun post H => br_f (az_ge hi2) ⟨az_in hi2, br_f (by rw [az_c12 hi2]; exact e) (nm_r (nI_1 i) (hX post H))⟩, fun ch cl to U F' s S post H => ?_⟩
      obtain ⟨z, hz, ez, _⟩ := F'.1 i hi2
      have Q := aq_first U F L hi2 hz ez S
      exact br_f (az_ge hi2) ⟨az_in hi2, nm_r (e' := nI z) (by rw [az_c12 hi2, ez]) (br_f (fun g => e (Q.mp g)) (nm_e (nm_r (nI_1 i) (hY ch cl to U F' _ (aq_seen1 hz ez S) post H))))⟩
theorem aq_pointing (F : az_F c t) (L : az_L c) : ∀ d i (m : Int32), i + d = 12 → ∃ R : Int32, (∀ post : Int32 → Prop, post R → wX_pointing_4 post h k l r c t (d + 1) m (nI i)) ∧ (∀ (ch : Int32) (cl to : Nat → Int32), az_same c t cl (ay_T cl to) → az_F cl (ay_T cl to) → ∀ s, aq_seen cl i s → ∀ post : Int32 → SY → Prop, post R (h, ch, k, l, r, cl, to) → wY_count_11 post 1 h ch k l r cl to (d + 1) s m (nI i)) := by
  intro d
  induction d with
  | zero =>
    intro i m hi
    have e : i = 12 := by omega
    subst e
    exact ⟨m, fun _ H => br_t az_12 H, fun _ _ _ _ _ _ _ _ H => br_t az_12 H⟩
  | succ d ih =>
    intro i m hi
    have hi2 : i < 12 := by omega
    have T : ∀ (cl to : Nat → Int32) z, z < 12 → cl i = nI z → ay_T cl to i = to z := by
      intro cl to z hz ez
      show to (cl i).toNatClampNeg = to z
      rw [ez, az_c12 hz]
    by_cases e : c i = nI i
    · rcases F.2.1 i hi2 with p | ⟨w, hw, p, cw⟩
      · obtain ⟨R, hX, hY⟩ := ih (i + 1) m (by omega)
        refine ⟨R, fun post H => br_f (az_ge hi2) ⟨az_in hi2, br_t (by rw [az_c12 hi2]; exact e) ⟨az_in hi2, br_t (by rw [az_c12 hi2]; exact p) (nm_r (nI_1 i) (hX post H))⟩⟩, fun ch cl to U F' s S post H => ?_⟩
        obtain ⟨z, hz, ez, _⟩ := F'.1 i hi2
        have Q := aq_first U F L hi2 hz ez S
        have p2 : to z = -1 := (T cl to z hz ez).symm.trans (az_none U F' hi2 F p)
        exact br_f (az_ge hi2) ⟨az_in hi2, nm_r (e' := nI z) (by rw [az_c12 hi2, ez]) (br_t (Q.mpr e) (br_f (by decide) ⟨az_in hz, br_t (by rw [az_c12 hz, p2]; exact ay_neg) (nm_e (nm_r (nI_1 i) (hY ch cl to U F' _ (aq_seen1 hz ez S) post H)))⟩))⟩
      · obtain ⟨R, hX, hY⟩ := ih (i + 1) (m + 1) (by omega)
        refine ⟨R, fun post H => br_f (az_ge hi2) ⟨az_in hi2, br_t (by rw [az_c12 hi2]; exact e) ⟨az_in hi2, br_f (by rw [az_c12 hi2, p]; exact az_m1 w hw) (nm_e (nm_r (nI_1 i) (hX post H)))⟩⟩, fun ch cl to U F' s S post H => ?_⟩
        obtain ⟨z, hz, ez, _⟩ := F'.1 i hi2
        have Q := aq_first U F L hi2 hz ez S
        obtain ⟨y, hy, y1, y2⟩ := F'.1 w hw
        have p2 : to z = nI y := (T cl to z hz ez).symm.trans ((az_some U hi2 hw p cw).trans y1)
        exact br_f (az_ge hi2) ⟨az_in hi2, nm_r (e' := nI z) (by rw [az_c12 hi2, ez]) (br_t (Q.mpr e) (br_f (by decide) ⟨az_in hz, br_f (by rw [az_c12 hz, p2]; exact ay_nn hy) (nm_e (nm_e (nm_r (nI_1 i) (hY ch cl to U F' _ (aq_seen1 hz ez S) post H))))⟩))⟩
    · obtain ⟨R, hX, hY⟩ := ih (i + 1) m (by omega)
      refine ⟨R, fun post H => br_f (az_ge hi2) ⟨az_in hi2, br_f (by rw [az_c12 hi2]; exact e) (nm_r (nI_1 i) (hX post H))⟩, fun ch cl to U F' s S post H => ?_⟩
      obtain ⟨z, hz, ez, _⟩ := F'.1 i hi2
      have Q := aq_first U F L hi2 hz ez S
      exact br_f (az_ge hi2) ⟨az_in hi2, nm_r (e' := nI z) (by rw [az_c12 hi2, ez]) (br_f (fun g => e (Q.mp g)) (nm_e (nm_r (nI_1 i) (hY ch cl to U F' _ (aq_seen1 hz ez S) post H))))⟩
end
section
variable {h : Int32} {k l r c t : Nat → Int32} {ch : Int32} {cl to : Nat → Int32}
theorem aq_target0 {post : Int32 → SY → Prop} (H : post (-1) (h, ch, k, l, r, cl, to)) : ∀ d i, i + d = 12 → wY_target_27 post (-1) h ch k l r cl to (d + 1) (nI i) := by
  intro d
  induction d with
  | zero =>
    intro i hi
    have e : i = 12 := by omega
    subst e
    exact br_t az_12 H
  | succ d ih =>
    intro i hi
    exact br_f (az_ge (by omega)) (br_t ay_neg (nm_r (nI_1 i) (ih (i + 1) (by omega))))
theorem aq_target1 {post : Int32 → SY → Prop} (U : az_same c t cl (ay_T cl to)) (L : az_L c) {w z : Nat} (hw : w < 12) (hz : z < 12) (cw : c w = nI w) (ez : cl w = nI z) (H : post (nI w) (h, ch, k, l, r, cl, to)) : ∀ d i, i + d = 12 → i ≤ w → wY_target_27 post (nI z) h ch k l r cl to (d + 1) (nI i) := by
  intro d
  induction d with
  | zero => intro i hi hiw; exact absurd hiw (by omega)
  | succ d ih =>
    intro i hi hiw
    refine br_f (az_ge (by omega)) (br_f (ay_nn hz) ⟨az_in (by omega), ?_⟩)
    rw [az_c12 (by omega)]
    by_cases e : i = w
    · subst e
      exact br_t ez H
    · refine br_f ?_ (nm_r (nI_1 i) (ih (i + 1) (by omega) (by omega)))
      intro g
      have g2 := (U.1 i w (by omega) hw).mpr (g.trans ez.symm)
      obtain ⟨m, hm, e3⟩ := L i (by omega)
      have := az_inj (by omega) hw (e3.symm.trans (g2.trans cw))
      omega
end
end
section
/-- both hold the same assignments; the component's arrays are the finished division with the least names -/
def i_Rel (k : Nat) (u : SX) (v : SY) : Prop := ∃ (n : Nat) (ks l r c t : Nat → Int32) (ch : Int32) (cl to : Nat → Int32), u = (nI n, ks, l, r, c, t) ∧ v = (nI n, ch, ks, l, r, cl, to) ∧ n ≤ 24 ∧ az_ok n ks l r ∧ az_fin n ks l r c t ∧ az_L c
theorem i_up {k : Nat} {u : SX} {v : SY} (h : i_Rel k u v) : i_Rel (k + 4) u v := h
theorem i_vc0 : wpX_init (fun u => wpY_init (fun v => i_Rel 0 u v)) := by
  unfold wpX_init
  refine ax_sep ?_
  intro c t hc ht
  have O : az_ok 0 (fun _ => 0) (fun _ => 0) (fun _ => 0) := fun i hi => absurd hi (by omega)
  exact ⟨0, fun _ => 0, fun _ => 0, fun _ => 0, c, t, 0, fun _ => 0, fun _ => 0, rfl, rfl, by omega, O, ⟨az_init az_MB hc ht, fun i hi => absurd hi (by omega)⟩, fun w hw => ⟨w, Nat.le_refl w, hc w hw⟩⟩
section
variable {n : Nat} {ks l r c t : Nat → Int32} {ch : Int32} {cl to : Nat → Int32}
theorem ar_X0 {post : Int32 → SX → Prop} {x a b : Int32} (h : az_bad 4 x ∨ az_bad 12 a ∨ az_bad 12 b ∨ n = 24) (H : post (-1) (nI n, ks, l, r, c, t)) : wpX_assign post (nI n, ks, l, r, c, t) x a b := by
  unfold wpX_assign
  dsimp only
  by_cases ex : az_bad 4 x
  · exact ax_k0 ex (br_t rfl H)
  · obtain ⟨x', hx, rfl⟩ := az_good ex
    refine ax_k1 hx (br_f (by decide) ?_)
    by_cases ev : az_bad 12 a ∨ az_bad 12 b
    · exact ax_vv0 ev (br_t rfl H)
    · obtain ⟨a', ha, rfl⟩ := az_good (fun z => ev (Or.inl z))
      obtain ⟨b', hb, rfl⟩ := az_good (fun z => ev (Or.inr z))
      have e : n = 24 := by
        rcases h with h | h | h | h
        · exact absurd h ex
        · exact absurd (Or.inl h) ev
        · exact absurd (Or.inr h) ev
        · exact h
      subst e
      exact ax_vv1 ha hb (br_f (by decide) (br_f (by decide +kernel) H))
theorem ar_Y0 {post : Int32 → SY → Prop} {x a b : Int32} (h : az_bad 4 x ∨ az_bad 12 a ∨ az_bad 12 b ∨ n = 24) (H : post (-1) (nI n, ch, ks, l, r, cl, to)) : wpY_assign post (nI n, ch, ks, l, r, cl, to) x a b := by
  unfold wpY_assign
  dsimp only
  by_cases ea : az_bad 12 a
  · exact ay_b0 ea (br_f (by decide) H)
  · obtain ⟨a', ha, rfl⟩ := az_good ea
    refine ay_b1 ha (br_t rfl ?_)
    by_cases eb : az_bad 12 b
    · exact ay_b0 eb (br_f (by decide) H)
    · obtain ⟨b', hb, rfl⟩ := az_good eb
      refine ay_b1 hb (br_t rfl ?_)
      by_cases ex : az_bad 4 x
      · rcases az_badc ex with e | ⟨e, j, hj, g, rfl⟩
        · exact br_t e H
        · exact br_f e (br_t (nI_lt (a := 3) (b := j) (by omega) hj) H)
      · obtain ⟨x', hx, rfl⟩ := az_good ex
        have e : n = 24 := by
          rcases h with h | h | h | h
          · exact absurd h ex
          · exact absurd h ea
          · exact absurd h eb
          · exact h
        subst e
        exact br_f (nI_pos (by omega)) (br_f (nI_nlt (a := 3) (b := x') (by omega) (by decide)) (br_t (by decide +kernel) H))
theorem ar_ok {x a b : Nat} (O : az_ok n ks l r) (hx : x < 4) (ha : a < 12) (hb : b < 12) : az_ok (n + 1) (upd ks n (nI x)) (upd l n (nI a)) (upd r n (nI b)) := by
  intro i hi
  by_cases e : i = n
  · subst e
    exact ⟨⟨x, hx, az_us⟩, ⟨a, ha, az_us⟩, ⟨b, hb, az_us⟩⟩
  · rw [az_un e, az_un e, az_un e]
    exact O i (by omega)
theorem ar_X1 {post : Int32 → SX → Prop} {x a b : Nat} (hn : n < 24) (O : az_ok n ks l r) (hx : x < 4) (ha : a < 12) (hb : b < 12) (H : ∀ c' t', az_fin (n + 1) (upd ks n (nI x)) (upd l n (nI a)) (upd r n (nI b)) c' t' → az_L c' → post (nI (n + 1)) (nI (n + 1), upd ks n (nI x), upd l n (nI a), upd r n (nI b), c', t')) : wpX_assign post (nI n, ks, l, r, c, t) (nI x) (nI a) (nI b) := by
  unfold wpX_assign
  dsimp only
  refine ax_k1 hx (br_f (by decide) (ax_vv1 ha hb (br_f (by decide) (br_t (nI_lt (b := 24) hn (by decide)) ⟨az_in24 hn, nm_r (e' := upd ks n (nI x)) (by rw [az_cl hn]) ⟨az_in24 hn, nm_r (e' := upd l n (nI a)) (by rw [az_cl hn]) ⟨az_in24 hn, nm_r (e' := upd r n (nI b)) (by rw [az_cl hn]) (nm_r (nI_1 n) ?_)⟩⟩⟩))))
  exact ax_divide (by omega) (ar_ok O hx ha hb) (fun c' t' h1 h2 => H c' t' h1 h2)
theorem ar_Y1 {post : Int32 → SY → Prop} {x a b : Nat} (hn : n < 24) (hx : x < 4) (ha : a < 12) (hb : b < 12) (H : post (nI (n + 1)) (nI (n + 1), ch, upd ks n (nI x), upd l n (nI a), upd r n (nI b), cl, to)) : wpY_assign post (nI n, ch, ks, l, r, cl, to) (nI x) (nI a) (nI b) := by
  unfold wpY_assign
  dsimp only
  have hn2 : ¬ nI n = 24 := fun z => by
    have : n = 24 := (nI_eq (by omega) (by omega)).mp (show nI n = nI 24 from z)
    omega
  exact ay_b1 ha (br_t rfl (ay_b1 hb (br_t rfl (br_f (nI_pos (by omega)) (br_f (nI_nlt (a := 3) (b := x) (by omega) (by decide)) (br_f hn2 ⟨az_in24 hn, nm_r (e' := upd ks n (nI x)) (by rw [az_cl hn]) ⟨az_in24 hn, nm_r (e' := upd l n (nI a)) (by rw [az_cl hn]) ⟨az_in24 hn, nm_r (e' := upd r n (nI b)) (by rw [az_cl hn]) (nm_r (nI_1 n) H)⟩⟩⟩))))))
theorem ar_dl (hn : n < 24) : ∀ d i, i + d = n → ∀ ks l r : Nat → Int32, az_ok (n + 1) ks l r → ∃ ks' l' r' : Nat → Int32, az_ok n ks' l' r' ∧ (∀ (post : Int32 → SX → Prop) (c t : Nat → Int32), (∀ c' t', az_fin n ks' l' r' c' t' → az_L c' → post (nI n) (nI n, ks', l', r', c', t')) → wX_drop_26 post (nI n) (d + 1) (nI i) ks l r c t) ∧ (∀ (post : Int32 → SY → Prop) (ch : Int32) (cl to : Nat → Int32), post (nI n) (nI n, ch, ks', l', r', cl, to) → wY_drop_26 post (nI n) ch (d + 1) (nI i) ks l r cl to) := by
  intro d
  induction d with
  | zero =>
    intro i hi ks l r O
    have e : i = n := by omega
    subst e
    have O' : az_ok i ks l r := fun j hj => O j (by omega)
    refine ⟨ks, l, r, O', ?_, ?_⟩
    · intro post c t H
      exact br_t (nI_le (Nat.le_refl i) (by omega)) (ax_divide (by omega) O' (fun c' t' h1 h2 => H c' t' h1 h2))
    · intro post ch cl to H
      exact br_t (nI_le (Nat.le_refl i) (by omega)) H
  | succ d ih =>
    intro i hi ks l r O
    have i1 : (nI i + 1).toNatClampNeg = i + 1 := by rw [nI_1, az_cl (by omega)]
    have i0 : (nI i).toNatClampNeg = i := az_cl (by omega)
    have v1 : vp_in (nI i + 1) 24 := by rw [nI_1]; exact az_in24 (by omega)
    have v0 : vp_in (nI i) 24 := az_in24 (by omega)
    have O' : az_ok (n + 1) (upd ks i (ks (i + 1))) (upd l i (l (i + 1))) (upd r i (r (i + 1))) := by
      intro j hj
      by_cases e : j = i
      · subst e
        rw [az_us, az_us, az_us]
        exact O (j + 1) (by omega)
      · rw [az_un e, az_un e, az_un e]
        exact O j hj
    obtain ⟨ks', l', r', Q, hX, hY⟩ := ih (i + 1) (by omega) _ _ _ O'
    have g : ¬ nI n ≤ nI i := nI_ge (by omega) (by omega)
    refine ⟨ks', l', r', Q, ?_, ?_⟩
    · intro post c t H
      exact br_f g ⟨v1, v0, nm_r (e' := upd ks i (ks (i + 1))) (by rw [i1, i0]) ⟨v1, v0, nm_r (e' := upd l i (l (i + 1))) (by rw [i1, i0]) ⟨v1, v0, nm_r (e' := upd r i (r (i + 1))) (by rw [i1, i0]) (nm_r (nI_1 i) (hX post c t H))⟩⟩⟩
    · intro post ch cl to H
      exact br_f g ⟨v1, v0, nm_r (e' := upd ks i (ks (i + 1))) (by rw [i1, i0]) ⟨v1, v0, nm_r (e' := upd l i (l (i + 1))) (by rw [i1, i0]) ⟨v1, v0, nm_r (e' := upd r i (r (i + 1))) (by rw [i1, i0]) (nm_r (nI_1 i) (hY post ch cl to H))⟩⟩⟩
end
theorem i_vc_assign {k : Nat} {u : SX} {v : SY} (I : i_Rel k u v) (hk : k + 4 ≤ 2048) (v1 : Int32) (v2 : Int32) (v3 : Int32) : wpX_assign (fun r u' => wpY_assign (fun r' v' => r' = r ∧ i_Rel (k + 4) u' v') v v1 v2 v3) u v1 v2 v3 := by
  obtain ⟨n, ks, l, r, c, t, ch, cl, to, rfl, rfl, hn, O, X, L⟩ := I
  by_cases b : az_bad 4 v1 ∨ az_bad 12 v2 ∨ az_bad 12 v3 ∨ n = 24
  · exact ar_X0 b (ar_Y0 b ⟨rfl, n, ks, l, r, c, t, ch, cl, to, rfl, rfl, hn, O, X, L⟩)
  · obtain ⟨x, hx, rfl⟩ := az_good (fun z => b (Or.inl z))
    obtain ⟨a, ha, rfl⟩ := az_good (fun z => b (Or.inr (Or.inl z)))
    obtain ⟨d, hd, rfl⟩ := az_good (fun z => b (Or.inr (Or.inr (Or.inl z))))
    have hn2 : n < 24 := by
      have : n ≠ 24 := fun z => b (Or.inr (Or.inr (Or.inr z)))
      omega
    refine ar_X1 hn2 O hx ha hd ?_
    intro c' t' X' L'
    exact ar_Y1 hn2 hx ha hd ⟨rfl, n + 1, _, _, _, c', t', ch, cl, to, rfl, rfl, hn2, ar_ok O hx ha hd, X', L'⟩
theorem i_vc_drop {k : Nat} {u : SX} {v : SY} (I : i_Rel k u v) (hk : k + 4 ≤ 2048) (v1 : Int32) : wpX_drop (fun r u' => wpY_drop (fun r' v' => r' = r ∧ i_Rel (k + 4) u' v') v v1) u v1 := by
  obtain ⟨n, ks, l, r, c, t, ch, cl, to, rfl, rfl, hn, O, X, L⟩ := I
  have R : i_Rel (k + 4) (nI n, ks, l, r, c, t) (nI n, ch, ks, l, r, cl, to) := ⟨n, ks, l, r, c, t, ch, cl, to, rfl, rfl, hn, O, X, L⟩
  by_cases e : v1 < 0
  · exact br_t e (br_t e ⟨rfl, R⟩)
  · obtain ⟨j, hj, rfl⟩ := nI_of e
    by_cases g : j < n
    · obtain ⟨m, rfl⟩ : ∃ m, n = m + 1 := ⟨n - 1, by omega⟩
      obtain ⟨ks', l', r', Q, hX, hY⟩ := ar_dl (n := m) (by omega) (m - j) j (by omega) ks l r O
      have gi : nI j < nI (m + 1) := nI_lt g (by omega)
      refine br_f e (br_t gi (nm_r (nI_pred m) ⟨m - j + 1, hX _ c t ?_⟩))
      intro c' t' X' L'
      exact br_f e (br_t gi (nm_r (nI_pred m) ⟨m - j + 1, hY _ ch cl to ⟨rfl, m, ks', l', r', c', t', ch, cl, to, rfl, rfl, by omega, Q, X', L'⟩⟩))
    · have gi : ¬ nI j < nI n := nI_nlt (by omega) hj
      exact br_f e (br_f gi (br_f e (br_f gi ⟨rfl, R⟩)))
theorem i_vc_same {k : Nat} {u : SX} {v : SY} (I : i_Rel k u v) (hk : k + 4 ≤ 2048) (v1 : Int32) (v2 : Int32) : wpX_same (fun r => wpY_same (fun r' v' => r' = r ∧ i_Rel (k + 4) u v') v v1 v2) u v1 v2 := by
  obtain ⟨n, ks, l, r, c, t, ch, cl, to, rfl, rfl, hn, O, X, L⟩ := I
  have R : ∀ ch cl to, i_Rel (k + 4) (nI n, ks, l, r, c, t) (nI n, ch, ks, l, r, cl, to) := fun ch cl to => ⟨n, ks, l, r, c, t, ch, cl, to, rfl, rfl, hn, O, X, L⟩
  unfold wpX_same wpY_same
  dsimp only
  by_cases b1 : az_bad 12 v1
  · exact ax_vv0 (Or.inl b1) (br_t rfl (ay_b0 b1 (br_f (by decide) ⟨rfl, R _ _ _⟩)))
  · obtain ⟨a, ha, rfl⟩ := az_good b1
    by_cases b2 : az_bad 12 v2
    · exact ax_vv0 (Or.inr b2) (br_t rfl (ay_b1 ha (br_t rfl (ay_b0 b2 (br_f (by decide) ⟨rfl, R _ _ _⟩)))))
    · obtain ⟨b, hb, rfl⟩ := az_good b2
      refine ax_vv1 ha hb (br_f (by decide) ⟨az_in ha, az_in hb, ?_⟩)
      rw [az_c12 ha, az_c12 hb]
      refine br_c (fun e => ?_) (fun e => ?_)
      · refine ay_b1 ha (br_t rfl (ay_b1 hb (br_t rfl (ay_work hn O ?_))))
        intro ch' cl' to' Y
        have U := az_uniq O X Y
        exact ⟨az_in ha, az_in hb, br_t ((U.1 a b ha hb).mp e) ⟨rfl, R _ _ _⟩⟩
      · refine ay_b1 ha (br_t rfl (ay_b1 hb (br_t rfl (ay_work hn O ?_))))
        intro ch' cl' to' Y
        have U := az_uniq O X Y
        exact ⟨az_in ha, az_in hb, br_f (fun z => e ((U.1 a b ha hb).mpr z)) ⟨rfl, R _ _ _⟩⟩
theorem i_vc_members {k : Nat} {u : SX} {v : SY} (I : i_Rel k u v) (hk : k + 4 ≤ 2048) (v1 : Int32) : wpX_members (fun r => wpY_members (fun r' v' => r' = r ∧ i_Rel (k + 4) u v') v v1) u v1 := by
  obtain ⟨n, ks, l, r, c, t, ch, cl, to, rfl, rfl, hn, O, X, L⟩ := I
  have R : ∀ ch cl to, i_Rel (k + 4) (nI n, ks, l, r, c, t) (nI n, ch, ks, l, r, cl, to) := fun ch cl to => ⟨n, ks, l, r, c, t, ch, cl, to, rfl, rfl, hn, O, X, L⟩
  unfold wpX_members wpY_members
  dsimp only
  by_cases b1 : az_bad 12 v1
  · exact ax_v0 b1 (br_t rfl (ay_b0 b1 (br_f (by decide) ⟨rfl, R _ _ _⟩)))
  · obtain ⟨a, ha, rfl⟩ := az_good b1
    obtain ⟨A, hX, hY⟩ := aq_members (h := nI n) (k := ks) (l := l) (r := r) (c := c) (t := t) ha 12 0 0 (by omega) (by omega)
    rw [nI_0] at hX hY
    refine ax_v1 ha (br_f (by decide) ⟨12 + 1, hX _ (ay_b1 ha (br_t rfl (ay_work hn O ?_)))⟩)
    intro ch' cl' to' Y
    dsimp only
    refine ⟨az_in ha, ?_⟩
    rw [az_c12 ha]
    exact Exists.intro (12 + 1) (hY ch' cl' to' (az_uniq O X Y) _ ⟨rfl, R _ _ _⟩)
theorem i_vc_target {k : Nat} {u : SX} {v : SY} (I : i_Rel k u v) (hk : k + 4 ≤ 2048) (v1 : Int32) : wpX_target (fun r => wpY_target (fun r' v' => r' = r ∧ i_Rel (k + 4) u v') v v1) u v1 := by
  obtain ⟨n, ks, l, r, c, t, ch, cl, to, rfl, rfl, hn, O, X, L⟩ := I
  have R : ∀ ch cl to, i_Rel (k + 4) (nI n, ks, l, r, c, t) (nI n, ch, ks, l, r, cl, to) := fun ch cl to => ⟨n, ks, l, r, c, t, ch, cl, to, rfl, rfl, hn, O, X, L⟩
  unfold wpX_target wpY_target
  dsimp only
  by_cases b1 : az_bad 12 v1
  · exact ax_v0 b1 (br_t rfl (ay_b0 b1 (br_f (by decide) ⟨rfl, R _ _ _⟩)))
  · obtain ⟨a, ha, rfl⟩ := az_good b1
    refine ax_v1 ha (br_f (by decide) ⟨az_in ha, ay_b1 ha (br_t rfl (ay_work hn O ?_))⟩)
    intro ch' cl' to' Y
    dsimp only
    have U := az_uniq O X Y
    obtain ⟨z, hz, z1, z2⟩ := Y.1.1.1 a ha
    have T : ay_T cl' to' a = to' z := by
      show to' (cl' a).toNatClampNeg = to' z
      rw [z1, az_c12 hz]
    refine ⟨az_in ha, by rw [az_c12 ha, z1]; exact az_in hz, ?_⟩
    rw [az_c12 ha, z1, az_c12 hz]
    rcases X.1.1.2.1 a ha with e | ⟨w, hw, e, cw⟩
    · refine nm_r (T.symm.trans (az_none U Y.1.1 ha X.1.1 e)) ⟨12 + 1, aq_target0 ?_ 12 0 (by omega)⟩
      exact ⟨e.symm, R _ _ _⟩
    · obtain ⟨y, hy, y1, y2⟩ := Y.1.1.1 w hw
      refine nm_r (T.symm.trans ((az_some U ha hw e cw).trans y1)) ⟨12 + 1, aq_target1 U L hw hy cw y1 ?_ 12 0 (by omega) (by omega)⟩
      exact ⟨e.symm, R _ _ _⟩
theorem i_vc_meet {k : Nat} {u : SX} {v : SY} (I : i_Rel k u v) (hk : k + 4 ≤ 2048) (v1 : Int32) (v2 : Int32) : wpX_meet (fun r => wpY_meet (fun r' v' => r' = r ∧ i_Rel (k + 4) u v') v v1 v2) u v1 v2 := by
  obtain ⟨n, ks, l, r, c, t, ch, cl, to, rfl, rfl, hn, O, X, L⟩ := I
  have R : ∀ ch cl to, i_Rel (k + 4) (nI n, ks, l, r, c, t) (nI n, ch, ks, l, r, cl, to) := fun ch cl to => ⟨n, ks, l, r, c, t, ch, cl, to, rfl, rfl, hn, O, X, L⟩
  unfold wpX_meet wpY_meet
  dsimp only
  by_cases b1 : az_bad 12 v1
  · exact ax_vv0 (Or.inl b1) (br_t rfl (ay_b0 b1 (br_f (by decide) ⟨rfl, R _ _ _⟩)))
  · obtain ⟨a, ha, rfl⟩ := az_good b1
    by_cases b2 : az_bad 12 v2
    · exact ax_vv0 (Or.inr b2) (br_t rfl (ay_b1 ha (br_t rfl (ay_b0 b2 (br_f (by decide) ⟨rfl, R _ _ _⟩)))))
    · obtain ⟨b, hb, rfl⟩ := az_good b2
      have T : ∀ (cl to : Nat → Int32) p z, z < 12 → cl p = nI z → ay_T cl to p = to z := by
        intro cl to p z hz ez
        show to (cl p).toNatClampNeg = to z
        rw [ez, az_c12 hz]
      refine ax_vv1 ha hb (br_f (by decide) ⟨az_in ha, ?_⟩)
      rw [az_c12 ha, az_c12 hb]
      rcases X.1.1.2.1 a ha with e | ⟨w, hw, e, cw⟩
      · refine br_t e (ay_b1 ha (br_t rfl (ay_b1 hb (br_t rfl (ay_work hn O ?_)))))
        intro ch' cl' to' Y
        dsimp only
        have U := az_uniq O X Y
        obtain ⟨z, hz, z1, z2⟩ := Y.1.1.1 a ha
        refine ⟨az_in ha, by rw [z1]; exact az_in hz, ?_⟩
        rw [z1, az_c12 hz]
        exact nm_r ((T cl' to' a z hz z1).symm.trans (az_none U Y.1.1 ha X.1.1 e)) (br_t ay_neg ⟨rfl, R _ _ _⟩)
      · refine br_f (by rw [e]; exact az_m1 w hw) ⟨az_in ha, az_in hb, ?_⟩
        refine br_c (fun g => ?_) (fun g => ?_)
        · refine ay_b1 ha (br_t rfl (ay_b1 hb (br_t rfl (ay_work hn O ?_))))
          intro ch' cl' to' Y
          dsimp only
          have U := az_uniq O X Y
          obtain ⟨z, hz, z1, z2⟩ := Y.1.1.1 a ha
          obtain ⟨x, hx, x1, x2⟩ := Y.1.1.1 b hb
          obtain ⟨y, hy, y1, y2⟩ := Y.1.1.1 w hw
          have p := (az_some U ha hw e cw).trans y1
          have q := (az_some U hb hw (g.symm.trans e) cw).trans y1
          refine ⟨az_in ha, by rw [z1]; exact az_in hz, ?_⟩
          rw [z1, az_c12 hz, x1, az_c12 hx]
          exact nm_r ((T cl' to' a z hz z1).symm.trans p) (br_f (ay_nn hy) ⟨az_in hb, az_in hx, br_t (q.symm.trans (T cl' to' b x hx x1)) ⟨rfl, R _ _ _⟩⟩)
        · refine ay_b1 ha (br_t rfl (ay_b1 hb (br_t rfl (ay_work hn O ?_))))
          intro ch' cl' to' Y
          dsimp only
          have U := az_uniq O X Y
          obtain ⟨z, hz, z1, z2⟩ := Y.1.1.1 a ha
          obtain ⟨x, hx, x1, x2⟩ := Y.1.1.1 b hb
          obtain ⟨y, hy, y1, y2⟩ := Y.1.1.1 w hw
          have p := (az_some U ha hw e cw).trans y1
          refine ⟨az_in ha, by rw [z1]; exact az_in hz, ?_⟩
          rw [z1, az_c12 hz, x1, az_c12 hx]
          refine nm_r ((T cl' to' a z hz z1).symm.trans p) (br_f (ay_nn hy) ⟨az_in hb, az_in hx, br_f ?_ ⟨rfl, R _ _ _⟩⟩)
          intro f
          have q : ay_T cl' to' b = cl' w := (T cl' to' b x hx x1).trans (f.symm.trans y1.symm)
          have q2 := (U.2 b w hb hw).mpr q
          exact g (e.trans (cw.symm.trans q2.symm))
theorem i_vc_classes {k : Nat} {u : SX} {v : SY} (I : i_Rel k u v) (hk : k + 4 ≤ 2048) : wpX_classes (fun r => wpY_classes (fun r' v' => r' = r ∧ i_Rel (k + 4) u v') v) u := by
  obtain ⟨n, ks, l, r, c, t, ch, cl, to, rfl, rfl, hn, O, X, L⟩ := I
  have R : ∀ ch cl to, i_Rel (k + 4) (nI n, ks, l, r, c, t) (nI n, ch, ks, l, r, cl, to) := fun ch cl to => ⟨n, ks, l, r, c, t, ch, cl, to, rfl, rfl, hn, O, X, L⟩
  obtain ⟨A, hX, hY⟩ := aq_classes (h := nI n) (k := ks) (l := l) (r := r) X.1.1 L 12 0 0 (by omega)
  rw [nI_0] at hX hY
  unfold wpX_classes wpY_classes wpY_count
  dsimp only
  refine ⟨12 + 1, hX _ (ay_work hn O ?_)⟩
  intro ch' cl' to' Y
  dsimp only
  exact Exists.intro (12 + 1) (hY ch' cl' to' (az_uniq O X Y) Y.1.1 0 aq_seen0 _ ⟨rfl, R _ _ _⟩)
theorem i_vc_pointing {k : Nat} {u : SX} {v : SY} (I : i_Rel k u v) (hk : k + 4 ≤ 2048) : wpX_pointing (fun r => wpY_pointing (fun r' v' => r' = r ∧ i_Rel (k + 4) u v') v) u := by
  obtain ⟨n, ks, l, r, c, t, ch, cl, to, rfl, rfl, hn, O, X, L⟩ := I
  have R : ∀ ch cl to, i_Rel (k + 4) (nI n, ks, l, r, c, t) (nI n, ch, ks, l, r, cl, to) := fun ch cl to => ⟨n, ks, l, r, c, t, ch, cl, to, rfl, rfl, hn, O, X, L⟩
  obtain ⟨A, hX, hY⟩ := aq_pointing (h := nI n) (k := ks) (l := l) (r := r) X.1.1 L 12 0 0 (by omega)
  rw [nI_0] at hX hY
  unfold wpX_pointing wpY_pointing wpY_count
  dsimp only
  refine ⟨12 + 1, hX _ (ay_work hn O ?_)⟩
  intro ch' cl' to' Y
  dsimp only
  exact Exists.intro (12 + 1) (hY ch' cl' to' (az_uniq O X Y) Y.1.1 0 aq_seen0 _ ⟨rfl, R _ _ _⟩)
theorem i_vc_steps {k : Nat} {u : SX} {v : SY} (I : i_Rel k u v) (hk : k + 4 ≤ 2048) (v1 : Int32) : wpX_steps (fun r => wpY_steps (fun r' v' => r' = r ∧ i_Rel (k + 4) u v') v v1) u v1 := by
  obtain ⟨n, ks, l, r, c, t, ch, cl, to, rfl, rfl, hn, O, X, L⟩ := I
  have R : ∀ ch cl to, i_Rel (k + 4) (nI n, ks, l, r, c, t) (nI n, ch, ks, l, r, cl, to) := fun ch cl to => ⟨n, ks, l, r, c, t, ch, cl, to, rfl, rfl, hn, O, X, L⟩
  unfold wpX_steps wpY_steps
  dsimp only
  by_cases b1 : az_bad 12 v1
  · exact ax_v0 b1 (br_t rfl (ay_b0 b1 (br_f (by decide) ⟨rfl, R _ _ _⟩)))
  · obtain ⟨a, ha, rfl⟩ := az_good b1
    obtain ⟨A, hX, hY⟩ := aq_steps (h := nI n) (k := ks) (l := l) (r := r) X.1.1 12 0 a (by omega) ha
    rw [nI_0] at hX hY
    refine ax_v1 ha (br_f (by decide) ⟨12 + 1, hX _ (ay_b1 ha (br_t rfl (ay_work hn O ?_)))⟩)
    intro ch' cl' to' Y
    dsimp only
    obtain ⟨z, hz, z1, z2⟩ := Y.1.1.1 a ha
    exact ⟨az_in ha, nm_r (e' := nI z) (by rw [az_c12 ha, z1]) (Exists.intro (12 + 1) (hY ch' cl' to' (az_uniq O X Y) Y.1.1 z hz z1 _ ⟨rfl, R _ _ _⟩))⟩
end
