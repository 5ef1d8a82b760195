/-! ===== numbers ===== -/
theorem az_m1 : ∀ w, w < 12 → nI w ≠ -1 := by decide +kernel
theorem az_inj {a b : Nat} (ha : a < 12) (hb : b < 12) (h : nI a = nI b) : a = b := (nI_eq (by omega) (by omega)).mp h
theorem az_cl {a : Nat} (ha : a < 24) : (nI a).toNatClampNeg = a := nI_clamp (by omega)
theorem az_us {f : Nat → Int32} {k : Nat} {x : Int32} : upd f k x k = x := if_pos rfl
theorem az_un {f : Nat → Int32} {k j : Nat} {x : Int32} (h : j ≠ k) : upd f k x j = f j := if_neg h
/-! ===== the form of a state: c v names v's block by one of its members, t v names the block that v's block points at, or is -1 ===== -/
def az_F (c t : Nat → Int32) : Prop :=
  (∀ v, v < 12 → ∃ w, w < 12 ∧ c v = nI w ∧ c w = nI w) ∧
  (∀ v, v < 12 → t v = -1 ∨ ∃ w, w < 12 ∧ t v = nI w ∧ c w = nI w) ∧
  (∀ u v, u < 12 → v < 12 → c u = c v → t u = t v)
/-! ===== divisions E with pointing P; M says which ones keep the rules ===== -/
def az_B (E P : Nat → Nat → Prop) : Prop :=
  (∀ u, E u u) ∧ (∀ u v, E u v → E v u) ∧ (∀ u v w, E u v → E v w → E u w) ∧
  (∀ u v x y, P u v → E u x → E v y → P x y) ∧ (∀ u v w, P u v → P u w → E v w)
def az_S (M : (Nat → Nat → Prop) → (Nat → Nat → Prop) → Prop) (c t : Nat → Int32) : Prop :=
  ∀ E P, M E P → (∀ u v, u < 12 → v < 12 → c u = c v → E u v) ∧ (∀ u v, u < 12 → v < 12 → t u = c v → P u v)
def az_I (M : (Nat → Nat → Prop) → (Nat → Nat → Prop) → Prop) (c t : Nat → Int32) : Prop := az_F c t ∧ az_S M c t
/-! ===== the measure: blocks, and blocks that point at none ===== -/
def az_u (c t : Nat → Int32) (v : Nat) : Nat := if c v = nI v then (if t v = -1 then 2 else 1) else 0
def az_sm (f : Nat → Nat) : Nat → Nat
  | 0 => 0
  | n + 1 => az_sm f n + f n
def az_mu (c t : Nat → Int32) : Nat := az_sm (az_u c t) 12
theorem az_sm_le (f g : Nat → Nat) : ∀ n, (∀ v, v < n → f v ≤ g v) → az_sm f n ≤ az_sm g n := by
  intro n
  induction n with
  | zero => intro _; exact Nat.le_refl _
  | succ n ih =>
    intro h
    have h1 := ih (fun v hv => h v (by omega))
    have h2 := h n (by omega)
    show az_sm f n + f n ≤ az_sm g n + g n
    omega
theorem az_sm_lt (f g : Nat → Nat) : ∀ n, (∀ v, v < n → f v ≤ g v) → ∀ x, x < n → f x < g x → az_sm f n < az_sm g n := by
  intro n
  induction n with
  | zero => intro _ x hx; exact absurd hx (by omega)
  | succ n ih =>
    intro h x hx hl
    show az_sm f n + f n < az_sm g n + g n
    have h2 := h n (by omega)
    by_cases e : x = n
    · subst e
      have h1 := az_sm_le f g x (fun v hv => h v (by omega))
      omega
    · have h1 := ih (fun v hv => h v (by omega)) x (by omega) hl
      omega
theorem az_sm_ge (f : Nat → Nat) : ∀ n x, x < n → f x ≤ az_sm f n := by
  intro n
  induction n with
  | zero => intro x hx; exact absurd hx (by omega)
  | succ n ih =>
    intro x hx
    show f x ≤ az_sm f n + f n
    by_cases e : x = n
    · subst e; omega
    · have h1 := ih x (by omega)
      omega
theorem az_mu_pos {c t : Nat → Int32} (F : az_F c t) : 1 ≤ az_mu c t := by
  obtain ⟨w, hw, _, e⟩ := F.1 0 (by omega)
  have h := az_sm_ge (az_u c t) 12 w hw
  have h2 : 1 ≤ az_u c t w := by
    unfold az_u
    rw [if_pos e]
    split <;> omega
  exact Nat.le_trans h2 h
theorem az_mu_init {c t : Nat → Int32} (hc : ∀ v, v < 12 → c v = nI v) (ht : ∀ v, v < 12 → t v = -1) : az_mu c t ≤ 24 := by
  have h : ∀ v, v < 12 → az_u c t v ≤ 2 := by
    intro v _
    unfold az_u
    split
    · split <;> omega
    · omega
  have h2 := az_sm_le (az_u c t) (fun _ => 2) 12 h
  exact Nat.le_trans h2 (by decide)
/-! ===== two blocks made one ===== -/
def az_ren (hi lo x : Int32) : Int32 := if x = hi then lo else x
section
variable {M : (Nat → Nat → Prop) → (Nat → Nat → Prop) → Prop}
theorem az_join (hB : ∀ E P, M E P → az_B E P) {c t : Nat → Int32} (I : az_I M c t) {lo hi : Nat} (hlo : lo < 12) (hhi : hi < 12) (elo : c lo = nI lo) (ehi : c hi = nI hi) (hne : lo ≠ hi) (hE : ∀ E P, M E P → E lo hi) {jt : Int32} (hj : jt = t lo ∨ jt = t hi) (hj1 : jt = -1 → t lo = -1 ∧ t hi = -1) {c' t' : Nat → Int32} (hc : ∀ v, v < 12 → c' v = az_ren (nI hi) (nI lo) (c v)) (ht : ∀ v, v < 12 → t' v = az_ren (nI hi) (nI lo) (if c v = nI lo ∨ c v = nI hi then jt else t v)) : az_I M c' t' ∧ az_mu c' t' < az_mu c t := by
  obtain ⟨⟨F1, F2, F3⟩, S⟩ := I
  have nlo : nI lo ≠ nI hi := fun h => hne (az_inj hlo hhi h)
  have c1 : ∀ v, v < 12 → c v = nI hi → c' v = nI lo := fun v hv h => by rw [hc v hv, az_ren, if_pos h]
  have c2 : ∀ v, v < 12 → c v ≠ nI hi → c' v = c v := fun v hv h => by rw [hc v hv, az_ren, if_neg h]
  have clo : c' lo = nI lo := by rw [c2 lo hlo (by rw [elo]; exact nlo), elo]
  have F1' : ∀ v, v < 12 → ∃ w, w < 12 ∧ c' v = nI w ∧ c' w = nI w := by
    intro v hv
    obtain ⟨w, hw, e1, e2⟩ := F1 v hv
    by_cases h : c v = nI hi
    · exact ⟨lo, hlo, c1 v hv h, clo⟩
    · exact ⟨w, hw, by rw [c2 v hv h, e1], by rw [c2 w hw (by rw [e2, ← e1]; exact h), e2]⟩
  have jf : jt = -1 ∨ ∃ w, w < 12 ∧ jt = nI w ∧ c w = nI w := by
    rcases hj with h | h
    · rw [h]; exact F2 lo hlo
    · rw [h]; exact F2 hi hhi
  have t0 : ∀ v, v < 12 → ∃ s, (s = jt ∧ (c v = nI lo ∨ c v = nI hi) ∨ s = t v ∧ ¬ (c v = nI lo ∨ c v = nI hi)) ∧ (s = -1 ∧ t' v = -1 ∨ ∃ w, w < 12 ∧ s = nI w ∧ c w = nI w ∧ t' v = c' w) := by
    intro v hv
    refine ⟨if c v = nI lo ∨ c v = nI hi then jt else t v, ?_, ?_⟩
    · by_cases h : c v = nI lo ∨ c v = nI hi
      · exact Or.inl ⟨if_pos h, h⟩
      · exact Or.inr ⟨if_neg h, h⟩
    · have hs : (if c v = nI lo ∨ c v = nI hi then jt else t v) = -1 ∨ ∃ w, w < 12 ∧ (if c v = nI lo ∨ c v = nI hi then jt else t v) = nI w ∧ c w = nI w := by
        by_cases h : c v = nI lo ∨ c v = nI hi
        · rw [if_pos h]; exact jf
        · rw [if_neg h]; exact F2 v hv
      rcases hs with h | ⟨w, hw, h, e⟩
      · refine Or.inl ⟨h, ?_⟩
        rw [ht v hv, h, az_ren, if_neg (fun z => az_m1 hi hhi z.symm)]
      · refine Or.inr ⟨w, hw, h, e, ?_⟩
        rw [ht v hv, h, hc w hw, e]
  have F3' : ∀ u v, u < 12 → v < 12 → c' u = c' v → t' u = t' v := by
    intro u v hu hv h
    rw [ht u hu, ht v hv]
    have key : (if c u = nI lo ∨ c u = nI hi then jt else t u) = (if c v = nI lo ∨ c v = nI hi then jt else t v) := by
      have k1 : ∀ x, x < 12 → (c x = nI lo ∨ c x = nI hi) → c' x = nI lo := by
        intro x hx hh
        rcases hh with hh | hh
        · rw [c2 x hx (by rw [hh]; exact nlo), hh]
        · exact c1 x hx hh
      by_cases a : c u = nI lo ∨ c u = nI hi
      · by_cases b : c v = nI lo ∨ c v = nI hi
        · rw [if_pos a, if_pos b]
        · exact absurd (Or.inl (by rw [← c2 v hv (fun z => b (Or.inr z)), ← h, k1 u hu a])) b
      · by_cases b : c v = nI lo ∨ c v = nI hi
        · exact absurd (Or.inl (by rw [← c2 u hu (fun z => a (Or.inr z)), h, k1 v hv b])) a
        · rw [if_neg a, if_neg b]
          refine F3 u v hu hv ?_
          rw [← c2 u hu (fun z => a (Or.inr z)), ← c2 v hv (fun z => b (Or.inr z)), h]
    rw [key]
  refine ⟨⟨⟨F1', ?_, F3'⟩, ?_⟩, ?_⟩
  · intro v hv
    obtain ⟨s, _, h | ⟨w, hw, _, _, h⟩⟩ := t0 v hv
    · exact Or.inl h.2
    · obtain ⟨x, hx, e1, e2⟩ := F1' w hw
      exact Or.inr ⟨x, hx, h.trans e1, e2⟩
  · intro E P hM
    obtain ⟨e1, e2, e3, p1, p2⟩ := hB E P hM
    obtain ⟨SE, SP⟩ := S E P hM
    have lh := hE E P hM
    have A : ∀ u v, u < 12 → v < 12 → c' u = c' v → E u v := by
      intro u v hu hv h
      by_cases a : c u = nI hi
      · by_cases b : c v = nI hi
        · exact SE u v hu hv (a.trans b.symm)
        · rw [c1 u hu a, c2 v hv b] at h
          exact e3 _ _ _ (SE u hi hu hhi (a.trans ehi.symm)) (e3 _ _ _ (e2 _ _ lh) (SE lo v hlo hv (elo.trans h)))
      · by_cases b : c v = nI hi
        · rw [c2 u hu a, c1 v hv b] at h
          exact e3 _ _ _ (SE u lo hu hlo (h.trans elo.symm)) (e3 _ _ _ lh (SE hi v hhi hv (ehi.trans b.symm)))
        · rw [c2 u hu a, c2 v hv b] at h
          exact SE u v hu hv h
    refine ⟨A, ?_⟩
    intro u v hu hv h
    obtain ⟨s, hs, h2 | ⟨w, hw, sw, cw, h2⟩⟩ := t0 u hu
    · obtain ⟨x, hx, e, _⟩ := F1' v hv
      exact absurd (e.symm.trans (h.symm.trans h2.2)) (az_m1 x hx)
    · have pw : P u w := by
        rcases hs with ⟨hs, hu2⟩ | ⟨hs, _⟩
        · have lu : E lo u := by
            rcases hu2 with z | z
            · exact SE lo u hlo hu (elo.trans z.symm)
            · exact e3 _ _ _ lh (SE hi u hhi hu (ehi.trans z.symm))
          have hu3 : E hi u := e3 _ _ _ (e2 _ _ lh) lu
          rcases hj with z | z
          · exact p1 _ _ _ _ (SP lo w hlo hw (z.symm.trans (hs.symm.trans (sw.trans cw.symm)))) lu (e1 w)
          · exact p1 _ _ _ _ (SP hi w hhi hw (z.symm.trans (hs.symm.trans (sw.trans cw.symm)))) hu3 (e1 w)
        · exact SP u w hu hw (hs.symm.trans (sw.trans cw.symm))
      exact p1 _ _ _ _ pw (e1 u) (A w v hw hv (h2.symm.trans h))
  · refine az_sm_lt _ _ 12 ?_ hi hhi ?_
    · intro v hv
      unfold az_u
      by_cases a : c v = nI v
      · rw [if_pos a]
        by_cases b : c' v = nI v
        · rw [if_pos b]
          by_cases d : t' v = -1
          · have : t v = -1 := by
              obtain ⟨s, hs, h2 | ⟨w, hw, _, _, h2⟩⟩ := t0 v hv
              · rcases hs with ⟨hs, hv2⟩ | ⟨hs, _⟩
                · have q := hj1 (hs.symm.trans h2.1)
                  rcases hv2 with z | z
                  · rw [F3 v lo hv hlo (z.trans elo.symm)]; exact q.1
                  · rw [F3 v hi hv hhi (z.trans ehi.symm)]; exact q.2
                · exact hs.symm.trans h2.1
              · obtain ⟨x, hx, e, _⟩ := F1' w hw
                exact absurd (e.symm.trans (h2.symm.trans d)) (az_m1 x hx)
            rw [if_pos d, if_pos this]
            exact Nat.le_refl _
          · rw [if_neg d]
            split <;> omega
        · rw [if_neg b]; omega
      · rw [if_neg a]
        have b : ¬ c' v = nI v := by
          intro b
          by_cases d : c v = nI hi
          · have : lo = v := az_inj hlo hv ((c1 v hv d).symm.trans b)
            exact a (this ▸ elo)
          · exact a ((c2 v hv d).symm.trans b)
        rw [if_neg b]
        exact Nat.le_refl _
    · unfold az_u
      rw [if_pos ehi, if_neg (by rw [c1 hi hhi ehi]; exact nlo)]
      split <;> omega
/-! ===== a block begins to point ===== -/
theorem az_point (hB : ∀ E P, M E P → az_B E P) {c t : Nat → Int32} (I : az_I M c t) {f w : Nat} (hf : f < 12) (hw : w < 12) (htf : t f = -1) (hP : ∀ E P, M E P → P f w) {t' : Nat → Int32} (ht : ∀ v, v < 12 → t' v = if c v = c f then c w else t v) : az_I M c t' ∧ az_mu c t' < az_mu c t := by
  obtain ⟨⟨F1, F2, F3⟩, S⟩ := I
  have t1 : ∀ v, v < 12 → c v = c f → t' v = c w := fun v hv h => by rw [ht v hv, if_pos h]
  have t2 : ∀ v, v < 12 → c v ≠ c f → t' v = t v := fun v hv h => by rw [ht v hv, if_neg h]
  refine ⟨⟨⟨F1, ?_, ?_⟩, ?_⟩, ?_⟩
  · intro v hv
    by_cases h : c v = c f
    · obtain ⟨x, hx, e1, e2⟩ := F1 w hw
      exact Or.inr ⟨x, hx, (t1 v hv h).trans e1, e2⟩
    · rw [t2 v hv h]; exact F2 v hv
  · intro u v hu hv h
    by_cases a : c u = c f
    · rw [t1 u hu a, t1 v hv (h.symm.trans a)]
    · rw [t2 u hu a, t2 v hv (fun z => a (h.trans z)), F3 u v hu hv h]
  · intro E P hM
    obtain ⟨e1, e2, e3, p1, p2⟩ := hB E P hM
    obtain ⟨SE, SP⟩ := S E P hM
    refine ⟨SE, ?_⟩
    intro u v hu hv h
    by_cases a : c u = c f
    · rw [t1 u hu a] at h
      exact p1 _ _ _ _ (hP E P hM) (SE f u hf hu a.symm) (SE w v hw hv h)
    · rw [t2 u hu a] at h
      exact SP u v hu hv h
  · obtain ⟨x, hx, x1, x2⟩ := F1 f hf
    obtain ⟨y, hy, y1, y2⟩ := F1 w hw
    have ny : c w ≠ -1 := by rw [y1]; exact az_m1 y hy
    refine az_sm_lt _ _ 12 ?_ x hx ?_
    · intro v hv
      unfold az_u
      by_cases a : c v = nI v
      · rw [if_pos a, if_pos a]
        by_cases b : c v = c f
        · rw [t1 v hv b, if_neg ny]
          split <;> omega
        · rw [t2 v hv b]
          exact Nat.le_refl _
      · rw [if_neg a, if_neg a]
        exact Nat.le_refl _
    · unfold az_u
      rw [if_pos x2, if_pos x2, t1 x hx (x2.trans x1.symm), if_neg ny, F3 x f hx hf (x2.trans x1.symm), if_pos htf]
      omega
end
/-! ===== the rules, of a state and of a division ===== -/
def az_R (c t : Nat → Int32) (k : Int32) (a b : Nat) : Prop :=
  (k = 0 → t a = c b) ∧ (k = 1 → t b ≠ -1 → t a = t b) ∧ (k = 2 → t b ≠ -1 → t (t b).toNatClampNeg ≠ -1 → t a = t (t b).toNatClampNeg) ∧ (k = 3 → t a ≠ -1 → t b ≠ -1 → t (t a).toNatClampNeg = t b)
def az_Q (P : Nat → Nat → Prop) (k : Int32) (a b : Nat) : Prop :=
  (k = 0 → P a b) ∧ (k = 1 → ∀ w, P b w → P a w) ∧ (k = 2 → ∀ w z, P b w → P w z → P a z) ∧ (k = 3 → ∀ w z, P a w → P b z → P w z)
def az_M (n : Nat) (k l r : Nat → Int32) (E P : Nat → Nat → Prop) : Prop :=
  az_B E P ∧ ∀ i, i < n → az_Q P (k i) (l i).toNatClampNeg (r i).toNatClampNeg
def az_ok (n : Nat) (k l r : Nat → Int32) : Prop :=
  ∀ i, i < n → (∃ x, x < 4 ∧ k i = nI x) ∧ (∃ a, a < 12 ∧ l i = nI a) ∧ (∃ b, b < 12 ∧ r i = nI b)
def az_cd (n : Nat) (k l r c t : Nat → Int32) : Prop := ∀ i, i < n → az_R c t (k i) (l i).toNatClampNeg (r i).toNatClampNeg
def az_fin (n : Nat) (k l r c t : Nat → Int32) : Prop := az_I (az_M n k l r) c t ∧ az_cd n k l r c t
def az_EE (c : Nat → Int32) (u v : Nat) : Prop := u = v ∨ (u < 12 ∧ v < 12 ∧ c u = c v)
def az_PP (c t : Nat → Int32) (u v : Nat) : Prop := u < 12 ∧ v < 12 ∧ t u = c v
theorem az_MB {n : Nat} {k l r : Nat → Int32} : ∀ E P, az_M n k l r E P → az_B E P := fun _ _ h => h.1
theorem az_mod {c t : Nat → Int32} (F : az_F c t) : az_B (az_EE c) (az_PP c t) := by
  obtain ⟨F1, F2, F3⟩ := F
  refine ⟨fun u => Or.inl rfl, ?_, ?_, ?_, ?_⟩
  · intro u v h
    rcases h with h | ⟨a, b, h⟩
    · exact Or.inl h.symm
    · exact Or.inr ⟨b, a, h.symm⟩
  · intro u v w h g
    rcases h with h | ⟨a, b, h⟩
    · subst h; exact g
    · rcases g with g | ⟨a', b', g⟩
      · subst g; exact Or.inr ⟨a, b, h⟩
      · exact Or.inr ⟨a, b', h.trans g⟩
  · intro u v x y p h g
    obtain ⟨hu, hv, p⟩ := p
    rcases h with h | ⟨_, hx, h⟩
    · subst h
      rcases g with g | ⟨_, hy, g⟩
      · subst g; exact ⟨hu, hv, p⟩
      · exact ⟨hu, hy, p.trans g⟩
    · rcases g with g | ⟨_, hy, g⟩
      · subst g; exact ⟨hx, hv, (F3 u x hu hx h).symm.trans p⟩
      · exact ⟨hx, hy, (F3 u x hu hx h).symm.trans (p.trans g)⟩
  · intro u v w p q
    exact Or.inr ⟨p.2.1, q.2.1, p.2.2.symm.trans q.2.2⟩
theorem az_cne {c t : Nat → Int32} (F : az_F c t) {v : Nat} (hv : v < 12) : c v ≠ -1 := by
  obtain ⟨w, hw, e, _⟩ := F.1 v hv
  rw [e]; exact az_m1 w hw
theorem az_tt {c t : Nat → Int32} (F : az_F c t) {v w : Nat} (hv : v < 12) (hw : w < 12) (h : t v = c w) : t (t v).toNatClampNeg = t w := by
  obtain ⟨x, hx, e1, e2⟩ := F.1 w hw
  rw [h, e1, az_cl (by omega)]
  exact F.2.2 x w hx hw (e2.trans e1.symm)
theorem az_RQ {c t : Nat → Int32} (F : az_F c t) {k : Int32} {a b : Nat} (ha : a < 12) (hb : b < 12) (R : az_R c t k a b) : az_Q (az_PP c t) k a b := by
  obtain ⟨R0, R1, R2, R3⟩ := R
  refine ⟨fun h => ⟨ha, hb, R0 h⟩, ?_, ?_, ?_⟩
  · intro h w p
    have z : t b ≠ -1 := by rw [p.2.2]; exact az_cne F p.2.1
    exact ⟨ha, p.2.1, (R1 h z).trans p.2.2⟩
  · intro h w z p q
    have y : t b ≠ -1 := by rw [p.2.2]; exact az_cne F p.2.1
    have e := az_tt F p.1 p.2.1 p.2.2
    have x : t w ≠ -1 := by rw [q.2.2]; exact az_cne F q.2.1
    refine ⟨ha, q.2.1, ?_⟩
    rw [R2 h y (by rw [e]; exact x), e]
    exact q.2.2
  · intro h w z p q
    have y : t a ≠ -1 := by rw [p.2.2]; exact az_cne F p.2.1
    have x : t b ≠ -1 := by rw [q.2.2]; exact az_cne F q.2.1
    have e := az_tt F p.1 p.2.1 p.2.2
    refine ⟨p.2.1, q.2.1, ?_⟩
    rw [← e, R3 h y x]
    exact q.2.2
theorem az_model {n : Nat} {k l r c t : Nat → Int32} (O : az_ok n k l r) (H : az_fin n k l r c t) : az_M n k l r (az_EE c) (az_PP c t) := by
  refine ⟨az_mod H.1.1, ?_⟩
  intro i hi
  obtain ⟨_, ⟨a, ha, ea⟩, ⟨b, hb, eb⟩⟩ := O i hi
  have R := H.2 i hi
  rw [ea, eb, az_cl (by omega), az_cl (by omega)] at R ⊢
  exact az_RQ H.1.1 ha hb R
theorem az_half {n : Nat} {k l r c t c' t' : Nat → Int32} (O : az_ok n k l r) (H : az_fin n k l r c t) (H' : az_fin n k l r c' t') : (∀ u v, u < 12 → v < 12 → c u = c v → c' u = c' v) ∧ (∀ u v, u < 12 → v < 12 → t u = c v → t' u = c' v) := by
  obtain ⟨a, b⟩ := H.1.2 _ _ (az_model O H')
  refine ⟨?_, fun u v hu hv h => (b u v hu hv h).2.2⟩
  intro u v hu hv h
  rcases a u v hu hv h with e | e
  · rw [e]
  · exact e.2.2
/-- the two finished states say the same of blocks and of pointing -/
def az_same (c t c' t' : Nat → Int32) : Prop := (∀ u v, u < 12 → v < 12 → (c u = c v ↔ c' u = c' v)) ∧ (∀ u v, u < 12 → v < 12 → (t u = c v ↔ t' u = c' v))
theorem az_uniq {n : Nat} {k l r c t c' t' : Nat → Int32} (O : az_ok n k l r) (H : az_fin n k l r c t) (H' : az_fin n k l r c' t') : az_same c t c' t' := by
  have a := az_half O H H'
  have b := az_half O H' H
  exact ⟨fun u v hu hv => ⟨a.1 u v hu hv, b.1 u v hu hv⟩, fun u v hu hv => ⟨a.2 u v hu hv, b.2 u v hu hv⟩⟩
/-- the state at the beginning -/
theorem az_init {M : (Nat → Nat → Prop) → (Nat → Nat → Prop) → Prop} (hB : ∀ E P, M E P → az_B E P) {c t : Nat → Int32} (hc : ∀ v, v < 12 → c v = nI v) (ht : ∀ v, v < 12 → t v = -1) : az_I M c t := by
  refine ⟨⟨fun v hv => ⟨v, hv, hc v hv, hc v hv⟩, fun v hv => Or.inl (ht v hv), fun u v hu hv _ => by rw [ht u hu, ht v hv]⟩, ?_⟩
  intro E P h
  refine ⟨?_, ?_⟩
  · intro u v hu hv e
    rw [hc u hu, hc v hv] at e
    rw [az_inj hu hv e]
    exact (hB E P h).1 v
  · intro u v hu hv e
    rw [ht u hu, hc v hv] at e
    exact absurd e.symm (az_m1 v hv)
