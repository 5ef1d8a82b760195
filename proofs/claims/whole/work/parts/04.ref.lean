/-- the block that v's block points at, as the reference keeps it -/
def ay_T (cl to : Nat → Int32) : Nat → Int32 := fun v => to (cl v).toNatClampNeg
theorem ay_Tr {cl to : Nat → Int32} {p : Nat} (hp : p < 12) (e : cl p = nI p) : ay_T cl to p = to p := by
  show to (cl p).toNatClampNeg = to p
  rw [e, az_c12 hp]
theorem ay_neg : (-1 : Int32) < 0 := by decide
theorem ay_nn {w : Nat} (hw : w < 12) : ¬ nI w < 0 := nI_pos (by omega)
theorem ay_nn' {w : Nat} (hw : w < 12) : (0 : Int32) ≤ nI w := nI_pos' (by omega)
theorem ay_103 {post : SY → Prop} {J5 : Int32 → Int32 → Int32 → (Nat → Int32) → (Nat → Int32) → (Nat → Int32) → (Nat → Int32) → (Nat → Int32) → Prop} {J : Int32 → (Nat → Int32) → (Nat → Int32) → (Nat → Int32) → (Nat → Int32) → (Nat → Int32) → Prop} {x3 x4 x5 x6 : Int32} {i : Nat} (hi : i < 12) {h ch : Int32} {k l r cl to : Nat → Int32} (H : J (nI (i + 1)) k l r cl (upd to i (az_ren x4 x3 (to i)))) : wY_join_103 post J5 J x3 x4 x5 x6 (nI i) h ch k l r cl to := by
  refine ⟨az_in hi, ?_⟩
  rw [az_c12 hi]
  by_cases e : to i = x4
  · rw [az_ren, if_pos e] at H
    exact br_t e ⟨az_in hi, nm_e (nm_r (nI_1 i) H)⟩
  · rw [az_ren, if_neg e, az_ui] at H
    exact br_f e (nm_r (nI_1 i) H)
theorem ay_146 {post : SY → Prop} {J5 : Int32 → Int32 → Int32 → (Nat → Int32) → (Nat → Int32) → (Nat → Int32) → (Nat → Int32) → (Nat → Int32) → Prop} {p q : Nat} (hp : p < 12) (hq : q < 12) {x5 x6 z0 h ch : Int32} {k l r cl to : Nat → Int32} (H : J5 x5 x6 ch k l r cl (upd (upd to p z0) q (-1))) : wY_join_146 post J5 (nI q) x5 x6 z0 (nI p) h ch k l r cl to :=
  ⟨az_in hp, nm_r (e' := upd to p z0) (by rw [az_c12 hp]) ⟨az_in hq, nm_r (e' := upd (upd to p z0) q (-1)) (by rw [az_c12 hq]) H⟩⟩
theorem ay_jl {post : SY → Prop} {J5 : Int32 → Int32 → Int32 → (Nat → Int32) → (Nat → Int32) → (Nat → Int32) → (Nat → Int32) → (Nat → Int32) → Prop} {p q : Nat} (hp : p < 12) (hq : q < 12) {x5 x6 h ch : Int32} {k l r cl to : Nat → Int32} (H : ∀ cl' to', (∀ v, v < 12 → cl' v = az_ren (nI q) (nI p) (cl v)) → (∀ v, v < 12 → to' v = if v = q then -1 else if v = p then (if x5 < 0 then x6 else x5) else az_ren (nI q) (nI p) (to v)) → J5 x5 x6 ch k l r cl' to') : ∃ n, wY_join_76 post J5 (nI p) (nI q) x5 x6 h ch n 0 k l r cl to := by
  refine loop_0 (fun n i s => wY_join_76 post J5 (nI p) (nI q) x5 x6 h ch n (nI i) k l r s.1 s.2) (fun i s => (∀ v, v < i → s.1 v = az_ren (nI q) (nI p) (cl v) ∧ s.2 v = az_ren (nI q) (nI p) (to v)) ∧ (∀ v, i ≤ v → s.1 v = cl v ∧ s.2 v = to v)) 12 (cl, to) ⟨fun v hv => absurd hv (by omega), fun v _ => ⟨rfl, rfl⟩⟩ ?_ ?_
  · intro n s hI
    have K : ∀ z0, z0 = (if x5 < 0 then x6 else x5) → J5 x5 x6 ch k l r s.1 (upd (upd s.2 p z0) q (-1)) := by
      intro z0 hz
      refine H _ _ (fun v hv => (hI.1 v hv).1) ?_
      intro v hv
      by_cases a : v = q
      · rw [if_pos a, a]; exact az_us
      · rw [if_neg a, az_un a]
        by_cases b : v = p
        · rw [if_pos b, b, ← hz]; exact az_us
        · rw [if_neg b, az_un b]; exact (hI.1 v hv).2
    refine br_t az_12 ?_
    by_cases e : x5 < 0
    · exact br_t e (ay_146 hp hq (K x6 (by rw [if_pos e])))
    · exact br_f e (ay_146 hp hq (K x5 (by rw [if_neg e])))
  · intro n i s hi hI hk
    obtain ⟨I1, I2⟩ := hI
    obtain ⟨sc, st⟩ := I2 i (Nat.le_refl i)
    have K := hk (upd s.1 i (az_ren (nI q) (nI p) (s.1 i)), upd s.2 i (az_ren (nI q) (nI p) (s.2 i))) ⟨by
      intro v hv
      by_cases e : v = i
      · subst e
        rw [← sc, ← st]
        exact ⟨az_us, az_us⟩
      · have := I1 v (by omega)
        exact ⟨(az_un e).trans this.1, (az_un e).trans this.2⟩, by
      intro v hv
      have := I2 v (by omega)
      exact ⟨(az_un (by omega)).trans this.1, (az_un (by omega)).trans this.2⟩⟩
    have K : wY_join_76 post J5 (nI p) (nI q) x5 x6 h ch n (nI (i + 1)) k l r (upd s.1 i (az_ren (nI q) (nI p) (s.1 i))) (upd s.2 i (az_ren (nI q) (nI p) (s.2 i))) := K
    refine br_f (az_ge hi) ⟨az_in hi, ?_⟩
    rw [az_c12 hi]
    by_cases e : s.1 i = nI q
    · rw [az_ren, if_pos e] at K
      exact br_t e ⟨az_in hi, nm_e (ay_103 hi K)⟩
    · rw [az_ren, if_neg e, az_ui] at K
      exact br_f e (ay_103 hi K)
/-- a value that names a block, or -1 -/
def ay_V (cl : Nat → Int32) (x : Int32) : Prop := x = -1 ∨ ∃ p, p < 12 ∧ x = nI p ∧ cl p = nI p
section
variable {M : (Nat → Nat → Prop) → (Nat → Nat → Prop) → Prop} {h : Int32} {k l r : Nat → Int32} {post : SY → Prop}
/-- one joining: what the two arrays are afterwards -/
theorem ay_jm (hB : ∀ E P, M E P → az_B E P) {cl to : Nat → Int32} (I : az_I M cl (ay_T cl to)) {p q : Nat} (hp : p < 12) (hq : q < 12) (ep : cl p = nI p) (eq : cl q = nI q) (hne : p ≠ q) (hE : ∀ E P, M E P → E p q) {cl' to' : Nat → Int32} (hc : ∀ v, v < 12 → cl' v = az_ren (nI q) (nI p) (cl v)) (ht : ∀ v, v < 12 → to' v = if v = q then -1 else if v = p then (if az_ren (nI q) (nI p) (to p) < 0 then az_ren (nI q) (nI p) (to q) else az_ren (nI q) (nI p) (to p)) else az_ren (nI q) (nI p) (to v)) : az_I M cl' (ay_T cl' to') ∧ az_mu cl' (ay_T cl' to') < az_mu cl (ay_T cl to) := by
  have tp : ay_T cl to p = to p := ay_Tr hp ep
  have tq : ay_T cl to q = to q := ay_Tr hq eq
  have npq : nI p ≠ nI q := fun z => hne (az_inj hp hq z)
  have fp := I.1.2.1 p hp
  rw [tp] at fp
  have jn : (if az_ren (nI q) (nI p) (to p) < 0 then az_ren (nI q) (nI p) (to q) else az_ren (nI q) (nI p) (to p)) = az_ren (nI q) (nI p) (if to p = -1 then to q else to p) := by
    rcases fp with fp | ⟨w, hw, fp, _⟩
    · have e1 : az_ren (nI q) (nI p) (to p) = -1 := by rw [fp, az_ren, if_neg (fun z => az_m1 q hq z.symm)]
      rw [e1, if_pos ay_neg, if_pos fp]
    · have e1 : ¬ az_ren (nI q) (nI p) (to p) < 0 := by
        rw [fp, az_ren]
        split
        · exact ay_nn hp
        · exact ay_nn hw
      rw [if_neg e1, if_neg (by rw [fp]; exact az_m1 w hw)]
  refine az_join hB I hp hq ep eq hne hE (jt := if to p = -1 then to q else to p) ?_ ?_ hc ?_
  · rw [tp, tq]
    by_cases e : to p = -1
    · rw [if_pos e]; exact Or.inr rfl
    · rw [if_neg e]; exact Or.inl rfl
  · intro z
    rw [tp, tq]
    by_cases e : to p = -1
    · rw [if_pos e] at z; exact ⟨e, z⟩
    · rw [if_neg e] at z; exact absurd z e
  · intro v hv
    show to' (cl' v).toNatClampNeg = _
    by_cases a : cl v = nI p ∨ cl v = nI q
    · have e : cl' v = nI p := by
        rw [hc v hv, az_ren]
        rcases a with a | a
        · rw [a, if_neg npq]
        · rw [if_pos a]
      rw [e, az_c12 hp, ht p hp, if_neg hne, if_pos rfl, jn, if_pos a]
    · obtain ⟨w, hw, w1, w2⟩ := I.1.1 v hv
      have wq : w ≠ q := fun z => a (Or.inr (by rw [w1, z]))
      have wp : w ≠ p := fun z => a (Or.inl (by rw [w1, z]))
      have e : cl' v = nI w := by
        rw [hc v hv, az_ren, if_neg (fun z => a (Or.inr z)), w1]
      rw [e, az_c12 hw, ht w hw, if_neg wq, if_neg wp, if_neg a]
      show _ = az_ren (nI q) (nI p) (to (cl v).toNatClampNeg)
      rw [w1, az_c12 hw]
theorem ay_jo (hB : ∀ E P, M E P → az_B E P) : ∀ (n : Nat) (x y ch : Int32) (cl to : Nat → Int32), az_I M cl (ay_T cl to) → ay_V cl x → ay_V cl y → az_mu cl (ay_T cl to) < n → (∀ p q, p < 12 → q < 12 → x = nI p → y = nI q → ∀ E P, M E P → E p q) → (∀ ch' cl' to', az_I M cl' (ay_T cl' to') → (((x = y ∨ x = -1 ∨ y = -1) ∧ ch' = ch ∧ cl' = cl ∧ to' = to) ∨ (x ≠ y ∧ ch' = 1 ∧ az_mu cl' (ay_T cl' to') < az_mu cl (ay_T cl to))) → post (h, ch', k, l, r, cl', to')) → wY_join_5 post h n x y ch k l r cl to := by
  intro n
  induction n with
  | zero => intro x y ch cl to _ _ _ hm; exact absurd hm (by omega)
  | succ n ih =>
    intro x y ch cl to I vx vy hm hE H
    by_cases e : x = y
    · exact br_t e (H ch cl to I (Or.inl ⟨Or.inl e, rfl, rfl, rfl⟩))
    · refine br_f e ?_
      rcases vx with vx | ⟨p, hp, vx, ep⟩
      · exact br_t (by rw [vx]; exact ay_neg) (H ch cl to I (Or.inl ⟨Or.inr (Or.inl vx), rfl, rfl, rfl⟩))
      · refine br_f (by rw [vx]; exact ay_nn hp) ?_
        rcases vy with vy | ⟨q, hq, vy, eq⟩
        · exact br_t (by rw [vy]; exact ay_neg) (H ch cl to I (Or.inl ⟨Or.inr (Or.inr vy), rfl, rfl, rfl⟩))
        · refine br_f (by rw [vy]; exact ay_nn hq) ?_
          have hpq := hE p q hp hq vx vy
          have hne : p ≠ q := fun z => e (by rw [vx, vy, z])
          have G : ∃ m, wY_join_76 post (wY_join_5 post h n) (nI p) (nI q) (az_ren (nI q) (nI p) (to p)) (az_ren (nI q) (nI p) (to q)) h 1 m 0 k l r cl to := by
            refine ay_jl hp hq ?_
            intro cl' to' hc ht
            obtain ⟨I', m'⟩ := ay_jm hB I hp hq ep eq hne hpq hc ht
            have tp : ay_T cl to p = to p := ay_Tr hp ep
            have tq : ay_T cl to q = to q := ay_Tr hq eq
            have W : ∀ z, z < 12 → (ay_T cl to z = -1 → az_ren (nI q) (nI p) (ay_T cl to z) = -1) ∧ ∀ w, w < 12 → ay_T cl to z = nI w → cl w = nI w → az_ren (nI q) (nI p) (ay_T cl to z) = cl' w := by
              intro z hz
              refine ⟨fun e1 => by rw [e1, az_ren, if_neg (fun z => az_m1 q hq z.symm)], fun w hw e1 e2 => by rw [e1, hc w hw, e2]⟩
            have V : ∀ z, z < 12 → ay_V cl' (az_ren (nI q) (nI p) (ay_T cl to z)) := by
              intro z hz
              rcases I.1.2.1 z hz with e1 | ⟨w, hw, e1, e2⟩
              · exact Or.inl ((W z hz).1 e1)
              · obtain ⟨w', hw', f1, f2⟩ := I'.1.1 w hw
                exact Or.inr ⟨w', hw', ((W z hz).2 w hw e1 e2).trans f1, f2⟩
            have Vp := V p hp
            have Vq := V q hq
            rw [tp] at Vp
            rw [tq] at Vq
            refine ih _ _ 1 cl' to' I' Vp Vq (by omega) ?_ ?_
            · intro x' y' hx' hy' ex' ey' E P hM
              obtain ⟨e1, e2, e3, p1, p2⟩ := hB E P hM
              obtain ⟨SE', _⟩ := I'.2 E P hM
              have Z : ∀ z, z < 12 → ∀ x', x' < 12 → az_ren (nI q) (nI p) (ay_T cl to z) = nI x' → ∃ w, w < 12 ∧ ay_T cl to z = cl w ∧ E w x' := by
                intro z hz x' hx' ex'
                rcases I.1.2.1 z hz with f | ⟨w, hw, f1, f2⟩
                · exact absurd (ex'.symm.trans ((W z hz).1 f)) (az_m1 x' hx')
                · have g := ((W z hz).2 w hw f1 f2).symm.trans ex'
                  obtain ⟨w', hw', g1, g2⟩ := I'.1.1 w hw
                  have : w' = x' := az_inj hw' hx' (g1.symm.trans g)
                  subst this
                  exact ⟨w, hw, f1.trans f2.symm, SE' w w' hw hw' (g1.trans g2.symm)⟩
              obtain ⟨a, ha, a1, a2⟩ := Z p hp x' hx' (by rw [tp]; exact ex')
              obtain ⟨b, hb, b1, b2⟩ := Z q hq y' hy' (by rw [tq]; exact ey')
              exact e3 _ _ _ (e2 _ _ a2) (e3 _ _ _ (ax_next hB I hp hq ha hb a1 b1 hpq E P hM) b2)
            · intro ch2 cl2 to2 I2 m2
              refine H ch2 cl2 to2 I2 (Or.inr ⟨e, ?_⟩)
              rcases m2 with ⟨_, f1, f2, f3⟩ | ⟨_, f1, f2⟩
              · subst f2 f3
                exact ⟨f1, m'⟩
              · exact ⟨f1, Nat.lt_trans f2 m'⟩
          subst vx vy
          have S46 : wY_join_46 post (wY_join_5 post h n) (nI p) (nI q) (az_ren (nI q) (nI p) (to p)) h 1 k l r cl to := by
            refine ⟨az_in hq, ?_⟩
            rw [az_c12 hq]
            by_cases f : to q = nI q
            · refine br_t f ?_
              rw [show az_ren (nI q) (nI p) (to q) = nI p from if_pos f] at G
              exact G
            · refine br_f f ⟨az_in hq, nm_e ?_⟩
              rw [show az_ren (nI q) (nI p) (to q) = to q from if_neg f] at G
              exact G
          refine ⟨az_in hp, ?_⟩
          rw [az_c12 hp]
          by_cases f : to p = nI q
          · refine br_t f ?_
            rw [show az_ren (nI q) (nI p) (to p) = nI p from if_pos f] at S46
            exact S46
          · refine br_f f ⟨az_in hp, ?_⟩
            rw [show az_ren (nI q) (nI p) (to p) = to p from if_neg f] at S46
            exact S46
/-- what one rule does to the reference's state -/
def ay_St (cl to : Nat → Int32) (ch : Int32) (A : Prop) (ch' : Int32) (cl' to' : Nat → Int32) : Prop := (A ∧ ch' = ch ∧ cl' = cl ∧ to' = to) ∨ (¬ A ∧ ch' = 1 ∧ az_mu cl' (ay_T cl' to') < az_mu cl (ay_T cl to))
theorem ay_point (hB : ∀ E P, M E P → az_B E P) {ch : Int32} {cl to : Nat → Int32} (I : az_I M cl (ay_T cl to)) {p q : Nat} (hp : p < 12) (hq : q < 12) (ep : cl p = nI p) (eq : cl q = nI q) (hP : ∀ E P, M E P → P p q) {A : Prop} (eA : A ↔ ay_T cl to p = cl q) (H : ∀ ch' cl' to', az_I M cl' (ay_T cl' to') → ay_St cl to ch A ch' cl' to' → post (h, ch', k, l, r, cl', to')) : wpY_point post (h, ch, k, l, r, cl, to) (nI p) (nI q) := by
  have tp : ay_T cl to p = to p := ay_Tr hp ep
  have fp := I.1.2.1 p hp
  rw [tp] at fp
  refine ⟨az_in hp, ?_⟩
  rw [az_c12 hp]
  rcases fp with fp | ⟨w, hw, fp, ew⟩
  · rw [fp]
    refine br_f (by decide) ⟨az_in hp, nm_e ?_⟩
    have K := az_point hB I hp hq (tp.trans fp) hP (t' := ay_T cl (upd to p (nI q))) (by
      intro v hv
      show upd to p (nI q) (cl v).toNatClampNeg = _
      obtain ⟨x, hx, x1, x2⟩ := I.1.1 v hv
      by_cases e : cl v = cl p
      · rw [if_pos e, e, ep, az_c12 hp, eq]; exact az_us
      · have : x ≠ p := fun z => e (by rw [x1, ep, z])
        rw [if_neg e, x1, az_c12 hx, az_un this]
        show to x = to (cl v).toNatClampNeg
        rw [x1, az_c12 hx])
    refine H 1 cl _ K.1 (Or.inr ⟨?_, rfl, K.2⟩)
    rw [eA, tp, fp, eq]
    exact fun z => az_m1 q hq z.symm
  · rw [fp]
    refine br_t (ay_nn' hw) ⟨az_in hp, ?_⟩
    refine ⟨az_mu cl (ay_T cl to) + 1, ay_jo hB _ (nI w) (nI q) ch cl to I (Or.inr ⟨w, hw, rfl, ew⟩) (Or.inr ⟨q, hq, rfl, eq⟩) (by omega) ?_ ?_⟩
    · intro a b ha hb ea eb E P hM
      have ea' : w = a := az_inj hw ha ea
      have eb' : q = b := az_inj hq hb eb
      subst ea' eb'
      exact (hB E P hM).2.2.2.2 _ _ _ ((I.2 E P hM).2 p w hp hw (tp.trans (fp.trans ew.symm))) (hP E P hM)
    · intro ch' cl' to' I' m
      refine H ch' cl' to' I' ?_
      rcases m with ⟨m0, m1⟩ | ⟨m0, m1⟩
      · refine Or.inl ⟨?_, m1⟩
        rw [eA, tp, fp, eq]
        rcases m0 with m0 | m0 | m0
        · exact m0
        · exact absurd m0 (az_m1 w hw)
        · exact absurd m0 (az_m1 q hq)
      · refine Or.inr ⟨?_, m1⟩
        rw [eA, tp, fp, eq]
        exact m0
end
