/-- both hold the same assignments; the component's arrays are the finished division with the least names -/
def i_Rel (k : Nat) (u : SX) (v : SY) : Prop := ∃ (n : Nat) (ks l r c t : Nat → Int32) (ch : Int32) (cl to : Nat → Int32), u = (nI n, ks, l, r, c, t) ∧ v = (nI n, ch, ks, l, r, cl, to) ∧ n ≤ 24 ∧ az_ok n ks l r ∧ az_fin n ks l r c t ∧ az_L c
theorem i_up {k : Nat} {u : SX} {v : SY} (h : i_Rel k u v) : i_Rel (k + 4) u v := h
theorem i_vc0 : wpX_init (fun u => wpY_init (fun v => i_Rel 0 u v)) := by
  unfold wpX_init
  refine ax_sep ?_
  intro c t hc ht
  have O : az_ok 0 (fun _ => 0) (fun _ => 0) (fun _ => 0) := fun i hi => absurd hi (by omega)
  exact ⟨0, fun _ => 0, fun _ => 0, fun _ => 0, c, t, 0, fun _ => 0, fun _ => 0, rfl, rfl, by omega, O, ⟨az_init az_MB hc ht, fun i hi => absurd hi (by omega)⟩, fun w hw => ⟨w, Nat.le_refl w, hc w hw⟩⟩
section
variable {n : Nat} {ks l r c t : Nat → Int32} {ch : Int32} {cl to : Nat → Int32}
theorem ar_X0 {post : Int32 → SX → Prop} {x a b : Int32} (h : az_bad 4 x ∨ az_bad 12 a ∨ az_bad 12 b ∨ n = 24) (H : post (-1) (nI n, ks, l, r, c, t)) : wpX_assign post (nI n, ks, l, r, c, t) x a b := by
  unfold wpX_assign
  dsimp only
  by_cases ex : az_bad 4 x
  · exact ax_k0 ex (br_t rfl H)
  · obtain ⟨x', hx, rfl⟩ := az_good ex
    refine ax_k1 hx (br_f (by decide) ?_)
    by_cases ev : az_bad 12 a ∨ az_bad 12 b
    · exact ax_vv0 ev (br_t rfl H)
    · obtain ⟨a', ha, rfl⟩ := az_good (fun z => ev (Or.inl z))
      obtain ⟨b', hb, rfl⟩ := az_good (fun z => ev (Or.inr z))
      have e : n = 24 := by
        rcases h with h | h | h | h
        · exact absurd h ex
        · exact absurd (Or.inl h) ev
        · exact absurd (Or.inr h) ev
        · exact h
      subst e
      exact ax_vv1 ha hb (br_f (by decide) (br_f (by decide +kernel) H))
theorem ar_Y0 {post : Int32 → SY → Prop} {x a b : Int32} (h : az_bad 4 x ∨ az_bad 12 a ∨ az_bad 12 b ∨ n = 24) (H : post (-1) (nI n, ch, ks, l, r, cl, to)) : wpY_assign post (nI n, ch, ks, l, r, cl, to) x a b := by
  unfold wpY_assign
  dsimp only
  by_cases ea : az_bad 12 a
  · exact ay_b0 ea (br_f (by decide) H)
  · obtain ⟨a', ha, rfl⟩ := az_good ea
    refine ay_b1 ha (br_t rfl ?_)
    by_cases eb : az_bad 12 b
    · exact ay_b0 eb (br_f (by decide) H)
    · obtain ⟨b', hb, rfl⟩ := az_good eb
      refine ay_b1 hb (br_t rfl ?_)
      by_cases ex : az_bad 4 x
      · rcases az_badc ex with e | ⟨e, j, hj, g, rfl⟩
        · exact br_t e H
        · exact br_f e (br_t (nI_lt (a := 3) (b := j) (by omega) hj) H)
      · obtain ⟨x', hx, rfl⟩ := az_good ex
        have e : n = 24 := by
          rcases h with h | h | h | h
          · exact absurd h ex
          · exact absurd h ea
          · exact absurd h eb
          · exact h
        subst e
        exact br_f (nI_pos (by omega)) (br_f (nI_nlt (a := 3) (b := x') (by omega) (by decide)) (br_t (by decide +kernel) H))
theorem ar_ok {x a b : Nat} (O : az_ok n ks l r) (hx : x < 4) (ha : a < 12) (hb : b < 12) : az_ok (n + 1) (upd ks n (nI x)) (upd l n (nI a)) (upd r n (nI b)) := by
  intro i hi
  by_cases e : i = n
  · subst e
    exact ⟨⟨x, hx, az_us⟩, ⟨a, ha, az_us⟩, ⟨b, hb, az_us⟩⟩
  · rw [az_un e, az_un e, az_un e]
    exact O i (by omega)
theorem ar_X1 {post : Int32 → SX → Prop} {x a b : Nat} (hn : n < 24) (O : az_ok n ks l r) (hx : x < 4) (ha : a < 12) (hb : b < 12) (H : ∀ c' t', az_fin (n + 1) (upd ks n (nI x)) (upd l n (nI a)) (upd r n (nI b)) c' t' → az_L c' → post (nI (n + 1)) (nI (n + 1), upd ks n (nI x), upd l n (nI a), upd r n (nI b), c', t')) : wpX_assign post (nI n, ks, l, r, c, t) (nI x) (nI a) (nI b) := by
  unfold wpX_assign
  dsimp only
  refine ax_k1 hx (br_f (by decide) (ax_vv1 ha hb (br_f (by decide) (br_t (nI_lt (b := 24) hn (by decide)) ⟨az_in24 hn, nm_r (e' := upd ks n (nI x)) (by rw [az_cl hn]) ⟨az_in24 hn, nm_r (e' := upd l n (nI a)) (by rw [az_cl hn]) ⟨az_in24 hn, nm_r (e' := upd r n (nI b)) (by rw [az_cl hn]) (nm_r (nI_1 n) ?_)⟩⟩⟩))))
  exact ax_divide (by omega) (ar_ok O hx ha hb) (fun c' t' h1 h2 => H c' t' h1 h2)
theorem ar_Y1 {post : Int32 → SY → Prop} {x a b : Nat} (hn : n < 24) (hx : x < 4) (ha : a < 12) (hb : b < 12) (H : post (nI (n + 1)) (nI (n + 1), ch, upd ks n (nI x), upd l n (nI a), upd r n (nI b), cl, to)) : wpY_assign post (nI n, ch, ks, l, r, cl, to) (nI x) (nI a) (nI b) := by
  unfold wpY_assign
  dsimp only
  have hn2 : ¬ nI n = 24 := fun z => by
    have : n = 24 := (nI_eq (by omega) (by omega)).mp (show nI n = nI 24 from z)
    omega
  exact ay_b1 ha (br_t rfl (ay_b1 hb (br_t rfl (br_f (nI_pos (by omega)) (br_f (nI_nlt (a := 3) (b := x) (by omega) (by decide)) (br_f hn2 ⟨az_in24 hn, nm_r (e' := upd ks n (nI x)) (by rw [az_cl hn]) ⟨az_in24 hn, nm_r (e' := upd l n (nI a)) (by rw [az_cl hn]) ⟨az_in24 hn, nm_r (e' := upd r n (nI b)) (by rw [az_cl hn]) (nm_r (nI_1 n) H)⟩⟩⟩))))))
theorem ar_dl (hn : n < 24) : ∀ d i, i + d = n → ∀ ks l r : Nat → Int32, az_ok (n + 1) ks l r → ∃ ks' l' r' : Nat → Int32, az_ok n ks' l' r' ∧ (∀ (post : Int32 → SX → Prop) (c t : Nat → Int32), (∀ c' t', az_fin n ks' l' r' c' t' → az_L c' → post (nI n) (nI n, ks', l', r', c', t')) → wX_drop_26 post (nI n) (d + 1) (nI i) ks l r c t) ∧ (∀ (post : Int32 → SY → Prop) (ch : Int32) (cl to : Nat → Int32), post (nI n) (nI n, ch, ks', l', r', cl, to) → wY_drop_26 post (nI n) ch (d + 1) (nI i) ks l r cl to) := by
  intro d
  induction d with
  | zero =>
    intro i hi ks l r O
    have e : i = n := by omega
    subst e
    have O' : az_ok i ks l r := fun j hj => O j (by omega)
    refine ⟨ks, l, r, O', ?_, ?_⟩
    · intro post c t H
      exact br_t (nI_le (Nat.le_refl i) (by omega)) (ax_divide (by omega) O' (fun c' t' h1 h2 => H c' t' h1 h2))
    · intro post ch cl to H
      exact br_t (nI_le (Nat.le_refl i) (by omega)) H
  | succ d ih =>
    intro i hi ks l r O
    have i1 : (nI i + 1).toNatClampNeg = i + 1 := by rw [nI_1, az_cl (by omega)]
    have i0 : (nI i).toNatClampNeg = i := az_cl (by omega)
    have v1 : vp_in (nI i + 1) 24 := by rw [nI_1]; exact az_in24 (by omega)
    have v0 : vp_in (nI i) 24 := az_in24 (by omega)
    have O' : az_ok (n + 1) (upd ks i (ks (i + 1))) (upd l i (l (i + 1))) (upd r i (r (i + 1))) := by
      intro j hj
      by_cases e : j = i
      · subst e
        rw [az_us, az_us, az_us]
        exact O (j + 1) (by omega)
      · rw [az_un e, az_un e, az_un e]
        exact O j hj
    obtain ⟨ks', l', r', Q, hX, hY⟩ := ih (i + 1) (by omega) _ _ _ O'
    have g : ¬ nI n ≤ nI i := nI_ge (by omega) (by omega)
    refine ⟨ks', l', r', Q, ?_, ?_⟩
    · intro post c t H
      exact br_f g ⟨v1, v0, nm_r (e' := upd ks i (ks (i + 1))) (by rw [i1, i0]) ⟨v1, v0, nm_r (e' := upd l i (l (i + 1))) (by rw [i1, i0]) ⟨v1, v0, nm_r (e' := upd r i (r (i + 1))) (by rw [i1, i0]) (nm_r (nI_1 i) (hX post c t H))⟩⟩⟩
    · intro post ch cl to H
      exact br_f g ⟨v1, v0, nm_r (e' := upd ks i (ks (i + 1))) (by rw [i1, i0]) ⟨v1, v0, nm_r (e' := upd l i (l (i + 1))) (by rw [i1, i0]) ⟨v1, v0, nm_r (e' := upd r i (r (i + 1))) (by rw [i1, i0]) (nm_r (nI_1 i) (hY post ch cl to H))⟩⟩⟩
end
theorem i_vc_assign {k : Nat} {u : SX} {v : SY} (I : i_Rel k u v) (hk : k + 4 ≤ 2048) (v1 : Int32) (v2 : Int32) (v3 : Int32) : wpX_assign (fun r u' => wpY_assign (fun r' v' => r' = r ∧ i_Rel (k + 4) u' v') v v1 v2 v3) u v1 v2 v3 := by
  obtain ⟨n, ks, l, r, c, t, ch, cl, to, rfl, rfl, hn, O, X, L⟩ := I
  by_cases b : az_bad 4 v1 ∨ az_bad 12 v2 ∨ az_bad 12 v3 ∨ n = 24
  · exact ar_X0 b (ar_Y0 b ⟨rfl, n, ks, l, r, c, t, ch, cl, to, rfl, rfl, hn, O, X, L⟩)
  · obtain ⟨x, hx, rfl⟩ := az_good (fun z => b (Or.inl z))
    obtain ⟨a, ha, rfl⟩ := az_good (fun z => b (Or.inr (Or.inl z)))
    obtain ⟨d, hd, rfl⟩ := az_good (fun z => b (Or.inr (Or.inr (Or.inl z))))
    have hn2 : n < 24 := by
      have : n ≠ 24 := fun z => b (Or.inr (Or.inr (Or.inr z)))
      omega
    refine ar_X1 hn2 O hx ha hd ?_
    intro c' t' X' L'
    exact ar_Y1 hn2 hx ha hd ⟨rfl, n + 1, _, _, _, c', t', ch, cl, to, rfl, rfl, hn2, ar_ok O hx ha hd, X', L'⟩
theorem i_vc_drop {k : Nat} {u : SX} {v : SY} (I : i_Rel k u v) (hk : k + 4 ≤ 2048) (v1 : Int32) : wpX_drop (fun r u' => wpY_drop (fun r' v' => r' = r ∧ i_Rel (k + 4) u' v') v v1) u v1 := by
  obtain ⟨n, ks, l, r, c, t, ch, cl, to, rfl, rfl, hn, O, X, L⟩ := I
  have R : i_Rel (k + 4) (nI n, ks, l, r, c, t) (nI n, ch, ks, l, r, cl, to) := ⟨n, ks, l, r, c, t, ch, cl, to, rfl, rfl, hn, O, X, L⟩
  by_cases e : v1 < 0
  · exact br_t e (br_t e ⟨rfl, R⟩)
  · obtain ⟨j, hj, rfl⟩ := nI_of e
    by_cases g : j < n
    · obtain ⟨m, rfl⟩ : ∃ m, n = m + 1 := ⟨n - 1, by omega⟩
      obtain ⟨ks', l', r', Q, hX, hY⟩ := ar_dl (n := m) (by omega) (m - j) j (by omega) ks l r O
      have gi : nI j < nI (m + 1) := nI_lt g (by omega)
      refine br_f e (br_t gi (nm_r (nI_pred m) ⟨m - j + 1, hX _ c t ?_⟩))
      intro c' t' X' L'
      exact br_f e (br_t gi (nm_r (nI_pred m) ⟨m - j + 1, hY _ ch cl to ⟨rfl, m, ks', l', r', c', t', ch, cl, to, rfl, rfl, by omega, Q, X', L'⟩⟩))
    · have gi : ¬ nI j < nI n := nI_nlt (by omega) hj
      exact br_f e (br_f gi (br_f e (br_f gi ⟨rfl, R⟩)))
theorem i_vc_same {k : Nat} {u : SX} {v : SY} (I : i_Rel k u v) (hk : k + 4 ≤ 2048) (v1 : Int32) (v2 : Int32) : wpX_same (fun r => wpY_same (fun r' v' => r' = r ∧ i_Rel (k + 4) u v') v v1 v2) u v1 v2 := by
  obtain ⟨n, ks, l, r, c, t, ch, cl, to, rfl, rfl, hn, O, X, L⟩ := I
  have R : ∀ ch cl to, i_Rel (k + 4) (nI n, ks, l, r, c, t) (nI n, ch, ks, l, r, cl, to) := fun ch cl to => ⟨n, ks, l, r, c, t, ch, cl, to, rfl, rfl, hn, O, X, L⟩
  unfold wpX_same wpY_same
  dsimp only
  by_cases b1 : az_bad 12 v1
  · exact ax_vv0 (Or.inl b1) (br_t rfl (ay_b0 b1 (br_f (by decide) ⟨rfl, R _ _ _⟩)))
  · obtain ⟨a, ha, rfl⟩ := az_good b1
    by_cases b2 : az_bad 12 v2
    · exact ax_vv0 (Or.inr b2) (br_t rfl (ay_b1 ha (br_t rfl (ay_b0 b2 (br_f (by decide) ⟨rfl, R _ _ _⟩)))))
    · obtain ⟨b, hb, rfl⟩ := az_good b2
      refine ax_vv1 ha hb (br_f (by decide) ⟨az_in ha, az_in hb, ?_⟩)
      rw [az_c12 ha, az_c12 hb]
      refine br_c (fun e => ?_) (fun e => ?_)
      · refine ay_b1 ha (br_t rfl (ay_b1 hb (br_t rfl (ay_work hn O ?_))))
        intro ch' cl' to' Y
        have U := az_uniq O X Y
        exact ⟨az_in ha, az_in hb, br_t ((U.1 a b ha hb).mp e) ⟨rfl, R _ _ _⟩⟩
      · refine ay_b1 ha (br_t rfl (ay_b1 hb (br_t rfl (ay_work hn O ?_))))
        intro ch' cl' to' Y
        have U := az_uniq O X Y
        exact ⟨az_in ha, az_in hb, br_f (fun z => e ((U.1 a b ha hb).mpr z)) ⟨rfl, R _ _ _⟩⟩
theorem i_vc_members {k : Nat} {u : SX} {v : SY} (I : i_Rel k u v) (hk : k + 4 ≤ 2048) (v1 : Int32) : wpX_members (fun r => wpY_members (fun r' v' => r' = r ∧ i_Rel (k + 4) u v') v v1) u v1 := by
  obtain ⟨n, ks, l, r, c, t, ch, cl, to, rfl, rfl, hn, O, X, L⟩ := I
  have R : ∀ ch cl to, i_Rel (k + 4) (nI n, ks, l, r, c, t) (nI n, ch, ks, l, r, cl, to) := fun ch cl to => ⟨n, ks, l, r, c, t, ch, cl, to, rfl, rfl, hn, O, X, L⟩
  unfold wpX_members wpY_members
  dsimp only
  by_cases b1 : az_bad 12 v1
  · exact ax_v0 b1 (br_t rfl (ay_b0 b1 (br_f (by decide) ⟨rfl, R _ _ _⟩)))
  · obtain ⟨a, ha, rfl⟩ := az_good b1
    obtain ⟨A, hX, hY⟩ := aq_members (h := nI n) (k := ks) (l := l) (r := r) (c := c) (t := t) ha 12 0 0 (by omega) (by omega)
    rw [nI_0] at hX hY
    refine ax_v1 ha (br_f (by decide) ⟨12 + 1, hX _ (ay_b1 ha (br_t rfl (ay_work hn O ?_)))⟩)
    intro ch' cl' to' Y
    dsimp only
    refine ⟨az_in ha, ?_⟩
    rw [az_c12 ha]
    exact Exists.intro (12 + 1) (hY ch' cl' to' (az_uniq O X Y) _ ⟨rfl, R _ _ _⟩)
theorem i_vc_target {k : Nat} {u : SX} {v : SY} (I : i_Rel k u v) (hk : k + 4 ≤ 2048) (v1 : Int32) : wpX_target (fun r => wpY_target (fun r' v' => r' = r ∧ i_Rel (k + 4) u v') v v1) u v1 := by
  obtain ⟨n, ks, l, r, c, t, ch, cl, to, rfl, rfl, hn, O, X, L⟩ := I
  have R : ∀ ch cl to, i_Rel (k + 4) (nI n, ks, l, r, c, t) (nI n, ch, ks, l, r, cl, to) := fun ch cl to => ⟨n, ks, l, r, c, t, ch, cl, to, rfl, rfl, hn, O, X, L⟩
  unfold wpX_target wpY_target
  dsimp only
  by_cases b1 : az_bad 12 v1
  · exact ax_v0 b1 (br_t rfl (ay_b0 b1 (br_f (by decide) ⟨rfl, R _ _ _⟩)))
  · obtain ⟨a, ha, rfl⟩ := az_good b1
    refine ax_v1 ha (br_f (by decide) ⟨az_in ha, ay_b1 ha (br_t rfl (ay_work hn O ?_))⟩)
    intro ch' cl' to' Y
    dsimp only
    have U := az_uniq O X Y
    obtain ⟨z, hz, z1, z2⟩ := Y.1.1.1 a ha
    have T : ay_T cl' to' a = to' z := by
      show to' (cl' a).toNatClampNeg = to' z
      rw [z1, az_c12 hz]
    refine ⟨az_in ha, by rw [az_c12 ha, z1]; exact az_in hz, ?_⟩
    rw [az_c12 ha, z1, az_c12 hz]
    rcases X.1.1.2.1 a ha with e | ⟨w, hw, e, cw⟩
    · refine nm_r (T.symm.trans (az_none U Y.1.1 ha X.1.1 e)) ⟨12 + 1, aq_target0 ?_ 12 0 (by omega)⟩
      exact ⟨e.symm, R _ _ _⟩
    · obtain ⟨y, hy, y1, y2⟩ := Y.1.1.1 w hw
      refine nm_r (T.symm.trans ((az_some U ha hw e cw).trans y1)) ⟨12 + 1, aq_target1 U L hw hy cw y1 ?_ 12 0 (by omega) (by omega)⟩
      exact ⟨e.symm, R _ _ _⟩
theorem i_vc_meet {k : Nat} {u : SX} {v : SY} (I : i_Rel k u v) (hk : k + 4 ≤ 2048) (v1 : Int32) (v2 : Int32) : wpX_meet (fun r => wpY_meet (fun r' v' => r' = r ∧ i_Rel (k + 4) u v') v v1 v2) u v1 v2 := by
  obtain ⟨n, ks, l, r, c, t, ch, cl, to, rfl, rfl, hn, O, X, L⟩ := I
  have R : ∀ ch cl to, i_Rel (k + 4) (nI n, ks, l, r, c, t) (nI n, ch, ks, l, r, cl, to) := fun ch cl to => ⟨n, ks, l, r, c, t, ch, cl, to, rfl, rfl, hn, O, X, L⟩
  unfold wpX_meet wpY_meet
  dsimp only
  by_cases b1 : az_bad 12 v1
  · exact ax_vv0 (Or.inl b1) (br_t rfl (ay_b0 b1 (br_f (by decide) ⟨rfl, R _ _ _⟩)))
  · obtain ⟨a, ha, rfl⟩ := az_good b1
    by_cases b2 : az_bad 12 v2
    · exact ax_vv0 (Or.inr b2) (br_t rfl (ay_b1 ha (br_t rfl (ay_b0 b2 (br_f (by decide) ⟨rfl, R _ _ _⟩)))))
    · obtain ⟨b, hb, rfl⟩ := az_good b2
      have T : ∀ (cl to : Nat → Int32) p z, z < 12 → cl p = nI z → ay_T cl to p = to z := by
        intro cl to p z hz ez
        show to (cl p).toNatClampNeg = to z
        rw [ez, az_c12 hz]
      refine ax_vv1 ha hb (br_f (by decide) ⟨az_in ha, ?_⟩)
      rw [az_c12 ha, az_c12 hb]
      rcases X.1.1.2.1 a ha with e | ⟨w, hw, e, cw⟩
      · refine br_t e (ay_b1 ha (br_t rfl (ay_b1 hb (br_t rfl (ay_work hn O ?_)))))
        intro ch' cl' to' Y
        dsimp only
        have U := az_uniq O X Y
        obtain ⟨z, hz, z1, z2⟩ := Y.1.1.1 a ha
        refine ⟨az_in ha, by rw [z1]; exact az_in hz, ?_⟩
        rw [z1, az_c12 hz]
        exact nm_r ((T cl' to' a z hz z1).symm.trans (az_none U Y.1.1 ha X.1.1 e)) (br_t ay_neg ⟨rfl, R _ _ _⟩)
      · refine br_f (by rw [e]; exact az_m1 w hw) ⟨az_in ha, az_in hb, ?_⟩
        refine br_c (fun g => ?_) (fun g => ?_)
        · refine ay_b1 ha (br_t rfl (ay_b1 hb (br_t rfl (ay_work hn O ?_))))
          intro ch' cl' to' Y
          dsimp only
          have U := az_uniq O X Y
          obtain ⟨z, hz, z1, z2⟩ := Y.1.1.1 a ha
          obtain ⟨x, hx, x1, x2⟩ := Y.1.1.1 b hb
          obtain ⟨y, hy, y1, y2⟩ := Y.1.1.1 w hw
          have p := (az_some U ha hw e cw).trans y1
          have q := (az_some U hb hw (g.symm.trans e) cw).trans y1
          refine ⟨az_in ha, by rw [z1]; exact az_in hz, ?_⟩
          rw [z1, az_c12 hz, x1, az_c12 hx]
          exact nm_r ((T cl' to' a z hz z1).symm.trans p) (br_f (ay_nn hy) ⟨az_in hb, az_in hx, br_t (q.symm.trans (T cl' to' b x hx x1)) ⟨rfl, R _ _ _⟩⟩)
        · refine ay_b1 ha (br_t rfl (ay_b1 hb (br_t rfl (ay_work hn O ?_))))
          intro ch' cl' to' Y
          dsimp only
          have U := az_uniq O X Y
          obtain ⟨z, hz, z1, z2⟩ := Y.1.1.1 a ha
          obtain ⟨x, hx, x1, x2⟩ := Y.1.1.1 b hb
          obtain ⟨y, hy, y1, y2⟩ := Y.1.1.1 w hw
          have p := (az_some U ha hw e cw).trans y1
          refine ⟨az_in ha, by rw [z1]; exact az_in hz, ?_⟩
          rw [z1, az_c12 hz, x1, az_c12 hx]
          refine nm_r ((T cl' to' a z hz z1).symm.trans p) (br_f (ay_nn hy) ⟨az_in hb, az_in hx, br_f ?_ ⟨rfl, R _ _ _⟩⟩)
          intro f
          have q : ay_T cl' to' b = cl' w := (T cl' to' b x hx x1).trans (f.symm.trans y1.symm)
          have q2 := (U.2 b w hb hw).mpr q
          exact g (e.trans (cw.symm.trans q2.symm))
theorem i_vc_classes {k : Nat} {u : SX} {v : SY} (I : i_Rel k u v) (hk : k + 4 ≤ 2048) : wpX_classes (fun r => wpY_classes (fun r' v' => r' = r ∧ i_Rel (k + 4) u v') v) u := by
  obtain ⟨n, ks, l, r, c, t, ch, cl, to, rfl, rfl, hn, O, X, L⟩ := I
  have R : ∀ ch cl to, i_Rel (k + 4) (nI n, ks, l, r, c, t) (nI n, ch, ks, l, r, cl, to) := fun ch cl to => ⟨n, ks, l, r, c, t, ch, cl, to, rfl, rfl, hn, O, X, L⟩
  obtain ⟨A, hX, hY⟩ := aq_classes (h := nI n) (k := ks) (l := l) (r := r) X.1.1 L 12 0 0 (by omega)
  rw [nI_0] at hX hY
  unfold wpX_classes wpY_classes wpY_count
  dsimp only
  refine ⟨12 + 1, hX _ (ay_work hn O ?_)⟩
  intro ch' cl' to' Y
  dsimp only
  exact Exists.intro (12 + 1) (hY ch' cl' to' (az_uniq O X Y) Y.1.1 0 aq_seen0 _ ⟨rfl, R _ _ _⟩)
theorem i_vc_pointing {k : Nat} {u : SX} {v : SY} (I : i_Rel k u v) (hk : k + 4 ≤ 2048) : wpX_pointing (fun r => wpY_pointing (fun r' v' => r' = r ∧ i_Rel (k + 4) u v') v) u := by
  obtain ⟨n, ks, l, r, c, t, ch, cl, to, rfl, rfl, hn, O, X, L⟩ := I
  have R : ∀ ch cl to, i_Rel (k + 4) (nI n, ks, l, r, c, t) (nI n, ch, ks, l, r, cl, to) := fun ch cl to => ⟨n, ks, l, r, c, t, ch, cl, to, rfl, rfl, hn, O, X, L⟩
  obtain ⟨A, hX, hY⟩ := aq_pointing (h := nI n) (k := ks) (l := l) (r := r) X.1.1 L 12 0 0 (by omega)
  rw [nI_0] at hX hY
  unfold wpX_pointing wpY_pointing wpY_count
  dsimp only
  refine ⟨12 + 1, hX _ (ay_work hn O ?_)⟩
  intro ch' cl' to' Y
  dsimp only
  exact Exists.intro (12 + 1) (hY ch' cl' to' (az_uniq O X Y) Y.1.1 0 aq_seen0 _ ⟨rfl, R _ _ _⟩)
theorem i_vc_steps {k : Nat} {u : SX} {v : SY} (I : i_Rel k u v) (hk : k + 4 ≤ 2048) (v1 : Int32) : wpX_steps (fun r => wpY_steps (fun r' v' => r' = r ∧ i_Rel (k + 4) u v') v v1) u v1 := by
  obtain ⟨n, ks, l, r, c, t, ch, cl, to, rfl, rfl, hn, O, X, L⟩ := I
  have R : ∀ ch cl to, i_Rel (k + 4) (nI n, ks, l, r, c, t) (nI n, ch, ks, l, r, cl, to) := fun ch cl to => ⟨n, ks, l, r, c, t, ch, cl, to, rfl, rfl, hn, O, X, L⟩
  unfold wpX_steps wpY_steps
  dsimp only
  by_cases b1 : az_bad 12 v1
  · exact ax_v0 b1 (br_t rfl (ay_b0 b1 (br_f (by decide) ⟨rfl, R _ _ _⟩)))
  · obtain ⟨a, ha, rfl⟩ := az_good b1
    obtain ⟨A, hX, hY⟩ := aq_steps (h := nI n) (k := ks) (l := l) (r := r) X.1.1 12 0 a (by omega) ha
    rw [nI_0] at hX hY
    refine ax_v1 ha (br_f (by decide) ⟨12 + 1, hX _ (ay_b1 ha (br_t rfl (ay_work hn O ?_)))⟩)
    intro ch' cl' to' Y
    dsimp only
    obtain ⟨z, hz, z1, z2⟩ := Y.1.1.1 a ha
    exact ⟨az_in ha, nm_r (e' := nI z) (by rw [az_c12 ha, z1]) (Exists.intro (12 + 1) (hY ch' cl' to' (az_uniq O X Y) Y.1.1 z hz z1 _ ⟨rfl, R _ _ _⟩))⟩
