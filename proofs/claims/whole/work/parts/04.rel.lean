/-- the relation at the head of a turn: both sides of the step back are related, the other one only if there was a change; 12 new names a cell at most -/
def i_Rel (k : Nat) (u : SX) (v : SY) : Prop := ∃ (c kc L : Nat) (ch p kp q kq : Int32) (O W M KO KW KM CH N V M' KN KV KM' LS : Nat → Int32),
  u = (nI c, p, nI kc, kp, ch, O, W, M, KO, KW, KM, CH) ∧ v = (nI c, nI L, q, ch, nI kc, kq, N, V, M', KN, KV, KM', LS) ∧ L ≤ 12 * k ∧
  ds_S c p O W M q N V M' L ∧ (ch = 0 ∨ ds_S kc kp KO KW KM kq KN KV KM' L)
theorem i_up {k : Nat} {u : SX} {v : SY} (h : i_Rel k u v) : i_Rel (k + 5) u v := by
  obtain ⟨c, kc, L, ch, p, kp, q, kq, O, W, M, KO, KW, KM, CH, N, V, M', KN, KV, KM', LS, e1, e2, hL, hS, hK⟩ := h
  exact ⟨c, kc, L, ch, p, kp, q, kq, O, W, M, KO, KW, KM, CH, N, V, M', KN, KV, KM', LS, e1, e2, by omega, hS, hK⟩
theorem dz_mk {k c kc L : Nat} {ch p kp q kq : Int32} {O W M KO KW KM CH N V M' KN KV KM' LS : Nat → Int32} (hL : L ≤ 12 * k) (hS : ds_S c p O W M q N V M' L) (hK : ch = 0 ∨ ds_S kc kp KO KW KM kq KN KV KM' L) : i_Rel k (nI c, p, nI kc, kp, ch, O, W, M, KO, KW, KM, CH) (nI c, nI L, q, ch, nI kc, kq, N, V, M', KN, KV, KM', LS) :=
  ⟨c, kc, L, ch, p, kp, q, kq, O, W, M, KO, KW, KM, CH, N, V, M', KN, KV, KM', LS, rfl, rfl, hL, hS, hK⟩
theorem i_vc0 : wpX_init (fun u => wpY_init (fun v => i_Rel 0 u v)) := by
  refine Exists.intro 61 ?_
  have hp : (fun u => wpY_init (fun v => i_Rel 0 u v)) ((0, -1, 0, 0, 0, ds_cp 60 nI (fun _ => 0), (fun _ => 0), ds_cp 4 (fun _ => -1) (fun _ => 0), (fun _ => 0), (fun _ => 0), (fun _ => 0), (fun _ => 0)) : SX) := by
    have hv : ∀ i, i < 60 → ds_cp 60 nI (fun _ => 0) i = nI i := fun i hi => ds_cp_lt hi
    refine dz_mk (c := 0) (kc := 0) (L := 0) (by omega) ⟨⟨by omega, fun i hi => ?_, fun i j hi hj e => ?_, fun i hi => by omega, fun i hi => by omega, fun i j hi => by omega⟩, fun m hm => Or.inl ⟨ds_cp_lt hm, rfl⟩, Or.inl ⟨rfl, rfl⟩⟩ (Or.inl rfl)
    · rw [hv i hi]; exact vp_in_nI hi (by decide)
    · rw [hv i hi, hv j hj, nI_eq (by omega) (by omega)] at e
      exact e
  have h := dx_in60 (post := fun u => wpY_init (fun v => i_Rel 0 u v)) (cn := 0) (p := 0) (ch := 0) hp 60 0 rfl 61 (by decide)
  rw [ds_cp_0] at h
  exact h
/-! what the arguments may be -/
theorem dz_line {c : Nat} (x : Int32) (hc : c ≤ 60) : x < 1 ∨ (¬ x < 1 ∧ nI c < x) ∨ ∃ j, j < c ∧ x = nI (j + 1) := by
  by_cases h : x < 1
  · exact Or.inl h
  · have h0 : ¬ x < 0 := fun z => h (Int32.lt_trans z (by decide))
    obtain ⟨j, hj, rfl⟩ := nI_of h0
    have h1 : ¬ j < 1 := fun z => h (nI_lt (b := 1) z (by decide))
    by_cases h2 : c < j
    · exact Or.inr (Or.inl ⟨h, nI_lt h2 hj⟩)
    · exact Or.inr (Or.inr ⟨j - 1, by omega, congrArg nI (by omega)⟩)
theorem dz_plc {c : Nat} (x : Int32) (hc : c ≤ 60) : x < 0 ∨ (¬ x < 0 ∧ nI c < x) ∨ ∃ j, j ≤ c ∧ x = nI j := by
  by_cases h : x < 0
  · exact Or.inl h
  · obtain ⟨j, hj, rfl⟩ := nI_of h
    by_cases h2 : c < j
    · exact Or.inr (Or.inl ⟨h, nI_lt h2 hj⟩)
    · exact Or.inr (Or.inr ⟨j, by omega, rfl⟩)
section
variable {p kc kp ch : Int32} {O W M KO KW KM CH : Nat → Int32} {ln nw ch' oc od : Int32} {N V M' ON OV OM LS : Nat → Int32}
theorem dz_place {c : Nat} (x : Int32) (hc : c ≤ 60) : ((∀ post : Int32 → Prop, post 0 → wpX_isPlace post (nI c, p, kc, kp, ch, O, W, M, KO, KW, KM, CH) x) ∧ (x < 0 ∨ (¬ x < 0 ∧ nI c < x))) ∨ ∃ j, j ≤ c ∧ x = nI j ∧ (∀ post : Int32 → Prop, post 1 → wpX_isPlace post (nI c, p, kc, kp, ch, O, W, M, KO, KW, KM, CH) x) := by
  rcases dz_plc x hc with h | ⟨h, h2⟩ | ⟨j, hj, rfl⟩
  · exact Or.inl ⟨fun post hp => br_t h hp, Or.inl h⟩
  · exact Or.inl ⟨fun post hp => br_f h (br_t h2 hp), Or.inr ⟨h, h2⟩⟩
  · exact Or.inr ⟨j, hj, rfl, fun post hp => br_f (nI_pos (by omega)) (br_f (nI_nlt hj (by omega)) hp)⟩
theorem dz_range {c : Nat} (x y : Int32) (hc : c ≤ 60) : ((∀ post : Int32 → Prop, post 0 → wpX_isRange post (nI c, p, kc, kp, ch, O, W, M, KO, KW, KM, CH) x y) ∧ (∀ post : Int32 → Prop, post 1 → wpY_badRange post (nI c, ln, nw, ch', oc, od, N, V, M', ON, OV, OM, LS) x y)) ∨ ∃ a s, 0 < s ∧ a + s ≤ c ∧ x = nI (a + 1) ∧ y = nI (a + s) ∧ (∀ post : Int32 → Prop, post 1 → wpX_isRange post (nI c, p, kc, kp, ch, O, W, M, KO, KW, KM, CH) x y) ∧ (∀ post : Int32 → Prop, post 0 → wpY_badRange post (nI c, ln, nw, ch', oc, od, N, V, M', ON, OV, OM, LS) x y) := by
  by_cases h : x < 1
  · exact Or.inl ⟨fun post hp => br_t h hp, fun post hp => br_t h hp⟩
  · by_cases h2 : y < x
    · exact Or.inl ⟨fun post hp => br_f h (br_t h2 hp), fun post hp => br_f h (br_t h2 hp)⟩
    · rcases dz_line y hc with h3 | ⟨_, h4⟩ | ⟨j, hj, rfl⟩
      · exact absurd (Int32.lt_of_le_of_lt (Int32.not_lt.mp h2) h3) h
      · exact Or.inl ⟨fun post hp => br_f h (br_f h2 (br_t h4 hp)), fun post hp => br_f h (br_f h2 (br_f (Int32.not_le.mpr h4) hp))⟩
      · rcases dz_line x hc with h5 | ⟨_, h6⟩ | ⟨i, hi, rfl⟩
        · exact absurd h5 h
        · exact absurd (Int32.lt_of_le_of_lt (nI_le (a := j + 1) (b := c) (by omega) (by omega)) h6) h2
        · have hij : i ≤ j := by
            rw [nI_ltI (by omega) (by omega)] at h2
            omega
          refine Or.inr ⟨i, j + 1 - i, by omega, by omega, rfl, congrArg nI (by omega), fun post hp => br_f h (br_f h2 (br_f (nI_nlt (by omega) (by omega)) hp)), fun post hp => br_f h (br_f h2 (br_t (nI_le (by omega) (by omega)) hp))⟩
/-- the number of the line that a mark or the present line names -/
theorem dz_num {c L : Nat} {x y : Int32} (T : ds_T c O W N V L) (hL : L < 2 ^ 31) (hm : ds_mr c O N x y) : ∃ r, r ≤ c ∧ (∀ post : Int32 → Prop, post (nI r) → wpX_numberOf post (nI c, p, kc, kp, ch, O, W, M, KO, KW, KM, CH) x) ∧ (∀ post : Int32 → Prop, post (nI r) → ((y = 0 → post 0) ∧ (¬ y = 0 → wpY_placeOf (fun r => post (r + 1)) (nI c, ln, nw, ch', oc, od, N, V, M', ON, OV, OM, LS) y))) := by
  obtain ⟨h1, h2, h3, h4, h5, h6⟩ := T
  rcases hm with ⟨rfl, rfl⟩ | ⟨i, hi, rfl, rfl⟩
  · exact ⟨0, by omega, fun post hp => dx_num_no h1 (fun j hj => ds_vm1 (h2 j (by omega))) hp, fun post hp => br_t rfl hp⟩
  · have hne : ¬ N i = 0 := by
      obtain ⟨n, a, b, e⟩ := h5 i hi
      rw [e]
      exact nI_ne0 a (by omega)
    refine ⟨i + 1, by omega, fun post hp => dx_num_at h1 hi rfl (fun j hj e => ?_) hp, fun post hp => br_f hne (dy_pl_at h1 hi rfl (fun j hj e => ?_) ?_)⟩
    · have := h3 j i (by omega) (by omega) e
      omega
    · have := h6 j i (by omega) (by omega) e
      omega
    · show post (nI i + 1)
      rw [nI_1]
      exact hp
end
theorem ds_Mk_upd {c m : Nat} {O N M M' : Nat → Int32} {x y : Int32} (h : ds_Mk c O N M M') (hm : ds_mr c O N x y) : ds_Mk c O N (upd M m x) (upd M' m y) := by
  intro j hj
  by_cases z : j = m
  · rw [z, pk_us, pk_us]; exact hm
  · rw [pk_un z, pk_un z]; exact h j hj
theorem i_vc_lines {k : Nat} {u : SX} {v : SY} (I : i_Rel k u v) (hk : k + 5 ≤ 2560) : wpX_lines (fun r => wpY_lines (fun r' => r' = r ∧ i_Rel (k + 5) u v) v) u := by
  have I' := i_up I
  obtain ⟨c, kc, L, ch, p, kp, q, kq, O, W, M, KO, KW, KM, CH, N, V, M', KN, KV, KM', LS, rfl, rfl, hL, hS, hK⟩ := I
  exact ⟨rfl, I'⟩
theorem i_vc_present {k : Nat} {u : SX} {v : SY} (I : i_Rel k u v) (hk : k + 5 ≤ 2560) : wpX_present (fun r => wpY_present (fun r' => r' = r ∧ i_Rel (k + 5) u v) v) u := by
  have I' := i_up I
  obtain ⟨c, kc, L, ch, p, kp, q, kq, O, W, M, KO, KW, KM, CH, N, V, M', KN, KV, KM', LS, rfl, rfl, hL, hS, hK⟩ := I
  obtain ⟨r, hr, hX, hY⟩ := dz_num hS.1 (by omega) hS.2.2
  unfold wpX_present
  dsimp only
  refine hX _ ?_
  exact hY (fun r' => r' = nI r ∧ i_Rel (k + 5) _ _) ⟨rfl, I'⟩
theorem i_vc_marked {k : Nat} {u : SX} {v : SY} (I : i_Rel k u v) (hk : k + 5 ≤ 2560) (v1 : Int32) : wpX_marked (fun r => wpY_marked (fun r' => r' = r ∧ i_Rel (k + 5) u v) v v1) u v1 := by
  have I' := i_up I
  obtain ⟨c, kc, L, ch, p, kp, q, kq, O, W, M, KO, KW, KM, CH, N, V, M', KN, KV, KM', LS, rfl, rfl, hL, hS, hK⟩ := I
  obtain ⟨j, hj, ej⟩ := pk_andE v1 (m := 3) 2 (by decide)
  have hin : vp_in (v1 &&& 3) 4 := by rw [ej]; exact vp_in_nI hj (by decide)
  have ec : (v1 &&& 3).toNatClampNeg = j := by rw [ej]; exact nI_clamp (by omega)
  obtain ⟨r, hr, hX, hY⟩ := dz_num hS.1 (by omega) (hS.2.1 j hj)
  unfold wpX_marked
  dsimp only
  refine ⟨hin, ?_⟩
  rw [ec]
  refine hX _ ?_
  refine And.intro hin (fun y ey => ?_)
  rw [ec] at ey
  subst ey
  exact hY (fun r' => r' = nI r ∧ i_Rel (k + 5) _ _) ⟨rfl, I'⟩
theorem i_vc_line {k : Nat} {u : SX} {v : SY} (I : i_Rel k u v) (hk : k + 5 ≤ 2560) (v1 : Int32) : wpX_line (fun r => wpY_line (fun r' => r' = r ∧ i_Rel (k + 5) u v) v v1) u v1 := by
  have I' := i_up I
  obtain ⟨c, kc, L, ch, p, kp, q, kq, O, W, M, KO, KW, KM, CH, N, V, M', KN, KV, KM', LS, rfl, rfl, hL, hS, hK⟩ := I
  have hc : c ≤ 60 := hS.1.1
  unfold wpX_line wpX_isLine
  dsimp only
  rcases dz_line v1 hc with h | ⟨h, h2⟩ | ⟨j, hj, rfl⟩
  · exact br_t h (br_t rfl (br_t h ⟨rfl, I'⟩))
  · exact br_f h (br_t h2 (br_t rfl (br_f h (br_f (Int32.not_le.mpr h2) ⟨rfl, I'⟩))))
  · have h1 : ¬ nI (j + 1) < 1 := nI_nlt (b := 1) (by omega) (by omega)
    refine br_f h1 (br_f (nI_nlt (by omega) (by omega)) (br_f (by decide) ?_))
    rw [nI_pred, nI_clamp (by omega)]
    refine ⟨vp_in_nI (by omega) (by decide), hS.1.2.1 j (by omega), ?_⟩
    refine br_f h1 (br_t (nI_le (by omega) (by omega)) ?_)
    rw [nI_pred, nI_clamp (by omega)]
    exact ⟨vp_in_nI (by omega) (by decide), hS.1.2.2.2.1 j hj, I'⟩
theorem i_vc_go {k : Nat} {u : SX} {v : SY} (I : i_Rel k u v) (hk : k + 5 ≤ 2560) (v1 : Int32) : wpX_go (fun r u' => wpY_go (fun r' v' => r' = r ∧ i_Rel (k + 5) u' v') v v1) u v1 := by
  have I' := i_up I
  obtain ⟨c, kc, L, ch, p, kp, q, kq, O, W, M, KO, KW, KM, CH, N, V, M', KN, KV, KM', LS, rfl, rfl, hL, hS, hK⟩ := I
  have hc : c ≤ 60 := hS.1.1
  unfold wpX_go wpX_isLine
  dsimp only
  rcases dz_line v1 hc with h | ⟨h, h2⟩ | ⟨j, hj, rfl⟩
  · exact br_t h (br_t rfl (br_t h ⟨rfl, I'⟩))
  · exact br_f h (br_t h2 (br_t rfl (br_f h (br_f (Int32.not_le.mpr h2) ⟨rfl, I'⟩))))
  · have h1 : ¬ nI (j + 1) < 1 := nI_nlt (b := 1) (by omega) (by omega)
    refine br_f h1 (br_f (nI_nlt (by omega) (by omega)) (br_f (by decide) ?_))
    rw [nI_pred, nI_clamp (by omega)]
    refine ⟨vp_in_nI (by omega) (by decide), fun z ez => ?_⟩
    subst ez
    refine ⟨hS.1.2.1 j (by omega), ?_⟩
    refine br_f h1 (br_t (nI_le (by omega) (by omega)) ?_)
    rw [nI_pred, nI_clamp (by omega)]
    refine ⟨vp_in_nI (by omega) (by decide), fun z ez => ⟨vp_in_nI (by omega) (by decide), hS.1.2.2.2.1 j hj, ?_⟩⟩
    subst ez
    exact dz_mk (by omega) ⟨hS.1, hS.2.1, Or.inr ⟨j, hj, rfl, rfl⟩⟩ hK
theorem i_vc_mark {k : Nat} {u : SX} {v : SY} (I : i_Rel k u v) (hk : k + 5 ≤ 2560) (v1 : Int32) (v2 : Int32) : wpX_mark (fun r u' => wpY_mark (fun r' v' => r' = r ∧ i_Rel (k + 5) u' v') v v1 v2) u v1 v2 := by
  have I' := i_up I
  obtain ⟨c, kc, L, ch, p, kp, q, kq, O, W, M, KO, KW, KM, CH, N, V, M', KN, KV, KM', LS, rfl, rfl, hL, hS, hK⟩ := I
  have hc : c ≤ 60 := hS.1.1
  obtain ⟨m, hm, em⟩ := pk_andE v1 (m := 3) 2 (by decide)
  have hin : vp_in (v1 &&& 3) 4 := by rw [em]; exact vp_in_nI hm (by decide)
  have ec : (v1 &&& 3).toNatClampNeg = m := by rw [em]; exact nI_clamp (by omega)
  unfold wpX_mark
  dsimp only
  rcases dz_place v2 hc with ⟨hX, hb⟩ | ⟨j, hj, rfl, hX⟩
  · refine hX _ (br_t rfl ?_)
    rcases hb with h | ⟨h, h2⟩
    · exact br_t h ⟨rfl, I'⟩
    · exact br_f h (br_f (Int32.not_le.mpr h2) ⟨rfl, I'⟩)
  · refine hX _ (br_f (by decide) ?_)
    have h0 : ¬ nI j < 0 := nI_pos (by omega)
    have h1 : nI j ≤ nI c := nI_le hj (by omega)
    by_cases hz : j = 0
    · subst hz
      refine br_t rfl ⟨hin, fun A eA => ?_⟩
      refine br_f h0 (br_t h1 (br_t rfl ⟨hin, fun B eB => ⟨rfl, ?_⟩⟩))
      rw [ec] at eA eB
      subst eA eB
      exact dz_mk (by omega) ⟨hS.1, ds_Mk_upd hS.2.1 (Or.inl ⟨rfl, rfl⟩), hS.2.2⟩ hK
    · obtain ⟨i, rfl⟩ : ∃ i, j = i + 1 := ⟨j - 1, by omega⟩
      have hn : ¬ nI (i + 1) = 0 := nI_ne0 (by omega) (by omega)
      have hi : vp_in (nI (i + 1) - 1) 60 := by rw [nI_pred]; exact vp_in_nI (by omega) (by decide)
      refine br_f hn ⟨hi, hin, fun A eA => ?_⟩
      refine br_f h0 (br_t h1 (br_f hn ⟨hi, hin, fun B eB => ⟨rfl, ?_⟩⟩))
      rw [ec, nI_pred, nI_clamp (by omega)] at eA eB
      subst eA eB
      exact dz_mk (by omega) ⟨hS.1, ds_Mk_upd hS.2.1 (Or.inr ⟨i, by omega, rfl, rfl⟩), hS.2.2⟩ hK
theorem i_vc_undo {k : Nat} {u : SX} {v : SY} (I : i_Rel k u v) (hk : k + 5 ≤ 2560) : wpX_undo (fun r u' => wpY_undo (fun r' v' => r' = r ∧ i_Rel (k + 5) u' v') v) u := by
  have I' := i_up I
  obtain ⟨c, kc, L, ch, p, kp, q, kq, O, W, M, KO, KW, KM, CH, N, V, M', KN, KV, KM', LS, rfl, rfl, hL, hS, hK⟩ := I
  by_cases h : ch = 0
  · exact br_t h (br_t h ⟨rfl, I'⟩)
  · have hK' := hK.resolve_left h
    refine br_f h ?_
    refine dx_sl ?_
    refine dx_sm ?_
    refine dy_undo h ?_
    exact ⟨rfl, dz_mk (by omega) (ds_S_cp hK') (Or.inr (ds_S_cp hS))⟩
theorem i_vc_put {k : Nat} {u : SX} {v : SY} (I : i_Rel k u v) (hk : k + 5 ≤ 2560) (v1 : Int32) (v2 : Int32) : wpX_put (fun r u' => wpY_put (fun r' v' => r' = r ∧ i_Rel (k + 5) u' v') v v1 v2) u v1 v2 := by
  have I' := i_up I
  obtain ⟨c, kc, L, ch, p, kp, q, kq, O, W, M, KO, KW, KM, CH, N, V, M', KN, KV, KM', LS, rfl, rfl, hL, hS, hK⟩ := I
  have hc : c ≤ 60 := hS.1.1
  unfold wpX_put
  dsimp only
  rcases dz_place v1 hc with ⟨hX, hb⟩ | ⟨j, hj, rfl, hX⟩
  · refine hX _ (br_t rfl ?_)
    rcases hb with h | ⟨h, h2⟩
    · exact br_t h ⟨rfl, I'⟩
    · exact br_f h (br_t h2 ⟨rfl, I'⟩)
  · refine hX _ (br_f (by decide) ?_)
    have h0 : ¬ nI j < 0 := nI_pos (by omega)
    have h1 : ¬ nI c < nI j := nI_nlt hj (by omega)
    by_cases h60 : c = 60
    · subst h60
      exact br_f (by decide) (br_f h0 (br_f h1 (br_t rfl ⟨rfl, I'⟩)))
    · refine br_t (nI_lt (b := 60) (by omega) (by decide)) ?_
      refine dx_keep ?_
      refine dx_append (by omega) (hS.1.2.1 c (by omega)) ?_
      dsimp only
      rw [nI_pred]
      refine dx_shift (by omega) (by omega) ?_
      refine And.intro (vp_in_nI (by omega) (by decide)) (fun z ez => ?_)
      rw [nI_clamp (by omega)] at ez
      refine br_f h0 (br_f h1 (br_f (fun e => h60 ((nI_eq (b := 60) (by omega) (by decide)).mp e)) ?_))
      refine dy_save ?_
      intro l el
      rw [nI_1] at el
      subst el
      refine dy_insert hj (by omega) ?_
      refine And.intro rfl ?_
      have T := ds_T_shift (t := j) (ds_T_app (ds_T_setW (v := v2) hS.1 (Nat.le_refl c) (by omega)) (by omega) (v := v2) pk_us.symm (by omega)) (Nat.lt_succ_self c) (by omega)
      refine dz_mk (by omega) ⟨T, ds_Mk_shift (ds_Mk_app hS.2.1) (by omega) (by omega), Or.inr ⟨j, by omega, ez, ?_⟩⟩ (Or.inr (ds_S_cp (ds_S_mono hS (by omega))))
      show nI (L + 1) = upd N c (nI (L + 1)) (ds_sh c j j)
      rw [ds_sh_c1 rfl, pk_us]
