/-! all: the lines are chosen, then treated one by one -/
def ds_ch (O N : Nat → Int32) (i n : Nat) (CH LS : Nat → Int32) : Prop := n ≤ i ∧ ∃ g : Nat → Nat, (∀ j, j < n → g j < i ∧ CH j = O (g j) ∧ LS j = N (g j)) ∧ (∀ j j', j < j' → j' < n → g j < g j')
theorem ds_ch_s {O N CH LS : Nat → Int32} {i n : Nat} (h : ds_ch O N i n CH LS) : ds_ch O N (i + 1) n CH LS := by
  obtain ⟨h1, g, h2, h3⟩ := h
  exact ⟨by omega, g, fun j hj => ⟨by have := (h2 j hj).1; omega, (h2 j hj).2⟩, h3⟩
theorem ds_ch_a {O N CH LS : Nat → Int32} {i n : Nat} (h : ds_ch O N i n CH LS) : ds_ch O N (i + 1) (n + 1) (upd CH n (O i)) (upd LS n (N i)) := by
  obtain ⟨h1, g, h2, h3⟩ := h
  refine ⟨by omega, fun j => if j = n then i else g j, fun j hj => ?_, fun j j' hj hj' => ?_⟩
  · by_cases z : j = n
    · dsimp only
      rw [if_pos z, z, pk_us, pk_us]
      exact ⟨by omega, rfl, rfl⟩
    · dsimp only
      rw [if_neg z, pk_un z, pk_un z]
      exact ⟨by have := (h2 j (by omega)).1; omega, (h2 j (by omega)).2⟩
  · dsimp only
    rw [if_neg (show ¬ j = n by omega)]
    by_cases z : j' = n
    · rw [if_pos z]
      exact (h2 j (by omega)).1
    · rw [if_neg z]
      exact h3 j j' hj (by omega)
section
variable {p kc kp ch : Int32} {O W M KO KW KM CH : Nat → Int32} {ln nw ch' oc od : Int32} {N V M' ON OV OM LS : Nat → Int32}
theorem dz_choose {c L : Nat} {x x2 : Int32} (T : ds_T c O W N V L) : ∀ d i n (CH LS : Nat → Int32), i + d = c → ds_ch O N i n CH LS → ∃ (n' : Nat) (CH' LS' : Nat → Int32), ds_ch O N c n' CH' LS' ∧
    (∀ post : Int32 → SX → Prop, post (nI n') (nI c, p, kc, kp, ch, O, W, M, KO, KW, KM, CH') → ∀ f, d < f → wX_chooseLines_4 post x (nI c) p kc kp ch f (nI n) (nI i) O W M KO KW KM CH) ∧
    (∀ post : Int32 → SY → Prop, (∃ n65, wY_all_65 post x2 (nI n') n65 0 (nI c) ln nw ch' oc od N V M' ON OV OM LS') → ∀ f, d < f → wY_all_20 post x x2 (nI c) ln nw ch' oc od f (nI n) (nI i) N V M' ON OV OM LS) := by
  obtain ⟨h1, h2, h3, h4, h5, h6⟩ := T
  intro d
  induction d with
  | zero =>
    intro i n CH LS hi hc
    obtain rfl : i = c := by omega
    have h : nI i ≤ nI i := nI_le (Nat.le_refl _) (by omega)
    refine ⟨n, CH, LS, hc, fun post hp f hf => ?_, fun post hp f hf => ?_⟩
    · obtain ⟨m, rfl⟩ := dx_pre hf
      exact br_t h hp
    · obtain ⟨m, rfl⟩ := dx_pre hf
      exact br_t h hp
  | succ d ih =>
    intro i n CH LS hi hc
    have h : ¬ nI c ≤ nI i := nI_ge (by omega) (by omega)
    have hin : vp_in (nI i) 60 := vp_in_nI (by omega) (by decide)
    have ec : (nI i).toNatClampNeg = i := nI_clamp (by omega)
    have hn : n ≤ i := hc.1
    have hnn : vp_in (nI n) 60 := vp_in_nI (by omega) (by decide)
    have en : (nI n).toNatClampNeg = n := nI_clamp (by omega)
    have hO : vp_in (O i) 60 := h2 i (by omega)
    have hV : V i = W (O i).toNatClampNeg := h4 i (by omega)
    by_cases z : V i = x
    · obtain ⟨n', CH', LS', hc', hX, hY⟩ := ih (i + 1) (n + 1) _ _ (by omega) (ds_ch_a hc)
      refine ⟨n', CH', LS', hc', fun post hp f hf => ?_, fun post hp f hf => ?_⟩
      · obtain ⟨m, rfl⟩ := dx_pre hf
        refine br_f h ?_
        rw [ec]
        refine ⟨hin, hO, br_t (hV.symm.trans z) ⟨hin, hnn, fun A eA a ea b eb => ?_⟩⟩
        subst eA ea eb
        rw [en, nI_1, nI_1]
        exact hX post hp m (by omega)
      · obtain ⟨m, rfl⟩ := dx_pre hf
        refine br_f h ?_
        rw [ec]
        refine ⟨hin, br_t z ⟨hin, hnn, fun A eA a ea b eb => ?_⟩⟩
        subst eA ea eb
        rw [en, nI_1, nI_1]
        exact hY post hp m (by omega)
    · obtain ⟨n', CH', LS', hc', hX, hY⟩ := ih (i + 1) n CH LS (by omega) (ds_ch_s hc)
      refine ⟨n', CH', LS', hc', fun post hp f hf => ?_, fun post hp f hf => ?_⟩
      · obtain ⟨m, rfl⟩ := dx_pre hf
        refine br_f h ?_
        rw [ec]
        refine ⟨hin, hO, br_f (fun w => z (hV.trans w)) (fun b eb => ?_)⟩
        subst eb
        rw [nI_1]
        exact hX post hp m (by omega)
      · obtain ⟨m, rfl⟩ := dx_pre hf
        refine br_f h ?_
        rw [ec]
        refine ⟨hin, br_f z (fun b eb => ?_)⟩
        subst eb
        rw [nI_1]
        exact hY post hp m (by omega)
/-! one line is treated: the component's walk, a theorem a kind -/
theorem dx_tr {post : SX → Prop} {b i : Nat} {k : Int32} (hb : b < 60) (hi : i ≤ b) (hne : ∀ j, j < i → O j ≠ O i) (H : (k < 0 → wpX_swapWithNext (fun u => match u with | (b0, b1, b2, b3, b4, b5, b6, b7, b8, b9, b10, b11) => post (b0, b1, b2, b3, b4, b5, b6, b7, b8, b9, b10, b11)) (nI (b + 1), p, kc, kp, ch, O, W, M, KO, KW, KM, CH) (nI i)) ∧ (¬ k < 0 → (3 < k → wpX_swapWithNext (fun u => match u with | (b0, b1, b2, b3, b4, b5, b6, b7, b8, b9, b10, b11) => post (b0, b1, b2, b3, b4, b5, b6, b7, b8, b9, b10, b11)) (nI (b + 1), p, kc, kp, ch, O, W, M, KO, KW, KM, CH) (nI i)) ∧ (¬ 3 < k → (k = 0 → wpX_dropLine (fun u => match u with | (b0, b1, b2, b3, b4, b5, b6, b7, b8, b9, b10, b11) => post (b0, b1, b2, b3, b4, b5, b6, b7, b8, b9, b10, b11)) (nI (b + 1), p, kc, kp, ch, O, W, M, KO, KW, KM, CH) (nI i)) ∧ (¬ k = 0 → (k = 1 → wpX_shiftLine (fun u => match u with | (b0, b1, b2, b3, b4, b5, b6, b7, b8, b9, b10, b11) => post (b0, b1, b2, b3, b4, b5, b6, b7, b8, b9, b10, b11)) (nI (b + 1), p, kc, kp, ch, O, W, M, KO, KW, KM, CH) (nI i) 0) ∧ (¬ k = 1 → (k = 2 → wpX_shiftLine (fun u => match u with | (b0, b1, b2, b3, b4, b5, b6, b7, b8, b9, b10, b11) => post (b0, b1, b2, b3, b4, b5, b6, b7, b8, b9, b10, b11)) (nI (b + 1), p, kc, kp, ch, O, W, M, KO, KW, KM, CH) (nI i) (nI (b + 1) - 1)) ∧ (¬ k = 2 → (k = 3 → wpX_doubleLine (fun u => match u with | (b0, b1, b2, b3, b4, b5, b6, b7, b8, b9, b10, b11) => post (b0, b1, b2, b3, b4, b5, b6, b7, b8, b9, b10, b11)) (nI (b + 1), p, kc, kp, ch, O, W, M, KO, KW, KM, CH) (nI i)) ∧ (¬ k = 3 → True))))))) : wpX_treatLine post (nI (b + 1), p, kc, kp, ch, O, W, M, KO, KW, KM, CH) (O i) k := by
  unfold wpX_treatLine
  dsimp only
  refine dx_num_at (by omega) (by omega : i < b + 1) rfl hne ?_
  intro y ey
  rw [nI_pred] at ey
  subst ey
  exact br_t (nI_pos' (by omega)) H
theorem dx_tr0 {post : SX → Prop} {b i : Nat} (hb : b < 60) (hi : i ≤ b) (hne : ∀ j, j < i → O j ≠ O i) (hp : post (nI b, p, kc, kp, ch, ds_sf O i b, W, ds_fg M (O i) (-1) 4, KO, KW, KM, CH)) : wpX_treatLine post (nI (b + 1), p, kc, kp, ch, O, W, M, KO, KW, KM, CH) (O i) (nI 0) := by
  refine dx_tr hb hi hne (br_f (by decide) (br_f (by decide) (br_t rfl ?_)))
  exact dx_drop hi hb hp
theorem dx_tr1 {post : SX → Prop} {b i : Nat} (hb : b < 60) (hi : i ≤ b) (hne : ∀ j, j < i → O j ≠ O i) (hp : post (nI (b + 1), p, kc, kp, ch, ds_sf O i 0, W, M, KO, KW, KM, CH)) : wpX_treatLine post (nI (b + 1), p, kc, kp, ch, O, W, M, KO, KW, KM, CH) (O i) (nI 1) := by
  refine dx_tr hb hi hne (br_f (by decide) (br_f (by decide) (br_f (by decide) (br_t rfl ?_))))
  exact dx_shift (t := 0) (by omega) (by omega) hp
theorem dx_tr2 {post : SX → Prop} {b i : Nat} (hb : b < 60) (hi : i ≤ b) (hne : ∀ j, j < i → O j ≠ O i) (hp : post (nI (b + 1), p, kc, kp, ch, ds_sf O i b, W, M, KO, KW, KM, CH)) : wpX_treatLine post (nI (b + 1), p, kc, kp, ch, O, W, M, KO, KW, KM, CH) (O i) (nI 2) := by
  refine dx_tr hb hi hne (br_f (by decide) (br_f (by decide) (br_f (by decide) (br_f (by decide) (br_t rfl ?_)))))
  rw [nI_pred]
  exact dx_shift (by omega) hb hp
theorem dx_tr3 {post : SX → Prop} {b i : Nat} (hb : b + 1 < 60) (hi : i ≤ b) (hne : ∀ j, j < i → O j ≠ O i) (hO : ∀ j, j < 60 → vp_in (O j) 60) (hp : post (nI (b + 2), p, kc, kp, ch, ds_sf O (b + 1) (i + 1), upd W (O (b + 1)).toNatClampNeg (W (O i).toNatClampNeg), M, KO, KW, KM, CH)) : wpX_treatLine post (nI (b + 1), p, kc, kp, ch, O, W, M, KO, KW, KM, CH) (O i) (nI 3) := by
  refine dx_tr (by omega) hi hne (br_f (by decide) (br_f (by decide) (br_f (by decide) (br_f (by decide) (br_f (by decide) (br_t rfl ?_))))))
  unfold wpX_doubleLine
  dsimp only
  refine br_f (nI_ge (b := 60) (by omega) (by decide)) ?_
  rw [nI_clamp (by omega)]
  refine ⟨vp_in_nI (by omega) (by decide), hO i (by omega), ?_⟩
  refine dx_append hb (hO _ hb) ?_
  dsimp only
  rw [nI_pred, nI_1 i]
  exact dx_shift (by omega) (by omega) hp
theorem dx_tr3f {post : SX → Prop} {i : Nat} (hi : i ≤ 59) (hne : ∀ j, j < i → O j ≠ O i) (hp : post (nI 60, p, kc, kp, ch, O, W, M, KO, KW, KM, CH)) : wpX_treatLine post (nI (59 + 1), p, kc, kp, ch, O, W, M, KO, KW, KM, CH) (O i) (nI 3) := by
  refine dx_tr (by omega) hi hne (br_f (by decide) (br_f (by decide) (br_f (by decide) (br_f (by decide) (br_f (by decide) (br_t rfl ?_))))))
  unfold wpX_doubleLine
  dsimp only
  exact br_t (by decide) hp
theorem dx_tr4 {post : SX → Prop} {b i : Nat} (hb : b < 60) (hi : i < b) (hne : ∀ j, j < i → O j ≠ O i) (hp : post (nI (b + 1), p, kc, kp, ch, ds_sf O i (i + 1), W, M, KO, KW, KM, CH)) : wpX_treatLine post (nI (b + 1), p, kc, kp, ch, O, W, M, KO, KW, KM, CH) (O i) (nI 4) := by
  refine dx_tr hb (by omega) hne (br_f (by decide) (br_t (by decide) ?_))
  unfold wpX_swapWithNext
  dsimp only
  rw [nI_1 i]
  refine br_f (nI_ge (by omega) (by omega)) ?_
  exact dx_shift (by omega) (by omega) hp
theorem dx_tr4f {post : SX → Prop} {b : Nat} (hb : b < 60) (hne : ∀ j, j < b → O j ≠ O b) (hp : post (nI (b + 1), p, kc, kp, ch, O, W, M, KO, KW, KM, CH)) : wpX_treatLine post (nI (b + 1), p, kc, kp, ch, O, W, M, KO, KW, KM, CH) (O b) (nI 4) := by
  refine dx_tr hb (Nat.le_refl b) hne (br_f (by decide) (br_t (by decide) ?_))
  unfold wpX_swapWithNext
  dsimp only
  rw [nI_1 b]
  exact br_t (nI_le (Nat.le_refl _) (by omega)) hp
/-! the same of the reference -/
theorem dy_on0 {post : SY → Prop} {b i : Nat} (hb : b < 60) (hi : i ≤ b) (hp : post (nI b, ln, nw, ch', oc, od, ds_dn N i b, ds_dn V i b, ds_fg M' (N i) 0 4, ON, OV, OM, LS)) : wpY_one post (nI (b + 1), ln, nw, ch', oc, od, N, V, M', ON, OV, OM, LS) (nI i) (nI 0) := by
  unfold wpY_one
  dsimp only
  refine br_t rfl ?_
  rw [nI_clamp (by omega)]
  refine ⟨vp_in_nI (by omega) (by decide), ?_⟩
  refine dy_forget ?_
  refine dy_take hi hb ?_
  exact br_f (by decide) (br_f (by decide) (br_f (by decide) (br_f (by decide) hp)))
theorem dy_on1 {post : SY → Prop} {b i : Nat} (hb : b < 60) (hi : i ≤ b) (hp : post (nI (b + 1), ln, nw, ch', oc, od, ds_sf N i 0, ds_sf V i 0, M', ON, OV, OM, LS)) : wpY_one post (nI (b + 1), ln, nw, ch', oc, od, N, V, M', ON, OV, OM, LS) (nI i) (nI 1) := by
  refine br_f (by decide) (br_t rfl ?_)
  refine dy_shift (t := 0) hi (by omega) hb ?_
  exact br_f (by decide) (br_f (by decide) (br_f (by decide) hp))
theorem dy_on2 {post : SY → Prop} {b i : Nat} (hb : b < 60) (hi : i ≤ b) (hp : post (nI (b + 1), ln, nw, ch', oc, od, ds_sf N i b, ds_sf V i b, M', ON, OV, OM, LS)) : wpY_one post (nI (b + 1), ln, nw, ch', oc, od, N, V, M', ON, OV, OM, LS) (nI i) (nI 2) := by
  refine br_f (by decide) (br_f (by decide) (br_t rfl ?_))
  rw [nI_pred]
  refine dy_shift hi (Nat.le_refl b) hb ?_
  exact br_f (by decide) (br_f (by decide) hp)
theorem dy_on3 {post : SY → Prop} {b i L : Nat} (hb : b + 1 < 60) (hi : i ≤ b) (hp : post (nI (b + 2), nI (L + 1), nw, ch', oc, od, ds_sf (upd N (b + 1) (nI (L + 1))) (b + 1) (i + 1), ds_sf (upd V (b + 1) (V i)) (b + 1) (i + 1), M', ON, OV, OM, LS)) : wpY_one post (nI (b + 1), nI L, nw, ch', oc, od, N, V, M', ON, OV, OM, LS) (nI i) (nI 3) := by
  refine br_f (by decide) (br_f (by decide) (br_f (by decide) (br_t rfl (br_f (nI_ge (b := 60) (by omega) (by decide)) ?_))))
  intro y ey
  rw [nI_1 L] at ey
  subst ey
  rw [nI_clamp (by omega), nI_1 i]
  refine ⟨vp_in_nI (by omega) (by decide), ?_⟩
  refine dy_insert (by omega) hb ?_
  exact br_f (by decide) hp
theorem dy_on3f {post : SY → Prop} {i : Nat} (hp : post (nI 60, ln, nw, ch', oc, od, N, V, M', ON, OV, OM, LS)) : wpY_one post (nI (59 + 1), ln, nw, ch', oc, od, N, V, M', ON, OV, OM, LS) (nI i) (nI 3) := by
  exact br_f (by decide) (br_f (by decide) (br_f (by decide) (br_t rfl (br_t (by decide) (br_f (by decide) hp)))))
theorem dy_on4 {post : SY → Prop} {b i : Nat} (hb : b < 60) (hi : i < b) (hp : post (nI (b + 1), ln, nw, ch', oc, od, ds_sf N i (i + 1), ds_sf V i (i + 1), M', ON, OV, OM, LS)) : wpY_one post (nI (b + 1), ln, nw, ch', oc, od, N, V, M', ON, OV, OM, LS) (nI i) (nI 4) := by
  refine br_f (by decide) (br_f (by decide) (br_f (by decide) (br_f (by decide) (br_t rfl ?_))))
  rw [nI_1 i]
  refine br_f (nI_ge (by omega) (by omega)) ?_
  exact dy_shift (by omega) (by omega) hb hp
theorem dy_on4f {post : SY → Prop} {b : Nat} (hb : b < 60) (hp : post (nI (b + 1), ln, nw, ch', oc, od, N, V, M', ON, OV, OM, LS)) : wpY_one post (nI (b + 1), ln, nw, ch', oc, od, N, V, M', ON, OV, OM, LS) (nI b) (nI 4) := by
  refine br_f (by decide) (br_f (by decide) (br_f (by decide) (br_f (by decide) (br_t rfl ?_))))
  rw [nI_1 b]
  exact br_t (nI_le (Nat.le_refl _) (by omega)) hp
end
