section
variable {p kc kp ch : Int32} {O W M KO KW KM CH : Nat → Int32} {ln nw ch' oc od : Int32} {N V M' ON OV OM LS : Nat → Int32}
/-! find: both loops, one answer -/
theorem dz_find {c L r : Nat} {x : Int32} (T : ds_T c O W N V L) (hr : r ≤ c) : ∀ d k, k + d = c → ∃ res : Int32, (∀ post : Int32 → Prop, post res → ∀ n, d < n → wX_find_11 post x (nI r) (nI c) p kc kp ch O W M KO KW KM CH n (nI k)) ∧ (∀ post : Int32 → Prop, post res → ∀ n, d < n → wY_find_7 post x (nI r) (nI c) ln nw ch' oc od N V M' ON OV OM LS n (nI k)) := by
  obtain ⟨h1, h2, h3, h4, h5, h6⟩ := T
  intro d
  induction d with
  | zero =>
    intro k hk
    have h : nI c ≤ nI k := nI_le (by omega) (by omega)
    refine ⟨0, fun post hp n hn => ?_, fun post hp n hn => ?_⟩
    · obtain ⟨m, rfl⟩ := dx_pre hn
      exact br_t h hp
    · obtain ⟨m, rfl⟩ := dx_pre hn
      exact br_t h hp
  | succ d ih =>
    intro k hk
    have h : ¬ nI c ≤ nI k := nI_ge (by omega) (by omega)
    have hz : ¬ nI c = 0 := nI_ne0 (by omega) (by omega)
    have e : nI r + nI k - (nI r + nI k) / nI c * nI c = nI ((r + k) % c) := by
      rw [nI_add, pk_rem (by omega) (by omega) (by omega)]
    have hi : (r + k) % c < c := Nat.mod_lt _ (by omega)
    generalize (r + k) % c = i at e hi
    have hin : vp_in (nI i) 60 := vp_in_nI (by omega) (by decide)
    have ec : (nI i).toNatClampNeg = i := nI_clamp (by omega)
    by_cases z : V i = x
    · refine ⟨nI i + 1, fun post hp n hn => ?_, fun post hp n hn => ?_⟩
      · obtain ⟨m, rfl⟩ := dx_pre hn
        refine br_f h ⟨hz, fun y ey => ?_⟩
        rw [e] at ey
        subst ey
        rw [ec]
        exact ⟨hin, h2 i (by omega), br_t ((h4 i hi).symm.trans z) hp⟩
      · obtain ⟨m, rfl⟩ := dx_pre hn
        refine br_f h ⟨hz, fun y ey => ?_⟩
        rw [e] at ey
        subst ey
        rw [ec]
        exact ⟨hin, br_t z hp⟩
    · obtain ⟨res, hX, hY⟩ := ih (k + 1) (by omega)
      refine ⟨res, fun post hp n hn => ?_, fun post hp n hn => ?_⟩
      · obtain ⟨m, rfl⟩ := dx_pre hn
        refine br_f h ⟨hz, fun y ey => ?_⟩
        rw [e] at ey
        subst ey
        rw [ec]
        refine ⟨hin, h2 i (by omega), br_f (fun w => z ((h4 i hi).trans w)) (fun y ey => ?_)⟩
        subst ey
        rw [nI_1]
        exact hX post hp m (by omega)
      · obtain ⟨m, rfl⟩ := dx_pre hn
        refine br_f h ⟨hz, fun y ey => ?_⟩
        rw [e] at ey
        subst ey
        rw [ec]
        refine ⟨hin, br_f z (fun y ey => ?_)⟩
        subst ey
        rw [nI_1]
        exact hY post hp m (by omega)
/-! replace: both loops, one count, related states -/
theorem dz_rep {c L e : Nat} {x y : Int32} (he : e ≤ c) (hc : c ≤ 60) : ∀ d i n (p q : Int32) (W V : Nat → Int32), i + d = e → ds_T c O W N V L → ds_mr c O N p q → ∃ (n' : Nat) (p' q' : Int32) (W' V' : Nat → Int32), ds_T c O W' N V' L ∧ ds_mr c O N p' q' ∧
    (∀ post : Int32 → SX → Prop, post (nI n') (nI c, p', kc, kp, ch, O, W', M, KO, KW, KM, CH) → ∀ m, d < m → wX_replace_23 post (nI e) x y (nI c) kc kp ch m (nI n) (nI i) p O W M KO KW KM CH) ∧
    (∀ post : Int32 → SY → Prop, post (nI n') (nI c, ln, q', ch', oc, od, N, V', M', ON, OV, OM, LS) → ∀ m, d < m → wY_replace_23 post (nI e) x y (nI c) ln ch' oc od m (nI n) (nI i) q N V M' ON OV OM LS) := by
  intro d
  induction d with
  | zero =>
    intro i n p q W V hi T hm
    have h : nI e ≤ nI i := nI_le (by omega) (by omega)
    refine ⟨n, p, q, W, V, T, hm, fun post hp m hm => ?_, fun post hp m hm => ?_⟩
    · obtain ⟨m, rfl⟩ := dx_pre hm
      exact br_t h hp
    · obtain ⟨m, rfl⟩ := dx_pre hm
      exact br_t h hp
  | succ d ih =>
    intro i n p q W V hi T hm
    have h : ¬ nI e ≤ nI i := nI_ge (by omega) (by omega)
    have hin : vp_in (nI i) 60 := vp_in_nI (by omega) (by decide)
    have ec : (nI i).toNatClampNeg = i := nI_clamp (by omega)
    have hO : vp_in (O i) 60 := T.2.1 i (by omega)
    have hV : V i = W (O i).toNatClampNeg := T.2.2.2.1 i (by omega)
    by_cases z : V i = x
    · obtain ⟨n', p', q', W', V', T', hm', hX, hY⟩ := ih (i + 1) (n + 1) (O i) (N i) (upd W (O i).toNatClampNeg y) (upd V i y) (by omega) (ds_T_rep T (by omega)) (Or.inr ⟨i, by omega, rfl, rfl⟩)
      refine ⟨n', p', q', W', V', T', hm', fun post hp m hm => ?_, fun post hp m hm => ?_⟩
      · obtain ⟨m, rfl⟩ := dx_pre hm
        refine br_f h ⟨hin, fun s es => ?_⟩
        rw [ec] at es
        subst es
        refine ⟨hO, br_t (hV.symm.trans z) ⟨hO, fun A eA a ea b eb => ?_⟩⟩
        subst eA ea eb
        rw [nI_1, nI_1]
        exact hX post hp m (by omega)
      · obtain ⟨m, rfl⟩ := dx_pre hm
        refine br_f h ⟨hin, ?_⟩
        rw [ec]
        refine br_t z ⟨hin, fun A eA => ⟨hin, fun s es a ea b eb => ?_⟩⟩
        subst eA es ea eb
        rw [nI_1, nI_1]
        exact hY post hp m (by omega)
    · obtain ⟨n', p', q', W', V', T', hm', hX, hY⟩ := ih (i + 1) n p q W V (by omega) T hm
      refine ⟨n', p', q', W', V', T', hm', fun post hp m hm => ?_, fun post hp m hm => ?_⟩
      · obtain ⟨m, rfl⟩ := dx_pre hm
        refine br_f h ⟨hin, fun s es => ?_⟩
        rw [ec] at es
        subst es
        refine ⟨hO, br_f (fun w => z (hV.trans w)) (fun b eb => ?_)⟩
        subst eb
        rw [nI_1]
        exact hX post hp m (by omega)
      · obtain ⟨m, rfl⟩ := dx_pre hm
        refine br_f h ⟨hin, ?_⟩
        rw [ec]
        refine br_f z (fun b eb => ?_)
        subst eb
        rw [nI_1]
        exact hY post hp m (by omega)
end
theorem i_vc_find {k : Nat} {u : SX} {v : SY} (I : i_Rel k u v) (hk : k + 5 ≤ 2560) (v1 : Int32) : wpX_find (fun r => wpY_find (fun r' => r' = r ∧ i_Rel (k + 5) u v) v v1) u v1 := by
  have I' := i_up I
  obtain ⟨c, kc, L, ch, p, kp, q, kq, O, W, M, KO, KW, KM, CH, N, V, M', KN, KV, KM', LS, rfl, rfl, hL, hS, hK⟩ := I
  obtain ⟨r, hr, hX, hY⟩ := dz_num hS.1 (by omega) hS.2.2
  obtain ⟨res, fX, fY⟩ := dz_find (x := v1) hS.1 hr c 0 (by omega)
  unfold wpX_find
  dsimp only
  refine hX _ ⟨c + 1, fX _ ?_ (c + 1) (by omega)⟩
  unfold wpY_find wpY_present
  dsimp only
  refine hY (fun r_1 => ∃ n7 : Nat, wY_find_7 (fun r' => r' = res ∧ i_Rel (k + 5) _ _) v1 r_1 _ _ _ _ _ _ _ _ _ _ _ _ _ n7 0) ⟨c + 1, fY _ ⟨rfl, I'⟩ (c + 1) (by omega)⟩
theorem i_vc_replace {k : Nat} {u : SX} {v : SY} (I : i_Rel k u v) (hk : k + 5 ≤ 2560) (v1 : Int32) (v2 : Int32) (v3 : Int32) (v4 : Int32) : wpX_replace (fun r u' => wpY_replace (fun r' v' => r' = r ∧ i_Rel (k + 5) u' v') v v1 v2 v3 v4) u v1 v2 v3 v4 := by
  have I' := i_up I
  obtain ⟨c, kc, L, ch, p, kp, q, kq, O, W, M, KO, KW, KM, CH, N, V, M', KN, KV, KM', LS, rfl, rfl, hL, hS, hK⟩ := I
  have hc : c ≤ 60 := hS.1.1
  unfold wpX_replace
  dsimp only
  rcases dz_range v1 v2 hc with ⟨hX, hY⟩ | ⟨a, s, hs, has, rfl, rfl, hX, hY⟩
  · refine hX _ (br_t rfl ?_)
    unfold wpY_replace
    dsimp only
    exact hY _ (br_f (by decide) ⟨rfl, I'⟩)
  · obtain ⟨n', p', q', W', V', T', hm', rX, rY⟩ := dz_rep (kc := nI c) (kp := p) (ch := 1) (M := M) (KO := ds_cp 60 O KO) (KW := ds_cp 60 W KW) (KM := ds_cp 4 M KM) (CH := CH) (ln := nI L) (ch' := 1) (oc := nI c) (od := q) (M' := M') (ON := ds_cp 60 N KN) (OV := ds_cp 60 V KV) (OM := ds_cp 4 M' KM') (LS := LS) (x := v3) (y := v4) has hc s a 0 p q W V rfl hS.1 hS.2.2
    refine hX _ (br_f (by decide) ?_)
    refine dx_keep ?_
    intro y ey
    rw [nI_pred] at ey
    subst ey
    refine ⟨s + 1, rX _ ?_ (s + 1) (by omega)⟩
    unfold wpY_replace
    dsimp only
    refine hY _ (br_t rfl ?_)
    refine dy_save ?_
    intro y ey
    rw [nI_pred] at ey
    subst ey
    refine ⟨s + 1, rY _ ?_ (s + 1) (by omega)⟩
    exact ⟨rfl, dz_mk (by omega) ⟨T', hS.2.1, hm'⟩ (Or.inr (ds_S_cp hS))⟩
/-! remove -/
theorem ds_rm {c L a s : Nat} {O W M N V M' : Nat → Int32} (T : ds_T c O W N V L) (hM : ds_Mk c O N M M') (hL : L < 2 ^ 31) (hs : a + s ≤ c) : ∀ k, k ≤ s → ds_T (c - k) (ds_rmO a c k O) W (ds_rnN a c k N) (ds_rnN a c k V) L ∧ ds_Mk (c - k) (ds_rmO a c k O) (ds_rnN a c k N) (ds_rmM a c O k M) (ds_rnM a c N k M') := by
  intro k
  induction k with
  | zero => exact fun _ => ⟨T, hM⟩
  | succ k ih =>
    intro hk
    obtain ⟨T1, M1⟩ := ih (by omega)
    have e : c - (k + 1) = c - k - 1 := by omega
    simp only [ds_rmO, ds_rnN, ds_rmM, ds_rnM]
    rw [e]
    exact ⟨ds_T_drop T1 (by omega), ds_Mk_drop T1 hL M1 (by omega)⟩
/-- the present line after a removal at place a that leaves c lines -/
def ds_af (c a : Nat) (e : Int32) (A : Nat → Int32) : Int32 := if c = 0 then e else if c < a + 1 then A (c - 1) else A a
theorem ds_af_mr {c a : Nat} {O N : Nat → Int32} (h : a ≤ c) : ds_mr c O N (ds_af c a (-1) O) (ds_af c a 0 N) := by
  unfold ds_af
  by_cases h0 : c = 0
  · rw [if_pos h0, if_pos h0]
    exact Or.inl ⟨rfl, rfl⟩
  · by_cases h1 : c < a + 1
    · rw [if_neg h0, if_neg h0, if_pos h1, if_pos h1]
      exact Or.inr ⟨c - 1, by omega, rfl, rfl⟩
    · rw [if_neg h0, if_neg h0, if_neg h1, if_neg h1]
      exact Or.inr ⟨a, by omega, rfl, rfl⟩
section
variable {p kc kp ch : Int32} {O W M KO KW KM CH : Nat → Int32} {ln nw ch' oc od : Int32} {N V M' ON OV OM LS : Nat → Int32}
theorem dx_rmx {post : Int32 → SX → Prop} {c a s : Nat} (hc : c ≤ 60) (ha : a < 60) (hs : s ≤ 60) (hp : post (nI s) (nI c, ds_af c a (-1) O, kc, kp, ch, O, W, M, KO, KW, KM, CH)) (m : Nat) : wX_remove_24 post (nI (a + 1)) (nI s) (m + 1) (nI s) (nI c) p kc kp ch O W M KO KW KM CH := by
  refine br_t (nI_le (Nat.le_refl _) (by omega)) ?_
  unfold ds_af at hp
  by_cases h0 : c = 0
  · subst h0
    rw [if_pos rfl] at hp
    exact br_t (nI_lt (by omega) (by omega)) (dx_last_0 hp)
  · rw [if_neg h0] at hp
    by_cases h1 : c < a + 1
    · rw [if_pos h1] at hp
      refine br_t (nI_lt h1 (by omega)) ?_
      obtain ⟨b, rfl⟩ : ∃ b, c = b + 1 := ⟨c - 1, by omega⟩
      exact dx_last_s (by omega) hp
    · rw [if_neg h1] at hp
      refine br_f (nI_nlt (by omega) (by omega)) ?_
      rw [nI_pred, nI_clamp (by omega)]
      refine ⟨vp_in_nI ha (by decide), fun f ef => ?_⟩
      subst ef
      exact hp
theorem dy_rmx {post : Int32 → SY → Prop} {c a s : Nat} (hc : c ≤ 60) (ha : a < 60) (hs : s ≤ 60) (hs0 : 0 < s) (hp : post (nI s) (nI c, ln, ds_af c a 0 N, ch', oc, od, N, V, M', ON, OV, OM, LS)) (m : Nat) : wY_remove_17 post (nI (a + 1)) (nI (a + s)) (m + 1) (nI (a + 1 + s)) (nI c) ln nw ch' oc od N V M' ON OV OM LS := by
  have e : nI (a + s) - nI (a + 1) + 1 = nI s := by
    rw [pk_sub (by omega), nI_1]
    exact congrArg nI (by omega)
  refine br_t (nI_lt (by omega) (by omega)) ?_
  rw [e]
  unfold ds_af at hp
  by_cases h0 : c = 0
  · subst h0
    rw [if_pos rfl] at hp
    exact br_t rfl hp
  · rw [if_neg h0] at hp
    refine br_f (nI_ne0 (by omega) (by omega)) ?_
    by_cases h1 : c < a + 1
    · rw [if_pos h1] at hp
      refine br_t (nI_lt h1 (by omega)) ?_
      obtain ⟨b, rfl⟩ : ∃ b, c = b + 1 := ⟨c - 1, by omega⟩
      rw [nI_pred, nI_clamp (by omega)]
      refine ⟨vp_in_nI (by omega) (by decide), fun f ef => ?_⟩
      subst ef
      exact hp
    · rw [if_neg h1] at hp
      refine br_f (nI_nlt (by omega) (by omega)) ?_
      rw [nI_pred, nI_clamp (by omega)]
      refine ⟨vp_in_nI ha (by decide), fun f ef => ?_⟩
      subst ef
      exact hp
end
theorem i_vc_remove {k : Nat} {u : SX} {v : SY} (I : i_Rel k u v) (hk : k + 5 ≤ 2560) (v1 : Int32) (v2 : Int32) : wpX_remove (fun r u' => wpY_remove (fun r' v' => r' = r ∧ i_Rel (k + 5) u' v') v v1 v2) u v1 v2 := by
  have I' := i_up I
  obtain ⟨c, kc, L, ch, p, kp, q, kq, O, W, M, KO, KW, KM, CH, N, V, M', KN, KV, KM', LS, rfl, rfl, hL, hS, hK⟩ := I
  have hc : c ≤ 60 := hS.1.1
  unfold wpX_remove
  dsimp only
  rcases dz_range v1 v2 hc with ⟨hX, hY⟩ | ⟨a, s, hs, has, rfl, rfl, hX, hY⟩
  · refine hX _ (br_t rfl ?_)
    unfold wpY_remove
    dsimp only
    exact hY _ (br_f (by decide) ⟨rfl, I'⟩)
  · have e : nI (a + s) - nI (a + 1) + 1 = nI s := by
      rw [pk_sub (by omega), nI_1]
      exact congrArg nI (by omega)
    obtain ⟨T', hM'⟩ := ds_rm hS.1 hS.2.1 (by omega) has s (Nat.le_refl s)
    refine hX _ (br_f (by decide) ?_)
    refine dx_keep ?_
    intro y ey
    rw [e] at ey
    subst ey
    refine ⟨s + 1, dx_rm24 (O := O) (M := M) has hc (dx_rmx (by omega) (by omega) (by omega) ?_) s 0 (by omega) (s + 1) (by omega)⟩
    unfold wpY_remove
    dsimp only
    refine hY _ (br_t rfl ?_)
    refine dy_save ?_
    refine ⟨s + 1, dy_rm17 (N := N) (V := V) (M := M') has hc (dy_rmx (by omega) (by omega) (by omega) hs ?_) s 0 (by omega) (s + 1) (by omega)⟩
    exact ⟨rfl, dz_mk (by omega) ⟨T', hM', ds_af_mr (by omega)⟩ (Or.inr (ds_S_cp hS))⟩
/-! move -/
theorem ds_mvT {c L s : Nat} {g h : Nat → Nat} {O W M N V M' : Nat → Int32} (T : ds_T c O W N V L) (hM : ds_Mk c O N M M') (hg : ∀ k, k < s → g k < c) (hh : ∀ k, k < s → h k < c) : ∀ k, k ≤ s → ds_T c (ds_mv g h k O) W (ds_mv g h k N) (ds_mv g h k V) L ∧ ds_Mk c (ds_mv g h k O) (ds_mv g h k N) M M' := by
  intro k
  induction k with
  | zero => exact fun _ => ⟨T, hM⟩
  | succ k ih =>
    intro hk
    obtain ⟨T1, M1⟩ := ih (by omega)
    exact ⟨ds_T_shift T1 (hg k (by omega)) (hh k (by omega)), ds_Mk_shift M1 (hg k (by omega)) (hh k (by omega))⟩
theorem ds_mvU_at (A : Nat → Int32) {a t s : Nat} (ht : t ≤ a) : ∀ k, k ≤ s → ds_mv (fun k => a + k) (fun k => t + k) k A (a + s) = A (a + s) := by
  intro k
  induction k with
  | zero => exact fun _ => rfl
  | succ k ih =>
    intro hk
    show ds_mv (fun k => a + k) (fun k => t + k) k A (ds_sh (a + k) (t + k) (a + s)) = _
    rw [ds_sh_c4 (by omega) (by omega) (by omega)]
    exact ih (by omega)
theorem ds_mvU_end (A : Nat → Int32) {a t s : Nat} (ht : t ≤ a) : ds_mv (fun k => a + k) (fun k => t + k) (s + 1) A (t + s) = A (a + s) := by
  show ds_mv (fun k => a + k) (fun k => t + k) s A (ds_sh (a + s) (t + s) (t + s)) = _
  rw [ds_sh_c1 rfl]
  exact ds_mvU_at A ht s (Nat.le_refl s)
theorem ds_mvD_at (A : Nat → Int32) {a t s : Nat} (ht : a + s ≤ t) : ∀ k, k ≤ s → ds_mv (fun _ => a) (fun _ => t) k A (a + (s - k)) = A (a + s) := by
  intro k
  induction k with
  | zero => exact fun _ => rfl
  | succ k ih =>
    intro hk
    show ds_mv (fun _ => a) (fun _ => t) k A (ds_sh a t (a + (s - (k + 1)))) = _
    rw [ds_sh_c2 (by omega) (by omega), show a + (s - (k + 1)) + 1 = a + (s - k) from by omega]
    exact ih (by omega)
theorem ds_mvD_end (A : Nat → Int32) {a t s : Nat} (ht : a + s ≤ t) : ds_mv (fun _ => a) (fun _ => t) (s + 1) A t = A (a + s) := by
  show ds_mv (fun _ => a) (fun _ => t) s A (ds_sh a t t) = _
  rw [ds_sh_c1 rfl]
  have h := ds_mvD_at A ht s (Nat.le_refl s)
  rw [Nat.sub_self] at h
  exact h
section
variable {ln nw ch' oc od : Int32} {N V M' ON OV OM LS : Nat → Int32}
theorem dy_mvx {post : Int32 → SY → Prop} {x x3 : Int32} {c a s i : Nat} (hs : 0 < s) (hb : a + s ≤ 60) (hc : c ≤ 60) (hi : i < c) (e : N i = x) (hne : ∀ j, j < i → N j ≠ x) (hp : post (nI (i + 1)) (nI c, ln, x, ch', oc, od, N, V, M', ON, OV, OM, LS)) (m : Nat) : wY_move_50 post (nI (a + 1)) (nI (a + s)) x3 x (m + 1) (nI s) (nI c) ln nw ch' oc od N V M' ON OV OM LS := by
  have h0 : nI (a + s) - nI (a + 1) < nI s := by
    rw [pk_sub (by omega)]
    exact nI_lt (by omega) (by omega)
  refine br_t h0 (dy_pl_at hc hi e hne ?_)
  show post (nI i + 1) _
  rw [nI_1]
  exact hp
end
theorem i_vc_move {k : Nat} {u : SX} {v : SY} (I : i_Rel k u v) (hk : k + 5 ≤ 2560) (v1 : Int32) (v2 : Int32) (v3 : Int32) : wpX_move (fun r u' => wpY_move (fun r' v' => r' = r ∧ i_Rel (k + 5) u' v') v v1 v2 v3) u v1 v2 v3 := by
  have I' := i_up I
  obtain ⟨c, kc, L, ch, p, kp, q, kq, O, W, M, KO, KW, KM, CH, N, V, M', KN, KV, KM', LS, rfl, rfl, hL, hS, hK⟩ := I
  have hc : c ≤ 60 := hS.1.1
  unfold wpX_move
  dsimp only
  rcases dz_range v1 v2 hc with ⟨hX, hY⟩ | ⟨a, s, hs, has, rfl, rfl, hX, hY⟩
  · refine hX _ (br_t rfl ?_)
    unfold wpY_move
    dsimp only
    exact hY _ (br_f (by decide) ⟨rfl, I'⟩)
  · refine hX _ (br_f (by decide) ?_)
    rcases dz_place v3 hc with ⟨hX, hb⟩ | ⟨j, hj, rfl, hX⟩
    · refine hX _ (br_t rfl ?_)
      unfold wpY_move
      dsimp only
      refine hY _ (br_t rfl ?_)
      rcases hb with h | ⟨h, h2⟩
      · exact br_t h ⟨rfl, I'⟩
      · exact br_f h (br_t h2 ⟨rfl, I'⟩)
    · refine hX _ (br_f (by decide) ?_)
      have h0 : ¬ nI j < 0 := nI_pos (by omega)
      have h1 : ¬ nI c < nI j := nI_nlt hj (by omega)
      obtain ⟨s, rfl⟩ : ∃ s', s = s' + 1 := ⟨s - 1, by omega⟩
      by_cases hU : j < a + 1
      · -- before the range
        have h2 : nI j < nI (a + 1) := nI_lt hU (by omega)
        obtain ⟨T', hM'⟩ := ds_mvT (s := s + 1) (g := fun k => a + k) (h := fun k => j + k) hS.1 hS.2.1 (fun k hk => by omega) (fun k hk => by omega) (s + 1) (Nat.le_refl _)
        refine br_t h2 ?_
        refine dx_keep ?_
        refine dx_mbU (by omega) (by omega) (by omega) (by omega) ?_
        dsimp only
        rw [show j + (s + 1) = j + s + 1 from rfl, nI_pred, nI_clamp (by omega)]
        refine ⟨vp_in_nI (by omega) (by decide), fun z ez => ?_⟩
        subst ez
        unfold wpY_move
        dsimp only
        refine hY _ (br_t rfl (br_f h0 (br_f h1 (br_t h2 ?_))))
        refine dy_save ?_
        dsimp only
        rw [show a + (s + 1) = a + s + 1 from rfl, nI_pred, nI_clamp (by omega)]
        refine ⟨vp_in_nI (by omega) (by decide), fun z ez => ?_⟩
        subst ez
        obtain ⟨c, rfl⟩ : ∃ c', c = c' + 1 := ⟨c - 1, by omega⟩
        refine ⟨s + 1 + 1, dy_mvU (N := N) (V := V) (by omega) (by omega) (by omega) (by omega) (dy_mvx (i := j + s) (by omega) (by omega) hc (by omega) (ds_mvU_end N (by omega)) (fun i hi e => ?_) ?_) (s + 1) 0 (by omega) (s + 1 + 1) (by omega)⟩
        · rw [← ds_mvU_end N (t := j) (s := s) (a := a) (by omega)] at e
          have := T'.2.2.2.2.2 i (j + s) (by omega) (by omega) e
          omega
        · exact ⟨rfl, dz_mk (by omega) ⟨T', hM', Or.inr ⟨j + s, by omega, rfl, (ds_mvU_end N (by omega)).symm⟩⟩ (Or.inr (ds_S_cp hS))⟩
      · have h2 : ¬ nI j < nI (a + 1) := nI_nlt (by omega) (by omega)
        refine br_f h2 ?_
        by_cases hD : a + (s + 1) ≤ j
        · -- behind the range
          have h3 : nI (a + (s + 1)) ≤ nI j := nI_le hD (by omega)
          obtain ⟨t, rfl⟩ : ∃ t, j = t + 1 := ⟨j - 1, by omega⟩
          obtain ⟨T', hM'⟩ := ds_mvT (s := s + 1) (g := fun _ => a) (h := fun _ => t) hS.1 hS.2.1 (fun k hk => by omega) (fun k hk => by omega) (s + 1) (Nat.le_refl _)
          refine br_t h3 ?_
          refine dx_keep ?_
          refine dx_mbD (by omega) (by omega) (by omega) ?_
          dsimp only
          rw [nI_pred, nI_clamp (by omega)]
          refine ⟨vp_in_nI (by omega) (by decide), fun z ez => ?_⟩
          subst ez
          unfold wpY_move
          dsimp only
          refine hY _ (br_t rfl (br_f h0 (br_f h1 (br_f h2 (br_t h3 ?_)))))
          refine dy_save ?_
          dsimp only
          rw [show a + (s + 1) = a + s + 1 from rfl, nI_pred, nI_clamp (by omega)]
          refine ⟨vp_in_nI (by omega) (by decide), fun z ez => ?_⟩
          subst ez
          obtain ⟨c, rfl⟩ : ∃ c', c = c' + 1 := ⟨c - 1, by omega⟩
          refine ⟨s + 1 + 1, dy_mvD (N := N) (V := V) (by omega) (by omega) (by omega) (by omega) (dy_mvx (i := t) (by omega) (by omega) hc (by omega) (ds_mvD_end N (by omega)) (fun i hi e => ?_) ?_) (s + 1) 0 (by omega) (s + 1 + 1) (by omega)⟩
          · rw [← ds_mvD_end N (t := t) (s := s) (a := a) (by omega)] at e
            have := T'.2.2.2.2.2 i t (by omega) (by omega) e
            omega
          · exact ⟨rfl, dz_mk (by omega) ⟨T', hM', Or.inr ⟨t, by omega, rfl, (ds_mvD_end N (by omega)).symm⟩⟩ (Or.inr (ds_S_cp hS))⟩
        · have h3 : ¬ nI (a + (s + 1)) ≤ nI j := nI_ge (by omega) (by omega)
          refine br_f h3 ?_
          unfold wpY_move
          dsimp only
          exact hY _ (br_t rfl (br_f h0 (br_f h1 (br_f h2 (br_f h3 ⟨rfl, I'⟩)))))
