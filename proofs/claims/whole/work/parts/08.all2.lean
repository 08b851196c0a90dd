section
variable {p kc kp ch : Int32} {KO KW KM CH : Nat → Int32} {nw ch' oc od : Int32} {ON OV OM LS : Nat → Int32}
/-- one line treated on both sides -/
theorem dz_one {c L i kd : Nat} {O W M N V M' : Nat → Int32} (T : ds_T c O W N V L) (hM : ds_Mk c O N M M') (hL : L + 1 < 2 ^ 31) (hi : i < c) (hk : kd ≤ 4) : ∃ (c' L' : Nat) (O' W' M1 N' V' M1' : Nat → Int32), ds_T c' O' W' N' V' L' ∧ ds_Mk c' O' N' M1 M1' ∧ (L ≤ L' ∧ L' ≤ L + 1) ∧ (∀ x y : Int32, ds_mr c O N x y → (kd = 0 → x ≠ O i) → ds_mr c' O' N' x y) ∧
    (∀ post : SX → Prop, post (nI c', p, kc, kp, ch, O', W', M1, KO, KW, KM, CH) → wpX_treatLine post (nI c, p, kc, kp, ch, O, W, M, KO, KW, KM, CH) (O i) (nI kd)) ∧
    (∀ post : SY → Prop, post (nI c', nI L', nw, ch', oc, od, N', V', M1', ON, OV, OM, LS) → wpY_one post (nI c, nI L, nw, ch', oc, od, N, V, M', ON, OV, OM, LS) (nI i) (nI kd)) := by
  obtain ⟨b, rfl⟩ : ∃ b, c = b + 1 := ⟨c - 1, by omega⟩
  have hb : b < 60 := T.1
  have hne : ∀ j, j < i → O j ≠ O i := by
    intro j hj e
    have := T.2.2.1 j i (by omega) (by omega) e
    omega
  have hcase : kd = 0 ∨ kd = 1 ∨ kd = 2 ∨ kd = 3 ∨ kd = 4 := by omega
  rcases hcase with rfl | rfl | rfl | rfl | rfl
  · exact ⟨b, L, ds_sf O i b, W, ds_fg M (O i) (-1) 4, ds_dn N i b, ds_dn V i b, ds_fg M' (N i) 0 4, ds_T_drop T hi, ds_Mk_drop T (by omega) hM hi, ⟨by omega, by omega⟩, fun x y hm hx => ds_mr_drop hm hi (hx rfl), fun post hp => dx_tr0 hb (by omega) hne hp, fun post hp => dy_on0 hb (by omega) hp⟩
  · exact ⟨b + 1, L, ds_sf O i 0, W, M, ds_sf N i 0, ds_sf V i 0, M', ds_T_shift T hi (by omega), ds_Mk_shift hM hi (by omega), ⟨by omega, by omega⟩, fun x y hm _ => ds_mr_shift hm hi (by omega), fun post hp => dx_tr1 hb (by omega) hne hp, fun post hp => dy_on1 hb (by omega) hp⟩
  · exact ⟨b + 1, L, ds_sf O i b, W, M, ds_sf N i b, ds_sf V i b, M', ds_T_shift T hi (by omega), ds_Mk_shift hM hi (by omega), ⟨by omega, by omega⟩, fun x y hm _ => ds_mr_shift hm hi (by omega), fun post hp => dx_tr2 hb (by omega) hne hp, fun post hp => dy_on2 hb (by omega) hp⟩
  · by_cases h60 : b + 1 < 60
    · have hv : V i = upd W (O (b + 1)).toNatClampNeg (W (O i).toNatClampNeg) (O (b + 1)).toNatClampNeg := by
        rw [pk_us]
        exact T.2.2.2.1 i hi
      have T2 := ds_T_app (ds_T_setW (j := b + 1) (v := W (O i).toNatClampNeg) T (Nat.le_refl _) h60) h60 hv hL
      have M2 := ds_Mk_app (n := nI (L + 1)) hM
      exact ⟨b + 2, L + 1, ds_sf O (b + 1) (i + 1), upd W (O (b + 1)).toNatClampNeg (W (O i).toNatClampNeg), M, ds_sf (upd N (b + 1) (nI (L + 1))) (b + 1) (i + 1), ds_sf (upd V (b + 1) (V i)) (b + 1) (i + 1), M', ds_T_shift T2 (by omega) (by omega), ds_Mk_shift M2 (by omega) (by omega), ⟨by omega, by omega⟩, fun x y hm _ => ds_mr_shift (ds_mr_app hm) (by omega) (by omega), fun post hp => dx_tr3 h60 (by omega) hne T.2.1 hp, fun post hp => dy_on3 h60 (by omega) hp⟩
    · obtain rfl : b = 59 := by omega
      exact ⟨60, L, O, W, M, N, V, M', T, hM, ⟨by omega, by omega⟩, fun x y hm _ => hm, fun post hp => dx_tr3f (by omega) hne hp, fun post hp => dy_on3f hp⟩
  · by_cases h : i < b
    · exact ⟨b + 1, L, ds_sf O i (i + 1), W, M, ds_sf N i (i + 1), ds_sf V i (i + 1), M', ds_T_shift T hi (by omega), ds_Mk_shift hM hi (by omega), ⟨by omega, by omega⟩, fun x y hm _ => ds_mr_shift hm hi (by omega), fun post hp => dx_tr4 hb h hne hp, fun post hp => dy_on4 hb h hp⟩
    · obtain rfl : i = b := by omega
      exact ⟨i + 1, L, O, W, M, N, V, M', T, hM, ⟨by omega, by omega⟩, fun x y hm _ => hm, fun post hp => dx_tr4f hb hne hp, fun post hp => dy_on4f hb hp⟩
/-- the loop over the chosen lines, on both sides -/
theorem dz_all {n kd L0 : Nat} (hk : kd ≤ 4) (hn : n ≤ 60) (hL0 : L0 + 100 < 2 ^ 31) (hinj : ∀ j j', j < n → j' < n → CH j = CH j' → j = j') : ∀ d k c L (O W M N V M' : Nat → Int32), k + d = n → ds_T c O W N V L → ds_Mk c O N M M' → L0 ≤ L → L ≤ L0 + k → (∀ j, j < n → (kd = 0 → k ≤ j) → ds_mr c O N (CH j) (LS j) ∧ CH j ≠ -1) →
    ∃ (c' L' : Nat) (O' W' M1 N' V' M1' : Nat → Int32), ds_T c' O' W' N' V' L' ∧ ds_Mk c' O' N' M1 M1' ∧ (L0 ≤ L' ∧ L' ≤ L0 + n) ∧ (∀ j, j < n → kd ≠ 0 → ds_mr c' O' N' (CH j) (LS j)) ∧
    (∀ post : Int32 → SX → Prop, (∀ m, wX_all_24 post (nI kd) (nI n) (m + 1) (nI n) (nI c') p kc kp ch O' W' M1 KO KW KM CH) → ∀ f, d < f → wX_all_24 post (nI kd) (nI n) f (nI k) (nI c) p kc kp ch O W M KO KW KM CH) ∧
    (∀ post : Int32 → SY → Prop, (∀ m, wY_all_65 post (nI kd) (nI n) (m + 1) (nI n) (nI c') (nI L') nw ch' oc od N' V' M1' ON OV OM LS) → ∀ f, d < f → wY_all_65 post (nI kd) (nI n) f (nI k) (nI c) (nI L) nw ch' oc od N V M' ON OV OM LS) := by
  intro d
  induction d with
  | zero =>
    intro k c L O W M N V M' hd T hM hL9 hL hC
    obtain rfl : k = n := by omega
    refine ⟨c, L, O, W, M, N, V, M', T, hM, ⟨hL9, hL⟩, fun j hj hz => (hC j hj (fun z => absurd z hz)).1, fun post hp f hf => ?_, fun post hp f hf => ?_⟩
    · obtain ⟨m, rfl⟩ := dx_pre hf
      exact hp m
    · obtain ⟨m, rfl⟩ := dx_pre hf
      exact hp m
  | succ d ih =>
    intro k c L O W M N V M' hd T hM hL9 hL hC
    have hkn : k < n := by omega
    obtain ⟨hmr, hm1⟩ := hC k hkn (fun _ => Nat.le_refl k)
    rcases hmr with ⟨e, _⟩ | ⟨i, hi, e1, e2⟩
    · exact absurd e hm1
    · obtain ⟨c1, L1, O1, W1, M1, N1, V1, M1', T1, hM1, hL1, hpres, hX1, hY1⟩ := dz_one (p := p) (kc := kc) (kp := kp) (ch := ch) (KO := KO) (KW := KW) (KM := KM) (CH := CH) (nw := nw) (ch' := ch') (oc := oc) (od := od) (ON := ON) (OV := OV) (OM := OM) (LS := LS) T hM (by omega) hi hk
      obtain ⟨c2, L2, O2, W2, M2, N2, V2, M2', T2, hM2, hL2, hC2, hX2, hY2⟩ := ih (k + 1) c1 L1 O1 W1 M1 N1 V1 M1' (by omega) T1 hM1 (by omega) (by omega) (fun j hj hz => by
        have hj2 := hC j hj (fun z => by have := hz z; omega)
        refine ⟨hpres _ _ hj2.1 (fun z w => ?_), hj2.2⟩
        have := hinj j k hj hkn (w.trans e1.symm)
        have := hz z
        omega)
      have h : ¬ nI n ≤ nI k := nI_ge hkn (by omega)
      have hin : vp_in (nI k) 60 := vp_in_nI (by omega) (by decide)
      have ec : (nI k).toNatClampNeg = k := nI_clamp (by omega)
      refine ⟨c2, L2, O2, W2, M2, N2, V2, M2', T2, hM2, hL2, hC2, fun post hp f hf => ?_, fun post hp f hf => ?_⟩
      · obtain ⟨m, rfl⟩ := dx_pre hf
        refine br_f h ⟨hin, ?_⟩
        rw [ec, e1]
        refine hX1 _ ?_
        intro y ey
        rw [nI_1] at ey
        subst ey
        exact hX2 post hp m (by omega)
      · obtain ⟨m, rfl⟩ := dx_pre hf
        refine br_f h ⟨hin, ?_⟩
        rw [ec, e2]
        refine dy_pl_at T.1 hi rfl (fun j hj e => ?_) ?_
        · have := T.2.2.2.2.2 j i (by omega) (by omega) e
          omega
        · refine hY1 _ ?_
          intro y ey
          rw [nI_1] at ey
          subst ey
          exact hY2 post hp m (by omega)
/-! the loop's end -/
theorem dx_ax0 {post : Int32 → SX → Prop} {c n : Nat} {O W M : Nat → Int32} (hc : c ≤ 60) (hn : n < 60) (hp : post (nI (n + 1)) (nI c, ds_af c c (-1) O, kc, kp, ch, O, W, M, KO, KW, KM, CH)) (m : Nat) : wX_all_24 post (nI 0) (nI (n + 1)) (m + 1) (nI (n + 1)) (nI c) p kc kp ch O W M KO KW KM CH := by
  refine br_t (nI_le (Nat.le_refl _) (by omega)) (br_f (nI_nle (by omega) (by omega)) (br_t rfl ?_))
  unfold ds_af at hp
  by_cases h0 : c = 0
  · subst h0
    rw [if_pos rfl] at hp
    exact dx_last_0 hp
  · rw [if_neg h0, if_pos (by omega)] at hp
    obtain ⟨b, rfl⟩ : ∃ b, c = b + 1 := ⟨c - 1, by omega⟩
    exact dx_last_s (by omega) hp
theorem dx_axk {post : Int32 → SX → Prop} {c n kd : Nat} {O W M : Nat → Int32} (hk0 : kd ≠ 0) (hk : kd ≤ 4) (hn : n < 60) (hp : post (nI (n + 1)) (nI c, CH n, kc, kp, ch, O, W, M, KO, KW, KM, CH)) (m : Nat) : wX_all_24 post (nI kd) (nI (n + 1)) (m + 1) (nI (n + 1)) (nI c) p kc kp ch O W M KO KW KM CH := by
  refine br_t (nI_le (Nat.le_refl _) (by omega)) (br_f (nI_nle (by omega) (by omega)) (br_f (nI_ne0 (by omega) (by omega)) ?_))
  rw [nI_pred, nI_clamp (by omega)]
  refine ⟨vp_in_nI hn (by decide), fun f ef => ?_⟩
  subst ef
  exact hp
theorem dy_ax0 {post : Int32 → SY → Prop} {c n : Nat} {ln : Int32} {N V M' : Nat → Int32} (hc : c ≤ 60) (hn : n < 60) (hp : post (nI (n + 1)) (nI c, ln, ds_af c c 0 N, ch', oc, od, N, V, M', ON, OV, OM, LS)) (m : Nat) : wY_all_65 post (nI 0) (nI (n + 1)) (m + 1) (nI (n + 1)) (nI c) ln nw ch' oc od N V M' ON OV OM LS := by
  refine br_t (nI_le (Nat.le_refl _) (by omega)) (br_f (nI_nle (by omega) (by omega)) (br_t rfl ?_))
  unfold ds_af at hp
  by_cases h0 : c = 0
  · subst h0
    rw [if_pos rfl] at hp
    exact br_t rfl hp
  · rw [if_neg h0, if_pos (by omega)] at hp
    obtain ⟨b, rfl⟩ : ∃ b, c = b + 1 := ⟨c - 1, by omega⟩
    refine br_f (nI_ne0 (by omega) (by omega)) ?_
    rw [nI_pred, nI_clamp (by omega)]
    refine ⟨vp_in_nI (by omega) (by decide), fun f ef => ?_⟩
    subst ef
    exact hp
theorem dy_axk {post : Int32 → SY → Prop} {c n kd : Nat} {ln : Int32} {N V M' : Nat → Int32} (hk0 : kd ≠ 0) (hk : kd ≤ 4) (hn : n < 60) (hp : post (nI (n + 1)) (nI c, ln, LS n, ch', oc, od, N, V, M', ON, OV, OM, LS)) (m : Nat) : wY_all_65 post (nI kd) (nI (n + 1)) (m + 1) (nI (n + 1)) (nI c) ln nw ch' oc od N V M' ON OV OM LS := by
  refine br_t (nI_le (Nat.le_refl _) (by omega)) (br_f (nI_nle (by omega) (by omega)) (br_f (nI_ne0 (by omega) (by omega)) ?_))
  rw [nI_pred, nI_clamp (by omega)]
  refine ⟨vp_in_nI hn (by decide), fun f ef => ?_⟩
  subst ef
  exact hp
end
theorem i_vc_all {k : Nat} {u : SX} {v : SY} (I : i_Rel k u v) (hk : k + 5 ≤ 2560) (v1 : Int32) (v2 : Int32) : wpX_all (fun r u' => wpY_all (fun r' v' => r' = r ∧ i_Rel (k + 5) u' v') v v1 v2) u v1 v2 := by
  have I' := i_up I
  obtain ⟨c, kc, L, ch, p, kp, q, kq, O, W, M, KO, KW, KM, CH, N, V, M', KN, KV, KM', LS, rfl, rfl, hL, hS, hK⟩ := I
  have hc : c ≤ 60 := hS.1.1
  by_cases h0 : v2 < 0
  · exact br_t h0 (br_t h0 ⟨rfl, I'⟩)
  · by_cases h4 : v2 ≤ 4
    · obtain ⟨kd, hkd, rfl⟩ := nI_of2 (n := 4) (by decide) h0 h4
      obtain ⟨n, CH', LS', hch, cX, cY⟩ := dz_choose (p := p) (kc := nI c) (kp := p) (ch := 1) (M := M) (KO := ds_cp 60 O KO) (KW := ds_cp 60 W KW) (KM := ds_cp 4 M KM) (ln := nI L) (nw := q) (ch' := 1) (oc := nI c) (od := q) (M' := M') (ON := ds_cp 60 N KN) (OV := ds_cp 60 V KV) (OM := ds_cp 4 M' KM') (x := v1) (x2 := nI kd) hS.1 c 0 0 CH LS (by omega) ⟨Nat.le_refl 0, fun _ => 0, fun j hj => by omega, fun j j' _ hj => by omega⟩
      obtain ⟨hnc, g, hg, hgm⟩ := hch
      have hinj : ∀ j j', j < n → j' < n → CH' j = CH' j' → j = j' := by
        intro j j' hj hj' e
        rw [(hg j hj).2.1, (hg j' hj').2.1] at e
        have e2 := hS.1.2.2.1 _ _ (by have := (hg j hj).1; omega) (by have := (hg j' hj').1; omega) e
        by_cases h1 : j < j'
        · have := hgm j j' h1 hj'
          omega
        · by_cases h2 : j' < j
          · have := hgm j' j h2 hj
            omega
          · omega
      refine br_f h0 (br_t h4 ?_)
      refine dx_keep ?_
      refine ⟨c + 1, cX _ ?_ (c + 1) (by omega)⟩
      by_cases hn : n = 0
      · subst hn
        refine ⟨1, br_t (nI_le (a := 0) (b := 0) (by decide) (by decide)) (br_t (by decide) ?_)⟩
        refine br_f h0 (br_t h4 ?_)
        refine dy_save ?_
        refine ⟨c + 1, cY _ ⟨1, br_t (nI_le (a := 0) (b := 0) (by decide) (by decide)) (br_t (by decide) ?_)⟩ (c + 1) (by omega)⟩
        exact ⟨rfl, dz_mk (by omega) hS (Or.inr (ds_S_cp hS))⟩
      · obtain ⟨n, rfl⟩ : ∃ n', n = n' + 1 := ⟨n - 1, by omega⟩
        obtain ⟨c2, L2, O2, W2, M2, N2, V2, M2', T2, hM2, hL2, hC2, aX, aY⟩ := dz_all (p := p) (kc := nI c) (kp := p) (ch := 1) (KO := ds_cp 60 O KO) (KW := ds_cp 60 W KW) (KM := ds_cp 4 M KM) (CH := CH') (nw := q) (ch' := 1) (oc := nI c) (od := q) (ON := ds_cp 60 N KN) (OV := ds_cp 60 V KV) (OM := ds_cp 4 M' KM') (LS := LS') (n := n + 1) (L0 := L) hkd (by omega) (by omega) hinj (n + 1) 0 c L O W M N V M' (by omega) hS.1 hS.2.1 (Nat.le_refl L) (by omega) (fun j hj _ => ⟨Or.inr ⟨g j, (hg j hj).1, (hg j hj).2.1, (hg j hj).2.2⟩, by
          rw [(hg j hj).2.1]
          exact ds_vm1 (hS.1.2.1 _ (by have := (hg j hj).1; omega))⟩)
        have hc2 : c2 ≤ 60 := T2.1
        by_cases hz : kd = 0
        · subst hz
          refine ⟨n + 1 + 1, aX _ (dx_ax0 hc2 (by omega) ?_) (n + 1 + 1) (by omega)⟩
          refine br_f h0 (br_t h4 ?_)
          refine dy_save ?_
          refine ⟨c + 1, cY _ ⟨n + 1 + 1, aY _ (dy_ax0 hc2 (by omega) ?_) (n + 1 + 1) (by omega)⟩ (c + 1) (by omega)⟩
          exact ⟨rfl, dz_mk (by omega) ⟨T2, hM2, ds_af_mr (Nat.le_refl _)⟩ (Or.inr (ds_S_cp (ds_S_mono hS (by omega))))⟩
        · refine ⟨n + 1 + 1, aX _ (dx_axk hz hkd (by omega) ?_) (n + 1 + 1) (by omega)⟩
          refine br_f h0 (br_t h4 ?_)
          refine dy_save ?_
          refine ⟨c + 1, cY _ ⟨n + 1 + 1, aY _ (dy_axk hz hkd (by omega) ?_) (n + 1 + 1) (by omega)⟩ (c + 1) (by omega)⟩
          exact ⟨rfl, dz_mk (by omega) ⟨T2, hM2, hC2 n (by omega) hz⟩ (Or.inr (ds_S_cp (ds_S_mono hS (by omega))))⟩
    · exact br_f h0 (br_f h4 (br_f h0 (br_f h4 ⟨rfl, I'⟩)))
