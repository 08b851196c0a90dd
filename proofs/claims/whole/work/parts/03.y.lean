section
variable {cn ln nw ch oc od : Int32} {N V M ON OV OM LS : Nat → Int32}
/-! the reference's own methods, each with a general post -/
theorem dy_save61 {post : SY → Prop} (hp : post (cn, ln, nw, ch, oc, od, N, V, M, ON, OV, ds_cp 4 M OM, LS)) : ∀ d i, i + d = 4 → ∀ n, d < n → wY_save_61 post cn ln nw ch oc od n (nI i) N V M ON OV (ds_cp i M OM) LS := by
  intro d
  induction d with
  | zero =>
    intro i hi n hn
    obtain ⟨m, rfl⟩ := dx_pre hn
    obtain rfl : i = 4 := by omega
    exact br_t (nI_le (a := 4) (b := 4) (by omega) (by decide)) hp
  | succ d ih =>
    intro i hi n hn
    obtain ⟨m, rfl⟩ := dx_pre hn
    have hin : vp_in (nI i) 4 := vp_in_nI (by omega) (by decide)
    refine br_f (nI_ge (b := 4) (by omega) (by decide)) ⟨hin, hin, fun B eB x ex => ?_⟩
    subst eB ex
    rw [nI_clamp (by omega), nI_1, ds_cp_s]
    exact ih (i + 1) (by omega) m (by omega)
theorem dy_save23 {post : SY → Prop} (hp : post (cn, ln, nw, ch, oc, od, N, V, M, ds_cp 60 N ON, ds_cp 60 V OV, ds_cp 4 M OM, LS)) : ∀ d i, i + d = 60 → ∀ n, d < n → wY_save_23 post cn ln nw ch oc od n (nI i) N V M (ds_cp i N ON) (ds_cp i V OV) OM LS := by
  intro d
  induction d with
  | zero =>
    intro i hi n hn
    obtain ⟨m, rfl⟩ := dx_pre hn
    obtain rfl : i = 60 := by omega
    refine br_t (nI_le (a := 60) (b := 60) (by omega) (by decide)) ⟨5, ?_⟩
    have h := dy_save61 hp 4 0 rfl 5 (by decide)
    rw [ds_cp_0] at h
    exact h
  | succ d ih =>
    intro i hi n hn
    obtain ⟨m, rfl⟩ := dx_pre hn
    have hin : vp_in (nI i) 60 := vp_in_nI (by omega) (by decide)
    refine br_f (nI_ge (b := 60) (by omega) (by decide)) ⟨hin, hin, fun B eB => ⟨hin, hin, fun C eC x ex => ?_⟩⟩
    subst eB eC ex
    rw [nI_clamp (by omega), nI_1, ds_cp_s, ds_cp_s]
    exact ih (i + 1) (by omega) m (by omega)
theorem dy_save {post : SY → Prop} (hp : post (cn, ln, nw, 1, cn, nw, N, V, M, ds_cp 60 N ON, ds_cp 60 V OV, ds_cp 4 M OM, LS)) : wpY_save post (cn, ln, nw, ch, oc, od, N, V, M, ON, OV, OM, LS) := by
  refine Exists.intro 61 ?_
  have h := dy_save23 hp 60 0 rfl 61 (by decide)
  rw [ds_cp_0, ds_cp_0] at h
  exact h
theorem dy_pl_at {post : Int32 → Prop} {c i0 : Nat} {x : Int32} (hc : c ≤ 60) (hi0 : i0 < c) (e : N i0 = x) (hne : ∀ j, j < i0 → N j ≠ x) (hp : post (nI i0)) : wpY_placeOf post (nI c, ln, nw, ch, oc, od, N, V, M, ON, OV, OM, LS) x := by
  have key : ∀ d i, i + d = i0 → ∀ n, d < n → wY_placeOf_2 post x (nI c) ln nw ch oc od N V M ON OV OM LS n (nI i) := by
    intro d
    induction d with
    | zero =>
      intro i hi n hn
      obtain ⟨m, rfl⟩ := dx_pre hn
      obtain rfl : i = i0 := by omega
      exact br_f (nI_ge hi0 (by omega)) ⟨vp_in_nI (by omega) (by decide), br_t (by rw [nI_clamp (by omega)]; exact e) hp⟩
    | succ d ih =>
      intro i hi n hn
      obtain ⟨m, rfl⟩ := dx_pre hn
      refine br_f (nI_ge (by omega) (by omega)) ⟨vp_in_nI (by omega) (by decide), br_f (by rw [nI_clamp (by omega)]; exact hne i (by omega)) (fun y ey => ?_)⟩
      subst ey
      rw [nI_1]
      exact ih (i + 1) (by omega) m (by omega)
  exact Exists.intro (i0 + 1) (key i0 0 (by omega) (i0 + 1) (by omega))
theorem dy_ins6 {post : SY → Prop} {t c : Nat} {x v : Int32} (ht : t < 60) : ∀ d i A B, i ≤ t + d → i < 60 → post (nI (c + 1), ln, nw, ch, oc, od, upd (ds_up A i t) t x, upd (ds_up B i t) t v, M, ON, OV, OM, LS) → ∀ n, d < n → wY_insert_6 post (nI t) x v (nI c) ln nw ch oc od n (nI i) A B M ON OV OM LS := by
  have ex0 : ∀ (i : Nat) (A B : Nat → Int32) (m : Nat), i ≤ t → post (nI (c + 1), ln, nw, ch, oc, od, upd (ds_up A i t) t x, upd (ds_up B i t) t v, M, ON, OV, OM, LS) → wY_insert_6 post (nI t) x v (nI c) ln nw ch oc od (m + 1) (nI i) A B M ON OV OM LS := by
    intro i A B m hi hp
    have hin : vp_in (nI t) 60 := vp_in_nI ht (by decide)
    refine br_t (nI_le hi (by omega)) ⟨hin, fun A' eA => ⟨hin, fun B' eB y ey => ?_⟩⟩
    subst eA eB ey
    rw [nI_clamp (by omega), nI_1]
    rw [ds_up_0 hi, ds_up_0 hi] at hp
    exact hp
  intro d
  induction d with
  | zero =>
    intro i A B hi hi6 hp n hn
    obtain ⟨m, rfl⟩ := dx_pre hn
    exact ex0 i A B m hi hp
  | succ d ih =>
    intro i A B hi hi6 hp n hn
    obtain ⟨m, rfl⟩ := dx_pre hn
    by_cases h : i ≤ t
    · exact ex0 i A B m h hp
    · obtain ⟨j, rfl⟩ : ∃ j, i = j + 1 := ⟨i - 1, by omega⟩
      have h1 : vp_in (nI (j + 1) - 1) 60 := by rw [nI_pred]; exact vp_in_nI (by omega) (by decide)
      have h2 : vp_in (nI (j + 1)) 60 := vp_in_nI hi6 (by decide)
      refine br_f (nI_ge (by omega) (by omega)) ⟨h1, h2, fun A' eA => ⟨h1, h2, fun B' eB y ey => ?_⟩⟩
      subst eA eB ey
      rw [nI_pred, nI_clamp (by omega), nI_clamp (by omega), pk_m1]
      exact ih j _ _ (by omega) (by omega) (by rw [ds_up_s (by omega), ds_up_s (by omega)]; exact hp) m (by omega)
theorem dy_insR {post : SY → Prop} {t c : Nat} {x v : Int32} (ht : t ≤ c) (hc : c < 60) (hp : post (nI (c + 1), ln, nw, ch, oc, od, upd (ds_up N c t) t x, upd (ds_up V c t) t v, M, ON, OV, OM, LS)) : wpY_insert post (nI c, ln, nw, ch, oc, od, N, V, M, ON, OV, OM, LS) (nI t) x v := by
  exact Exists.intro (c + 1) (dy_ins6 (by omega) c c N V (by omega) hc hp (c + 1) (by omega))
theorem dy_insert {post : SY → Prop} {t c : Nat} {x v : Int32} (ht : t ≤ c) (hc : c < 60) (hp : post (nI (c + 1), ln, nw, ch, oc, od, ds_sf (upd N c x) c t, ds_sf (upd V c v) c t, M, ON, OV, OM, LS)) : wpY_insert post (nI c, ln, nw, ch, oc, od, N, V, M, ON, OV, OM, LS) (nI t) x v := by
  rw [← ds_ins N x ht, ← ds_ins V v ht] at hp
  exact dy_insR ht hc hp
theorem dy_take12 {post : SY → Prop} {c : Nat} (hc : c < 60) : ∀ d i A B, c ≤ i + d → i < 60 → post (nI c, ln, nw, ch, oc, od, ds_dn A i c, ds_dn B i c, M, ON, OV, OM, LS) → ∀ n, d < n → wY_takeOut_12 post (nI c) ln nw ch oc od n (nI i) A B M ON OV OM LS := by
  have ex0 : ∀ (i : Nat) (A B : Nat → Int32) (m : Nat), c ≤ i → i < 60 → post (nI c, ln, nw, ch, oc, od, ds_dn A i c, ds_dn B i c, M, ON, OV, OM, LS) → wY_takeOut_12 post (nI c) ln nw ch oc od (m + 1) (nI i) A B M ON OV OM LS := by
    intro i A B m hi h6 hp
    rw [ds_dn_0 hi, ds_dn_0 hi] at hp
    exact br_t (nI_le hi (by omega)) hp
  intro d
  induction d with
  | zero =>
    intro i A B hi hi6 hp n hn
    obtain ⟨m, rfl⟩ := dx_pre hn
    exact ex0 i A B m hi hi6 hp
  | succ d ih =>
    intro i A B hi hi6 hp n hn
    obtain ⟨m, rfl⟩ := dx_pre hn
    by_cases h : c ≤ i
    · exact ex0 i A B m h hi6 hp
    · have h1 : vp_in (nI i + 1) 60 := by rw [nI_1]; exact vp_in_nI (by omega) (by decide)
      have h2 : vp_in (nI i) 60 := vp_in_nI hi6 (by decide)
      refine br_f (nI_ge (by omega) (by omega)) ⟨h1, h2, fun A' eA => ⟨h1, h2, fun B' eB y ey => ?_⟩⟩
      subst eA eB ey
      rw [nI_1, nI_clamp (by omega), nI_clamp (by omega)]
      exact ih (i + 1) _ _ (by omega) (by omega) (by rw [ds_dn_s (by omega), ds_dn_s (by omega)]; exact hp) m (by omega)
theorem dy_take {post : SY → Prop} {a c : Nat} (ha : a ≤ c) (hc : c < 60) (hp : post (nI c, ln, nw, ch, oc, od, ds_dn N a c, ds_dn V a c, M, ON, OV, OM, LS)) : wpY_takeOut post (nI (c + 1), ln, nw, ch, oc, od, N, V, M, ON, OV, OM, LS) (nI a) := by
  intro y ey
  rw [nI_pred] at ey
  subst ey
  exact Exists.intro (c + 1) (dy_take12 hc c a N V (by omega) (by omega) hp (c + 1) (by omega))
theorem dy_fg2 {post : SY → Prop} {x : Int32} (hp : post (cn, ln, nw, ch, oc, od, N, V, ds_fg M x 0 4, ON, OV, OM, LS)) : ∀ d i, i + d = 4 → ∀ n, d < n → wY_forget_2 post x cn ln nw ch oc od n (nI i) N V (ds_fg M x 0 i) ON OV OM LS := by
  intro d
  induction d with
  | zero =>
    intro i hi n hn
    obtain ⟨m, rfl⟩ := dx_pre hn
    obtain rfl : i = 4 := by omega
    exact br_t (nI_le (a := 4) (b := 4) (by omega) (by decide)) hp
  | succ d ih =>
    intro i hi n hn
    obtain ⟨m, rfl⟩ := dx_pre hn
    have hin : vp_in (nI i) 4 := vp_in_nI (by omega) (by decide)
    have e : ds_fg M x 0 i (nI i).toNatClampNeg = M i := by
      rw [nI_clamp (by omega), ds_fg_ge (Nat.le_refl _)]
    refine br_f (nI_ge (b := 4) (by omega) (by decide)) ⟨hin, ?_⟩
    by_cases z : M i = x
    · refine br_t (e.trans z) ⟨hin, fun B eB y ey => ?_⟩
      subst eB ey
      rw [nI_clamp (by omega), nI_1, ds_fg_t z]
      exact ih (i + 1) (by omega) m (by omega)
    · refine br_f (fun w => z (e.symm.trans w)) (fun y ey => ?_)
      subst ey
      rw [nI_1, ds_fg_f z]
      exact ih (i + 1) (by omega) m (by omega)
theorem dy_forget {post : SY → Prop} {x : Int32} (hp : post (cn, ln, nw, ch, oc, od, N, V, ds_fg M x 0 4, ON, OV, OM, LS)) : wpY_forget post (cn, ln, nw, ch, oc, od, N, V, M, ON, OV, OM, LS) x := by
  refine Exists.intro 5 ?_
  have h := dy_fg2 hp 4 0 rfl 5 (by decide)
  rw [ds_fg_0] at h
  exact h
theorem dy_sfy (A : Nat → Int32) {q t c : Nat} (hp : q ≤ c) (ht : t ≤ c) : upd (ds_up (ds_dn A q c) c t) t (A q) = ds_sf A q t := ds_sf_y A (c := c + 1) (by omega) (by omega)
theorem dy_shift {post : SY → Prop} {a t c : Nat} (ha : a ≤ c) (ht : t ≤ c) (hc : c < 60) (hp : post (nI (c + 1), ln, nw, ch, oc, od, ds_sf N a t, ds_sf V a t, M, ON, OV, OM, LS)) : wpY_shift post (nI (c + 1), ln, nw, ch, oc, od, N, V, M, ON, OV, OM, LS) (nI a) (nI t) := by
  have hin : vp_in (nI a) 60 := vp_in_nI (by omega) (by decide)
  refine And.intro hin (fun x ex => ⟨hin, fun v ev => ?_⟩)
  rw [nI_clamp (by omega)] at ex ev
  subst ex ev
  refine dy_take ha hc ?_
  refine dy_insR ht hc ?_
  rw [dy_sfy N ha ht, dy_sfy V ha ht]
  exact hp
/-! move: the loop, upward and downward -/
theorem dy_mv75 {post : Int32 → SY → Prop} {J : Int32 → Int32 → Int32 → Int32 → Int32 → Int32 → Int32 → (Nat → Int32) → (Nat → Int32) → (Nat → Int32) → (Nat → Int32) → (Nat → Int32) → (Nat → Int32) → (Nat → Int32) → Prop} {x1 x2 x3 x4 : Int32} {a t c k : Nat} (ha : a ≤ c) (ht : t ≤ c) (hc : c < 60) (hd : (x1 ≤ x3 ∧ x3 - 1 = nI t) ∨ (¬ x1 ≤ x3 ∧ x3 + nI k = nI t)) (hp : J (nI (k + 1)) (nI (c + 1)) ln nw ch oc od (ds_sf N a t) (ds_sf V a t) M ON OV OM LS) : wY_move_75 post J x1 x2 x3 x4 (nI k) (nI a) (nI (c + 1)) ln nw ch oc od N V M ON OV OM LS := by
  have hin : vp_in (nI a) 60 := vp_in_nI (by omega) (by decide)
  refine And.intro hin (fun x ex => ⟨hin, fun v ev => ?_⟩)
  rw [nI_clamp (by omega)] at ex ev
  subst ex ev
  refine dy_take ha hc ?_
  have fin : wpY_insert (fun u => match u with | (b0, b1, b2, b3, b4, b5, b6, b7, b8, b9, b10, b11, b12) => ∀ y : Int32, y = nI k + 1 → J y b0 b1 b2 b3 b4 b5 b6 b7 b8 b9 b10 b11 b12) (nI c, ln, nw, ch, oc, od, ds_dn N a c, ds_dn V a c, M, ON, OV, OM, LS) (nI t) (N a) (V a) := by
    refine dy_insR ht hc ?_
    rw [dy_sfy N ha ht, dy_sfy V ha ht]
    intro y ey
    rw [nI_1] at ey
    subst ey
    exact hp
  rcases hd with ⟨h1, h2⟩ | ⟨h1, h2⟩
  · refine br_t h1 ?_
    rw [h2]
    exact fin
  · refine br_f h1 ?_
    rw [h2]
    exact fin
theorem dy_mvU {post : Int32 → SY → Prop} {x : Int32} {a t c s : Nat} (hs : 0 < s) (ha : a + s ≤ c + 1) (hta : t ≤ a) (hc : c < 60) (hx : ∀ m, wY_move_50 post (nI (a + 1)) (nI (a + s)) (nI t) x (m + 1) (nI s) (nI (c + 1)) ln nw ch oc od (ds_mv (fun k => a + k) (fun k => t + k) s N) (ds_mv (fun k => a + k) (fun k => t + k) s V) M ON OV OM LS) : ∀ d k, k + d = s → ∀ n, d < n → wY_move_50 post (nI (a + 1)) (nI (a + s)) (nI t) x n (nI k) (nI (c + 1)) ln nw ch oc od (ds_mv (fun k => a + k) (fun k => t + k) k N) (ds_mv (fun k => a + k) (fun k => t + k) k V) M ON OV OM LS := by
  intro d
  induction d with
  | zero =>
    intro k hk n hn
    obtain ⟨m, rfl⟩ := dx_pre hn
    obtain rfl : k = s := by omega
    exact hx m
  | succ d ih =>
    intro k hk n hn
    obtain ⟨m, rfl⟩ := dx_pre hn
    have h0 : ¬ nI (a + s) - nI (a + 1) < nI k := by
      rw [pk_sub (by omega)]
      exact nI_nlt (by omega) (by omega)
    have h1 : ¬ nI (a + 1) ≤ nI t := nI_ge (by omega) (by omega)
    refine br_f h0 (br_f h1 ?_)
    rw [nI_pred a, nI_add a k]
    exact dy_mv75 (by omega) (t := t + k) (by omega) hc (Or.inr ⟨h1, nI_add t k⟩) (ih (k + 1) (by omega) m (by omega))
theorem dy_mvD {post : Int32 → SY → Prop} {x : Int32} {a t c s : Nat} (hs : 0 < s) (hta : a + s ≤ t + 1) (ht : t ≤ c) (hc : c < 60) (hx : ∀ m, wY_move_50 post (nI (a + 1)) (nI (a + s)) (nI (t + 1)) x (m + 1) (nI s) (nI (c + 1)) ln nw ch oc od (ds_mv (fun _ => a) (fun _ => t) s N) (ds_mv (fun _ => a) (fun _ => t) s V) M ON OV OM LS) : ∀ d k, k + d = s → ∀ n, d < n → wY_move_50 post (nI (a + 1)) (nI (a + s)) (nI (t + 1)) x n (nI k) (nI (c + 1)) ln nw ch oc od (ds_mv (fun _ => a) (fun _ => t) k N) (ds_mv (fun _ => a) (fun _ => t) k V) M ON OV OM LS := by
  intro d
  induction d with
  | zero =>
    intro k hk n hn
    obtain ⟨m, rfl⟩ := dx_pre hn
    obtain rfl : k = s := by omega
    exact hx m
  | succ d ih =>
    intro k hk n hn
    obtain ⟨m, rfl⟩ := dx_pre hn
    have h0 : ¬ nI (a + s) - nI (a + 1) < nI k := by
      rw [pk_sub (by omega)]
      exact nI_nlt (by omega) (by omega)
    have h1 : nI (a + 1) ≤ nI (t + 1) := nI_le (by omega) (by omega)
    refine br_f h0 (br_t h1 ?_)
    rw [nI_pred a]
    exact dy_mv75 (by omega) (t := t) (by omega) hc (Or.inl ⟨h1, nI_pred t⟩) (ih (k + 1) (by omega) m (by omega))
end
def ds_rnN (a c : Nat) : Nat → (Nat → Int32) → (Nat → Int32)
  | 0, A => A
  | k + 1, A => ds_dn (ds_rnN a c k A) a (c - (k + 1))
def ds_rnM (a c : Nat) (N : Nat → Int32) : Nat → (Nat → Int32) → (Nat → Int32)
  | 0, M => M
  | k + 1, M => ds_fg (ds_rnM a c N k M) (ds_rnN a c k N a) 0 4
def ds_ci (c t : Nat) (F : Nat → Int32) : Nat → (Nat → Int32) → (Nat → Int32)
  | 0, A => A
  | k + 1, A => ds_sf (upd (ds_ci c t F k A) (c + k) (F k)) (c + k) (t + k)
section
variable {cn ln nw ch oc od : Int32} {N V M ON OV OM LS : Nat → Int32}
theorem dy_rm17 {post : Int32 → SY → Prop} {a c s : Nat} (hs : a + s ≤ c) (hc : c ≤ 60) (hx : ∀ m, wY_remove_17 post (nI (a + 1)) (nI (a + s)) (m + 1) (nI (a + 1 + s)) (nI (c - s)) ln nw ch oc od (ds_rnN a c s N) (ds_rnN a c s V) (ds_rnM a c N s M) ON OV OM LS) : ∀ d k, k + d = s → ∀ n, d < n → wY_remove_17 post (nI (a + 1)) (nI (a + s)) n (nI (a + 1 + k)) (nI (c - k)) ln nw ch oc od (ds_rnN a c k N) (ds_rnN a c k V) (ds_rnM a c N k M) ON OV OM LS := by
  intro d
  induction d with
  | zero =>
    intro k hk n hn
    obtain ⟨m, rfl⟩ := dx_pre hn
    obtain rfl : k = s := by omega
    exact hx m
  | succ d ih =>
    intro k hk n hn
    obtain ⟨m, rfl⟩ := dx_pre hn
    refine br_f (nI_nlt (by omega) (by omega)) ?_
    rw [nI_pred a, show c - k = (c - (k + 1)) + 1 from by omega, nI_clamp (by omega)]
    refine ⟨vp_in_nI (by omega) (by decide), ?_⟩
    refine dy_forget ?_
    refine dy_take (by omega) (by omega) ?_
    intro y ey
    subst ey
    rw [nI_1]
    exact ih (k + 1) (by omega) m (by omega)
theorem dy_cp45 {post : Int32 → SY → Prop} {x3 : Int32} {a s : Nat} (hs : a + s ≤ 60) (hx : ∃ n, wY_copy_78 post (nI (a + 1)) (nI (a + s)) x3 n 0 cn ln nw ch oc od N V M ON OV OM (ds_cp s (fun j => V (a + j)) LS)) : ∀ d k, k + d = s → ∀ n, d < n → wY_copy_45 post (nI (a + 1)) (nI (a + s)) x3 cn ln nw ch oc od n (nI (a + 1 + k)) N V M ON OV OM (ds_cp k (fun j => V (a + j)) LS) := by
  intro d
  induction d with
  | zero =>
    intro k hk n hn
    obtain ⟨m, rfl⟩ := dx_pre hn
    obtain rfl : k = s := by omega
    exact br_t (nI_lt (by omega) (by omega)) hx
  | succ d ih =>
    intro k hk n hn
    obtain ⟨m, rfl⟩ := dx_pre hn
    have e1 : nI (a + 1 + k) - 1 = nI (a + k) := by
      rw [show a + 1 + k = (a + k) + 1 from by omega, nI_pred]
    have e2 : nI (a + 1 + k) - nI (a + 1) = nI k := by
      rw [pk_sub (by omega)]
      exact congrArg nI (by omega)
    refine br_f (nI_nlt (by omega) (by omega)) ⟨by rw [e1]; exact vp_in_nI (by omega) (by decide), by rw [e2]; exact vp_in_nI (by omega) (by decide), fun A eA y ey => ?_⟩
    subst eA ey
    rw [e1, e2, nI_1, nI_clamp (by omega), nI_clamp (by omega), ds_cp_s (fun j => V (a + j)) LS k]
    exact ih (k + 1) (by omega) m (by omega)
theorem dy_cp78 {post : Int32 → SY → Prop} {F : Nat → Int32} {a t c s L : Nat} (hs : 0 < s) (ha : a + s ≤ 60) (ht : t ≤ c) (hc : c + s ≤ 60) (hF : ∀ j, j < s → LS j = F j) (hp : post (nI (t + s)) (nI (c + s), nI (L + s), nI (L + s), ch, oc, od, ds_ci c t (fun k => nI (L + k + 1)) s N, ds_ci c t F s V, M, ON, OV, OM, LS)) : ∀ d k, k + d = s → ∀ n, d < n → wY_copy_78 post (nI (a + 1)) (nI (a + s)) (nI t) n (nI k) (nI (c + k)) (nI (L + k)) nw ch oc od (ds_ci c t (fun k => nI (L + k + 1)) k N) (ds_ci c t F k V) M ON OV OM LS := by
  have e0 : nI (a + s) - nI (a + 1) = nI (s - 1) := by
    rw [pk_sub (by omega)]
    exact congrArg nI (by omega)
  have e3 : nI t + nI (a + s) - nI (a + 1) + 1 = nI (t + s) := by
    rw [nI_add, pk_sub (by omega), nI_1]
    exact congrArg nI (by omega)
  intro d
  induction d with
  | zero =>
    intro k hk n hn
    obtain ⟨m, rfl⟩ := dx_pre hn
    obtain rfl : k = s := by omega
    refine br_t (by rw [e0]; exact nI_lt (by omega) (by omega)) ?_
    rw [e3]
    exact hp
  | succ d ih =>
    intro k hk n hn
    obtain ⟨m, rfl⟩ := dx_pre hn
    refine br_f (by rw [e0]; exact nI_nlt (by omega) (by omega)) (fun l el => ⟨vp_in_nI (by omega) (by decide), ?_⟩)
    rw [nI_1] at el
    subst el
    rw [nI_add t k, nI_clamp (by omega), hF k (by omega)]
    refine dy_insert (by omega) (by omega) ?_
    intro y ey
    subst ey
    rw [nI_1 k]
    exact ih (k + 1) (by omega) m (by omega)
theorem dy_un77 {post : Int32 → SY → Prop} (hp : post 1 (oc, ln, od, ch, cn, nw, N, V, ds_cp 4 OM M, ON, OV, ds_cp 4 M OM, LS)) : ∀ d i, i + d = 4 → ∀ n, d < n → wY_undo_77 post cn ln nw ch oc od n (nI i) N V (ds_cp i OM M) ON OV (ds_cp i M OM) LS := by
  intro d
  induction d with
  | zero =>
    intro i hi n hn
    obtain ⟨m, rfl⟩ := dx_pre hn
    obtain rfl : i = 4 := by omega
    exact br_t (nI_le (a := 4) (b := 4) (by omega) (by decide)) hp
  | succ d ih =>
    intro i hi n hn
    obtain ⟨m, rfl⟩ := dx_pre hn
    have hin : vp_in (nI i) 4 := vp_in_nI (by omega) (by decide)
    refine br_f (nI_ge (b := 4) (by omega) (by decide)) ⟨hin, fun x1 e1 => ⟨hin, hin, fun A eA => ⟨hin, fun B eB y ey => ?_⟩⟩⟩
    subst e1 eA eB ey
    rw [nI_clamp (by omega), nI_1, ds_cp_ge (Nat.le_refl i), ds_cp_ge (Nat.le_refl i), ds_cp_s, ds_cp_s]
    exact ih (i + 1) (by omega) m (by omega)
theorem dy_un11 {post : Int32 → SY → Prop} (hp : post 1 (oc, ln, od, ch, cn, nw, ds_cp 60 ON N, ds_cp 60 OV V, ds_cp 4 OM M, ds_cp 60 N ON, ds_cp 60 V OV, ds_cp 4 M OM, LS)) : ∀ d i, i + d = 60 → ∀ n, d < n → wY_undo_11 post cn ln nw ch oc od n (nI i) (ds_cp i ON N) (ds_cp i OV V) M (ds_cp i N ON) (ds_cp i V OV) OM LS := by
  intro d
  induction d with
  | zero =>
    intro i hi n hn
    obtain ⟨m, rfl⟩ := dx_pre hn
    obtain rfl : i = 60 := by omega
    refine br_t (nI_le (a := 60) (b := 60) (by omega) (by decide)) ⟨5, ?_⟩
    have h := dy_un77 hp 4 0 rfl 5 (by decide)
    rw [ds_cp_0, ds_cp_0] at h
    exact h
  | succ d ih =>
    intro i hi n hn
    obtain ⟨m, rfl⟩ := dx_pre hn
    have hin : vp_in (nI i) 60 := vp_in_nI (by omega) (by decide)
    refine br_f (nI_ge (b := 60) (by omega) (by decide)) ⟨hin, fun x1 e1 => ⟨hin, fun x2 e2 => ⟨hin, hin, fun A eA => ⟨hin, hin, fun B eB => ⟨hin, fun C eC => ⟨hin, fun D eD y ey => ?_⟩⟩⟩⟩⟩⟩
    subst e1 e2 eA eB eC eD ey
    rw [nI_clamp (by omega), nI_1, ds_cp_ge (Nat.le_refl i), ds_cp_ge (Nat.le_refl i), ds_cp_ge (Nat.le_refl i), ds_cp_ge (Nat.le_refl i), ds_cp_s, ds_cp_s, ds_cp_s, ds_cp_s]
    exact ih (i + 1) (by omega) m (by omega)
theorem dy_undo {post : Int32 → SY → Prop} (hc : ¬ ch = 0) (hp : post 1 (oc, ln, od, ch, cn, nw, ds_cp 60 ON N, ds_cp 60 OV V, ds_cp 4 OM M, ds_cp 60 N ON, ds_cp 60 V OV, ds_cp 4 M OM, LS)) : wpY_undo post (cn, ln, nw, ch, oc, od, N, V, M, ON, OV, OM, LS) := by
  refine br_f hc ⟨61, ?_⟩
  have h := dy_un11 hp 60 0 rfl 61 (by decide)
  rw [ds_cp_0, ds_cp_0, ds_cp_0, ds_cp_0] at h
  exact h
end
