section
variable {cn p kc kp ch : Int32} {O W M KO KW KM CH : Nat → Int32}
/-! the component's own methods, each with a general post -/
theorem dx_pre {n d : Nat} (h : d < n) : ∃ m, n = m + 1 := ⟨n - 1, by omega⟩
theorem dx_in81 {post : SX → Prop} {A : Nat → Int32} (hp : post (0, -1, kc, kp, 0, O, W, ds_cp 4 (fun _ => -1) A, KO, KW, KM, CH)) : ∀ d i, i + d = 4 → ∀ n, d < n → wX_init_81 post cn p kc kp ch n (nI i) O W (ds_cp i (fun _ => -1) A) KO KW KM CH := by
  intro d
  induction d with
  | zero =>
    intro i hi n hn
    obtain ⟨m, rfl⟩ := dx_pre hn
    obtain rfl : i = 4 := by omega
    exact br_t (nI_le (a := 4) (b := 4) (by omega) (by decide)) hp
  | succ d ih =>
    intro i hi n hn
    obtain ⟨m, rfl⟩ := dx_pre hn
    have hin : vp_in (nI i) 4 := vp_in_nI (by omega) (by decide)
    refine br_f (nI_ge (b := 4) (by omega) (by decide)) ⟨hin, fun B eB x ex => ?_⟩
    subst eB ex
    rw [nI_clamp (by omega), nI_1, ds_cp_s (fun _ => -1) A i]
    exact ih (i + 1) (by omega) m (by omega)
theorem dx_in60 {post : SX → Prop} {A : Nat → Int32} (hp : post (0, -1, kc, kp, 0, ds_cp 60 nI A, W, ds_cp 4 (fun _ => -1) M, KO, KW, KM, CH)) : ∀ d i, i + d = 60 → ∀ n, d < n → wX_init_60 post cn p kc kp ch n (nI i) (ds_cp i nI A) W M KO KW KM CH := by
  intro d
  induction d with
  | zero =>
    intro i hi n hn
    obtain ⟨m, rfl⟩ := dx_pre hn
    obtain rfl : i = 60 := by omega
    refine br_t (nI_le (a := 60) (b := 60) (by omega) (by decide)) ⟨5, ?_⟩
    have h := dx_in81 (cn := cn) (p := p) (ch := ch) hp 4 0 rfl 5 (by decide)
    rw [ds_cp_0] at h
    exact h
  | succ d ih =>
    intro i hi n hn
    obtain ⟨m, rfl⟩ := dx_pre hn
    have hin : vp_in (nI i) 60 := vp_in_nI (by omega) (by decide)
    refine br_f (nI_ge (b := 60) (by omega) (by decide)) ⟨hin, fun B eB x ex => ?_⟩
    subst eB ex
    rw [nI_clamp (by omega), nI_1, ds_cp_s nI A i]
    exact ih (i + 1) (by omega) m (by omega)
theorem dx_keep4 {post : SX → Prop} (hp : post (cn, p, cn, p, 1, O, W, M, KO, KW, ds_cp 4 M KM, CH)) : ∀ d i, i + d = 4 → ∀ n, d < n → wX_keepState_40 post cn p kc kp ch n (nI i) O W M KO KW (ds_cp i M KM) CH := by
  intro d
  induction d with
  | zero =>
    intro i hi n hn
    obtain ⟨m, rfl⟩ := dx_pre hn
    obtain rfl : i = 4 := by omega
    exact br_t (nI_le (a := 4) (b := 4) (by omega) (by decide)) hp
  | succ d ih =>
    intro i hi n hn
    obtain ⟨m, rfl⟩ := dx_pre hn
    have hin : vp_in (nI i) 4 := vp_in_nI (by omega) (by decide)
    refine br_f (nI_ge (b := 4) (by omega) (by decide)) ⟨hin, hin, fun B eB x ex => ?_⟩
    subst eB ex
    rw [nI_clamp (by omega), nI_1, ds_cp_s]
    exact ih (i + 1) (by omega) m (by omega)
theorem dx_keep2 {post : SX → Prop} (hp : post (cn, p, cn, p, 1, O, W, M, ds_cp 60 O KO, ds_cp 60 W KW, ds_cp 4 M KM, CH)) : ∀ d i, i + d = 60 → ∀ n, d < n → wX_keepState_2 post cn p kc kp ch n (nI i) O W M (ds_cp i O KO) (ds_cp i W KW) KM CH := by
  intro d
  induction d with
  | zero =>
    intro i hi n hn
    obtain ⟨m, rfl⟩ := dx_pre hn
    obtain rfl : i = 60 := by omega
    refine br_t (nI_le (a := 60) (b := 60) (by omega) (by decide)) ⟨5, ?_⟩
    have h := dx_keep4 (kc := kc) (kp := kp) (ch := ch) hp 4 0 rfl 5 (by decide)
    rw [ds_cp_0] at h
    exact h
  | succ d ih =>
    intro i hi n hn
    obtain ⟨m, rfl⟩ := dx_pre hn
    have hin : vp_in (nI i) 60 := vp_in_nI (by omega) (by decide)
    refine br_f (nI_ge (b := 60) (by omega) (by decide)) ⟨hin, hin, fun B eB => ⟨hin, hin, fun C eC x ex => ?_⟩⟩
    subst eB eC ex
    rw [nI_clamp (by omega), nI_1, ds_cp_s, ds_cp_s]
    exact ih (i + 1) (by omega) m (by omega)
theorem dx_keep {post : SX → Prop} (hp : post (cn, p, cn, p, 1, O, W, M, ds_cp 60 O KO, ds_cp 60 W KW, ds_cp 4 M KM, CH)) : wpX_keepState post (cn, p, kc, kp, ch, O, W, M, KO, KW, KM, CH) := by
  refine Exists.intro 61 ?_
  have h := dx_keep2 (kc := kc) (kp := kp) (ch := ch) hp 60 0 rfl 61 (by decide)
  rw [ds_cp_0, ds_cp_0] at h
  exact h
theorem dx_append {post : SX → Prop} {c : Nat} {v : Int32} (hc : c < 60) (hO : vp_in (O c) 60) (hp : post (nI (c + 1), p, kc, kp, ch, O, upd W (O c).toNatClampNeg v, M, KO, KW, KM, CH)) : wpX_appendLine post (nI c, p, kc, kp, ch, O, W, M, KO, KW, KM, CH) v := by
  have e : (nI c).toNatClampNeg = c := nI_clamp (by omega)
  refine And.intro (vp_in_nI hc (by decide)) ⟨by rw [e]; exact hO, fun B eB x ex => ?_⟩
  subst eB ex
  rw [e, nI_1]
  exact hp
theorem dx_sh41 {post : SX → Prop} {t : Nat} {x : Int32} (ht : t < 60) : ∀ d i A, i ≤ t + d → i < 60 → post (cn, p, kc, kp, ch, upd (ds_up A i t) t x, W, M, KO, KW, KM, CH) → ∀ n, d < n → wX_shiftLine_41 post (nI t) x cn p kc kp ch n (nI i) A W M KO KW KM CH := by
  have ex0 : ∀ (i : Nat) (A : Nat → Int32) (m : Nat), i ≤ t → post (cn, p, kc, kp, ch, upd (ds_up A i t) t x, W, M, KO, KW, KM, CH) → wX_shiftLine_41 post (nI t) x cn p kc kp ch (m + 1) (nI i) A W M KO KW KM CH := by
    intro i A m hi hp
    refine br_t (nI_le hi (by omega)) ⟨vp_in_nI ht (by decide), fun B eB => ?_⟩
    subst eB
    rw [nI_clamp (by omega)]
    rw [ds_up_0 hi] at hp
    exact hp
  intro d
  induction d with
  | zero =>
    intro i A hi hi6 hp n hn
    obtain ⟨m, rfl⟩ := dx_pre hn
    exact ex0 i A m hi hp
  | succ d ih =>
    intro i A hi hi6 hp n hn
    obtain ⟨m, rfl⟩ := dx_pre hn
    by_cases h : i ≤ t
    · exact ex0 i A m h hp
    · obtain ⟨j, rfl⟩ : ∃ j, i = j + 1 := ⟨i - 1, by omega⟩
      refine br_f (nI_ge (by omega) (by omega)) ⟨by rw [nI_pred]; exact vp_in_nI (by omega) (by decide), vp_in_nI hi6 (by decide), fun B eB y ey => ?_⟩
      subst eB ey
      rw [nI_pred, nI_clamp (by omega), nI_clamp (by omega), pk_m1]
      exact ih j _ (by omega) (by omega) (by rw [ds_up_s (by omega)]; exact hp) m (by omega)
theorem dx_sh10 {post : SX → Prop} {a t : Nat} {x : Int32} (ha : a < 60) (ht : t < 60) : ∀ d i A, t ≤ i + d → i < 60 → post (cn, p, kc, kp, ch, upd (ds_up (ds_dn A i t) a t) t x, W, M, KO, KW, KM, CH) → ∀ n, d < n → wX_shiftLine_10 post (nI a) (nI t) x cn p kc kp ch n (nI i) A W M KO KW KM CH := by
  have ex0 : ∀ (i : Nat) (A : Nat → Int32) (m : Nat), i < 60 → t ≤ i → post (cn, p, kc, kp, ch, upd (ds_up (ds_dn A i t) a t) t x, W, M, KO, KW, KM, CH) → wX_shiftLine_10 post (nI a) (nI t) x cn p kc kp ch (m + 1) (nI i) A W M KO KW KM CH := by
    intro i A m hb hi hp
    refine br_t (nI_le hi (by omega)) ⟨a + 1, ?_⟩
    rw [ds_dn_0 hi] at hp
    exact dx_sh41 ht a a A (by omega) ha hp (a + 1) (by omega)
  intro d
  induction d with
  | zero =>
    intro i A hi hi6 hp n hn
    obtain ⟨m, rfl⟩ := dx_pre hn
    exact ex0 i A m hi6 hi hp
  | succ d ih =>
    intro i A hi hi6 hp n hn
    obtain ⟨m, rfl⟩ := dx_pre hn
    by_cases h : t ≤ i
    · exact ex0 i A m hi6 h hp
    · refine br_f (nI_ge (by omega) (by omega)) ⟨by rw [nI_1]; exact vp_in_nI (by omega) (by decide), vp_in_nI hi6 (by decide), fun B eB y ey => ?_⟩
      subst eB ey
      rw [nI_1, nI_clamp (by omega), nI_clamp (by omega)]
      exact ih (i + 1) _ (by omega) (by omega) (by rw [ds_dn_s (by omega)]; exact hp) m (by omega)
theorem dx_shift {post : SX → Prop} {a t : Nat} (ha : a < 60) (ht : t < 60) (hp : post (cn, p, kc, kp, ch, ds_sf O a t, W, M, KO, KW, KM, CH)) : wpX_shiftLine post (cn, p, kc, kp, ch, O, W, M, KO, KW, KM, CH) (nI a) (nI t) := by
  refine And.intro (vp_in_nI ha (by decide)) (fun x ex => ⟨t + 1, ?_⟩)
  rw [nI_clamp (by omega)] at ex
  subst ex
  rw [← ds_sf_x] at hp
  exact dx_sh10 ha ht t a O (by omega) ha hp (t + 1) (by omega)
theorem dx_drop9 {post : SX → Prop} {a c : Nat} {x : Int32} (ha : a ≤ c) (hc : c < 60) (hp : post (nI c, p, kc, kp, ch, ds_sf O a c, W, ds_fg M x (-1) 4, KO, KW, KM, CH)) : ∀ d i, i + d = 4 → ∀ n, d < n → wX_dropLine_9 post (nI a) x (nI (c + 1)) p kc kp ch n (nI i) O W (ds_fg M x (-1) i) KO KW KM CH := by
  intro d
  induction d with
  | zero =>
    intro i hi n hn
    obtain ⟨m, rfl⟩ := dx_pre hn
    obtain rfl : i = 4 := by omega
    refine br_t (nI_le (a := 4) (b := 4) (by omega) (by decide)) ?_
    rw [nI_pred]
    refine dx_shift (by omega) hc ?_
    intro y ey
    subst ey
    rw [nI_pred]
    exact hp
  | succ d ih =>
    intro i hi n hn
    obtain ⟨m, rfl⟩ := dx_pre hn
    have hin : vp_in (nI i) 4 := vp_in_nI (by omega) (by decide)
    have e : ds_fg M x (-1) i (nI i).toNatClampNeg = M i := by
      rw [nI_clamp (by omega), ds_fg_ge (Nat.le_refl _)]
    refine br_f (nI_ge (b := 4) (by omega) (by decide)) ⟨hin, ?_⟩
    by_cases z : M i = x
    · refine br_t (e.trans z) ⟨hin, fun B eB y ey => ?_⟩
      subst eB ey
      rw [nI_clamp (by omega), nI_1, ds_fg_t z]
      exact ih (i + 1) (by omega) m (by omega)
    · refine br_f (fun w => z (e.symm.trans w)) (fun y ey => ?_)
      subst ey
      rw [nI_1, ds_fg_f z]
      exact ih (i + 1) (by omega) m (by omega)
theorem dx_drop {post : SX → Prop} {a c : Nat} (ha : a ≤ c) (hc : c < 60) (hp : post (nI c, p, kc, kp, ch, ds_sf O a c, W, ds_fg M (O a) (-1) 4, KO, KW, KM, CH)) : wpX_dropLine post (nI (c + 1), p, kc, kp, ch, O, W, M, KO, KW, KM, CH) (nI a) := by
  refine And.intro (vp_in_nI (by omega) (by decide)) (fun x ex => ⟨5, ?_⟩)
  rw [nI_clamp (by omega)] at ex
  subst ex
  have h := dx_drop9 ha hc hp 4 0 rfl 5 (by decide)
  rw [ds_fg_0] at h
  exact h
theorem dx_num_at {post : Int32 → Prop} {c i0 : Nat} {x : Int32} (hc : c ≤ 60) (hi0 : i0 < c) (e : O i0 = x) (hne : ∀ j, j < i0 → O j ≠ x) (hp : post (nI (i0 + 1))) : wpX_numberOf post (nI c, p, kc, kp, ch, O, W, M, KO, KW, KM, CH) x := by
  have key : ∀ d i, i + d = i0 → ∀ n, d < n → wX_numberOf_2 post x (nI c) p kc kp ch O W M KO KW KM CH n (nI i) := by
    intro d
    induction d with
    | zero =>
      intro i hi n hn
      obtain ⟨m, rfl⟩ := dx_pre hn
      obtain rfl : i = i0 := by omega
      refine br_f (nI_ge hi0 (by omega)) ⟨vp_in_nI (by omega) (by decide), br_t (by rw [nI_clamp (by omega)]; exact e) ?_⟩
      rw [nI_1]
      exact hp
    | succ d ih =>
      intro i hi n hn
      obtain ⟨m, rfl⟩ := dx_pre hn
      refine br_f (nI_ge (by omega) (by omega)) ⟨vp_in_nI (by omega) (by decide), br_f (by rw [nI_clamp (by omega)]; exact hne i (by omega)) (fun y ey => ?_)⟩
      subst ey
      rw [nI_1]
      exact ih (i + 1) (by omega) m (by omega)
  exact Exists.intro (i0 + 1) (key i0 0 (by omega) (i0 + 1) (by omega))
theorem dx_num_no {post : Int32 → Prop} {c : Nat} {x : Int32} (hc : c ≤ 60) (hne : ∀ j, j < c → O j ≠ x) (hp : post 0) : wpX_numberOf post (nI c, p, kc, kp, ch, O, W, M, KO, KW, KM, CH) x := by
  have key : ∀ d i, i + d = c → ∀ n, d < n → wX_numberOf_2 post x (nI c) p kc kp ch O W M KO KW KM CH n (nI i) := by
    intro d
    induction d with
    | zero =>
      intro i hi n hn
      obtain ⟨m, rfl⟩ := dx_pre hn
      obtain rfl : i = c := by omega
      exact br_t (nI_le (Nat.le_refl _) (by omega)) hp
    | succ d ih =>
      intro i hi n hn
      obtain ⟨m, rfl⟩ := dx_pre hn
      refine br_f (nI_ge (by omega) (by omega)) ⟨vp_in_nI (by omega) (by decide), br_f (by rw [nI_clamp (by omega)]; exact hne i (by omega)) (fun y ey => ?_)⟩
      subst ey
      rw [nI_1]
      exact ih (i + 1) (by omega) m (by omega)
  exact Exists.intro (c + 1) (key c 0 (by omega) (c + 1) (by omega))
theorem dx_last_s {post : Int32 → Prop} {c : Nat} (hc : c < 60) (hp : post (O c)) : wpX_lastSlot post (nI (c + 1), p, kc, kp, ch, O, W, M, KO, KW, KM, CH) := by
  refine br_f (nI_nle (by omega) (by omega)) ⟨by rw [nI_pred]; exact vp_in_nI hc (by decide), ?_⟩
  rw [nI_pred, nI_clamp (by omega)]
  exact hp
theorem dx_last_0 {post : Int32 → Prop} (hp : post (-1)) : wpX_lastSlot post (nI 0, p, kc, kp, ch, O, W, M, KO, KW, KM, CH) := by
  exact br_t (by decide) hp
end
/-! the iterations of the longer methods -/
def ds_mv (g h : Nat → Nat) : Nat → (Nat → Int32) → (Nat → Int32)
  | 0, A => A
  | k + 1, A => ds_sf (ds_mv g h k A) (g k) (h k)
def ds_rmO (a c : Nat) : Nat → (Nat → Int32) → (Nat → Int32)
  | 0, A => A
  | k + 1, A => ds_sf (ds_rmO a c k A) a (c - (k + 1))
def ds_rmM (a c : Nat) (O : Nat → Int32) : Nat → (Nat → Int32) → (Nat → Int32)
  | 0, M => M
  | k + 1, M => ds_fg (ds_rmM a c O k M) (ds_rmO a c k O a) (-1) 4
def ds_apW (O : Nat → Int32) (c a : Nat) : Nat → (Nat → Int32) → (Nat → Int32)
  | 0, W => W
  | k + 1, W => upd (ds_apW O c a k W) (O (c + k)).toNatClampNeg (ds_apW O c a k W (O (a + k)).toNatClampNeg)
section
variable {cn p kc kp ch : Int32} {O W M KO KW KM CH : Nat → Int32}
theorem dx_mb43 {post : Int32 → SX → Prop} {a t s : Nat} (ha : a + s ≤ 60) (ht : t + s ≤ 60) (hp : post (nI (t + s)) (cn, p, kc, kp, ch, ds_mv (fun k => a + k) (fun k => t + k) s O, W, M, KO, KW, KM, CH)) : ∀ d k, k + d = s → ∀ n, d < n → wX_moveBlock_43 post (nI (a + 1)) (nI t) (nI s) n (nI k) cn p kc kp ch (ds_mv (fun k => a + k) (fun k => t + k) k O) W M KO KW KM CH := by
  intro d
  induction d with
  | zero =>
    intro k hk n hn
    obtain ⟨m, rfl⟩ := dx_pre hn
    obtain rfl : k = s := by omega
    refine br_t (nI_le (Nat.le_refl _) (by omega)) ?_
    rw [nI_add t k]
    exact hp
  | succ d ih =>
    intro k hk n hn
    obtain ⟨m, rfl⟩ := dx_pre hn
    refine br_f (nI_ge (by omega) (by omega)) ?_
    rw [nI_pred a, nI_add a k, nI_add t k]
    refine dx_shift (by omega) (by omega) ?_
    intro y ey
    subst ey
    rw [nI_1 k]
    exact ih (k + 1) (by omega) m (by omega)
theorem dx_mb15 {post : Int32 → SX → Prop} {a t s : Nat} (ha : a < 60) (ht : t < 60) (hs : s ≤ 60) (hp : post (nI (t + 1)) (cn, p, kc, kp, ch, ds_mv (fun _ => a) (fun _ => t) s O, W, M, KO, KW, KM, CH)) : ∀ d k, k + d = s → ∀ n, d < n → wX_moveBlock_15 post (nI (a + 1)) (nI (t + 1)) (nI s) n (nI k) cn p kc kp ch (ds_mv (fun _ => a) (fun _ => t) k O) W M KO KW KM CH := by
  intro d
  induction d with
  | zero =>
    intro k hk n hn
    obtain ⟨m, rfl⟩ := dx_pre hn
    obtain rfl : k = s := by omega
    exact br_t (nI_le (Nat.le_refl _) (by omega)) hp
  | succ d ih =>
    intro k hk n hn
    obtain ⟨m, rfl⟩ := dx_pre hn
    refine br_f (nI_ge (by omega) (by omega)) ?_
    rw [nI_pred a, nI_pred t]
    refine dx_shift (by omega) (by omega) ?_
    intro y ey
    subst ey
    rw [nI_1 k]
    exact ih (k + 1) (by omega) m (by omega)
/-- the block of s lines behind place a is put before a place t at or before it -/
theorem dx_mbU {post : Int32 → SX → Prop} {a t s : Nat} (hs : 0 < s) (ha : a + s ≤ 60) (ht : t + s ≤ 60) (hta : t ≤ a) (hp : post (nI (t + s)) (cn, p, kc, kp, ch, ds_mv (fun k => a + k) (fun k => t + k) s O, W, M, KO, KW, KM, CH)) : wpX_moveBlock post (cn, p, kc, kp, ch, O, W, M, KO, KW, KM, CH) (nI (a + 1)) (nI (a + s)) (nI t) := by
  have e : nI (a + s) - nI (a + 1) + 1 = nI s := by
    rw [pk_sub (by omega), nI_1]
    exact congrArg nI (by omega)
  intro x ex
  rw [e] at ex
  subst ex
  exact br_t (nI_lt (by omega) (by omega)) ⟨s + 1, dx_mb43 ha ht hp s 0 (by omega) (s + 1) (by omega)⟩
/-- the block of s lines behind place a is put behind the line at t, t at or behind its last -/
theorem dx_mbD {post : Int32 → SX → Prop} {a t s : Nat} (hs : 0 < s) (ha : a + s ≤ t + 1) (ht : t < 60) (hp : post (nI (t + 1)) (cn, p, kc, kp, ch, ds_mv (fun _ => a) (fun _ => t) s O, W, M, KO, KW, KM, CH)) : wpX_moveBlock post (cn, p, kc, kp, ch, O, W, M, KO, KW, KM, CH) (nI (a + 1)) (nI (a + s)) (nI (t + 1)) := by
  have e : nI (a + s) - nI (a + 1) + 1 = nI s := by
    rw [pk_sub (by omega), nI_1]
    exact congrArg nI (by omega)
  intro x ex
  rw [e] at ex
  subst ex
  exact br_f (nI_nlt (by omega) (by omega)) ⟨s + 1, dx_mb15 (by omega) ht (by omega) hp s 0 (by omega) (s + 1) (by omega)⟩
theorem dx_rm24 {post : Int32 → SX → Prop} {a c s : Nat} (hs : a + s ≤ c) (hc : c ≤ 60) (hx : ∀ m, wX_remove_24 post (nI (a + 1)) (nI s) (m + 1) (nI s) (nI (c - s)) p kc kp ch (ds_rmO a c s O) W (ds_rmM a c O s M) KO KW KM CH) : ∀ d k, k + d = s → ∀ n, d < n → wX_remove_24 post (nI (a + 1)) (nI s) n (nI k) (nI (c - k)) p kc kp ch (ds_rmO a c k O) W (ds_rmM a c O k M) KO KW KM CH := by
  intro d
  induction d with
  | zero =>
    intro k hk n hn
    obtain ⟨m, rfl⟩ := dx_pre hn
    obtain rfl : k = s := by omega
    exact hx m
  | succ d ih =>
    intro k hk n hn
    obtain ⟨m, rfl⟩ := dx_pre hn
    refine br_f (nI_ge (by omega) (by omega)) ?_
    rw [nI_pred a, show c - k = (c - (k + 1)) + 1 from by omega]
    refine dx_drop (by omega) (by omega) ?_
    intro y ey
    subst ey
    rw [nI_1 k]
    exact ih (k + 1) (by omega) m (by omega)
theorem dx_cp53 {post : Int32 → SX → Prop} {a t c s : Nat} (hO : ∀ i, i < 60 → vp_in (O i) 60) (hs : a + s ≤ c) (hc : c + s ≤ 60) (hx : ∀ m, wX_copy_53 post (nI (a + 1)) (nI t) (nI s) (nI c) (m + 1) (nI s) (nI (c + s)) p kc kp ch O (ds_apW O c a s W) M KO KW KM CH) : ∀ d k, k + d = s → ∀ n, d < n → wX_copy_53 post (nI (a + 1)) (nI t) (nI s) (nI c) n (nI k) (nI (c + k)) p kc kp ch O (ds_apW O c a k W) M KO KW KM CH := by
  intro d
  induction d with
  | zero =>
    intro k hk n hn
    obtain ⟨m, rfl⟩ := dx_pre hn
    obtain rfl : k = s := by omega
    exact hx m
  | succ d ih =>
    intro k hk n hn
    obtain ⟨m, rfl⟩ := dx_pre hn
    refine br_f (nI_ge (by omega) (by omega)) ?_
    rw [nI_pred a, nI_add a k, nI_clamp (by omega)]
    refine ⟨vp_in_nI (by omega) (by decide), hO _ (by omega), ?_⟩
    refine dx_append (by omega) (hO _ (by omega)) ?_
    intro y ey
    subst ey
    rw [nI_1 k]
    exact ih (k + 1) (by omega) m (by omega)
theorem dx_sl2 {post : SX → Prop} (hp : post (cn, p, kc, kp, ch, ds_cp 60 KO O, ds_cp 60 KW W, M, ds_cp 60 O KO, ds_cp 60 W KW, KM, CH)) : ∀ d i, i + d = 60 → ∀ n, d < n → wX_swapLines_2 post cn p kc kp ch n (nI i) (ds_cp i KO O) (ds_cp i KW W) M (ds_cp i O KO) (ds_cp i W KW) KM CH := by
  intro d
  induction d with
  | zero =>
    intro i hi n hn
    obtain ⟨m, rfl⟩ := dx_pre hn
    obtain rfl : i = 60 := by omega
    exact br_t (nI_le (a := 60) (b := 60) (by omega) (by decide)) hp
  | succ d ih =>
    intro i hi n hn
    obtain ⟨m, rfl⟩ := dx_pre hn
    have hin : vp_in (nI i) 60 := vp_in_nI (by omega) (by decide)
    refine br_f (nI_ge (b := 60) (by omega) (by decide)) ⟨hin, fun x1 e1 => ⟨hin, hin, fun A eA => ⟨hin, fun B eB => ⟨hin, fun x2 e2 => ⟨hin, hin, fun C eC => ⟨hin, fun D eD y ey => ?_⟩⟩⟩⟩⟩⟩
    subst e1 eA eB e2 eC eD ey
    rw [nI_clamp (by omega), nI_1, ds_cp_ge (Nat.le_refl i), ds_cp_ge (Nat.le_refl i), ds_cp_ge (Nat.le_refl i), ds_cp_ge (Nat.le_refl i), ds_cp_s, ds_cp_s, ds_cp_s, ds_cp_s]
    exact ih (i + 1) (by omega) m (by omega)
theorem dx_sl {post : SX → Prop} (hp : post (cn, p, kc, kp, ch, ds_cp 60 KO O, ds_cp 60 KW W, M, ds_cp 60 O KO, ds_cp 60 W KW, KM, CH)) : wpX_swapLines post (cn, p, kc, kp, ch, O, W, M, KO, KW, KM, CH) := by
  refine Exists.intro 61 ?_
  have h := dx_sl2 hp 60 0 rfl 61 (by decide)
  rw [ds_cp_0, ds_cp_0, ds_cp_0, ds_cp_0] at h
  exact h
theorem dx_sm2 {post : SX → Prop} (hp : post (cn, p, kc, kp, ch, O, W, ds_cp 4 KM M, KO, KW, ds_cp 4 M KM, CH)) : ∀ d i, i + d = 4 → ∀ n, d < n → wX_swapMarks_2 post cn p kc kp ch n (nI i) O W (ds_cp i KM M) KO KW (ds_cp i M KM) CH := by
  intro d
  induction d with
  | zero =>
    intro i hi n hn
    obtain ⟨m, rfl⟩ := dx_pre hn
    obtain rfl : i = 4 := by omega
    exact br_t (nI_le (a := 4) (b := 4) (by omega) (by decide)) hp
  | succ d ih =>
    intro i hi n hn
    obtain ⟨m, rfl⟩ := dx_pre hn
    have hin : vp_in (nI i) 4 := vp_in_nI (by omega) (by decide)
    refine br_f (nI_ge (b := 4) (by omega) (by decide)) ⟨hin, fun x1 e1 => ⟨hin, hin, fun A eA => ⟨hin, fun B eB y ey => ?_⟩⟩⟩
    subst e1 eA eB ey
    rw [nI_clamp (by omega), nI_1, ds_cp_ge (Nat.le_refl i), ds_cp_ge (Nat.le_refl i), ds_cp_s, ds_cp_s]
    exact ih (i + 1) (by omega) m (by omega)
theorem dx_sm {post : SX → Prop} (hp : post (cn, p, kc, kp, ch, O, W, ds_cp 4 KM M, KO, KW, ds_cp 4 M KM, CH)) : wpX_swapMarks post (cn, p, kc, kp, ch, O, W, M, KO, KW, KM, CH) := by
  refine Exists.intro 5 ?_
  have h := dx_sm2 hp 4 0 rfl 5 (by decide)
  rw [ds_cp_0, ds_cp_0] at h
  exact h
end
