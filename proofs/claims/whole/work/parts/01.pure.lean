/-! rows from kit/rows, pasted -/
theorem pk_us {f : Nat → Int32} {k : Nat} {x : Int32} : upd f k x k = x := if_pos rfl
theorem pk_un {f : Nat → Int32} {k j : Nat} {x : Int32} (h : j ≠ k) : upd f k x j = f j := if_neg h
theorem pk_sub {a b : Nat} (h : b ≤ a) : nI a - nI b = nI (a - b) := by
  obtain ⟨c, rfl⟩ : ∃ c, a = c + b := ⟨a - b, by omega⟩
  rw [← nI_add, Int32.add_sub_cancel, Nat.add_sub_cancel]
theorem pk_m1 (n : Nat) : nI (n + 1) + (-1) = nI n := by
  rw [← nI_1, Int32.add_assoc, show (1 : Int32) + (-1) = 0 from rfl, Int32.add_zero]
theorem pk_mul (a b : Nat) : nI a * nI b = nI (a * b) := (Int32.ofNat_mul a b).symm
theorem pk_div {a d : Nat} (ha : a < 2 ^ 31) (h0 : 0 < d) (hd : d < 2 ^ 31) : nI a / nI d = nI (a / d) := by
  apply Int32.toInt_inj.mp
  rw [lg_idiv_nonneg (by rw [nI_toInt ha]; omega) (by rw [nI_toInt hd]; omega), nI_toInt ha, nI_toInt hd, nI_toInt (Nat.lt_of_le_of_lt (Nat.div_le_self a d) ha)]
  first | rfl | exact (Int.natCast_ediv _ _).symm
theorem pk_rem {a d : Nat} (ha : a < 2 ^ 31) (h0 : 0 < d) (hd : d < 2 ^ 31) : nI a - nI a / nI d * nI d = nI (a % d) := by
  rw [pk_div ha h0 hd, pk_mul, pk_sub (Nat.div_mul_le_self a d)]
  exact congrArg nI (by have := Nat.div_add_mod' a d; omega)
theorem pk_in {x : Int32} (n N : Nat) (h : n < N) (hx : x = nI n := by rfl) (hN : N < 2 ^ 31 := by omega) : vp_in x N := by
  subst hx
  exact vp_in_nI h hN
theorem pk_cl {x : Int32} (n : Nat) (hx : x = nI n := by rfl) (h : n < 2 ^ 31 := by omega) : x.toNatClampNeg = n := by
  subst hx
  exact nI_clamp h
theorem pk_and (x : Int32) {m : Int32} (k : Nat) (hm : m.toBitVec.toNat = 2 ^ k - 1) : x &&& m = nI (x.toBitVec.toNat % 2 ^ k) := by
  apply Int32.toBitVec_inj.mp
  apply BitVec.eq_of_toNat_eq
  rw [Int32.toBitVec_and, BitVec.toNat_and, hm, Nat.and_two_pow_sub_one_eq_mod]
  show _ = (BitVec.ofNat 32 _).toNat
  rw [BitVec.toNat_ofNat]
  exact (Nat.mod_eq_of_lt (Nat.lt_of_le_of_lt (Nat.mod_le _ _) x.toBitVec.isLt)).symm
theorem pk_andE (x : Int32) {m : Int32} (k : Nat) (hm : m.toBitVec.toNat = 2 ^ k - 1) : ∃ j : Nat, j < 2 ^ k ∧ x &&& m = nI j := ⟨_, Nat.mod_lt _ (Nat.two_pow_pos k), pk_and x k hm⟩
theorem pk_andIn (x : Int32) {m : Int32} (k : Nat) (hm : m.toBitVec.toNat = 2 ^ k - 1) (hk : k ≤ 30) : vp_in (x &&& m) (2 ^ k) := by
  obtain ⟨j, hj, e⟩ := pk_andE x k hm
  rw [e]
  exact vp_in_nI hj (Nat.lt_of_le_of_lt (Nat.pow_le_pow_right (by decide) hk) (by decide))
/-! the index map of 'take the line at a out and put it at t', and what the loops make of an array -/
def ds_sh (a t j : Nat) : Nat := if j = t then a else if a ≤ j ∧ j < t then j + 1 else if t < j ∧ j ≤ a then j - 1 else j
def ds_sf (A : Nat → Int32) (a t : Nat) : Nat → Int32 := fun j => A (ds_sh a t j)
def ds_dn (A : Nat → Int32) (i t : Nat) : Nat → Int32 := fun j => if i ≤ j ∧ j < t then A (j + 1) else A j
def ds_up (A : Nat → Int32) (i t : Nat) : Nat → Int32 := fun j => if t < j ∧ j ≤ i then A (j - 1) else A j
def ds_cp (n : Nat) (A B : Nat → Int32) : Nat → Int32 := fun j => if j < n then A j else B j
def ds_fg (M : Nat → Int32) (x e : Int32) (n : Nat) : Nat → Int32 := fun j => if j < n ∧ M j = x then e else M j
theorem ds_dn_0 {A : Nat → Int32} {i t : Nat} (h : t ≤ i) : ds_dn A i t = A := by
  funext j
  unfold ds_dn
  rw [if_neg (by omega)]
theorem ds_dn_s {A : Nat → Int32} {i t : Nat} (h : i < t) : ds_dn (upd A i (A (i + 1))) (i + 1) t = ds_dn A i t := by
  funext j
  simp only [ds_dn, upd]
  repeat' split
  all_goals first | rfl | omega | (congr 1; omega)
theorem ds_up_0 {A : Nat → Int32} {i t : Nat} (h : i ≤ t) : ds_up A i t = A := by
  funext j
  unfold ds_up
  rw [if_neg (by omega)]
theorem ds_up_s {A : Nat → Int32} {i t : Nat} (h : t < i + 1) : ds_up (upd A (i + 1) (A i)) i t = ds_up A (i + 1) t := by
  funext j
  simp only [ds_up, upd]
  repeat' split
  all_goals first | rfl | omega | (congr 1; omega)
theorem ds_sf_x (A : Nat → Int32) (a t : Nat) : upd (ds_up (ds_dn A a t) a t) t (A a) = ds_sf A a t := by
  funext j
  simp only [ds_sf, ds_sh, ds_dn, ds_up, upd]
  repeat' split
  all_goals first | rfl | omega | (congr 1; omega)
theorem ds_sf_y (A : Nat → Int32) {p t c : Nat} (hp : p < c) (ht : t < c) : upd (ds_up (ds_dn A p (c - 1)) (c - 1) t) t (A p) = ds_sf A p t := by
  funext j
  simp only [ds_sf, ds_sh, ds_dn, ds_up, upd]
  repeat' split
  all_goals first | rfl | omega | (congr 1; omega)
theorem ds_ins (A : Nat → Int32) (x : Int32) {p c : Nat} (hp : p ≤ c) : upd (ds_up A c p) p x = ds_sf (upd A c x) c p := by
  funext j
  simp only [ds_sf, ds_sh, ds_up, upd]
  repeat' split
  all_goals first | rfl | omega | (congr 1; omega)
theorem ds_cp_0 (A B : Nat → Int32) : ds_cp 0 A B = B := by
  funext j
  unfold ds_cp
  rw [if_neg (by omega)]
theorem ds_cp_s (A B : Nat → Int32) (i : Nat) : upd (ds_cp i A B) i (A i) = ds_cp (i + 1) A B := by
  funext j
  simp only [ds_cp, upd]
  repeat' split
  all_goals first | rfl | omega | (congr 1; omega)
theorem ds_cp_lt {A B : Nat → Int32} {n j : Nat} (h : j < n) : ds_cp n A B j = A j := if_pos h
theorem ds_cp_ge {A B : Nat → Int32} {n j : Nat} (h : n ≤ j) : ds_cp n A B j = B j := if_neg (by omega)
theorem ds_fg_0 (M : Nat → Int32) (x e : Int32) : ds_fg M x e 0 = M := by
  funext j
  unfold ds_fg
  rw [if_neg (by omega)]
theorem ds_fg_ge {M : Nat → Int32} {x e : Int32} {n j : Nat} (h : n ≤ j) : ds_fg M x e n j = M j := if_neg (by omega)
theorem ds_fg_t {M : Nat → Int32} {x e : Int32} {i : Nat} (h : M i = x) : upd (ds_fg M x e i) i e = ds_fg M x e (i + 1) := by
  funext j
  unfold ds_fg upd
  dsimp only
  by_cases h1 : j = i
  · rw [if_pos h1, if_pos ⟨by omega, by rw [h1]; exact h⟩]
  · rw [if_neg h1]
    by_cases h2 : j < i ∧ M j = x
    · rw [if_pos h2, if_pos ⟨by omega, h2.2⟩]
    · rw [if_neg h2, if_neg (fun z => h2 ⟨by omega, z.2⟩)]
theorem ds_fg_f {M : Nat → Int32} {x e : Int32} {i : Nat} (h : ¬ M i = x) : ds_fg M x e i = ds_fg M x e (i + 1) := by
  funext j
  unfold ds_fg
  by_cases h2 : j < i ∧ M j = x
  · rw [if_pos h2, if_pos ⟨by omega, h2.2⟩]
  · rw [if_neg h2, if_neg (fun z => h2 ⟨by
      by_cases h3 : j = i
      · exact absurd (h3 ▸ z.2) h
      · omega, z.2⟩)]
theorem ds_sh_lt {a t j n : Nat} (ha : a < n) (ht : t < n) (hj : j < n) : ds_sh a t j < n := by
  unfold ds_sh
  repeat' split
  all_goals omega
theorem ds_sh_c1 {a t j : Nat} (h : j = t) : ds_sh a t j = a := by
  unfold ds_sh
  rw [if_pos h]
theorem ds_sh_c2 {a t j : Nat} (h : a ≤ j) (h2 : j < t) : ds_sh a t j = j + 1 := by
  unfold ds_sh
  rw [if_neg (by omega), if_pos ⟨h, h2⟩]
theorem ds_sh_c3 {a t j : Nat} (h : t < j) (h2 : j ≤ a) : ds_sh a t j = j - 1 := by
  unfold ds_sh
  rw [if_neg (by omega), if_neg (by omega), if_pos ⟨h, h2⟩]
theorem ds_sh_c4 {a t j : Nat} (h : j ≠ t) (h2 : ¬ (a ≤ j ∧ j < t)) (h3 : ¬ (t < j ∧ j ≤ a)) : ds_sh a t j = j := by
  unfold ds_sh
  rw [if_neg h, if_neg h2, if_neg h3]
theorem ds_sh_inv (a t i : Nat) : ds_sh a t (ds_sh t a i) = i := by
  by_cases h1 : i = a
  · rw [ds_sh_c1 h1, ds_sh_c1 rfl, h1]
  · by_cases h2 : t ≤ i ∧ i < a
    · rw [ds_sh_c2 h2.1 h2.2, ds_sh_c3 (by omega) (by omega)]
      omega
    · by_cases h3 : a < i ∧ i ≤ t
      · rw [ds_sh_c3 h3.1 h3.2, ds_sh_c2 (by omega) (by omega)]
        omega
      · rw [ds_sh_c4 h1 h2 h3, ds_sh_c4 (by omega) (by omega) (by omega)]
theorem ds_sh_inj {a t i j : Nat} (h : ds_sh a t i = ds_sh a t j) : i = j := by
  have e := congrArg (ds_sh t a) h
  rw [ds_sh_inv, ds_sh_inv] at e
  exact e
/-! the text of both sides: c lines; O the slots, W values by slot; N names, V values by place; names in 1 .. L -/
def ds_T (c : Nat) (O W N V : Nat → Int32) (L : Nat) : Prop :=
  c ≤ 60 ∧ (∀ i, i < 60 → vp_in (O i) 60) ∧ (∀ i j, i < 60 → j < 60 → O i = O j → i = j) ∧ (∀ i, i < c → V i = W (O i).toNatClampNeg) ∧
  (∀ i, i < c → ∃ n, 0 < n ∧ n ≤ L ∧ N i = nI n) ∧ (∀ i j, i < c → j < c → N i = N j → i = j)
def ds_mr (c : Nat) (O N : Nat → Int32) (x y : Int32) : Prop := (x = -1 ∧ y = 0) ∨ ∃ i, i < c ∧ x = O i ∧ y = N i
def ds_Mk (c : Nat) (O N M M' : Nat → Int32) : Prop := ∀ m, m < 4 → ds_mr c O N (M m) (M' m)
theorem ds_vin {x y : Int32} (hx : vp_in x 60) (hy : vp_in y 60) (h : x.toNatClampNeg = y.toNatClampNeg) : x = y := by
  obtain ⟨i, hi, rfl⟩ := vp_in_of hx (by decide)
  obtain ⟨j, hj, rfl⟩ := vp_in_of hy (by decide)
  rw [nI_clamp (by omega), nI_clamp (by omega)] at h
  rw [h]
theorem ds_vlt {x : Int32} (hx : vp_in x 60) : x.toNatClampNeg < 60 := by
  obtain ⟨i, hi, rfl⟩ := vp_in_of hx (by decide)
  rw [nI_clamp (by omega)]
  exact hi
theorem ds_vm1 {x : Int32} (hx : vp_in x 60) : x ≠ -1 := by
  intro h
  subst h
  exact hx (Or.inl (by decide))
theorem ds_T_mono {c L L' : Nat} {O W N V : Nat → Int32} (h : ds_T c O W N V L) (hL : L ≤ L') : ds_T c O W N V L' := by
  obtain ⟨h1, h2, h3, h4, h5, h6⟩ := h
  refine ⟨h1, h2, h3, h4, fun i hi => ?_, h6⟩
  obtain ⟨n, a, b, e⟩ := h5 i hi
  exact ⟨n, a, by omega, e⟩
theorem ds_T_shift {c L a t : Nat} {O W N V : Nat → Int32} (h : ds_T c O W N V L) (ha : a < c) (ht : t < c) : ds_T c (ds_sf O a t) W (ds_sf N a t) (ds_sf V a t) L := by
  obtain ⟨h1, h2, h3, h4, h5, h6⟩ := h
  refine ⟨h1, fun i hi => h2 _ (ds_sh_lt (by omega) (by omega) hi), fun i j hi hj e => ?_, fun i hi => h4 _ (ds_sh_lt ha ht hi), fun i hi => h5 _ (ds_sh_lt ha ht hi), fun i j hi hj e => ?_⟩
  · exact ds_sh_inj (h3 _ _ (ds_sh_lt (by omega) (by omega) hi) (ds_sh_lt (by omega) (by omega) hj) e)
  · exact ds_sh_inj (h6 _ _ (ds_sh_lt ha ht hi) (ds_sh_lt ha ht hj) e)
theorem ds_mr_shift {c a t : Nat} {O N : Nat → Int32} {x y : Int32} (h : ds_mr c O N x y) (ha : a < c) (ht : t < c) : ds_mr c (ds_sf O a t) (ds_sf N a t) x y := by
  rcases h with h | ⟨i, hi, e1, e2⟩
  · exact Or.inl h
  · refine Or.inr ⟨ds_sh t a i, ds_sh_lt ht ha hi, ?_, ?_⟩
    · show x = O (ds_sh a t (ds_sh t a i))
      rw [ds_sh_inv]; exact e1
    · show y = N (ds_sh a t (ds_sh t a i))
      rw [ds_sh_inv]; exact e2
theorem ds_Mk_shift {c a t : Nat} {O N M M' : Nat → Int32} (h : ds_Mk c O N M M') (ha : a < c) (ht : t < c) : ds_Mk c (ds_sf O a t) (ds_sf N a t) M M' :=
  fun m hm => ds_mr_shift (h m hm) ha ht
theorem ds_T_app {c L : Nat} {O W N V : Nat → Int32} {v : Int32} (h : ds_T c O W N V L) (hc : c < 60) (hv : v = W (O c).toNatClampNeg) (hL : L + 1 < 2 ^ 31) : ds_T (c + 1) O W (upd N c (nI (L + 1))) (upd V c v) (L + 1) := by
  obtain ⟨h1, h2, h3, h4, h5, h6⟩ := h
  have hne : ∀ i, i < c → N i ≠ nI (L + 1) := by
    intro i hi e
    obtain ⟨n, a, b, e2⟩ := h5 i hi
    rw [e2, nI_eq (by omega) hL] at e
    omega
  refine ⟨hc, h2, h3, fun i hi => ?_, fun i hi => ?_, fun i j hi hj e => ?_⟩
  · by_cases z : i = c
    · rw [z, pk_us]; exact hv
    · rw [pk_un z]; exact h4 i (by omega)
  · by_cases z : i = c
    · rw [z, pk_us]; exact ⟨L + 1, by omega, by omega, rfl⟩
    · rw [pk_un z]
      obtain ⟨n, a, b, e2⟩ := h5 i (by omega)
      exact ⟨n, a, by omega, e2⟩
  · by_cases z : i = c
    · by_cases w : j = c
      · omega
      · rw [z, pk_us, pk_un w] at e
        exact absurd e.symm (hne j (by omega))
    · by_cases w : j = c
      · rw [w, pk_us, pk_un z] at e
        exact absurd e (hne i (by omega))
      · rw [pk_un z, pk_un w] at e
        exact h6 i j (by omega) (by omega) e
theorem ds_mr_app {c : Nat} {O N : Nat → Int32} {x y n : Int32} (h : ds_mr c O N x y) : ds_mr (c + 1) O (upd N c n) x y := by
  rcases h with h | ⟨i, hi, e1, e2⟩
  · exact Or.inl h
  · exact Or.inr ⟨i, by omega, e1, by rw [pk_un (by omega)]; exact e2⟩
theorem ds_Mk_app {c : Nat} {O N M M' : Nat → Int32} {n : Int32} (h : ds_Mk c O N M M') : ds_Mk (c + 1) O (upd N c n) M M' := fun m hm => ds_mr_app (h m hm)
theorem ds_T_setW {c L j : Nat} {O W N V : Nat → Int32} {v : Int32} (h : ds_T c O W N V L) (h0 : c ≤ j) (hj : j < 60) : ds_T c O (upd W (O j).toNatClampNeg v) N V L := by
  obtain ⟨h1, h2, h3, h4, h5, h6⟩ := h
  refine ⟨h1, h2, h3, fun i hi => ?_, h5, h6⟩
  rw [pk_un]
  · exact h4 i hi
  · intro e
    have := h3 i j (by omega) hj (ds_vin (h2 i (by omega)) (h2 j hj) e)
    omega
theorem ds_T_rep {c L i : Nat} {O W N V : Nat → Int32} {v : Int32} (h : ds_T c O W N V L) (hi : i < c) : ds_T c O (upd W (O i).toNatClampNeg v) N (upd V i v) L := by
  obtain ⟨h1, h2, h3, h4, h5, h6⟩ := h
  refine ⟨h1, h2, h3, fun j hj => ?_, h5, h6⟩
  by_cases z : j = i
  · rw [z, pk_us, pk_us]
  · rw [pk_un z, pk_un]
    · exact h4 j hj
    · intro e
      exact z (h3 j i (by omega) (by omega) (ds_vin (h2 j (by omega)) (h2 i (by omega)) e))
theorem ds_T_cong {c L : Nat} {O W N V O' W' N' V' : Nat → Int32} (h : ds_T c O W N V L) (hO : ∀ i, i < 60 → O' i = O i) (hW : ∀ i, i < 60 → W' i = W i) (hN : ∀ i, i < c → N' i = N i) (hV : ∀ i, i < c → V' i = V i) : ds_T c O' W' N' V' L := by
  obtain ⟨h1, h2, h3, h4, h5, h6⟩ := h
  refine ⟨h1, fun i hi => by rw [hO i hi]; exact h2 i hi, fun i j hi hj e => ?_, fun i hi => ?_, fun i hi => by rw [hN i hi]; exact h5 i hi, fun i j hi hj e => ?_⟩
  · rw [hO i hi, hO j hj] at e
    exact h3 i j hi hj e
  · rw [hV i hi, hO i (by omega), hW _ (ds_vlt (h2 i (by omega)))]
    exact h4 i hi
  · rw [hN i hi, hN j hj] at e
    exact h6 i j hi hj e
theorem ds_T_less {c c' L : Nat} {O W N V : Nat → Int32} (h : ds_T c O W N V L) (hc : c' ≤ c) : ds_T c' O W N V L := by
  obtain ⟨h1, h2, h3, h4, h5, h6⟩ := h
  exact ⟨by omega, h2, h3, fun i hi => h4 i (by omega), fun i hi => h5 i (by omega), fun i j hi hj e => h6 i j (by omega) (by omega) e⟩
theorem ds_mr_cong {c : Nat} {O N O' N' : Nat → Int32} {x y : Int32} (h : ds_mr c O N x y) (hO : ∀ i, i < c → O' i = O i) (hN : ∀ i, i < c → N' i = N i) : ds_mr c O' N' x y := by
  rcases h with h | ⟨i, hi, e1, e2⟩
  · exact Or.inl h
  · exact Or.inr ⟨i, hi, by rw [hO i hi]; exact e1, by rw [hN i hi]; exact e2⟩
theorem ds_sf_dn {A : Nat → Int32} {a c j : Nat} (hj : j < c - 1) : ds_dn A a (c - 1) j = ds_sf A a (c - 1) j := by
  simp only [ds_sf, ds_sh, ds_dn]
  repeat' split
  all_goals first | rfl | omega | (congr 1; omega)
theorem ds_T_drop {c L a : Nat} {O W N V : Nat → Int32} (h : ds_T c O W N V L) (ha : a < c) : ds_T (c - 1) (ds_sf O a (c - 1)) W (ds_dn N a (c - 1)) (ds_dn V a (c - 1)) L :=
  ds_T_cong (ds_T_less (ds_T_shift h ha (by omega)) (by omega)) (fun _ _ => rfl) (fun _ _ => rfl) (fun _ hi => ds_sf_dn hi) (fun _ hi => ds_sf_dn hi)
theorem ds_mr_iff {c L a : Nat} {O W N V : Nat → Int32} {x y : Int32} (h : ds_T c O W N V L) (hL : L < 2 ^ 31) (hm : ds_mr c O N x y) (ha : a < c) : x = O a ↔ y = N a := by
  obtain ⟨h1, h2, h3, h4, h5, h6⟩ := h
  rcases hm with ⟨e1, e2⟩ | ⟨i, hi, e1, e2⟩
  · constructor
    · intro e
      exact absurd (e.symm.trans e1) (ds_vm1 (h2 a (by omega)))
    · intro e
      obtain ⟨n, p, q, e3⟩ := h5 a ha
      rw [e2, e3] at e
      exact absurd e.symm (nI_ne0 p (by omega))
  · constructor
    · intro e
      rw [e2, h3 i a (by omega) (by omega) (e1.symm.trans e)]
    · intro e
      rw [e1, h6 i a hi ha (e2.symm.trans e)]
theorem ds_mr_drop {c a : Nat} {O N : Nat → Int32} {x y : Int32} (hm : ds_mr c O N x y) (ha : a < c) (hx : x ≠ O a) : ds_mr (c - 1) (ds_sf O a (c - 1)) (ds_dn N a (c - 1)) x y := by
  rcases hm with h | ⟨i, hi, e1, e2⟩
  · exact Or.inl h
  · have hia : i ≠ a := fun z => hx (by rw [e1, z])
    have hlt : ds_sh (c - 1) a i < c - 1 := by
      unfold ds_sh
      repeat' split
      all_goals omega
    refine Or.inr ⟨ds_sh (c - 1) a i, hlt, ?_, ?_⟩
    · show x = O (ds_sh a (c - 1) (ds_sh (c - 1) a i))
      rw [ds_sh_inv]; exact e1
    · rw [ds_sf_dn hlt]
      show y = N (ds_sh a (c - 1) (ds_sh (c - 1) a i))
      rw [ds_sh_inv]; exact e2
theorem ds_Mk_drop {c L a : Nat} {O W N V M M' : Nat → Int32} (h : ds_T c O W N V L) (hL : L < 2 ^ 31) (hm : ds_Mk c O N M M') (ha : a < c) : ds_Mk (c - 1) (ds_sf O a (c - 1)) (ds_dn N a (c - 1)) (ds_fg M (O a) (-1) 4) (ds_fg M' (N a) 0 4) := by
  intro m hm4
  have hi := ds_mr_iff h hL (hm m hm4) ha
  unfold ds_fg
  by_cases z : M m = O a
  · rw [if_pos ⟨hm4, z⟩, if_pos ⟨hm4, hi.mp z⟩]
    exact Or.inl ⟨rfl, rfl⟩
  · rw [if_neg (fun w => z w.2), if_neg (fun w => z (hi.mpr w.2))]
    exact ds_mr_drop (hm m hm4) ha z
/-- one side of the desk: text, marks, present line -/
def ds_S (c : Nat) (p : Int32) (O W M : Nat → Int32) (q : Int32) (N V M' : Nat → Int32) (L : Nat) : Prop := ds_T c O W N V L ∧ ds_Mk c O N M M' ∧ ds_mr c O N p q
theorem ds_S_mono {c L L' : Nat} {p q : Int32} {O W M N V M' : Nat → Int32} (h : ds_S c p O W M q N V M' L) (hL : L ≤ L') : ds_S c p O W M q N V M' L' := ⟨ds_T_mono h.1 hL, h.2⟩
theorem ds_S_cp {c L : Nat} {p q : Int32} {O W M N V M' KO KW KM KN KV KM' : Nat → Int32} (h : ds_S c p O W M q N V M' L) : ds_S c p (ds_cp 60 O KO) (ds_cp 60 W KW) (ds_cp 4 M KM) q (ds_cp 60 N KN) (ds_cp 60 V KV) (ds_cp 4 M' KM') L := by
  obtain ⟨h1, h2, h3⟩ := h
  have hc : c ≤ 60 := h1.1
  refine ⟨ds_T_cong h1 (fun i hi => ds_cp_lt hi) (fun i hi => ds_cp_lt hi) (fun i hi => ds_cp_lt (by omega)) (fun i hi => ds_cp_lt (by omega)), fun m hm => ?_, ds_mr_cong h3 (fun i hi => ds_cp_lt (by omega)) (fun i hi => ds_cp_lt (by omega))⟩
  rw [ds_cp_lt hm, ds_cp_lt hm]
  exact ds_mr_cong (h2 m hm) (fun i hi => ds_cp_lt (by omega)) (fun i hi => ds_cp_lt (by omega))
