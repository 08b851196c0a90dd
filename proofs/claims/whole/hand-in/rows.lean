section
/-! rows from kit/rows, pasted -/
theorem pk_us {f : Nat → Int32} {k : Nat} {x : Int32} : upd f k x k = x := if_pos rfl
theorem pk_un {f : Nat → Int32} {k j : Nat} {x : Int32} (h : j ≠ k) : upd f k x j = f j := if_neg h
theorem pk_sub {a b : Nat} (h : b ≤ a) : nI a - nI b = nI (a - b) := by
  obtain ⟨c, rfl⟩ : ∃ c, a = c + b := ⟨a - b, by omega⟩
  rw [← nI_add, Int32.add_sub_cancel, Nat.add_sub_cancel]
theorem pk_m1 (n : Nat) : nI (n + 1) + (-1) = nI n := by
  rw [← nI_1, Int32.add_assoc, show (1 : Int32) + (-1) = 0 from rfl, Int32.add_zero]
theorem pk_mul (a b : Nat) : nI a * nI b = nI (a * b) := (Int32.ofNat_mul a b).symm
theorem pk_div {a d : Nat} (ha : a < 2 ^ 31) (h0 : 0 < d) (hd : d < 2 ^ 31) : nI a / nI d = nI (a / d) := by
  apply Int32.toInt_inj.mp
  rw [lg_idiv_nonneg (by rw [nI_toInt ha]; omega) (by rw [nI_toInt hd]; omega), nI_toInt ha, nI_toInt hd, nI_toInt (Nat.lt_of_le_of_lt (Nat.div_le_self a d) ha)]
  first | rfl | exact (Int.natCast_ediv _ _).symm
theorem pk_rem {a d : Nat} (ha : a < 2 ^ 31) (h0 : 0 < d) (hd : d < 2 ^ 31) : nI a - nI a / nI d * nI d = nI (a % d) := by
  rw [pk_div ha h0 hd, pk_mul, pk_sub (Nat.div_mul_le_self a d)]
  exact congrArg nI (by have := Nat.div_add_mod' a d; omega)
theorem pk_in {x : Int32} (n N : Nat) (h : n < N) (hx : x = nI n := by rfl) (hN : N < 2 ^ 31 := by omega) : vp_in x N := by
  subst hx
  exact vp_in_nI h hN
theorem pk_cl {x : Int32} (n : Nat) (hx : x = nI n := by rfl) (h : n < 2 ^ 31 := by omega) : x.toNatClampNeg = n := by
  subst hx
  exact nI_clamp h
theorem pk_and (x : Int32) {m : Int32} (k : Nat) (hm : m.toBitVec.toNat = 2 ^ k - 1) : x &&& m = nI (x.toBitVec.toNat % 2 ^ k) := by
  apply Int32.toBitVec_inj.mp
  apply BitVec.eq_of_toNat_eq
  rw [Int32.toBitVec_and, BitVec.toNat_and, hm, Nat.and_two_pow_sub_one_eq_mod]
  show _ = (BitVec.ofNat 32 _).toNat
  rw [BitVec.toNat_ofNat]
  exact (Nat.mod_eq_of_lt (Nat.lt_of_le_of_lt (Nat.mod_le _ _) x.toBitVec.isLt)).symm
theorem pk_andE (x : Int32) {m : Int32} (k : Nat) (hm : m.toBitVec.toNat = 2 ^ k - 1) : ∃ j : Nat, j < 2 ^ k ∧ x &&& m = nI j := ⟨_, Nat.mod_lt _ (Nat.two_pow_pos k), pk_and x k hm⟩
theorem pk_andIn (x : Int32) {m : Int32} (k : Nat) (hm : m.toBitVec.toNat = 2 ^ k - 1) (hk : k ≤ 30) : vp_in (x &&& m) (2 ^ k) := by
  obtain ⟨j, hj, e⟩ := pk_andE x k hm
  rw [e]
  exact vp_in_nI hj (Nat.lt_of_le_of_lt (Nat.pow_le_pow_right (by decide) hk) (by decide))
/-! the index map of 'take the line at a out and put it at t', and what the loops make of an array -/
def ds_sh (a t j : Nat) : Nat := if j = t then a else if a ≤ j ∧ j < t then j + 1 else if t < j ∧ j ≤ a then j - 1 else j
def ds_sf (A : Nat → Int32) (a t : Nat) : Nat → Int32 := fun j => A (ds_sh a t j)
def ds_dn (A : Nat → Int32) (i t : Nat) : Nat → Int32 := fun j => if i ≤ j ∧ j < t then A (j + 1) else A j
def ds_up (A : Nat → Int32) (i t : Nat) : Nat → Int32 := fun j => if t < j ∧ j ≤ i then A (j - 1) else A j
def ds_cp (n : Nat) (A B : Nat → Int32) : Nat → Int32 := fun j => if j < n then A j else B j
def ds_fg (M : Nat → Int32) (x e : Int32) (n : Nat) : Nat → Int32 := fun j => if j < n ∧ M j = x then e else M j
theorem ds_dn_0 {A : Nat → Int32} {i t : Nat} (h : t ≤ i) : ds_dn A i t = A := by
  funext j
  unfold ds_dn
  rw [if_neg (by omega)]
theorem ds_dn_s {A : Nat → Int32} {i t : Nat} (h : i < t) : ds_dn (upd A i (A (i + 1))) (i + 1) t = ds_dn A i t := by
  funext j
  simp only [ds_dn, upd]
  repeat' split
  all_goals first | rfl | omega | (congr 1; omega)
theorem ds_up_0 {A : Nat → Int32} {i t : Nat} (h : i ≤ t) : ds_up A i t = A := by
  funext j
  unfold ds_up
  rw [if_neg (by omega)]
theorem ds_up_s {A : Nat → Int32} {i t : Nat} (h : t < i + 1) : ds_up (upd A (i + 1) (A i)) i t = ds_up A (i + 1) t := by
  funext j
  simp only [ds_up, upd]
  repeat' split
  all_goals first | rfl | omega | (congr 1; omega)
theorem ds_sf_x (A : Nat → Int32) (a t : Nat) : upd (ds_up (ds_dn A a t) a t) t (A a) = ds_sf A a t := by
  funext j
  simp only [ds_sf, ds_sh, ds_dn, ds_up, upd]
  repeat' split
  all_goals first | rfl | omega | (congr 1; omega)
theorem ds_sf_y (A : Nat → Int32) {p t c : Nat} (hp : p < c) (ht : t < c) : upd (ds_up (ds_dn A p (c - 1)) (c - 1) t) t (A p) = ds_sf A p t := by
  funext j
  simp only [ds_sf, ds_sh, ds_dn, ds_up, upd]
  repeat' split
  all_goals first | rfl | omega | (congr 1; omega)
theorem ds_ins (A : Nat → Int32) (x : Int32) {p c : Nat} (hp : p ≤ c) : upd (ds_up A c p) p x = ds_sf (upd A c x) c p := by
  funext j
  simp only [ds_sf, ds_sh, ds_up, upd]
  repeat' split
  all_goals first | rfl | omega | (congr 1; omega)
theorem ds_cp_0 (A B : Nat → Int32) : ds_cp 0 A B = B := by
  funext j
  unfold ds_cp
  rw [if_neg (by omega)]
theorem ds_cp_s (A B : Nat → Int32) (i : Nat) : upd (ds_cp i A B) i (A i) = ds_cp (i + 1) A B := by
  funext j
  simp only [ds_cp, upd]
  repeat' split
  all_goals first | rfl | omega | (congr 1; omega)
theorem ds_cp_lt {A B : Nat → Int32} {n j : Nat} (h : j < n) : ds_cp n A B j = A j := if_pos h
theorem ds_cp_ge {A B : Nat → Int32} {n j : Nat} (h : n ≤ j) : ds_cp n A B j = B j := if_neg (by omega)
theorem ds_fg_0 (M : Nat → Int32) (x e : Int32) : ds_fg M x e 0 = M := by
  funext j
  unfold ds_fg
  rw [if_neg (by omega)]
theorem ds_fg_ge {M : Nat → Int32} {x e : Int32} {n j : Nat} (h : n ≤ j) : ds_fg M x e n j = M j := if_neg (by omega)
theorem ds_fg_t {M : Nat → Int32} {x e : Int32} {i : Nat} (h : M i = x) : upd (ds_fg M x e i) i e = ds_fg M x e (i + 1) := by
  funext j
  unfold ds_fg upd
  dsimp only
  by_cases h1 : j = i
  · rw [if_pos h1, if_pos ⟨by omega, by rw [h1]; exact h⟩]
  · rw [if_neg h1]
    by_cases h2 : j < i ∧ M j = x
    · rw [if_pos h2, if_pos ⟨by omega, h2.2⟩]
    · rw [if_neg h2, if_neg (fun z => h2 ⟨by omega, z.2⟩)]
theorem ds_fg_f {M : Nat → Int32} {x e : Int32} {i : Nat} (h : ¬ M i = x) : ds_fg M x e i = ds_fg M x e (i + 1) := by
  funext j
  unfold ds_fg
  by_cases h2 : j < i ∧ M j = x
  · rw [if_pos h2, if_pos ⟨by omega, h2.2⟩]
  · rw [if_neg h2, if_neg (fun z => h2 ⟨by
      by_cases h3 : j = i
      · exact absurd (h3 ▸ z.2) h
      · omega, z.2⟩)]
theorem ds_sh_lt {a t j n : Nat} (ha : a < n) (ht : t < n) (hj : j < n) : ds_sh a t j < n := by
  unfold ds_sh
  repeat' split
  all_goals omega
theorem ds_sh_c1 {a t j : Nat} (h : j = t) : ds_sh a t j = a := by
  unfold ds_sh
  rw [if_pos h]
theorem ds_sh_c2 {a t j : Nat} (h : a ≤ j) (h2 : j < t) : ds_sh a t j = j + 1 := by
  unfold ds_sh
  rw [if_neg (by omega), if_pos ⟨h, h2⟩]
theorem ds_sh_c3 {a t j : Nat} (h : t < j) (h2 : j ≤ a) : ds_sh a t j = j - 1 := by
  unfold ds_sh
  rw [if_neg (by omega), if_neg (by omega), if_pos ⟨h, h2⟩]
theorem ds_sh_c4 {a t j : Nat} (h : j ≠ t) (h2 : ¬ (a ≤ j ∧ j < t)) (h3 : ¬ (t < j ∧ j ≤ a)) : ds_sh a t j = j := by
  unfold ds_sh
  rw [if_neg h, if_neg h2, if_neg h3]
theorem ds_sh_inv (a t i : Nat) : ds_sh a t (ds_sh t a i) = i := by
  by_cases h1 : i = a
  · rw [ds_sh_c1 h1, ds_sh_c1 rfl, h1]
  · by_cases h2 : t ≤ i ∧ i < a
    · rw [ds_sh_c2 h2.1 h2.2, ds_sh_c3 (by omega) (by omega)]
      omega
    · by_cases h3 : a < i ∧ i ≤ t
      · rw [ds_sh_c3 h3.1 h3.2, ds_sh_c2 (by omega) (by omega)]
        omega
      · rw [ds_sh_c4 h1 h2 h3, ds_sh_c4 (by omega) (by omega) (by omega)]
theorem ds_sh_inj {a t i j : Nat} (h : ds_sh a t i = ds_sh a t j) : i = j := by
  have e := congrArg (ds_sh t a) h
  rw [ds_sh_inv, ds_sh_inv] at e
  exact e
/-! the text of both sides: c lines; O the slots, W values by slot; N names, V values by place; names in 1 .. L -/
def ds_T (c : Nat) (O W N V : Nat → Int32) (L : Nat) : Prop :=
  c ≤ 60 ∧ (∀ i, i < 60 → vp_in (O i) 60) ∧ (∀ i j, i < 60 → j < 60 → O i = O j → i = j) ∧ (∀ i, i < c → V i = W (O i).toNatClampNeg) ∧
  (∀ i, i < c → ∃ n, 0 < n ∧ n ≤ L ∧ N i = nI n) ∧ (∀ i j, i < c → j < c → N i = N j → i = j)
def ds_mr (c : Nat) (O N : Nat → Int32) (x y : Int32) : Prop := (x = -1 ∧ y = 0) ∨ ∃ i, i < c ∧ x = O i ∧ y = N i
def ds_Mk (c : Nat) (O N M M' : Nat → Int32) : Prop := ∀ m, m < 4 → ds_mr c O N (M m) (M' m)
theorem ds_vin {x y : Int32} (hx : vp_in x 60) (hy : vp_in y 60) (h : x.toNatClampNeg = y.toNatClampNeg) : x = y := by
  obtain ⟨i, hi, rfl⟩ := vp_in_of hx (by decide)
  obtain ⟨j, hj, rfl⟩ := vp_in_of hy (by decide)
  rw [nI_clamp (by omega), nI_clamp (by omega)] at h
  rw [h]
theorem ds_vlt {x : Int32} (hx : vp_in x 60) : x.toNatClampNeg < 60 := by
  obtain ⟨i, hi, rfl⟩ := vp_in_of hx (by decide)
  rw [nI_clamp (by omega)]
  exact hi
theorem ds_vm1 {x : Int32} (hx : vp_in x 60) : x ≠ -1 := by
  intro h
  subst h
  exact hx (Or.inl (by decide))
theorem ds_T_mono {c L L' : Nat} {O W N V : Nat → Int32} (h : ds_T c O W N V L) (hL : L ≤ L') : ds_T c O W N V L' := by
  obtain ⟨h1, h2, h3, h4, h5, h6⟩ := h
  refine ⟨h1, h2, h3, h4, fun i hi => ?_, h6⟩
  obtain ⟨n, a, b, e⟩ := h5 i hi
  exact ⟨n, a, by omega, e⟩
theorem ds_T_shift {c L a t : Nat} {O W N V : Nat → Int32} (h : ds_T c O W N V L) (ha : a < c) (ht : t < c) : ds_T c (ds_sf O a t) W (ds_sf N a t) (ds_sf V a t) L := by
  obtain ⟨h1, h2, h3, h4, h5, h6⟩ := h
  refine ⟨h1, fun i hi => h2 _ (ds_sh_lt (by omega) (by omega) hi), fun i j hi hj e => ?_, fun i hi => h4 _ (ds_sh_lt ha ht hi), fun i hi => h5 _ (ds_sh_lt ha ht hi), fun i j hi hj e => ?_⟩
  · exact ds_sh_inj (h3 _ _ (ds_sh_lt (by omega) (by omega) hi) (ds_sh_lt (by omega) (by omega) hj) e)
  · exact ds_sh_inj (h6 _ _ (ds_sh_lt ha ht hi) (ds_sh_lt ha ht hj) e)
theorem ds_mr_shift {c a t : Nat} {O N : Nat → Int32} {x y : Int32} (h : ds_mr c O N x y) (ha : a < c) (ht : t < c) : ds_mr c (ds_sf O a t) (ds_sf N a t) x y := by
  rcases h with h | ⟨i, hi, e1, e2⟩
  · exact Or.inl h
  · refine Or.inr ⟨ds_sh t a i, ds_sh_lt ht ha hi, ?_, ?_⟩
    · show x = O (ds_sh a t (ds_sh t a i))
      rw [ds_sh_inv]; exact e1
    · show y = N (ds_sh a t (ds_sh t a i))
      rw [ds_sh_inv]; exact e2
theorem ds_Mk_shift {c a t : Nat} {O N M M' : Nat → Int32} (h : ds_Mk c O N M M') (ha : a < c) (ht : t < c) : ds_Mk c (ds_sf O a t) (ds_sf N a t) M M' :=
  fun m hm => ds_mr_shift (h m hm) ha ht
theorem ds_T_app {c L : Nat} {O W N V : Nat → Int32} {v : Int32} (h : ds_T c O W N V L) (hc : c < 60) (hv : v = W (O c).toNatClampNeg) (hL : L + 1 < 2 ^ 31) : ds_T (c + 1) O W (upd N c (nI (L + 1))) (upd V c v) (L + 1) := by
  obtain ⟨h1, h2, h3, h4, h5, h6⟩ := h
  have hne : ∀ i, i < c → N i ≠ nI (L + 1) := by
    intro i hi e
    obtain ⟨n, a, b, e2⟩ := h5 i hi
    rw [e2, nI_eq (by omega) hL] at e
    omega
  refine ⟨hc, h2, h3, fun i hi => ?_, fun i hi => ?_, fun i j hi hj e => ?_⟩
  · by_cases z : i = c
    · rw [z, pk_us]; exact hv
    · rw [pk_un z]; exact h4 i (by omega)
  · by_cases z : i = c
    · rw [z, pk_us]; exact ⟨L + 1, by omega, by omega, rfl⟩
    · rw [pk_un z]
      obtain ⟨n, a, b, e2⟩ := h5 i (by omega)
      exact ⟨n, a, by omega, e2⟩
  · by_cases z : i = c
    · by_cases w : j = c
      · omega
      · rw [z, pk_us, pk_un w] at e
        exact absurd e.symm (hne j (by omega))
    · by_cases w : j = c
      · rw [w, pk_us, pk_un z] at e
        exact absurd e (hne i (by omega))
      · rw [pk_un z, pk_un w] at e
        exact h6 i j (by omega) (by omega) e
theorem ds_mr_app {c : Nat} {O N : Nat → Int32} {x y n : Int32} (h : ds_mr c O N x y) : ds_mr (c + 1) O (upd N c n) x y := by
  rcases h with h | ⟨i, hi, e1, e2⟩
  · exact Or.inl h
  · exact Or.inr ⟨i, by omega, e1, by rw [pk_un (by omega)]; exact e2⟩
theorem ds_Mk_app {c : Nat} {O N M M' : Nat → Int32} {n : Int32} (h : ds_Mk c O N M M') : ds_Mk (c + 1) O (upd N c n) M M' := fun m hm => ds_mr_app (h m hm)
theorem ds_T_setW {c L j : Nat} {O W N V : Nat → Int32} {v : Int32} (h : ds_T c O W N V L) (h0 : c ≤ j) (hj : j < 60) : ds_T c O (upd W (O j).toNatClampNeg v) N V L := by
  obtain ⟨h1, h2, h3, h4, h5, h6⟩ := h
  refine ⟨h1, h2, h3, fun i hi => ?_, h5, h6⟩
  rw [pk_un]
  · exact h4 i hi
  · intro e
    have := h3 i j (by omega) hj (ds_vin (h2 i (by omega)) (h2 j hj) e)
    omega
theorem ds_T_rep {c L i : Nat} {O W N V : Nat → Int32} {v : Int32} (h : ds_T c O W N V L) (hi : i < c) : ds_T c O (upd W (O i).toNatClampNeg v) N (upd V i v) L := by
  obtain ⟨h1, h2, h3, h4, h5, h6⟩ := h
  refine ⟨h1, h2, h3, fun j hj => ?_, h5, h6⟩
  by_cases z : j = i
  · rw [z, pk_us, pk_us]
  · rw [pk_un z, pk_un]
    · exact h4 j hj
    · intro e
      exact z (h3 j i (by omega) (by omega) (ds_vin (h2 j (by omega)) (h2 i (by omega)) e))
theorem ds_T_cong {c L : Nat} {O W N V O' W' N' V' : Nat → Int32} (h : ds_T c O W N V L) (hO : ∀ i, i < 60 → O' i = O i) (hW : ∀ i, i < 60 → W' i = W i) (hN : ∀ i, i < c → N' i = N i) (hV : ∀ i, i < c → V' i = V i) : ds_T c O' W' N' V' L := by
  obtain ⟨h1, h2, h3, h4, h5, h6⟩ := h
  refine ⟨h1, fun i hi => by rw [hO i hi]; exact h2 i hi, fun i j hi hj e => ?_, fun i hi => ?_, fun i hi => by rw [hN i hi]; exact h5 i hi, fun i j hi hj e => ?_⟩
  · rw [hO i hi, hO j hj] at e
    exact h3 i j hi hj e
  · rw [hV i hi, hO i (by omega), hW _ (ds_vlt (h2 i (by omega)))]
    exact h4 i hi
  · rw [hN i hi, hN j hj] at e
    exact h6 i j hi hj e
theorem ds_T_less {c c' L : Nat} {O W N V : Nat → Int32} (h : ds_T c O W N V L) (hc : c' ≤ c) : ds_T c' O W N V L := by
  obtain ⟨h1, h2, h3, h4, h5, h6⟩ := h
  exact ⟨by omega, h2, h3, fun i hi => h4 i (by omega), fun i hi => h5 i (by omega), fun i j hi hj e => h6 i j (by omega) (by omega) e⟩
theorem ds_mr_cong {c : Nat} {O N O' N' : Nat → Int32} {x y : Int32} (h : ds_mr c O N x y) (hO : ∀ i, i < c → O' i = O i) (hN : ∀ i, i < c → N' i = N i) : ds_mr c O' N' x y := by
  rcases h with h | ⟨i, hi, e1, e2⟩
  · exact Or.inl h
  · exact Or.inr ⟨i, hi, by rw [hO i hi]; exact e1, by rw [hN i hi]; exact e2⟩
theorem ds_sf_dn {A : Nat → Int32} {a c j : Nat} (hj : j < c - 1) : ds_dn A a (c - 1) j = ds_sf A a (c - 1) j := by
  simp only [ds_sf, ds_sh, ds_dn]
  repeat' split
  all_goals first | rfl | omega | (congr 1; omega)
theorem ds_T_drop {c L a : Nat} {O W N V : Nat → Int32} (h : ds_T c O W N V L) (ha : a < c) : ds_T (c - 1) (ds_sf O a (c - 1)) W (ds_dn N a (c - 1)) (ds_dn V a (c - 1)) L :=
  ds_T_cong (ds_T_less (ds_T_shift h ha (by omega)) (by omega)) (fun _ _ => rfl) (fun _ _ => rfl) (fun _ hi => ds_sf_dn hi) (fun _ hi => ds_sf_dn hi)
theorem ds_mr_iff {c L a : Nat} {O W N V : Nat → Int32} {x y : Int32} (h : ds_T c O W N V L) (hL : L < 2 ^ 31) (hm : ds_mr c O N x y) (ha : a < c) : x = O a ↔ y = N a := by
  obtain ⟨h1, h2, h3, h4, h5, h6⟩ := h
  rcases hm with ⟨e1, e2⟩ | ⟨i, hi, e1, e2⟩
  · constructor
    · intro e
      exact absurd (e.symm.trans e1) (ds_vm1 (h2 a (by omega)))
    · intro e
      obtain ⟨n, p, q, e3⟩ := h5 a ha
      rw [e2, e3] at e
      exact absurd e.symm (nI_ne0 p (by omega))
  · constructor
    · intro e
      rw [e2, h3 i a (by omega) (by omega) (e1.symm.trans e)]
    · intro e
      rw [e1, h6 i a hi ha (e2.symm.trans e)]
theorem ds_mr_drop {c a : Nat} {O N : Nat → Int32} {x y : Int32} (hm : ds_mr c O N x y) (ha : a < c) (hx : x ≠ O a) : ds_mr (c - 1) (ds_sf O a (c - 1)) (ds_dn N a (c - 1)) x y := by
  rcases hm with h | ⟨i, hi, e1, e2⟩
  · exact Or.inl h
  · have hia : i ≠ a := fun z => hx (by rw [e1, z])
    have hlt : ds_sh (c - 1) a i < c - 1 := by
      unfold ds_sh
      repeat' split
      all_goals omega
    refine Or.inr ⟨ds_sh (c - 1) a i, hlt, ?_, ?_⟩
    · show x = O (ds_sh a (c - 1) (ds_sh (c - 1) a i))
      rw [ds_sh_inv]; exact e1
    · rw [ds_sf_dn hlt]
      show y = N (ds_sh a (c - 1) (ds_sh (c - 1) a i))
      rw [ds_sh_inv]; exact e2
theorem ds_Mk_drop {c L a : Nat} {O W N V M M' : Nat → Int32} (h : ds_T c O W N V L) (hL : L < 2 ^ 31) (hm : ds_Mk c O N M M') (ha : a < c) : ds_Mk (c - 1) (ds_sf O a (c - 1)) (ds_dn N a (c - 1)) (ds_fg M (O a) (-1) 4) (ds_fg M' (N a) 0 4) := by
  intro m hm4
  have hi := ds_mr_iff h hL (hm m hm4) ha
  unfold ds_fg
  by_cases z : M m = O a
  · rw [if_pos ⟨hm4, z⟩, if_pos ⟨hm4, hi.mp z⟩]
    exact Or.inl ⟨rfl, rfl⟩
  · rw [if_neg (fun w => z w.2), if_neg (fun w => z (hi.mpr w.2))]
    exact ds_mr_drop (hm m hm4) ha z
/-- one side of the desk: text, marks, present line -/
def ds_S (c : Nat) (p : Int32) (O W M : Nat → Int32) (q : Int32) (N V M' : Nat → Int32) (L : Nat) : Prop := ds_T c O W N V L ∧ ds_Mk c O N M M' ∧ ds_mr c O N p q
theorem ds_S_mono {c L L' : Nat} {p q : Int32} {O W M N V M' : Nat → Int32} (h : ds_S c p O W M q N V M' L) (hL : L ≤ L') : ds_S c p O W M q N V M' L' := ⟨ds_T_mono h.1 hL, h.2⟩
theorem ds_S_cp {c L : Nat} {p q : Int32} {O W M N V M' KO KW KM KN KV KM' : Nat → Int32} (h : ds_S c p O W M q N V M' L) : ds_S c p (ds_cp 60 O KO) (ds_cp 60 W KW) (ds_cp 4 M KM) q (ds_cp 60 N KN) (ds_cp 60 V KV) (ds_cp 4 M' KM') L := by
  obtain ⟨h1, h2, h3⟩ := h
  have hc : c ≤ 60 := h1.1
  refine ⟨ds_T_cong h1 (fun i hi => ds_cp_lt hi) (fun i hi => ds_cp_lt hi) (fun i hi => ds_cp_lt (by omega)) (fun i hi => ds_cp_lt (by omega)), fun m hm => ?_, ds_mr_cong h3 (fun i hi => ds_cp_lt (by omega)) (fun i hi => ds_cp_lt (by omega))⟩
  rw [ds_cp_lt hm, ds_cp_lt hm]
  exact ds_mr_cong (h2 m hm) (fun i hi => ds_cp_lt (by omega)) (fun i hi => ds_cp_lt (by omega))
end
section
section
variable {cn p kc kp ch : Int32} {O W M KO KW KM CH : Nat → Int32}
/-! the component's own methods, each with a general post -/
theorem dx_pre {n d : Nat} (h : d < n) : ∃ m, n = m + 1 := ⟨n - 1, by omega⟩
theorem dx_in81 {post : SX → Prop} {A : Nat → Int32} (hp : post (0, -1, kc, kp, 0, O, W, ds_cp 4 (fun _ => -1) A, KO, KW, KM, CH)) : ∀ d i, i + d = 4 → ∀ n, d < n → wX_init_81 post cn p kc kp ch n (nI i) O W (ds_cp i (fun _ => -1) A) KO KW KM CH := by
  intro d
  induction d with
  | zero =>
    intro i hi n hn
    obtain ⟨m, rfl⟩ := dx_pre hn
    obtain rfl : i = 4 := by omega
    exact br_t (nI_le (a := 4) (b := 4) (by omega) (by decide)) hp
  | succ d ih =>
    intro i hi n hn
    obtain ⟨m, rfl⟩ := dx_pre hn
    have hin : vp_in (nI i) 4 := vp_in_nI (by omega) (by decide)
    refine br_f (nI_ge (b := 4) (by omega) (by decide)) ⟨hin, fun B eB x ex => ?_⟩
    subst eB ex
    rw [nI_clamp (by omega), nI_1, ds_cp_s (fun _ => -1) A i]
    exact ih (i + 1) (by omega) m (by omega)
theorem dx_in60 {post : SX → Prop} {A : Nat → Int32} (hp : post (0, -1, kc, kp, 0, ds_cp 60 nI A, W, ds_cp 4 (fun _ => -1) M, KO, KW, KM, CH)) : ∀ d i, i + d = 60 → ∀ n, d < n → wX_init_60 post cn p kc kp ch n (nI i) (ds_cp i nI A) W M KO KW KM CH := by
  intro d
  induction d with
  | zero =>
    intro i hi n hn
    obtain ⟨m, rfl⟩ := dx_pre hn
    obtain rfl : i = 60 := by omega
    refine br_t (nI_le (a := 60) (b := 60) (by omega) (by decide)) ⟨5, ?_⟩
    have h := dx_in81 (cn := cn) (p := p) (ch := ch) hp 4 0 rfl 5 (by decide)
    rw [ds_cp_0] at h
    exact h
  | succ d ih =>
    intro i hi n hn
    obtain ⟨m, rfl⟩ := dx_pre hn
    have hin : vp_in (nI i) 60 := vp_in_nI (by omega) (by decide)
    refine br_f (nI_ge (b := 60) (by omega) (by decide)) ⟨hin, fun B eB x ex => ?_⟩
    subst eB ex
    rw [nI_clamp (by omega), nI_1, ds_cp_s nI A i]
    exact ih (i + 1) (by omega) m (by omega)
theorem dx_keep4 {post : SX → Prop} (hp : post (cn, p, cn, p, 1, O, W, M, KO, KW, ds_cp 4 M KM, CH)) : ∀ d i, i + d = 4 → ∀ n, d < n → wX_keepState_40 post cn p kc kp ch n (nI i) O W M KO KW (ds_cp i M KM) CH := by
  intro d
  induction d with
  | zero =>
    intro i hi n hn
    obtain ⟨m, rfl⟩ := dx_pre hn
    obtain rfl : i = 4 := by omega
    exact br_t (nI_le (a := 4) (b := 4) (by omega) (by decide)) hp
  | succ d ih =>
    intro i hi n hn
    obtain ⟨m, rfl⟩ := dx_pre hn
    have hin : vp_in (nI i) 4 := vp_in_nI (by omega) (by decide)
    refine br_f (nI_ge (b := 4) (by omega) (by decide)) ⟨hin, hin, fun B eB x ex => ?_⟩
    subst eB ex
    rw [nI_clamp (by omega), nI_1, ds_cp_s]
    exact ih (i + 1) (by omega) m (by omega)
theorem dx_keep2 {post : SX → Prop} (hp : post (cn, p, cn, p, 1, O, W, M, ds_cp 60 O KO, ds_cp 60 W KW, ds_cp 4 M KM, CH)) : ∀ d i, i + d = 60 → ∀ n, d < n → wX_keepState_2 post cn p kc kp ch n (nI i) O W M (ds_cp i O KO) (ds_cp i W KW) KM CH := by
  intro d
  induction d with
  | zero =>
    intro i hi n hn
    obtain ⟨m, rfl⟩ := dx_pre hn
    obtain rfl : i = 60 := by omega
    refine br_t (nI_le (a := 60) (b := 60) (by omega) (by decide)) ⟨5, ?_⟩
    have h := dx_keep4 (kc := kc) (kp := kp) (ch := ch) hp 4 0 rfl 5 (by decide)
    rw [ds_cp_0] at h
    exact h
  | succ d ih =>
    intro i hi n hn
    obtain ⟨m, rfl⟩ := dx_pre hn
    have hin : vp_in (nI i) 60 := vp_in_nI (by omega) (by decide)
    refine br_f (nI_ge (b := 60) (by omega) (by decide)) ⟨hin, hin, fun B eB => ⟨hin, hin, fun C eC x ex => ?_⟩⟩
    subst eB eC ex
    rw [nI_clamp (by omega), nI_1, ds_cp_s, ds_cp_s]
    exact ih (i + 1) (by omega) m (by omega)
theorem dx_keep {post : SX → Prop} (hp : post (cn, p, cn, p, 1, O, W, M, ds_cp 60 O KO, ds_cp 60 W KW, ds_cp 4 M KM, CH)) : wpX_keepState post (cn, p, kc, kp, ch, O, W, M, KO, KW, KM, CH) := by
  refine Exists.intro 61 ?_
  have h := dx_keep2 (kc := kc) (kp := kp) (ch := ch) hp 60 0 rfl 61 (by decide)
  rw [ds_cp_0, ds_cp_0] at h
  exact h
theorem dx_append {post : SX → Prop} {c : Nat} {v : Int32} (hc : c < 60) (hO : vp_in (O c) 60) (hp : post (nI (c + 1), p, kc, kp, ch, O, upd W (O c).toNatClampNeg v, M, KO, KW, KM, CH)) : wpX_appendLine post (nI c, p, kc, kp, ch, O, W, M, KO, KW, KM, CH) v := by
  have e : (nI c).toNatClampNeg = c := nI_clamp (by omega)
  refine And.intro (vp_in_nI hc (by decide)) ⟨by rw [e]; exact hO, fun B eB x ex => ?_⟩
  subst eB ex
  rw [e, nI_1]
  exact hp
theorem dx_sh41 {post : SX → Prop} {t : Nat} {x : Int32} (ht : t < 60) : ∀ d i A, i ≤ t + d → i < 60 → post (cn, p, kc, kp, ch, upd (ds_up A i t) t x, W, M, KO, KW, KM, CH) → ∀ n, d < n → wX_shiftLine_41 post (nI t) x cn p kc kp ch n (nI i) A W M KO KW KM CH := by
  have ex0 : ∀ (i : Nat) (A : Nat → Int32) (m : Nat), i ≤ t → post (cn, p, kc, kp, ch, upd (ds_up A i t) t x, W, M, KO, KW, KM, CH) → wX_shiftLine_41 post (nI t) x cn p kc kp ch (m + 1) (nI i) A W M KO KW KM CH := by
    intro i A m hi hp
    refine br_t (nI_le hi (by omega)) ⟨vp_in_nI ht (by decide), fun B eB => ?_⟩
    subst eB
    rw [nI_clamp (by omega)]
    rw [ds_up_0 hi] at hp
    exact hp
  intro d
  induction d with
  | zero =>
    intro i A hi hi6 hp n hn
    obtain ⟨m, rfl⟩ := dx_pre hn
    exact ex0 i A m hi hp
  | succ d ih =>
    intro i A hi hi6 hp n hn
    obtain ⟨m, rfl⟩ := dx_pre hn
    by_cases h : i ≤ t
    · exact ex0 i A m h hp
    · obtain ⟨j, rfl⟩ : ∃ j, i = j + 1 := ⟨i - 1, by omega⟩
      refine br_f (nI_ge (by omega) (by omega)) ⟨by rw [nI_pred]; exact vp_in_nI (by omega) (by decide), vp_in_nI hi6 (by decide), fun B eB y ey => ?_⟩
      subst eB ey
      rw [nI_pred, nI_clamp (by omega), nI_clamp (by omega), pk_m1]
      exact ih j _ (by omega) (by omega) (by rw [ds_up_s (by omega)]; exact hp) m (by omega)
theorem dx_sh10 {post : SX → Prop} {a t : Nat} {x : Int32} (ha : a < 60) (ht : t < 60) : ∀ d i A, t ≤ i + d → i < 60 → post (cn, p, kc, kp, ch, upd (ds_up (ds_dn A i t) a t) t x, W, M, KO, KW, KM, CH) → ∀ n, d < n → wX_shiftLine_10 post (nI a) (nI t) x cn p kc kp ch n (nI i) A W M KO KW KM CH := by
  have ex0 : ∀ (i : Nat) (A : Nat → Int32) (m : Nat), i < 60 → t ≤ i → post (cn, p, kc, kp, ch, upd (ds_up (ds_dn A i t) a t) t x, W, M, KO, KW, KM, CH) → wX_shiftLine_10 post (nI a) (nI t) x cn p kc kp ch (m + 1) (nI i) A W M KO KW KM CH := by
    intro i A m hb hi hp
    refine br_t (nI_le hi (by omega)) ⟨a + 1, ?_⟩
    rw [ds_dn_0 hi] at hp
    exact dx_sh41 ht a a A (by omega) ha hp (a + 1) (by omega)
  intro d
  induction d with
  | zero =>
    intro i A hi hi6 hp n hn
    obtain ⟨m, rfl⟩ := dx_pre hn
    exact ex0 i A m hi6 hi hp
  | succ d ih =>
    intro i A hi hi6 hp n hn
    obtain ⟨m, rfl⟩ := dx_pre hn
    by_cases h : t ≤ i
    · exact ex0 i A m hi6 h hp
    · refine br_f (nI_ge (by omega) (by omega)) ⟨by rw [nI_1]; exact vp_in_nI (by omega) (by decide), vp_in_nI hi6 (by decide), fun B eB y ey => ?_⟩
      subst eB ey
      rw [nI_1, nI_clamp (by omega), nI_clamp (by omega)]
      exact ih (i + 1) _ (by omega) (by omega) (by rw [ds_dn_s (by omega)]; exact hp) m (by omega)
theorem dx_shift {post : SX → Prop} {a t : Nat} (ha : a < 60) (ht : t < 60) (hp : post (cn, p, kc, kp, ch, ds_sf O a t, W, M, KO, KW, KM, CH)) : wpX_shiftLine post (cn, p, kc, kp, ch, O, W, M, KO, KW, KM, CH) (nI a) (nI t) := by
  refine And.intro (vp_in_nI ha (by decide)) (fun x ex => ⟨t + 1, ?_⟩)
  rw [nI_clamp (by omega)] at ex
  subst ex
  rw [← ds_sf_x] at hp
  exact dx_sh10 ha ht t a O (by omega) ha hp (t + 1) (by omega)
theorem dx_drop9 {post : SX → Prop} {a c : Nat} {x : Int32} (ha : a ≤ c) (hc : c < 60) (hp : post (nI c, p, kc, kp, ch, ds_sf O a c, W, ds_fg M x (-1) 4, KO, KW, KM, CH)) : ∀ d i, i + d = 4 → ∀ n, d < n → wX_dropLine_9 post (nI a) x (nI (c + 1)) p kc kp ch n (nI i) O W (ds_fg M x (-1) i) KO KW KM CH := by
  intro d
  induction d with
  | zero =>
    intro i hi n hn
    obtain ⟨m, rfl⟩ := dx_pre hn
    obtain rfl : i = 4 := by omega
    refine br_t (nI_le (a := 4) (b := 4) (by omega) (by decide)) ?_
    rw [nI_pred]
    refine dx_shift (by omega) hc ?_
    intro y ey
    subst ey
    rw [nI_pred]
    exact hp
  | succ d ih =>
    intro i hi n hn
    obtain ⟨m, rfl⟩ := dx_pre hn
    have hin : vp_in (nI i) 4 := vp_in_nI (by omega) (by decide)
    have e : ds_fg M x (-1) i (nI i).toNatClampNeg = M i := by
      rw [nI_clamp (by omega), ds_fg_ge (Nat.le_refl _)]
    refine br_f (nI_ge (b := 4) (by omega) (by decide)) ⟨hin, ?_⟩
    by_cases z : M i = x
    · refine br_t (e.trans z) ⟨hin, fun B eB y ey => ?_⟩
      subst eB ey
      rw [nI_clamp (by omega), nI_1, ds_fg_t z]
      exact ih (i + 1) (by omega) m (by omega)
    · refine br_f (fun w => z (e.symm.trans w)) (fun y ey => ?_)
      subst ey
      rw [nI_1, ds_fg_f z]
      exact ih (i + 1) (by omega) m (by omega)
theorem dx_drop {post : SX → Prop} {a c : Nat} (ha : a ≤ c) (hc : c < 60) (hp : post (nI c, p, kc, kp, ch, ds_sf O a c, W, ds_fg M (O a) (-1) 4, KO, KW, KM, CH)) : wpX_dropLine post (nI (c + 1), p, kc, kp, ch, O, W, M, KO, KW, KM, CH) (nI a) := by
  refine And.intro (vp_in_nI (by omega) (by decide)) (fun x ex => ⟨5, ?_⟩)
  rw [nI_clamp (by omega)] at ex
  subst ex
  have h := dx_drop9 ha hc hp 4 0 rfl 5 (by decide)
  rw [ds_fg_0] at h
  exact h
theorem dx_num_at {post : Int32 → Prop} {c i0 : Nat} {x : Int32} (hc : c ≤ 60) (hi0 : i0 < c) (e : O i0 = x) (hne : ∀ j, j < i0 → O j ≠ x) (hp : post (nI (i0 + 1))) : wpX_numberOf post (nI c, p, kc, kp, ch, O, W, M, KO, KW, KM, CH) x := by
  have key : ∀ d i, i + d = i0 → ∀ n, d < n → wX_numberOf_2 post x (nI c) p kc kp ch O W M KO KW KM CH n (nI i) := by
    intro d
    induction d with
    | zero =>
      intro i hi n hn
      obtain ⟨m, rfl⟩ := dx_pre hn
      obtain rfl : i = i0 := by omega
      refine br_f (nI_ge hi0 (by omega)) ⟨vp_in_nI (by omega) (by decide), br_t (by rw [nI_clamp (by omega)]; exact e) ?_⟩
      rw [nI_1]
      exact hp
    | succ d ih =>
      intro i hi n hn
      obtain ⟨m, rfl⟩ := dx_pre hn
      refine br_f (nI_ge (by omega) (by omega)) ⟨vp_in_nI (by omega) (by decide), br_f (by rw [nI_clamp (by omega)]; exact hne i (by omega)) (fun y ey => ?_)⟩
      subst ey
      rw [nI_1]
      exact ih (i + 1) (by omega) m (by omega)
  exact Exists.intro (i0 + 1) (key i0 0 (by omega) (i0 + 1) (by omega))
theorem dx_num_no {post : Int32 → Prop} {c : Nat} {x : Int32} (hc : c ≤ 60) (hne : ∀ j, j < c → O j ≠ x) (hp : post 0) : wpX_numberOf post (nI c, p, kc, kp, ch, O, W, M, KO, KW, KM, CH) x := by
  have key : ∀ d i, i + d = c → ∀ n, d < n → wX_numberOf_2 post x (nI c) p kc kp ch O W M KO KW KM CH n (nI i) := by
    intro d
    induction d with
    | zero =>
      intro i hi n hn
      obtain ⟨m, rfl⟩ := dx_pre hn
      obtain rfl : i = c := by omega
      exact br_t (nI_le (Nat.le_refl _) (by omega)) hp
    | succ d ih =>
      intro i hi n hn
      obtain ⟨m, rfl⟩ := dx_pre hn
      refine br_f (nI_ge (by omega) (by omega)) ⟨vp_in_nI (by omega) (by decide), br_f (by rw [nI_clamp (by omega)]; exact hne i (by omega)) (fun y ey => ?_)⟩
      subst ey
      rw [nI_1]
      exact ih (i + 1) (by omega) m (by omega)
  exact Exists.intro (c + 1) (key c 0 (by omega) (c + 1) (by omega))
theorem dx_last_s {post : Int32 → Prop} {c : Nat} (hc : c < 60) (hp : post (O c)) : wpX_lastSlot post (nI (c + 1), p, kc, kp, ch, O, W, M, KO, KW, KM, CH) := by
  refine br_f (nI_nle (by omega) (by omega)) ⟨by rw [nI_pred]; exact vp_in_nI hc (by decide), ?_⟩
  rw [nI_pred, nI_clamp (by omega)]
  exact hp
theorem dx_last_0 {post : Int32 → Prop} (hp : post (-1)) : wpX_lastSlot post (nI 0, p, kc, kp, ch, O, W, M, KO, KW, KM, CH) := by
  exact br_t (by decide) hp
end
/-! the iterations of the longer methods -/
def ds_mv (g h : Nat → Nat) : Nat → (Nat → Int32) → (Nat → Int32)
  | 0, A => A
  | k + 1, A => ds_sf (ds_mv g h k A) (g k) (h k)
def ds_rmO (a c : Nat) : Nat → (Nat → Int32) → (Nat → Int32)
  | 0, A => A
  | k + 1, A => ds_sf (ds_rmO a c k A) a (c - (k + 1))
def ds_rmM (a c : Nat) (O : Nat → Int32) : Nat → (Nat → Int32) → (Nat → Int32)
  | 0, M => M
  | k + 1, M => ds_fg (ds_rmM a c O k M) (ds_rmO a c k O a) (-1) 4
def ds_apW (O : Nat → Int32) (c a : Nat) : Nat → (Nat → Int32) → (Nat → Int32)
  | 0, W => W
  | k + 1, W => upd (ds_apW O c a k W) (O (c + k)).toNatClampNeg (ds_apW O c a k W (O (a + k)).toNatClampNeg)
section
variable {cn p kc kp ch : Int32} {O W M KO KW KM CH : Nat → Int32}
theorem dx_mb43 {post : Int32 → SX → Prop} {a t s : Nat} (ha : a + s ≤ 60) (ht : t + s ≤ 60) (hp : post (nI (t + s)) (cn, p, kc, kp, ch, ds_mv (fun k => a + k) (fun k => t + k) s O, W, M, KO, KW, KM, CH)) : ∀ d k, k + d = s → ∀ n, d < n → wX_moveBlock_43 post (nI (a + 1)) (nI t) (nI s) n (nI k) cn p kc kp ch (ds_mv (fun k => a + k) (fun k => t + k) k O) W M KO KW KM CH := by
  intro d
  induction d with
  | zero =>
    intro k hk n hn
    obtain ⟨m, rfl⟩ := dx_pre hn
    obtain rfl : k = s := by omega
    refine br_t (nI_le (Nat.le_refl _) (by omega)) ?_
    rw [nI_add t k]
    exact hp
  | succ d ih =>
    intro k hk n hn
    obtain ⟨m, rfl⟩ := dx_pre hn
    refine br_f (nI_ge (by omega) (by omega)) ?_
    rw [nI_pred a, nI_add a k, nI_add t k]
    refine dx_shift (by omega) (by omega) ?_
    intro y ey
    subst ey
    rw [nI_1 k]
    exact ih (k + 1) (by omega) m (by omega)
theorem dx_mb15 {post : Int32 → SX → Prop} {a t s : Nat} (ha : a < 60) (ht : t < 60) (hs : s ≤ 60) (hp : post (nI (t + 1)) (cn, p, kc, kp, ch, ds_mv (fun _ => a) (fun _ => t) s O, W, M, KO, KW, KM, CH)) : ∀ d k, k + d = s → ∀ n, d < n → wX_moveBlock_15 post (nI (a + 1)) (nI (t + 1)) (nI s) n (nI k) cn p kc kp ch (ds_mv (fun _ => a) (fun _ => t) k O) W M KO KW KM CH := by
  intro d
  induction d with
  | zero =>
    intro k hk n hn
    obtain ⟨m, rfl⟩ := dx_pre hn
    obtain rfl : k = s := by omega
    exact br_t (nI_le (Nat.le_refl _) (by omega)) hp
  | succ d ih =>
    intro k hk n hn
    obtain ⟨m, rfl⟩ := dx_pre hn
    refine br_f (nI_ge (by omega) (by omega)) ?_
    rw [nI_pred a, nI_pred t]
    refine dx_shift (by omega) (by omega) ?_
    intro y ey
    subst ey
    rw [nI_1 k]
    exact ih (k + 1) (by omega) m (by omega)
/-- the block of s lines behind place a is put before a place t at or before it -/
theorem dx_mbU {post : Int32 → SX → Prop} {a t s : Nat} (hs : 0 < s) (ha : a + s ≤ 60) (ht : t + s ≤ 60) (hta : t ≤ a) (hp : post (nI (t + s)) (cn, p, kc, kp, ch, ds_mv (fun k => a + k) (fun k => t + k) s O, W, M, KO, KW, KM, CH)) : wpX_moveBlock post (cn, p, kc, kp, ch, O, W, M, KO, KW, KM, CH) (nI (a + 1)) (nI (a + s)) (nI t) := by
  have e : nI (a + s) - nI (a + 1) + 1 = nI s := by
    rw [pk_sub (by omega), nI_1]
    exact congrArg nI (by omega)
  intro x ex
  rw [e] at ex
  subst ex
  exact br_t (nI_lt (by omega) (by omega)) ⟨s + 1, dx_mb43 ha ht hp s 0 (by omega) (s + 1) (by omega)⟩
/-- the block of s lines behind place a is put behind the line at t, t at or behind its last -/
theorem dx_mbD {post : Int32 → SX → Prop} {a t s : Nat} (hs : 0 < s) (ha : a + s ≤ t + 1) (ht : t < 60) (hp : post (nI (t + 1)) (cn, p, kc, kp, ch, ds_mv (fun _ => a) (fun _ => t) s O, W, M, KO, KW, KM, CH)) : wpX_moveBlock post (cn, p, kc, kp, ch, O, W, M, KO, KW, KM, CH) (nI (a + 1)) (nI (a + s)) (nI (t + 1)) := by
  have e : nI (a + s) - nI (a + 1) + 1 = nI s := by
    rw [pk_sub (by omega), nI_1]
    exact congrArg nI (by omega)
  intro x ex
  rw [e] at ex
  subst ex
  exact br_f (nI_nlt (by omega) (by omega)) ⟨s + 1, dx_mb15 (by omega) ht (by omega) hp s 0 (by omega) (s + 1) (by omega)⟩
theorem dx_rm24 {post : Int32 → SX → Prop} {a c s : Nat} (hs : a + s ≤ c) (hc : c ≤ 60) (hx : ∀ m, wX_remove_24 post (nI (a + 1)) (nI s) (m + 1) (nI s) (nI (c - s)) p kc kp ch (ds_rmO a c s O) W (ds_rmM a c O s M) KO KW KM CH) : ∀ d k, k + d = s → ∀ n, d < n → wX_remove_24 post (nI (a + 1)) (nI s) n (nI k) (nI (c - k)) p kc kp ch (ds_rmO a c k O) W (ds_rmM a c O k M) KO KW KM CH := by
  intro d
  induction d with
  | zero =>
    intro k hk n hn
    obtain ⟨m, rfl⟩ := dx_pre hn
    obtain rfl : k = s := by omega
    exact hx m
  | succ d ih =>
    intro k hk n hn
    obtain ⟨m, rfl⟩ := dx_pre hn
    refine br_f (nI_ge (by omega) (by omega)) ?_
    rw [nI_pred a, show c - k = (c - (k + 1)) + 1 from by omega]
    refine dx_drop (by omega) (by omega) ?_
    intro y ey
    subst ey
    rw [nI_1 k]
    exact ih (k + 1) (by omega) m (by omega)
theorem dx_cp53 {post : Int32 → SX → Prop} {a t c s : Nat} (hO : ∀ i, i < 60 → vp_in (O i) 60) (hs : a + s ≤ c) (hc : c + s ≤ 60) (hx : ∀ m, wX_copy_53 post (nI (a + 1)) (nI t) (nI s) (nI c) (m + 1) (nI s) (nI (c + s)) p kc kp ch O (ds_apW O c a s W) M KO KW KM CH) : ∀ d k, k + d = s → ∀ n, d < n → wX_copy_53 post (nI (a + 1)) (nI t) (nI s) (nI c) n (nI k) (nI (c + k)) p kc kp ch O (ds_apW O c a k W) M KO KW KM CH := by
  intro d
  induction d with
  | zero =>
    intro k hk n hn
    obtain ⟨m, rfl⟩ := dx_pre hn
    obtain rfl : k = s := by omega
    exact hx m
  | succ d ih =>
    intro k hk n hn
    obtain ⟨m, rfl⟩ := dx_pre hn
    refine br_f (nI_ge (by omega) (by omega)) ?_
    rw [nI_pred a, nI_add a k, nI_clamp (by omega)]
    refine ⟨vp_in_nI (by omega) (by decide), hO _ (by omega), ?_⟩
    refine dx_append (by omega) (hO _ (by omega)) ?_
    intro y ey
    subst ey
    rw [nI_1 k]
    exact ih (k + 1) (by omega) m (by omega)
theorem dx_sl2 {post : SX → Prop} (hp : post (cn, p, kc, kp, ch, ds_cp 60 KO O, ds_cp 60 KW W, M, ds_cp 60 O KO, ds_cp 60 W KW, KM, CH)) : ∀ d i, i + d = 60 → ∀ n, d < n → wX_swapLines_2 post cn p kc kp ch n (nI i) (ds_cp i KO O) (ds_cp i KW W) M (ds_cp i O KO) (ds_cp i W KW) KM CH := by
  intro d
  induction d with
  | zero =>
    intro i hi n hn
    obtain ⟨m, rfl⟩ := dx_pre hn
    obtain rfl : i = 60 := by omega
    exact br_t (nI_le (a := 60) (b := 60) (by omega) (by decide)) hp
  | succ d ih =>
    intro i hi n hn
    obtain ⟨m, rfl⟩ := dx_pre hn
    have hin : vp_in (nI i) 60 := vp_in_nI (by omega) (by decide)
    refine br_f (nI_ge (b := 60) (by omega) (by decide)) ⟨hin, fun x1 e1 => ⟨hin, hin, fun A eA => ⟨hin, fun B eB => ⟨hin, fun x2 e2 => ⟨hin, hin, fun C eC => ⟨hin, fun D eD y ey => ?_⟩⟩⟩⟩⟩⟩
    subst e1 eA eB e2 eC eD ey
    rw [nI_clamp (by omega), nI_1, ds_cp_ge (Nat.le_refl i), ds_cp_ge (Nat.le_refl i), ds_cp_ge (Nat.le_refl i), ds_cp_ge (Nat.le_refl i), ds_cp_s, ds_cp_s, ds_cp_s, ds_cp_s]
    exact ih (i + 1) (by omega) m (by omega)
theorem dx_sl {post : SX → Prop} (hp : post (cn, p, kc, kp, ch, ds_cp 60 KO O, ds_cp 60 KW W, M, ds_cp 60 O KO, ds_cp 60 W KW, KM, CH)) : wpX_swapLines post (cn, p, kc, kp, ch, O, W, M, KO, KW, KM, CH) := by
  refine Exists.intro 61 ?_
  have h := dx_sl2 hp 60 0 rfl 61 (by decide)
  rw [ds_cp_0, ds_cp_0, ds_cp_0, ds_cp_0] at h
  exact h
theorem dx_sm2 {post : SX → Prop} (hp : post (cn, p, kc, kp, ch, O, W, ds_cp 4 KM M, KO, KW, ds_cp 4 M KM, CH)) : ∀ d i, i + d = 4 → ∀ n, d < n → wX_swapMarks_2 post cn p kc kp ch n (nI i) O W (ds_cp i KM M) KO KW (ds_cp i M KM) CH := by
  intro d
  induction d with
  | zero =>
    intro i hi n hn
    obtain ⟨m, rfl⟩ := dx_pre hn
    obtain rfl : i = 4 := by omega
    exact br_t (nI_le (a := 4) (b := 4) (by omega) (by decide)) hp
  | succ d ih =>
    intro i hi n hn
    obtain ⟨m, rfl⟩ := dx_pre hn
    have hin : vp_in (nI i) 4 := vp_in_nI (by omega) (by decide)
    refine br_f (nI_ge (b := 4) (by omega) (by decide)) ⟨hin, fun x1 e1 => ⟨hin, hin, fun A eA => ⟨hin, fun B eB y ey => ?_⟩⟩⟩
    subst e1 eA eB ey
    rw [nI_clamp (by omega), nI_1, ds_cp_ge (Nat.le_refl i), ds_cp_ge (Nat.le_refl i), ds_cp_s, ds_cp_s]
    exact ih (i + 1) (by omega) m (by omega)
theorem dx_sm {post : SX → Prop} (hp : post (cn, p, kc, kp, ch, O, W, ds_cp 4 KM M, KO, KW, ds_cp 4 M KM, CH)) : wpX_swapMarks post (cn, p, kc, kp, ch, O, W, M, KO, KW, KM, CH) := by
  refine Exists.intro 5 ?_
  have h := dx_sm2 hp 4 0 rfl 5 (by decide)
  rw [ds_cp_0, ds_cp_0] at h
  exact h
end
end
section
section
variable {cn ln nw ch oc od : Int32} {N V M ON OV OM LS : Nat → Int32}
/-! the reference's own methods, each with a general post -/
theorem dy_save61 {post : SY → Prop} (hp : post (cn, ln, nw, ch, oc, od, N, V, M, ON, OV, ds_cp 4 M OM, LS)) : ∀ d i, i + d = 4 → ∀ n, d < n → wY_save_61 post cn ln nw ch oc od n (nI i) N V M ON OV (ds_cp i M OM) LS := by
  intro d
  induction d with
  | zero =>
    intro i hi n hn
    obtain ⟨m, rfl⟩ := dx_pre hn
    obtain rfl : i = 4 := by omega
    exact br_t (nI_le (a := 4) (b := 4) (by omega) (by decide)) hp
  | succ d ih =>
    intro i hi n hn
    obtain ⟨m, rfl⟩ := dx_pre hn
    have hin : vp_in (nI i) 4 := vp_in_nI (by omega) (by decide)
    refine br_f (nI_ge (b := 4) (by omega) (by decide)) ⟨hin, hin, fun B eB x ex => ?_⟩
    subst eB ex
    rw [nI_clamp (by omega), nI_1, ds_cp_s]
    exact ih (i + 1) (by omega) m (by omega)
theorem dy_save23 {post : SY → Prop} (hp : post (cn, ln, nw, ch, oc, od, N, V, M, ds_cp 60 N ON, ds_cp 60 V OV, ds_cp 4 M OM, LS)) : ∀ d i, i + d = 60 → ∀ n, d < n → wY_save_23 post cn ln nw ch oc od n (nI i) N V M (ds_cp i N ON) (ds_cp i V OV) OM LS := by
  intro d
  induction d with
  | zero =>
    intro i hi n hn
    obtain ⟨m, rfl⟩ := dx_pre hn
    obtain rfl : i = 60 := by omega
    refine br_t (nI_le (a := 60) (b := 60) (by omega) (by decide)) ⟨5, ?_⟩
    have h := dy_save61 hp 4 0 rfl 5 (by decide)
    rw [ds_cp_0] at h
    exact h
  | succ d ih =>
    intro i hi n hn
    obtain ⟨m, rfl⟩ := dx_pre hn
    have hin : vp_in (nI i) 60 := vp_in_nI (by omega) (by decide)
    refine br_f (nI_ge (b := 60) (by omega) (by decide)) ⟨hin, hin, fun B eB => ⟨hin, hin, fun C eC x ex => ?_⟩⟩
    subst eB eC ex
    rw [nI_clamp (by omega), nI_1, ds_cp_s, ds_cp_s]
    exact ih (i + 1) (by omega) m (by omega)
theorem dy_save {post : SY → Prop} (hp : post (cn, ln, nw, 1, cn, nw, N, V, M, ds_cp 60 N ON, ds_cp 60 V OV, ds_cp 4 M OM, LS)) : wpY_save post (cn, ln, nw, ch, oc, od, N, V, M, ON, OV, OM, LS) := by
  refine Exists.intro 61 ?_
  have h := dy_save23 hp 60 0 rfl 61 (by decide)
  rw [ds_cp_0, ds_cp_0] at h
  exact h
theorem dy_pl_at {post : Int32 → Prop} {c i0 : Nat} {x : Int32} (hc : c ≤ 60) (hi0 : i0 < c) (e : N i0 = x) (hne : ∀ j, j < i0 → N j ≠ x) (hp : post (nI i0)) : wpY_placeOf post (nI c, ln, nw, ch, oc, od, N, V, M, ON, OV, OM, LS) x := by
  have key : ∀ d i, i + d = i0 → ∀ n, d < n → wY_placeOf_2 post x (nI c) ln nw ch oc od N V M ON OV OM LS n (nI i) := by
    intro d
    induction d with
    | zero =>
      intro i hi n hn
      obtain ⟨m, rfl⟩ := dx_pre hn
      obtain rfl : i = i0 := by omega
      exact br_f (nI_ge hi0 (by omega)) ⟨vp_in_nI (by omega) (by decide), br_t (by rw [nI_clamp (by omega)]; exact e) hp⟩
    | succ d ih =>
      intro i hi n hn
      obtain ⟨m, rfl⟩ := dx_pre hn
      refine br_f (nI_ge (by omega) (by omega)) ⟨vp_in_nI (by omega) (by decide), br_f (by rw [nI_clamp (by omega)]; exact hne i (by omega)) (fun y ey => ?_)⟩
      subst ey
      rw [nI_1]
      exact ih (i + 1) (by omega) m (by omega)
  exact Exists.intro (i0 + 1) (key i0 0 (by omega) (i0 + 1) (by omega))
theorem dy_ins6 {post : SY → Prop} {t c : Nat} {x v : Int32} (ht : t < 60) : ∀ d i A B, i ≤ t + d → i < 60 → post (nI (c + 1), ln, nw, ch, oc, od, upd (ds_up A i t) t x, upd (ds_up B i t) t v, M, ON, OV, OM, LS) → ∀ n, d < n → wY_insert_6 post (nI t) x v (nI c) ln nw ch oc od n (nI i) A B M ON OV OM LS := by
  have ex0 : ∀ (i : Nat) (A B : Nat → Int32) (m : Nat), i ≤ t → post (nI (c + 1), ln, nw, ch, oc, od, upd (ds_up A i t) t x, upd (ds_up B i t) t v, M, ON, OV, OM, LS) → wY_insert_6 post (nI t) x v (nI c) ln nw ch oc od (m + 1) (nI i) A B M ON OV OM LS := by
    intro i A B m hi hp
    have hin : vp_in (nI t) 60 := vp_in_nI ht (by decide)
    refine br_t (nI_le hi (by omega)) ⟨hin, fun A' eA => ⟨hin, fun B' eB y ey => ?_⟩⟩
    subst eA eB ey
    rw [nI_clamp (by omega), nI_1]
    rw [ds_up_0 hi, ds_up_0 hi] at hp
    exact hp
  intro d
  induction d with
  | zero =>
    intro i A B hi hi6 hp n hn
    obtain ⟨m, rfl⟩ := dx_pre hn
    exact ex0 i A B m hi hp
  | succ d ih =>
    intro i A B hi hi6 hp n hn
    obtain ⟨m, rfl⟩ := dx_pre hn
    by_cases h : i ≤ t
    · exact ex0 i A B m h hp
    · obtain ⟨j, rfl⟩ : ∃ j, i = j + 1 := ⟨i - 1, by omega⟩
      have h1 : vp_in (nI (j + 1) - 1) 60 := by rw [nI_pred]; exact vp_in_nI (by omega) (by decide)
      have h2 : vp_in (nI (j + 1)) 60 := vp_in_nI hi6 (by decide)
      refine br_f (nI_ge (by omega) (by omega)) ⟨h1, h2, fun A' eA => ⟨h1, h2, fun B' eB y ey => ?_⟩⟩
      subst eA eB ey
      rw [nI_pred, nI_clamp (by omega), nI_clamp (by omega), pk_m1]
      exact ih j _ _ (by omega) (by omega) (by rw [ds_up_s (by omega), ds_up_s (by omega)]; exact hp) m (by omega)
theorem dy_insR {post : SY → Prop} {t c : Nat} {x v : Int32} (ht : t ≤ c) (hc : c < 60) (hp : post (nI (c + 1), ln, nw, ch, oc, od, upd (ds_up N c t) t x, upd (ds_up V c t) t v, M, ON, OV, OM, LS)) : wpY_insert post (nI c, ln, nw, ch, oc, od, N, V, M, ON, OV, OM, LS) (nI t) x v := by
  exact Exists.intro (c + 1) (dy_ins6 (by omega) c c N V (by omega) hc hp (c + 1) (by omega))
theorem dy_insert {post : SY → Prop} {t c : Nat} {x v : Int32} (ht : t ≤ c) (hc : c < 60) (hp : post (nI (c + 1), ln, nw, ch, oc, od, ds_sf (upd N c x) c t, ds_sf (upd V c v) c t, M, ON, OV, OM, LS)) : wpY_insert post (nI c, ln, nw, ch, oc, od, N, V, M, ON, OV, OM, LS) (nI t) x v := by
  rw [← ds_ins N x ht, ← ds_ins V v ht] at hp
  exact dy_insR ht hc hp
theorem dy_take12 {post : SY → Prop} {c : Nat} (hc : c < 60) : ∀ d i A B, c ≤ i + d → i < 60 → post (nI c, ln, nw, ch, oc, od, ds_dn A i c, ds_dn B i c, M, ON, OV, OM, LS) → ∀ n, d < n → wY_takeOut_12 post (nI c) ln nw ch oc od n (nI i) A B M ON OV OM LS := by
  have ex0 : ∀ (i : Nat) (A B : Nat → Int32) (m : Nat), c ≤ i → i < 60 → post (nI c, ln, nw, ch, oc, od, ds_dn A i c, ds_dn B i c, M, ON, OV, OM, LS) → wY_takeOut_12 post (nI c) ln nw ch oc od (m + 1) (nI i) A B M ON OV OM LS := by
    intro i A B m hi h6 hp
    rw [ds_dn_0 hi, ds_dn_0 hi] at hp
    exact br_t (nI_le hi (by omega)) hp
  intro d
  induction d with
  | zero =>
    intro i A B hi hi6 hp n hn
    obtain ⟨m, rfl⟩ := dx_pre hn
    exact ex0 i A B m hi hi6 hp
  | succ d ih =>
    intro i A B hi hi6 hp n hn
    obtain ⟨m, rfl⟩ := dx_pre hn
    by_cases h : c ≤ i
    · exact ex0 i A B m h hi6 hp
    · have h1 : vp_in (nI i + 1) 60 := by rw [nI_1]; exact vp_in_nI (by omega) (by decide)
      have h2 : vp_in (nI i) 60 := vp_in_nI hi6 (by decide)
      refine br_f (nI_ge (by omega) (by omega)) ⟨h1, h2, fun A' eA => ⟨h1, h2, fun B' eB y ey => ?_⟩⟩
      subst eA eB ey
      rw [nI_1, nI_clamp (by omega), nI_clamp (by omega)]
      exact ih (i + 1) _ _ (by omega) (by omega) (by rw [ds_dn_s (by omega), ds_dn_s (by omega)]; exact hp) m (by omega)
theorem dy_take {post : SY → Prop} {a c : Nat} (ha : a ≤ c) (hc : c < 60) (hp : post (nI c, ln, nw, ch, oc, od, ds_dn N a c, ds_dn V a c, M, ON, OV, OM, LS)) : wpY_takeOut post (nI (c + 1), ln, nw, ch, oc, od, N, V, M, ON, OV, OM, LS) (nI a) := by
  intro y ey
  rw [nI_pred] at ey
  subst ey
  exact Exists.intro (c + 1) (dy_take12 hc c a N V (by omega) (by omega) hp (c + 1) (by omega))
theorem dy_fg2 {post : SY → Prop} {x : Int32} (hp : post (cn, ln, nw, ch, oc, od, N, V, ds_fg M x 0 4, ON, OV, OM, LS)) : ∀ d i, i + d = 4 → ∀ n, d < n → wY_forget_2 post x cn ln nw ch oc od n (nI i) N V (ds_fg M x 0 i) ON OV OM LS := by
  intro d
  induction d with
  | zero =>
    intro i hi n hn
    obtain ⟨m, rfl⟩ := dx_pre hn
    obtain rfl : i = 4 := by omega
    exact br_t (nI_le (a := 4) (b := 4) (by omega) (by decide)) hp
  | succ d ih =>
    intro i hi n hn
    obtain ⟨m, rfl⟩ := dx_pre hn
    have hin : vp_in (nI i) 4 := vp_in_nI (by omega) (by decide)
    have e : ds_fg M x 0 i (nI i).toNatClampNeg = M i := by
      rw [nI_clamp (by omega), ds_fg_ge (Nat.le_refl _)]
    refine br_f (nI_ge (b := 4) (by omega) (by decide)) ⟨hin, ?_⟩
    by_cases z : M i = x
    · refine br_t (e.trans z) ⟨hin, fun B eB y ey => ?_⟩
      subst eB ey
      rw [nI_clamp (by omega), nI_1, ds_fg_t z]
      exact ih (i + 1) (by omega) m (by omega)
    · refine br_f (fun w => z (e.symm.trans w)) (fun y ey => ?_)
      subst ey
      rw [nI_1, ds_fg_f z]
      exact ih (i + 1) (by omega) m (by omega)
theorem dy_forget {post : SY → Prop} {x : Int32} (hp : post (cn, ln, nw, ch, oc, od, N, V, ds_fg M x 0 4, ON, OV, OM, LS)) : wpY_forget post (cn, ln, nw, ch, oc, od, N, V, M, ON, OV, OM, LS) x := by
  refine Exists.intro 5 ?_
  have h := dy_fg2 hp 4 0 rfl 5 (by decide)
  rw [ds_fg_0] at h
  exact h
theorem dy_sfy (A : Nat → Int32) {q t c : Nat} (hp : q ≤ c) (ht : t ≤ c) : upd (ds_up (ds_dn A q c) c t) t (A q) = ds_sf A q t := ds_sf_y A (c := c + 1) (by omega) (by omega)
theorem dy_shift {post : SY → Prop} {a t c : Nat} (ha : a ≤ c) (ht : t ≤ c) (hc : c < 60) (hp : post (nI (c + 1), ln, nw, ch, oc, od, ds_sf N a t, ds_sf V a t, M, ON, OV, OM, LS)) : wpY_shift post (nI (c + 1), ln, nw, ch, oc, od, N, V, M, ON, OV, OM, LS) (nI a) (nI t) := by
  have hin : vp_in (nI a) 60 := vp_in_nI (by omega) (by decide)
  refine And.intro hin (fun x ex => ⟨hin, fun v ev => ?_⟩)
  rw [nI_clamp (by omega)] at ex ev
  subst ex ev
  refine dy_take ha hc ?_
  refine dy_insR ht hc ?_
  rw [dy_sfy N ha ht, dy_sfy V ha ht]
  exact hp
/-! move: the loop, upward and downward -/
theorem dy_mv75 {post : Int32 → SY → Prop} {J : Int32 → Int32 → Int32 → Int32 → Int32 → Int32 → Int32 → (Nat → Int32) → (Nat → Int32) → (Nat → Int32) → (Nat → Int32) → (Nat → Int32) → (Nat → Int32) → (Nat → Int32) → Prop} {x1 x2 x3 x4 : Int32} {a t c k : Nat} (ha : a ≤ c) (ht : t ≤ c) (hc : c < 60) (hd : (x1 ≤ x3 ∧ x3 - 1 = nI t) ∨ (¬ x1 ≤ x3 ∧ x3 + nI k = nI t)) (hp : J (nI (k + 1)) (nI (c + 1)) ln nw ch oc od (ds_sf N a t) (ds_sf V a t) M ON OV OM LS) : wY_move_75 post J x1 x2 x3 x4 (nI k) (nI a) (nI (c + 1)) ln nw ch oc od N V M ON OV OM LS := by
  have hin : vp_in (nI a) 60 := vp_in_nI (by omega) (by decide)
  refine And.intro hin (fun x ex => ⟨hin, fun v ev => ?_⟩)
  rw [nI_clamp (by omega)] at ex ev
  subst ex ev
  refine dy_take ha hc ?_
  have fin : wpY_insert (fun u => match u with | (b0, b1, b2, b3, b4, b5, b6, b7, b8, b9, b10, b11, b12) => ∀ y : Int32, y = nI k + 1 → J y b0 b1 b2 b3 b4 b5 b6 b7 b8 b9 b10 b11 b12) (nI c, ln, nw, ch, oc, od, ds_dn N a c, ds_dn V a c, M, ON, OV, OM, LS) (nI t) (N a) (V a) := by
    refine dy_insR ht hc ?_
    rw [dy_sfy N ha ht, dy_sfy V ha ht]
    intro y ey
    rw [nI_1] at ey
    subst ey
    exact hp
  rcases hd with ⟨h1, h2⟩ | ⟨h1, h2⟩
  · refine br_t h1 ?_
    rw [h2]
    exact fin
  · refine br_f h1 ?_
    rw [h2]
    exact fin
theorem dy_mvU {post : Int32 → SY → Prop} {x : Int32} {a t c s : Nat} (hs : 0 < s) (ha : a + s ≤ c + 1) (hta : t ≤ a) (hc : c < 60) (hx : ∀ m, wY_move_50 post (nI (a + 1)) (nI (a + s)) (nI t) x (m + 1) (nI s) (nI (c + 1)) ln nw ch oc od (ds_mv (fun k => a + k) (fun k => t + k) s N) (ds_mv (fun k => a + k) (fun k => t + k) s V) M ON OV OM LS) : ∀ d k, k + d = s → ∀ n, d < n → wY_move_50 post (nI (a + 1)) (nI (a + s)) (nI t) x n (nI k) (nI (c + 1)) ln nw ch oc od (ds_mv (fun k => a + k) (fun k => t + k) k N) (ds_mv (fun k => a + k) (fun k => t + k) k V) M ON OV OM LS := by
  intro d
  induction d with
  | zero =>
    intro k hk n hn
    obtain ⟨m, rfl⟩ := dx_pre hn
    obtain rfl : k = s := by omega
    exact hx m
  | succ d ih =>
    intro k hk n hn
    obtain ⟨m, rfl⟩ := dx_pre hn
    have h0 : ¬ nI (a + s) - nI (a + 1) < nI k := by
      rw [pk_sub (by omega)]
      exact nI_nlt (by omega) (by omega)
    have h1 : ¬ nI (a + 1) ≤ nI t := nI_ge (by omega) (by omega)
    refine br_f h0 (br_f h1 ?_)
    rw [nI_pred a, nI_add a k]
    exact dy_mv75 (by omega) (t := t + k) (by omega) hc (Or.inr ⟨h1, nI_add t k⟩) (ih (k + 1) (by omega) m (by omega))
theorem dy_mvD {post : Int32 → SY → Prop} {x : Int32} {a t c s : Nat} (hs : 0 < s) (hta : a + s ≤ t + 1) (ht : t ≤ c) (hc : c < 60) (hx : ∀ m, wY_move_50 post (nI (a + 1)) (nI (a + s)) (nI (t + 1)) x (m + 1) (nI s) (nI (c + 1)) ln nw ch oc od (ds_mv (fun _ => a) (fun _ => t) s N) (ds_mv (fun _ => a) (fun _ => t) s V) M ON OV OM LS) : ∀ d k, k + d = s → ∀ n, d < n → wY_move_50 post (nI (a + 1)) (nI (a + s)) (nI (t + 1)) x n (nI k) (nI (c + 1)) ln nw ch oc od (ds_mv (fun _ => a) (fun _ => t) k N) (ds_mv (fun _ => a) (fun _ => t) k V) M ON OV OM LS := by
  intro d
  induction d with
  | zero =>
    intro k hk n hn
    obtain ⟨m, rfl⟩ := dx_pre hn
    obtain rfl : k = s := by omega
    exact hx m
  | succ d ih =>
    intro k hk n hn
    obtain ⟨m, rfl⟩ := dx_pre hn
    have h0 : ¬ nI (a + s) - nI (a + 1) < nI k := by
      rw [pk_sub (by omega)]
      exact nI_nlt (by omega) (by omega)
    have h1 : nI (a + 1) ≤ nI (t + 1) := nI_le (by omega) (by omega)
    refine br_f h0 (br_t h1 ?_)
    rw [nI_pred a]
    exact dy_mv75 (by omega) (t := t) (by omega) hc (Or.inl ⟨h1, nI_pred t⟩) (ih (k + 1) (by omega) m (by omega))
end
def ds_rnN (a c : Nat) : Nat → (Nat → Int32) → (Nat → Int32)
  | 0, A => A
  | k + 1, A => ds_dn (ds_rnN a c k A) a (c - (k + 1))
def ds_rnM (a c : Nat) (N : Nat → Int32) : Nat → (Nat → Int32) → (Nat → Int32)
  | 0, M => M
  | k + 1, M => ds_fg (ds_rnM a c N k M) (ds_rnN a c k N a) 0 4
def ds_ci (c t : Nat) (F : Nat → Int32) : Nat → (Nat → Int32) → (Nat → Int32)
  | 0, A => A
  | k + 1, A => ds_sf (upd (ds_ci c t F k A) (c + k) (F k)) (c + k) (t + k)
section
variable {cn ln nw ch oc od : Int32} {N V M ON OV OM LS : Nat → Int32}
theorem dy_rm17 {post : Int32 → SY → Prop} {a c s : Nat} (hs : a + s ≤ c) (hc : c ≤ 60) (hx : ∀ m, wY_remove_17 post (nI (a + 1)) (nI (a + s)) (m + 1) (nI (a + 1 + s)) (nI (c - s)) ln nw ch oc od (ds_rnN a c s N) (ds_rnN a c s V) (ds_rnM a c N s M) ON OV OM LS) : ∀ d k, k + d = s → ∀ n, d < n → wY_remove_17 post (nI (a + 1)) (nI (a + s)) n (nI (a + 1 + k)) (nI (c - k)) ln nw ch oc od (ds_rnN a c k N) (ds_rnN a c k V) (ds_rnM a c N k M) ON OV OM LS := by
  intro d
  induction d with
  | zero =>
    intro k hk n hn
    obtain ⟨m, rfl⟩ := dx_pre hn
    obtain rfl : k = s := by omega
    exact hx m
  | succ d ih =>
    intro k hk n hn
    obtain ⟨m, rfl⟩ := dx_pre hn
    refine br_f (nI_nlt (by omega) (by omega)) ?_
    rw [nI_pred a, show c - k = (c - (k + 1)) + 1 from by omega, nI_clamp (by omega)]
    refine ⟨vp_in_nI (by omega) (by decide), ?_⟩
    refine dy_forget ?_
    refine dy_take (by omega) (by omega) ?_
    intro y ey
    subst ey
    rw [nI_1]
    exact ih (k + 1) (by omega) m (by omega)
theorem dy_cp45 {post : Int32 → SY → Prop} {x3 : Int32} {a s : Nat} (hs : a + s ≤ 60) (hx : ∃ n, wY_copy_78 post (nI (a + 1)) (nI (a + s)) x3 n 0 cn ln nw ch oc od N V M ON OV OM (ds_cp s (fun j => V (a + j)) LS)) : ∀ d k, k + d = s → ∀ n, d < n → wY_copy_45 post (nI (a + 1)) (nI (a + s)) x3 cn ln nw ch oc od n (nI (a + 1 + k)) N V M ON OV OM (ds_cp k (fun j => V (a + j)) LS) := by
  intro d
  induction d with
  | zero =>
    intro k hk n hn
    obtain ⟨m, rfl⟩ := dx_pre hn
    obtain rfl : k = s := by omega
    exact br_t (nI_lt (by omega) (by omega)) hx
  | succ d ih =>
    intro k hk n hn
    obtain ⟨m, rfl⟩ := dx_pre hn
    have e1 : nI (a + 1 + k) - 1 = nI (a + k) := by
      rw [show a + 1 + k = (a + k) + 1 from by omega, nI_pred]
    have e2 : nI (a + 1 + k) - nI (a + 1) = nI k := by
      rw [pk_sub (by omega)]
      exact congrArg nI (by omega)
    refine br_f (nI_nlt (by omega) (by omega)) ⟨by rw [e1]; exact vp_in_nI (by omega) (by decide), by rw [e2]; exact vp_in_nI (by omega) (by decide), fun A eA y ey => ?_⟩
    subst eA ey
    rw [e1, e2, nI_1, nI_clamp (by omega), nI_clamp (by omega), ds_cp_s (fun j => V (a + j)) LS k]
    exact ih (k + 1) (by omega) m (by omega)
theorem dy_cp78 {post : Int32 → SY → Prop} {F : Nat → Int32} {a t c s L : Nat} (hs : 0 < s) (ha : a + s ≤ 60) (ht : t ≤ c) (hc : c + s ≤ 60) (hF : ∀ j, j < s → LS j = F j) (hp : post (nI (t + s)) (nI (c + s), nI (L + s), nI (L + s), ch, oc, od, ds_ci c t (fun k => nI (L + k + 1)) s N, ds_ci c t F s V, M, ON, OV, OM, LS)) : ∀ d k, k + d = s → ∀ n, d < n → wY_copy_78 post (nI (a + 1)) (nI (a + s)) (nI t) n (nI k) (nI (c + k)) (nI (L + k)) nw ch oc od (ds_ci c t (fun k => nI (L + k + 1)) k N) (ds_ci c t F k V) M ON OV OM LS := by
  have e0 : nI (a + s) - nI (a + 1) = nI (s - 1) := by
    rw [pk_sub (by omega)]
    exact congrArg nI (by omega)
  have e3 : nI t + nI (a + s) - nI (a + 1) + 1 = nI (t + s) := by
    rw [nI_add, pk_sub (by omega), nI_1]
    exact congrArg nI (by omega)
  intro d
  induction d with
  | zero =>
    intro k hk n hn
    obtain ⟨m, rfl⟩ := dx_pre hn
    obtain rfl : k = s := by omega
    refine br_t (by rw [e0]; exact nI_lt (by omega) (by omega)) ?_
    rw [e3]
    exact hp
  | succ d ih =>
    intro k hk n hn
    obtain ⟨m, rfl⟩ := dx_pre hn
    refine br_f (by rw [e0]; exact nI_nlt (by omega) (by omega)) (fun l el => ⟨vp_in_nI (by omega) (by decide), ?_⟩)
    rw [nI_1] at el
    subst el
    rw [nI_add t k, nI_clamp (by omega), hF k (by omega)]
    refine dy_insert (by omega) (by omega) ?_
    intro y ey
    subst ey
    rw [nI_1 k]
    exact ih (k + 1) (by omega) m (by omega)
theorem dy_un77 {post : Int32 → SY → Prop} (hp : post 1 (oc, ln, od, ch, cn, nw, N, V, ds_cp 4 OM M, ON, OV, ds_cp 4 M OM, LS)) : ∀ d i, i + d = 4 → ∀ n, d < n → wY_undo_77 post cn ln nw ch oc od n (nI i) N V (ds_cp i OM M) ON OV (ds_cp i M OM) LS := by
  intro d
  induction d with
  | zero =>
    intro i hi n hn
    obtain ⟨m, rfl⟩ := dx_pre hn
    obtain rfl : i = 4 := by omega
    exact br_t (nI_le (a := 4) (b := 4) (by omega) (by decide)) hp
  | succ d ih =>
    intro i hi n hn
    obtain ⟨m, rfl⟩ := dx_pre hn
    have hin : vp_in (nI i) 4 := vp_in_nI (by omega) (by decide)
    refine br_f (nI_ge (b := 4) (by omega) (by decide)) ⟨hin, fun x1 e1 => ⟨hin, hin, fun A eA => ⟨hin, fun B eB y ey => ?_⟩⟩⟩
    subst e1 eA eB ey
    rw [nI_clamp (by omega), nI_1, ds_cp_ge (Nat.le_refl i), ds_cp_ge (Nat.le_refl i), ds_cp_s, ds_cp_s]
    exact ih (i + 1) (by omega) m (by omega)
theorem dy_un11 {post : Int32 → SY → Prop} (hp : post 1 (oc, ln, od, ch, cn, nw, ds_cp 60 ON N, ds_cp 60 OV V, ds_cp 4 OM M, ds_cp 60 N ON, ds_cp 60 V OV, ds_cp 4 M OM, LS)) : ∀ d i, i + d = 60 → ∀ n, d < n → wY_undo_11 post cn ln nw ch oc od n (nI i) (ds_cp i ON N) (ds_cp i OV V) M (ds_cp i N ON) (ds_cp i V OV) OM LS := by
  intro d
  induction d with
  | zero =>
    intro i hi n hn
    obtain ⟨m, rfl⟩ := dx_pre hn
    obtain rfl : i = 60 := by omega
    refine br_t (nI_le (a := 60) (b := 60) (by omega) (by decide)) ⟨5, ?_⟩
    have h := dy_un77 hp 4 0 rfl 5 (by decide)
    rw [ds_cp_0, ds_cp_0] at h
    exact h
  | succ d ih =>
    intro i hi n hn
    obtain ⟨m, rfl⟩ := dx_pre hn
    have hin : vp_in (nI i) 60 := vp_in_nI (by omega) (by decide)
    refine br_f (nI_ge (b := 60) (by omega) (by decide)) ⟨hin, fun x1 e1 => ⟨hin, fun x2 e2 => ⟨hin, hin, fun A eA => ⟨hin, hin, fun B eB => ⟨hin, fun C eC => ⟨hin, fun D eD y ey => ?_⟩⟩⟩⟩⟩⟩
    subst e1 e2 eA eB eC eD ey
    rw [nI_clamp (by omega), nI_1, ds_cp_ge (Nat.le_refl i), ds_cp_ge (Nat.le_refl i), ds_cp_ge (Nat.le_refl i), ds_cp_ge (Nat.le_refl i), ds_cp_s, ds_cp_s, ds_cp_s, ds_cp_s]
    exact ih (i + 1) (by omega) m (by omega)
theorem dy_undo {post : Int32 → SY → Prop} (hc : ¬ ch = 0) (hp : post 1 (oc, ln, od, ch, cn, nw, ds_cp 60 ON N, ds_cp 60 OV V, ds_cp 4 OM M, ds_cp 60 N ON, ds_cp 60 V OV, ds_cp 4 M OM, LS)) : wpY_undo post (cn, ln, nw, ch, oc, od, N, V, M, ON, OV, OM, LS) := by
  refine br_f hc ⟨61, ?_⟩
  have h := dy_un11 hp 60 0 rfl 61 (by decide)
  rw [ds_cp_0, ds_cp_0, ds_cp_0, ds_cp_0] at h
  exact h
end
end
section
/-- the relation at the head of a turn: both sides of the step back are related, the other one only if there was a change; 12 new names a cell at most -/
def i_Rel (k : Nat) (u : SX) (v : SY) : Prop := ∃ (c kc L : Nat) (ch p kp q kq : Int32) (O W M KO KW KM CH N V M' KN KV KM' LS : Nat → Int32),
  u = (nI c, p, nI kc, kp, ch, O, W, M, KO, KW, KM, CH) ∧ v = (nI c, nI L, q, ch, nI kc, kq, N, V, M', KN, KV, KM', LS) ∧ L ≤ 12 * k ∧
  ds_S c p O W M q N V M' L ∧ (ch = 0 ∨ ds_S kc kp KO KW KM kq KN KV KM' L)
theorem i_up {k : Nat} {u : SX} {v : SY} (h : i_Rel k u v) : i_Rel (k + 5) u v := by
  obtain ⟨c, kc, L, ch, p, kp, q, kq, O, W, M, KO, KW, KM, CH, N, V, M', KN, KV, KM', LS, e1, e2, hL, hS, hK⟩ := h
  exact ⟨c, kc, L, ch, p, kp, q, kq, O, W, M, KO, KW, KM, CH, N, V, M', KN, KV, KM', LS, e1, e2, by omega, hS, hK⟩
theorem dz_mk {k c kc L : Nat} {ch p kp q kq : Int32} {O W M KO KW KM CH N V M' KN KV KM' LS : Nat → Int32} (hL : L ≤ 12 * k) (hS : ds_S c p O W M q N V M' L) (hK : ch = 0 ∨ ds_S kc kp KO KW KM kq KN KV KM' L) : i_Rel k (nI c, p, nI kc, kp, ch, O, W, M, KO, KW, KM, CH) (nI c, nI L, q, ch, nI kc, kq, N, V, M', KN, KV, KM', LS) :=
  ⟨c, kc, L, ch, p, kp, q, kq, O, W, M, KO, KW, KM, CH, N, V, M', KN, KV, KM', LS, rfl, rfl, hL, hS, hK⟩
theorem i_vc0 : wpX_init (fun u => wpY_init (fun v => i_Rel 0 u v)) := by
  refine Exists.intro 61 ?_
  have hp : (fun u => wpY_init (fun v => i_Rel 0 u v)) ((0, -1, 0, 0, 0, ds_cp 60 nI (fun _ => 0), (fun _ => 0), ds_cp 4 (fun _ => -1) (fun _ => 0), (fun _ => 0), (fun _ => 0), (fun _ => 0), (fun _ => 0)) : SX) := by
    have hv : ∀ i, i < 60 → ds_cp 60 nI (fun _ => 0) i = nI i := fun i hi => ds_cp_lt hi
    refine dz_mk (c := 0) (kc := 0) (L := 0) (by omega) ⟨⟨by omega, fun i hi => ?_, fun i j hi hj e => ?_, fun i hi => by omega, fun i hi => by omega, fun i j hi => by omega⟩, fun m hm => Or.inl ⟨ds_cp_lt hm, rfl⟩, Or.inl ⟨rfl, rfl⟩⟩ (Or.inl rfl)
    · rw [hv i hi]; exact vp_in_nI hi (by decide)
    · rw [hv i hi, hv j hj, nI_eq (by omega) (by omega)] at e
      exact e
  have h := dx_in60 (post := fun u => wpY_init (fun v => i_Rel 0 u v)) (cn := 0) (p := 0) (ch := 0) hp 60 0 rfl 61 (by decide)
  rw [ds_cp_0] at h
  exact h
/-! what the arguments may be -/
theorem dz_line {c : Nat} (x : Int32) (hc : c ≤ 60) : x < 1 ∨ (¬ x < 1 ∧ nI c < x) ∨ ∃ j, j < c ∧ x = nI (j + 1) := by
  by_cases h : x < 1
  · exact Or.inl h
  · have h0 : ¬ x < 0 := fun z => h (Int32.lt_trans z (by decide))
    obtain ⟨j, hj, rfl⟩ := nI_of h0
    have h1 : ¬ j < 1 := fun z => h (nI_lt (b := 1) z (by decide))
    by_cases h2 : c < j
    · exact Or.inr (Or.inl ⟨h, nI_lt h2 hj⟩)
    · exact Or.inr (Or.inr ⟨j - 1, by omega, congrArg nI (by omega)⟩)
theorem dz_plc {c : Nat} (x : Int32) (hc : c ≤ 60) : x < 0 ∨ (¬ x < 0 ∧ nI c < x) ∨ ∃ j, j ≤ c ∧ x = nI j := by
  by_cases h : x < 0
  · exact Or.inl h
  · obtain ⟨j, hj, rfl⟩ := nI_of h
    by_cases h2 : c < j
    · exact Or.inr (Or.inl ⟨h, nI_lt h2 hj⟩)
    · exact Or.inr (Or.inr ⟨j, by omega, rfl⟩)
section
variable {p kc kp ch : Int32} {O W M KO KW KM CH : Nat → Int32} {ln nw ch' oc od : Int32} {N V M' ON OV OM LS : Nat → Int32}
theorem dz_place {c : Nat} (x : Int32) (hc : c ≤ 60) : ((∀ post : Int32 → Prop, post 0 → wpX_isPlace post (nI c, p, kc, kp, ch, O, W, M, KO, KW, KM, CH) x) ∧ (x < 0 ∨ (¬ x < 0 ∧ nI c < x))) ∨ ∃ j, j ≤ c ∧ x = nI j ∧ (∀ post : Int32 → Prop, post 1 → wpX_isPlace post (nI c, p, kc, kp, ch, O, W, M, KO, KW, KM, CH) x) := by
  rcases dz_plc x hc with h | ⟨h, h2⟩ | ⟨j, hj, rfl⟩
  · exact Or.inl ⟨fun post hp => br_t h hp, Or.inl h⟩
  · exact Or.inl ⟨fun post hp => br_f h (br_t h2 hp), Or.inr ⟨h, h2⟩⟩
  · exact Or.inr ⟨j, hj, rfl, fun post hp => br_f (nI_pos (by omega)) (br_f (nI_nlt hj (by omega)) hp)⟩
theorem dz_range {c : Nat} (x y : Int32) (hc : c ≤ 60) : ((∀ post : Int32 → Prop, post 0 → wpX_isRange post (nI c, p, kc, kp, ch, O, W, M, KO, KW, KM, CH) x y) ∧ (∀ post : Int32 → Prop, post 1 → wpY_badRange post (nI c, ln, nw, ch', oc, od, N, V, M', ON, OV, OM, LS) x y)) ∨ ∃ a s, 0 < s ∧ a + s ≤ c ∧ x = nI (a + 1) ∧ y = nI (a + s) ∧ (∀ post : Int32 → Prop, post 1 → wpX_isRange post (nI c, p, kc, kp, ch, O, W, M, KO, KW, KM, CH) x y) ∧ (∀ post : Int32 → Prop, post 0 → wpY_badRange post (nI c, ln, nw, ch', oc, od, N, V, M', ON, OV, OM, LS) x y) := by
  by_cases h : x < 1
  · exact Or.inl ⟨fun post hp => br_t h hp, fun post hp => br_t h hp⟩
  · by_cases h2 : y < x
    · exact Or.inl ⟨fun post hp => br_f h (br_t h2 hp), fun post hp => br_f h (br_t h2 hp)⟩
    · rcases dz_line y hc with h3 | ⟨_, h4⟩ | ⟨j, hj, rfl⟩
      · exact absurd (Int32.lt_of_le_of_lt (Int32.not_lt.mp h2) h3) h
      · exact Or.inl ⟨fun post hp => br_f h (br_f h2 (br_t h4 hp)), fun post hp => br_f h (br_f h2 (br_f (Int32.not_le.mpr h4) hp))⟩
      · rcases dz_line x hc with h5 | ⟨_, h6⟩ | ⟨i, hi, rfl⟩
        · exact absurd h5 h
        · exact absurd (Int32.lt_of_le_of_lt (nI_le (a := j + 1) (b := c) (by omega) (by omega)) h6) h2
        · have hij : i ≤ j := by
            rw [nI_ltI (by omega) (by omega)] at h2
            omega
          refine Or.inr ⟨i, j + 1 - i, by omega, by omega, rfl, congrArg nI (by omega), fun post hp => br_f h (br_f h2 (br_f (nI_nlt (by omega) (by omega)) hp)), fun post hp => br_f h (br_f h2 (br_t (nI_le (by omega) (by omega)) hp))⟩
/-- the number of the line that a mark or the present line names -/
theorem dz_num {c L : Nat} {x y : Int32} (T : ds_T c O W N V L) (hL : L < 2 ^ 31) (hm : ds_mr c O N x y) : ∃ r, r ≤ c ∧ (∀ post : Int32 → Prop, post (nI r) → wpX_numberOf post (nI c, p, kc, kp, ch, O, W, M, KO, KW, KM, CH) x) ∧ (∀ post : Int32 → Prop, post (nI r) → ((y = 0 → post 0) ∧ (¬ y = 0 → wpY_placeOf (fun r => post (r + 1)) (nI c, ln, nw, ch', oc, od, N, V, M', ON, OV, OM, LS) y))) := by
  obtain ⟨h1, h2, h3, h4, h5, h6⟩ := T
  rcases hm with ⟨rfl, rfl⟩ | ⟨i, hi, rfl, rfl⟩
  · exact ⟨0, by omega, fun post hp => dx_num_no h1 (fun j hj => ds_vm1 (h2 j (by omega))) hp, fun post hp => br_t rfl hp⟩
  · have hne : ¬ N i = 0 := by
      obtain ⟨n, a, b, e⟩ := h5 i hi
      rw [e]
      exact nI_ne0 a (by omega)
    refine ⟨i + 1, by omega, fun post hp => dx_num_at h1 hi rfl (fun j hj e => ?_) hp, fun post hp => br_f hne (dy_pl_at h1 hi rfl (fun j hj e => ?_) ?_)⟩
    · have := h3 j i (by omega) (by omega) e
      omega
    · have := h6 j i (by omega) (by omega) e
      omega
    · show post (nI i + 1)
      rw [nI_1]
      exact hp
end
theorem ds_Mk_upd {c m : Nat} {O N M M' : Nat → Int32} {x y : Int32} (h : ds_Mk c O N M M') (hm : ds_mr c O N x y) : ds_Mk c O N (upd M m x) (upd M' m y) := by
  intro j hj
  by_cases z : j = m
  · rw [z, pk_us, pk_us]; exact hm
  · rw [pk_un z, pk_un z]; exact h j hj
theorem i_vc_lines {k : Nat} {u : SX} {v : SY} (I : i_Rel k u v) (hk : k + 5 ≤ 2560) : wpX_lines (fun r => wpY_lines (fun r' => r' = r ∧ i_Rel (k + 5) u v) v) u := by
  have I' := i_up I
  obtain ⟨c, kc, L, ch, p, kp, q, kq, O, W, M, KO, KW, KM, CH, N, V, M', KN, KV, KM', LS, rfl, rfl, hL, hS, hK⟩ := I
  exact ⟨rfl, I'⟩
theorem i_vc_present {k : Nat} {u : SX} {v : SY} (I : i_Rel k u v) (hk : k + 5 ≤ 2560) : wpX_present (fun r => wpY_present (fun r' => r' = r ∧ i_Rel (k + 5) u v) v) u := by
  have I' := i_up I
  obtain ⟨c, kc, L, ch, p, kp, q, kq, O, W, M, KO, KW, KM, CH, N, V, M', KN, KV, KM', LS, rfl, rfl, hL, hS, hK⟩ := I
  obtain ⟨r, hr, hX, hY⟩ := dz_num hS.1 (by omega) hS.2.2
  unfold wpX_present
  dsimp only
  refine hX _ ?_
  exact hY (fun r' => r' = nI r ∧ i_Rel (k + 5) _ _) ⟨rfl, I'⟩
theorem i_vc_marked {k : Nat} {u : SX} {v : SY} (I : i_Rel k u v) (hk : k + 5 ≤ 2560) (v1 : Int32) : wpX_marked (fun r => wpY_marked (fun r' => r' = r ∧ i_Rel (k + 5) u v) v v1) u v1 := by
  have I' := i_up I
  obtain ⟨c, kc, L, ch, p, kp, q, kq, O, W, M, KO, KW, KM, CH, N, V, M', KN, KV, KM', LS, rfl, rfl, hL, hS, hK⟩ := I
  obtain ⟨j, hj, ej⟩ := pk_andE v1 (m := 3) 2 (by decide)
  have hin : vp_in (v1 &&& 3) 4 := by rw [ej]; exact vp_in_nI hj (by decide)
  have ec : (v1 &&& 3).toNatClampNeg = j := by rw [ej]; exact nI_clamp (by omega)
  obtain ⟨r, hr, hX, hY⟩ := dz_num hS.1 (by omega) (hS.2.1 j hj)
  unfold wpX_marked
  dsimp only
  refine ⟨hin, ?_⟩
  rw [ec]
  refine hX _ ?_
  refine And.intro hin (fun y ey => ?_)
  rw [ec] at ey
  subst ey
  exact hY (fun r' => r' = nI r ∧ i_Rel (k + 5) _ _) ⟨rfl, I'⟩
theorem i_vc_line {k : Nat} {u : SX} {v : SY} (I : i_Rel k u v) (hk : k + 5 ≤ 2560) (v1 : Int32) : wpX_line (fun r => wpY_line (fun r' => r' = r ∧ i_Rel (k + 5) u v) v v1) u v1 := by
  have I' := i_up I
  obtain ⟨c, kc, L, ch, p, kp, q, kq, O, W, M, KO, KW, KM, CH, N, V, M', KN, KV, KM', LS, rfl, rfl, hL, hS, hK⟩ := I
  have hc : c ≤ 60 := hS.1.1
  unfold wpX_line wpX_isLine
  dsimp only
  rcases dz_line v1 hc with h | ⟨h, h2⟩ | ⟨j, hj, rfl⟩
  · exact br_t h (br_t rfl (br_t h ⟨rfl, I'⟩))
  · exact br_f h (br_t h2 (br_t rfl (br_f h (br_f (Int32.not_le.mpr h2) ⟨rfl, I'⟩))))
  · have h1 : ¬ nI (j + 1) < 1 := nI_nlt (b := 1) (by omega) (by omega)
    refine br_f h1 (br_f (nI_nlt (by omega) (by omega)) (br_f (by decide) ?_))
    rw [nI_pred, nI_clamp (by omega)]
    refine ⟨vp_in_nI (by omega) (by decide), hS.1.2.1 j (by omega), ?_⟩
    refine br_f h1 (br_t (nI_le (by omega) (by omega)) ?_)
    rw [nI_pred, nI_clamp (by omega)]
    exact ⟨vp_in_nI (by omega) (by decide), hS.1.2.2.2.1 j hj, I'⟩
theorem i_vc_go {k : Nat} {u : SX} {v : SY} (I : i_Rel k u v) (hk : k + 5 ≤ 2560) (v1 : Int32) : wpX_go (fun r u' => wpY_go (fun r' v' => r' = r ∧ i_Rel (k + 5) u' v') v v1) u v1 := by
  have I' := i_up I
  obtain ⟨c, kc, L, ch, p, kp, q, kq, O, W, M, KO, KW, KM, CH, N, V, M', KN, KV, KM', LS, rfl, rfl, hL, hS, hK⟩ := I
  have hc : c ≤ 60 := hS.1.1
  unfold wpX_go wpX_isLine
  dsimp only
  rcases dz_line v1 hc with h | ⟨h, h2⟩ | ⟨j, hj, rfl⟩
  · exact br_t h (br_t rfl (br_t h ⟨rfl, I'⟩))
  · exact br_f h (br_t h2 (br_t rfl (br_f h (br_f (Int32.not_le.mpr h2) ⟨rfl, I'⟩))))
  · have h1 : ¬ nI (j + 1) < 1 := nI_nlt (b := 1) (by omega) (by omega)
    refine br_f h1 (br_f (nI_nlt (by omega) (by omega)) (br_f (by decide) ?_))
    rw [nI_pred, nI_clamp (by omega)]
    refine ⟨vp_in_nI (by omega) (by decide), fun z ez => ?_⟩
    subst ez
    refine ⟨hS.1.2.1 j (by omega), ?_⟩
    refine br_f h1 (br_t (nI_le (by omega) (by omega)) ?_)
    rw [nI_pred, nI_clamp (by omega)]
    refine ⟨vp_in_nI (by omega) (by decide), fun z ez => ⟨vp_in_nI (by omega) (by decide), hS.1.2.2.2.1 j hj, ?_⟩⟩
    subst ez
    exact dz_mk (by omega) ⟨hS.1, hS.2.1, Or.inr ⟨j, hj, rfl, rfl⟩⟩ hK
theorem i_vc_mark {k : Nat} {u : SX} {v : SY} (I : i_Rel k u v) (hk : k + 5 ≤ 2560) (v1 : Int32) (v2 : Int32) : wpX_mark (fun r u' => wpY_mark (fun r' v' => r' = r ∧ i_Rel (k + 5) u' v') v v1 v2) u v1 v2 := by
  have I' := i_up I
  obtain ⟨c, kc, L, ch, p, kp, q, kq, O, W, M, KO, KW, KM, CH, N, V, M', KN, KV, KM', LS, rfl, rfl, hL, hS, hK⟩ := I
  have hc : c ≤ 60 := hS.1.1
  obtain ⟨m, hm, em⟩ := pk_andE v1 (m := 3) 2 (by decide)
  have hin : vp_in (v1 &&& 3) 4 := by rw [em]; exact vp_in_nI hm (by decide)
  have ec : (v1 &&& 3).toNatClampNeg = m := by rw [em]; exact nI_clamp (by omega)
  unfold wpX_mark
  dsimp only
  rcases dz_place v2 hc with ⟨hX, hb⟩ | ⟨j, hj, rfl, hX⟩
  · refine hX _ (br_t rfl ?_)
    rcases hb with h | ⟨h, h2⟩
    · exact br_t h ⟨rfl, I'⟩
    · exact br_f h (br_f (Int32.not_le.mpr h2) ⟨rfl, I'⟩)
  · refine hX _ (br_f (by decide) ?_)
    have h0 : ¬ nI j < 0 := nI_pos (by omega)
    have h1 : nI j ≤ nI c := nI_le hj (by omega)
    by_cases hz : j = 0
    · subst hz
      refine br_t rfl ⟨hin, fun A eA => ?_⟩
      refine br_f h0 (br_t h1 (br_t rfl ⟨hin, fun B eB => ⟨rfl, ?_⟩⟩))
      rw [ec] at eA eB
      subst eA eB
      exact dz_mk (by omega) ⟨hS.1, ds_Mk_upd hS.2.1 (Or.inl ⟨rfl, rfl⟩), hS.2.2⟩ hK
    · obtain ⟨i, rfl⟩ : ∃ i, j = i + 1 := ⟨j - 1, by omega⟩
      have hn : ¬ nI (i + 1) = 0 := nI_ne0 (by omega) (by omega)
      have hi : vp_in (nI (i + 1) - 1) 60 := by rw [nI_pred]; exact vp_in_nI (by omega) (by decide)
      refine br_f hn ⟨hi, hin, fun A eA => ?_⟩
      refine br_f h0 (br_t h1 (br_f hn ⟨hi, hin, fun B eB => ⟨rfl, ?_⟩⟩))
      rw [ec, nI_pred, nI_clamp (by omega)] at eA eB
      subst eA eB
      exact dz_mk (by omega) ⟨hS.1, ds_Mk_upd hS.2.1 (Or.inr ⟨i, by omega, rfl, rfl⟩), hS.2.2⟩ hK
theorem i_vc_undo {k : Nat} {u : SX} {v : SY} (I : i_Rel k u v) (hk : k + 5 ≤ 2560) : wpX_undo (fun r u' => wpY_undo (fun r' v' => r' = r ∧ i_Rel (k + 5) u' v') v) u := by
  have I' := i_up I
  obtain ⟨c, kc, L, ch, p, kp, q, kq, O, W, M, KO, KW, KM, CH, N, V, M', KN, KV, KM', LS, rfl, rfl, hL, hS, hK⟩ := I
  by_cases h : ch = 0
  · exact br_t h (br_t h ⟨rfl, I'⟩)
  · have hK' := hK.resolve_left h
    refine br_f h ?_
    refine dx_sl ?_
    refine dx_sm ?_
    refine dy_undo h ?_
    exact ⟨rfl, dz_mk (by omega) (ds_S_cp hK') (Or.inr (ds_S_cp hS))⟩
theorem i_vc_put {k : Nat} {u : SX} {v : SY} (I : i_Rel k u v) (hk : k + 5 ≤ 2560) (v1 : Int32) (v2 : Int32) : wpX_put (fun r u' => wpY_put (fun r' v' => r' = r ∧ i_Rel (k + 5) u' v') v v1 v2) u v1 v2 := by
  have I' := i_up I
  obtain ⟨c, kc, L, ch, p, kp, q, kq, O, W, M, KO, KW, KM, CH, N, V, M', KN, KV, KM', LS, rfl, rfl, hL, hS, hK⟩ := I
  have hc : c ≤ 60 := hS.1.1
  unfold wpX_put
  dsimp only
  rcases dz_place v1 hc with ⟨hX, hb⟩ | ⟨j, hj, rfl, hX⟩
  · refine hX _ (br_t rfl ?_)
    rcases hb with h | ⟨h, h2⟩
    · exact br_t h ⟨rfl, I'⟩
    · exact br_f h (br_t h2 ⟨rfl, I'⟩)
  · refine hX _ (br_f (by decide) ?_)
    have h0 : ¬ nI j < 0 := nI_pos (by omega)
    have h1 : ¬ nI c < nI j := nI_nlt hj (by omega)
    by_cases h60 : c = 60
    · subst h60
      exact br_f (by decide) (br_f h0 (br_f h1 (br_t rfl ⟨rfl, I'⟩)))
    · refine br_t (nI_lt (b := 60) (by omega) (by decide)) ?_
      refine dx_keep ?_
      refine dx_append (by omega) (hS.1.2.1 c (by omega)) ?_
      dsimp only
      rw [nI_pred]
      refine dx_shift (by omega) (by omega) ?_
      refine And.intro (vp_in_nI (by omega) (by decide)) (fun z ez => ?_)
      rw [nI_clamp (by omega)] at ez
      refine br_f h0 (br_f h1 (br_f (fun e => h60 ((nI_eq (b := 60) (by omega) (by decide)).mp e)) ?_))
      refine dy_save ?_
      intro l el
      rw [nI_1] at el
      subst el
      refine dy_insert hj (by omega) ?_
      refine And.intro rfl ?_
      have T := ds_T_shift (t := j) (ds_T_app (ds_T_setW (v := v2) hS.1 (Nat.le_refl c) (by omega)) (by omega) (v := v2) pk_us.symm (by omega)) (Nat.lt_succ_self c) (by omega)
      refine dz_mk (by omega) ⟨T, ds_Mk_shift (ds_Mk_app hS.2.1) (by omega) (by omega), Or.inr ⟨j, by omega, ez, ?_⟩⟩ (Or.inr (ds_S_cp (ds_S_mono hS (by omega))))
      show nI (L + 1) = upd N c (nI (L + 1)) (ds_sh c j j)
      rw [ds_sh_c1 rfl, pk_us]
end
section
section
variable {p kc kp ch : Int32} {O W M KO KW KM CH : Nat → Int32} {ln nw ch' oc od : Int32} {N V M' ON OV OM LS : Nat → Int32}
/-! find: both loops, one answer -/
theorem dz_find {c L r : Nat} {x : Int32} (T : ds_T c O W N V L) (hr : r ≤ c) : ∀ d k, k + d = c → ∃ res : Int32, (∀ post : Int32 → Prop, post res → ∀ n, d < n → wX_find_11 post x (nI r) (nI c) p kc kp ch O W M KO KW KM CH n (nI k)) ∧ (∀ post : Int32 → Prop, post res → ∀ n, d < n → wY_find_7 post x (nI r) (nI c) ln nw ch' oc od N V M' ON OV OM LS n (nI k)) := by
  obtain ⟨h1, h2, h3, h4, h5, h6⟩ := T
  intro d
  induction d with
  | zero =>
    intro k hk
    have h : nI c ≤ nI k := nI_le (by omega) (by omega)
    refine ⟨0, fun post hp n hn => ?_, fun post hp n hn => ?_⟩
    · obtain ⟨m, rfl⟩ := dx_pre hn
      exact br_t h hp
    · obtain ⟨m, rfl⟩ := dx_pre hn
      exact br_t h hp
  | succ d ih =>
    intro k hk
    have h : ¬ nI c ≤ nI k := nI_ge (by omega) (by omega)
    have hz : ¬ nI c = 0 := nI_ne0 (by omega) (by omega)
    have e : nI r + nI k - (nI r + nI k) / nI c * nI c = nI ((r + k) % c) := by
      rw [nI_add, pk_rem (by omega) (by omega) (by omega)]
    have hi : (r + k) % c < c := Nat.mod_lt _ (by omega)
    generalize (r + k) % c = i at e hi
    have hin : vp_in (nI i) 60 := vp_in_nI (by omega) (by decide)
    have ec : (nI i).toNatClampNeg = i := nI_clamp (by omega)
    by_cases z : V i = x
    · refine ⟨nI i + 1, fun post hp n hn => ?_, fun post hp n hn => ?_⟩
      · obtain ⟨m, rfl⟩ := dx_pre hn
        refine br_f h ⟨hz, fun y ey => ?_⟩
        rw [e] at ey
        subst ey
        rw [ec]
        exact ⟨hin, h2 i (by omega), br_t ((h4 i hi).symm.trans z) hp⟩
      · obtain ⟨m, rfl⟩ := dx_pre hn
        refine br_f h ⟨hz, fun y ey => ?_⟩
        rw [e] at ey
        subst ey
        rw [ec]
        exact ⟨hin, br_t z hp⟩
    · obtain ⟨res, hX, hY⟩ := ih (k + 1) (by omega)
      refine ⟨res, fun post hp n hn => ?_, fun post hp n hn => ?_⟩
      · obtain ⟨m, rfl⟩ := dx_pre hn
        refine br_f h ⟨hz, fun y ey => ?_⟩
        rw [e] at ey
        subst ey
        rw [ec]
        refine ⟨hin, h2 i (by omega), br_f (fun w => z ((h4 i hi).trans w)) (fun y ey => ?_)⟩
        subst ey
        rw [nI_1]
        exact hX post hp m (by omega)
      · obtain ⟨m, rfl⟩ := dx_pre hn
        refine br_f h ⟨hz, fun y ey => ?_⟩
        rw [e] at ey
        subst ey
        rw [ec]
        refine ⟨hin, br_f z (fun y ey => ?_)⟩
        subst ey
        rw [nI_1]
        exact hY post hp m (by omega)
/-! replace: both loops, one count, related states -/
theorem dz_rep {c L e : Nat} {x y : Int32} (he : e ≤ c) (hc : c ≤ 60) : ∀ d i n (p q : Int32) (W V : Nat → Int32), i + d = e → ds_T c O W N V L → ds_mr c O N p q → ∃ (n' : Nat) (p' q' : Int32) (W' V' : Nat → Int32), ds_T c O W' N V' L ∧ ds_mr c O N p' q' ∧
    (∀ post : Int32 → SX → Prop, post (nI n') (nI c, p', kc, kp, ch, O, W', M, KO, KW, KM, CH) → ∀ m, d < m → wX_replace_23 post (nI e) x y (nI c) kc kp ch m (nI n) (nI i) p O W M KO KW KM CH) ∧
    (∀ post : Int32 → SY → Prop, post (nI n') (nI c, ln, q', ch', oc, od, N, V', M', ON, OV, OM, LS) → ∀ m, d < m → wY_replace_23 post (nI e) x y (nI c) ln ch' oc od m (nI n) (nI i) q N V M' ON OV OM LS) := by
  intro d
  induction d with
  | zero =>
    intro i n p q W V hi T hm
    have h : nI e ≤ nI i := nI_le (by omega) (by omega)
    refine ⟨n, p, q, W, V, T, hm, fun post hp m hm => ?_, fun post hp m hm => ?_⟩
    · obtain ⟨m, rfl⟩ := dx_pre hm
      exact br_t h hp
    · obtain ⟨m, rfl⟩ := dx_pre hm
      exact br_t h hp
  | succ d ih =>
    intro i n p q W V hi T hm
    have h : ¬ nI e ≤ nI i := nI_ge (by omega) (by omega)
    have hin : vp_in (nI i) 60 := vp_in_nI (by omega) (by decide)
    have ec : (nI i).toNatClampNeg = i := nI_clamp (by omega)
    have hO : vp_in (O i) 60 := T.2.1 i (by omega)
    have hV : V i = W (O i).toNatClampNeg := T.2.2.2.1 i (by omega)
    by_cases z : V i = x
    · obtain ⟨n', p', q', W', V', T', hm', hX, hY⟩ := ih (i + 1) (n + 1) (O i) (N i) (upd W (O i).toNatClampNeg y) (upd V i y) (by omega) (ds_T_rep T (by omega)) (Or.inr ⟨i, by omega, rfl, rfl⟩)
      refine ⟨n', p', q', W', V', T', hm', fun post hp m hm => ?_, fun post hp m hm => ?_⟩
      · obtain ⟨m, rfl⟩ := dx_pre hm
        refine br_f h ⟨hin, fun s es => ?_⟩
        rw [ec] at es
        subst es
        refine ⟨hO, br_t (hV.symm.trans z) ⟨hO, fun A eA a ea b eb => ?_⟩⟩
        subst eA ea eb
        rw [nI_1, nI_1]
        exact hX post hp m (by omega)
      · obtain ⟨m, rfl⟩ := dx_pre hm
        refine br_f h ⟨hin, ?_⟩
        rw [ec]
        refine br_t z ⟨hin, fun A eA => ⟨hin, fun s es a ea b eb => ?_⟩⟩
        subst eA es ea eb
        rw [nI_1, nI_1]
        exact hY post hp m (by omega)
    · obtain ⟨n', p', q', W', V', T', hm', hX, hY⟩ := ih (i + 1) n p q W V (by omega) T hm
      refine ⟨n', p', q', W', V', T', hm', fun post hp m hm => ?_, fun post hp m hm => ?_⟩
      · obtain ⟨m, rfl⟩ := dx_pre hm
        refine br_f h ⟨hin, fun s es => ?_⟩
        rw [ec] at es
        subst es
        refine ⟨hO, br_f (fun w => z (hV.trans w)) (fun b eb => ?_)⟩
        subst eb
        rw [nI_1]
        exact hX post hp m (by omega)
      · obtain ⟨m, rfl⟩ := dx_pre hm
        refine br_f h ⟨hin, ?_⟩
        rw [ec]
        refine br_f z (fun b eb => ?_)
        subst eb
        rw [nI_1]
        exact hY post hp m (by omega)
end
theorem i_vc_find {k : Nat} {u : SX} {v : SY} (I : i_Rel k u v) (hk : k + 5 ≤ 2560) (v1 : Int32) : wpX_find (fun r => wpY_find (fun r' => r' = r ∧ i_Rel (k + 5) u v) v v1) u v1 := by
  have I' := i_up I
  obtain ⟨c, kc, L, ch, p, kp, q, kq, O, W, M, KO, KW, KM, CH, N, V, M', KN, KV, KM', LS, rfl, rfl, hL, hS, hK⟩ := I
  obtain ⟨r, hr, hX, hY⟩ := dz_num hS.1 (by omega) hS.2.2
  obtain ⟨res, fX, fY⟩ := dz_find (x := v1) hS.1 hr c 0 (by omega)
  unfold wpX_find
  dsimp only
  refine hX _ ⟨c + 1, fX _ ?_ (c + 1) (by omega)⟩
  unfold wpY_find wpY_present
  dsimp only
  refine hY (fun r_1 => ∃ n7 : Nat, wY_find_7 (fun r' => r' = res ∧ i_Rel (k + 5) _ _) v1 r_1 _ _ _ _ _ _ _ _ _ _ _ _ _ n7 0) ⟨c + 1, fY _ ⟨rfl, I'⟩ (c + 1) (by omega)⟩
theorem i_vc_replace {k : Nat} {u : SX} {v : SY} (I : i_Rel k u v) (hk : k + 5 ≤ 2560) (v1 : Int32) (v2 : Int32) (v3 : Int32) (v4 : Int32) : wpX_replace (fun r u' => wpY_replace (fun r' v' => r' = r ∧ i_Rel (k + 5) u' v') v v1 v2 v3 v4) u v1 v2 v3 v4 := by
  have I' := i_up I
  obtain ⟨c, kc, L, ch, p, kp, q, kq, O, W, M, KO, KW, KM, CH, N, V, M', KN, KV, KM', LS, rfl, rfl, hL, hS, hK⟩ := I
  have hc : c ≤ 60 := hS.1.1
  unfold wpX_replace
  dsimp only
  rcases dz_range v1 v2 hc with ⟨hX, hY⟩ | ⟨a, s, hs, has, rfl, rfl, hX, hY⟩
  · refine hX _ (br_t rfl ?_)
    unfold wpY_replace
    dsimp only
    exact hY _ (br_f (by decide) ⟨rfl, I'⟩)
  · obtain ⟨n', p', q', W', V', T', hm', rX, rY⟩ := dz_rep (kc := nI c) (kp := p) (ch := 1) (M := M) (KO := ds_cp 60 O KO) (KW := ds_cp 60 W KW) (KM := ds_cp 4 M KM) (CH := CH) (ln := nI L) (ch' := 1) (oc := nI c) (od := q) (M' := M') (ON := ds_cp 60 N KN) (OV := ds_cp 60 V KV) (OM := ds_cp 4 M' KM') (LS := LS) (x := v3) (y := v4) has hc s a 0 p q W V rfl hS.1 hS.2.2
    refine hX _ (br_f (by decide) ?_)
    refine dx_keep ?_
    intro y ey
    rw [nI_pred] at ey
    subst ey
    refine ⟨s + 1, rX _ ?_ (s + 1) (by omega)⟩
    unfold wpY_replace
    dsimp only
    refine hY _ (br_t rfl ?_)
    refine dy_save ?_
    intro y ey
    rw [nI_pred] at ey
    subst ey
    refine ⟨s + 1, rY _ ?_ (s + 1) (by omega)⟩
    exact ⟨rfl, dz_mk (by omega) ⟨T', hS.2.1, hm'⟩ (Or.inr (ds_S_cp hS))⟩
/-! remove -/
theorem ds_rm {c L a s : Nat} {O W M N V M' : Nat → Int32} (T : ds_T c O W N V L) (hM : ds_Mk c O N M M') (hL : L < 2 ^ 31) (hs : a + s ≤ c) : ∀ k, k ≤ s → ds_T (c - k) (ds_rmO a c k O) W (ds_rnN a c k N) (ds_rnN a c k V) L ∧ ds_Mk (c - k) (ds_rmO a c k O) (ds_rnN a c k N) (ds_rmM a c O k M) (ds_rnM a c N k M') := by
  intro k
  induction k with
  | zero => exact fun _ => ⟨T, hM⟩
  | succ k ih =>
    intro hk
    obtain ⟨T1, M1⟩ := ih (by omega)
    have e : c - (k + 1) = c - k - 1 := by omega
    simp only [ds_rmO, ds_rnN, ds_rmM, ds_rnM]
    rw [e]
    exact ⟨ds_T_drop T1 (by omega), ds_Mk_drop T1 hL M1 (by omega)⟩
/-- the present line after a removal at place a that leaves c lines -/
def ds_af (c a : Nat) (e : Int32) (A : Nat → Int32) : Int32 := if c = 0 then e else if c < a + 1 then A (c - 1) else A a
theorem ds_af_mr {c a : Nat} {O N : Nat → Int32} (h : a ≤ c) : ds_mr c O N (ds_af c a (-1) O) (ds_af c a 0 N) := by
  unfold ds_af
  by_cases h0 : c = 0
  · rw [if_pos h0, if_pos h0]
    exact Or.inl ⟨rfl, rfl⟩
  · by_cases h1 : c < a + 1
    · rw [if_neg h0, if_neg h0, if_pos h1, if_pos h1]
      exact Or.inr ⟨c - 1, by omega, rfl, rfl⟩
    · rw [if_neg h0, if_neg h0, if_neg h1, if_neg h1]
      exact Or.inr ⟨a, by omega, rfl, rfl⟩
section
variable {p kc kp ch : Int32} {O W M KO KW KM CH : Nat → Int32} {ln nw ch' oc od : Int32} {N V M' ON OV OM LS : Nat → Int32}
theorem dx_rmx {post : Int32 → SX → Prop} {c a s : Nat} (hc : c ≤ 60) (ha : a < 60) (hs : s ≤ 60) (hp : post (nI s) (nI c, ds_af c a (-1) O, kc, kp, ch, O, W, M, KO, KW, KM, CH)) (m : Nat) : wX_remove_24 post (nI (a + 1)) (nI s) (m + 1) (nI s) (nI c) p kc kp ch O W M KO KW KM CH := by
  refine br_t (nI_le (Nat.le_refl _) (by omega)) ?_
  unfold ds_af at hp
  by_cases h0 : c = 0
  · subst h0
    rw [if_pos rfl] at hp
    exact br_t (nI_lt (by omega) (by omega)) (dx_last_0 hp)
  · rw [if_neg h0] at hp
    by_cases h1 : c < a + 1
    · rw [if_pos h1] at hp
      refine br_t (nI_lt h1 (by omega)) ?_
      obtain ⟨b, rfl⟩ : ∃ b, c = b + 1 := ⟨c - 1, by omega⟩
      exact dx_last_s (by omega) hp
    · rw [if_neg h1] at hp
      refine br_f (nI_nlt (by omega) (by omega)) ?_
      rw [nI_pred, nI_clamp (by omega)]
      refine ⟨vp_in_nI ha (by decide), fun f ef => ?_⟩
      subst ef
      exact hp
theorem dy_rmx {post : Int32 → SY → Prop} {c a s : Nat} (hc : c ≤ 60) (ha : a < 60) (hs : s ≤ 60) (hs0 : 0 < s) (hp : post (nI s) (nI c, ln, ds_af c a 0 N, ch', oc, od, N, V, M', ON, OV, OM, LS)) (m : Nat) : wY_remove_17 post (nI (a + 1)) (nI (a + s)) (m + 1) (nI (a + 1 + s)) (nI c) ln nw ch' oc od N V M' ON OV OM LS := by
  have e : nI (a + s) - nI (a + 1) + 1 = nI s := by
    rw [pk_sub (by omega), nI_1]
    exact congrArg nI (by omega)
  refine br_t (nI_lt (by omega) (by omega)) ?_
  rw [e]
  unfold ds_af at hp
  by_cases h0 : c = 0
  · subst h0
    rw [if_pos rfl] at hp
    exact br_t rfl hp
  · rw [if_neg h0] at hp
    refine br_f (nI_ne0 (by omega) (by omega)) ?_
    by_cases h1 : c < a + 1
    · rw [if_pos h1] at hp
      refine br_t (nI_lt h1 (by omega)) ?_
      obtain ⟨b, rfl⟩ : ∃ b, c = b + 1 := ⟨c - 1, by omega⟩
      rw [nI_pred, nI_clamp (by omega)]
      refine ⟨vp_in_nI (by omega) (by decide), fun f ef => ?_⟩
      subst ef
      exact hp
    · rw [if_neg h1] at hp
      refine br_f (nI_nlt (by omega) (by omega)) ?_
      rw [nI_pred, nI_clamp (by omega)]
      refine ⟨vp_in_nI ha (by decide), fun f ef => ?_⟩
      subst ef
      exact hp
end
theorem i_vc_remove {k : Nat} {u : SX} {v : SY} (I : i_Rel k u v) (hk : k + 5 ≤ 2560) (v1 : Int32) (v2 : Int32) : wpX_remove (fun r u' => wpY_remove (fun r' v' => r' = r ∧ i_Rel (k + 5) u' v') v v1 v2) u v1 v2 := by
  have I' := i_up I
  obtain ⟨c, kc, L, ch, p, kp, q, kq, O, W, M, KO, KW, KM, CH, N, V, M', KN, KV, KM', LS, rfl, rfl, hL, hS, hK⟩ := I
  have hc : c ≤ 60 := hS.1.1
  unfold wpX_remove
  dsimp only
  rcases dz_range v1 v2 hc with ⟨hX, hY⟩ | ⟨a, s, hs, has, rfl, rfl, hX, hY⟩
  · refine hX _ (br_t rfl ?_)
    unfold wpY_remove
    dsimp only
    exact hY _ (br_f (by decide) ⟨rfl, I'⟩)
  · have e : nI (a + s) - nI (a + 1) + 1 = nI s := by
      rw [pk_sub (by omega), nI_1]
      exact congrArg nI (by omega)
    obtain ⟨T', hM'⟩ := ds_rm hS.1 hS.2.1 (by omega) has s (Nat.le_refl s)
    refine hX _ (br_f (by decide) ?_)
    refine dx_keep ?_
    intro y ey
    rw [e] at ey
    subst ey
    refine ⟨s + 1, dx_rm24 (O := O) (M := M) has hc (dx_rmx (by omega) (by omega) (by omega) ?_) s 0 (by omega) (s + 1) (by omega)⟩
    unfold wpY_remove
    dsimp only
    refine hY _ (br_t rfl ?_)
    refine dy_save ?_
    refine ⟨s + 1, dy_rm17 (N := N) (V := V) (M := M') has hc (dy_rmx (by omega) (by omega) (by omega) hs ?_) s 0 (by omega) (s + 1) (by omega)⟩
    exact ⟨rfl, dz_mk (by omega) ⟨T', hM', ds_af_mr (by omega)⟩ (Or.inr (ds_S_cp hS))⟩
/-! move -/
theorem ds_mvT {c L s : Nat} {g h : Nat → Nat} {O W M N V M' : Nat → Int32} (T : ds_T c O W N V L) (hM : ds_Mk c O N M M') (hg : ∀ k, k < s → g k < c) (hh : ∀ k, k < s → h k < c) : ∀ k, k ≤ s → ds_T c (ds_mv g h k O) W (ds_mv g h k N) (ds_mv g h k V) L ∧ ds_Mk c (ds_mv g h k O) (ds_mv g h k N) M M' := by
  intro k
  induction k with
  | zero => exact fun _ => ⟨T, hM⟩
  | succ k ih =>
    intro hk
    obtain ⟨T1, M1⟩ := ih (by omega)
    exact ⟨ds_T_shift T1 (hg k (by omega)) (hh k (by omega)), ds_Mk_shift M1 (hg k (by omega)) (hh k (by omega))⟩
theorem ds_mvU_at (A : Nat → Int32) {a t s : Nat} (ht : t ≤ a) : ∀ k, k ≤ s → ds_mv (fun k => a + k) (fun k => t + k) k A (a + s) = A (a + s) := by
  intro k
  induction k with
  | zero => exact fun _ => rfl
  | succ k ih =>
    intro hk
    show ds_mv (fun k => a + k) (fun k => t + k) k A (ds_sh (a + k) (t + k) (a + s)) = _
    rw [ds_sh_c4 (by omega) (by omega) (by omega)]
    exact ih (by omega)
theorem ds_mvU_end (A : Nat → Int32) {a t s : Nat} (ht : t ≤ a) : ds_mv (fun k => a + k) (fun k => t + k) (s + 1) A (t + s) = A (a + s) := by
  show ds_mv (fun k => a + k) (fun k => t + k) s A (ds_sh (a + s) (t + s) (t + s)) = _
  rw [ds_sh_c1 rfl]
  exact ds_mvU_at A ht s (Nat.le_refl s)
theorem ds_mvD_at (A : Nat → Int32) {a t s : Nat} (ht : a + s ≤ t) : ∀ k, k ≤ s → ds_mv (fun _ => a) (fun _ => t) k A (a + (s - k)) = A (a + s) := by
  intro k
  induction k with
  | zero => exact fun _ => rfl
  | succ k ih =>
    intro hk
    show ds_mv (fun _ => a) (fun _ => t) k A (ds_sh a t (a + (s - (k + 1)))) = _
    rw [ds_sh_c2 (by omega) (by omega), show a + (s - (k + 1)) + 1 = a + (s - k) from by omega]
    exact ih (by omega)
theorem ds_mvD_end (A : Nat → Int32) {a t s : Nat} (ht : a + s ≤ t) : ds_mv (fun _ => a) (fun _ => t) (s + 1) A t = A (a + s) := by
  show ds_mv (fun _ => a) (fun _ => t) s A (ds_sh a t t) = _
  rw [ds_sh_c1 rfl]
  have h := ds_mvD_at A ht s (Nat.le_refl s)
  rw [Nat.sub_self] at h
  exact h
section
variable {ln nw ch' oc od : Int32} {N V M' ON OV OM LS : Nat → Int32}
theorem dy_mvx {post : Int32 → SY → Prop} {x x3 : Int32} {c a s i : Nat} (hs : 0 < s) (hb : a + s ≤ 60) (hc : c ≤ 60) (hi : i < c) (e : N i = x) (hne : ∀ j, j < i → N j ≠ x) (hp : post (nI (i + 1)) (nI c, ln, x, ch', oc, od, N, V, M', ON, OV, OM, LS)) (m : Nat) : wY_move_50 post (nI (a + 1)) (nI (a + s)) x3 x (m + 1) (nI s) (nI c) ln nw ch' oc od N V M' ON OV OM LS := by
  have h0 : nI (a + s) - nI (a + 1) < nI s := by
    rw [pk_sub (by omega)]
    exact nI_lt (by omega) (by omega)
  refine br_t h0 (dy_pl_at hc hi e hne ?_)
  show post (nI i + 1) _
  rw [nI_1]
  exact hp
end
theorem i_vc_move {k : Nat} {u : SX} {v : SY} (I : i_Rel k u v) (hk : k + 5 ≤ 2560) (v1 : Int32) (v2 : Int32) (v3 : Int32) : wpX_move (fun r u' => wpY_move (fun r' v' => r' = r ∧ i_Rel (k + 5) u' v') v v1 v2 v3) u v1 v2 v3 := by
  have I' := i_up I
  obtain ⟨c, kc, L, ch, p, kp, q, kq, O, W, M, KO, KW, KM, CH, N, V, M', KN, KV, KM', LS, rfl, rfl, hL, hS, hK⟩ := I
  have hc : c ≤ 60 := hS.1.1
  unfold wpX_move
  dsimp only
  rcases dz_range v1 v2 hc with ⟨hX, hY⟩ | ⟨a, s, hs, has, rfl, rfl, hX, hY⟩
  · refine hX _ (br_t rfl ?_)
    unfold wpY_move
    dsimp only
    exact hY _ (br_f (by decide) ⟨rfl, I'⟩)
  · refine hX _ (br_f (by decide) ?_)
    rcases dz_place v3 hc with ⟨hX, hb⟩ | ⟨j, hj, rfl, hX⟩
    · refine hX _ (br_t rfl ?_)
      unfold wpY_move
      dsimp only
      refine hY _ (br_t rfl ?_)
      rcases hb with h | ⟨h, h2⟩
      · exact br_t h ⟨rfl, I'⟩
      · exact br_f h (br_t h2 ⟨rfl, I'⟩)
    · refine hX _ (br_f (by decide) ?_)
      have h0 : ¬ nI j < 0 := nI_pos (by omega)
      have h1 : ¬ nI c < nI j := nI_nlt hj (by omega)
      obtain ⟨s, rfl⟩ : ∃ s', s = s' + 1 := ⟨s - 1, by omega⟩
      by_cases hU : j < a + 1
      · -- before the range
        have h2 : nI j < nI (a + 1) := nI_lt hU (by omega)
        obtain ⟨T', hM'⟩ := ds_mvT (s := s + 1) (g := fun k => a + k) (h := fun k => j + k) hS.1 hS.2.1 (fun k hk => by omega) (fun k hk => by omega) (s + 1) (Nat.le_refl _)
        refine br_t h2 ?_
        refine dx_keep ?_
        refine dx_mbU (by omega) (by omega) (by omega) (by omega) ?_
        dsimp only
        rw [show j + (s + 1) = j + s + 1 from rfl, nI_pred, nI_clamp (by omega)]
        refine ⟨vp_in_nI (by omega) (by decide), fun z ez => ?_⟩
        subst ez
        unfold wpY_move
        dsimp only
        refine hY _ (br_t rfl (br_f h0 (br_f h1 (br_t h2 ?_))))
        refine dy_save ?_
        dsimp only
        rw [show a + (s + 1) = a + s + 1 from rfl, nI_pred, nI_clamp (by omega)]
        refine ⟨vp_in_nI (by omega) (by decide), fun z ez => ?_⟩
        subst ez
        obtain ⟨c, rfl⟩ : ∃ c', c = c' + 1 := ⟨c - 1, by omega⟩
        refine ⟨s + 1 + 1, dy_mvU (N := N) (V := V) (by omega) (by omega) (by omega) (by omega) (dy_mvx (i := j + s) (by omega) (by omega) hc (by omega) (ds_mvU_end N (by omega)) (fun i hi e => ?_) ?_) (s + 1) 0 (by omega) (s + 1 + 1) (by omega)⟩
        · rw [← ds_mvU_end N (t := j) (s := s) (a := a) (by omega)] at e
          have := T'.2.2.2.2.2 i (j + s) (by omega) (by omega) e
          omega
        · exact ⟨rfl, dz_mk (by omega) ⟨T', hM', Or.inr ⟨j + s, by omega, rfl, (ds_mvU_end N (by omega)).symm⟩⟩ (Or.inr (ds_S_cp hS))⟩
      · have h2 : ¬ nI j < nI (a + 1) := nI_nlt (by omega) (by omega)
        refine br_f h2 ?_
        by_cases hD : a + (s + 1) ≤ j
        · -- behind the range
          have h3 : nI (a + (s + 1)) ≤ nI j := nI_le hD (by omega)
          obtain ⟨t, rfl⟩ : ∃ t, j = t + 1 := ⟨j - 1, by omega⟩
          obtain ⟨T', hM'⟩ := ds_mvT (s := s + 1) (g := fun _ => a) (h := fun _ => t) hS.1 hS.2.1 (fun k hk => by omega) (fun k hk => by omega) (s + 1) (Nat.le_refl _)
          refine br_t h3 ?_
          refine dx_keep ?_
          refine dx_mbD (by omega) (by omega) (by omega) ?_
          dsimp only
          rw [nI_pred, nI_clamp (by omega)]
          refine ⟨vp_in_nI (by omega) (by decide), fun z ez => ?_⟩
          subst ez
          unfold wpY_move
          dsimp only
          refine hY _ (br_t rfl (br_f h0 (br_f h1 (br_f h2 (br_t h3 ?_)))))
          refine dy_save ?_
          dsimp only
          rw [show a + (s + 1) = a + s + 1 from rfl, nI_pred, nI_clamp (by omega)]
          refine ⟨vp_in_nI (by omega) (by decide), fun z ez => ?_⟩
          subst ez
          obtain ⟨c, rfl⟩ : ∃ c', c = c' + 1 := ⟨c - 1, by omega⟩
          refine ⟨s + 1 + 1, dy_mvD (N := N) (V := V) (by omega) (by omega) (by omega) (by omega) (dy_mvx (i := t) (by omega) (by omega) hc (by omega) (ds_mvD_end N (by omega)) (fun i hi e => ?_) ?_) (s + 1) 0 (by omega) (s + 1 + 1) (by omega)⟩
          · rw [← ds_mvD_end N (t := t) (s := s) (a := a) (by omega)] at e
            have := T'.2.2.2.2.2 i t (by omega) (by omega) e
            omega
          · exact ⟨rfl, dz_mk (by omega) ⟨T', hM', Or.inr ⟨t, by omega, rfl, (ds_mvD_end N (by omega)).symm⟩⟩ (Or.inr (ds_S_cp hS))⟩
        · have h3 : ¬ nI (a + (s + 1)) ≤ nI j := nI_ge (by omega) (by omega)
          refine br_f h3 ?_
          unfold wpY_move
          dsimp only
          exact hY _ (br_t rfl (br_f h0 (br_f h1 (br_f h2 (br_f h3 ⟨rfl, I'⟩)))))
end
section
/-! copy: the component appends all copies, then shifts them; the reference inserts one by one -/
theorem ds_apT {c L a s : Nat} {O W N V : Nat → Int32} (T : ds_T c O W N V L) (has : a + s ≤ c) (hcs : c + s ≤ 60) : ∀ k, k ≤ s → ds_T c O (ds_apW O c a k W) N V L ∧ ∀ j, j < k → ds_apW O c a k W (O (c + j)).toNatClampNeg = V (a + j) := by
  intro k
  induction k with
  | zero => exact fun _ => ⟨T, fun j hj => by omega⟩
  | succ k ih =>
    intro hk
    obtain ⟨T1, h1⟩ := ih (by omega)
    refine ⟨ds_T_setW T1 (by omega) (by omega), fun j hj => ?_⟩
    show upd (ds_apW O c a k W) (O (c + k)).toNatClampNeg (ds_apW O c a k W (O (a + k)).toNatClampNeg) (O (c + j)).toNatClampNeg = V (a + j)
    by_cases z : j = k
    · rw [z, pk_us]
      exact (T1.2.2.2.1 (a + k) (by omega)).symm
    · rw [pk_un]
      · exact h1 j (by omega)
      · intro e
        have := T1.2.2.1 (c + j) (c + k) (by omega) (by omega) (ds_vin (T1.2.1 _ (by omega)) (T1.2.1 _ (by omega)) e)
        omega
theorem ds_ciT {c L t s : Nat} {F O W M N V M' : Nat → Int32} (T : ds_T c O W N V L) (hM : ds_Mk c O N M M') (ht : t ≤ c) (hcs : c + s ≤ 60) (hL : L + s < 2 ^ 31) (hF : ∀ j, j < s → F j = W (O (c + j)).toNatClampNeg) : ∀ k, k ≤ s → ds_T (c + k) (ds_mv (fun k => c + k) (fun k => t + k) k O) W (ds_ci c t (fun k => nI (L + k + 1)) k N) (ds_ci c t F k V) (L + k) ∧ ds_Mk (c + k) (ds_mv (fun k => c + k) (fun k => t + k) k O) (ds_ci c t (fun k => nI (L + k + 1)) k N) M M' ∧ ∀ j, k ≤ j → ds_mv (fun k => c + k) (fun k => t + k) k O (c + j) = O (c + j) := by
  intro k
  induction k with
  | zero => exact fun _ => ⟨T, hM, fun j hj => rfl⟩
  | succ k ih =>
    intro hk
    obtain ⟨T1, M1, h1⟩ := ih (by omega)
    have hv : F k = W (ds_mv (fun k => c + k) (fun k => t + k) k O (c + k)).toNatClampNeg := by
      rw [h1 k (Nat.le_refl k)]
      exact hF k (by omega)
    have T2 := ds_T_app T1 (by omega) hv (by omega)
    have M2 := ds_Mk_app (n := nI (L + k + 1)) M1
    refine ⟨ds_T_shift (a := c + k) (t := t + k) T2 (by omega) (by omega), ds_Mk_shift (a := c + k) (t := t + k) M2 (by omega) (by omega), fun j hj => ?_⟩
    show ds_mv (fun k => c + k) (fun k => t + k) k O (ds_sh (c + k) (t + k) (c + j)) = _
    rw [ds_sh_c4 (by omega) (by omega) (by omega)]
    exact h1 j (by omega)
theorem ds_ci_end (c t s : Nat) (F A : Nat → Int32) : ds_ci c t F (s + 1) A (t + s) = F s := by
  show upd (ds_ci c t F s A) (c + s) (F s) (ds_sh (c + s) (t + s) (t + s)) = _
  rw [ds_sh_c1 rfl, pk_us]
theorem i_vc_copy {k : Nat} {u : SX} {v : SY} (I : i_Rel k u v) (hk : k + 5 ≤ 2560) (v1 : Int32) (v2 : Int32) (v3 : Int32) : wpX_copy (fun r u' => wpY_copy (fun r' v' => r' = r ∧ i_Rel (k + 5) u' v') v v1 v2 v3) u v1 v2 v3 := by
  have I' := i_up I
  obtain ⟨c, kc, L, ch, p, kp, q, kq, O, W, M, KO, KW, KM, CH, N, V, M', KN, KV, KM', LS, rfl, rfl, hL, hS, hK⟩ := I
  have hc : c ≤ 60 := hS.1.1
  unfold wpX_copy
  dsimp only
  rcases dz_range v1 v2 hc with ⟨hX, hY⟩ | ⟨a, s, hs, has, rfl, rfl, hX, hY⟩
  · refine hX _ (br_t rfl ?_)
    unfold wpY_copy
    dsimp only
    exact hY _ (br_f (by decide) ⟨rfl, I'⟩)
  · refine hX _ (br_f (by decide) ?_)
    rcases dz_place v3 hc with ⟨hX, hb⟩ | ⟨j, hj, rfl, hX⟩
    · refine hX _ (br_t rfl ?_)
      unfold wpY_copy
      dsimp only
      refine hY _ (br_t rfl ?_)
      rcases hb with h | ⟨h, h2⟩
      · exact br_t h ⟨rfl, I'⟩
      · exact br_f h (br_t h2 ⟨rfl, I'⟩)
    · refine hX _ (br_f (by decide) ?_)
      have h0 : ¬ nI j < 0 := nI_pos (by omega)
      have h1 : ¬ nI c < nI j := nI_nlt hj (by omega)
      have e : nI (a + s) - nI (a + 1) + 1 = nI s := by
        rw [pk_sub (by omega), nI_1]
        exact congrArg nI (by omega)
      have e2 : nI c + nI (a + s) - nI (a + 1) + 1 = nI (c + s) := by
        rw [nI_add, pk_sub (by omega), nI_1]
        exact congrArg nI (by omega)
      intro y ey
      rw [e] at ey
      subst ey
      rw [nI_add c s]
      by_cases h60 : c + s ≤ 60
      · have hb : nI (c + s) ≤ 60 := nI_le (b := 60) h60 (by decide)
        obtain ⟨T1, hap⟩ := ds_apT hS.1 has h60 s (Nat.le_refl s)
        obtain ⟨T', hM', _⟩ := ds_ciT (F := fun j => V (a + j)) T1 hS.2.1 hj h60 (by omega) (fun j hj => (hap j hj).symm) s (Nat.le_refl s)
        refine br_t hb ?_
        refine dx_keep ?_
        refine ⟨s + 1, dx_cp53 (O := O) (W := W) hS.1.2.1 has h60 (fun m => ?_) s 0 (by omega) (s + 1) (by omega)⟩
        refine br_t (nI_le (Nat.le_refl _) (by omega)) ?_
        rw [nI_1 c, nI_add c s]
        refine dx_mbU hs (by omega) (by omega) hj ?_
        obtain ⟨s, rfl⟩ : ∃ s', s = s' + 1 := ⟨s - 1, by omega⟩
        dsimp only
        rw [show j + (s + 1) = j + s + 1 from rfl, nI_pred, nI_clamp (by omega)]
        refine ⟨vp_in_nI (by omega) (by decide), fun z ez => ?_⟩
        subst ez
        unfold wpY_copy
        dsimp only
        refine hY _ (br_t rfl (br_f h0 (br_f h1 ?_)))
        rw [e2]
        refine br_t hb ?_
        refine dy_save ?_
        dsimp only
        refine ⟨s + 1 + 1, dy_cp45 (LS := LS) (by omega) ⟨s + 1 + 1, dy_cp78 (F := fun j => V (a + j)) (N := N) (V := V) (LS := ds_cp (s + 1) (fun j => V (a + j)) LS) hs (by omega) hj h60 (fun i hi => ds_cp_lt hi) ?_ (s + 1) 0 (by omega) (s + 1 + 1) (by omega)⟩ (s + 1) 0 (by omega) (s + 1 + 1) (by omega)⟩
        exact ⟨rfl, dz_mk (by omega) ⟨T', hM', Or.inr ⟨j + s, by omega, rfl, (ds_ci_end c j s (fun k => nI (L + k + 1)) N).symm⟩⟩ (Or.inr (ds_S_cp (ds_S_mono hS (by omega))))⟩
      · have hb : ¬ nI (c + s) ≤ 60 := nI_ge (a := 60) (by omega) (by omega)
        refine br_f hb ?_
        unfold wpY_copy
        dsimp only
        refine hY _ (br_t rfl (br_f h0 (br_f h1 ?_)))
        rw [e2]
        exact br_f hb ⟨rfl, I'⟩
end
section
/-! all: the lines are chosen, then treated one by one -/
def ds_ch (O N : Nat → Int32) (i n : Nat) (CH LS : Nat → Int32) : Prop := n ≤ i ∧ ∃ g : Nat → Nat, (∀ j, j < n → g j < i ∧ CH j = O (g j) ∧ LS j = N (g j)) ∧ (∀ j j', j < j' → j' < n → g j < g j')
theorem ds_ch_s {O N CH LS : Nat → Int32} {i n : Nat} (h : ds_ch O N i n CH LS) : ds_ch O N (i + 1) n CH LS := by
  obtain ⟨h1, g, h2, h3⟩ := h
  exact ⟨by omega, g, fun j hj => ⟨by have := (h2 j hj).1; omega, (h2 j hj).2⟩, h3⟩
theorem ds_ch_a {O N CH LS : Nat → Int32} {i n : Nat} (h : ds_ch O N i n CH LS) : ds_ch O N (i + 1) (n + 1) (upd CH n (O i)) (upd LS n (N i)) := by
  obtain ⟨h1, g, h2, h3⟩ := h
  refine ⟨by omega, fun j => if j = n then i else g j, fun j hj => ?_, fun j j' hj hj' => ?_⟩
  · by_cases z : j = n
    · dsimp only
      rw [if_pos z, z, pk_us, pk_us]
      exact ⟨by omega, rfl, rfl⟩
    · dsimp only
      rw [if_neg z, pk_un z, pk_un z]
      exact ⟨by have := (h2 j (by omega)).1; omega, (h2 j (by omega)).2⟩
  · dsimp only
    rw [if_neg (show ¬ j = n by omega)]
    by_cases z : j' = n
    · rw [if_pos z]
      exact (h2 j (by omega)).1
    · rw [if_neg z]
      exact h3 j j' hj (by omega)
section
variable {p kc kp ch : Int32} {O W M KO KW KM CH : Nat → Int32} {ln nw ch' oc od : Int32} {N V M' ON OV OM LS : Nat → Int32}
theorem dz_choose {c L : Nat} {x x2 : Int32} (T : ds_T c O W N V L) : ∀ d i n (CH LS : Nat → Int32), i + d = c → ds_ch O N i n CH LS → ∃ (n' : Nat) (CH' LS' : Nat → Int32), ds_ch O N c n' CH' LS' ∧
    (∀ post : Int32 → SX → Prop, post (nI n') (nI c, p, kc, kp, ch, O, W, M, KO, KW, KM, CH') → ∀ f, d < f → wX_chooseLines_4 post x (nI c) p kc kp ch f (nI n) (nI i) O W M KO KW KM CH) ∧
    (∀ post : Int32 → SY → Prop, (∃ n65, wY_all_65 post x2 (nI n') n65 0 (nI c) ln nw ch' oc od N V M' ON OV OM LS') → ∀ f, d < f → wY_all_20 post x x2 (nI c) ln nw ch' oc od f (nI n) (nI i) N V M' ON OV OM LS) := by
  obtain ⟨h1, h2, h3, h4, h5, h6⟩ := T
  intro d
  induction d with
  | zero =>
    intro i n CH LS hi hc
    obtain rfl : i = c := by omega
    have h : nI i ≤ nI i := nI_le (Nat.le_refl _) (by omega)
    refine ⟨n, CH, LS, hc, fun post hp f hf => ?_, fun post hp f hf => ?_⟩
    · obtain ⟨m, rfl⟩ := dx_pre hf
      exact br_t h hp
    · obtain ⟨m, rfl⟩ := dx_pre hf
      exact br_t h hp
  | succ d ih =>
    intro i n CH LS hi hc
    have h : ¬ nI c ≤ nI i := nI_ge (by omega) (by omega)
    have hin : vp_in (nI i) 60 := vp_in_nI (by omega) (by decide)
    have ec : (nI i).toNatClampNeg = i := nI_clamp (by omega)
    have hn : n ≤ i := hc.1
    have hnn : vp_in (nI n) 60 := vp_in_nI (by omega) (by decide)
    have en : (nI n).toNatClampNeg = n := nI_clamp (by omega)
    have hO : vp_in (O i) 60 := h2 i (by omega)
    have hV : V i = W (O i).toNatClampNeg := h4 i (by omega)
    by_cases z : V i = x
    · obtain ⟨n', CH', LS', hc', hX, hY⟩ := ih (i + 1) (n + 1) _ _ (by omega) (ds_ch_a hc)
      refine ⟨n', CH', LS', hc', fun post hp f hf => ?_, fun post hp f hf => ?_⟩
      · obtain ⟨m, rfl⟩ := dx_pre hf
        refine br_f h ?_
        rw [ec]
        refine ⟨hin, hO, br_t (hV.symm.trans z) ⟨hin, hnn, fun A eA a ea b eb => ?_⟩⟩
        subst eA ea eb
        rw [en, nI_1, nI_1]
        exact hX post hp m (by omega)
      · obtain ⟨m, rfl⟩ := dx_pre hf
        refine br_f h ?_
        rw [ec]
        refine ⟨hin, br_t z ⟨hin, hnn, fun A eA a ea b eb => ?_⟩⟩
        subst eA ea eb
        rw [en, nI_1, nI_1]
        exact hY post hp m (by omega)
    · obtain ⟨n', CH', LS', hc', hX, hY⟩ := ih (i + 1) n CH LS (by omega) (ds_ch_s hc)
      refine ⟨n', CH', LS', hc', fun post hp f hf => ?_, fun post hp f hf => ?_⟩
      · obtain ⟨m, rfl⟩ := dx_pre hf
        refine br_f h ?_
        rw [ec]
        refine ⟨hin, hO, br_f (fun w => z (hV.trans w)) (fun b eb => ?_)⟩
        subst eb
        rw [nI_1]
        exact hX post hp m (by omega)
      · obtain ⟨m, rfl⟩ := dx_pre hf
        refine br_f h ?_
        rw [ec]
        refine ⟨hin, br_f z (fun b eb => ?_)⟩
        subst eb
        rw [nI_1]
        exact hY post hp m (by omega)
/-! one line is treated: the component's walk, a theorem a kind -/
theorem dx_tr {post : SX → Prop} {b i : Nat} {k : Int32} (hb : b < 60) (hi : i ≤ b) (hne : ∀ j, j < i → O j ≠ O i) (H : (k < 0 → wpX_swapWithNext (fun u => match u with | (b0, b1, b2, b3, b4, b5, b6, b7, b8, b9, b10, b11) => post (b0, b1, b2, b3, b4, b5, b6, b7, b8, b9, b10, b11)) (nI (b + 1), p, kc, kp, ch, O, W, M, KO, KW, KM, CH) (nI i)) ∧ (¬ k < 0 → (3 < k → wpX_swapWithNext (fun u => match u with | (b0, b1, b2, b3, b4, b5, b6, b7, b8, b9, b10, b11) => post (b0, b1, b2, b3, b4, b5, b6, b7, b8, b9, b10, b11)) (nI (b + 1), p, kc, kp, ch, O, W, M, KO, KW, KM, CH) (nI i)) ∧ (¬ 3 < k → (k = 0 → wpX_dropLine (fun u => match u with | (b0, b1, b2, b3, b4, b5, b6, b7, b8, b9, b10, b11) => post (b0, b1, b2, b3, b4, b5, b6, b7, b8, b9, b10, b11)) (nI (b + 1), p, kc, kp, ch, O, W, M, KO, KW, KM, CH) (nI i)) ∧ (¬ k = 0 → (k = 1 → wpX_shiftLine (fun u => match u with | (b0, b1, b2, b3, b4, b5, b6, b7, b8, b9, b10, b11) => post (b0, b1, b2, b3, b4, b5, b6, b7, b8, b9, b10, b11)) (nI (b + 1), p, kc, kp, ch, O, W, M, KO, KW, KM, CH) (nI i) 0) ∧ (¬ k = 1 → (k = 2 → wpX_shiftLine (fun u => match u with | (b0, b1, b2, b3, b4, b5, b6, b7, b8, b9, b10, b11) => post (b0, b1, b2, b3, b4, b5, b6, b7, b8, b9, b10, b11)) (nI (b + 1), p, kc, kp, ch, O, W, M, KO, KW, KM, CH) (nI i) (nI (b + 1) - 1)) ∧ (¬ k = 2 → (k = 3 → wpX_doubleLine (fun u => match u with | (b0, b1, b2, b3, b4, b5, b6, b7, b8, b9, b10, b11) => post (b0, b1, b2, b3, b4, b5, b6, b7, b8, b9, b10, b11)) (nI (b + 1), p, kc, kp, ch, O, W, M, KO, KW, KM, CH) (nI i)) ∧ (¬ k = 3 → True))))))) : wpX_treatLine post (nI (b + 1), p, kc, kp, ch, O, W, M, KO, KW, KM, CH) (O i) k := by
  unfold wpX_treatLine
  dsimp only
  refine dx_num_at (by omega) (by omega : i < b + 1) rfl hne ?_
  intro y ey
  rw [nI_pred] at ey
  subst ey
  exact br_t (nI_pos' (by omega)) H
theorem dx_tr0 {post : SX → Prop} {b i : Nat} (hb : b < 60) (hi : i ≤ b) (hne : ∀ j, j < i → O j ≠ O i) (hp : post (nI b, p, kc, kp, ch, ds_sf O i b, W, ds_fg M (O i) (-1) 4, KO, KW, KM, CH)) : wpX_treatLine post (nI (b + 1), p, kc, kp, ch, O, W, M, KO, KW, KM, CH) (O i) (nI 0) := by
  refine dx_tr hb hi hne (br_f (by decide) (br_f (by decide) (br_t rfl ?_)))
  exact dx_drop hi hb hp
theorem dx_tr1 {post : SX → Prop} {b i : Nat} (hb : b < 60) (hi : i ≤ b) (hne : ∀ j, j < i → O j ≠ O i) (hp : post (nI (b + 1), p, kc, kp, ch, ds_sf O i 0, W, M, KO, KW, KM, CH)) : wpX_treatLine post (nI (b + 1), p, kc, kp, ch, O, W, M, KO, KW, KM, CH) (O i) (nI 1) := by
  refine dx_tr hb hi hne (br_f (by decide) (br_f (by decide) (br_f (by decide) (br_t rfl ?_))))
  exact dx_shift (t := 0) (by omega) (by omega) hp
theorem dx_tr2 {post : SX → Prop} {b i : Nat} (hb : b < 60) (hi : i ≤ b) (hne : ∀ j, j < i → O j ≠ O i) (hp : post (nI (b + 1), p, kc, kp, ch, ds_sf O i b, W, M, KO, KW, KM, CH)) : wpX_treatLine post (nI (b + 1), p, kc, kp, ch, O, W, M, KO, KW, KM, CH) (O i) (nI 2) := by
  refine dx_tr hb hi hne (br_f (by decide) (br_f (by decide) (br_f (by decide) (br_f (by decide) (br_t rfl ?_)))))
  rw [nI_pred]
  exact dx_shift (by omega) hb hp
theorem dx_tr3 {post : SX → Prop} {b i : Nat} (hb : b + 1 < 60) (hi : i ≤ b) (hne : ∀ j, j < i → O j ≠ O i) (hO : ∀ j, j < 60 → vp_in (O j) 60) (hp : post (nI (b + 2), p, kc, kp, ch, ds_sf O (b + 1) (i + 1), upd W (O (b + 1)).toNatClampNeg (W (O i).toNatClampNeg), M, KO, KW, KM, CH)) : wpX_treatLine post (nI (b + 1), p, kc, kp, ch, O, W, M, KO, KW, KM, CH) (O i) (nI 3) := by
  refine dx_tr (by omega) hi hne (br_f (by decide) (br_f (by decide) (br_f (by decide) (br_f (by decide) (br_f (by decide) (br_t rfl ?_))))))
  unfold wpX_doubleLine
  dsimp only
  refine br_f (nI_ge (b := 60) (by omega) (by decide)) ?_
  rw [nI_clamp (by omega)]
  refine ⟨vp_in_nI (by omega) (by decide), hO i (by omega), ?_⟩
  refine dx_append hb (hO _ hb) ?_
  dsimp only
  rw [nI_pred, nI_1 i]
  exact dx_shift (by omega) (by omega) hp
theorem dx_tr3f {post : SX → Prop} {i : Nat} (hi : i ≤ 59) (hne : ∀ j, j < i → O j ≠ O i) (hp : post (nI 60, p, kc, kp, ch, O, W, M, KO, KW, KM, CH)) : wpX_treatLine post (nI (59 + 1), p, kc, kp, ch, O, W, M, KO, KW, KM, CH) (O i) (nI 3) := by
  refine dx_tr (by omega) hi hne (br_f (by decide) (br_f (by decide) (br_f (by decide) (br_f (by decide) (br_f (by decide) (br_t rfl ?_))))))
  unfold wpX_doubleLine
  dsimp only
  exact br_t (by decide) hp
theorem dx_tr4 {post : SX → Prop} {b i : Nat} (hb : b < 60) (hi : i < b) (hne : ∀ j, j < i → O j ≠ O i) (hp : post (nI (b + 1), p, kc, kp, ch, ds_sf O i (i + 1), W, M, KO, KW, KM, CH)) : wpX_treatLine post (nI (b + 1), p, kc, kp, ch, O, W, M, KO, KW, KM, CH) (O i) (nI 4) := by
  refine dx_tr hb (by omega) hne (br_f (by decide) (br_t (by decide) ?_))
  unfold wpX_swapWithNext
  dsimp only
  rw [nI_1 i]
  refine br_f (nI_ge (by omega) (by omega)) ?_
  exact dx_shift (by omega) (by omega) hp
theorem dx_tr4f {post : SX → Prop} {b : Nat} (hb : b < 60) (hne : ∀ j, j < b → O j ≠ O b) (hp : post (nI (b + 1), p, kc, kp, ch, O, W, M, KO, KW, KM, CH)) : wpX_treatLine post (nI (b + 1), p, kc, kp, ch, O, W, M, KO, KW, KM, CH) (O b) (nI 4) := by
  refine dx_tr hb (Nat.le_refl b) hne (br_f (by decide) (br_t (by decide) ?_))
  unfold wpX_swapWithNext
  dsimp only
  rw [nI_1 b]
  exact br_t (nI_le (Nat.le_refl _) (by omega)) hp
/-! the same of the reference -/
theorem dy_on0 {post : SY → Prop} {b i : Nat} (hb : b < 60) (hi : i ≤ b) (hp : post (nI b, ln, nw, ch', oc, od, ds_dn N i b, ds_dn V i b, ds_fg M' (N i) 0 4, ON, OV, OM, LS)) : wpY_one post (nI (b + 1), ln, nw, ch', oc, od, N, V, M', ON, OV, OM, LS) (nI i) (nI 0) := by
  unfold wpY_one
  dsimp only
  refine br_t rfl ?_
  rw [nI_clamp (by omega)]
  refine ⟨vp_in_nI (by omega) (by decide), ?_⟩
  refine dy_forget ?_
  refine dy_take hi hb ?_
  exact br_f (by decide) (br_f (by decide) (br_f (by decide) (br_f (by decide) hp)))
theorem dy_on1 {post : SY → Prop} {b i : Nat} (hb : b < 60) (hi : i ≤ b) (hp : post (nI (b + 1), ln, nw, ch', oc, od, ds_sf N i 0, ds_sf V i 0, M', ON, OV, OM, LS)) : wpY_one post (nI (b + 1), ln, nw, ch', oc, od, N, V, M', ON, OV, OM, LS) (nI i) (nI 1) := by
  refine br_f (by decide) (br_t rfl ?_)
  refine dy_shift (t := 0) hi (by omega) hb ?_
  exact br_f (by decide) (br_f (by decide) (br_f (by decide) hp))
theorem dy_on2 {post : SY → Prop} {b i : Nat} (hb : b < 60) (hi : i ≤ b) (hp : post (nI (b + 1), ln, nw, ch', oc, od, ds_sf N i b, ds_sf V i b, M', ON, OV, OM, LS)) : wpY_one post (nI (b + 1), ln, nw, ch', oc, od, N, V, M', ON, OV, OM, LS) (nI i) (nI 2) := by
  refine br_f (by decide) (br_f (by decide) (br_t rfl ?_))
  rw [nI_pred]
  refine dy_shift hi (Nat.le_refl b) hb ?_
  exact br_f (by decide) (br_f (by decide) hp)
theorem dy_on3 {post : SY → Prop} {b i L : Nat} (hb : b + 1 < 60) (hi : i ≤ b) (hp : post (nI (b + 2), nI (L + 1), nw, ch', oc, od, ds_sf (upd N (b + 1) (nI (L + 1))) (b + 1) (i + 1), ds_sf (upd V (b + 1) (V i)) (b + 1) (i + 1), M', ON, OV, OM, LS)) : wpY_one post (nI (b + 1), nI L, nw, ch', oc, od, N, V, M', ON, OV, OM, LS) (nI i) (nI 3) := by
  refine br_f (by decide) (br_f (by decide) (br_f (by decide) (br_t rfl (br_f (nI_ge (b := 60) (by omega) (by decide)) ?_))))
  intro y ey
  rw [nI_1 L] at ey
  subst ey
  rw [nI_clamp (by omega), nI_1 i]
  refine ⟨vp_in_nI (by omega) (by decide), ?_⟩
  refine dy_insert (by omega) hb ?_
  exact br_f (by decide) hp
theorem dy_on3f {post : SY → Prop} {i : Nat} (hp : post (nI 60, ln, nw, ch', oc, od, N, V, M', ON, OV, OM, LS)) : wpY_one post (nI (59 + 1), ln, nw, ch', oc, od, N, V, M', ON, OV, OM, LS) (nI i) (nI 3) := by
  exact br_f (by decide) (br_f (by decide) (br_f (by decide) (br_t rfl (br_t (by decide) (br_f (by decide) hp)))))
theorem dy_on4 {post : SY → Prop} {b i : Nat} (hb : b < 60) (hi : i < b) (hp : post (nI (b + 1), ln, nw, ch', oc, od, ds_sf N i (i + 1), ds_sf V i (i + 1), M', ON, OV, OM, LS)) : wpY_one post (nI (b + 1), ln, nw, ch', oc, od, N, V, M', ON, OV, OM, LS) (nI i) (nI 4) := by
  refine br_f (by decide) (br_f (by decide) (br_f (by decide) (br_f (by decide) (br_t rfl ?_))))
  rw [nI_1 i]
  refine br_f (nI_ge (by omega) (by omega)) ?_
  exact dy_shift (by omega) (by omega) hb hp
theorem dy_on4f {post : SY → Prop} {b : Nat} (hb : b < 60) (hp : post (nI (b + 1), ln, nw, ch', oc, od, N, V, M', ON, OV, OM, LS)) : wpY_one post (nI (b + 1), ln, nw, ch', oc, od, N, V, M', ON, OV, OM, LS) (nI b) (nI 4) := by
  refine br_f (by decide) (br_f (by decide) (br_f (by decide) (br_f (by decide) (br_t rfl ?_))))
  rw [nI_1 b]
  exact br_t (nI_le (Nat.le_refl _) (by omega)) hp
end
end
section
section
variable {p kc kp ch : Int32} {KO KW KM CH : Nat → Int32} {nw ch' oc od : Int32} {ON OV OM LS : Nat → Int32}
/-- one line treated on both sides -/
theorem dz_one {c L i kd : Nat} {O W M N V M' : Nat → Int32} (T : ds_T c O W N V L) (hM : ds_Mk c O N M M') (hL : L + 1 < 2 ^ 31) (hi : i < c) (hk : kd ≤ 4) : ∃ (c' L' : Nat) (O' W' M1 N' V' M1' : Nat → Int32), ds_T c' O' W' N' V' L' ∧ ds_Mk c' O' N' M1 M1' ∧ (L ≤ L' ∧ L' ≤ L + 1) ∧ (∀ x y : Int32, ds_mr c O N x y → (kd = 0 → x ≠ O i) → ds_mr c' O' N' x y) ∧
    (∀ post : SX → Prop, post (nI c', p, kc, kp, ch, O', W', M1, KO, KW, KM, CH) → wpX_treatLine post (nI c, p, kc, kp, ch, O, W, M, KO, KW, KM, CH) (O i) (nI kd)) ∧
    (∀ post : SY → Prop, post (nI c', nI L', nw, ch', oc, od, N', V', M1', ON, OV, OM, LS) → wpY_one post (nI c, nI L, nw, ch', oc, od, N, V, M', ON, OV, OM, LS) (nI i) (nI kd)) := by
  obtain ⟨b, rfl⟩ : ∃ b, c = b + 1 := ⟨c - 1, by omega⟩
  have hb : b < 60 := T.1
  have hne : ∀ j, j < i → O j ≠ O i := by
    intro j hj e
    have := T.2.2.1 j i (by omega) (by omega) e
    omega
  have hcase : kd = 0 ∨ kd = 1 ∨ kd = 2 ∨ kd = 3 ∨ kd = 4 := by omega
  rcases hcase with rfl | rfl | rfl | rfl | rfl
  · exact ⟨b, L, ds_sf O i b, W, ds_fg M (O i) (-1) 4, ds_dn N i b, ds_dn V i b, ds_fg M' (N i) 0 4, ds_T_drop T hi, ds_Mk_drop T (by omega) hM hi, ⟨by omega, by omega⟩, fun x y hm hx => ds_mr_drop hm hi (hx rfl), fun post hp => dx_tr0 hb (by omega) hne hp, fun post hp => dy_on0 hb (by omega) hp⟩
  · exact ⟨b + 1, L, ds_sf O i 0, W, M, ds_sf N i 0, ds_sf V i 0, M', ds_T_shift T hi (by omega), ds_Mk_shift hM hi (by omega), ⟨by omega, by omega⟩, fun x y hm _ => ds_mr_shift hm hi (by omega), fun post hp => dx_tr1 hb (by omega) hne hp, fun post hp => dy_on1 hb (by omega) hp⟩
  · exact ⟨b + 1, L, ds_sf O i b, W, M, ds_sf N i b, ds_sf V i b, M', ds_T_shift T hi (by omega), ds_Mk_shift hM hi (by omega), ⟨by omega, by omega⟩, fun x y hm _ => ds_mr_shift hm hi (by omega), fun post hp => dx_tr2 hb (by omega) hne hp, fun post hp => dy_on2 hb (by omega) hp⟩
  · by_cases h60 : b + 1 < 60
    · have hv : V i = upd W (O (b + 1)).toNatClampNeg (W (O i).toNatClampNeg) (O (b + 1)).toNatClampNeg := by
        rw [pk_us]
        exact T.2.2.2.1 i hi
      have T2 := ds_T_app (ds_T_setW (j := b + 1) (v := W (O i).toNatClampNeg) T (Nat.le_refl _) h60) h60 hv hL
      have M2 := ds_Mk_app (n := nI (L + 1)) hM
      exact ⟨b + 2, L + 1, ds_sf O (b + 1) (i + 1), upd W (O (b + 1)).toNatClampNeg (W (O i).toNatClampNeg), M, ds_sf (upd N (b + 1) (nI (L + 1))) (b + 1) (i + 1), ds_sf (upd V (b + 1) (V i)) (b + 1) (i + 1), M', ds_T_shift T2 (by omega) (by omega), ds_Mk_shift M2 (by omega) (by omega), ⟨by omega, by omega⟩, fun x y hm _ => ds_mr_shift (ds_mr_app hm) (by omega) (by omega), fun post hp => dx_tr3 h60 (by omega) hne T.2.1 hp, fun post hp => dy_on3 h60 (by omega) hp⟩
    · obtain rfl : b = 59 := by omega
      exact ⟨60, L, O, W, M, N, V, M', T, hM, ⟨by omega, by omega⟩, fun x y hm _ => hm, fun post hp => dx_tr3f (by omega) hne hp, fun post hp => dy_on3f hp⟩
  · by_cases h : i < b
    · exact ⟨b + 1, L, ds_sf O i (i + 1), W, M, ds_sf N i (i + 1), ds_sf V i (i + 1), M', ds_T_shift T hi (by omega), ds_Mk_shift hM hi (by omega), ⟨by omega, by omega⟩, fun x y hm _ => ds_mr_shift hm hi (by omega), fun post hp => dx_tr4 hb h hne hp, fun post hp => dy_on4 hb h hp⟩
    · obtain rfl : i = b := by omega
      exact ⟨i + 1, L, O, W, M, N, V, M', T, hM, ⟨by omega, by omega⟩, fun x y hm _ => hm, fun post hp => dx_tr4f hb hne hp, fun post hp => dy_on4f hb hp⟩
/-- the loop over the chosen lines, on both sides -/
theorem dz_all {n kd L0 : Nat} (hk : kd ≤ 4) (hn : n ≤ 60) (hL0 : L0 + 100 < 2 ^ 31) (hinj : ∀ j j', j < n → j' < n → CH j = CH j' → j = j') : ∀ d k c L (O W M N V M' : Nat → Int32), k + d = n → ds_T c O W N V L → ds_Mk c O N M M' → L0 ≤ L → L ≤ L0 + k → (∀ j, j < n → (kd = 0 → k ≤ j) → ds_mr c O N (CH j) (LS j) ∧ CH j ≠ -1) →
    ∃ (c' L' : Nat) (O' W' M1 N' V' M1' : Nat → Int32), ds_T c' O' W' N' V' L' ∧ ds_Mk c' O' N' M1 M1' ∧ (L0 ≤ L' ∧ L' ≤ L0 + n) ∧ (∀ j, j < n → kd ≠ 0 → ds_mr c' O' N' (CH j) (LS j)) ∧
    (∀ post : Int32 → SX → Prop, (∀ m, wX_all_24 post (nI kd) (nI n) (m + 1) (nI n) (nI c') p kc kp ch O' W' M1 KO KW KM CH) → ∀ f, d < f → wX_all_24 post (nI kd) (nI n) f (nI k) (nI c) p kc kp ch O W M KO KW KM CH) ∧
    (∀ post : Int32 → SY → Prop, (∀ m, wY_all_65 post (nI kd) (nI n) (m + 1) (nI n) (nI c') (nI L') nw ch' oc od N' V' M1' ON OV OM LS) → ∀ f, d < f → wY_all_65 post (nI kd) (nI n) f (nI k) (nI c) (nI L) nw ch' oc od N V M' ON OV OM LS) := by
  intro d
  induction d with
  | zero =>
    intro k c L O W M N V M' hd T hM hL9 hL hC
    obtain rfl : k = n := by omega
    refine ⟨c, L, O, W, M, N, V, M', T, hM, ⟨hL9, hL⟩, fun j hj hz => (hC j hj (fun z => absurd z hz)).1, fun post hp f hf => ?_, fun post hp f hf => ?_⟩
    · obtain ⟨m, rfl⟩ := dx_pre hf
      exact hp m
    · obtain ⟨m, rfl⟩ := dx_pre hf
      exact hp m
  | succ d ih =>
    intro k c L O W M N V M' hd T hM hL9 hL hC
    have hkn : k < n := by omega
    obtain ⟨hmr, hm1⟩ := hC k hkn (fun _ => Nat.le_refl k)
    rcases hmr with ⟨e, _⟩ | ⟨i, hi, e1, e2⟩
    · exact absurd e hm1
    · obtain ⟨c1, L1, O1, W1, M1, N1, V1, M1', T1, hM1, hL1, hpres, hX1, hY1⟩ := dz_one (p := p) (kc := kc) (kp := kp) (ch := ch) (KO := KO) (KW := KW) (KM := KM) (CH := CH) (nw := nw) (ch' := ch') (oc := oc) (od := od) (ON := ON) (OV := OV) (OM := OM) (LS := LS) T hM (by omega) hi hk
      obtain ⟨c2, L2, O2, W2, M2, N2, V2, M2', T2, hM2, hL2, hC2, hX2, hY2⟩ := ih (k + 1) c1 L1 O1 W1 M1 N1 V1 M1' (by omega) T1 hM1 (by omega) (by omega) (fun j hj hz => by
        have hj2 := hC j hj (fun z => by have := hz z; omega)
        refine ⟨hpres _ _ hj2.1 (fun z w => ?_), hj2.2⟩
        have := hinj j k hj hkn (w.trans e1.symm)
        have := hz z
        omega)
      have h : ¬ nI n ≤ nI k := nI_ge hkn (by omega)
      have hin : vp_in (nI k) 60 := vp_in_nI (by omega) (by decide)
      have ec : (nI k).toNatClampNeg = k := nI_clamp (by omega)
      refine ⟨c2, L2, O2, W2, M2, N2, V2, M2', T2, hM2, hL2, hC2, fun post hp f hf => ?_, fun post hp f hf => ?_⟩
      · obtain ⟨m, rfl⟩ := dx_pre hf
        refine br_f h ⟨hin, ?_⟩
        rw [ec, e1]
        refine hX1 _ ?_
        intro y ey
        rw [nI_1] at ey
        subst ey
        exact hX2 post hp m (by omega)
      · obtain ⟨m, rfl⟩ := dx_pre hf
        refine br_f h ⟨hin, ?_⟩
        rw [ec, e2]
        refine dy_pl_at T.1 hi rfl (fun j hj e => ?_) ?_
        · have := T.2.2.2.2.2 j i (by omega) (by omega) e
          omega
        · refine hY1 _ ?_
          intro y ey
          rw [nI_1] at ey
          subst ey
          exact hY2 post hp m (by omega)
/-! the loop's end -/
theorem dx_ax0 {post : Int32 → SX → Prop} {c n : Nat} {O W M : Nat → Int32} (hc : c ≤ 60) (hn : n < 60) (hp : post (nI (n + 1)) (nI c, ds_af c c (-1) O, kc, kp, ch, O, W, M, KO, KW, KM, CH)) (m : Nat) : wX_all_24 post (nI 0) (nI (n + 1)) (m + 1) (nI (n + 1)) (nI c) p kc kp ch O W M KO KW KM CH := by
  refine br_t (nI_le (Nat.le_refl _) (by omega)) (br_f (nI_nle (by omega) (by omega)) (br_t rfl ?_))
  unfold ds_af at hp
  by_cases h0 : c = 0
  · subst h0
    rw [if_pos rfl] at hp
    exact dx_last_0 hp
  · rw [if_neg h0, if_pos (by omega)] at hp
    obtain ⟨b, rfl⟩ : ∃ b, c = b + 1 := ⟨c - 1, by omega⟩
    exact dx_last_s (by omega) hp
theorem dx_axk {post : Int32 → SX → Prop} {c n kd : Nat} {O W M : Nat → Int32} (hk0 : kd ≠ 0) (hk : kd ≤ 4) (hn : n < 60) (hp : post (nI (n + 1)) (nI c, CH n, kc, kp, ch, O, W, M, KO, KW, KM, CH)) (m : Nat) : wX_all_24 post (nI kd) (nI (n + 1)) (m + 1) (nI (n + 1)) (nI c) p kc kp ch O W M KO KW KM CH := by
  refine br_t (nI_le (Nat.le_refl _) (by omega)) (br_f (nI_nle (by omega) (by omega)) (br_f (nI_ne0 (by omega) (by omega)) ?_))
  rw [nI_pred, nI_clamp (by omega)]
  refine ⟨vp_in_nI hn (by decide), fun f ef => ?_⟩
  subst ef
  exact hp
theorem dy_ax0 {post : Int32 → SY → Prop} {c n : Nat} {ln : Int32} {N V M' : Nat → Int32} (hc : c ≤ 60) (hn : n < 60) (hp : post (nI (n + 1)) (nI c, ln, ds_af c c 0 N, ch', oc, od, N, V, M', ON, OV, OM, LS)) (m : Nat) : wY_all_65 post (nI 0) (nI (n + 1)) (m + 1) (nI (n + 1)) (nI c) ln nw ch' oc od N V M' ON OV OM LS := by
  refine br_t (nI_le (Nat.le_refl _) (by omega)) (br_f (nI_nle (by omega) (by omega)) (br_t rfl ?_))
  unfold ds_af at hp
  by_cases h0 : c = 0
  · subst h0
    rw [if_pos rfl] at hp
    exact br_t rfl hp
  · rw [if_neg h0, if_pos (by omega)] at hp
    obtain ⟨b, rfl⟩ : ∃ b, c = b + 1 := ⟨c - 1, by omega⟩
    refine br_f (nI_ne0 (by omega) (by omega)) ?_
    rw [nI_pred, nI_clamp (by omega)]
    refine ⟨vp_in_nI (by omega) (by decide), fun f ef => ?_⟩
    subst ef
    exact hp
theorem dy_axk {post : Int32 → SY → Prop} {c n kd : Nat} {ln : Int32} {N V M' : Nat → Int32} (hk0 : kd ≠ 0) (hk : kd ≤ 4) (hn : n < 60) (hp : post (nI (n + 1)) (nI c, ln, LS n, ch', oc, od, N, V, M', ON, OV, OM, LS)) (m : Nat) : wY_all_65 post (nI kd) (nI (n + 1)) (m + 1) (nI (n + 1)) (nI c) ln nw ch' oc od N V M' ON OV OM LS := by
  refine br_t (nI_le (Nat.le_refl _) (by omega)) (br_f (nI_nle (by omega) (by omega)) (br_f (nI_ne0 (by omega) (by omega)) ?_))
  rw [nI_pred, nI_clamp (by omega)]
  refine ⟨vp_in_nI hn (by decide), fun f ef => ?_⟩
  subst ef
  exact hp
end
theorem i_vc_all {k : Nat} {u : SX} {v : SY} (I : i_Rel k u v) (hk : k + 5 ≤ 2560) (v1 : Int32) (v2 : Int32) : wpX_all (fun r u' => wpY_all (fun r' v' => r' = r ∧ i_Rel (k + 5) u' v') v v1 v2) u v1 v2 := by
  have I' := i_up I
  obtain ⟨c, kc, L, ch, p, kp, q, kq, O, W, M, KO, KW, KM, CH, N, V, M', KN, KV, KM', LS, rfl, rfl, hL, hS, hK⟩ := I
  have hc : c ≤ 60 := hS.1.1
  by_cases h0 : v2 < 0
  · exact br_t h0 (br_t h0 ⟨rfl, I'⟩)
  · by_cases h4 : v2 ≤ 4
    · obtain ⟨kd, hkd, rfl⟩ := nI_of2 (n := 4) (by decide) h0 h4
      obtain ⟨n, CH', LS', hch, cX, cY⟩ := dz_choose (p := p) (kc := nI c) (kp := p) (ch := 1) (M := M) (KO := ds_cp 60 O KO) (KW := ds_cp 60 W KW) (KM := ds_cp 4 M KM) (ln := nI L) (nw := q) (ch' := 1) (oc := nI c) (od := q) (M' := M') (ON := ds_cp 60 N KN) (OV := ds_cp 60 V KV) (OM := ds_cp 4 M' KM') (x := v1) (x2 := nI kd) hS.1 c 0 0 CH LS (by omega) ⟨Nat.le_refl 0, fun _ => 0, fun j hj => by omega, fun j j' _ hj => by omega⟩
      obtain ⟨hnc, g, hg, hgm⟩ := hch
      have hinj : ∀ j j', j < n → j' < n → CH' j = CH' j' → j = j' := by
        intro j j' hj hj' e
        rw [(hg j hj).2.1, (hg j' hj').2.1] at e
        have e2 := hS.1.2.2.1 _ _ (by have := (hg j hj).1; omega) (by have := (hg j' hj').1; omega) e
        by_cases h1 : j < j'
        · have := hgm j j' h1 hj'
          omega
        · by_cases h2 : j' < j
          · have := hgm j' j h2 hj
            omega
          · omega
      refine br_f h0 (br_t h4 ?_)
      refine dx_keep ?_
      refine ⟨c + 1, cX _ ?_ (c + 1) (by omega)⟩
      by_cases hn : n = 0
      · subst hn
        refine ⟨1, br_t (nI_le (a := 0) (b := 0) (by decide) (by decide)) (br_t (by decide) ?_)⟩
        refine br_f h0 (br_t h4 ?_)
        refine dy_save ?_
        refine ⟨c + 1, cY _ ⟨1, br_t (nI_le (a := 0) (b := 0) (by decide) (by decide)) (br_t (by decide) ?_)⟩ (c + 1) (by omega)⟩
        exact ⟨rfl, dz_mk (by omega) hS (Or.inr (ds_S_cp hS))⟩
      · obtain ⟨n, rfl⟩ : ∃ n', n = n' + 1 := ⟨n - 1, by omega⟩
        obtain ⟨c2, L2, O2, W2, M2, N2, V2, M2', T2, hM2, hL2, hC2, aX, aY⟩ := dz_all (p := p) (kc := nI c) (kp := p) (ch := 1) (KO := ds_cp 60 O KO) (KW := ds_cp 60 W KW) (KM := ds_cp 4 M KM) (CH := CH') (nw := q) (ch' := 1) (oc := nI c) (od := q) (ON := ds_cp 60 N KN) (OV := ds_cp 60 V KV) (OM := ds_cp 4 M' KM') (LS := LS') (n := n + 1) (L0 := L) hkd (by omega) (by omega) hinj (n + 1) 0 c L O W M N V M' (by omega) hS.1 hS.2.1 (Nat.le_refl L) (by omega) (fun j hj _ => ⟨Or.inr ⟨g j, (hg j hj).1, (hg j hj).2.1, (hg j hj).2.2⟩, by
          rw [(hg j hj).2.1]
          exact ds_vm1 (hS.1.2.1 _ (by have := (hg j hj).1; omega))⟩)
        have hc2 : c2 ≤ 60 := T2.1
        by_cases hz : kd = 0
        · subst hz
          refine ⟨n + 1 + 1, aX _ (dx_ax0 hc2 (by omega) ?_) (n + 1 + 1) (by omega)⟩
          refine br_f h0 (br_t h4 ?_)
          refine dy_save ?_
          refine ⟨c + 1, cY _ ⟨n + 1 + 1, aY _ (dy_ax0 hc2 (by omega) ?_) (n + 1 + 1) (by omega)⟩ (c + 1) (by omega)⟩
          exact ⟨rfl, dz_mk (by omega) ⟨T2, hM2, ds_af_mr (Nat.le_refl _)⟩ (Or.inr (ds_S_cp (ds_S_mono hS (by omega))))⟩
        · refine ⟨n + 1 + 1, aX _ (dx_axk hz hkd (by omega) ?_) (n + 1 + 1) (by omega)⟩
          refine br_f h0 (br_t h4 ?_)
          refine dy_save ?_
          refine ⟨c + 1, cY _ ⟨n + 1 + 1, aY _ (dy_axk hz hkd (by omega) ?_) (n + 1 + 1) (by omega)⟩ (c + 1) (by omega)⟩
          exact ⟨rfl, dz_mk (by omega) ⟨T2, hM2, hC2 n (by omega) hz⟩ (Or.inr (ds_S_cp (ds_S_mono hS (by omega))))⟩
    · exact br_f h0 (br_f h4 (br_f h0 (br_f h4 ⟨rfl, I'⟩)))
end
