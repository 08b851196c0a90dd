/-! copy: the component appends all copies, then shifts them; the reference inserts one by one -/
theorem ds_apT {c L a s : Nat} {O W N V : Nat → Int32} (T : ds_T c O W N V L) (has : a + s ≤ c) (hcs : c + s ≤ 60) : ∀ k, k ≤ s → ds_T c O (ds_apW O c a k W) N V L ∧ ∀ j, j < k → ds_apW O c a k W (O (c + j)).toNatClampNeg = V (a + j) := by
  intro k
  induction k with
  | zero => exact fun _ => ⟨T, fun j hj => by omega⟩
  | succ k ih =>
    intro hk
    obtain ⟨T1, h1⟩ := ih (by omega)
    refine ⟨ds_T_setW T1 (by omega) (by omega), fun j hj => ?_⟩
    show upd (ds_apW O c a k W) (O (c + k)).toNatClampNeg (ds_apW O c a k W (O (a + k)).toNatClampNeg) (O (c + j)).toNatClampNeg = V (a + j)
    by_cases z : j = k
    · rw [z, pk_us]
      exact (T1.2.2.2.1 (a + k) (by omega)).symm
    · rw [pk_un]
      · exact h1 j (by omega)
      · intro e
        have := T1.2.2.1 (c + j) (c + k) (by omega) (by omega) (ds_vin (T1.2.1 _ (by omega)) (T1.2.1 _ (by omega)) e)
        omega
theorem ds_ciT {c L t s : Nat} {F O W M N V M' : Nat → Int32} (T : ds_T c O W N V L) (hM : ds_Mk c O N M M') (ht : t ≤ c) (hcs : c + s ≤ 60) (hL : L + s < 2 ^ 31) (hF : ∀ j, j < s → F j = W (O (c + j)).toNatClampNeg) : ∀ k, k ≤ s → ds_T (c + k) (ds_mv (fun k => c + k) (fun k => t + k) k O) W (ds_ci c t (fun k => nI (L + k + 1)) k N) (ds_ci c t F k V) (L + k) ∧ ds_Mk (c + k) (ds_mv (fun k => c + k) (fun k => t + k) k O) (ds_ci c t (fun k => nI (L + k + 1)) k N) M M' ∧ ∀ j, k ≤ j → ds_mv (fun k => c + k) (fun k => t + k) k O (c + j) = O (c + j) := by
  intro k
  induction k with
  | zero => exact fun _ => ⟨T, hM, fun j hj => rfl⟩
  | succ k ih =>
    intro hk
    obtain ⟨T1, M1, h1⟩ := ih (by omega)
    have hv : F k = W (ds_mv (fun k => c + k) (fun k => t + k) k O (c + k)).toNatClampNeg := by
      rw [h1 k (Nat.le_refl k)]
      exact hF k (by omega)
    have T2 := ds_T_app T1 (by omega) hv (by omega)
    have M2 := ds_Mk_app (n := nI (L + k + 1)) M1
    refine ⟨ds_T_shift (a := c + k) (t := t + k) T2 (by omega) (by omega), ds_Mk_shift (a := c + k) (t := t + k) M2 (by omega) (by omega), fun j hj => ?_⟩
    show ds_mv (fun k => c + k) (fun k => t + k) k O (ds_sh (c + k) (t + k) (c + j)) = _
    rw [ds_sh_c4 (by omega) (by omega) (by omega)]
    exact h1 j (by omega)
theorem ds_ci_end (c t s : Nat) (F A : Nat → Int32) : ds_ci c t F (s + 1) A (t + s) = F s := by
  show upd (ds_ci c t F s A) (c + s) (F s) (ds_sh (c + s) (t + s) (t + s)) = _
  rw [ds_sh_c1 rfl, pk_us]
theorem i_vc_copy {k : Nat} {u : SX} {v : SY} (I : i_Rel k u v) (hk : k + 5 ≤ 2560) (v1 : Int32) (v2 : Int32) (v3 : Int32) : wpX_copy (fun r u' => wpY_copy (fun r' v' => r' = r ∧ i_Rel (k + 5) u' v') v v1 v2 v3) u v1 v2 v3 := by
  have I' := i_up I
  obtain ⟨c, kc, L, ch, p, kp, q, kq, O, W, M, KO, KW, KM, CH, N, V, M', KN, KV, KM', LS, rfl, rfl, hL, hS, hK⟩ := I
  have hc : c ≤ 60 := hS.1.1
  unfold wpX_copy
  dsimp only
  rcases dz_range v1 v2 hc with ⟨hX, hY⟩ | ⟨a, s, hs, has, rfl, rfl, hX, hY⟩
  · refine hX _ (br_t rfl ?_)
    unfold wpY_copy
    dsimp only
    exact hY _ (br_f (by decide) ⟨rfl, I'⟩)
  · refine hX _ (br_f (by decide) ?_)
    rcases dz_place v3 hc with ⟨hX, hb⟩ | ⟨j, hj, rfl, hX⟩
    · refine hX _ (br_t rfl ?_)
      unfold wpY_copy
      dsimp only
      refine hY _ (br_t rfl ?_)
      rcases hb with h | ⟨h, h2⟩
      · exact br_t h ⟨rfl, I'⟩
      · exact br_f h (br_t h2 ⟨rfl, I'⟩)
    · refine hX _ (br_f (by decide) ?_)
      have h0 : ¬ nI j < 0 := nI_pos (by omega)
      have h1 : ¬ nI c < nI j := nI_nlt hj (by omega)
      have e : nI (a + s) - nI (a + 1) + 1 = nI s := by
        rw [pk_sub (by omega), nI_1]
        exact congrArg nI (by omega)
      have e2 : nI c + nI (a + s) - nI (a + 1) + 1 = nI (c + s) := by
        rw [nI_add, pk_sub (by omega), nI_1]
        exact congrArg nI (by omega)
      intro y ey
      rw [e] at ey
      subst ey
      rw [nI_add c s]
      by_cases h60 : c + s ≤ 60
      · have hb : nI (c + s) ≤ 60 := nI_le (b := 60) h60 (by decide)
        obtain ⟨T1, hap⟩ := ds_apT hS.1 has h60 s (Nat.le_refl s)
        obtain ⟨T', hM', _⟩ := ds_ciT (F := fun j => V (a + j)) T1 hS.2.1 hj h60 (by omega) (fun j hj => (hap j hj).symm) s (Nat.le_refl s)
        refine br_t hb ?_
        refine dx_keep ?_
        refine ⟨s + 1, dx_cp53 (O := O) (W := W) hS.1.2.1 has h60 (fun m => ?_) s 0 (by omega) (s + 1) (by omega)⟩
        refine br_t (nI_le (Nat.le_refl _) (by omega)) ?_
        rw [nI_1 c, nI_add c s]
        refine dx_mbU hs (by omega) (by omega) hj ?_
        obtain ⟨s, rfl⟩ : ∃ s', s = s' + 1 := ⟨s - 1, by omega⟩
        dsimp only
        rw [show j + (s + 1) = j + s + 1 from rfl, nI_pred, nI_clamp (by omega)]
        refine ⟨vp_in_nI (by omega) (by decide), fun z ez => ?_⟩
        subst ez
        unfold wpY_copy
        dsimp only
        refine hY _ (br_t rfl (br_f h0 (br_f h1 ?_)))
        rw [e2]
        refine br_t hb ?_
        refine dy_save ?_
        dsimp only
        refine ⟨s + 1 + 1, dy_cp45 (LS := LS) (by omega) ⟨s + 1 + 1, dy_cp78 (F := fun j => V (a + j)) (N := N) (V := V) (LS := ds_cp (s + 1) (fun j => V (a + j)) LS) hs (by omega) hj h60 (fun i hi => ds_cp_lt hi) ?_ (s + 1) 0 (by omega) (s + 1 + 1) (by omega)⟩ (s + 1) 0 (by omega) (s + 1 + 1) (by omega)⟩
        exact ⟨rfl, dz_mk (by omega) ⟨T', hM', Or.inr ⟨j + s, by omega, rfl, (ds_ci_end c j s (fun k => nI (L + k + 1)) N).symm⟩⟩ (Or.inr (ds_S_cp (ds_S_mono hS (by omega))))⟩
      · have hb : ¬ nI (c + s) ≤ 60 := nI_ge (a := 60) (by omega) (by omega)
        refine br_f hb ?_
        unfold wpY_copy
        dsimp only
        refine hY _ (br_t rfl (br_f h0 (br_f h1 ?_)))
        rw [e2]
        exact br_f hb ⟨rfl, I'⟩
