/-- the same lines, cells, registers and results on both sides; the registers past the last thread are zero -/
def i_Rel (_ : Nat) (u : SX) (v : SY) : Prop := ∃ (L T : Nat) (op fa fb fc inp out reg ll sc st : Nat → Int32), L ≤ 32 ∧ T ≤ 8 ∧ (∀ j, 4 * T ≤ j → reg j = 0) ∧ u = (nI L, nI T, op, fa, fb, fc, inp, out, reg, ll, sc, st) ∧ v = (nI T, nI L, op, fa, fb, fc, inp, out, reg, ll, sc, st)
theorem i_up {k : Nat} {u : SX} {v : SY} (h : i_Rel k u v) : i_Rel (k + 5) u v := h
theorem wq_0 (k T : Nat) (hT : T ≤ 8) : i_Rel k (0, nI T, (fun _ => 0), (fun _ => 0), (fun _ => 0), (fun _ => 0), (fun _ => 0), (fun _ => 0), (fun _ => 0), (fun _ => 0), (fun _ => 0), (fun _ => 0)) (nI T, 0, (fun _ => 0), (fun _ => 0), (fun _ => 0), (fun _ => 0), (fun _ => 0), (fun _ => 0), (fun _ => 0), (fun _ => 0), (fun _ => 0), (fun _ => 0)) :=
  ⟨0, T, _, _, _, _, _, _, _, _, _, _, by omega, hT, fun _ _ => rfl, rfl, rfl⟩
theorem i_vc0 (k0 : Int32) : wpX_init (fun u => wpY_init (fun v => i_Rel 1 u v) k0) k0 := by
  unfold wpX_init wpY_init
  by_cases a : 1 ≤ k0
  · by_cases b : k0 ≤ 8
    · have n0 : ¬ k0 < 0 := by
        intro z
        rw [Int32.lt_iff_toInt_lt, show (0 : Int32).toInt = 0 from by decide] at z
        rw [Int32.le_iff_toInt_le, show (1 : Int32).toInt = 1 from by decide] at a
        omega
      obtain ⟨j, hj, rfl⟩ := nI_of2 (M := 8) (n := 8) (by decide) n0 b
      exact br_t a (br_t b (br_t a (br_t b (wq_0 1 j hj))))
    · exact br_t a (br_f b (br_t a (br_f b (wq_0 1 8 (by omega)))))
  · exact br_f a (br_f a (wq_0 1 1 (by omega)))
theorem i_vc_emit {k : Nat} {u : SX} {v : SY} (I : i_Rel k u v) (hk : k + 5 ≤ 2561) (v1 : Int32) (v2 : Int32) (v3 : Int32) (v4 : Int32) : wpX_emit (fun r u' => wpY_emit (fun r' v' => r' = r ∧ i_Rel (k + 5) u' v') v v1 v2 v3 v4) u v1 v2 v3 v4 := by
  have I' := I
  obtain ⟨L, T, op, fa, fb, fc, inp, out, reg, ll, sc, st, hL, hT, h0, rfl, rfl⟩ := I
  unfold wpX_emit wpY_emit
  dsimp only
  by_cases a : v1 < 0
  · exact br_t a (br_t a ⟨rfl, I'⟩)
  · by_cases b : 11 < v1
    · exact br_f a (br_t b (br_f a (br_t b ⟨rfl, I'⟩)))
    · by_cases c : L < 32
      · have cx : nI L < 32 := nI_lt (b := 32) c (by decide)
        have cy : ¬ nI L = 32 := fun z => by
          have := (nI_eq (a := L) (b := 32) (by omega) (by omega)).mp z
          omega
        have i : vp_in (nI L) 32 := vp_in_nI c (by omega)
        exact br_f a (br_f b (br_t cx ⟨i, nm_e ⟨i, nm_e ⟨i, nm_e ⟨i, nm_e (nm_r (nI_1 L) (br_f a (br_f b (br_f cy ⟨i, nm_e ⟨i, nm_e ⟨i, nm_e ⟨i, nm_e (nm_r (nI_1 L) ⟨rfl, L + 1, T, _, _, _, _, _, _, _, _, _, _, c, hT, h0, rfl, rfl⟩)⟩⟩⟩⟩))))⟩⟩⟩⟩))
      · obtain rfl : L = 32 := by omega
        exact br_f a (br_f b (br_f (nI_nlt (a := 32) (b := 32) (by omega) (by omega)) (br_f a (br_f b (br_t rfl ⟨rfl, I'⟩)))))
theorem i_vc_clear {k : Nat} {u : SX} {v : SY} (I : i_Rel k u v) (hk : k + 5 ≤ 2561) : wpX_clear (fun u' => wpY_clear (fun v' => i_Rel (k + 5) u' v') v) u := by
  obtain ⟨L, T, op, fa, fb, fc, inp, out, reg, ll, sc, st, hL, hT, h0, rfl, rfl⟩ := I
  exact ⟨0, T, _, _, _, _, _, _, _, _, _, _, by omega, hT, h0, rfl, rfl⟩
theorem i_vc_input {k : Nat} {u : SX} {v : SY} (I : i_Rel k u v) (hk : k + 5 ≤ 2561) (v1 : Int32) (v2 : Int32) : wpX_input (fun u' => wpY_input (fun v' => i_Rel (k + 5) u' v') v v1 v2) u v1 v2 := by
  obtain ⟨L, T, op, fa, fb, fc, inp, out, reg, ll, sc, st, hL, hT, h0, rfl, rfl⟩ := I
  unfold wpX_input wpY_input
  dsimp only
  exact ⟨wq_in15 v1, nm_e ⟨wq_in15 v1, nm_e ⟨L, T, _, _, _, _, _, _, _, _, _, _, hL, hT, h0, rfl, rfl⟩⟩⟩
theorem i_vc_run {k : Nat} {u : SX} {v : SY} (I : i_Rel k u v) (hk : k + 5 ≤ 2561) : wpX_run (fun r u' => wpY_run (fun r' v' => r' = r ∧ i_Rel (k + 5) u' v') v) u := by
  obtain ⟨L, T, op, fa, fb, fc, inp, out, reg, ll, sc, st, hL, hT, h0, rfl, rfl⟩ := I
  obtain ⟨r, out', g', ll', sc', st', hg, hX, hY⟩ := wq_run (L := L) (T := T) (op := op) (fa := fa) (fb := fb) (fc := fc) (inp := inp) hL hT T 0 0 (wq_zf 0 16 out) reg ll sc st (by omega)
  have hz : ∀ j, 4 * T ≤ j → g' j = 0 := fun j hj => (hg j hj).trans (h0 j hj)
  rw [wq_rs_all hz, ← wq_zf_rs hT h0] at hX
  unfold wpX_run
  dsimp only
  refine wq_xrs _ ?_
  dsimp only
  refine ⟨T + 1, hX _ ?_⟩
  unfold wpY_run
  dsimp only
  exact ⟨17, wq_yr2 _ (T + 1) 16 0 out rfl (hY _ ⟨rfl, L, T, _, _, _, _, _, _, _, _, _, _, hL, hT, hz, rfl, rfl⟩)⟩
theorem wq_has {T : Nat} (hT : T ≤ 8) (x : Int32) : ((∀ (post : Int32 → Prop) (f : Int32) (a1 a2 a3 a4 a5 a6 a7 a8 a9 a10 : Nat → Int32), post 0 → wpX_hasThread post (f, nI T, a1, a2, a3, a4, a5, a6, a7, a8, a9, a10) x) ∧ (∀ (post : Int32 → Prop) (f : Int32) (a1 a2 a3 a4 a5 a6 a7 a8 a9 a10 : Nat → Int32), post 1 → wpY_missing post (nI T, f, a1, a2, a3, a4, a5, a6, a7, a8, a9, a10) x)) ∨ ∃ j : Nat, j < T ∧ x = nI j ∧ (∀ (post : Int32 → Prop) (f : Int32) (a1 a2 a3 a4 a5 a6 a7 a8 a9 a10 : Nat → Int32), post 1 → wpX_hasThread post (f, nI T, a1, a2, a3, a4, a5, a6, a7, a8, a9, a10) x) ∧ (∀ (post : Int32 → Prop) (f : Int32) (a1 a2 a3 a4 a5 a6 a7 a8 a9 a10 : Nat → Int32), post 0 → wpY_missing post (nI T, f, a1, a2, a3, a4, a5, a6, a7, a8, a9, a10) x) := by
  by_cases a : x < 0
  · exact Or.inl ⟨fun post f a1 a2 a3 a4 a5 a6 a7 a8 a9 a10 h => br_t a h, fun post f a1 a2 a3 a4 a5 a6 a7 a8 a9 a10 h => br_t a h⟩
  · obtain ⟨j, hj, rfl⟩ := nI_of a
    by_cases b : j < T
    · exact Or.inr ⟨j, b, rfl, fun post f a1 a2 a3 a4 a5 a6 a7 a8 a9 a10 h => br_f a (br_f (nI_ge b (by omega)) h), fun post f a1 a2 a3 a4 a5 a6 a7 a8 a9 a10 h => br_f a (br_t (nI_lt b (by omega)) h)⟩
    · exact Or.inl ⟨fun post f a1 a2 a3 a4 a5 a6 a7 a8 a9 a10 h => br_f a (br_t (nI_le (by omega) hj) h), fun post f a1 a2 a3 a4 a5 a6 a7 a8 a9 a10 h => br_f a (br_f (nI_nlt (by omega) hj) h)⟩
theorem i_vc_reg {k : Nat} {u : SX} {v : SY} (I : i_Rel k u v) (hk : k + 5 ≤ 2561) (v1 : Int32) (v2 : Int32) : wpX_reg (fun r => wpY_reg (fun r' => r' = r ∧ i_Rel (k + 5) u v) v v1 v2) u v1 v2 := by
  have I' := I
  obtain ⟨L, T, op, fa, fb, fc, inp, out, reg, ll, sc, st, hL, hT, h0, rfl, rfl⟩ := I
  unfold wpX_reg wpY_reg
  dsimp only
  rcases wq_has hT v1 with ⟨hX, hY⟩ | ⟨j, hj, rfl, hX, hY⟩
  · exact hX _ _ _ _ _ _ _ _ _ _ _ _ (br_t rfl (hY _ _ _ _ _ _ _ _ _ _ _ _ (br_f (by decide) ⟨rfl, I'⟩)))
  · have hi := wq_ix_lt j v2
    have ii : vp_in (nI (wq_ix j v2)) 32 := vp_in_nI (by omega) (by omega)
    rw [wq_ixX, wq_ixY]
    exact hX _ _ _ _ _ _ _ _ _ _ _ _ (br_f (by decide) ⟨ii, hY _ _ _ _ _ _ _ _ _ _ _ _ (br_t rfl ⟨ii, rfl, I'⟩)⟩)
theorem i_vc_line {k : Nat} {u : SX} {v : SY} (I : i_Rel k u v) (hk : k + 5 ≤ 2561) (v1 : Int32) : wpX_line (fun r => wpY_line (fun r' => r' = r ∧ i_Rel (k + 5) u v) v v1) u v1 := by
  have I' := I
  obtain ⟨L, T, op, fa, fb, fc, inp, out, reg, ll, sc, st, hL, hT, h0, rfl, rfl⟩ := I
  unfold wpX_line wpY_line
  dsimp only
  rcases wq_has hT v1 with ⟨hX, hY⟩ | ⟨j, hj, rfl, hX, hY⟩
  · exact hX _ _ _ _ _ _ _ _ _ _ _ _ (br_t rfl (hY _ _ _ _ _ _ _ _ _ _ _ _ (br_f (by decide) ⟨rfl, I'⟩)))
  · have ii : vp_in (nI j) 8 := vp_in_nI (by omega) (by omega)
    exact hX _ _ _ _ _ _ _ _ _ _ _ _ (br_f (by decide) ⟨ii, hY _ _ _ _ _ _ _ _ _ _ _ _ (br_t rfl ⟨ii, rfl, I'⟩)⟩)
theorem i_vc_steps {k : Nat} {u : SX} {v : SY} (I : i_Rel k u v) (hk : k + 5 ≤ 2561) (v1 : Int32) : wpX_steps (fun r => wpY_steps (fun r' => r' = r ∧ i_Rel (k + 5) u v) v v1) u v1 := by
  have I' := I
  obtain ⟨L, T, op, fa, fb, fc, inp, out, reg, ll, sc, st, hL, hT, h0, rfl, rfl⟩ := I
  unfold wpX_steps wpY_steps
  dsimp only
  rcases wq_has hT v1 with ⟨hX, hY⟩ | ⟨j, hj, rfl, hX, hY⟩
  · exact hX _ _ _ _ _ _ _ _ _ _ _ _ (br_t rfl (hY _ _ _ _ _ _ _ _ _ _ _ _ (br_f (by decide) ⟨rfl, I'⟩)))
  · have ii : vp_in (nI j) 8 := vp_in_nI (by omega) (by omega)
    exact hX _ _ _ _ _ _ _ _ _ _ _ _ (br_f (by decide) ⟨ii, hY _ _ _ _ _ _ _ _ _ _ _ _ (br_t rfl ⟨ii, rfl, I'⟩)⟩)
theorem i_vc_state {k : Nat} {u : SX} {v : SY} (I : i_Rel k u v) (hk : k + 5 ≤ 2561) (v1 : Int32) : wpX_state (fun r => wpY_state (fun r' => r' = r ∧ i_Rel (k + 5) u v) v v1) u v1 := by
  have I' := I
  obtain ⟨L, T, op, fa, fb, fc, inp, out, reg, ll, sc, st, hL, hT, h0, rfl, rfl⟩ := I
  unfold wpX_state wpY_state
  dsimp only
  rcases wq_has hT v1 with ⟨hX, hY⟩ | ⟨j, hj, rfl, hX, hY⟩
  · exact hX _ _ _ _ _ _ _ _ _ _ _ _ (br_t rfl (hY _ _ _ _ _ _ _ _ _ _ _ _ (br_f (by decide) ⟨rfl, I'⟩)))
  · have ii : vp_in (nI j) 8 := vp_in_nI (by omega) (by omega)
    exact hX _ _ _ _ _ _ _ _ _ _ _ _ (br_f (by decide) ⟨ii, hY _ _ _ _ _ _ _ _ _ _ _ _ (br_t rfl ⟨ii, rfl, I'⟩)⟩)
theorem i_vc_output {k : Nat} {u : SX} {v : SY} (I : i_Rel k u v) (hk : k + 5 ≤ 2561) (v1 : Int32) : wpX_output (fun r => wpY_output (fun r' => r' = r ∧ i_Rel (k + 5) u v) v v1) u v1 := by
  have I' := I
  obtain ⟨L, T, op, fa, fb, fc, inp, out, reg, ll, sc, st, hL, hT, h0, rfl, rfl⟩ := I
  exact ⟨wq_in15 v1, wq_in15 v1, rfl, I'⟩
