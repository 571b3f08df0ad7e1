/-! carryOut and the line after: X and Y at one line of one thread -/
theorem wq_x44 {L T l r : Nat} {op fa fb fc inp out reg ll sc st : Nat → Int32} (hl : l < 32) (hr : fb l &&& 31 = nI r) (post : Int32 → Prop) (h : post (nI r)) : wX_lineAfter_44 post (nI l) (nI L) (nI T) op fa fb fc inp out reg ll sc st := by
  have cl : (nI l).toNatClampNeg = l := nI_clamp (by omega)
  have il : vp_in (nI l) 32 := vp_in_nI hl (by omega)
  unfold wX_lineAfter_44 wX_lineAfter_49
  rw [cl, hr]
  exact br_f (by decide) ⟨il, h⟩
theorem wq_x48 {L T l : Nat} {op fa fb fc inp out reg ll sc st : Nat → Int32} (post : Int32 → Prop) (h : post (nI (l + 1))) : wX_lineAfter_48 post (nI l) (nI L) (nI T) op fa fb fc inp out reg ll sc st := by
  unfold wX_lineAfter_48 wX_lineAfter_49
  rw [nI_1]
  exact br_t rfl h
theorem wq_nx {L T t l : Nat} {op fa fb fc inp : Nat → Int32} (ht : t < 8) (hl : l < 32) (g : Nat → Int32) : ∃ r : Nat, r ≤ 32 ∧ (∀ (post : Int32 → Prop) (out ll sc st : Nat → Int32), post (nI r) → wpX_lineAfter post (nI L, nI T, op, fa, fb, fc, inp, out, wq_rs (4 * t + 4) g, ll, sc, st) (nI t) (nI l)) ∧ (∀ (post : Int32 → SY → Prop) (out ll sc st : Nat → Int32), post (nI r) (nI T, nI L, op, fa, fb, fc, inp, out, g, ll, sc, st) → wY_carryOut_171 post (nI l) (op l) (nI (wq_ix t (fa l))) (nI T) (nI L) op fa fb fc inp out g ll sc st) := by
  have cl : (nI l).toNatClampNeg = l := nI_clamp (by omega)
  have il : vp_in (nI l) 32 := vp_in_nI hl (by omega)
  have hA := wq_ix_lt t (fa l)
  have cA : (nI (wq_ix t (fa l))).toNatClampNeg = wq_ix t (fa l) := nI_clamp (by omega)
  have iA : vp_in (nI (wq_ix t (fa l))) 32 := vp_in_nI (by omega) (by omega)
  obtain ⟨b, hb, eb⟩ := wq_31 (fb l)
  by_cases h9 : op l = 9
  · refine ⟨b, hb, fun post out ll sc st h => ?_, fun post out ll sc st h => ?_⟩
    · unfold wpX_lineAfter
      dsimp only
      rw [cl, wq_ixX, cA]
      exact ⟨il, iA, nm_e ⟨il, br_t h9 (wq_x44 hl eb post h)⟩⟩
    · unfold wY_carryOut_171
      rw [cl, eb]
      exact br_t h9 ⟨il, h⟩
  · by_cases h10 : op l = 10
    · by_cases z : g (wq_ix t (fa l)) = 0
      · refine ⟨b, hb, fun post out ll sc st h => ?_, fun post out ll sc st h => ?_⟩
        · unfold wpX_lineAfter
          dsimp only
          rw [cl, wq_ixX, cA, wq_rs_in hA]
          exact ⟨il, iA, nm_e ⟨il, br_f h9 ⟨il, br_t h10 (br_t z (wq_x44 hl eb post h))⟩⟩⟩
        · unfold wY_carryOut_171
          rw [cl, cA, eb]
          exact br_f h9 (br_t h10 ⟨iA, br_t z ⟨il, h⟩⟩)
      · refine ⟨l + 1, hl, fun post out ll sc st h => ?_, fun post out ll sc st h => ?_⟩
        · unfold wpX_lineAfter
          dsimp only
          rw [cl, wq_ixX, cA, wq_rs_in hA]
          exact ⟨il, iA, nm_e ⟨il, br_f h9 ⟨il, br_t h10 (br_f z (wq_x48 post h))⟩⟩⟩
        · unfold wY_carryOut_171
          rw [cl, cA, nI_1 l]
          exact br_f h9 (br_t h10 ⟨iA, br_f z h⟩)
    · refine ⟨l + 1, hl, fun post out ll sc st h => ?_, fun post out ll sc st h => ?_⟩
      · unfold wpX_lineAfter
        dsimp only
        rw [cl, wq_ixX, cA, wq_rs_in hA]
        exact ⟨il, iA, nm_e ⟨il, br_f h9 ⟨il, br_f h10 (wq_x48 post h)⟩⟩⟩
      · unfold wY_carryOut_171
        rw [nI_1 l]
        exact br_f h9 (br_f h10 h)
theorem wq_y122 {post : Int32 → SY → Prop} {x2 x3 x4 x5 : Int32} {f_threads f_lines : Int32} {a_op a_fieldA a_fieldB a_fieldC a_in a_out a_regs a_at a_done a_states : Nat → Int32} (h7 : ¬ x3 = 7) (h8 : ¬ x3 = 8) (h : wY_carryOut_171 post x2 x3 x4 f_threads f_lines a_op a_fieldA a_fieldB a_fieldC a_in a_out a_regs a_at a_done a_states) : wY_carryOut_122 post x2 x3 x4 x5 f_threads f_lines a_op a_fieldA a_fieldB a_fieldC a_in a_out a_regs a_at a_done a_states := by
  unfold wY_carryOut_122
  refine br_f h7 ?_
  unfold wY_carryOut_145
  exact br_f h8 h
theorem wq_y108 {post : Int32 → SY → Prop} {x1 x2 x3 x4 x5 : Int32} {f_threads f_lines : Int32} {a_op a_fieldA a_fieldB a_fieldC a_in a_out a_regs a_at a_done a_states : Nat → Int32} (h6 : ¬ x3 = 6) (h7 : ¬ x3 = 7) (h8 : ¬ x3 = 8) (h : wY_carryOut_171 post x2 x3 x4 f_threads f_lines a_op a_fieldA a_fieldB a_fieldC a_in a_out a_regs a_at a_done a_states) : wY_carryOut_108 post x1 x2 x3 x4 x5 f_threads f_lines a_op a_fieldA a_fieldB a_fieldC a_in a_out a_regs a_at a_done a_states := by
  unfold wY_carryOut_108
  exact br_f h6 (wq_y122 h7 h8 h)
theorem wq_y83 {post : Int32 → SY → Prop} {x1 x2 x3 x4 x5 x6 : Int32} {f_threads f_lines : Int32} {a_op a_fieldA a_fieldB a_fieldC a_in a_out a_regs a_at a_done a_states : Nat → Int32} (hn : ¬ (x3 = 1 ∨ x3 = 2 ∨ x3 = 3 ∨ x3 = 4 ∨ x3 = 5)) (h : wY_carryOut_108 post x1 x2 x3 x4 x5 f_threads f_lines a_op a_fieldA a_fieldB a_fieldC a_in a_out a_regs a_at a_done a_states) : wY_carryOut_83 post x1 x2 x3 x4 x5 x6 f_threads f_lines a_op a_fieldA a_fieldB a_fieldC a_in a_out a_regs a_at a_done a_states := by
  unfold wY_carryOut_83
  exact br_c (fun _ => h) (fun a => br_c (fun _ => h) (fun b => absurd (wq_15 a b) hn))
theorem wq_ywk {post : Int32 → SY → Prop} {x1 x2 x3 x4 x5 x6 : Int32} {f_threads f_lines : Int32} {a_op a_fieldA a_fieldB a_fieldC a_in a_out a_regs a_at a_done a_states : Nat → Int32} {A : Nat} {r : Int32} (ha : ¬ x3 < 1) (hb : ¬ 5 < x3) (h6 : ¬ x3 = 6) (h7 : ¬ x3 = 7) (h8 : ¬ x3 = 8) (i4 : vp_in x4 32) (c4 : x4.toNatClampNeg = A) (wk : ∀ post : Int32 → Prop, post r → wpY_worked post x3 x5 x6) (h : wY_carryOut_171 post x2 x3 x4 f_threads f_lines a_op a_fieldA a_fieldB a_fieldC a_in a_out (upd a_regs A r) a_at a_done a_states) : wY_carryOut_83 post x1 x2 x3 x4 x5 x6 f_threads f_lines a_op a_fieldA a_fieldB a_fieldC a_in a_out a_regs a_at a_done a_states := by
  unfold wY_carryOut_83
  rw [c4]
  exact br_f ha (br_f hb (wk _ ⟨i4, nm_e (wq_y108 h6 h7 h8 h)⟩))
theorem wq_co0 {L T t l : Nat} {op fa fb fc inp : Nat → Int32} (ht : t < 8) (hl : l < 32) (hk : op l = 0) (out g : Nat → Int32) : (∀ (post : SX → Prop) (ll sc st : Nat → Int32), post (nI L, nI T, op, fa, fb, fc, inp, out, wq_rs (4 * t + 4) (upd g (wq_ix t (fa l)) (fb l)), ll, sc, st) → wpX_carryOut post (nI L, nI T, op, fa, fb, fc, inp, out, wq_rs (4 * t + 4) g, ll, sc, st) (nI t) (nI l)) ∧ (∀ (post : Int32 → SY → Prop) (ll sc st : Nat → Int32), ll t = nI l → wY_carryOut_171 post (nI l) (op l) (nI (wq_ix t (fa l))) (nI T) (nI L) op fa fb fc inp out (upd g (wq_ix t (fa l)) (fb l)) ll sc st → wpY_carryOut post (nI T, nI L, op, fa, fb, fc, inp, out, g, ll, sc, st) (nI t)) := by
  have cl : (nI l).toNatClampNeg = l := nI_clamp (by omega)
  have il : vp_in (nI l) 32 := vp_in_nI hl (by omega)
  have ct : (nI t).toNatClampNeg = t := nI_clamp (by omega)
  have it : vp_in (nI t) 8 := vp_in_nI ht (by omega)
  have hA := wq_ix_lt t (fa l)
  have hB := wq_ix_lt t (fb l)
  have hC := wq_ix_lt t (fc l)
  have cA : (nI (wq_ix t (fa l))).toNatClampNeg = wq_ix t (fa l) := nI_clamp (by omega)
  have cB : (nI (wq_ix t (fb l))).toNatClampNeg = wq_ix t (fb l) := nI_clamp (by omega)
  have cC : (nI (wq_ix t (fc l))).toNatClampNeg = wq_ix t (fc l) := nI_clamp (by omega)
  have iA : vp_in (nI (wq_ix t (fa l))) 32 := vp_in_nI (by omega) (by omega)
  have iB : vp_in (nI (wq_ix t (fb l))) 32 := vp_in_nI (by omega) (by omega)
  have iC : vp_in (nI (wq_ix t (fc l))) 32 := vp_in_nI (by omega) (by omega)
  refine ⟨fun post ll sc st h => ?_, fun post ll sc st hll h => ?_⟩
  · unfold wpX_carryOut
    dsimp only
    intro x3 e3
    subst e3
    rw [cl, wq_ixX t (fa l), wq_ixX t (fb l), wq_ixX t (fc l)]
    refine ⟨il, ?_⟩
    intro x4 e4
    subst e4
    rw [cA, cB, cC]
    refine ⟨il, iB, nm_r (wq_rs_in hB) ⟨il, iC, nm_r (wq_rs_in hC) ⟨il, nm_e ?_⟩⟩⟩
    exact br_f (by rw [hk]; decide) (br_f (by rw [hk]; decide) (br_t hk ⟨il, iA, nm_r (wq_rs_upd hA) h⟩))
  · unfold wpY_carryOut
    dsimp only
    rw [ct, hll]
    refine ⟨it, ?_⟩
    intro x2 e2
    subst e2
    rw [cl, wq_ixY t (fa l), wq_ixY t (fb l), wq_ixY t (fc l), cB, cC]
    refine ⟨il, nm_e ⟨il, nm_e ⟨il, iB, nm_e ⟨il, iC, nm_e ?_⟩⟩⟩⟩
    rw [cA]
    exact br_t hk ⟨il, iA, nm_e (wq_y83 (by rw [hk]; decide) (wq_y108 (by rw [hk]; decide) (by rw [hk]; decide) (by rw [hk]; decide) h))⟩
theorem wq_co1 {L T t l : Nat} {op fa fb fc inp : Nat → Int32} (ht : t < 8) (hl : l < 32) (hk : op l = 1) (out g : Nat → Int32) : (∀ (post : SX → Prop) (ll sc st : Nat → Int32), post (nI L, nI T, op, fa, fb, fc, inp, out, wq_rs (4 * t + 4) (upd g (wq_ix t (fa l)) (g (wq_ix t (fb l)) + g (wq_ix t (fc l)))), ll, sc, st) → wpX_carryOut post (nI L, nI T, op, fa, fb, fc, inp, out, wq_rs (4 * t + 4) g, ll, sc, st) (nI t) (nI l)) ∧ (∀ (post : Int32 → SY → Prop) (ll sc st : Nat → Int32), ll t = nI l → wY_carryOut_171 post (nI l) (op l) (nI (wq_ix t (fa l))) (nI T) (nI L) op fa fb fc inp out (upd g (wq_ix t (fa l)) (g (wq_ix t (fb l)) + g (wq_ix t (fc l)))) ll sc st → wpY_carryOut post (nI T, nI L, op, fa, fb, fc, inp, out, g, ll, sc, st) (nI t)) := by
  have cl : (nI l).toNatClampNeg = l := nI_clamp (by omega)
  have il : vp_in (nI l) 32 := vp_in_nI hl (by omega)
  have ct : (nI t).toNatClampNeg = t := nI_clamp (by omega)
  have it : vp_in (nI t) 8 := vp_in_nI ht (by omega)
  have hA := wq_ix_lt t (fa l)
  have hB := wq_ix_lt t (fb l)
  have hC := wq_ix_lt t (fc l)
  have cA : (nI (wq_ix t (fa l))).toNatClampNeg = wq_ix t (fa l) := nI_clamp (by omega)
  have cB : (nI (wq_ix t (fb l))).toNatClampNeg = wq_ix t (fb l) := nI_clamp (by omega)
  have cC : (nI (wq_ix t (fc l))).toNatClampNeg = wq_ix t (fc l) := nI_clamp (by omega)
  have iA : vp_in (nI (wq_ix t (fa l))) 32 := vp_in_nI (by omega) (by omega)
  have iB : vp_in (nI (wq_ix t (fb l))) 32 := vp_in_nI (by omega) (by omega)
  have iC : vp_in (nI (wq_ix t (fc l))) 32 := vp_in_nI (by omega) (by omega)
  refine ⟨fun post ll sc st h => ?_, fun post ll sc st hll h => ?_⟩
  · unfold wpX_carryOut
    dsimp only
    intro x3 e3
    subst e3
    rw [cl, wq_ixX t (fa l), wq_ixX t (fb l), wq_ixX t (fc l)]
    refine ⟨il, ?_⟩
    intro x4 e4
    subst e4
    rw [cA, cB, cC]
    refine ⟨il, iB, nm_r (wq_rs_in hB) ⟨il, iC, nm_r (wq_rs_in hC) ⟨il, nm_e ?_⟩⟩⟩
    exact br_f (by rw [hk]; decide) (br_f (by rw [hk]; decide) (br_f (by rw [hk]; decide) (br_t hk ⟨iA, nm_r (wq_rs_upd hA) h⟩)))
  · unfold wpY_carryOut
    dsimp only
    rw [ct, hll]
    refine ⟨it, ?_⟩
    intro x2 e2
    subst e2
    rw [cl, wq_ixY t (fa l), wq_ixY t (fb l), wq_ixY t (fc l), cB, cC]
    refine ⟨il, nm_e ⟨il, nm_e ⟨il, iB, nm_e ⟨il, iC, nm_e ?_⟩⟩⟩⟩
    rw [cA]
    exact br_f (by rw [hk]; decide) (wq_ywk (by rw [hk]; decide) (by rw [hk]; decide) (by rw [hk]; decide) (by rw [hk]; decide) (by rw [hk]; decide) iA cA (fun q hq => br_t hk hq) h)
theorem wq_co2 {L T t l : Nat} {op fa fb fc inp : Nat → Int32} (ht : t < 8) (hl : l < 32) (hk : op l = 2) (out g : Nat → Int32) : (∀ (post : SX → Prop) (ll sc st : Nat → Int32), post (nI L, nI T, op, fa, fb, fc, inp, out, wq_rs (4 * t + 4) (upd g (wq_ix t (fa l)) (g (wq_ix t (fb l)) - g (wq_ix t (fc l)))), ll, sc, st) → wpX_carryOut post (nI L, nI T, op, fa, fb, fc, inp, out, wq_rs (4 * t + 4) g, ll, sc, st) (nI t) (nI l)) ∧ (∀ (post : Int32 → SY → Prop) (ll sc st : Nat → Int32), ll t = nI l → wY_carryOut_171 post (nI l) (op l) (nI (wq_ix t (fa l))) (nI T) (nI L) op fa fb fc inp out (upd g (wq_ix t (fa l)) (g (wq_ix t (fb l)) - g (wq_ix t (fc l)))) ll sc st → wpY_carryOut post (nI T, nI L, op, fa, fb, fc, inp, out, g, ll, sc, st) (nI t)) := by
  have cl : (nI l).toNatClampNeg = l := nI_clamp (by omega)
  have il : vp_in (nI l) 32 := vp_in_nI hl (by omega)
  have ct : (nI t).toNatClampNeg = t := nI_clamp (by omega)
  have it : vp_in (nI t) 8 := vp_in_nI ht (by omega)
  have hA := wq_ix_lt t (fa l)
  have hB := wq_ix_lt t (fb l)
  have hC := wq_ix_lt t (fc l)
  have cA : (nI (wq_ix t (fa l))).toNatClampNeg = wq_ix t (fa l) := nI_clamp (by omega)
  have cB : (nI (wq_ix t (fb l))).toNatClampNeg = wq_ix t (fb l) := nI_clamp (by omega)
  have cC : (nI (wq_ix t (fc l))).toNatClampNeg = wq_ix t (fc l) := nI_clamp (by omega)
  have iA : vp_in (nI (wq_ix t (fa l))) 32 := vp_in_nI (by omega) (by omega)
  have iB : vp_in (nI (wq_ix t (fb l))) 32 := vp_in_nI (by omega) (by omega)
  have iC : vp_in (nI (wq_ix t (fc l))) 32 := vp_in_nI (by omega) (by omega)
  refine ⟨fun post ll sc st h => ?_, fun post ll sc st hll h => ?_⟩
  · unfold wpX_carryOut
    dsimp only
    intro x3 e3
    subst e3
    rw [cl, wq_ixX t (fa l), wq_ixX t (fb l), wq_ixX t (fc l)]
    refine ⟨il, ?_⟩
    intro x4 e4
    subst e4
    rw [cA, cB, cC]
    refine ⟨il, iB, nm_r (wq_rs_in hB) ⟨il, iC, nm_r (wq_rs_in hC) ⟨il, nm_e ?_⟩⟩⟩
    exact br_f (by rw [hk]; decide) (br_f (by rw [hk]; decide) (br_f (by rw [hk]; decide) (br_f (by rw [hk]; decide) (br_t hk ⟨iA, nm_r (wq_rs_upd hA) h⟩))))
  · unfold wpY_carryOut
    dsimp only
    rw [ct, hll]
    refine ⟨it, ?_⟩
    intro x2 e2
    subst e2
    rw [cl, wq_ixY t (fa l), wq_ixY t (fb l), wq_ixY t (fc l), cB, cC]
    refine ⟨il, nm_e ⟨il, nm_e ⟨il, iB, nm_e ⟨il, iC, nm_e ?_⟩⟩⟩⟩
    rw [cA]
    exact br_f (by rw [hk]; decide) (wq_ywk (by rw [hk]; decide) (by rw [hk]; decide) (by rw [hk]; decide) (by rw [hk]; decide) (by rw [hk]; decide) iA cA (fun q hq => br_f (by rw [hk]; decide) (br_t hk hq)) h)
theorem wq_co3 {L T t l : Nat} {op fa fb fc inp : Nat → Int32} (ht : t < 8) (hl : l < 32) (hk : op l = 3) (out g : Nat → Int32) : (∀ (post : SX → Prop) (ll sc st : Nat → Int32), post (nI L, nI T, op, fa, fb, fc, inp, out, wq_rs (4 * t + 4) (upd g (wq_ix t (fa l)) (g (wq_ix t (fb l)) * g (wq_ix t (fc l)))), ll, sc, st) → wpX_carryOut post (nI L, nI T, op, fa, fb, fc, inp, out, wq_rs (4 * t + 4) g, ll, sc, st) (nI t) (nI l)) ∧ (∀ (post : Int32 → SY → Prop) (ll sc st : Nat → Int32), ll t = nI l → wY_carryOut_171 post (nI l) (op l) (nI (wq_ix t (fa l))) (nI T) (nI L) op fa fb fc inp out (upd g (wq_ix t (fa l)) (g (wq_ix t (fb l)) * g (wq_ix t (fc l)))) ll sc st → wpY_carryOut post (nI T, nI L, op, fa, fb, fc, inp, out, g, ll, sc, st) (nI t)) := by
  have cl : (nI l).toNatClampNeg = l := nI_clamp (by omega)
  have il : vp_in (nI l) 32 := vp_in_nI hl (by omega)
  have ct : (nI t).toNatClampNeg = t := nI_clamp (by omega)
  have it : vp_in (nI t) 8 := vp_in_nI ht (by omega)
  have hA := wq_ix_lt t (fa l)
  have hB := wq_ix_lt t (fb l)
  have hC := wq_ix_lt t (fc l)
  have cA : (nI (wq_ix t (fa l))).toNatClampNeg = wq_ix t (fa l) := nI_clamp (by omega)
  have cB : (nI (wq_ix t (fb l))).toNatClampNeg = wq_ix t (fb l) := nI_clamp (by omega)
  have cC : (nI (wq_ix t (fc l))).toNatClampNeg = wq_ix t (fc l) := nI_clamp (by omega)
  have iA : vp_in (nI (wq_ix t (fa l))) 32 := vp_in_nI (by omega) (by omega)
  have iB : vp_in (nI (wq_ix t (fb l))) 32 := vp_in_nI (by omega) (by omega)
  have iC : vp_in (nI (wq_ix t (fc l))) 32 := vp_in_nI (by omega) (by omega)
  refine ⟨fun post ll sc st h => ?_, fun post ll sc st hll h => ?_⟩
  · unfold wpX_carryOut
    dsimp only
    intro x3 e3
    subst e3
    rw [cl, wq_ixX t (fa l), wq_ixX t (fb l), wq_ixX t (fc l)]
    refine ⟨il, ?_⟩
    intro x4 e4
    subst e4
    rw [cA, cB, cC]
    refine ⟨il, iB, nm_r (wq_rs_in hB) ⟨il, iC, nm_r (wq_rs_in hC) ⟨il, nm_e ?_⟩⟩⟩
    exact br_f (by rw [hk]; decide) (br_f (by rw [hk]; decide) (br_f (by rw [hk]; decide) (br_f (by rw [hk]; decide) (br_f (by rw [hk]; decide) (br_t hk ⟨iA, nm_r (wq_rs_upd hA) h⟩)))))
  · unfold wpY_carryOut
    dsimp only
    rw [ct, hll]
    refine ⟨it, ?_⟩
    intro x2 e2
    subst e2
    rw [cl, wq_ixY t (fa l), wq_ixY t (fb l), wq_ixY t (fc l), cB, cC]
    refine ⟨il, nm_e ⟨il, nm_e ⟨il, iB, nm_e ⟨il, iC, nm_e ?_⟩⟩⟩⟩
    rw [cA]
    exact br_f (by rw [hk]; decide) (wq_ywk (by rw [hk]; decide) (by rw [hk]; decide) (by rw [hk]; decide) (by rw [hk]; decide) (by rw [hk]; decide) iA cA (fun q hq => br_f (by rw [hk]; decide) (br_f (by rw [hk]; decide) (br_t hk hq))) h)
theorem wq_co4 {L T t l : Nat} {op fa fb fc inp : Nat → Int32} (ht : t < 8) (hl : l < 32) (hk : op l = 4) (out g : Nat → Int32) : (∀ (post : SX → Prop) (ll sc st : Nat → Int32), post (nI L, nI T, op, fa, fb, fc, inp, out, wq_rs (4 * t + 4) (upd g (wq_ix t (fa l)) (g (wq_ix t (fb l)) &&& g (wq_ix t (fc l)))), ll, sc, st) → wpX_carryOut post (nI L, nI T, op, fa, fb, fc, inp, out, wq_rs (4 * t + 4) g, ll, sc, st) (nI t) (nI l)) ∧ (∀ (post : Int32 → SY → Prop) (ll sc st : Nat → Int32), ll t = nI l → wY_carryOut_171 post (nI l) (op l) (nI (wq_ix t (fa l))) (nI T) (nI L) op fa fb fc inp out (upd g (wq_ix t (fa l)) (g (wq_ix t (fb l)) &&& g (wq_ix t (fc l)))) ll sc st → wpY_carryOut post (nI T, nI L, op, fa, fb, fc, inp, out, g, ll, sc, st) (nI t)) := by
  have cl : (nI l).toNatClampNeg = l := nI_clamp (by omega)
  have il : vp_in (nI l) 32 := vp_in_nI hl (by omega)
  have ct : (nI t).toNatClampNeg = t := nI_clamp (by omega)
  have it : vp_in (nI t) 8 := vp_in_nI ht (by omega)
  have hA := wq_ix_lt t (fa l)
  have hB := wq_ix_lt t (fb l)
  have hC := wq_ix_lt t (fc l)
  have cA : (nI (wq_ix t (fa l))).toNatClampNeg = wq_ix t (fa l) := nI_clamp (by omega)
  have cB : (nI (wq_ix t (fb l))).toNatClampNeg = wq_ix t (fb l) := nI_clamp (by omega)
  have cC : (nI (wq_ix t (fc l))).toNatClampNeg = wq_ix t (fc l) := nI_clamp (by omega)
  have iA : vp_in (nI (wq_ix t (fa l))) 32 := vp_in_nI (by omega) (by omega)
  have iB : vp_in (nI (wq_ix t (fb l))) 32 := vp_in_nI (by omega) (by omega)
  have iC : vp_in (nI (wq_ix t (fc l))) 32 := vp_in_nI (by omega) (by omega)
  refine ⟨fun post ll sc st h => ?_, fun post ll sc st hll h => ?_⟩
  · unfold wpX_carryOut
    dsimp only
    intro x3 e3
    subst e3
    rw [cl, wq_ixX t (fa l), wq_ixX t (fb l), wq_ixX t (fc l)]
    refine ⟨il, ?_⟩
    intro x4 e4
    subst e4
    rw [cA, cB, cC]
    refine ⟨il, iB, nm_r (wq_rs_in hB) ⟨il, iC, nm_r (wq_rs_in hC) ⟨il, nm_e ?_⟩⟩⟩
    exact br_f (by rw [hk]; decide) (br_f (by rw [hk]; decide) (br_f (by rw [hk]; decide) (br_f (by rw [hk]; decide) (br_f (by rw [hk]; decide) (br_f (by rw [hk]; decide) (br_t hk ⟨iA, nm_r (wq_rs_upd hA) h⟩))))))
  · unfold wpY_carryOut
    dsimp only
    rw [ct, hll]
    refine ⟨it, ?_⟩
    intro x2 e2
    subst e2
    rw [cl, wq_ixY t (fa l), wq_ixY t (fb l), wq_ixY t (fc l), cB, cC]
    refine ⟨il, nm_e ⟨il, nm_e ⟨il, iB, nm_e ⟨il, iC, nm_e ?_⟩⟩⟩⟩
    rw [cA]
    exact br_f (by rw [hk]; decide) (wq_ywk (by rw [hk]; decide) (by rw [hk]; decide) (by rw [hk]; decide) (by rw [hk]; decide) (by rw [hk]; decide) iA cA (fun q hq => br_f (by rw [hk]; decide) (br_f (by rw [hk]; decide) (br_f (by rw [hk]; decide) (br_t hk hq)))) h)
theorem wq_co5f {L T t l : Nat} {op fa fb fc inp : Nat → Int32} (ht : t < 8) (hl : l < 32) (hk : op l = 5) (out g : Nat → Int32) (hz : g (wq_ix t (fc l)) ≤ g (wq_ix t (fb l))) : (∀ (post : SX → Prop) (ll sc st : Nat → Int32), post (nI L, nI T, op, fa, fb, fc, inp, out, wq_rs (4 * t + 4) (upd g (wq_ix t (fa l)) (0)), ll, sc, st) → wpX_carryOut post (nI L, nI T, op, fa, fb, fc, inp, out, wq_rs (4 * t + 4) g, ll, sc, st) (nI t) (nI l)) ∧ (∀ (post : Int32 → SY → Prop) (ll sc st : Nat → Int32), ll t = nI l → wY_carryOut_171 post (nI l) (op l) (nI (wq_ix t (fa l))) (nI T) (nI L) op fa fb fc inp out (upd g (wq_ix t (fa l)) (0)) ll sc st → wpY_carryOut post (nI T, nI L, op, fa, fb, fc, inp, out, g, ll, sc, st) (nI t)) := by
  have cl : (nI l).toNatClampNeg = l := nI_clamp (by omega)
  have il : vp_in (nI l) 32 := vp_in_nI hl (by omega)
  have ct : (nI t).toNatClampNeg = t := nI_clamp (by omega)
  have it : vp_in (nI t) 8 := vp_in_nI ht (by omega)
  have hA := wq_ix_lt t (fa l)
  have hB := wq_ix_lt t (fb l)
  have hC := wq_ix_lt t (fc l)
  have cA : (nI (wq_ix t (fa l))).toNatClampNeg = wq_ix t (fa l) := nI_clamp (by omega)
  have cB : (nI (wq_ix t (fb l))).toNatClampNeg = wq_ix t (fb l) := nI_clamp (by omega)
  have cC : (nI (wq_ix t (fc l))).toNatClampNeg = wq_ix t (fc l) := nI_clamp (by omega)
  have iA : vp_in (nI (wq_ix t (fa l))) 32 := vp_in_nI (by omega) (by omega)
  have iB : vp_in (nI (wq_ix t (fb l))) 32 := vp_in_nI (by omega) (by omega)
  have iC : vp_in (nI (wq_ix t (fc l))) 32 := vp_in_nI (by omega) (by omega)
  refine ⟨fun post ll sc st h => ?_, fun post ll sc st hll h => ?_⟩
  · unfold wpX_carryOut
    dsimp only
    intro x3 e3
    subst e3
    rw [cl, wq_ixX t (fa l), wq_ixX t (fb l), wq_ixX t (fc l)]
    refine ⟨il, ?_⟩
    intro x4 e4
    subst e4
    rw [cA, cB, cC]
    refine ⟨il, iB, nm_r (wq_rs_in hB) ⟨il, iC, nm_r (wq_rs_in hC) ⟨il, nm_e ?_⟩⟩⟩
    exact br_f (by rw [hk]; decide) (br_f (by rw [hk]; decide) (br_f (by rw [hk]; decide) (br_f (by rw [hk]; decide) (br_f (by rw [hk]; decide) (br_f (by rw [hk]; decide) (br_f (by rw [hk]; decide) (br_t hk (br_t hz ⟨iA, nm_r (wq_rs_upd hA) h⟩))))))))
  · unfold wpY_carryOut
    dsimp only
    rw [ct, hll]
    refine ⟨it, ?_⟩
    intro x2 e2
    subst e2
    rw [cl, wq_ixY t (fa l), wq_ixY t (fb l), wq_ixY t (fc l), cB, cC]
    refine ⟨il, nm_e ⟨il, nm_e ⟨il, iB, nm_e ⟨il, iC, nm_e ?_⟩⟩⟩⟩
    rw [cA]
    exact br_f (by rw [hk]; decide) (wq_ywk (by rw [hk]; decide) (by rw [hk]; decide) (by rw [hk]; decide) (by rw [hk]; decide) (by rw [hk]; decide) iA cA (fun q hq => br_f (by rw [hk]; decide) (br_f (by rw [hk]; decide) (br_f (by rw [hk]; decide) (br_f (by rw [hk]; decide) (br_t hz hq))))) h)
theorem wq_co5t {L T t l : Nat} {op fa fb fc inp : Nat → Int32} (ht : t < 8) (hl : l < 32) (hk : op l = 5) (out g : Nat → Int32) (hz : ¬ g (wq_ix t (fc l)) ≤ g (wq_ix t (fb l))) : (∀ (post : SX → Prop) (ll sc st : Nat → Int32), post (nI L, nI T, op, fa, fb, fc, inp, out, wq_rs (4 * t + 4) (upd g (wq_ix t (fa l)) (1)), ll, sc, st) → wpX_carryOut post (nI L, nI T, op, fa, fb, fc, inp, out, wq_rs (4 * t + 4) g, ll, sc, st) (nI t) (nI l)) ∧ (∀ (post : Int32 → SY → Prop) (ll sc st : Nat → Int32), ll t = nI l → wY_carryOut_171 post (nI l) (op l) (nI (wq_ix t (fa l))) (nI T) (nI L) op fa fb fc inp out (upd g (wq_ix t (fa l)) (1)) ll sc st → wpY_carryOut post (nI T, nI L, op, fa, fb, fc, inp, out, g, ll, sc, st) (nI t)) := by
  have cl : (nI l).toNatClampNeg = l := nI_clamp (by omega)
  have il : vp_in (nI l) 32 := vp_in_nI hl (by omega)
  have ct : (nI t).toNatClampNeg = t := nI_clamp (by omega)
  have it : vp_in (nI t) 8 := vp_in_nI ht (by omega)
  have hA := wq_ix_lt t (fa l)
  have hB := wq_ix_lt t (fb l)
  have hC := wq_ix_lt t (fc l)
  have cA : (nI (wq_ix t (fa l))).toNatClampNeg = wq_ix t (fa l) := nI_clamp (by omega)
  have cB : (nI (wq_ix t (fb l))).toNatClampNeg = wq_ix t (fb l) := nI_clamp (by omega)
  have cC : (nI (wq_ix t (fc l))).toNatClampNeg = wq_ix t (fc l) := nI_clamp (by omega)
  have iA : vp_in (nI (wq_ix t (fa l))) 32 := vp_in_nI (by omega) (by omega)
  have iB : vp_in (nI (wq_ix t (fb l))) 32 := vp_in_nI (by omega) (by omega)
  have iC : vp_in (nI (wq_ix t (fc l))) 32 := vp_in_nI (by omega) (by omega)
  refine ⟨fun post ll sc st h => ?_, fun post ll sc st hll h => ?_⟩
  · unfold wpX_carryOut
    dsimp only
    intro x3 e3
    subst e3
    rw [cl, wq_ixX t (fa l), wq_ixX t (fb l), wq_ixX t (fc l)]
    refine ⟨il, ?_⟩
    intro x4 e4
    subst e4
    rw [cA, cB, cC]
    refine ⟨il, iB, nm_r (wq_rs_in hB) ⟨il, iC, nm_r (wq_rs_in hC) ⟨il, nm_e ?_⟩⟩⟩
    exact br_f (by rw [hk]; decide) (br_f (by rw [hk]; decide) (br_f (by rw [hk]; decide) (br_f (by rw [hk]; decide) (br_f (by rw [hk]; decide) (br_f (by rw [hk]; decide) (br_f (by rw [hk]; decide) (br_t hk (br_f hz ⟨iA, nm_r (wq_rs_upd hA) h⟩))))))))
  · unfold wpY_carryOut
    dsimp only
    rw [ct, hll]
    refine ⟨it, ?_⟩
    intro x2 e2
    subst e2
    rw [cl, wq_ixY t (fa l), wq_ixY t (fb l), wq_ixY t (fc l), cB, cC]
    refine ⟨il, nm_e ⟨il, nm_e ⟨il, iB, nm_e ⟨il, iC, nm_e ?_⟩⟩⟩⟩
    rw [cA]
    exact br_f (by rw [hk]; decide) (wq_ywk (by rw [hk]; decide) (by rw [hk]; decide) (by rw [hk]; decide) (by rw [hk]; decide) (by rw [hk]; decide) iA cA (fun q hq => br_f (by rw [hk]; decide) (br_f (by rw [hk]; decide) (br_f (by rw [hk]; decide) (br_f (by rw [hk]; decide) (br_f hz hq))))) h)
theorem wq_co6 {L T t l : Nat} {op fa fb fc inp : Nat → Int32} (ht : t < 8) (hl : l < 32) (hk : op l = 6) (out g : Nat → Int32) : (∀ (post : SX → Prop) (ll sc st : Nat → Int32), post (nI L, nI T, op, fa, fb, fc, inp, out, wq_rs (4 * t + 4) (upd g (wq_ix t (fa l)) (nI t)), ll, sc, st) → wpX_carryOut post (nI L, nI T, op, fa, fb, fc, inp, out, wq_rs (4 * t + 4) g, ll, sc, st) (nI t) (nI l)) ∧ (∀ (post : Int32 → SY → Prop) (ll sc st : Nat → Int32), ll t = nI l → wY_carryOut_171 post (nI l) (op l) (nI (wq_ix t (fa l))) (nI T) (nI L) op fa fb fc inp out (upd g (wq_ix t (fa l)) (nI t)) ll sc st → wpY_carryOut post (nI T, nI L, op, fa, fb, fc, inp, out, g, ll, sc, st) (nI t)) := by
  have cl : (nI l).toNatClampNeg = l := nI_clamp (by omega)
  have il : vp_in (nI l) 32 := vp_in_nI hl (by omega)
  have ct : (nI t).toNatClampNeg = t := nI_clamp (by omega)
  have it : vp_in (nI t) 8 := vp_in_nI ht (by omega)
  have hA := wq_ix_lt t (fa l)
  have hB := wq_ix_lt t (fb l)
  have hC := wq_ix_lt t (fc l)
  have cA : (nI (wq_ix t (fa l))).toNatClampNeg = wq_ix t (fa l) := nI_clamp (by omega)
  have cB : (nI (wq_ix t (fb l))).toNatClampNeg = wq_ix t (fb l) := nI_clamp (by omega)
  have cC : (nI (wq_ix t (fc l))).toNatClampNeg = wq_ix t (fc l) := nI_clamp (by omega)
  have iA : vp_in (nI (wq_ix t (fa l))) 32 := vp_in_nI (by omega) (by omega)
  have iB : vp_in (nI (wq_ix t (fb l))) 32 := vp_in_nI (by omega) (by omega)
  have iC : vp_in (nI (wq_ix t (fc l))) 32 := vp_in_nI (by omega) (by omega)
  refine ⟨fun post ll sc st h => ?_, fun post ll sc st hll h => ?_⟩
  · unfold wpX_carryOut
    dsimp only
    intro x3 e3
    subst e3
    rw [cl, wq_ixX t (fa l), wq_ixX t (fb l), wq_ixX t (fc l)]
    refine ⟨il, ?_⟩
    intro x4 e4
    subst e4
    rw [cA, cB, cC]
    refine ⟨il, iB, nm_r (wq_rs_in hB) ⟨il, iC, nm_r (wq_rs_in hC) ⟨il, nm_e ?_⟩⟩⟩
    exact br_f (by rw [hk]; decide) (br_f (by rw [hk]; decide) (br_f (by rw [hk]; decide) (br_f (by rw [hk]; decide) (br_f (by rw [hk]; decide) (br_f (by rw [hk]; decide) (br_f (by rw [hk]; decide) (br_f (by rw [hk]; decide) (br_t hk ⟨iA, nm_r (wq_rs_upd hA) h⟩))))))))
  · unfold wpY_carryOut
    dsimp only
    rw [ct, hll]
    refine ⟨it, ?_⟩
    intro x2 e2
    subst e2
    rw [cl, wq_ixY t (fa l), wq_ixY t (fb l), wq_ixY t (fc l), cB, cC]
    refine ⟨il, nm_e ⟨il, nm_e ⟨il, iB, nm_e ⟨il, iC, nm_e ?_⟩⟩⟩⟩
    rw [cA]
    refine br_f (by rw [hk]; decide) (wq_y83 (by rw [hk]; decide) ?_)
    unfold wY_carryOut_108
    rw [cA]
    exact br_t hk ⟨iA, nm_e (wq_y122 (by rw [hk]; decide) (by rw [hk]; decide) h)⟩
theorem wq_co7 {L T t l : Nat} {op fa fb fc inp : Nat → Int32} (ht : t < 8) (hl : l < 32) (hk : op l = 7) (out g : Nat → Int32) : (∀ (post : SX → Prop) (ll sc st : Nat → Int32), post (nI L, nI T, op, fa, fb, fc, inp, out, wq_rs (4 * t + 4) (upd g (wq_ix t (fa l)) (inp (g (wq_ix t (fb l)) &&& 15).toNatClampNeg)), ll, sc, st) → wpX_carryOut post (nI L, nI T, op, fa, fb, fc, inp, out, wq_rs (4 * t + 4) g, ll, sc, st) (nI t) (nI l)) ∧ (∀ (post : Int32 → SY → Prop) (ll sc st : Nat → Int32), ll t = nI l → wY_carryOut_171 post (nI l) (op l) (nI (wq_ix t (fa l))) (nI T) (nI L) op fa fb fc inp out (upd g (wq_ix t (fa l)) (inp (g (wq_ix t (fb l)) &&& 15).toNatClampNeg)) ll sc st → wpY_carryOut post (nI T, nI L, op, fa, fb, fc, inp, out, g, ll, sc, st) (nI t)) := by
  have cl : (nI l).toNatClampNeg = l := nI_clamp (by omega)
  have il : vp_in (nI l) 32 := vp_in_nI hl (by omega)
  have ct : (nI t).toNatClampNeg = t := nI_clamp (by omega)
  have it : vp_in (nI t) 8 := vp_in_nI ht (by omega)
  have hA := wq_ix_lt t (fa l)
  have hB := wq_ix_lt t (fb l)
  have hC := wq_ix_lt t (fc l)
  have cA : (nI (wq_ix t (fa l))).toNatClampNeg = wq_ix t (fa l) := nI_clamp (by omega)
  have cB : (nI (wq_ix t (fb l))).toNatClampNeg = wq_ix t (fb l) := nI_clamp (by omega)
  have cC : (nI (wq_ix t (fc l))).toNatClampNeg = wq_ix t (fc l) := nI_clamp (by omega)
  have iA : vp_in (nI (wq_ix t (fa l))) 32 := vp_in_nI (by omega) (by omega)
  have iB : vp_in (nI (wq_ix t (fb l))) 32 := vp_in_nI (by omega) (by omega)
  have iC : vp_in (nI (wq_ix t (fc l))) 32 := vp_in_nI (by omega) (by omega)
  refine ⟨fun post ll sc st h => ?_, fun post ll sc st hll h => ?_⟩
  · unfold wpX_carryOut
    dsimp only
    intro x3 e3
    subst e3
    rw [cl, wq_ixX t (fa l), wq_ixX t (fb l), wq_ixX t (fc l)]
    refine ⟨il, ?_⟩
    intro x4 e4
    subst e4
    rw [cA, cB, cC]
    refine ⟨il, iB, nm_r (wq_rs_in hB) ⟨il, iC, nm_r (wq_rs_in hC) ⟨il, nm_e ?_⟩⟩⟩
    exact br_f (by rw [hk]; decide) (br_f (by rw [hk]; decide) (br_f (by rw [hk]; decide) (br_f (by rw [hk]; decide) (br_f (by rw [hk]; decide) (br_f (by rw [hk]; decide) (br_f (by rw [hk]; decide) (br_f (by rw [hk]; decide) (br_f (by rw [hk]; decide) (br_t hk ⟨wq_in15 _, iA, nm_r (wq_rs_upd hA) h⟩)))))))))
  · unfold wpY_carryOut
    dsimp only
    rw [ct, hll]
    refine ⟨it, ?_⟩
    intro x2 e2
    subst e2
    rw [cl, wq_ixY t (fa l), wq_ixY t (fb l), wq_ixY t (fc l), cB, cC]
    refine ⟨il, nm_e ⟨il, nm_e ⟨il, iB, nm_e ⟨il, iC, nm_e ?_⟩⟩⟩⟩
    rw [cA]
    refine br_f (by rw [hk]; decide) (wq_y83 (by rw [hk]; decide) ?_)
    unfold wY_carryOut_108
    refine br_f (by rw [hk]; decide) ?_
    unfold wY_carryOut_122
    rw [cA]
    refine br_t hk ⟨wq_in15 _, iA, nm_e ?_⟩
    unfold wY_carryOut_145
    exact br_f (by rw [hk]; decide) h
theorem wq_co8 {L T t l : Nat} {op fa fb fc inp : Nat → Int32} (ht : t < 8) (hl : l < 32) (hk : op l = 8) (out g : Nat → Int32) : (∀ (post : SX → Prop) (ll sc st : Nat → Int32), post (nI L, nI T, op, fa, fb, fc, inp, upd out (g (wq_ix t (fa l)) &&& 15).toNatClampNeg (out (g (wq_ix t (fa l)) &&& 15).toNatClampNeg + g (wq_ix t (fb l))), wq_rs (4 * t + 4) (g), ll, sc, st) → wpX_carryOut post (nI L, nI T, op, fa, fb, fc, inp, out, wq_rs (4 * t + 4) g, ll, sc, st) (nI t) (nI l)) ∧ (∀ (post : Int32 → SY → Prop) (ll sc st : Nat → Int32), ll t = nI l → wY_carryOut_171 post (nI l) (op l) (nI (wq_ix t (fa l))) (nI T) (nI L) op fa fb fc inp (upd out (g (wq_ix t (fa l)) &&& 15).toNatClampNeg (out (g (wq_ix t (fa l)) &&& 15).toNatClampNeg + g (wq_ix t (fb l)))) g ll sc st → wpY_carryOut post (nI T, nI L, op, fa, fb, fc, inp, out, g, ll, sc, st) (nI t)) := by
  have cl : (nI l).toNatClampNeg = l := nI_clamp (by omega)
  have il : vp_in (nI l) 32 := vp_in_nI hl (by omega)
  have ct : (nI t).toNatClampNeg = t := nI_clamp (by omega)
  have it : vp_in (nI t) 8 := vp_in_nI ht (by omega)
  have hA := wq_ix_lt t (fa l)
  have hB := wq_ix_lt t (fb l)
  have hC := wq_ix_lt t (fc l)
  have cA : (nI (wq_ix t (fa l))).toNatClampNeg = wq_ix t (fa l) := nI_clamp (by omega)
  have cB : (nI (wq_ix t (fb l))).toNatClampNeg = wq_ix t (fb l) := nI_clamp (by omega)
  have cC : (nI (wq_ix t (fc l))).toNatClampNeg = wq_ix t (fc l) := nI_clamp (by omega)
  have iA : vp_in (nI (wq_ix t (fa l))) 32 := vp_in_nI (by omega) (by omega)
  have iB : vp_in (nI (wq_ix t (fb l))) 32 := vp_in_nI (by omega) (by omega)
  have iC : vp_in (nI (wq_ix t (fc l))) 32 := vp_in_nI (by omega) (by omega)
  refine ⟨fun post ll sc st h => ?_, fun post ll sc st hll h => ?_⟩
  · unfold wpX_carryOut
    dsimp only
    intro x3 e3
    subst e3
    rw [cl, wq_ixX t (fa l), wq_ixX t (fb l), wq_ixX t (fc l)]
    refine ⟨il, ?_⟩
    intro x4 e4
    subst e4
    rw [cA, cB, cC]
    refine ⟨il, iB, nm_r (wq_rs_in hB) ⟨il, iC, nm_r (wq_rs_in hC) ⟨il, nm_e ?_⟩⟩⟩
    exact br_f (by rw [hk]; decide) (br_f (by rw [hk]; decide) (br_f (by rw [hk]; decide) (br_f (by rw [hk]; decide) (br_f (by rw [hk]; decide) (br_f (by rw [hk]; decide) (br_f (by rw [hk]; decide) (br_f (by rw [hk]; decide) (br_f (by rw [hk]; decide) (br_f (by rw [hk]; decide) (br_t hk ⟨iA, wq_in15 _, wq_in15 _, nm_r (by rw [wq_rs_in hA]) h⟩))))))))))
  · unfold wpY_carryOut
    dsimp only
    rw [ct, hll]
    refine ⟨it, ?_⟩
    intro x2 e2
    subst e2
    rw [cl, wq_ixY t (fa l), wq_ixY t (fb l), wq_ixY t (fc l), cB, cC]
    refine ⟨il, nm_e ⟨il, nm_e ⟨il, iB, nm_e ⟨il, iC, nm_e ?_⟩⟩⟩⟩
    rw [cA]
    refine br_f (by rw [hk]; decide) (wq_y83 (by rw [hk]; decide) ?_)
    unfold wY_carryOut_108
    refine br_f (by rw [hk]; decide) ?_
    unfold wY_carryOut_122
    refine br_f (by rw [hk]; decide) ?_
    unfold wY_carryOut_145
    rw [cA]
    exact br_t hk ⟨iA, wq_in15 _, wq_in15 _, nm_e h⟩
theorem wq_coE {L T t l : Nat} {op fa fb fc inp : Nat → Int32} (ht : t < 8) (hl : l < 32) (n0 : ¬ op l = 0) (n1 : ¬ op l = 1) (n2 : ¬ op l = 2) (n3 : ¬ op l = 3) (n4 : ¬ op l = 4) (n5 : ¬ op l = 5) (n6 : ¬ op l = 6) (n7 : ¬ op l = 7) (n8 : ¬ op l = 8) (out g : Nat → Int32) : (∀ (post : SX → Prop) (ll sc st : Nat → Int32), post (nI L, nI T, op, fa, fb, fc, inp, out, wq_rs (4 * t + 4) g, ll, sc, st) → wpX_carryOut post (nI L, nI T, op, fa, fb, fc, inp, out, wq_rs (4 * t + 4) g, ll, sc, st) (nI t) (nI l)) ∧ (∀ (post : Int32 → SY → Prop) (ll sc st : Nat → Int32), ll t = nI l → wY_carryOut_171 post (nI l) (op l) (nI (wq_ix t (fa l))) (nI T) (nI L) op fa fb fc inp out g ll sc st → wpY_carryOut post (nI T, nI L, op, fa, fb, fc, inp, out, g, ll, sc, st) (nI t)) := by
  have cl : (nI l).toNatClampNeg = l := nI_clamp (by omega)
  have il : vp_in (nI l) 32 := vp_in_nI hl (by omega)
  have ct : (nI t).toNatClampNeg = t := nI_clamp (by omega)
  have it : vp_in (nI t) 8 := vp_in_nI ht (by omega)
  have hA := wq_ix_lt t (fa l)
  have hB := wq_ix_lt t (fb l)
  have hC := wq_ix_lt t (fc l)
  have cA : (nI (wq_ix t (fa l))).toNatClampNeg = wq_ix t (fa l) := nI_clamp (by omega)
  have cB : (nI (wq_ix t (fb l))).toNatClampNeg = wq_ix t (fb l) := nI_clamp (by omega)
  have cC : (nI (wq_ix t (fc l))).toNatClampNeg = wq_ix t (fc l) := nI_clamp (by omega)
  have iA : vp_in (nI (wq_ix t (fa l))) 32 := vp_in_nI (by omega) (by omega)
  have iB : vp_in (nI (wq_ix t (fb l))) 32 := vp_in_nI (by omega) (by omega)
  have iC : vp_in (nI (wq_ix t (fc l))) 32 := vp_in_nI (by omega) (by omega)
  refine ⟨fun post ll sc st h => ?_, fun post ll sc st hll h => ?_⟩
  · unfold wpX_carryOut
    dsimp only
    intro x3 e3
    subst e3
    rw [cl, wq_ixX t (fa l), wq_ixX t (fb l), wq_ixX t (fc l)]
    refine ⟨il, ?_⟩
    intro x4 e4
    subst e4
    rw [cA, cB, cC]
    refine ⟨il, iB, nm_r (wq_rs_in hB) ⟨il, iC, nm_r (wq_rs_in hC) ⟨il, nm_e ?_⟩⟩⟩
    exact br_c (fun _ => h) (fun _ => br_c (fun _ => h) (fun _ => br_f n0 (br_f n1 (br_f n2 (br_f n3 (br_f n4 (br_f n5 (br_f n6 (br_f n7 (br_f n8 (trivial)))))))))))
  · unfold wpY_carryOut
    dsimp only
    rw [ct, hll]
    refine ⟨it, ?_⟩
    intro x2 e2
    subst e2
    rw [cl, wq_ixY t (fa l), wq_ixY t (fb l), wq_ixY t (fc l), cB, cC]
    refine ⟨il, nm_e ⟨il, nm_e ⟨il, iB, nm_e ⟨il, iC, nm_e ?_⟩⟩⟩⟩
    refine br_f n0 (wq_y83 ?_ (wq_y108 n6 n7 n8 h))
    rintro (z | z | z | z | z)
    · exact n1 z
    · exact n2 z
    · exact n3 z
    · exact n4 z
    · exact n5 z
theorem wq_co {L T t l : Nat} {op fa fb fc inp : Nat → Int32} (ht : t < 8) (hl : l < 32) (out g : Nat → Int32) : ∃ out' g' : Nat → Int32, (∀ j, 4 * t + 4 ≤ j → g' j = g j) ∧ (∀ (post : SX → Prop) (ll sc st : Nat → Int32), post (nI L, nI T, op, fa, fb, fc, inp, out', wq_rs (4 * t + 4) g', ll, sc, st) → wpX_carryOut post (nI L, nI T, op, fa, fb, fc, inp, out, wq_rs (4 * t + 4) g, ll, sc, st) (nI t) (nI l)) ∧ (∀ (post : Int32 → SY → Prop) (ll sc st : Nat → Int32), ll t = nI l → wY_carryOut_171 post (nI l) (op l) (nI (wq_ix t (fa l))) (nI T) (nI L) op fa fb fc inp out' g' ll sc st → wpY_carryOut post (nI T, nI L, op, fa, fb, fc, inp, out, g, ll, sc, st) (nI t)) := by
  have hA := wq_ix_lt t (fa l)
  have hu : ∀ (x : Int32) (j : Nat), 4 * t + 4 ≤ j → upd g (wq_ix t (fa l)) x j = g j := fun x j hj => pk_un (by omega)
  by_cases n0 : op l = 0
  · exact ⟨_, _, hu _, wq_co0 ht hl n0 out g⟩
  by_cases n1 : op l = 1
  · exact ⟨_, _, hu _, wq_co1 ht hl n1 out g⟩
  by_cases n2 : op l = 2
  · exact ⟨_, _, hu _, wq_co2 ht hl n2 out g⟩
  by_cases n3 : op l = 3
  · exact ⟨_, _, hu _, wq_co3 ht hl n3 out g⟩
  by_cases n4 : op l = 4
  · exact ⟨_, _, hu _, wq_co4 ht hl n4 out g⟩
  by_cases n5 : op l = 5
  · by_cases hz : g (wq_ix t (fc l)) ≤ g (wq_ix t (fb l))
    · exact ⟨_, _, hu _, wq_co5f ht hl n5 out g hz⟩
    · exact ⟨_, _, hu _, wq_co5t ht hl n5 out g hz⟩
  by_cases n6 : op l = 6
  · exact ⟨_, _, hu _, wq_co6 ht hl n6 out g⟩
  by_cases n7 : op l = 7
  · exact ⟨_, _, hu _, wq_co7 ht hl n7 out g⟩
  by_cases n8 : op l = 8
  · exact ⟨_, _, fun _ _ => rfl, wq_co8 ht hl n8 out g⟩
  exact ⟨_, _, fun _ _ => rfl, wq_coE ht hl n0 n1 n2 n3 n4 n5 n6 n7 n8 out g⟩
