section
/-! stores, masks, the register file cut at a thread, zeroed stretches (the pk_ rows are pasted from the kit's rows to paste) -/
theorem pk_us {f : Nat → Int32} {k : Nat} {x : Int32} : upd f k x k = x := if_pos rfl
theorem pk_un {f : Nat → Int32} {k j : Nat} {x : Int32} (h : j ≠ k) : upd f k x j = f j := if_neg h
theorem pk_mul (a b : Nat) : nI a * nI b = nI (a * b) := (Int32.ofNat_mul a b).symm
theorem pk_ix (x : Int32) {n : Nat} (hn : n < 2 ^ 31) : x < 0 ∨ nI n ≤ x ∨ ∃ j : Nat, j < n ∧ x = nI j := by
  by_cases h : x < 0
  · exact Or.inl h
  · obtain ⟨j, hj, rfl⟩ := nI_of h
    by_cases h2 : j < n
    · exact Or.inr (Or.inr ⟨j, h2, rfl⟩)
    · exact Or.inr (Or.inl (nI_le (by omega) hj))
theorem pk_and (x : Int32) {m : Int32} (k : Nat) (hm : m.toBitVec.toNat = 2 ^ k - 1) : x &&& m = nI (x.toBitVec.toNat % 2 ^ k) := by
  apply Int32.toBitVec_inj.mp
  apply BitVec.eq_of_toNat_eq
  rw [Int32.toBitVec_and, BitVec.toNat_and, hm, Nat.and_two_pow_sub_one_eq_mod]
  show _ = (BitVec.ofNat 32 _).toNat
  rw [BitVec.toNat_ofNat]
  exact (Nat.mod_eq_of_lt (Nat.lt_of_le_of_lt (Nat.mod_le _ _) x.toBitVec.isLt)).symm
theorem pk_andE (x : Int32) {m : Int32} (k : Nat) (hm : m.toBitVec.toNat = 2 ^ k - 1) : ∃ j : Nat, j < 2 ^ k ∧ x &&& m = nI j := ⟨_, Nat.mod_lt _ (Nat.two_pow_pos k), pk_and x k hm⟩
theorem pk_andIn (x : Int32) {m : Int32} (k : Nat) (hm : m.toBitVec.toNat = 2 ^ k - 1) (hk : k ≤ 30) : vp_in (x &&& m) (2 ^ k) := by
  obtain ⟨j, hj, e⟩ := pk_andE x k hm
  rw [e]
  exact vp_in_nI hj (Nat.lt_of_le_of_lt (Nat.pow_le_pow_right (by decide) hk) (by decide))
theorem wq_in15 (x : Int32) : vp_in (x &&& 15) 16 := pk_andIn x 4 (by decide) (by decide)
theorem wq_31 (x : Int32) : ∃ j : Nat, j ≤ 32 ∧ x &&& 31 = nI j := by
  obtain ⟨j, hj, e⟩ := pk_andE x (m := 31) 5 (by decide)
  exact ⟨j, by omega, e⟩
theorem wq_uu {f : Nat → Int32} {k : Nat} {x y : Int32} : upd (upd f k x) k y = upd f k y := by
  funext j
  by_cases h : j = k
  · subst h; rw [pk_us, pk_us]
  · rw [pk_un h, pk_un h, pk_un h]
def wq_rs (m : Nat) (g : Nat → Int32) : Nat → Int32 := fun j => if j < m then g j else 0
theorem wq_rs_in {m : Nat} {g : Nat → Int32} {j : Nat} (h : j < m) : wq_rs m g j = g j := if_pos h
theorem wq_rs_out {m : Nat} {g : Nat → Int32} {j : Nat} (h : ¬ j < m) : wq_rs m g j = 0 := if_neg h
theorem wq_rs_upd {m : Nat} {g : Nat → Int32} {i : Nat} {v : Int32} (h : i < m) : upd (wq_rs m g) i v = wq_rs m (upd g i v) := by
  funext j
  by_cases e : j = i
  · subst e; rw [pk_us, wq_rs_in h, pk_us]
  · rw [pk_un e]
    by_cases k : j < m
    · rw [wq_rs_in k, wq_rs_in k, pk_un e]
    · rw [wq_rs_out k, wq_rs_out k]
theorem wq_rs_all {m : Nat} {g : Nat → Int32} (h : ∀ j, m ≤ j → g j = 0) : wq_rs m g = g := by
  funext j
  by_cases k : j < m
  · exact wq_rs_in k
  · rw [wq_rs_out k, h j (by omega)]
def wq_zf (i n : Nat) (g : Nat → Int32) : Nat → Int32 := fun j => if i ≤ j ∧ j < n then 0 else g j
theorem wq_zf_in {i n : Nat} {g : Nat → Int32} {j : Nat} (h : i ≤ j ∧ j < n) : wq_zf i n g j = 0 := if_pos h
theorem wq_zf_out {i n : Nat} {g : Nat → Int32} {j : Nat} (h : ¬ (i ≤ j ∧ j < n)) : wq_zf i n g j = g j := if_neg h
theorem wq_zf_n (n : Nat) (g : Nat → Int32) : wq_zf n n g = g := by
  funext j
  exact wq_zf_out (by omega)
theorem wq_zf_s {i n : Nat} {g : Nat → Int32} (h : i < n) : wq_zf (i + 1) n (upd g i 0) = wq_zf i n g := by
  funext j
  by_cases e : j = i
  · subst e
    rw [wq_zf_out (by omega), pk_us, wq_zf_in (by omega)]
  · by_cases k : i ≤ j ∧ j < n
    · rw [wq_zf_in (by omega), wq_zf_in k]
    · rw [wq_zf_out (by omega), wq_zf_out k, pk_un e]
theorem wq_rs_zf (t : Nat) (g : Nat → Int32) : wq_rs (4 * t) g = wq_rs (4 * t + 4) (wq_zf (4 * t) (4 * t + 4) g) := by
  funext j
  by_cases a : j < 4 * t
  · rw [wq_rs_in a, wq_rs_in (by omega), wq_zf_out (by omega)]
  · rw [wq_rs_out a]
    by_cases b : j < 4 * t + 4
    · rw [wq_rs_in b, wq_zf_in (by omega)]
    · rw [wq_rs_out b]
theorem wq_zf_rs {T : Nat} (hT : T ≤ 8) {g : Nat → Int32} (h : ∀ j, 4 * T ≤ j → g j = 0) : wq_zf 0 32 g = wq_rs (4 * 0) g := by
  funext j
  rw [wq_rs_out (by omega)]
  by_cases a : j < 32
  · exact wq_zf_in (by omega)
  · rw [wq_zf_out (by omega), h j (by omega)]
def wq_ix (t : Nat) (x : Int32) : Nat := 4 * t + x.toBitVec.toNat % 4
theorem wq_ix_lt (t : Nat) (x : Int32) : wq_ix t x < 4 * t + 4 := by unfold wq_ix; omega
theorem wq_ixX (t : Nat) (x : Int32) : nI t * 4 + (x &&& 3) = nI (wq_ix t x) := by
  rw [pk_and x 2 (by decide)]
  show nI t * nI 4 + nI _ = _
  rw [pk_mul, nI_add]
  exact congrArg nI (by unfold wq_ix; omega)
theorem wq_ixY (t : Nat) (x : Int32) : 4 * nI t + (x &&& 3) = nI (wq_ix t x) := by
  rw [pk_and x 2 (by decide)]
  show nI 4 * nI t + nI _ = _
  rw [pk_mul, nI_add]
  exact congrArg nI (by unfold wq_ix; omega)
theorem wq_ixN (t i : Nat) : 4 * nI t + nI i = nI (4 * t + i) := by
  show nI 4 * nI t + nI _ = _
  rw [pk_mul, nI_add]
theorem wq_15 {x : Int32} (h1 : ¬ x < 1) (h5 : ¬ 5 < x) : x = 1 ∨ x = 2 ∨ x = 3 ∨ x = 4 ∨ x = 5 := by
  have h0 : ¬ x < 0 := by
    intro z
    apply h1
    rw [Int32.lt_iff_toInt_lt] at z ⊢
    rw [show (0 : Int32).toInt = 0 from by decide] at z
    rw [show (1 : Int32).toInt = 1 from by decide]
    omega
  obtain ⟨j, hj, rfl⟩ := nI_of h0
  have a : 1 ≤ j := by
    by_cases z : j < 1
    · exact absurd (nI_lt (b := 1) z (by decide)) h1
    · omega
  have b : j ≤ 5 := by
    by_cases z : 5 < j
    · exact absurd (nI_lt (a := 5) z hj) h5
    · omega
  have c : j = 1 ∨ j = 2 ∨ j = 3 ∨ j = 4 ∨ j = 5 := by omega
  rcases c with rfl | rfl | rfl | rfl | rfl
  · exact Or.inl rfl
  · exact Or.inr (Or.inl rfl)
  · exact Or.inr (Or.inr (Or.inl rfl))
  · exact Or.inr (Or.inr (Or.inr (Or.inl rfl)))
  · exact Or.inr (Or.inr (Or.inr (Or.inr rfl)))
end
section
/-! carryOut and the line after: X and Y at one line of one thread -/
theorem wq_x44 {L T l r : Nat} {op fa fb fc inp out reg ll sc st : Nat → Int32} (hl : l < 32) (hr : fb l &&& 31 = nI r) (post : Int32 → Prop) (h : post (nI r)) : wX_lineAfter_44 post (nI l) (nI L) (nI T) op fa fb fc inp out reg ll sc st := by
  have cl : (nI l).toNatClampNeg = l := nI_clamp (by omega)
  have il : vp_in (nI l) 32 := vp_in_nI hl (by omega)
  unfold wX_lineAfter_44 wX_lineAfter_49
  rw [cl, hr]
  exact br_f (by decide) ⟨il, h⟩
theorem wq_x48 {L T l : Nat} {op fa fb fc inp out reg ll sc st : Nat → Int32} (post : Int32 → Prop) (h : post (nI (l + 1))) : wX_lineAfter_48 post (nI l) (nI L) (nI T) op fa fb fc inp out reg ll sc st := by
  unfold wX_lineAfter_48 wX_lineAfter_49
  rw [nI_1]
  exact br_t rfl h
theorem wq_nx {L T t l : Nat} {op fa fb fc inp : Nat → Int32} (ht : t < 8) (hl : l < 32) (g : Nat → Int32) : ∃ r : Nat, r ≤ 32 ∧ (∀ (post : Int32 → Prop) (out ll sc st : Nat → Int32), post (nI r) → wpX_lineAfter post (nI L, nI T, op, fa, fb, fc, inp, out, wq_rs (4 * t + 4) g, ll, sc, st) (nI t) (nI l)) ∧ (∀ (post : Int32 → SY → Prop) (out ll sc st : Nat → Int32), post (nI r) (nI T, nI L, op, fa, fb, fc, inp, out, g, ll, sc, st) → wY_carryOut_171 post (nI l) (op l) (nI (wq_ix t (fa l))) (nI T) (nI L) op fa fb fc inp out g ll sc st) := by
  have cl : (nI l).toNatClampNeg = l := nI_clamp (by omega)
  have il : vp_in (nI l) 32 := vp_in_nI hl (by omega)
  have hA := wq_ix_lt t (fa l)
  have cA : (nI (wq_ix t (fa l))).toNatClampNeg = wq_ix t (fa l) := nI_clamp (by omega)
  have iA : vp_in (nI (wq_ix t (fa l))) 32 := vp_in_nI (by omega) (by omega)
  obtain ⟨b, hb, eb⟩ := wq_31 (fb l)
  by_cases h9 : op l = 9
  · refine ⟨b, hb, fun post out ll sc st h => ?_, fun post out ll sc st h => ?_⟩
    · unfold wpX_lineAfter
      dsimp only
      rw [cl, wq_ixX, cA]
      exact ⟨il, iA, nm_e ⟨il, br_t h9 (wq_x44 hl eb post h)⟩⟩
    · unfold wY_carryOut_171
      rw [cl, eb]
      exact br_t h9 ⟨il, h⟩
  · by_cases h10 : op l = 10
    · by_cases z : g (wq_ix t (fa l)) = 0
      · refine ⟨b, hb, fun post out ll sc st h => ?_, fun post out ll sc st h => ?_⟩
        · unfold wpX_lineAfter
          dsimp only
          rw [cl, wq_ixX, cA, wq_rs_in hA]
          exact ⟨il, iA, nm_e ⟨il, br_f h9 ⟨il, br_t h10 (br_t z (wq_x44 hl eb post h))⟩⟩⟩
        · unfold wY_carryOut_171
          rw [cl, cA, eb]
          exact br_f h9 (br_t h10 ⟨iA, br_t z ⟨il, h⟩⟩)
      · refine ⟨l + 1, hl, fun post out ll sc st h => ?_, fun post out ll sc st h => ?_⟩
        · unfold wpX_lineAfter
          dsimp only
          rw [cl, wq_ixX, cA, wq_rs_in hA]
          exact ⟨il, iA, nm_e ⟨il, br_f h9 ⟨il, br_t h10 (br_f z (wq_x48 post h))⟩⟩⟩
        · unfold wY_carryOut_171
          rw [cl, cA, nI_1 l]
          exact br_f h9 (br_t h10 ⟨iA, br_f z h⟩)
    · refine ⟨l + 1, hl, fun post out ll sc st h => ?_, fun post out ll sc st h => ?_⟩
      · unfold wpX_lineAfter
        dsimp only
        rw [cl, wq_ixX, cA, wq_rs_in hA]
        exact ⟨il, iA, nm_e ⟨il, br_f h9 ⟨il, br_f h10 (wq_x48 post h)⟩⟩⟩
      · unfold wY_carryOut_171
        rw [nI_1 l]
        exact br_f h9 (br_f h10 h)
theorem wq_y122 {post : Int32 → SY → Prop} {x2 x3 x4 x5 : Int32} {f_threads f_lines : Int32} {a_op a_fieldA a_fieldB a_fieldC a_in a_out a_regs a_at a_done a_states : Nat → Int32} (h7 : ¬ x3 = 7) (h8 : ¬ x3 = 8) (h : wY_carryOut_171 post x2 x3 x4 f_threads f_lines a_op a_fieldA a_fieldB a_fieldC a_in a_out a_regs a_at a_done a_states) : wY_carryOut_122 post x2 x3 x4 x5 f_threads f_lines a_op a_fieldA a_fieldB a_fieldC a_in a_out a_regs a_at a_done a_states := by
  unfold wY_carryOut_122
  refine br_f h7 ?_
  unfold wY_carryOut_145
  exact br_f h8 h
theorem wq_y108 {post : Int32 → SY → Prop} {x1 x2 x3 x4 x5 : Int32} {f_threads f_lines : Int32} {a_op a_fieldA a_fieldB a_fieldC a_in a_out a_regs a_at a_done a_states : Nat → Int32} (h6 : ¬ x3 = 6) (h7 : ¬ x3 = 7) (h8 : ¬ x3 = 8) (h : wY_carryOut_171 post x2 x3 x4 f_threads f_lines a_op a_fieldA a_fieldB a_fieldC a_in a_out a_regs a_at a_done a_states) : wY_carryOut_108 post x1 x2 x3 x4 x5 f_threads f_lines a_op a_fieldA a_fieldB a_fieldC a_in a_out a_regs a_at a_done a_states := by
  unfold wY_carryOut_108
  exact br_f h6 (wq_y122 h7 h8 h)
theorem wq_y83 {post : Int32 → SY → Prop} {x1 x2 x3 x4 x5 x6 : Int32} {f_threads f_lines : Int32} {a_op a_fieldA a_fieldB a_fieldC a_in a_out a_regs a_at a_done a_states : Nat → Int32} (hn : ¬ (x3 = 1 ∨ x3 = 2 ∨ x3 = 3 ∨ x3 = 4 ∨ x3 = 5)) (h : wY_carryOut_108 post x1 x2 x3 x4 x5 f_threads f_lines a_op a_fieldA a_fieldB a_fieldC a_in a_out a_regs a_at a_done a_states) : wY_carryOut_83 post x1 x2 x3 x4 x5 x6 f_threads f_lines a_op a_fieldA a_fieldB a_fieldC a_in a_out a_regs a_at a_done a_states := by
  unfold wY_carryOut_83
  exact br_c (fun _ => h) (fun a => br_c (fun _ => h) (fun b => absurd (wq_15 a b) hn))
theorem wq_ywk {post : Int32 → SY → Prop} {x1 x2 x3 x4 x5 x6 : Int32} {f_threads f_lines : Int32} {a_op a_fieldA a_fieldB a_fieldC a_in a_out a_regs a_at a_done a_states : Nat → Int32} {A : Nat} {r : Int32} (ha : ¬ x3 < 1) (hb : ¬ 5 < x3) (h6 : ¬ x3 = 6) (h7 : ¬ x3 = 7) (h8 : ¬ x3 = 8) (i4 : vp_in x4 32) (c4 : x4.toNatClampNeg = A) (wk : ∀ post : Int32 → Prop, post r → wpY_worked post x3 x5 x6) (h : wY_carryOut_171 post x2 x3 x4 f_threads f_lines a_op a_fieldA a_fieldB a_fieldC a_in a_out (upd a_regs A r) a_at a_done a_states) : wY_carryOut_83 post x1 x2 x3 x4 x5 x6 f_threads f_lines a_op a_fieldA a_fieldB a_fieldC a_in a_out a_regs a_at a_done a_states := by
  unfold wY_carryOut_83
  rw [c4]
  exact br_f ha (br_f hb (wk _ ⟨i4, nm_e (wq_y108 h6 h7 h8 h)⟩))
theorem wq_co0 {L T t l : Nat} {op fa fb fc inp : Nat → Int32} (ht : t < 8) (hl : l < 32) (hk : op l = 0) (out g : Nat → Int32) : (∀ (post : SX → Prop) (ll sc st : Nat → Int32), post (nI L, nI T, op, fa, fb, fc, inp, out, wq_rs (4 * t + 4) (upd g (wq_ix t (fa l)) (fb l)), ll, sc, st) → wpX_carryOut post (nI L, nI T, op, fa, fb, fc, inp, out, wq_rs (4 * t + 4) g, ll, sc, st) (nI t) (nI l)) ∧ (∀ (post : Int32 → SY → Prop) (ll sc st : Nat → Int32), ll t = nI l → wY_carryOut_171 post (nI l) (op l) (nI (wq_ix t (fa l))) (nI T) (nI L) op fa fb fc inp out (upd g (wq_ix t (fa l)) (fb l)) ll sc st → wpY_carryOut post (nI T, nI L, op, fa, fb, fc, inp, out, g, ll, sc, st) (nI t)) := by
  have cl : (nI l).toNatClampNeg = l := nI_clamp (by omega)
  have il : vp_in (nI l) 32 := vp_in_nI hl (by omega)
  have ct : (nI t).toNatClampNeg = t := nI_clamp (by omega)
  have it : vp_in (nI t) 8 := vp_in_nI ht (by omega)
  have hA := wq_ix_lt t (fa l)
  have hB := wq_ix_lt t (fb l)
  have hC := wq_ix_lt t (fc l)
  have cA : (nI (wq_ix t (fa l))).toNatClampNeg = wq_ix t (fa l) := nI_clamp (by omega)
  have cB : (nI (wq_ix t (fb l))).toNatClampNeg = wq_ix t (fb l) := nI_clamp (by omega)
  have cC : (nI (wq_ix t (fc l))).toNatClampNeg = wq_ix t (fc l) := nI_clamp (by omega)
  have iA : vp_in (nI (wq_ix t (fa l))) 32 := vp_in_nI (by omega) (by omega)
  have iB : vp_in (nI (wq_ix t (fb l))) 32 := vp_in_nI (by omega) (by omega)
  have iC : vp_in (nI (wq_ix t (fc l))) 32 := vp_in_nI (by omega) (by omega)
  refine ⟨fun post ll sc st h => ?_, fun post ll sc st hll h => ?_⟩
  · unfold wpX_carryOut
    dsimp only
    intro x3 e3
    subst e3
    rw [cl, wq_ixX t (fa l), wq_ixX t (fb l), wq_ixX t (fc l)]
    refine ⟨il, ?_⟩
    intro x4 e4
    subst e4
    rw [cA, cB, cC]
    refine ⟨il, iB, nm_r (wq_rs_in hB) ⟨il, iC, nm_r (wq_rs_in hC) ⟨il, nm_e ?_⟩⟩⟩
    exact br_f (by rw [hk]; decide) (br_f (by rw [hk]; decide) (br_t hk ⟨il, iA, nm_r (wq_rs_upd hA) h⟩))
  · unfold wpY_carryOut
    dsimp only
    rw [ct, hll]
    refine ⟨it, ?_⟩
    intro x2 e2
    subst e2
    rw [cl, wq_ixY t (fa l), wq_ixY t (fb l), wq_ixY t (fc l), cB, cC]
    refine ⟨il, nm_e ⟨il, nm_e ⟨il, iB, nm_e ⟨il, iC, nm_e ?_⟩⟩⟩⟩
    rw [cA]
    exact br_t hk ⟨il, iA, nm_e (wq_y83 (by rw [hk]; decide) (wq_y108 (by rw [hk]; decide) (by rw [hk]; decide) (by rw [hk]; decide) h))⟩
theorem wq_co1 {L T t l : Nat} {op fa fb fc inp : Nat → Int32} (ht : t < 8) (hl : l < 32) (hk : op l = 1) (out g : Nat → Int32) : (∀ (post : SX → Prop) (ll sc st : Nat → Int32), post (nI L, nI T, op, fa, fb, fc, inp, out, wq_rs (4 * t + 4) (upd g (wq_ix t (fa l)) (g (wq_ix t (fb l)) + g (wq_ix t (fc l)))), ll, sc, st) → wpX_carryOut post (nI L, nI T, op, fa, fb, fc, inp, out, wq_rs (4 * t + 4) g, ll, sc, st) (nI t) (nI l)) ∧ (∀ (post : Int32 → SY → Prop) (ll sc st : Nat → Int32), ll t = nI l → wY_carryOut_171 post (nI l) (op l) (nI (wq_ix t (fa l))) (nI T) (nI L) op fa fb fc inp out (upd g (wq_ix t (fa l)) (g (wq_ix t (fb l)) + g (wq_ix t (fc l)))) ll sc st → wpY_carryOut post (nI T, nI L, op, fa, fb, fc, inp, out, g, ll, sc, st) (nI t)) := by
  have cl : (nI l).toNatClampNeg = l := nI_clamp (by omega)
  have il : vp_in (nI l) 32 := vp_in_nI hl (by omega)
  have ct : (nI t).toNatClampNeg = t := nI_clamp (by omega)
  have it : vp_in (nI t) 8 := vp_in_nI ht (by omega)
  have hA := wq_ix_lt t (fa l)
  have hB := wq_ix_lt t (fb l)
  have hC := wq_ix_lt t (fc l)
  have cA : (nI (wq_ix t (fa l))).toNatClampNeg = wq_ix t (fa l) := nI_clamp (by omega)
  have cB : (nI (wq_ix t (fb l))).toNatClampNeg = wq_ix t (fb l) := nI_clamp (by omega)
  have cC : (nI (wq_ix t (fc l))).toNatClampNeg = wq_ix t (fc l) := nI_clamp (by omega)
  have iA : vp_in (nI (wq_ix t (fa l))) 32 := vp_in_nI (by omega) (by omega)
  have iB : vp_in (nI (wq_ix t (fb l))) 32 := vp_in_nI (by omega) (by omega)
  have iC : vp_in (nI (wq_ix t (fc l))) 32 := vp_in_nI (by omega) (by omega)
  refine ⟨fun post ll sc st h => ?_, fun post ll sc st hll h => ?_⟩
  · unfold wpX_carryOut
    dsimp only
    intro x3 e3
    subst e3
    rw [cl, wq_ixX t (fa l), wq_ixX t (fb l), wq_ixX t (fc l)]
    refine ⟨il, ?_⟩
    intro x4 e4
    subst e4
    rw [cA, cB, cC]
    refine ⟨il, iB, nm_r (wq_rs_in hB) ⟨il, iC, nm_r (wq_rs_in hC) ⟨il, nm_e ?_⟩⟩⟩
    exact br_f (by rw [hk]; decide) (br_f (by rw [hk]; decide) (br_f (by rw [hk]; decide) (br_t hk ⟨iA, nm_r (wq_rs_upd hA) h⟩)))
  · unfold wpY_carryOut
    dsimp only
    rw [ct, hll]
    refine ⟨it, ?_⟩
    intro x2 e2
    subst e2
    rw [cl, wq_ixY t (fa l), wq_ixY t (fb l), wq_ixY t (fc l), cB, cC]
    refine ⟨il, nm_e ⟨il, nm_e ⟨il, iB, nm_e ⟨il, iC, nm_e ?_⟩⟩⟩⟩
    rw [cA]
    exact br_f (by rw [hk]; decide) (wq_ywk (by rw [hk]; decide) (by rw [hk]; decide) (by rw [hk]; decide) (by rw [hk]; decide) (by rw [hk]; decide) iA cA (fun q hq => br_t hk hq) h)
theorem wq_co2 {L T t l : Nat} {op fa fb fc inp : Nat → Int32} (ht : t < 8) (hl : l < 32) (hk : op l = 2) (out g : Nat → Int32) : (∀ (post : SX → Prop) (ll sc st : Nat → Int32), post (nI L, nI T, op, fa, fb, fc, inp, out, wq_rs (4 * t + 4) (upd g (wq_ix t (fa l)) (g (wq_ix t (fb l)) - g (wq_ix t (fc l)))), ll, sc, st) → wpX_carryOut post (nI L, nI T, op, fa, fb, fc, inp, out, wq_rs (4 * t + 4) g, ll, sc, st) (nI t) (nI l)) ∧ (∀ (post : Int32 → SY → Prop) (ll sc st : Nat → Int32), ll t = nI l → wY_carryOut_171 post (nI l) (op l) (nI (wq_ix t (fa l))) (nI T) (nI L) op fa fb fc inp out (upd g (wq_ix t (fa l)) (g (wq_ix t (fb l)) - g (wq_ix t (fc l)))) ll sc st → wpY_carryOut post (nI T, nI L, op, fa, fb, fc, inp, out, g, ll, sc, st) (nI t)) := by
  have cl : (nI l).toNatClampNeg = l := nI_clamp (by omega)
  have il : vp_in (nI l) 32 := vp_in_nI hl (by omega)
  have ct : (nI t).toNatClampNeg = t := nI_clamp (by omega)
  have it : vp_in (nI t) 8 := vp_in_nI ht (by omega)
  have hA := wq_ix_lt t (fa l)
  have hB := wq_ix_lt t (fb l)
  have hC := wq_ix_lt t (fc l)
  have cA : (nI (wq_ix t (fa l))).toNatClampNeg = wq_ix t (fa l) := nI_clamp (by omega)
  have cB : (nI (wq_ix t (fb l))).toNatClampNeg = wq_ix t (fb l) := nI_clamp (by omega)
  have cC : (nI (wq_ix t (fc l))).toNatClampNeg = wq_ix t (fc l) := nI_clamp (by omega)
  have iA : vp_in (nI (wq_ix t (fa l))) 32 := vp_in_nI (by omega) (by omega)
  have iB : vp_in (nI (wq_ix t (fb l))) 32 := vp_in_nI (by omega) (by omega)
  have iC : vp_in (nI (wq_ix t (fc l))) 32 := vp_in_nI (by omega) (by omega)
  refine ⟨fun post ll sc st h => ?_, fun post ll sc st hll h => ?_⟩
  · unfold wpX_carryOut
    dsimp only
    intro x3 e3
    subst e3
    rw [cl, wq_ixX t (fa l), wq_ixX t (fb l), wq_ixX t (fc l)]
    refine ⟨il, ?_⟩
    intro x4 e4
    subst e4
    rw [cA, cB, cC]
    refine ⟨il, iB, nm_r (wq_rs_in hB) ⟨il, iC, nm_r (wq_rs_in hC) ⟨il, nm_e ?_⟩⟩⟩
    exact br_f (by rw [hk]; decide) (br_f (by rw [hk]; decide) (br_f (by rw [hk]; decide) (br_f (by rw [hk]; decide) (br_t hk ⟨iA, nm_r (wq_rs_upd hA) h⟩))))
  · unfold wpY_carryOut
    dsimp only
    rw [ct, hll]
    refine ⟨it, ?_⟩
    intro x2 e2
    subst e2
    rw [cl, wq_ixY t (fa l), wq_ixY t (fb l), wq_ixY t (fc l), cB, cC]
    refine ⟨il, nm_e ⟨il, nm_e ⟨il, iB, nm_e ⟨il, iC, nm_e ?_⟩⟩⟩⟩
    rw [cA]
    exact br_f (by rw [hk]; decide) (wq_ywk (by rw [hk]; decide) (by rw [hk]; decide) (by rw [hk]; decide) (by rw [hk]; decide) (by rw [hk]; decide) iA cA (fun q hq => br_f (by rw [hk]; decide) (br_t hk hq)) h)
theorem wq_co3 {L T t l : Nat} {op fa fb fc inp : Nat → Int32} (ht : t < 8) (hl : l < 32) (hk : op l = 3) (out g : Nat → Int32) : (∀ (post : SX → Prop) (ll sc st : Nat → Int32), post (nI L, nI T, op, fa, fb, fc, inp, out, wq_rs (4 * t + 4) (upd g (wq_ix t (fa l)) (g (wq_ix t (fb l)) * g (wq_ix t (fc l)))), ll, sc, st) → wpX_carryOut post (nI L, nI T, op, fa, fb, fc, inp, out, wq_rs (4 * t + 4) g, ll, sc, st) (nI t) (nI l)) ∧ (∀ (post : Int32 → SY → Prop) (ll sc st : Nat → Int32), ll t = nI l → wY_carryOut_171 post (nI l) (op l) (nI (wq_ix t (fa l))) (nI T) (nI L) op fa fb fc inp out (upd g (wq_ix t (fa l)) (g (wq_ix t (fb l)) * g (wq_ix t (fc l)))) ll sc st → wpY_carryOut post (nI T, nI L, op, fa, fb, fc, inp, out, g, ll, sc, st) (nI t)) := by
  have cl : (nI l).toNatClampNeg = l := nI_clamp (by omega)
  have il : vp_in (nI l) 32 := vp_in_nI hl (by omega)
  have ct : (nI t).toNatClampNeg = t := nI_clamp (by omega)
  have it : vp_in (nI t) 8 := vp_in_nI ht (by omega)
  have hA := wq_ix_lt t (fa l)
  have hB := wq_ix_lt t (fb l)
  have hC := wq_ix_lt t (fc l)
  have cA : (nI (wq_ix t (fa l))).toNatClampNeg = wq_ix t (fa l) := nI_clamp (by omega)
  have cB : (nI (wq_ix t (fb l))).toNatClampNeg = wq_ix t (fb l) := nI_clamp (by omega)
  have cC : (nI (wq_ix t (fc l))).toNatClampNeg = wq_ix t (fc l) := nI_clamp (by omega)
  have iA : vp_in (nI (wq_ix t (fa l))) 32 := vp_in_nI (by omega) (by omega)
  have iB : vp_in (nI (wq_ix t (fb l))) 32 := vp_in_nI (by omega) (by omega)
  have iC : vp_in (nI (wq_ix t (fc l))) 32 := vp_in_nI (by omega) (by omega)
  refine ⟨fun post ll sc st h => ?_, fun post ll sc st hll h => ?_⟩
  · unfold wpX_carryOut
    dsimp only
    intro x3 e3
    subst e3
    rw [cl, wq_ixX t (fa l), wq_ixX t (fb l), wq_ixX t (fc l)]
    refine ⟨il, ?_⟩
    intro x4 e4
    subst e4
    rw [cA, cB, cC]
    refine ⟨il, iB, nm_r (wq_rs_in hB) ⟨il, iC, nm_r (wq_rs_in hC) ⟨il, nm_e ?_⟩⟩⟩
    exact br_f (by rw [hk]; decide) (br_f (by rw [hk]; decide) (br_f (by rw [hk]; decide) (br_f (by rw [hk]; decide) (br_f (by rw [hk]; decide) (br_t hk ⟨iA, nm_r (wq_rs_upd hA) h⟩)))))
  · unfold wpY_carryOut
    dsimp only
    rw [ct, hll]
    refine ⟨it, ?_⟩
    intro x2 e2
    subst e2
    rw [cl, wq_ixY t (fa l), wq_ixY t (fb l), wq_ixY t (fc l), cB, cC]
    refine ⟨il, nm_e ⟨il, nm_e ⟨il, iB, nm_e ⟨il, iC, nm_e ?_⟩⟩⟩⟩
    rw [cA]
    exact br_f (by rw [hk]; decide) (wq_ywk (by rw [hk]; decide) (by rw [hk]; decide) (by rw [hk]; decide) (by rw [hk]; decide) (by rw [hk]; decide) iA cA (fun q hq => br_f (by rw [hk]; decide) (br_f (by rw [hk]; decide) (br_t hk hq))) h)
theorem wq_co4 {L T t l : Nat} {op fa fb fc inp : Nat → Int32} (ht : t < 8) (hl : l < 32) (hk : op l = 4) (out g : Nat → Int32) : (∀ (post : SX → Prop) (ll sc st : Nat → Int32), post (nI L, nI T, op, fa, fb, fc, inp, out, wq_rs (4 * t + 4) (upd g (wq_ix t (fa l)) (g (wq_ix t (fb l)) &&& g (wq_ix t (fc l)))), ll, sc, st) → wpX_carryOut post (nI L, nI T, op, fa, fb, fc, inp, out, wq_rs (4 * t + 4) g, ll, sc, st) (nI t) (nI l)) ∧ (∀ (post : Int32 → SY → Prop) (ll sc st : Nat → Int32), ll t = nI l → wY_carryOut_171 post (nI l) (op l) (nI (wq_ix t (fa l))) (nI T) (nI L) op fa fb fc inp out (upd g (wq_ix t (fa l)) (g (wq_ix t (fb l)) &&& g (wq_ix t (fc l)))) ll sc st → wpY_carryOut post (nI T, nI L, op, fa, fb, fc, inp, out, g, ll, sc, st) (nI t)) := by
  have cl : (nI l).toNatClampNeg = l := nI_clamp (by omega)
  have il : vp_in (nI l) 32 := vp_in_nI hl (by omega)
  have ct : (nI t).toNatClampNeg = t := nI_clamp (by omega)
  have it : vp_in (nI t) 8 := vp_in_nI ht (by omega)
  have hA := wq_ix_lt t (fa l)
  have hB := wq_ix_lt t (fb l)
  have hC := wq_ix_lt t (fc l)
  have cA : (nI (wq_ix t (fa l))).toNatClampNeg = wq_ix t (fa l) := nI_clamp (by omega)
  have cB : (nI (wq_ix t (fb l))).toNatClampNeg = wq_ix t (fb l) := nI_clamp (by omega)
  have cC : (nI (wq_ix t (fc l))).toNatClampNeg = wq_ix t (fc l) := nI_clamp (by omega)
  have iA : vp_in (nI (wq_ix t (fa l))) 32 := vp_in_nI (by omega) (by omega)
  have iB : vp_in (nI (wq_ix t (fb l))) 32 := vp_in_nI (by omega) (by omega)
  have iC : vp_in (nI (wq_ix t (fc l))) 32 := vp_in_nI (by omega) (by omega)
  refine ⟨fun post ll sc st h => ?_, fun post ll sc st hll h => ?_⟩
  · unfold wpX_carryOut
    dsimp only
    intro x3 e3
    subst e3
    rw [cl, wq_ixX t (fa l), wq_ixX t (fb l), wq_ixX t (fc l)]
    refine ⟨il, ?_⟩
    intro x4 e4
    subst e4
    rw [cA, cB, cC]
    refine ⟨il, iB, nm_r (wq_rs_in hB) ⟨il, iC, nm_r (wq_rs_in hC) ⟨il, nm_e ?_⟩⟩⟩
    exact br_f (by rw [hk]; decide) (br_f (by rw [hk]; decide) (br_f (by rw [hk]; decide) (br_f (by rw [hk]; decide) (br_f (by rw [hk]; decide) (br_f (by rw [hk]; decide) (br_t hk ⟨iA, nm_r (wq_rs_upd hA) h⟩))))))
  · unfold wpY_carryOut
    dsimp only
    rw [ct, hll]
    refine ⟨it, ?_⟩
    intro x2 e2
    subst e2
    rw [cl, wq_ixY t (fa l), wq_ixY t (fb l), wq_ixY t (fc l), cB, cC]
    refine ⟨il, nm_e ⟨il, nm_e ⟨il, iB, nm_e ⟨il, iC, nm_e ?_⟩⟩⟩⟩
    rw [cA]
    exact br_f (by rw [hk]; decide) (wq_ywk (by rw [hk]; decide) (by rw [hk]; decide) (by rw [hk]; decide) (by rw [hk]; decide) (by rw [hk]; decide) iA cA (fun q hq => br_f (by rw [hk]; decide) (br_f (by rw [hk]; decide) (br_f (by rw [hk]; decide) (br_t hk hq)))) h)
theorem wq_co5f {L T t l : Nat} {op fa fb fc inp : Nat → Int32} (ht : t < 8) (hl : l < 32) (hk : op l = 5) (out g : Nat → Int32) (hz : g (wq_ix t (fc l)) ≤ g (wq_ix t (fb l))) : (∀ (post : SX → Prop) (ll sc st : Nat → Int32), post (nI L, nI T, op, fa, fb, fc, inp, out, wq_rs (4 * t + 4) (upd g (wq_ix t (fa l)) (0)), ll, sc, st) → wpX_carryOut post (nI L, nI T, op, fa, fb, fc, inp, out, wq_rs (4 * t + 4) g, ll, sc, st) (nI t) (nI l)) ∧ (∀ (post : Int32 → SY → Prop) (ll sc st : Nat → Int32), ll t = nI l → wY_carryOut_171 post (nI l) (op l) (nI (wq_ix t (fa l))) (nI T) (nI L) op fa fb fc inp out (upd g (wq_ix t (fa l)) (0)) ll sc st → wpY_carryOut post (nI T, nI L, op, fa, fb, fc, inp, out, g, ll, sc, st) (nI t)) := by
  have cl : (nI l).toNatClampNeg = l := nI_clamp (by omega)
  have il : vp_in (nI l) 32 := vp_in_nI hl (by omega)
  have ct : (nI t).toNatClampNeg = t := nI_clamp (by omega)
  have it : vp_in (nI t) 8 := vp_in_nI ht (by omega)
  have hA := wq_ix_lt t (fa l)
  have hB := wq_ix_lt t (fb l)
  have hC := wq_ix_lt t (fc l)
  have cA : (nI (wq_ix t (fa l))).toNatClampNeg = wq_ix t (fa l) := nI_clamp (by omega)
  have cB : (nI (wq_ix t (fb l))).toNatClampNeg = wq_ix t (fb l) := nI_clamp (by omega)
  have cC : (nI (wq_ix t (fc l))).toNatClampNeg = wq_ix t (fc l) := nI_clamp (by omega)
  have iA : vp_in (nI (wq_ix t (fa l))) 32 := vp_in_nI (by omega) (by omega)
  have iB : vp_in (nI (wq_ix t (fb l))) 32 := vp_in_nI (by omega) (by omega)
  have iC : vp_in (nI (wq_ix t (fc l))) 32 := vp_in_nI (by omega) (by omega)
  refine ⟨fun post ll sc st h => ?_, fun post ll sc st hll h => ?_⟩
  · unfold wpX_carryOut
    dsimp only
    intro x3 e3
    subst e3
    rw [cl, wq_ixX t (fa l), wq_ixX t (fb l), wq_ixX t (fc l)]
    refine ⟨il, ?_⟩
    intro x4 e4
    subst e4
    rw [cA, cB, cC]
    refine ⟨il, iB, nm_r (wq_rs_in hB) ⟨il, iC, nm_r (wq_rs_in hC) ⟨il, nm_e ?_⟩⟩⟩
    exact br_f (by rw [hk]; decide) (br_f (by rw [hk]; decide) (br_f (by rw [hk]; decide) (br_f (by rw [hk]; decide) (br_f (by rw [hk]; decide) (br_f (by rw [hk]; decide) (br_f (by rw [hk]; decide) (br_t hk (br_t hz ⟨iA, nm_r (wq_rs_upd hA) h⟩))))))))
  · unfold wpY_carryOut
    dsimp only
    rw [ct, hll]
    refine ⟨it, ?_⟩
    intro x2 e2
    subst e2
    rw [cl, wq_ixY t (fa l), wq_ixY t (fb l), wq_ixY t (fc l), cB, cC]
    refine ⟨il, nm_e ⟨il, nm_e ⟨il, iB, nm_e ⟨il, iC, nm_e ?_⟩⟩⟩⟩
    rw [cA]
    exact br_f (by rw [hk]; decide) (wq_ywk (by rw [hk]; decide) (by rw [hk]; decide) (by rw [hk]; decide) (by rw [hk]; decide) (by rw [hk]; decide) iA cA (fun q hq => br_f (by rw [hk]; decide) (br_f (by rw [hk]; decide) (br_f (by rw [hk]; decide) (br_f (by rw [hk]; decide) (br_t hz hq))))) h)
theorem wq_co5t {L T t l : Nat} {op fa fb fc inp : Nat → Int32} (ht : t < 8) (hl : l < 32) (hk : op l = 5) (out g : Nat → Int32) (hz : ¬ g (wq_ix t (fc l)) ≤ g (wq_ix t (fb l))) : (∀ (post : SX → Prop) (ll sc st : Nat → Int32), post (nI L, nI T, op, fa, fb, fc, inp, out, wq_rs (4 * t + 4) (upd g (wq_ix t (fa l)) (1)), ll, sc, st) → wpX_carryOut post (nI L, nI T, op, fa, fb, fc, inp, out, wq_rs (4 * t + 4) g, ll, sc, st) (nI t) (nI l)) ∧ (∀ (post : Int32 → SY → Prop) (ll sc st : Nat → Int32), ll t = nI l → wY_carryOut_171 post (nI l) (op l) (nI (wq_ix t (fa l))) (nI T) (nI L) op fa fb fc inp out (upd g (wq_ix t (fa l)) (1)) ll sc st → wpY_carryOut post (nI T, nI L, op, fa, fb, fc, inp, out, g, ll, sc, st) (nI t)) := by
  have cl : (nI l).toNatClampNeg = l := nI_clamp (by omega)
  have il : vp_in (nI l) 32 := vp_in_nI hl (by omega)
  have ct : (nI t).toNatClampNeg = t := nI_clamp (by omega)
  have it : vp_in (nI t) 8 := vp_in_nI ht (by omega)
  have hA := wq_ix_lt t (fa l)
  have hB := wq_ix_lt t (fb l)
  have hC := wq_ix_lt t (fc l)
  have cA : (nI (wq_ix t (fa l))).toNatClampNeg = wq_ix t (fa l) := nI_clamp (by omega)
  have cB : (nI (wq_ix t (fb l))).toNatClampNeg = wq_ix t (fb l) := nI_clamp (by omega)
  have cC : (nI (wq_ix t (fc l))).toNatClampNeg = wq_ix t (fc l) := nI_clamp (by omega)
  have iA : vp_in (nI (wq_ix t (fa l))) 32 := vp_in_nI (by omega) (by omega)
  have iB : vp_in (nI (wq_ix t (fb l))) 32 := vp_in_nI (by omega) (by omega)
  have iC : vp_in (nI (wq_ix t (fc l))) 32 := vp_in_nI (by omega) (by omega)
  refine ⟨fun post ll sc st h => ?_, fun post ll sc st hll h => ?_⟩
  · unfold wpX_carryOut
    dsimp only
    intro x3 e3
    subst e3
    rw [cl, wq_ixX t (fa l), wq_ixX t (fb l), wq_ixX t (fc l)]
    refine ⟨il, ?_⟩
    intro x4 e4
    subst e4
    rw [cA, cB, cC]
    refine ⟨il, iB, nm_r (wq_rs_in hB) ⟨il, iC, nm_r (wq_rs_in hC) ⟨il, nm_e ?_⟩⟩⟩
    exact br_f (by rw [hk]; decide) (br_f (by rw [hk]; decide) (br_f (by rw [hk]; decide) (br_f (by rw [hk]; decide) (br_f (by rw [hk]; decide) (br_f (by rw [hk]; decide) (br_f (by rw [hk]; decide) (br_t hk (br_f hz ⟨iA, nm_r (wq_rs_upd hA) h⟩))))))))
  · unfold wpY_carryOut
    dsimp only
    rw [ct, hll]
    refine ⟨it, ?_⟩
    intro x2 e2
    subst e2
    rw [cl, wq_ixY t (fa l), wq_ixY t (fb l), wq_ixY t (fc l), cB, cC]
    refine ⟨il, nm_e ⟨il, nm_e ⟨il, iB, nm_e ⟨il, iC, nm_e ?_⟩⟩⟩⟩
    rw [cA]
    exact br_f (by rw [hk]; decide) (wq_ywk (by rw [hk]; decide) (by rw [hk]; decide) (by rw [hk]; decide) (by rw [hk]; decide) (by rw [hk]; decide) iA cA (fun q hq => br_f (by rw [hk]; decide) (br_f (by rw [hk]; decide) (br_f (by rw [hk]; decide) (br_f (by rw [hk]; decide) (br_f hz hq))))) h)
theorem wq_co6 {L T t l : Nat} {op fa fb fc inp : Nat → Int32} (ht : t < 8) (hl : l < 32) (hk : op l = 6) (out g : Nat → Int32) : (∀ (post : SX → Prop) (ll sc st : Nat → Int32), post (nI L, nI T, op, fa, fb, fc, inp, out, wq_rs (4 * t + 4) (upd g (wq_ix t (fa l)) (nI t)), ll, sc, st) → wpX_carryOut post (nI L, nI T, op, fa, fb, fc, inp, out, wq_rs (4 * t + 4) g, ll, sc, st) (nI t) (nI l)) ∧ (∀ (post : Int32 → SY → Prop) (ll sc st : Nat → Int32), ll t = nI l → wY_carryOut_171 post (nI l) (op l) (nI (wq_ix t (fa l))) (nI T) (nI L) op fa fb fc inp out (upd g (wq_ix t (fa l)) (nI t)) ll sc st → wpY_carryOut post (nI T, nI L, op, fa, fb, fc, inp, out, g, ll, sc, st) (nI t)) := by
  have cl : (nI l).toNatClampNeg = l := nI_clamp (by omega)
  have il : vp_in (nI l) 32 := vp_in_nI hl (by omega)
  have ct : (nI t).toNatClampNeg = t := nI_clamp (by omega)
  have it : vp_in (nI t) 8 := vp_in_nI ht (by omega)
  have hA := wq_ix_lt t (fa l)
  have hB := wq_ix_lt t (fb l)
  have hC := wq_ix_lt t (fc l)
  have cA : (nI (wq_ix t (fa l))).toNatClampNeg = wq_ix t (fa l) := nI_clamp (by omega)
  have cB : (nI (wq_ix t (fb l))).toNatClampNeg = wq_ix t (fb l) := nI_clamp (by omega)
  have cC : (nI (wq_ix t (fc l))).toNatClampNeg = wq_ix t (fc l) := nI_clamp (by omega)
  have iA : vp_in (nI (wq_ix t (fa l))) 32 := vp_in_nI (by omega) (by omega)
  have iB : vp_in (nI (wq_ix t (fb l))) 32 := vp_in_nI (by omega) (by omega)
  have iC : vp_in (nI (wq_ix t (fc l))) 32 := vp_in_nI (by omega) (by omega)
  refine ⟨fun post ll sc st h => ?_, fun post ll sc st hll h => ?_⟩
  · unfold wpX_carryOut
    dsimp only
    intro x3 e3
    subst e3
    rw [cl, wq_ixX t (fa l), wq_ixX t (fb l), wq_ixX t (fc l)]
    refine ⟨il, ?_⟩
    intro x4 e4
    subst e4
    rw [cA, cB, cC]
    refine ⟨il, iB, nm_r (wq_rs_in hB) ⟨il, iC, nm_r (wq_rs_in hC) ⟨il, nm_e ?_⟩⟩⟩
    exact br_f (by rw [hk]; decide) (br_f (by rw [hk]; decide) (br_f (by rw [hk]; decide) (br_f (by rw [hk]; decide) (br_f (by rw [hk]; decide) (br_f (by rw [hk]; decide) (br_f (by rw [hk]; decide) (br_f (by rw [hk]; decide) (br_t hk ⟨iA, nm_r (wq_rs_upd hA) h⟩))))))))
  · unfold wpY_carryOut
    dsimp only
    rw [ct, hll]
    refine ⟨it, ?_⟩
    intro x2 e2
    subst e2
    rw [cl, wq_ixY t (fa l), wq_ixY t (fb l), wq_ixY t (fc l), cB, cC]
    refine ⟨il, nm_e ⟨il, nm_e ⟨il, iB, nm_e ⟨il, iC, nm_e ?_⟩⟩⟩⟩
    rw [cA]
    refine br_f (by rw [hk]; decide) (wq_y83 (by rw [hk]; decide) ?_)
    unfold wY_carryOut_108
    rw [cA]
    exact br_t hk ⟨iA, nm_e (wq_y122 (by rw [hk]; decide) (by rw [hk]; decide) h)⟩
theorem wq_co7 {L T t l : Nat} {op fa fb fc inp : Nat → Int32} (ht : t < 8) (hl : l < 32) (hk : op l = 7) (out g : Nat → Int32) : (∀ (post : SX → Prop) (ll sc st : Nat → Int32), post (nI L, nI T, op, fa, fb, fc, inp, out, wq_rs (4 * t + 4) (upd g (wq_ix t (fa l)) (inp (g (wq_ix t (fb l)) &&& 15).toNatClampNeg)), ll, sc, st) → wpX_carryOut post (nI L, nI T, op, fa, fb, fc, inp, out, wq_rs (4 * t + 4) g, ll, sc, st) (nI t) (nI l)) ∧ (∀ (post : Int32 → SY → Prop) (ll sc st : Nat → Int32), ll t = nI l → wY_carryOut_171 post (nI l) (op l) (nI (wq_ix t (fa l))) (nI T) (nI L) op fa fb fc inp out (upd g (wq_ix t (fa l)) (inp (g (wq_ix t (fb l)) &&& 15).toNatClampNeg)) ll sc st → wpY_carryOut post (nI T, nI L, op, fa, fb, fc, inp, out, g, ll, sc, st) (nI t)) := by
  have cl : (nI l).toNatClampNeg = l := nI_clamp (by omega)
  have il : vp_in (nI l) 32 := vp_in_nI hl (by omega)
  have ct : (nI t).toNatClampNeg = t := nI_clamp (by omega)
  have it : vp_in (nI t) 8 := vp_in_nI ht (by omega)
  have hA := wq_ix_lt t (fa l)
  have hB := wq_ix_lt t (fb l)
  have hC := wq_ix_lt t (fc l)
  have cA : (nI (wq_ix t (fa l))).toNatClampNeg = wq_ix t (fa l) := nI_clamp (by omega)
  have cB : (nI (wq_ix t (fb l))).toNatClampNeg = wq_ix t (fb l) := nI_clamp (by omega)
  have cC : (nI (wq_ix t (fc l))).toNatClampNeg = wq_ix t (fc l) := nI_clamp (by omega)
  have iA : vp_in (nI (wq_ix t (fa l))) 32 := vp_in_nI (by omega) (by omega)
  have iB : vp_in (nI (wq_ix t (fb l))) 32 := vp_in_nI (by omega) (by omega)
  have iC : vp_in (nI (wq_ix t (fc l))) 32 := vp_in_nI (by omega) (by omega)
  refine ⟨fun post ll sc st h => ?_, fun post ll sc st hll h => ?_⟩
  · unfold wpX_carryOut
    dsimp only
    intro x3 e3
    subst e3
    rw [cl, wq_ixX t (fa l), wq_ixX t (fb l), wq_ixX t (fc l)]
    refine ⟨il, ?_⟩
    intro x4 e4
    subst e4
    rw [cA, cB, cC]
    refine ⟨il, iB, nm_r (wq_rs_in hB) ⟨il, iC, nm_r (wq_rs_in hC) ⟨il, nm_e ?_⟩⟩⟩
    exact br_f (by rw [hk]; decide) (br_f (by rw [hk]; decide) (br_f (by rw [hk]; decide) (br_f (by rw [hk]; decide) (br_f (by rw [hk]; decide) (br_f (by rw [hk]; decide) (br_f (by rw [hk]; decide) (br_f (by rw [hk]; decide) (br_f (by rw [hk]; decide) (br_t hk ⟨wq_in15 _, iA, nm_r (wq_rs_upd hA) h⟩)))))))))
  · unfold wpY_carryOut
    dsimp only
    rw [ct, hll]
    refine ⟨it, ?_⟩
    intro x2 e2
    subst e2
    rw [cl, wq_ixY t (fa l), wq_ixY t (fb l), wq_ixY t (fc l), cB, cC]
    refine ⟨il, nm_e ⟨il, nm_e ⟨il, iB, nm_e ⟨il, iC, nm_e ?_⟩⟩⟩⟩
    rw [cA]
    refine br_f (by rw [hk]; decide) (wq_y83 (by rw [hk]; decide) ?_)
    unfold wY_carryOut_108
    refine br_f (by rw [hk]; decide) ?_
    unfold wY_carryOut_122
    rw [cA]
    refine br_t hk ⟨wq_in15 _, iA, nm_e ?_⟩
    unfold wY_carryOut_145
    exact br_f (by rw [hk]; decide) h
theorem wq_co8 {L T t l : Nat} {op fa fb fc inp : Nat → Int32} (ht : t < 8) (hl : l < 32) (hk : op l = 8) (out g : Nat → Int32) : (∀ (post : SX → Prop) (ll sc st : Nat → Int32), post (nI L, nI T, op, fa, fb, fc, inp, upd out (g (wq_ix t (fa l)) &&& 15).toNatClampNeg (out (g (wq_ix t (fa l)) &&& 15).toNatClampNeg + g (wq_ix t (fb l))), wq_rs (4 * t + 4) (g), ll, sc, st) → wpX_carryOut post (nI L, nI T, op, fa, fb, fc, inp, out, wq_rs (4 * t + 4) g, ll, sc, st) (nI t) (nI l)) ∧ (∀ (post : Int32 → SY → Prop) (ll sc st : Nat → Int32), ll t = nI l → wY_carryOut_171 post (nI l) (op l) (nI (wq_ix t (fa l))) (nI T) (nI L) op fa fb fc inp (upd out (g (wq_ix t (fa l)) &&& 15).toNatClampNeg (out (g (wq_ix t (fa l)) &&& 15).toNatClampNeg + g (wq_ix t (fb l)))) g ll sc st → wpY_carryOut post (nI T, nI L, op, fa, fb, fc, inp, out, g, ll, sc, st) (nI t)) := by
  have cl : (nI l).toNatClampNeg = l := nI_clamp (by omega)
  have il : vp_in (nI l) 32 := vp_in_nI hl (by omega)
  have ct : (nI t).toNatClampNeg = t := nI_clamp (by omega)
  have it : vp_in (nI t) 8 := vp_in_nI ht (by omega)
  have hA := wq_ix_lt t (fa l)
  have hB := wq_ix_lt t (fb l)
  have hC := wq_ix_lt t (fc l)
  have cA : (nI (wq_ix t (fa l))).toNatClampNeg = wq_ix t (fa l) := nI_clamp (by omega)
  have cB : (nI (wq_ix t (fb l))).toNatClampNeg = wq_ix t (fb l) := nI_clamp (by omega)
  have cC : (nI (wq_ix t (fc l))).toNatClampNeg = wq_ix t (fc l) := nI_clamp (by omega)
  have iA : vp_in (nI (wq_ix t (fa l))) 32 := vp_in_nI (by omega) (by omega)
  have iB : vp_in (nI (wq_ix t (fb l))) 32 := vp_in_nI (by omega) (by omega)
  have iC : vp_in (nI (wq_ix t (fc l))) 32 := vp_in_nI (by omega) (by omega)
  refine ⟨fun post ll sc st h => ?_, fun post ll sc st hll h => ?_⟩
  · unfold wpX_carryOut
    dsimp only
    intro x3 e3
    subst e3
    rw [cl, wq_ixX t (fa l), wq_ixX t (fb l), wq_ixX t (fc l)]
    refine ⟨il, ?_⟩
    intro x4 e4
    subst e4
    rw [cA, cB, cC]
    refine ⟨il, iB, nm_r (wq_rs_in hB) ⟨il, iC, nm_r (wq_rs_in hC) ⟨il, nm_e ?_⟩⟩⟩
    exact br_f (by rw [hk]; decide) (br_f (by rw [hk]; decide) (br_f (by rw [hk]; decide) (br_f (by rw [hk]; decide) (br_f (by rw [hk]; decide) (br_f (by rw [hk]; decide) (br_f (by rw [hk]; decide) (br_f (by rw [hk]; decide) (br_f (by rw [hk]; decide) (br_f (by rw [hk]; decide) (br_t hk ⟨iA, wq_in15 _, wq_in15 _, nm_r (by rw [wq_rs_in hA]) h⟩))))))))))
  · unfold wpY_carryOut
    dsimp only
    rw [ct, hll]
    refine ⟨it, ?_⟩
    intro x2 e2
    subst e2
    rw [cl, wq_ixY t (fa l), wq_ixY t (fb l), wq_ixY t (fc l), cB, cC]
    refine ⟨il, nm_e ⟨il, nm_e ⟨il, iB, nm_e ⟨il, iC, nm_e ?_⟩⟩⟩⟩
    rw [cA]
    refine br_f (by rw [hk]; decide) (wq_y83 (by rw [hk]; decide) ?_)
    unfold wY_carryOut_108
    refine br_f (by rw [hk]; decide) ?_
    unfold wY_carryOut_122
    refine br_f (by rw [hk]; decide) ?_
    unfold wY_carryOut_145
    rw [cA]
    exact br_t hk ⟨iA, wq_in15 _, wq_in15 _, nm_e h⟩
theorem wq_coE {L T t l : Nat} {op fa fb fc inp : Nat → Int32} (ht : t < 8) (hl : l < 32) (n0 : ¬ op l = 0) (n1 : ¬ op l = 1) (n2 : ¬ op l = 2) (n3 : ¬ op l = 3) (n4 : ¬ op l = 4) (n5 : ¬ op l = 5) (n6 : ¬ op l = 6) (n7 : ¬ op l = 7) (n8 : ¬ op l = 8) (out g : Nat → Int32) : (∀ (post : SX → Prop) (ll sc st : Nat → Int32), post (nI L, nI T, op, fa, fb, fc, inp, out, wq_rs (4 * t + 4) g, ll, sc, st) → wpX_carryOut post (nI L, nI T, op, fa, fb, fc, inp, out, wq_rs (4 * t + 4) g, ll, sc, st) (nI t) (nI l)) ∧ (∀ (post : Int32 → SY → Prop) (ll sc st : Nat → Int32), ll t = nI l → wY_carryOut_171 post (nI l) (op l) (nI (wq_ix t (fa l))) (nI T) (nI L) op fa fb fc inp out g ll sc st → wpY_carryOut post (nI T, nI L, op, fa, fb, fc, inp, out, g, ll, sc, st) (nI t)) := by
  have cl : (nI l).toNatClampNeg = l := nI_clamp (by omega)
  have il : vp_in (nI l) 32 := vp_in_nI hl (by omega)
  have ct : (nI t).toNatClampNeg = t := nI_clamp (by omega)
  have it : vp_in (nI t) 8 := vp_in_nI ht (by omega)
  have hA := wq_ix_lt t (fa l)
  have hB := wq_ix_lt t (fb l)
  have hC := wq_ix_lt t (fc l)
  have cA : (nI (wq_ix t (fa l))).toNatClampNeg = wq_ix t (fa l) := nI_clamp (by omega)
  have cB : (nI (wq_ix t (fb l))).toNatClampNeg = wq_ix t (fb l) := nI_clamp (by omega)
  have cC : (nI (wq_ix t (fc l))).toNatClampNeg = wq_ix t (fc l) := nI_clamp (by omega)
  have iA : vp_in (nI (wq_ix t (fa l))) 32 := vp_in_nI (by omega) (by omega)
  have iB : vp_in (nI (wq_ix t (fb l))) 32 := vp_in_nI (by omega) (by omega)
  have iC : vp_in (nI (wq_ix t (fc l))) 32 := vp_in_nI (by omega) (by omega)
  refine ⟨fun post ll sc st h => ?_, fun post ll sc st hll h => ?_⟩
  · unfold wpX_carryOut
    dsimp only
    intro x3 e3
    subst e3
    rw [cl, wq_ixX t (fa l), wq_ixX t (fb l), wq_ixX t (fc l)]
    refine ⟨il, ?_⟩
    intro x4 e4
    subst e4
    rw [cA, cB, cC]
    refine ⟨il, iB, nm_r (wq_rs_in hB) ⟨il, iC, nm_r (wq_rs_in hC) ⟨il, nm_e ?_⟩⟩⟩
    exact br_c (fun _ => h) (fun _ => br_c (fun _ => h) (fun _ => br_f n0 (br_f n1 (br_f n2 (br_f n3 (br_f n4 (br_f n5 (br_f n6 (br_f n7 (br_f n8 (trivial)))))))))))
  · unfold wpY_carryOut
    dsimp only
    rw [ct, hll]
    refine ⟨it, ?_⟩
    intro x2 e2
    subst e2
    rw [cl, wq_ixY t (fa l), wq_ixY t (fb l), wq_ixY t (fc l), cB, cC]
    refine ⟨il, nm_e ⟨il, nm_e ⟨il, iB, nm_e ⟨il, iC, nm_e ?_⟩⟩⟩⟩
    refine br_f n0 (wq_y83 ?_ (wq_y108 n6 n7 n8 h))
    rintro (z | z | z | z | z)
    · exact n1 z
    · exact n2 z
    · exact n3 z
    · exact n4 z
    · exact n5 z
theorem wq_co {L T t l : Nat} {op fa fb fc inp : Nat → Int32} (ht : t < 8) (hl : l < 32) (out g : Nat → Int32) : ∃ out' g' : Nat → Int32, (∀ j, 4 * t + 4 ≤ j → g' j = g j) ∧ (∀ (post : SX → Prop) (ll sc st : Nat → Int32), post (nI L, nI T, op, fa, fb, fc, inp, out', wq_rs (4 * t + 4) g', ll, sc, st) → wpX_carryOut post (nI L, nI T, op, fa, fb, fc, inp, out, wq_rs (4 * t + 4) g, ll, sc, st) (nI t) (nI l)) ∧ (∀ (post : Int32 → SY → Prop) (ll sc st : Nat → Int32), ll t = nI l → wY_carryOut_171 post (nI l) (op l) (nI (wq_ix t (fa l))) (nI T) (nI L) op fa fb fc inp out' g' ll sc st → wpY_carryOut post (nI T, nI L, op, fa, fb, fc, inp, out, g, ll, sc, st) (nI t)) := by
  have hA := wq_ix_lt t (fa l)
  have hu : ∀ (x : Int32) (j : Nat), 4 * t + 4 ≤ j → upd g (wq_ix t (fa l)) x j = g j := fun x j hj => pk_un (by omega)
  by_cases n0 : op l = 0
  · exact ⟨_, _, hu _, wq_co0 ht hl n0 out g⟩
  by_cases n1 : op l = 1
  · exact ⟨_, _, hu _, wq_co1 ht hl n1 out g⟩
  by_cases n2 : op l = 2
  · exact ⟨_, _, hu _, wq_co2 ht hl n2 out g⟩
  by_cases n3 : op l = 3
  · exact ⟨_, _, hu _, wq_co3 ht hl n3 out g⟩
  by_cases n4 : op l = 4
  · exact ⟨_, _, hu _, wq_co4 ht hl n4 out g⟩
  by_cases n5 : op l = 5
  · by_cases hz : g (wq_ix t (fc l)) ≤ g (wq_ix t (fb l))
    · exact ⟨_, _, hu _, wq_co5f ht hl n5 out g hz⟩
    · exact ⟨_, _, hu _, wq_co5t ht hl n5 out g hz⟩
  by_cases n6 : op l = 6
  · exact ⟨_, _, hu _, wq_co6 ht hl n6 out g⟩
  by_cases n7 : op l = 7
  · exact ⟨_, _, hu _, wq_co7 ht hl n7 out g⟩
  by_cases n8 : op l = 8
  · exact ⟨_, _, fun _ _ => rfl, wq_co8 ht hl n8 out g⟩
  exact ⟨_, _, fun _ _ => rfl, wq_coE ht hl n0 n1 n2 n3 n4 n5 n6 n7 n8 out g⟩
end
section
/-! one thread's run: X's loop and Y's in lockstep, over Y's counter -/
theorem wq_e62 {L T t l : Nat} {op fa fb fc inp out reg ll sc st : Nat → Int32} (hL : L ≤ 32) (ht : t < 8) (hl : l ≤ 32) (x3 : Int32) (post : SX → Prop) (h : post (nI L, nI T, op, fa, fb, fc, inp, out, reg, upd ll t (nI l), upd sc t x3, upd st t (if l < L then 2 else 1))) : wX_runThread_62 post (nI t) (nI l) x3 0 (nI L) (nI T) op fa fb fc inp out reg ll sc st := by
  have ct : (nI t).toNatClampNeg = t := nI_clamp (by omega)
  have it : vp_in (nI t) 8 := vp_in_nI ht (by omega)
  unfold wX_runThread_62
  rw [ct]
  refine ⟨it, nm_e ⟨it, nm_e (br_t rfl ?_)⟩⟩
  by_cases z : l < L
  · rw [if_pos z] at h
    exact br_t (nI_lt z (by omega)) ⟨it, nm_e h⟩
  · rw [if_neg z] at h
    exact br_f (nI_nlt (by omega) (by omega)) ⟨it, nm_e h⟩
theorem wq_x62 {L T t : Nat} {op fa fb fc inp out reg ll sc st : Nat → Int32} (ht : t < 8) (x2 x3 : Int32) (post : SX → Prop) (h : post (nI L, nI T, op, fa, fb, fc, inp, out, reg, upd ll t x2, upd sc t x3, upd st t 1)) (n : Nat) : wX_runThread_7 post (nI t) (n + 1) x2 x3 1 (nI L) (nI T) op fa fb fc inp out reg ll sc st := by
  have ct : (nI t).toNatClampNeg = t := nI_clamp (by omega)
  have it : vp_in (nI t) 8 := vp_in_nI ht (by omega)
  have e : wX_runThread_62 post (nI t) x2 x3 1 (nI L) (nI T) op fa fb fc inp out reg ll sc st := by
    unfold wX_runThread_62
    rw [ct]
    exact ⟨it, nm_e ⟨it, nm_e (br_f (by decide) ⟨it, nm_e h⟩)⟩⟩
  exact br_c (fun _ => e) (fun _ => br_c (fun _ => e) (fun _ => br_f (by decide) e))
theorem wq_e129 {L T t l : Nat} {op fa fb fc inp out g ll dn st : Nat → Int32} (hL : L ≤ 32) (ht : t < 8) (hl : l ≤ 32) (post : SY → Prop) (h : post (nI T, nI L, op, fa, fb, fc, inp, out, g, upd ll t (nI l), dn, upd st t (if l < L then 2 else 1))) : wY_runThread_129 post (nI t) (nI T) (nI L) op fa fb fc inp out g (upd ll t (nI l)) dn (upd st t 2) := by
  have ct : (nI t).toNatClampNeg = t := nI_clamp (by omega)
  have it : vp_in (nI t) 8 := vp_in_nI ht (by omega)
  unfold wY_runThread_129
  rw [ct, pk_us (f := ll) (k := t) (x := nI l)]
  by_cases z : l < L
  · rw [if_pos z] at h
    exact ⟨it, br_t (nI_lt z (by omega)) h⟩
  · rw [if_neg z] at h
    exact ⟨it, br_f (nI_nlt (by omega) (by omega)) ⟨it, nm_r wq_uu h⟩⟩
theorem wq_y129 {L T t l : Nat} {op fa fb fc inp out g ll dn st : Nat → Int32} (hL : L ≤ 32) (ht : t < 8) (hl : l < L) (x2 : Int32) (post : SY → Prop) (h : post (nI T, nI L, op, fa, fb, fc, inp, out, g, upd ll t (nI l), dn, upd st t 1)) (n : Nat) : wY_runThread_47 post (nI t) (n + 1) x2 (nI T) (nI L) op fa fb fc inp out g (upd ll t (nI l)) dn (upd st t 1) := by
  have ct : (nI t).toNatClampNeg = t := nI_clamp (by omega)
  have it : vp_in (nI t) 8 := vp_in_nI ht (by omega)
  have e : wY_runThread_129 post (nI t) (nI T) (nI L) op fa fb fc inp out g (upd ll t (nI l)) dn (upd st t 1) := by
    unfold wY_runThread_129
    rw [ct, pk_us (f := ll) (k := t) (x := nI l)]
    exact ⟨it, br_t (nI_lt hl (by omega)) h⟩
  have s : ¬ upd st t 1 (nI t).toNatClampNeg = 2 := by rw [ct, pk_us]; decide
  exact br_c (fun _ => e) (fun _ => ⟨it, br_c (fun _ => e) (fun _ => ⟨it, br_f s e⟩)⟩)
theorem wq_ylE {L T t c l d : Nat} {op fa fb fc inp out g ll sc st : Nat → Int32} (hL : L ≤ 32) (ht : t < 8) (hl : l < L) (hc : c < 48) (z : op l = 11) (post : SY → Prop) (h : wY_runThread_47 post (nI t) d (nI (c + 1)) (nI T) (nI L) op fa fb fc inp out g (upd ll t (nI l)) (upd sc t (nI (c + 1))) (upd st t 1)) : wY_runThread_47 post (nI t) (d + 1) (nI c) (nI T) (nI L) op fa fb fc inp out g (upd ll t (nI l)) (upd sc t (nI c)) (upd st t 2) := by
  have ct : (nI t).toNatClampNeg = t := nI_clamp (by omega)
  have it : vp_in (nI t) 8 := vp_in_nI ht (by omega)
  have cl : (nI l).toNatClampNeg = l := nI_clamp (by omega)
  have il : vp_in (nI l) 32 := vp_in_nI (by omega) (by omega)
  have n48 : ¬ (48 : Int32) ≤ nI c := nI_ge (b := 48) hc (by decide)
  have nL : ¬ nI L ≤ nI l := nI_ge hl (by omega)
  have es : upd (upd sc t (nI c)) t (upd sc t (nI c) t + 1) = upd sc t (nI (c + 1)) := by rw [pk_us, wq_uu, nI_1]
  rw [wY_runThread_47]
  dsimp only
  rw [ct, pk_us (f := ll) (k := t) (x := nI l), pk_us (f := st) (k := t) (x := 2), cl, es, wq_uu (f := st), nI_1 c]
  exact br_f n48 ⟨it, br_f nL ⟨it, br_t rfl ⟨it, it, nm_e ⟨it, il, br_t z ⟨it, nm_e (nm_e h)⟩⟩⟩⟩⟩
theorem wq_ylN {L T t c l d r : Nat} {op fa fb fc inp out g out1 g1 ll sc st : Nat → Int32} (hL : L ≤ 32) (ht : t < 8) (hl : l < L) (hc : c < 48) (z : ¬ op l = 11) (hQ : ∀ Q : Int32 → SY → Prop, Q (nI r) (nI T, nI L, op, fa, fb, fc, inp, out1, g1, upd ll t (nI l), upd sc t (nI (c + 1)), upd st t 2) → wpY_carryOut Q (nI T, nI L, op, fa, fb, fc, inp, out, g, upd ll t (nI l), upd sc t (nI (c + 1)), upd st t 2) (nI t)) (post : SY → Prop) (h : wY_runThread_47 post (nI t) d (nI (c + 1)) (nI T) (nI L) op fa fb fc inp out1 g1 (upd ll t (nI r)) (upd sc t (nI (c + 1))) (upd st t 2)) : wY_runThread_47 post (nI t) (d + 1) (nI c) (nI T) (nI L) op fa fb fc inp out g (upd ll t (nI l)) (upd sc t (nI c)) (upd st t 2) := by
  have ct : (nI t).toNatClampNeg = t := nI_clamp (by omega)
  have it : vp_in (nI t) 8 := vp_in_nI ht (by omega)
  have cl : (nI l).toNatClampNeg = l := nI_clamp (by omega)
  have il : vp_in (nI l) 32 := vp_in_nI (by omega) (by omega)
  have n48 : ¬ (48 : Int32) ≤ nI c := nI_ge (b := 48) hc (by decide)
  have nL : ¬ nI L ≤ nI l := nI_ge hl (by omega)
  have es : upd (upd sc t (nI c)) t (upd sc t (nI c) t + 1) = upd sc t (nI (c + 1)) := by rw [pk_us, wq_uu, nI_1]
  rw [wY_runThread_47]
  dsimp only
  rw [ct, pk_us (f := ll) (k := t) (x := nI l), pk_us (f := st) (k := t) (x := 2), cl, es, wq_uu (f := st), nI_1 c]
  refine br_f n48 ⟨it, br_f nL ⟨it, br_t rfl ⟨it, it, nm_e ⟨it, il, br_f z (hQ _ ?_)⟩⟩⟩⟩
  dsimp only
  exact ⟨it, nm_r wq_uu (nm_e h)⟩
theorem wq_lp {L T t : Nat} {op fa fb fc inp ll sc st : Nat → Int32} (hL : L ≤ 32) (ht : t < 8) : ∀ (d c l : Nat) (out g : Nat → Int32), c + d = 48 → l ≤ 32 → ∃ (l' c' s' : Int32) (out' g' : Nat → Int32), (∀ j, 4 * t + 4 ≤ j → g' j = g j) ∧ (∀ post : SX → Prop, post (nI L, nI T, op, fa, fb, fc, inp, out', wq_rs (4 * t + 4) g', upd ll t l', upd sc t c', upd st t s') → wX_runThread_7 post (nI t) (d + 1) (nI l) (nI c) 0 (nI L) (nI T) op fa fb fc inp out (wq_rs (4 * t + 4) g) ll sc st) ∧ (∀ post : SY → Prop, post (nI T, nI L, op, fa, fb, fc, inp, out', g', upd ll t l', upd sc t c', upd st t s') → wY_runThread_47 post (nI t) (d + 1) (nI c) (nI T) (nI L) op fa fb fc inp out g (upd ll t (nI l)) (upd sc t (nI c)) (upd st t 2)) := by
  have ct : (nI t).toNatClampNeg = t := nI_clamp (by omega)
  have it : vp_in (nI t) 8 := vp_in_nI ht (by omega)
  intro d
  induction d with
  | zero =>
    intro c l out g hc hl
    have e : (48 : Int32) ≤ nI c := nI_le (a := 48) (by omega) (by omega)
    exact ⟨_, _, _, out, g, fun _ _ => rfl, fun post h => br_t e (wq_e62 hL ht hl (nI c) post h), fun post h => br_t e (wq_e129 hL ht hl post h)⟩
  | succ d ih =>
    intro c l out g hc hl
    have n48 : ¬ (48 : Int32) ≤ nI c := nI_ge (b := 48) (by omega) (by decide)
    by_cases z : l < L
    · have cl : (nI l).toNatClampNeg = l := nI_clamp (by omega)
      have il : vp_in (nI l) 32 := vp_in_nI (by omega) (by omega)
      have nL : ¬ nI L ≤ nI l := nI_ge z (by omega)
      by_cases h11 : op l = 11
      · have o11 : op (nI l).toNatClampNeg = 11 := by rw [cl]; exact h11
        exact ⟨nI l, nI (c + 1), 1, out, g, fun _ _ => rfl, fun post h => br_f n48 (br_f nL (br_t rfl (nm_r (nI_1 c) ⟨il, br_t o11 (wq_x62 ht _ _ post h d)⟩))), fun post h => wq_ylE hL ht z (by omega) h11 post (wq_y129 hL ht z _ post h d)⟩
      · have o11 : ¬ op (nI l).toNatClampNeg = 11 := by rw [cl]; exact h11
        obtain ⟨out1, g1, hg1, hXc, hYc⟩ := wq_co (L := L) (T := T) (op := op) (fa := fa) (fb := fb) (fc := fc) (inp := inp) ht (show l < 32 by omega) out g
        obtain ⟨r, hr, hXn, hYn⟩ := wq_nx (L := L) (T := T) (op := op) (fa := fa) (fb := fb) (fc := fc) (inp := inp) ht (show l < 32 by omega) g1
        obtain ⟨l', c', s', out', g', hg, hX, hY⟩ := ih (c + 1) r out1 g1 (by omega) hr
        refine ⟨l', c', s', out', g', fun j hj => (hg j hj).trans (hg1 j hj), fun post h => ?_, fun post h => ?_⟩
        · refine br_f n48 (br_f nL (br_t rfl (nm_r (nI_1 c) ⟨il, br_f o11 ?_⟩)))
          refine hXc _ _ _ _ ?_
          dsimp only
          exact hXn _ _ _ _ _ (hX post h)
        · exact wq_ylN hL ht z (by omega) h11 (fun Q hQ => hYc _ _ _ _ pk_us (hYn _ _ _ _ _ hQ)) post (hY post h)
    · have e : nI L ≤ nI l := nI_le (by omega) (by omega)
      have e' : nI L ≤ upd ll t (nI l) (nI t).toNatClampNeg := by rw [ct, pk_us]; exact e
      exact ⟨_, _, _, out, g, fun _ _ => rfl, fun post h => br_f n48 (br_t e (wq_e62 hL ht hl (nI c) post h)), fun post h => br_f n48 ⟨it, br_t e' (wq_e129 hL ht hl post h)⟩⟩
end
section
/-! runThread, the zeroing loops, and run over all threads -/
theorem wq_y2 {L T t : Nat} {op fa fb fc inp out ll sc st : Nat → Int32} (ht : t < 8) (post : SY → Prop) : ∀ (d i : Nat) (g : Nat → Int32), i + d = 4 → wY_runThread_47 post (nI t) 49 (nI 0) (nI T) (nI L) op fa fb fc inp out (wq_zf (4 * t + i) (4 * t + 4) g) (upd ll t (nI 0)) (upd sc t (nI 0)) (upd st t 2) → wY_runThread_2 post (nI t) (nI T) (nI L) (d + 1) (nI i) op fa fb fc inp out g ll sc st := by
  have ct : (nI t).toNatClampNeg = t := nI_clamp (by omega)
  have it : vp_in (nI t) 8 := vp_in_nI ht (by omega)
  intro d
  induction d with
  | zero =>
    intro i g hi h
    obtain rfl : i = 4 := by omega
    rw [wq_zf_n] at h
    rw [wY_runThread_2]
    dsimp only
    rw [ct]
    exact br_t (nI_le (a := 4) (b := 4) (by omega) (by omega)) ⟨it, nm_e ⟨it, nm_e ⟨it, nm_e ⟨49, h⟩⟩⟩⟩
  | succ d ih =>
    intro i g hi h
    have n4 : ¬ (4 : Int32) ≤ nI i := nI_ge (b := 4) (by omega) (by decide)
    have ci : (nI (4 * t + i)).toNatClampNeg = 4 * t + i := nI_clamp (by omega)
    have ii : vp_in (nI (4 * t + i)) 32 := vp_in_nI (by omega) (by omega)
    rw [wY_runThread_2]
    dsimp only
    rw [wq_ixN t i, ci, nI_1 i]
    refine br_f n4 ⟨ii, nm_e (nm_e (ih (i + 1) _ (by omega) ?_))⟩
    rw [show 4 * t + (i + 1) = 4 * t + i + 1 from rfl, wq_zf_s (by omega)]
    exact h
theorem wq_rt {L T t : Nat} {op fa fb fc inp : Nat → Int32} (hL : L ≤ 32) (ht : t < 8) (out g ll sc st : Nat → Int32) : ∃ (l' c' s' : Int32) (out' g' : Nat → Int32), (∀ j, 4 * t + 4 ≤ j → g' j = g j) ∧ (∀ post : SX → Prop, post (nI L, nI T, op, fa, fb, fc, inp, out', wq_rs (4 * t + 4) g', upd ll t l', upd sc t c', upd st t s') → wpX_runThread post (nI L, nI T, op, fa, fb, fc, inp, out, wq_rs (4 * t) g, ll, sc, st) (nI t)) ∧ (∀ post : SY → Prop, post (nI T, nI L, op, fa, fb, fc, inp, out', g', upd ll t l', upd sc t c', upd st t s') → wpY_runThread post (nI T, nI L, op, fa, fb, fc, inp, out, g, ll, sc, st) (nI t)) := by
  obtain ⟨l', c', s', out', g', hg, hX, hY⟩ := wq_lp (L := L) (T := T) (op := op) (fa := fa) (fb := fb) (fc := fc) (inp := inp) (ll := ll) (sc := sc) (st := st) hL ht 48 0 0 out (wq_zf (4 * t) (4 * t + 4) g) rfl (by omega)
  refine ⟨l', c', s', out', g', fun j hj => (hg j hj).trans (wq_zf_out (by omega)), fun post h => ?_, fun post h => ?_⟩
  · unfold wpX_runThread
    dsimp only
    rw [wq_rs_zf t g]
    exact ⟨49, hX post h⟩
  · unfold wpY_runThread
    dsimp only
    exact ⟨5, wq_y2 ht post 4 0 g rfl (hY post h)⟩
theorem wq_run {L T : Nat} {op fa fb fc inp : Nat → Int32} (hL : L ≤ 32) (hT : T ≤ 8) : ∀ (d t : Nat) (e : Int32) (out g ll sc st : Nat → Int32), t + d = T → ∃ (r : Int32) (out' g' ll' sc' st' : Nat → Int32), (∀ j, 4 * T ≤ j → g' j = g j) ∧ (∀ post : Int32 → SX → Prop, post r (nI L, nI T, op, fa, fb, fc, inp, out', wq_rs (4 * T) g', ll', sc', st') → wX_run_8 post (d + 1) e (nI t) (nI L) (nI T) op fa fb fc inp out (wq_rs (4 * t) g) ll sc st) ∧ (∀ post : Int32 → SY → Prop, post r (nI T, nI L, op, fa, fb, fc, inp, out', g', ll', sc', st') → wY_run_25 post (d + 1) e (nI t) (nI T) (nI L) op fa fb fc inp out g ll sc st) := by
  intro d
  induction d with
  | zero =>
    intro t e out g ll sc st hd
    obtain rfl : t = T := by omega
    have a : nI t ≤ nI t := nI_le (Nat.le_refl _) (by omega)
    exact ⟨e, out, g, ll, sc, st, fun _ _ => rfl, fun post h => br_t a h, fun post h => br_t a h⟩
  | succ d ih =>
    intro t e out g ll sc st hd
    have ct : (nI t).toNatClampNeg = t := nI_clamp (by omega)
    have it : vp_in (nI t) 8 := vp_in_nI (by omega) (by omega)
    have nT : ¬ nI T ≤ nI t := nI_ge (by omega) (by omega)
    obtain ⟨l', c', s', out1, g1, hg1, hX1, hY1⟩ := wq_rt (L := L) (T := T) (op := op) (fa := fa) (fb := fb) (fc := fc) (inp := inp) hL (show t < 8 by omega) out g ll sc st
    have e4 : 4 * (t + 1) = 4 * t + 4 := by omega
    have us : upd st t s' (nI t).toNatClampNeg = s' := by rw [ct, pk_us]
    by_cases z : s' = 1
    · obtain ⟨r, out', g', ll', sc', st', hg, hX, hY⟩ := ih (t + 1) (e + 1) out1 g1 (upd ll t l') (upd sc t c') (upd st t s') (by omega)
      rw [e4] at hX
      refine ⟨r, out', g', ll', sc', st', fun j hj => (hg j hj).trans (hg1 j (by omega)), fun post h => br_f nT (hX1 _ ?_), fun post h => br_f nT (hY1 _ ?_)⟩
      · exact ⟨it, br_t (us.trans z) (nm_e (nm_r (nI_1 t) (hX post h)))⟩
      · exact ⟨it, br_t (us.trans z) (nm_e (nm_r (nI_1 t) (hY post h)))⟩
    · obtain ⟨r, out', g', ll', sc', st', hg, hX, hY⟩ := ih (t + 1) e out1 g1 (upd ll t l') (upd sc t c') (upd st t s') (by omega)
      rw [e4] at hX
      refine ⟨r, out', g', ll', sc', st', fun j hj => (hg j hj).trans (hg1 j (by omega)), fun post h => br_f nT (hX1 _ ?_), fun post h => br_f nT (hY1 _ ?_)⟩
      · exact ⟨it, br_f (fun q => z (us.symm.trans q)) (nm_r (nI_1 t) (hX post h))⟩
      · exact ⟨it, br_f (fun q => z (us.symm.trans q)) (nm_r (nI_1 t) (hY post h))⟩
theorem wq_x23 {L T : Nat} {op fa fb fc inp reg ll sc st : Nat → Int32} (post : SX → Prop) : ∀ (d i : Nat) (out : Nat → Int32), i + d = 16 → post (nI L, nI T, op, fa, fb, fc, inp, wq_zf i 16 out, reg, ll, sc, st) → wX_resetForRun_23 post (nI L) (nI T) (d + 1) (nI i) op fa fb fc inp out reg ll sc st := by
  intro d
  induction d with
  | zero =>
    intro i out hi h
    obtain rfl : i = 16 := by omega
    rw [wq_zf_n] at h
    exact br_t (nI_le (a := 16) (b := 16) (by omega) (by omega)) h
  | succ d ih =>
    intro i out hi h
    have ni : ¬ (16 : Int32) ≤ nI i := nI_ge (b := 16) (by omega) (by decide)
    have ci : (nI i).toNatClampNeg = i := nI_clamp (by omega)
    rw [wX_resetForRun_23]
    dsimp only
    rw [ci, nI_1 i]
    refine br_f ni ⟨vp_in_nI (by omega) (by omega), nm_e (nm_e (ih (i + 1) _ (by omega) ?_))⟩
    rw [wq_zf_s (by omega)]
    exact h
theorem wq_x2 {L T : Nat} {op fa fb fc inp out ll sc st : Nat → Int32} (post : SX → Prop) : ∀ (d i : Nat) (reg : Nat → Int32), i + d = 32 → post (nI L, nI T, op, fa, fb, fc, inp, wq_zf 0 16 out, wq_zf i 32 reg, ll, sc, st) → wX_resetForRun_2 post (nI L) (nI T) (d + 1) (nI i) op fa fb fc inp out reg ll sc st := by
  intro d
  induction d with
  | zero =>
    intro i reg hi h
    obtain rfl : i = 32 := by omega
    rw [wq_zf_n] at h
    exact br_t (nI_le (a := 32) (b := 32) (by omega) (by omega)) ⟨17, wq_x23 post 16 0 out rfl h⟩
  | succ d ih =>
    intro i reg hi h
    have ni : ¬ (32 : Int32) ≤ nI i := nI_ge (b := 32) (by omega) (by decide)
    have ci : (nI i).toNatClampNeg = i := nI_clamp (by omega)
    rw [wX_resetForRun_2]
    dsimp only
    rw [ci, nI_1 i]
    refine br_f ni ⟨vp_in_nI (by omega) (by omega), nm_e (nm_e (ih (i + 1) _ (by omega) ?_))⟩
    rw [wq_zf_s (by omega)]
    exact h
theorem wq_xrs {L T : Nat} {op fa fb fc inp out reg ll sc st : Nat → Int32} (post : SX → Prop) (h : post (nI L, nI T, op, fa, fb, fc, inp, wq_zf 0 16 out, wq_zf 0 32 reg, ll, sc, st)) : wpX_resetForRun post (nI L, nI T, op, fa, fb, fc, inp, out, reg, ll, sc, st) := by
  unfold wpX_resetForRun
  dsimp only
  exact ⟨33, wq_x2 post 32 0 reg rfl h⟩
theorem wq_yr2 {L T : Nat} {op fa fb fc inp reg ll sc st : Nat → Int32} (post : Int32 → SY → Prop) (m : Nat) : ∀ (d i : Nat) (out : Nat → Int32), i + d = 16 → wY_run_25 post m 0 (nI 0) (nI T) (nI L) op fa fb fc inp (wq_zf i 16 out) reg ll sc st → wY_run_2 post (nI T) (nI L) (d + 1) (nI i) op fa fb fc inp out reg ll sc st := by
  intro d
  induction d with
  | zero =>
    intro i out hi h
    obtain rfl : i = 16 := by omega
    rw [wq_zf_n] at h
    exact br_t (nI_le (a := 16) (b := 16) (by omega) (by omega)) ⟨m, h⟩
  | succ d ih =>
    intro i out hi h
    have ni : ¬ (16 : Int32) ≤ nI i := nI_ge (b := 16) (by omega) (by decide)
    have ci : (nI i).toNatClampNeg = i := nI_clamp (by omega)
    rw [wY_run_2]
    dsimp only
    rw [ci, nI_1 i]
    refine br_f ni ⟨vp_in_nI (by omega) (by omega), nm_e (nm_e (ih (i + 1) _ (by omega) ?_))⟩
    rw [wq_zf_s (by omega)]
    exact h
end
section
/-- the same lines, cells, registers and results on both sides; the registers past the last thread are zero -/
def i_Rel (_ : Nat) (u : SX) (v : SY) : Prop := ∃ (L T : Nat) (op fa fb fc inp out reg ll sc st : Nat → Int32), L ≤ 32 ∧ T ≤ 8 ∧ (∀ j, 4 * T ≤ j → reg j = 0) ∧ u = (nI L, nI T, op, fa, fb, fc, inp, out, reg, ll, sc, st) ∧ v = (nI T, nI L, op, fa, fb, fc, inp, out, reg, ll, sc, st)
theorem i_up {k : Nat} {u : SX} {v : SY} (h : i_Rel k u v) : i_Rel (k + 5) u v := h
theorem wq_0 (k T : Nat) (hT : T ≤ 8) : i_Rel k (0, nI T, (fun _ => 0), (fun _ => 0), (fun _ => 0), (fun _ => 0), (fun _ => 0), (fun _ => 0), (fun _ => 0), (fun _ => 0), (fun _ => 0), (fun _ => 0)) (nI T, 0, (fun _ => 0), (fun _ => 0), (fun _ => 0), (fun _ => 0), (fun _ => 0), (fun _ => 0), (fun _ => 0), (fun _ => 0), (fun _ => 0), (fun _ => 0)) :=
  ⟨0, T, _, _, _, _, _, _, _, _, _, _, by omega, hT, fun _ _ => rfl, rfl, rfl⟩
theorem i_vc0 (k0 : Int32) : wpX_init (fun u => wpY_init (fun v => i_Rel 1 u v) k0) k0 := by
  unfold wpX_init wpY_init
  by_cases a : 1 ≤ k0
  · by_cases b : k0 ≤ 8
    · have n0 : ¬ k0 < 0 := by
        intro z
        rw [Int32.lt_iff_toInt_lt, show (0 : Int32).toInt = 0 from by decide] at z
        rw [Int32.le_iff_toInt_le, show (1 : Int32).toInt = 1 from by decide] at a
        omega
      obtain ⟨j, hj, rfl⟩ := nI_of2 (M := 8) (n := 8) (by decide) n0 b
      exact br_t a (br_t b (br_t a (br_t b (wq_0 1 j hj))))
    · exact br_t a (br_f b (br_t a (br_f b (wq_0 1 8 (by omega)))))
  · exact br_f a (br_f a (wq_0 1 1 (by omega)))
theorem i_vc_emit {k : Nat} {u : SX} {v : SY} (I : i_Rel k u v) (hk : k + 5 ≤ 2561) (v1 : Int32) (v2 : Int32) (v3 : Int32) (v4 : Int32) : wpX_emit (fun r u' => wpY_emit (fun r' v' => r' = r ∧ i_Rel (k + 5) u' v') v v1 v2 v3 v4) u v1 v2 v3 v4 := by
  have I' := I
  obtain ⟨L, T, op, fa, fb, fc, inp, out, reg, ll, sc, st, hL, hT, h0, rfl, rfl⟩ := I
  unfold wpX_emit wpY_emit
  dsimp only
  by_cases a : v1 < 0
  · exact br_t a (br_t a ⟨rfl, I'⟩)
  · by_cases b : 11 < v1
    · exact br_f a (br_t b (br_f a (br_t b ⟨rfl, I'⟩)))
    · by_cases c : L < 32
      · have cx : nI L < 32 := nI_lt (b := 32) c (by decide)
        have cy : ¬ nI L = 32 := fun z => by
          have := (nI_eq (a := L) (b := 32) (by omega) (by omega)).mp z
          omega
        have i : vp_in (nI L) 32 := vp_in_nI c (by omega)
        exact br_f a (br_f b (br_t cx ⟨i, nm_e ⟨i, nm_e ⟨i, nm_e ⟨i, nm_e (nm_r (nI_1 L) (br_f a (br_f b (br_f cy ⟨i, nm_e ⟨i, nm_e ⟨i, nm_e ⟨i, nm_e (nm_r (nI_1 L) ⟨rfl, L + 1, T, _, _, _, _, _, _, _, _, _, _, c, hT, h0, rfl, rfl⟩)⟩⟩⟩⟩))))⟩⟩⟩⟩))
      · obtain rfl : L = 32 := by omega
        exact br_f a (br_f b (br_f (nI_nlt (a := 32) (b := 32) (by omega) (by omega)) (br_f a (br_f b (br_t rfl ⟨rfl, I'⟩)))))
theorem i_vc_clear {k : Nat} {u : SX} {v : SY} (I : i_Rel k u v) (hk : k + 5 ≤ 2561) : wpX_clear (fun u' => wpY_clear (fun v' => i_Rel (k + 5) u' v') v) u := by
  obtain ⟨L, T, op, fa, fb, fc, inp, out, reg, ll, sc, st, hL, hT, h0, rfl, rfl⟩ := I
  exact ⟨0, T, _, _, _, _, _, _, _, _, _, _, by omega, hT, h0, rfl, rfl⟩
theorem i_vc_input {k : Nat} {u : SX} {v : SY} (I : i_Rel k u v) (hk : k + 5 ≤ 2561) (v1 : Int32) (v2 : Int32) : wpX_input (fun u' => wpY_input (fun v' => i_Rel (k + 5) u' v') v v1 v2) u v1 v2 := by
  obtain ⟨L, T, op, fa, fb, fc, inp, out, reg, ll, sc, st, hL, hT, h0, rfl, rfl⟩ := I
  unfold wpX_input wpY_input
  dsimp only
  exact ⟨wq_in15 v1, nm_e ⟨wq_in15 v1, nm_e ⟨L, T, _, _, _, _, _, _, _, _, _, _, hL, hT, h0, rfl, rfl⟩⟩⟩
theorem i_vc_run {k : Nat} {u : SX} {v : SY} (I : i_Rel k u v) (hk : k + 5 ≤ 2561) : wpX_run (fun r u' => wpY_run (fun r' v' => r' = r ∧ i_Rel (k + 5) u' v') v) u := by
  obtain ⟨L, T, op, fa, fb, fc, inp, out, reg, ll, sc, st, hL, hT, h0, rfl, rfl⟩ := I
  obtain ⟨r, out', g', ll', sc', st', hg, hX, hY⟩ := wq_run (L := L) (T := T) (op := op) (fa := fa) (fb := fb) (fc := fc) (inp := inp) hL hT T 0 0 (wq_zf 0 16 out) reg ll sc st (by omega)
  have hz : ∀ j, 4 * T ≤ j → g' j = 0 := fun j hj => (hg j hj).trans (h0 j hj)
  rw [wq_rs_all hz, ← wq_zf_rs hT h0] at hX
  unfold wpX_run
  dsimp only
  refine wq_xrs _ ?_
  dsimp only
  refine ⟨T + 1, hX _ ?_⟩
  unfold wpY_run
  dsimp only
  exact ⟨17, wq_yr2 _ (T + 1) 16 0 out rfl (hY _ ⟨rfl, L, T, _, _, _, _, _, _, _, _, _, _, hL, hT, hz, rfl, rfl⟩)⟩
theorem wq_has {T : Nat} (hT : T ≤ 8) (x : Int32) : ((∀ (post : Int32 → Prop) (f : Int32) (a1 a2 a3 a4 a5 a6 a7 a8 a9 a10 : Nat → Int32), post 0 → wpX_hasThread post (f, nI T, a1, a2, a3, a4, a5, a6, a7, a8, a9, a10) x) ∧ (∀ (post : Int32 → Prop) (f : Int32) (a1 a2 a3 a4 a5 a6 a7 a8 a9 a10 : Nat → Int32), post 1 → wpY_missing post (nI T, f, a1, a2, a3, a4, a5, a6, a7, a8, a9, a10) x)) ∨ ∃ j : Nat, j < T ∧ x = nI j ∧ (∀ (post : Int32 → Prop) (f : Int32) (a1 a2 a3 a4 a5 a6 a7 a8 a9 a10 : Nat → Int32), post 1 → wpX_hasThread post (f, nI T, a1, a2, a3, a4, a5, a6, a7, a8, a9, a10) x) ∧ (∀ (post : Int32 → Prop) (f : Int32) (a1 a2 a3 a4 a5 a6 a7 a8 a9 a10 : Nat → Int32), post 0 → wpY_missing post (nI T, f, a1, a2, a3, a4, a5, a6, a7, a8, a9, a10) x) := by
  by_cases a : x < 0
  · exact Or.inl ⟨fun post f a1 a2 a3 a4 a5 a6 a7 a8 a9 a10 h => br_t a h, fun post f a1 a2 a3 a4 a5 a6 a7 a8 a9 a10 h => br_t a h⟩
  · obtain ⟨j, hj, rfl⟩ := nI_of a
    by_cases b : j < T
    · exact Or.inr ⟨j, b, rfl, fun post f a1 a2 a3 a4 a5 a6 a7 a8 a9 a10 h => br_f a (br_f (nI_ge b (by omega)) h), fun post f a1 a2 a3 a4 a5 a6 a7 a8 a9 a10 h => br_f a (br_t (nI_lt b (by omega)) h)⟩
    · exact Or.inl ⟨fun post f a1 a2 a3 a4 a5 a6 a7 a8 a9 a10 h => br_f a (br_t (nI_le (by omega) hj) h), fun post f a1 a2 a3 a4 a5 a6 a7 a8 a9 a10 h => br_f a (br_f (nI_nlt (by omega) hj) h)⟩
theorem i_vc_reg {k : Nat} {u : SX} {v : SY} (I : i_Rel k u v) (hk : k + 5 ≤ 2561) (v1 : Int32) (v2 : Int32) : wpX_reg (fun r => wpY_reg (fun r' => r' = r ∧ i_Rel (k + 5) u v) v v1 v2) u v1 v2 := by
  have I' := I
  obtain ⟨L, T, op, fa, fb, fc, inp, out, reg, ll, sc, st, hL, hT, h0, rfl, rfl⟩ := I
  unfold wpX_reg wpY_reg
  dsimp only
  rcases wq_has hT v1 with ⟨hX, hY⟩ | ⟨j, hj, rfl, hX, hY⟩
  · exact hX _ _ _ _ _ _ _ _ _ _ _ _ (br_t rfl (hY _ _ _ _ _ _ _ _ _ _ _ _ (br_f (by decide) ⟨rfl, I'⟩)))
  · have hi := wq_ix_lt j v2
    have ii : vp_in (nI (wq_ix j v2)) 32 := vp_in_nI (by omega) (by omega)
    rw [wq_ixX, wq_ixY]
    exact hX _ _ _ _ _ _ _ _ _ _ _ _ (br_f (by decide) ⟨ii, hY _ _ _ _ _ _ _ _ _ _ _ _ (br_t rfl ⟨ii, rfl, I'⟩)⟩)
theorem i_vc_line {k : Nat} {u : SX} {v : SY} (I : i_Rel k u v) (hk : k + 5 ≤ 2561) (v1 : Int32) : wpX_line (fun r => wpY_line (fun r' => r' = r ∧ i_Rel (k + 5) u v) v v1) u v1 := by
  have I' := I
  obtain ⟨L, T, op, fa, fb, fc, inp, out, reg, ll, sc, st, hL, hT, h0, rfl, rfl⟩ := I
  unfold wpX_line wpY_line
  dsimp only
  rcases wq_has hT v1 with ⟨hX, hY⟩ | ⟨j, hj, rfl, hX, hY⟩
  · exact hX _ _ _ _ _ _ _ _ _ _ _ _ (br_t rfl (hY _ _ _ _ _ _ _ _ _ _ _ _ (br_f (by decide) ⟨rfl, I'⟩)))
  · have ii : vp_in (nI j) 8 := vp_in_nI (by omega) (by omega)
    exact hX _ _ _ _ _ _ _ _ _ _ _ _ (br_f (by decide) ⟨ii, hY _ _ _ _ _ _ _ _ _ _ _ _ (br_t rfl ⟨ii, rfl, I'⟩)⟩)
theorem i_vc_steps {k : Nat} {u : SX} {v : SY} (I : i_Rel k u v) (hk : k + 5 ≤ 2561) (v1 : Int32) : wpX_steps (fun r => wpY_steps (fun r' => r' = r ∧ i_Rel (k + 5) u v) v v1) u v1 := by
  have I' := I
  obtain ⟨L, T, op, fa, fb, fc, inp, out, reg, ll, sc, st, hL, hT, h0, rfl, rfl⟩ := I
  unfold wpX_steps wpY_steps
  dsimp only
  rcases wq_has hT v1 with ⟨hX, hY⟩ | ⟨j, hj, rfl, hX, hY⟩
  · exact hX _ _ _ _ _ _ _ _ _ _ _ _ (br_t rfl (hY _ _ _ _ _ _ _ _ _ _ _ _ (br_f (by decide) ⟨rfl, I'⟩)))
  · have ii : vp_in (nI j) 8 := vp_in_nI (by omega) (by omega)
    exact hX _ _ _ _ _ _ _ _ _ _ _ _ (br_f (by decide) ⟨ii, hY _ _ _ _ _ _ _ _ _ _ _ _ (br_t rfl ⟨ii, rfl, I'⟩)⟩)
theorem i_vc_state {k : Nat} {u : SX} {v : SY} (I : i_Rel k u v) (hk : k + 5 ≤ 2561) (v1 : Int32) : wpX_state (fun r => wpY_state (fun r' => r' = r ∧ i_Rel (k + 5) u v) v v1) u v1 := by
  have I' := I
  obtain ⟨L, T, op, fa, fb, fc, inp, out, reg, ll, sc, st, hL, hT, h0, rfl, rfl⟩ := I
  unfold wpX_state wpY_state
  dsimp only
  rcases wq_has hT v1 with ⟨hX, hY⟩ | ⟨j, hj, rfl, hX, hY⟩
  · exact hX _ _ _ _ _ _ _ _ _ _ _ _ (br_t rfl (hY _ _ _ _ _ _ _ _ _ _ _ _ (br_f (by decide) ⟨rfl, I'⟩)))
  · have ii : vp_in (nI j) 8 := vp_in_nI (by omega) (by omega)
    exact hX _ _ _ _ _ _ _ _ _ _ _ _ (br_f (by decide) ⟨ii, hY _ _ _ _ _ _ _ _ _ _ _ _ (br_t rfl ⟨ii, rfl, I'⟩)⟩)
theorem i_vc_output {k : Nat} {u : SX} {v : SY} (I : i_Rel k u v) (hk : k + 5 ≤ 2561) (v1 : Int32) : wpX_output (fun r => wpY_output (fun r' => r' = r ∧ i_Rel (k + 5) u v) v v1) u v1 := by
  have I' := I
  obtain ⟨L, T, op, fa, fb, fc, inp, out, reg, ll, sc, st, hL, hT, h0, rfl, rfl⟩ := I
  exact ⟨wq_in15 v1, wq_in15 v1, rfl, I'⟩
end
