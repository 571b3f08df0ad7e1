/-! one thread's run: X's loop and Y's in lockstep, over Y's counter -/
theorem wq_e62 {L T t l : Nat} {op fa fb fc inp out reg ll sc st : Nat → Int32} (hL : L ≤ 32) (ht : t < 8) (hl : l ≤ 32) (x3 : Int32) (post : SX → Prop) (h : post (nI L, nI T, op, fa, fb, fc, inp, out, reg, upd ll t (nI l), upd sc t x3, upd st t (if l < L then 2 else 1))) : wX_runThread_62 post (nI t) (nI l) x3 0 (nI L) (nI T) op fa fb fc inp out reg ll sc st := by
  have ct : (nI t).toNatClampNeg = t := nI_clamp (by omega)
  have it : vp_in (nI t) 8 := vp_in_nI ht (by omega)
  unfold wX_runThread_62
  rw [ct]
  refine ⟨it, nm_e ⟨it, nm_e (br_t rfl ?_)⟩⟩
  by_cases z : l < L
  · rw [if_pos z] at h
    exact br_t (nI_lt z (by omega)) ⟨it, nm_e h⟩
  · rw [if_neg z] at h
    exact br_f (nI_nlt (by omega) (by omega)) ⟨it, nm_e h⟩
theorem wq_x62 {L T t : Nat} {op fa fb fc inp out reg ll sc st : Nat → Int32} (ht : t < 8) (x2 x3 : Int32) (post : SX → Prop) (h : post (nI L, nI T, op, fa, fb, fc, inp, out, reg, upd ll t x2, upd sc t x3, upd st t 1)) (n : Nat) : wX_runThread_7 post (nI t) (n + 1) x2 x3 1 (nI L) (nI T) op fa fb fc inp out reg ll sc st := by
  have ct : (nI t).toNatClampNeg = t := nI_clamp (by omega)
  have it : vp_in (nI t) 8 := vp_in_nI ht (by omega)
  have e : wX_runThread_62 post (nI t) x2 x3 1 (nI L) (nI T) op fa fb fc inp out reg ll sc st := by
    unfold wX_runThread_62
    rw [ct]
    exact ⟨it, nm_e ⟨it, nm_e (br_f (by decide) ⟨it, nm_e h⟩)⟩⟩
  exact br_c (fun _ => e) (fun _ => br_c (fun _ => e) (fun _ => br_f (by decide) e))
theorem wq_e129 {L T t l : Nat} {op fa fb fc inp out g ll dn st : Nat → Int32} (hL : L ≤ 32) (ht : t < 8) (hl : l ≤ 32) (post : SY → Prop) (h : post (nI T, nI L, op, fa, fb, fc, inp, out, g, upd ll t (nI l), dn, upd st t (if l < L then 2 else 1))) : wY_runThread_129 post (nI t) (nI T) (nI L) op fa fb fc inp out g (upd ll t (nI l)) dn (upd st t 2) := by
  have ct : (nI t).toNatClampNeg = t := nI_clamp (by omega)
  have it : vp_in (nI t) 8 := vp_in_nI ht (by omega)
  unfold wY_runThread_129
  rw [ct, pk_us (f := ll) (k := t) (x := nI l)]
  by_cases z : l < L
  · rw [if_pos z] at h
    exact ⟨it, br_t (nI_lt z (by omega)) h⟩
  · rw [if_neg z] at h
    exact ⟨it, br_f (nI_nlt (by omega) (by omega)) ⟨it, nm_r wq_uu h⟩⟩
theorem wq_y129 {L T t l : Nat} {op fa fb fc inp out g ll dn st : Nat → Int32} (hL : L ≤ 32) (ht : t < 8) (hl : l < L) (x2 : Int32) (post : SY → Prop) (h : post (nI T, nI L, op, fa, fb, fc, inp, out, g, upd ll t (nI l), dn, upd st t 1)) (n : Nat) : wY_runThread_47 post (nI t) (n + 1) x2 (nI T) (nI L) op fa fb fc inp out g (upd ll t (nI l)) dn (upd st t 1) := by
  have ct : (nI t).toNatClampNeg = t := nI_clamp (by omega)
  have it : vp_in (nI t) 8 := vp_in_nI ht (by omega)
  have e : wY_runThread_129 post (nI t) (nI T) (nI L) op fa fb fc inp out g (upd ll t (nI l)) dn (upd st t 1) := by
    unfold wY_runThread_129
    rw [ct, pk_us (f := ll) (k := t) (x := nI l)]
    exact ⟨it, br_t (nI_lt hl (by omega)) h⟩
  have s : ¬ upd st t 1 (nI t).toNatClampNeg = 2 := by rw [ct, pk_us]; decide
  exact br_c (fun _ => e) (fun _ => ⟨it, br_c (fun _ => e) (fun _ => ⟨it, br_f s e⟩)⟩)
theorem wq_ylE {L T t c l d : Nat} {op fa fb fc inp out g ll sc st : Nat → Int32} (hL : L ≤ 32) (ht : t < 8) (hl : l < L) (hc : c < 48) (z : op l = 11) (post : SY → Prop) (h : wY_runThread_47 post (nI t) d (nI (c + 1)) (nI T) (nI L) op fa fb fc inp out g (upd ll t (nI l)) (upd sc t (nI (c + 1))) (upd st t 1)) : wY_runThread_47 post (nI t) (d + 1) (nI c) (nI T) (nI L) op fa fb fc inp out g (upd ll t (nI l)) (upd sc t (nI c)) (upd st t 2) := by
  have ct : (nI t).toNatClampNeg = t := nI_clamp (by omega)
  have it : vp_in (nI t) 8 := vp_in_nI ht (by omega)
  have cl : (nI l).toNatClampNeg = l := nI_clamp (by omega)
  have il : vp_in (nI l) 32 := vp_in_nI (by omega) (by omega)
  have n48 : ¬ (48 : Int32) ≤ nI c := nI_ge (b := 48) hc (by decide)
  have nL : ¬ nI L ≤ nI l := nI_ge hl (by omega)
  have es : upd (upd sc t (nI c)) t (upd sc t (nI c) t + 1) = upd sc t (nI (c + 1)) := by rw [pk_us, wq_uu, nI_1]
  rw [wY_runThread_47]
  dsimp only
  rw [ct, pk_us (f := ll) (k := t) (x := nI l), pk_us (f := st) (k := t) (x := 2), cl, es, wq_uu (f := st), nI_1 c]
  exact br_f n48 ⟨it, br_f nL ⟨it, br_t rfl ⟨it, it, nm_e ⟨it, il, br_t z ⟨it, nm_e (nm_e h)⟩⟩⟩⟩⟩
theorem wq_ylN {L T t c l d r : Nat} {op fa fb fc inp out g out1 g1 ll sc st : Nat → Int32} (hL : L ≤ 32) (ht : t < 8) (hl : l < L) (hc : c < 48) (z : ¬ op l = 11) (hQ : ∀ Q : Int32 → SY → Prop, Q (nI r) (nI T, nI L, op, fa, fb, fc, inp, out1, g1, upd ll t (nI l), upd sc t (nI (c + 1)), upd st t 2) → wpY_carryOut Q (nI T, nI L, op, fa, fb, fc, inp, out, g, upd ll t (nI l), upd sc t (nI (c + 1)), upd st t 2) (nI t)) (post : SY → Prop) (h : wY_runThread_47 post (nI t) d (nI (c + 1)) (nI T) (nI L) op fa fb fc inp out1 g1 (upd ll t (nI r)) (upd sc t (nI (c + 1))) (upd st t 2)) : wY_runThread_47 post (nI t) (d + 1) (nI c) (nI T) (nI L) op fa fb fc inp out g (upd ll t (nI l)) (upd sc t (nI c)) (upd st t 2) := by
  have ct : (nI t).toNatClampNeg = t := nI_clamp (by omega)
  have it : vp_in (nI t) 8 := vp_in_nI ht (by omega)
  have cl : (nI l).toNatClampNeg = l := nI_clamp (by omega)
  have il : vp_in (nI l) 32 := vp_in_nI (by omega) (by omega)
  have n48 : ¬ (48 : Int32) ≤ nI c := nI_ge (b := 48) hc (by decide)
  have nL : ¬ nI L ≤ nI l := nI_ge hl (by omega)
  have es : upd (upd sc t (nI c)) t (upd sc t (nI c) t + 1) = upd sc t (nI (c + 1)) := by rw [pk_us, wq_uu, nI_1]
  rw [wY_runThread_47]
  dsimp only
  rw [ct, pk_us (f := ll) (k := t) (x := nI l), pk_us (f := st) (k := t) (x := 2), cl, es, wq_uu (f := st), nI_1 c]
  refine br_f n48 ⟨it, br_f nL ⟨it, br_t rfl ⟨it, it, nm_e ⟨it, il, br_f z (hQ _ ?_)⟩⟩⟩⟩
  dsimp only
  exact ⟨it, nm_r wq_uu (nm_e h)⟩
theorem wq_lp {L T t : Nat} {op fa fb fc inp ll sc st : Nat → Int32} (hL : L ≤ 32) (ht : t < 8) : ∀ (d c l : Nat) (out g : Nat → Int32), c + d = 48 → l ≤ 32 → ∃ (l' c' s' : Int32) (out' g' : Nat → Int32), (∀ j, 4 * t + 4 ≤ j → g' j = g j) ∧ (∀ post : SX → Prop, post (nI L, nI T, op, fa, fb, fc, inp, out', wq_rs (4 * t + 4) g', upd ll t l', upd sc t c', upd st t s') → wX_runThread_7 post (nI t) (d + 1) (nI l) (nI c) 0 (nI L) (nI T) op fa fb fc inp out (wq_rs (4 * t + 4) g) ll sc st) ∧ (∀ post : SY → Prop, post (nI T, nI L, op, fa, fb, fc, inp, out', g', upd ll t l', upd sc t c', upd st t s') → wY_runThread_47 post (nI t) (d + 1) (nI c) (nI T) (nI L) op fa fb fc inp out g (upd ll t (nI l)) (upd sc t (nI c)) (upd st t 2)) := by
  have ct : (nI t).toNatClampNeg = t := nI_clamp (by omega)
  have it : vp_in (nI t) 8 := vp_in_nI ht (by omega)
  intro d
  induction d with
  | zero =>
    intro c l out g hc hl
    have e : (48 : Int32) ≤ nI c := nI_le (a := 48) (by omega) (by omega)
    exact ⟨_, _, _, out, g, fun _ _ => rfl, fun post h => br_t e (wq_e62 hL ht hl (nI c) post h), fun post h => br_t e (wq_e129 hL ht hl post h)⟩
  | succ d ih =>
    intro c l out g hc hl
    have n48 : ¬ (48 : Int32) ≤ nI c := nI_ge (b := 48) (by omega) (by decide)
    by_cases z : l < L
    · have cl : (nI l).toNatClampNeg = l := nI_clamp (by omega)
      have il : vp_in (nI l) 32 := vp_in_nI (by omega) (by omega)
      have nL : ¬ nI L ≤ nI l := nI_ge z (by omega)
      by_cases h11 : op l = 11
      · have o11 : op (nI l).toNatClampNeg = 11 := by rw [cl]; exact h11
        exact ⟨nI l, nI (c + 1), 1, out, g, fun _ _ => rfl, fun post h => br_f n48 (br_f nL (br_t rfl (nm_r (nI_1 c) ⟨il, br_t o11 (wq_x62 ht _ _ post h d)⟩))), fun post h => wq_ylE hL ht z (by omega) h11 post (wq_y129 hL ht z _ post h d)⟩
      · have o11 : ¬ op (nI l).toNatClampNeg = 11 := by rw [cl]; exact h11
        obtain ⟨out1, g1, hg1, hXc, hYc⟩ := wq_co (L := L) (T := T) (op := op) (fa := fa) (fb := fb) (fc := fc) (inp := inp) ht (show l < 32 by omega) out g
        obtain ⟨r, hr, hXn, hYn⟩ := wq_nx (L := L) (T := T) (op := op) (fa := fa) (fb := fb) (fc := fc) (inp := inp) ht (show l < 32 by omega) g1
        obtain ⟨l', c', s', out', g', hg, hX, hY⟩ := ih (c + 1) r out1 g1 (by omega) hr
        refine ⟨l', c', s', out', g', fun j hj => (hg j hj).trans (hg1 j hj), fun post h => ?_, fun post h => ?_⟩
        · refine br_f n48 (br_f nL (br_t rfl (nm_r (nI_1 c) ⟨il, br_f o11 ?_⟩)))
          refine hXc _ _ _ _ ?_
          dsimp only
          exact hXn _ _ _ _ _ (hX post h)
        · exact wq_ylN hL ht z (by omega) h11 (fun Q hQ => hYc _ _ _ _ pk_us (hYn _ _ _ _ _ hQ)) post (hY post h)
    · have e : nI L ≤ nI l := nI_le (by omega) (by omega)
      have e' : nI L ≤ upd ll t (nI l) (nI t).toNatClampNeg := by rw [ct, pk_us]; exact e
      exact ⟨_, _, _, out, g, fun _ _ => rfl, fun post h => br_f n48 (br_t e (wq_e62 hL ht hl (nI c) post h)), fun post h => br_f n48 ⟨it, br_t e' (wq_e129 hL ht hl post h)⟩⟩
