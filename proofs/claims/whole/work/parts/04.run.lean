/-! runThread, the zeroing loops, and run over all threads -/
theorem wq_y2 {L T t : Nat} {op fa fb fc inp out ll sc st : Nat → Int32} (ht : t < 8) (post : SY → Prop) : ∀ (d i : Nat) (g : Nat → Int32), i + d = 4 → wY_runThread_47 post (nI t) 49 (nI 0) (nI T) (nI L) op fa fb fc inp out (wq_zf (4 * t + i) (4 * t + 4) g) (upd ll t (nI 0)) (upd sc t (nI 0)) (upd st t 2) → wY_runThread_2 post (nI t) (nI T) (nI L) (d + 1) (nI i) op fa fb fc inp out g ll sc st := by
  have ct : (nI t).toNatClampNeg = t := nI_clamp (by omega)
  have it : vp_in (nI t) 8 := vp_in_nI ht (by omega)
  intro d
  induction d with
  | zero =>
    intro i g hi h
    obtain rfl : i = 4 := by omega
    rw [wq_zf_n] at h
    rw [wY_runThread_2]
    dsimp only
    rw [ct]
    exact br_t (nI_le (a := 4) (b := 4) (by omega) (by omega)) ⟨it, nm_e ⟨it, nm_e ⟨it, nm_e ⟨49, h⟩⟩⟩⟩
  | succ d ih =>
    intro i g hi h
    have n4 : ¬ (4 : Int32) ≤ nI i := nI_ge (b := 4) (by omega) (by decide)
    have ci : (nI (4 * t + i)).toNatClampNeg = 4 * t + i := nI_clamp (by omega)
    have ii : vp_in (nI (4 * t + i)) 32 := vp_in_nI (by omega) (by omega)
    rw [wY_runThread_2]
    dsimp only
    rw [wq_ixN t i, ci, nI_1 i]
    refine br_f n4 ⟨ii, nm_e (nm_e (ih (i + 1) _ (by omega) ?_))⟩
    rw [show 4 * t + (i + 1) = 4 * t + i + 1 from rfl, wq_zf_s (by omega)]
    exact h
theorem wq_rt {L T t : Nat} {op fa fb fc inp : Nat → Int32} (hL : L ≤ 32) (ht : t < 8) (out g ll sc st : Nat → Int32) : ∃ (l' c' s' : Int32) (out' g' : Nat → Int32), (∀ j, 4 * t + 4 ≤ j → g' j = g j) ∧ (∀ post : SX → Prop, post (nI L, nI T, op, fa, fb, fc, inp, out', wq_rs (4 * t + 4) g', upd ll t l', upd sc t c', upd st t s') → wpX_runThread post (nI L, nI T, op, fa, fb, fc, inp, out, wq_rs (4 * t) g, ll, sc, st) (nI t)) ∧ (∀ post : SY → Prop, post (nI T, nI L, op, fa, fb, fc, inp, out', g', upd ll t l', upd sc t c', upd st t s') → wpY_runThread post (nI T, nI L, op, fa, fb, fc, inp, out, g, ll, sc, st) (nI t)) := by
  obtain ⟨l', c', s', out', g', hg, hX, hY⟩ := wq_lp (L := L) (T := T) (op := op) (fa := fa) (fb := fb) (fc := fc) (inp := inp) (ll := ll) (sc := sc) (st := st) hL ht 48 0 0 out (wq_zf (4 * t) (4 * t + 4) g) rfl (by omega)
  refine ⟨l', c', s', out', g', fun j hj => (hg j hj).trans (wq_zf_out (by omega)), fun post h => ?_, fun post h => ?_⟩
  · unfold wpX_runThread
    dsimp only
    rw [wq_rs_zf t g]
    exact ⟨49, hX post h⟩
  · unfold wpY_runThread
    dsimp only
    exact ⟨5, wq_y2 ht post 4 0 g rfl (hY post h)⟩
theorem wq_run {L T : Nat} {op fa fb fc inp : Nat → Int32} (hL : L ≤ 32) (hT : T ≤ 8) : ∀ (d t : Nat) (e : Int32) (out g ll sc st : Nat → Int32), t + d = T → ∃ (r : Int32) (out' g' ll' sc' st' : Nat → Int32), (∀ j, 4 * T ≤ j → g' j = g j) ∧ (∀ post : Int32 → SX → Prop, post r (nI L, nI T, op, fa, fb, fc, inp, out', wq_rs (4 * T) g', ll', sc', st') → wX_run_8 post (d + 1) e (nI t) (nI L) (nI T) op fa fb fc inp out (wq_rs (4 * t) g) ll sc st) ∧ (∀ post : Int32 → SY → Prop, post r (nI T, nI L, op, fa, fb, fc, inp, out', g', ll', sc', st') → wY_run_25 post (d + 1) e (nI t) (nI T) (nI L) op fa fb fc inp out g ll sc st) := by
  intro d
  induction d with
  | zero =>
    intro t e out g ll sc st hd
    obtain rfl : t = T := by omega
    have a : nI t ≤ nI t := nI_le (Nat.le_refl _) (by omega)
    exact ⟨e, out, g, ll, sc, st, fun _ _ => rfl, fun post h => br_t a h, fun post h => br_t a h⟩
  | succ d ih =>
    intro t e out g ll sc st hd
    have ct : (nI t).toNatClampNeg = t := nI_clamp (by omega)
    have it : vp_in (nI t) 8 := vp_in_nI (by omega) (by omega)
    have nT : ¬ nI T ≤ nI t := nI_ge (by omega) (by omega)
    obtain ⟨l', c', s', out1, g1, hg1, hX1, hY1⟩ := wq_rt (L := L) (T := T) (op := op) (fa := fa) (fb := fb) (fc := fc) (inp := inp) hL (show t < 8 by omega) out g ll sc st
    have e4 : 4 * (t + 1) = 4 * t + 4 := by omega
    have us : upd st t s' (nI t).toNatClampNeg = s' := by rw [ct, pk_us]
    by_cases z : s' = 1
    · obtain ⟨r, out', g', ll', sc', st', hg, hX, hY⟩ := ih (t + 1) (e + 1) out1 g1 (upd ll t l') (upd sc t c') (upd st t s') (by omega)
      rw [e4] at hX
      refine ⟨r, out', g', ll', sc', st', fun j hj => (hg j hj).trans (hg1 j (by omega)), fun post h => br_f nT (hX1 _ ?_), fun post h => br_f nT (hY1 _ ?_)⟩
      · exact ⟨it, br_t (us.trans z) (nm_e (nm_r (nI_1 t) (hX post h)))⟩
      · exact ⟨it, br_t (us.trans z) (nm_e (nm_r (nI_1 t) (hY post h)))⟩
    · obtain ⟨r, out', g', ll', sc', st', hg, hX, hY⟩ := ih (t + 1) e out1 g1 (upd ll t l') (upd sc t c') (upd st t s') (by omega)
      rw [e4] at hX
      refine ⟨r, out', g', ll', sc', st', fun j hj => (hg j hj).trans (hg1 j (by omega)), fun post h => br_f nT (hX1 _ ?_), fun post h => br_f nT (hY1 _ ?_)⟩
      · exact ⟨it, br_f (fun q => z (us.symm.trans q)) (nm_r (nI_1 t) (hX post h))⟩
      · exact ⟨it, br_f (fun q => z (us.symm.trans q)) (nm_r (nI_1 t) (hY post h))⟩
theorem wq_x23 {L T : Nat} {op fa fb fc inp reg ll sc st : Nat → Int32} (post : SX → Prop) : ∀ (d i : Nat) (out : Nat → Int32), i + d = 16 → post (nI L, nI T, op, fa, fb, fc, inp, wq_zf i 16 out, reg, ll, sc, st) → wX_resetForRun_23 post (nI L) (nI T) (d + 1) (nI i) op fa fb fc inp out reg ll sc st := by
  intro d
  induction d with
  | zero =>
    intro i out hi h
    obtain rfl : i = 16 := by omega
    rw [wq_zf_n] at h
    exact br_t (nI_le (a := 16) (b := 16) (by omega) (by omega)) h
  | succ d ih =>
    intro i out hi h
    have ni : ¬ (16 : Int32) ≤ nI i := nI_ge (b := 16) (by omega) (by decide)
    have ci : (nI i).toNatClampNeg = i := nI_clamp (by omega)
    rw [wX_resetForRun_23]
    dsimp only
    rw [ci, nI_1 i]
    refine br_f ni ⟨vp_in_nI (by omega) (by omega), nm_e (nm_e (ih (i + 1) _ (by omega) ?_))⟩
    rw [wq_zf_s (by omega)]
    exact h
theorem wq_x2 {L T : Nat} {op fa fb fc inp out ll sc st : Nat → Int32} (post : SX → Prop) : ∀ (d i : Nat) (reg : Nat → Int32), i + d = 32 → post (nI L, nI T, op, fa, fb, fc, inp, wq_zf 0 16 out, wq_zf i 32 reg, ll, sc, st) → wX_resetForRun_2 post (nI L) (nI T) (d + 1) (nI i) op fa fb fc inp out reg ll sc st := by
  intro d
  induction d with
  | zero =>
    intro i reg hi h
    obtain rfl : i = 32 := by omega
    rw [wq_zf_n] at h
    exact br_t (nI_le (a := 32) (b := 32) (by omega) (by omega)) ⟨17, wq_x23 post 16 0 out rfl h⟩
  | succ d ih =>
    intro i reg hi h
    have ni : ¬ (32 : Int32) ≤ nI i := nI_ge (b := 32) (by omega) (by decide)
    have ci : (nI i).toNatClampNeg = i := nI_clamp (by omega)
    rw [wX_resetForRun_2]
    dsimp only
    rw [ci, nI_1 i]
    refine br_f ni ⟨vp_in_nI (by omega) (by omega), nm_e (nm_e (ih (i + 1) _ (by omega) ?_))⟩
    rw [wq_zf_s (by omega)]
    exact h
theorem wq_xrs {L T : Nat} {op fa fb fc inp out reg ll sc st : Nat → Int32} (post : SX → Prop) (h : post (nI L, nI T, op, fa, fb, fc, inp, wq_zf 0 16 out, wq_zf 0 32 reg, ll, sc, st)) : wpX_resetForRun post (nI L, nI T, op, fa, fb, fc, inp, out, reg, ll, sc, st) := by
  unfold wpX_resetForRun
  dsimp only
  exact ⟨33, wq_x2 post 32 0 reg rfl h⟩
theorem wq_yr2 {L T : Nat} {op fa fb fc inp reg ll sc st : Nat → Int32} (post : Int32 → SY → Prop) (m : Nat) : ∀ (d i : Nat) (out : Nat → Int32), i + d = 16 → wY_run_25 post m 0 (nI 0) (nI T) (nI L) op fa fb fc inp (wq_zf i 16 out) reg ll sc st → wY_run_2 post (nI T) (nI L) (d + 1) (nI i) op fa fb fc inp out reg ll sc st := by
  intro d
  induction d with
  | zero =>
    intro i out hi h
    obtain rfl : i = 16 := by omega
    rw [wq_zf_n] at h
    exact br_t (nI_le (a := 16) (b := 16) (by omega) (by omega)) ⟨m, h⟩
  | succ d ih =>
    intro i out hi h
    have ni : ¬ (16 : Int32) ≤ nI i := nI_ge (b := 16) (by omega) (by decide)
    have ci : (nI i).toNatClampNeg = i := nI_clamp (by omega)
    rw [wY_run_2]
    dsimp only
    rw [ci, nI_1 i]
    refine br_f ni ⟨vp_in_nI (by omega) (by omega), nm_e (nm_e (ih (i + 1) _ (by omega) ?_))⟩
    rw [wq_zf_s (by omega)]
    exact h
