/-! stores, masks, the register file cut at a thread, zeroed stretches (the pk_ rows are pasted from the kit's rows to paste) -/
theorem pk_us {f : Nat → Int32} {k : Nat} {x : Int32} : upd f k x k = x := if_pos rfl
theorem pk_un {f : Nat → Int32} {k j : Nat} {x : Int32} (h : j ≠ k) : upd f k x j = f j := if_neg h
theorem pk_mul (a b : Nat) : nI a * nI b = nI (a * b) := (Int32.ofNat_mul a b).symm
theorem pk_ix (x : Int32) {n : Nat} (hn : n < 2 ^ 31) : x < 0 ∨ nI n ≤ x ∨ ∃ j : Nat, j < n ∧ x = nI j := by
  by_cases h : x < 0
  · exact Or.inl h
  · obtain ⟨j, hj, rfl⟩ := nI_of h
    by_cases h2 : j < n
    · exact Or.inr (Or.inr ⟨j, h2, rfl⟩)
    · exact Or.inr (Or.inl (nI_le (by omega) hj))
theorem pk_and (x : Int32) {m : Int32} (k : Nat) (hm : m.toBitVec.toNat = 2 ^ k - 1) : x &&& m = nI (x.toBitVec.toNat % 2 ^ k) := by
  apply Int32.toBitVec_inj.mp
  apply BitVec.eq_of_toNat_eq
  rw [Int32.toBitVec_and, BitVec.toNat_and, hm, Nat.and_two_pow_sub_one_eq_mod]
  show _ = (BitVec.ofNat 32 _).toNat
  rw [BitVec.toNat_ofNat]
  exact (Nat.mod_eq_of_lt (Nat.lt_of_le_of_lt (Nat.mod_le _ _) x.toBitVec.isLt)).symm
theorem pk_andE (x : Int32) {m : Int32} (k : Nat) (hm : m.toBitVec.toNat = 2 ^ k - 1) : ∃ j : Nat, j < 2 ^ k ∧ x &&& m = nI j := ⟨_, Nat.mod_lt _ (Nat.two_pow_pos k), pk_and x k hm⟩
theorem pk_andIn (x : Int32) {m : Int32} (k : Nat) (hm : m.toBitVec.toNat = 2 ^ k - 1) (hk : k ≤ 30) : vp_in (x &&& m) (2 ^ k) := by
  obtain ⟨j, hj, e⟩ := pk_andE x k hm
  rw [e]
  exact vp_in_nI hj (Nat.lt_of_le_of_lt (Nat.pow_le_pow_right (by decide) hk) (by decide))
theorem wq_in15 (x : Int32) : vp_in (x &&& 15) 16 := pk_andIn x 4 (by decide) (by decide)
theorem wq_31 (x : Int32) : ∃ j : Nat, j ≤ 32 ∧ x &&& 31 = nI j := by
  obtain ⟨j, hj, e⟩ := pk_andE x (m := 31) 5 (by decide)
  exact ⟨j, by omega, e⟩
theorem wq_uu {f : Nat → Int32} {k : Nat} {x y : Int32} : upd (upd f k x) k y = upd f k y := by
  funext j
  by_cases h : j = k
  · subst h; rw [pk_us, pk_us]
  · rw [pk_un h, pk_un h, pk_un h]
def wq_rs (m : Nat) (g : Nat → Int32) : Nat → Int32 := fun j => if j < m then g j else 0
theorem wq_rs_in {m : Nat} {g : Nat → Int32} {j : Nat} (h : j < m) : wq_rs m g j = g j := if_pos h
theorem wq_rs_out {m : Nat} {g : Nat → Int32} {j : Nat} (h : ¬ j < m) : wq_rs m g j = 0 := if_neg h
theorem wq_rs_upd {m : Nat} {g : Nat → Int32} {i : Nat} {v : Int32} (h : i < m) : upd (wq_rs m g) i v = wq_rs m (upd g i v) := by
  funext j
  by_cases e : j = i
  · subst e; rw [pk_us, wq_rs_in h, pk_us]
  · rw [pk_un e]
    by_cases k : j < m
    · rw [wq_rs_in k, wq_rs_in k, pk_un e]
    · rw [wq_rs_out k, wq_rs_out k]
theorem wq_rs_all {m : Nat} {g : Nat → Int32} (h : ∀ j, m ≤ j → g j = 0) : wq_rs m g = g := by
  funext j
  by_cases k : j < m
  · exact wq_rs_in k
  · rw [wq_rs_out k, h j (by omega)]
def wq_zf (i n : Nat) (g : Nat → Int32) : Nat → Int32 := fun j => if i ≤ j ∧ j < n then 0 else g j
theorem wq_zf_in {i n : Nat} {g : Nat → Int32} {j : Nat} (h : i ≤ j ∧ j < n) : wq_zf i n g j = 0 := if_pos h
theorem wq_zf_out {i n : Nat} {g : Nat → Int32} {j : Nat} (h : ¬ (i ≤ j ∧ j < n)) : wq_zf i n g j = g j := if_neg h
theorem wq_zf_n (n : Nat) (g : Nat → Int32) : wq_zf n n g = g := by
  funext j
  exact wq_zf_out (by omega)
theorem wq_zf_s {i n : Nat} {g : Nat → Int32} (h : i < n) : wq_zf (i + 1) n (upd g i 0) = wq_zf i n g := by
  funext j
  by_cases e : j = i
  · subst e
    rw [wq_zf_out (by omega), pk_us, wq_zf_in (by omega)]
  · by_cases k : i ≤ j ∧ j < n
    · rw [wq_zf_in (by omega), wq_zf_in k]
    · rw [wq_zf_out (by omega), wq_zf_out k, pk_un e]
theorem wq_rs_zf (t : Nat) (g : Nat → Int32) : wq_rs (4 * t) g = wq_rs (4 * t + 4) (wq_zf (4 * t) (4 * t + 4) g) := by
  funext j
  by_cases a : j < 4 * t
  · rw [wq_rs_in a, wq_rs_in (by omega), wq_zf_out (by omega)]
  · rw [wq_rs_out a]
    by_cases b : j < 4 * t + 4
    · rw [wq_rs_in b, wq_zf_in (by omega)]
    · rw [wq_rs_out b]
theorem wq_zf_rs {T : Nat} (hT : T ≤ 8) {g : Nat → Int32} (h : ∀ j, 4 * T ≤ j → g j = 0) : wq_zf 0 32 g = wq_rs (4 * 0) g := by
  funext j
  rw [wq_rs_out (by omega)]
  by_cases a : j < 32
  · exact wq_zf_in (by omega)
  · rw [wq_zf_out (by omega), h j (by omega)]
def wq_ix (t : Nat) (x : Int32) : Nat := 4 * t + x.toBitVec.toNat % 4
theorem wq_ix_lt (t : Nat) (x : Int32) : wq_ix t x < 4 * t + 4 := by unfold wq_ix; omega
theorem wq_ixX (t : Nat) (x : Int32) : nI t * 4 + (x &&& 3) = nI (wq_ix t x) := by
  rw [pk_and x 2 (by decide)]
  show nI t * nI 4 + nI _ = _
  rw [pk_mul, nI_add]
  exact congrArg nI (by unfold wq_ix; omega)
theorem wq_ixY (t : Nat) (x : Int32) : 4 * nI t + (x &&& 3) = nI (wq_ix t x) := by
  rw [pk_and x 2 (by decide)]
  show nI 4 * nI t + nI _ = _
  rw [pk_mul, nI_add]
  exact congrArg nI (by unfold wq_ix; omega)
theorem wq_ixN (t i : Nat) : 4 * nI t + nI i = nI (4 * t + i) := by
  show nI 4 * nI t + nI _ = _
  rw [pk_mul, nI_add]
theorem wq_15 {x : Int32} (h1 : ¬ x < 1) (h5 : ¬ 5 < x) : x = 1 ∨ x = 2 ∨ x = 3 ∨ x = 4 ∨ x = 5 := by
  have h0 : ¬ x < 0 := by
    intro z
    apply h1
    rw [Int32.lt_iff_toInt_lt] at z ⊢
    rw [show (0 : Int32).toInt = 0 from by decide] at z
    rw [show (1 : Int32).toInt = 1 from by decide]
    omega
  obtain ⟨j, hj, rfl⟩ := nI_of h0
  have a : 1 ≤ j := by
    by_cases z : j < 1
    · exact absurd (nI_lt (b := 1) z (by decide)) h1
    · omega
  have b : j ≤ 5 := by
    by_cases z : 5 < j
    · exact absurd (nI_lt (a := 5) z hj) h5
    · omega
  have c : j = 1 ∨ j = 2 ∨ j = 3 ∨ j = 4 ∨ j = 5 := by omega
  rcases c with rfl | rfl | rfl | rfl | rfl
  · exact Or.inl rfl
  · exact Or.inr (Or.inl rfl)
  · exact Or.inr (Or.inr (Or.inl rfl))
  · exact Or.inr (Or.inr (Or.inr (Or.inl rfl)))
  · exact Or.inr (Or.inr (Or.inr (Or.inr rfl)))
