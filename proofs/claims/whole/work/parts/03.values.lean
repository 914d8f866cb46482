def gu {α : Type} (f : Nat → α) (k : Nat) (x : α) : Nat → α := fun j => if j = k then x else f j
theorem gu_s {α : Type} {f : Nat → α} {k : Nat} {x : α} : gu f k x k = x := if_pos rfl
theorem gu_n {α : Type} {f : Nat → α} {k j : Nat} {x : α} (h : j ≠ k) : gu f k x j = f j := if_neg h
/-! a value in one long -/
def hv_i (v : Int32) : Int64 := v.toInt64 &&& 4294967295
def hv_b (t h : Nat) : Int64 := (((nI h).toInt64 <<< ((33 : Int32).toInt64 &&& 63)) ||| 4294967296) ||| (nI t).toInt64
theorem hv_and (x : Int64) : x &&& 4294967295 = lN (x.toBitVec.toNat % 2 ^ 32) := Int64.toBitVec_inj.mp (BitVec.eq_of_toNat_eq (by
  show (x.toBitVec &&& 4294967295#64).toNat = (BitVec.ofNat 64 (x.toBitVec.toNat % 2 ^ 32)).toNat
  rw [BitVec.toNat_and, show (4294967295#64).toNat = 2 ^ 32 - 1 from by decide, Nat.and_two_pow_sub_one_eq_mod, BitVec.toNat_ofNat]
  omega))
theorem hv_low (x : Int64) : x.toInt32.toBitVec.toNat = x.toBitVec.toNat % 2 ^ 32 := by
  have h : x.toInt32.toBitVec = x.toBitVec.setWidth 32 := by
    rw [Int64.toBitVec_toInt32]
    exact BitVec.signExtend_eq_setWidth_of_le _ (by decide)
  rw [h, BitVec.toNat_setWidth]
theorem hv_int (v : Int32) : hv_i v = lN v.toBitVec.toNat := by
  unfold hv_i
  rw [hv_and, ← hv_low, Int32.toInt32_toInt64]
theorem hv_blk {t h : Nat} (ht : t < 2 ^ 31) (hh : h < 2 ^ 30) : hv_b t h = lN (h * 8589934592 + (4294967296 + t)) := by
  have e1 : (nI h).toInt64 <<< ((33 : Int32).toInt64 &&& 63) = lN (h * 8589934592) := by
    rw [nI_l (by omega)]; exact wb_shl h (k := 33) (by decide)
  have e2 : lN (h * 8589934592) ||| 4294967296 = lN (h * 8589934592 + 4294967296) := g_or (k := 33) (p := 8589934592) (a := 4294967296) (b := h) (by decide) (by decide) (by omega)
  have e3 : lN ((2 * h + 1) * 4294967296) ||| lN t = lN ((2 * h + 1) * 4294967296 + t) := g_or (k := 32) (p := 4294967296) (by decide) (by omega) (by omega)
  unfold hv_b
  rw [e1, e2, nI_l ht, show h * 8589934592 + 4294967296 = (2 * h + 1) * 4294967296 by omega, e3]
  exact congrArg lN (by omega)
theorem hv_l_i (v : Int32) : (hv_i v).toInt32 = v := by
  rw [hv_int, lN_i]
  exact Int32.toBitVec_inj.mp (by show BitVec.ofNat 32 _ = _; simp)
theorem hv_l_b {t h : Nat} (ht : t < 2 ^ 31) (hh : h < 2 ^ 30) : (hv_b t h).toInt32 = nI t := by
  rw [hv_blk ht hh, lN_i]
  apply Int32.toBitVec_inj.mp
  show BitVec.ofNat 32 _ = BitVec.ofNat 32 t
  apply BitVec.eq_of_toNat_eq
  rw [BitVec.toNat_ofNat, BitVec.toNat_ofNat]
  omega
theorem hv_k_i (v : Int32) : ((hv_i v).toUInt64 >>> ((32 : Int32).toInt64.toUInt64 &&& Int64.toUInt64 63)).toInt64 &&& 1 = 0 := by
  have b : v.toBitVec.toNat < 4294967296 := v.toBitVec.isLt
  have e := wb_bit (n := v.toBitVec.toNat) (k := 32) (by omega) (by decide)
  have z : v.toBitVec.toNat / 2 ^ 32 % 2 = 0 := by omega
  rw [z] at e
  rw [hv_int]
  exact e
theorem hv_k_b {t h : Nat} (ht : t < 2 ^ 31) (hh : h < 2 ^ 30) : ¬ ((hv_b t h).toUInt64 >>> ((32 : Int32).toInt64.toUInt64 &&& Int64.toUInt64 63)).toInt64 &&& 1 = 0 := by
  have e := wb_bit (n := h * 8589934592 + (4294967296 + t)) (k := 32) (by omega) (by decide)
  have z : (h * 8589934592 + (4294967296 + t)) / 2 ^ 32 % 2 = 1 := by omega
  rw [z] at e
  have e' : ((hv_b t h).toUInt64 >>> ((32 : Int32).toInt64.toUInt64 &&& Int64.toUInt64 63)).toInt64 &&& 1 = lN 1 := by rw [hv_blk ht hh]; exact e
  rw [e']
  decide
theorem hv_h_b {t h : Nat} (ht : t < 2 ^ 31) (hh : h < 2 ^ 30) : ((hv_b t h).toUInt64 >>> ((33 : Int32).toInt64.toUInt64 &&& Int64.toUInt64 63)).toInt64.toInt32 = nI h := by
  have e := wb_shr (n := h * 8589934592 + (4294967296 + t)) (k := 33) (by omega) (by decide)
  have z : (h * 8589934592 + (4294967296 + t)) / 2 ^ 33 = h := by omega
  rw [z] at e
  have e' : ((hv_b t h).toUInt64 >>> ((33 : Int32).toInt64.toUInt64 &&& Int64.toUInt64 63)).toInt64 = lN h := by rw [hv_blk ht hh]; exact e
  rw [e', lN_i]
theorem hv_0 : hv_i 0 = 0 := by decide
/-- what the answers show of a value -/
def hv_K (x : Int64) (k v : Int32) : Prop := x.toInt32 = v ∧ ((k = 0 ∧ (x.toUInt64 >>> ((32 : Int32).toInt64.toUInt64 &&& Int64.toUInt64 63)).toInt64 &&& 1 = 0) ∨ (k = 1 ∧ ¬ (x.toUInt64 >>> ((32 : Int32).toInt64.toUInt64 &&& Int64.toUInt64 63)).toInt64 &&& 1 = 0))
/-- X's value x is Y's value (k, v, h); H: the homes of X by their numbers in Y -/
def hv_V (tk : Nat → Int32) (N nh : Nat) (H : Nat → Nat) (x : Int64) (k v h : Int32) : Prop :=
  (k = 0 ∧ x = hv_i v) ∨ (k = 1 ∧ ∃ t xh, t < N ∧ tk t = 13 ∧ xh < nh ∧ v = nI t ∧ h = nI (H xh) ∧ x = hv_b t xh)
theorem hv_VK {tk : Nat → Int32} {N nh : Nat} {H : Nat → Nat} {x : Int64} {k v h : Int32} (hN : N ≤ 128) (hn : nh ≤ 256) (z : hv_V tk N nh H x k v h) : hv_K x k v := by
  rcases z with ⟨rfl, rfl⟩ | ⟨rfl, t, xh, ht, -, hx, rfl, rfl, rfl⟩
  · exact ⟨hv_l_i v, Or.inl ⟨rfl, hv_k_i v⟩⟩
  · exact ⟨hv_l_b (by omega) (by omega), Or.inr ⟨rfl, hv_k_b (by omega) (by omega)⟩⟩
theorem hv_K0 : hv_K 0 0 0 := by
  have a := hv_l_i 0
  have b := hv_k_i 0
  rw [hv_0] at a b
  exact ⟨a, Or.inl ⟨rfl, b⟩⟩
theorem hv_V0 {tk : Nat → Int32} {N nh : Nat} {H : Nat → Nat} {h : Int32} : hv_V tk N nh H 0 0 0 h := Or.inl ⟨rfl, hv_0.symm⟩
theorem hv_V_mono {tk : Nat → Int32} {N nh nh' : Nat} {H H' : Nat → Nat} (hn : nh ≤ nh') (hH : ∀ j, j < nh → H' j = H j) (x : Int64) (k v h : Int32) (z : hv_V tk N nh H x k v h) : hv_V tk N nh' H' x k v h := by
  rcases z with z | ⟨e, t, xh, h1, h2, h3, h4, h5, h6⟩
  · exact Or.inl z
  · exact Or.inr ⟨e, t, xh, h1, h2, by omega, h4, by rw [hH xh h3]; exact h5, h6⟩
