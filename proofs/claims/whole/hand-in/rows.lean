section
theorem pk_us {f : Nat → Int32} {k : Nat} {x : Int32} : upd f k x k = x := if_pos rfl
theorem pk_un {f : Nat → Int32} {k j : Nat} {x : Int32} (h : j ≠ k) : upd f k x j = f j := if_neg h
theorem pk_uLs {f : Nat → Int64} {k : Nat} {x : Int64} : vp_updL f k x k = x := if_pos rfl
theorem pk_uLn {f : Nat → Int64} {k j : Nat} {x : Int64} (h : j ≠ k) : vp_updL f k x j = f j := if_neg h
theorem pk_sub {a b : Nat} (h : b ≤ a) : nI a - nI b = nI (a - b) := by
  obtain ⟨c, rfl⟩ : ∃ c, a = c + b := ⟨a - b, by omega⟩
  rw [← nI_add, Int32.add_sub_cancel, Nat.add_sub_cancel]
theorem pk_m1 (n : Nat) : nI (n + 1) + (-1) = nI n := by
  rw [← nI_1, Int32.add_assoc, show (1 : Int32) + (-1) = 0 from rfl, Int32.add_zero]
theorem pk_mul (a b : Nat) : nI a * nI b = nI (a * b) := (Int32.ofNat_mul a b).symm
theorem pk_div {a d : Nat} (ha : a < 2 ^ 31) (h0 : 0 < d) (hd : d < 2 ^ 31) : nI a / nI d = nI (a / d) := by
  apply Int32.toInt_inj.mp
  rw [lg_idiv_nonneg (by rw [nI_toInt ha]; omega) (by rw [nI_toInt hd]; omega), nI_toInt ha, nI_toInt hd, nI_toInt (Nat.lt_of_le_of_lt (Nat.div_le_self a d) ha)]
  first | rfl | exact (Int.natCast_ediv _ _).symm
theorem pk_rem {a d : Nat} (ha : a < 2 ^ 31) (h0 : 0 < d) (hd : d < 2 ^ 31) : nI a - nI a / nI d * nI d = nI (a % d) := by
  rw [pk_div ha h0 hd, pk_mul, pk_sub (Nat.div_mul_le_self a d)]
  exact congrArg nI (by have := Nat.div_add_mod' a d; omega)
theorem pk_sub_toInt {a b : Nat} (ha : a < 2 ^ 30) (hb : b < 2 ^ 30) : (nI a - nI b).toInt = (a : Int) - b := by
  rw [Int32.toInt_sub, nI_toInt (by omega), nI_toInt (by omega)]
  exact Int.bmod_eq_of_le (by omega) (by omega)
theorem pk_sneg {a b : Nat} (hb : b < 2 ^ 30) (h : a < b) : nI a - nI b < 0 := by
  rw [Int32.lt_iff_toInt_lt, pk_sub_toInt (by omega) hb, show (0 : Int32).toInt = 0 from by decide]
  omega
theorem pk_ix (x : Int32) {n : Nat} (hn : n < 2 ^ 31) : x < 0 ∨ nI n ≤ x ∨ ∃ j : Nat, j < n ∧ x = nI j := by
  by_cases h : x < 0
  · exact Or.inl h
  · obtain ⟨j, hj, rfl⟩ := nI_of h
    by_cases h2 : j < n
    · exact Or.inr (Or.inr ⟨j, h2, rfl⟩)
    · exact Or.inr (Or.inl (nI_le (by omega) hj))
theorem pk_le {x y : Int32} {A B : Prop} (a b : Nat) (f : a ≤ b → A) (g : b < a → B) (hx : x = nI a := by rfl) (hy : y = nI b := by rfl) (ha : a < 2 ^ 31 := by omega) (hb : b < 2 ^ 31 := by omega) : (x ≤ y → A) ∧ (¬ x ≤ y → B) := by
  subst hx hy
  rw [nI_leI ha hb]
  exact ⟨f, fun z => g (by omega)⟩
theorem pk_lt {x y : Int32} {A B : Prop} (a b : Nat) (f : a < b → A) (g : b ≤ a → B) (hx : x = nI a := by rfl) (hy : y = nI b := by rfl) (ha : a < 2 ^ 31 := by omega) (hb : b < 2 ^ 31 := by omega) : (x < y → A) ∧ (¬ x < y → B) := by
  subst hx hy
  rw [nI_ltI ha hb]
  exact ⟨f, fun z => g (by omega)⟩
theorem pk_eq {x y : Int32} {A B : Prop} (a b : Nat) (f : a = b → A) (g : a ≠ b → B) (hx : x = nI a := by rfl) (hy : y = nI b := by rfl) (ha : a < 2 ^ 31 := by omega) (hb : b < 2 ^ 31 := by omega) : (x = y → A) ∧ (¬ x = y → B) := by
  subst hx hy
  rw [nI_eq ha hb]
  exact ⟨f, g⟩
theorem pk_in {x : Int32} (n N : Nat) (h : n < N) (hx : x = nI n := by rfl) (hN : N < 2 ^ 31 := by omega) : vp_in x N := by
  subst hx
  exact vp_in_nI h hN
theorem pk_cl {x : Int32} (n : Nat) (hx : x = nI n := by rfl) (h : n < 2 ^ 31 := by omega) : x.toNatClampNeg = n := by
  subst hx
  exact nI_clamp h
theorem pk_tn {n : Nat} (h : n < 2 ^ 32) : (nI n).toBitVec.toNat = n := Nat.mod_eq_of_lt h
theorem pk_and (x : Int32) {m : Int32} (k : Nat) (hm : m.toBitVec.toNat = 2 ^ k - 1) : x &&& m = nI (x.toBitVec.toNat % 2 ^ k) := by
  apply Int32.toBitVec_inj.mp
  apply BitVec.eq_of_toNat_eq
  rw [Int32.toBitVec_and, BitVec.toNat_and, hm, Nat.and_two_pow_sub_one_eq_mod]
  show _ = (BitVec.ofNat 32 _).toNat
  rw [BitVec.toNat_ofNat]
  exact (Nat.mod_eq_of_lt (Nat.lt_of_le_of_lt (Nat.mod_le _ _) x.toBitVec.isLt)).symm
theorem pk_andN {n : Nat} (h : n < 2 ^ 32) {m : Int32} (k : Nat) (hm : m.toBitVec.toNat = 2 ^ k - 1) : nI n &&& m = nI (n % 2 ^ k) := by
  rw [pk_and _ k hm, pk_tn h]
theorem pk_andE (x : Int32) {m : Int32} (k : Nat) (hm : m.toBitVec.toNat = 2 ^ k - 1) : ∃ j : Nat, j < 2 ^ k ∧ x &&& m = nI j := ⟨_, Nat.mod_lt _ (Nat.two_pow_pos k), pk_and x k hm⟩
theorem pk_andIn (x : Int32) {m : Int32} (k : Nat) (hm : m.toBitVec.toNat = 2 ^ k - 1) (hk : k ≤ 30) : vp_in (x &&& m) (2 ^ k) := by
  obtain ⟨j, hj, e⟩ := pk_andE x k hm
  rw [e]
  exact vp_in_nI hj (Nat.lt_of_le_of_lt (Nat.pow_le_pow_right (by decide) hk) (by decide))
theorem pk_shl (a s : Int32) (k : Nat) (hs : (s.toBitVec.smod 32).toNat = k) : (a <<< s).toBitVec.toNat = a.toBitVec.toNat * 2 ^ k % 2 ^ 32 := by
  show (a.toBitVec <<< (s.toBitVec.smod 32).toNat).toNat = _
  rw [hs, BitVec.toNat_shiftLeft, Nat.shiftLeft_eq]
theorem pk_shlN {n : Nat} (s : Int32) (k : Nat) (hs : (s.toBitVec.smod 32).toNat = k) (h : n * 2 ^ k < 2 ^ 32) : nI n <<< s = nI (n * 2 ^ k) := by
  apply Int32.toBitVec_inj.mp
  apply BitVec.eq_of_toNat_eq
  have hn : n < 2 ^ 32 := Nat.lt_of_le_of_lt (Nat.le_mul_of_pos_right n (Nat.two_pow_pos k)) h
  rw [pk_shl _ _ k hs, pk_tn hn, pk_tn h, Nat.mod_eq_of_lt h]
theorem pk_shr (a s : Int32) (k : Nat) (hs : (s.toBitVec.smod 32).toNat = k) : (a >>> s).toInt = a.toInt >>> k := by
  show (a.toBitVec.sshiftRight (s.toBitVec.smod 32).toNat).toInt = _
  rw [hs, BitVec.toInt_sshiftRight]
  rfl
theorem pk_shrN {n : Nat} (h : n < 2 ^ 31) (s : Int32) (k : Nat) (hs : (s.toBitVec.smod 32).toNat = k) : nI n >>> s = nI (n / 2 ^ k) := by
  apply Int32.toInt_inj.mp
  have h2 : n / 2 ^ k ≤ n := Nat.div_le_self _ _
  rw [pk_shr _ _ k hs, nI_toInt h, nI_toInt (by omega), Int.shiftRight_eq_div_pow]
  rfl
theorem pk_ushr (x s : Int32) (k : Nat) (hs : ((s.toUInt32 &&& Int32.toUInt32 31).toBitVec % 32).toNat = k) : (x.toUInt32 >>> (s.toUInt32 &&& Int32.toUInt32 31)).toInt32.toBitVec.toNat = x.toBitVec.toNat / 2 ^ k := by
  have e : (x.toUInt32 >>> (s.toUInt32 &&& Int32.toUInt32 31)).toInt32.toBitVec = x.toBitVec >>> k := by
    rw [← hs]
    exact UInt32.toBitVec_shiftRight _ _
  rw [e, BitVec.toNat_ushiftRight, Nat.shiftRight_eq_div_pow]
theorem pk_ushrN {n : Nat} (hn : n < 2 ^ 32) (s : Int32) (k : Nat) (hs : ((s.toUInt32 &&& Int32.toUInt32 31).toBitVec % 32).toNat = k) : ((nI n).toUInt32 >>> (s.toUInt32 &&& Int32.toUInt32 31)).toInt32 = nI (n / 2 ^ k) := by
  apply Int32.toBitVec_inj.mp
  apply BitVec.eq_of_toNat_eq
  rw [pk_ushr _ s k hs, pk_tn hn, pk_tn (Nat.lt_of_le_of_lt (Nat.div_le_self _ _) hn)]
theorem pk_lT {n : Nat} (h : n < 2 ^ 63) : (lN n).toInt = (n : Int) := lg_ofNat_toInt h
theorem pk_lLT {a b : Nat} (ha : a < 2 ^ 63) (hb : b < 2 ^ 63) : lN a < lN b ↔ a < b := by
  rw [Int64.lt_iff_toInt_lt, pk_lT ha, pk_lT hb]; omega
theorem pk_lLE {a b : Nat} (ha : a < 2 ^ 63) (hb : b < 2 ^ 63) : lN a ≤ lN b ↔ a ≤ b := by
  rw [Int64.le_iff_toInt_le, pk_lT ha, pk_lT hb]; omega
theorem pk_lEQ {a b : Nat} (ha : a < 2 ^ 63) (hb : b < 2 ^ 63) : lN a = lN b ↔ a = b := by
  rw [← Int64.toInt_inj, pk_lT ha, pk_lT hb]; omega
theorem pk_lOf {x : Int64} (h : ¬ x < 0) : ∃ k : Nat, k < 2 ^ 63 ∧ x = lN k := by
  rw [Int64.lt_iff_toInt_lt] at h
  have h0 : (0 : Int64).toInt = 0 := by decide
  have hx := Int64.toInt_lt x
  refine ⟨x.toInt.toNat, by omega, Int64.toInt_inj.mp ?_⟩
  rw [pk_lT (by omega)]
  omega
theorem pk_lDiv {a b : Nat} (ha : a < 2 ^ 63) (h0 : 0 < b) (hb : b < 2 ^ 63) : lN a / lN b = lN (a / b) := by
  apply Int64.toInt_inj.mp
  rw [lg_ldiv_nonneg (by rw [pk_lT ha]; omega) (by rw [pk_lT hb]; omega), pk_lT ha, pk_lT hb, pk_lT (Nat.lt_of_le_of_lt (Nat.div_le_self a b) ha)]
  rfl
theorem pk_lRem {a b : Nat} (ha : a < 2 ^ 63) (h0 : 0 < b) (hb : b < 2 ^ 63) : lN a - lN a / lN b * lN b = lN (a % b) := by
  rw [pk_lDiv ha h0 hb, lN_mul, lN_sub (Nat.div_mul_le_self a b)]
  exact congrArg lN (by have := Nat.div_add_mod' a b; omega)
theorem pk_loop {σ : Type} (W : Nat → Nat → σ → Prop) (I : Nat → σ → Prop) (e i0 : Nat) (s : σ) (hi : i0 ≤ e) (h0 : I i0 s) (hx : ∀ n s, I e s → W (n + 1) e s)
    (hs : ∀ n i s, i < e → I i s → (∀ s', I (i + 1) s' → W n (i + 1) s') → W (n + 1) i s) : ∃ n, W n i0 s :=
  ⟨e + 1, loop_i W I e hx hs (e + 1) i0 s hi (by omega) h0⟩
theorem pk_loopD {σ : Type} (W : Nat → Nat → σ → Prop) (I : Nat → σ → Prop) (hx : ∀ n s, I 0 s → W (n + 1) 0 s)
    (hs : ∀ n i s, I (i + 1) s → (∀ s', I i s' → W n i s') → W (n + 1) (i + 1) s) : ∀ (e : Nat) (s : σ), I e s → W (e + 1) e s := by
  intro e
  induction e with
  | zero => exact fun s h => hx 0 s h
  | succ e ih => exact fun s h => hs (e + 1) e s h (fun s' h' => ih s' h')
theorem wb_tb (n : Nat) : (lN n).toBitVec = BitVec.ofNat 64 n := rfl
theorem wb_inj {a b : Int64} (h : a.toBitVec = b.toBitVec) : a = b := Int64.toBitVec_inj.mp h
theorem wb_tn {n : Nat} (h : n < 2 ^ 64) : (lN n).toBitVec.toNat = n := by rw [wb_tb, BitVec.toNat_ofNat, Nat.mod_eq_of_lt h]
theorem wb_of (x : Int64) : ∃ n, n < 2 ^ 64 ∧ x = lN n := ⟨x.toBitVec.toNat, x.toBitVec.isLt, wb_inj (by rw [wb_tb]; simp)⟩
theorem wb_of32 (x : Int32) : ∃ n, n < 2 ^ 32 ∧ x = nI n := ⟨x.toBitVec.toNat, x.toBitVec.isLt, Int32.toBitVec_inj.mp (by show _ = BitVec.ofNat 32 _; simp)⟩
theorem wb_c : ∀ k, k < 64 → ((nI k).toInt64 &&& 63) = lN k := by decide +kernel
theorem wb_cu : ∀ k, k < 64 → ((nI k).toInt64.toUInt64 &&& Int64.toUInt64 63) = UInt64.ofNat k := by decide +kernel
theorem wb_sm : ∀ k, k < 64 → (BitVec.ofNat 64 k).smod 64 = BitVec.ofNat 64 k := by decide +kernel
theorem wb_pw {a b : Nat} (h : a ≤ b) : 2 ^ b = 2 ^ a * 2 ^ (b - a) := by rw [← Nat.pow_add]; congr 1; omega
theorem wb_lt2 {a b : Nat} (h : a < b) : 2 ^ a < 2 ^ b := Nat.pow_lt_pow_right (by decide) h
theorem wb_mod (n : Nat) : lN n = lN (n % 2 ^ 64) := wb_inj (by rw [wb_tb, wb_tb]; apply BitVec.eq_of_toNat_eq; rw [BitVec.toNat_ofNat, BitVec.toNat_ofNat, Nat.mod_mod])
theorem wb_shr {n k : Nat} (hn : n < 2 ^ 64) (hk : k < 64) : ((lN n).toUInt64 >>> ((nI k).toInt64.toUInt64 &&& Int64.toUInt64 63)).toInt64 = lN (n / 2 ^ k) := by
  rw [wb_cu k hk]
  apply wb_inj
  apply BitVec.eq_of_toNat_eq
  show ((lN n).toUInt64 >>> UInt64.ofNat k).toNat = (BitVec.ofNat 64 _).toNat
  have h1 : (UInt64.ofNat k).toNat = k := by
    show (BitVec.ofNat 64 k).toNat = k
    rw [BitVec.toNat_ofNat, Nat.mod_eq_of_lt (by omega)]
  have h2 : (lN n).toUInt64.toNat = n := wb_tn hn
  rw [UInt64.toNat_shiftRight, h1, h2, Nat.mod_eq_of_lt hk, Nat.shiftRight_eq_div_pow, BitVec.toNat_ofNat, Nat.mod_eq_of_lt (Nat.lt_of_le_of_lt (Nat.div_le_self _ _) hn)]
theorem wb_shl (n : Nat) {k : Nat} (hk : k < 64) : lN n <<< ((nI k).toInt64 &&& 63) = lN (n * 2 ^ k) := by
  rw [wb_c k hk]
  apply wb_inj
  rw [Int64.toBitVec_shiftLeft, wb_tb, wb_tb, wb_tb, wb_sm k hk]
  apply BitVec.eq_of_toNat_eq
  rw [BitVec.shiftLeft_eq', BitVec.toNat_shiftLeft, BitVec.toNat_ofNat, BitVec.toNat_ofNat, BitVec.toNat_ofNat, Nat.mod_eq_of_lt (show k < 2 ^ 64 by omega), Nat.shiftLeft_eq, Nat.mul_mod, Nat.mod_mod, ← Nat.mul_mod]
theorem wb_and {a b : Nat} (ha : a < 2 ^ 64) (hb : b < 2 ^ 64) : lN a &&& lN b = lN (a &&& b) := by
  apply wb_inj
  rw [Int64.toBitVec_and, wb_tb, wb_tb, wb_tb]
  apply BitVec.eq_of_toNat_eq
  rw [BitVec.toNat_and, BitVec.toNat_ofNat, BitVec.toNat_ofNat, BitVec.toNat_ofNat, Nat.mod_eq_of_lt ha, Nat.mod_eq_of_lt hb, Nat.mod_eq_of_lt (Nat.and_lt_two_pow _ hb)]
theorem wb_or {a b : Nat} (ha : a < 2 ^ 64) (hb : b < 2 ^ 64) : lN a ||| lN b = lN (a ||| b) := by
  apply wb_inj
  rw [Int64.toBitVec_or, wb_tb, wb_tb, wb_tb]
  apply BitVec.eq_of_toNat_eq
  rw [BitVec.toNat_or, BitVec.toNat_ofNat, BitVec.toNat_ofNat, BitVec.toNat_ofNat, Nat.mod_eq_of_lt ha, Nat.mod_eq_of_lt hb, Nat.mod_eq_of_lt (Nat.or_lt_two_pow ha hb)]
theorem wb_mask {n k : Nat} (hn : n < 2 ^ 64) (hk : k < 64) : lN n &&& lN (2 ^ k - 1) = lN (n % 2 ^ k) := by
  rw [wb_and hn (by have := wb_lt2 hk; omega), Nat.and_two_pow_sub_one_eq_mod]
theorem wb_a1 {n : Nat} (hn : n < 2 ^ 64) : lN n &&& 1 = lN (n % 2) := wb_mask (k := 1) hn (by decide)
theorem wb_bit {n k : Nat} (hn : n < 2 ^ 64) (hk : k < 64) : ((lN n).toUInt64 >>> ((nI k).toInt64.toUInt64 &&& Int64.toUInt64 63)).toInt64 &&& 1 = lN (n / 2 ^ k % 2) := by
  rw [wb_shr hn hk, wb_a1 (Nat.lt_of_le_of_lt (Nat.div_le_self _ _) hn)]
/-! ===== lN: masks, 'or' of parts that don't overlap is a sum ===== -/
theorem u_tn {n : Nat} (h : n < 2 ^ 64) : (UInt64.ofNat n).toNat = n := Nat.mod_eq_of_lt h
theorem g_and {a b c : Nat} (ha : a < 2 ^ 64) (hb : b < 2 ^ 64) (hc : a &&& b = c) : lN a &&& lN b = lN c := by
  subst hc
  have h : UInt64.ofNat a &&& UInt64.ofNat b = UInt64.ofNat (a &&& b) := UInt64.toNat_inj.mp (by rw [UInt64.toNat_and, u_tn ha, u_tn hb, u_tn (Nat.and_lt_two_pow a hb)])
  have h2 := congrArg UInt64.toInt64 h
  exact h2
theorem g_and1 {a : Nat} (ha : a < 2 ^ 64) : lN a &&& 1 = lN (a % 2) := g_and (b := 1) ha (by decide) (Nat.and_two_pow_sub_one_eq_mod a 1)
theorem g_mask {a s p : Nat} (hp : 2 ^ s = p) (hs : s < 64) (ha : a < 2 ^ 64) : lN a &&& lN (p - 1) = lN (a % p) := by
  subst hp
  have := Nat.pow_lt_pow_right (show 1 < 2 by decide) hs
  exact g_and ha (by omega) (Nat.and_two_pow_sub_one_eq_mod a s)
theorem g_or {k p a b : Nat} (hp : 2 ^ k = p) (ha : a < p) (h : b * p + a < 2 ^ 64) : lN (b * p) ||| lN a = lN (b * p + a) := by
  subst hp
  have h1 : b * 2 ^ k ||| a = b * 2 ^ k + a := by rw [← Nat.shiftLeft_eq, Nat.shiftLeft_add_eq_or_of_lt ha]
  have h3 : UInt64.ofNat (b * 2 ^ k) ||| UInt64.ofNat a = UInt64.ofNat (b * 2 ^ k + a) := UInt64.toNat_inj.mp (by rw [UInt64.toNat_or, u_tn (by omega), u_tn (by omega), u_tn h, h1])
  have h2 := congrArg UInt64.toInt64 h3
  exact h2
theorem g_or' {k p a b : Nat} (hp : 2 ^ k = p) (ha : a < p) (h : a + b * p < 2 ^ 64) : lN a ||| lN (b * p) = lN (a + b * p) := by
  rw [Int64.or_comm, g_or hp ha (by omega), Nat.add_comm]
theorem g_ushr {a k p : Nat} {y : UInt64} (hy : y = UInt64.ofNat k) (hk : k < 64) (hp : 2 ^ k = p) (ha : a < 2 ^ 64) : ((lN a).toUInt64 >>> y).toInt64 = lN (a / p) := by
  subst hy hp
  have h : UInt64.ofNat a >>> UInt64.ofNat k = UInt64.ofNat (a / 2 ^ k) := UInt64.toNat_inj.mp (by rw [UInt64.toNat_shiftRight, u_tn ha, u_tn (by omega), u_tn (Nat.lt_of_le_of_lt (Nat.div_le_self _ _) ha), Nat.mod_eq_of_lt hk, Nat.shiftRight_eq_div_pow])
  have h2 := congrArg UInt64.toInt64 h
  exact h2
theorem g_shl {a k p : Nat} {y : Int64} (hy : y.toBitVec.smod 64 = BitVec.ofNat 64 k) (hk : k < 64) (hp : 2 ^ k = p) (ha : a < 2 ^ 64) : lN a <<< y = lN (a * p) := by
  subst hp
  apply Int64.toBitVec_inj.mp
  rw [Int64.toBitVec_shiftLeft, hy]
  apply BitVec.eq_of_toNat_eq
  have hb : (lN a).toBitVec.toNat = a := Nat.mod_eq_of_lt ha
  have hk' : (BitVec.ofNat 64 k).toNat = k := Nat.mod_eq_of_lt (by omega)
  have h : ((lN a).toBitVec <<< BitVec.ofNat 64 k).toNat = (a * 2 ^ k) % 2 ^ 64 := by simp only [BitVec.shiftLeft_eq', BitVec.toNat_shiftLeft, hb, hk', Nat.shiftLeft_eq]
  exact h
end
section
/-! trees in prefix form: a = arities, f = the token behind the whole expression -/
def hc_it (f : Nat → Nat) : Nat → Nat → Nat
  | 0, x => x
  | q + 1, x => hc_it f q (f x)
theorem hc_it_s (f : Nat → Nat) : ∀ q x, hc_it f (q + 1) x = f (hc_it f q x)
  | 0, _ => rfl
  | q + 1, x => hc_it_s f q (f x)
theorem hc_it_add (f : Nat → Nat) (p : Nat) : ∀ q x, hc_it f (p + q) x = hc_it f p (hc_it f q x)
  | 0, _ => rfl
  | q + 1, x => hc_it_add f p q (f x)
def hc_Lk (a f : Nat → Nat) (lo n : Nat) : Prop := ∀ i, lo ≤ i → i < n → (∀ q, q < a i → hc_it f q (i + 1) < n) ∧ f i = hc_it f (a i) (i + 1)
theorem hc_lt' {a f : Nat → Nat} {lo n : Nat} (L : hc_Lk a f lo n) : ∀ d i, n - i ≤ d → lo ≤ i → i < n → (i < f i ∧ f i ≤ n) ∧ ∀ q, q ≤ a i → i < hc_it f q (i + 1) ∧ hc_it f q (i + 1) ≤ n := by
  intro d
  induction d with
  | zero => intro i h1 h2 h3; omega
  | succ d ih =>
    intro i h1 h2 h3
    obtain ⟨hq, he⟩ := L i h2 h3
    have key : ∀ q, q ≤ a i → i < hc_it f q (i + 1) ∧ hc_it f q (i + 1) ≤ n := by
      intro q
      induction q with
      | zero => intro _; exact ⟨Nat.lt_succ_self i, h3⟩
      | succ q iq =>
        intro hqa
        obtain ⟨b1, b2⟩ := iq (by omega)
        have b3 := hq q (by omega)
        obtain ⟨⟨c1, c2⟩, -⟩ := ih (hc_it f q (i + 1)) (by omega) (by omega) b3
        rw [hc_it_s]
        exact ⟨by omega, c2⟩
    refine ⟨?_, key⟩
    rw [he]
    exact key (a i) (Nat.le_refl _)
theorem hc_lt {a f : Nat → Nat} {lo n : Nat} (L : hc_Lk a f lo n) {i : Nat} (h2 : lo ≤ i) (h3 : i < n) : i < f i ∧ f i ≤ n := (hc_lt' L _ i (Nat.le_refl _) h2 h3).1
theorem hc_ch {a f : Nat → Nat} {lo n : Nat} (L : hc_Lk a f lo n) {i : Nat} (h2 : lo ≤ i) (h3 : i < n) : ∀ q, q ≤ a i → i < hc_it f q (i + 1) ∧ hc_it f q (i + 1) ≤ n := (hc_lt' L _ i (Nat.le_refl _) h2 h3).2
theorem hc_tile (f : Nat → Nat) (x0 x : Nat) (h0 : x0 ≤ x) : ∀ m, x < hc_it f m x0 → ∃ q, q < m ∧ hc_it f q x0 ≤ x ∧ x < hc_it f (q + 1) x0
  | 0, h => absurd (show x < x0 from h) (by omega)
  | m + 1, h => by
    by_cases z : x < hc_it f m x0
    · obtain ⟨q, h1, h2, h3⟩ := hc_tile f x0 x h0 m z
      exact ⟨q, by omega, h2, h3⟩
    · exact ⟨m, by omega, by omega, h⟩
theorem hc_mono {a f : Nat → Nat} {lo n : Nat} (L : hc_Lk a f lo n) {x0 : Nat} (hl : lo ≤ x0) : ∀ m, (∀ q, q < m → hc_it f q x0 < n) → ∀ q, q ≤ m → x0 ≤ hc_it f q x0 ∧ hc_it f q x0 ≤ hc_it f m x0 := by
  intro m
  induction m with
  | zero =>
    intro _ q hq
    have e : q = 0 := by omega
    subst e
    exact ⟨Nat.le_refl _, Nat.le_refl _⟩
  | succ m ih =>
    intro H q hq
    have I := ih (fun q hq => H q (by omega))
    have b := I m (Nat.le_refl _)
    have c := hc_lt L (i := hc_it f m x0) (by omega) (H m (by omega))
    have e := hc_it_s f m x0
    rcases Nat.lt_or_ge m q with z | z
    · have e2 : q = m + 1 := by omega
      subst e2
      exact ⟨by omega, Nat.le_refl _⟩
    · have d := I q z
      exact ⟨by omega, by omega⟩
theorem hc_nest {a f : Nat → Nat} {lo n : Nat} (L : hc_Lk a f lo n) : ∀ d c x, n - c ≤ d → lo ≤ c → c < n → c ≤ x → x < f c → f x ≤ f c := by
  intro d
  induction d with
  | zero => intro c x h1 h2 h3; omega
  | succ d ih =>
    intro c x h1 h2 h3 h4 h5
    by_cases z : c = x
    · subst z; exact Nat.le_refl _
    · obtain ⟨hq, he⟩ := L c h2 h3
      have h5' : x < hc_it f (a c) (c + 1) := by rw [← he]; exact h5
      obtain ⟨q, q1, q2, q3⟩ := hc_tile f (c + 1) x (by omega) (a c) h5'
      have y1 := hc_ch L h2 h3 q (by omega)
      have y2 := hq q q1
      rw [hc_it_s] at q3
      have r := ih (hc_it f q (c + 1)) x (by omega) (by omega) y2 q2 q3
      have s := (hc_mono L (x0 := c + 1) (by omega) (a c) hq (q + 1) (by omega)).2
      rw [hc_it_s] at s
      omega
def hc_Ch (a f : Nat → Nat) (t c : Nat) : Prop := ∃ q, q < a t ∧ c = hc_it f q (t + 1)
theorem hc_Ch_lt {a f : Nat → Nat} {lo n t c : Nat} (L : hc_Lk a f lo n) (h2 : lo ≤ t) (h3 : t < n) (h : hc_Ch a f t c) : t < c ∧ c < n ∧ c < f c ∧ f c ≤ f t := by
  obtain ⟨q, q1, rfl⟩ := h
  obtain ⟨hq, he⟩ := L t h2 h3
  have y1 := hc_ch L h2 h3 q (by omega)
  have y2 := hq q q1
  have y3 := hc_lt L (i := hc_it f q (t + 1)) (by omega) y2
  have s := (hc_mono L (x0 := t + 1) (by omega) (a t) hq (q + 1) (by omega)).2
  rw [hc_it_s] at s
  exact ⟨by omega, y2, y3.1, by omega⟩
theorem hc_uniq' {a f : Nat → Nat} {lo n t t' c : Nat} (L : hc_Lk a f lo n) (h2 : lo ≤ t) (h3 : t < n) (h3' : t' < n) (h : hc_Ch a f t c) (h' : hc_Ch a f t' c) (hlt : t < t') : False := by
  have i1 := hc_Ch_lt L h2 h3 h
  have i2 := hc_Ch_lt L (by omega) h3' h'
  obtain ⟨q, q1, rfl⟩ := h
  obtain ⟨hq, he⟩ := L t h2 h3
  obtain ⟨p, p1, p2, p3⟩ := hc_tile f (t + 1) t' (by omega) q i2.1
  have y1 := hc_ch L h2 h3 p (by omega)
  have y2 := hq p (by omega)
  rw [hc_it_s] at p3
  have r := hc_nest L _ (hc_it f p (t + 1)) t' (Nat.le_refl _) (by omega) y2 p2 p3
  have s := (hc_mono L (x0 := t + 1) (by omega) q (fun q' z => hq q' (by omega)) (p + 1) (by omega)).2
  rw [hc_it_s] at s
  omega
theorem hc_uniq {a f : Nat → Nat} {lo n t t' c : Nat} (L : hc_Lk a f lo n) (h2 : lo ≤ t) (h2' : lo ≤ t') (h3 : t < n) (h3' : t' < n) (h : hc_Ch a f t c) (h' : hc_Ch a f t' c) : t = t' := by
  rcases Nat.lt_trichotomy t t' with z | z | z
  · exact (hc_uniq' L h2 h3 h3' h h' z).elim
  · exact z
  · exact (hc_uniq' L h2' h3' h3 h' h z).elim
theorem hc_root {a f : Nat → Nat} {n t k : Nat} (L : hc_Lk a f 0 n) (hk : ∀ j, j < k → hc_it f j 0 < n) (h3 : t < n) (h : hc_Ch a f t (hc_it f k 0)) : False := by
  have i1 := hc_Ch_lt L (Nat.zero_le _) h3 h
  obtain ⟨p, p1, p2, p3⟩ := hc_tile f 0 t (Nat.zero_le _) k i1.1
  rw [hc_it_s] at p3
  have r := hc_nest L _ (hc_it f p 0) t (Nat.le_refl _) (Nat.zero_le _) (hk p p1) p2 p3
  have s := (hc_mono L (x0 := 0) (Nat.zero_le _) k hk (p + 1) (by omega)).2
  rw [hc_it_s] at s
  omega
/-- the number of roots is fixed -/
theorem hc_cnt {f : Nat → Nat} {n c e : Nat} (h1 : hc_it f c 0 = n) (h2 : ∀ k, k < c → hc_it f k 0 < n) (h3 : hc_it f e 0 = n) (h4 : ∀ k, k < e → hc_it f k 0 < n) : c = e := by
  rcases Nat.lt_trichotomy c e with z | z | z
  · have := h4 c z; omega
  · exact z
  · have := h2 e z; omega
theorem hc_it_congr {a f g : Nat → Nat} {lo n : Nat} (L : hc_Lk a f lo n) (hg : ∀ x, lo ≤ x → x < n → g x = f x) {x0 : Nat} (hl : lo ≤ x0) : ∀ m, (∀ q, q < m → hc_it f q x0 < n) → hc_it g m x0 = hc_it f m x0
  | 0, _ => rfl
  | m + 1, H => by
    have e := hc_it_congr L hg hl m (fun q hq => H q (by omega))
    have b := (hc_mono L hl m (fun q hq => H q (by omega)) m (Nat.le_refl _)).1
    rw [hc_it_s, hc_it_s, e]
    exact hg _ (by omega) (H m (by omega))
/-- one more token in front -/
theorem hc_Lk_step {a f : Nat → Nat} {t n e : Nat} (L : hc_Lk a f (t + 1) n) (hq : ∀ q, q < a t → hc_it f q (t + 1) < n) (he : e = hc_it f (a t) (t + 1)) : hc_Lk a (fun x => if x = t then e else f x) t n := by
  have cg : ∀ x, t + 1 ≤ x → x < n → (fun x => if x = t then e else f x) x = f x := fun x h _ => if_neg (by omega)
  intro i h1 h2
  rcases Nat.lt_or_ge t i with z | z
  · obtain ⟨p1, p2⟩ := L i z h2
    have c := fun m (hm : m ≤ a i) => hc_it_congr L cg (x0 := i + 1) (by omega) m (fun q hq => p1 q (by omega))
    refine ⟨fun q hq => ?_, ?_⟩
    · rw [c q (by omega)]; exact p1 q hq
    · rw [c (a i) (Nat.le_refl _), cg i z h2]; exact p2
  · have e1 : i = t := by omega
    subst e1
    have c := fun m (hm : m ≤ a i) => hc_it_congr L cg (x0 := i + 1) (by omega) m (fun q hq' => hq q (by omega))
    refine ⟨fun q hq' => ?_, ?_⟩
    · rw [c q (by omega)]; exact hq q hq'
    · rw [c (a i) (Nat.le_refl _)]
      show (if i = i then e else f i) = _
      rw [if_pos rfl]; exact he
end
section
def gu {α : Type} (f : Nat → α) (k : Nat) (x : α) : Nat → α := fun j => if j = k then x else f j
theorem gu_s {α : Type} {f : Nat → α} {k : Nat} {x : α} : gu f k x k = x := if_pos rfl
theorem gu_n {α : Type} {f : Nat → α} {k j : Nat} {x : α} (h : j ≠ k) : gu f k x j = f j := if_neg h
/-! a value in one long -/
def hv_i (v : Int32) : Int64 := v.toInt64 &&& 4294967295
def hv_b (t h : Nat) : Int64 := (((nI h).toInt64 <<< ((33 : Int32).toInt64 &&& 63)) ||| 4294967296) ||| (nI t).toInt64
theorem hv_and (x : Int64) : x &&& 4294967295 = lN (x.toBitVec.toNat % 2 ^ 32) := Int64.toBitVec_inj.mp (BitVec.eq_of_toNat_eq (by
  show (x.toBitVec &&& 4294967295#64).toNat = (BitVec.ofNat 64 (x.toBitVec.toNat % 2 ^ 32)).toNat
  rw [BitVec.toNat_and, show (4294967295#64).toNat = 2 ^ 32 - 1 from by decide, Nat.and_two_pow_sub_one_eq_mod, BitVec.toNat_ofNat]
  omega))
theorem hv_low (x : Int64) : x.toInt32.toBitVec.toNat = x.toBitVec.toNat % 2 ^ 32 := by
  have h : x.toInt32.toBitVec = x.toBitVec.setWidth 32 := by
    rw [Int64.toBitVec_toInt32]
    exact BitVec.signExtend_eq_setWidth_of_le _ (by decide)
  rw [h, BitVec.toNat_setWidth]
theorem hv_int (v : Int32) : hv_i v = lN v.toBitVec.toNat := by
  unfold hv_i
  rw [hv_and, ← hv_low, Int32.toInt32_toInt64]
theorem hv_blk {t h : Nat} (ht : t < 2 ^ 31) (hh : h < 2 ^ 30) : hv_b t h = lN (h * 8589934592 + (4294967296 + t)) := by
  have e1 : (nI h).toInt64 <<< ((33 : Int32).toInt64 &&& 63) = lN (h * 8589934592) := by
    rw [nI_l (by omega)]; exact wb_shl h (k := 33) (by decide)
  have e2 : lN (h * 8589934592) ||| 4294967296 = lN (h * 8589934592 + 4294967296) := g_or (k := 33) (p := 8589934592) (a := 4294967296) (b := h) (by decide) (by decide) (by omega)
  have e3 : lN ((2 * h + 1) * 4294967296) ||| lN t = lN ((2 * h + 1) * 4294967296 + t) := g_or (k := 32) (p := 4294967296) (by decide) (by omega) (by omega)
  unfold hv_b
  rw [e1, e2, nI_l ht, show h * 8589934592 + 4294967296 = (2 * h + 1) * 4294967296 by omega, e3]
  exact congrArg lN (by omega)
theorem hv_l_i (v : Int32) : (hv_i v).toInt32 = v := by
  rw [hv_int, lN_i]
  exact Int32.toBitVec_inj.mp (by show BitVec.ofNat 32 _ = _; simp)
theorem hv_l_b {t h : Nat} (ht : t < 2 ^ 31) (hh : h < 2 ^ 30) : (hv_b t h).toInt32 = nI t := by
  rw [hv_blk ht hh, lN_i]
  apply Int32.toBitVec_inj.mp
  show BitVec.ofNat 32 _ = BitVec.ofNat 32 t
  apply BitVec.eq_of_toNat_eq
  rw [BitVec.toNat_ofNat, BitVec.toNat_ofNat]
  omega
theorem hv_k_i (v : Int32) : ((hv_i v).toUInt64 >>> ((32 : Int32).toInt64.toUInt64 &&& Int64.toUInt64 63)).toInt64 &&& 1 = 0 := by
  have b : v.toBitVec.toNat < 4294967296 := v.toBitVec.isLt
  have e := wb_bit (n := v.toBitVec.toNat) (k := 32) (by omega) (by decide)
  have z : v.toBitVec.toNat / 2 ^ 32 % 2 = 0 := by omega
  rw [z] at e
  rw [hv_int]
  exact e
theorem hv_k_b {t h : Nat} (ht : t < 2 ^ 31) (hh : h < 2 ^ 30) : ¬ ((hv_b t h).toUInt64 >>> ((32 : Int32).toInt64.toUInt64 &&& Int64.toUInt64 63)).toInt64 &&& 1 = 0 := by
  have e := wb_bit (n := h * 8589934592 + (4294967296 + t)) (k := 32) (by omega) (by decide)
  have z : (h * 8589934592 + (4294967296 + t)) / 2 ^ 32 % 2 = 1 := by omega
  rw [z] at e
  have e' : ((hv_b t h).toUInt64 >>> ((32 : Int32).toInt64.toUInt64 &&& Int64.toUInt64 63)).toInt64 &&& 1 = lN 1 := by rw [hv_blk ht hh]; exact e
  rw [e']
  decide
theorem hv_h_b {t h : Nat} (ht : t < 2 ^ 31) (hh : h < 2 ^ 30) : ((hv_b t h).toUInt64 >>> ((33 : Int32).toInt64.toUInt64 &&& Int64.toUInt64 63)).toInt64.toInt32 = nI h := by
  have e := wb_shr (n := h * 8589934592 + (4294967296 + t)) (k := 33) (by omega) (by decide)
  have z : (h * 8589934592 + (4294967296 + t)) / 2 ^ 33 = h := by omega
  rw [z] at e
  have e' : ((hv_b t h).toUInt64 >>> ((33 : Int32).toInt64.toUInt64 &&& Int64.toUInt64 63)).toInt64 = lN h := by rw [hv_blk ht hh]; exact e
  rw [e', lN_i]
theorem hv_0 : hv_i 0 = 0 := by decide
/-- what the answers show of a value -/
def hv_K (x : Int64) (k v : Int32) : Prop := x.toInt32 = v ∧ ((k = 0 ∧ (x.toUInt64 >>> ((32 : Int32).toInt64.toUInt64 &&& Int64.toUInt64 63)).toInt64 &&& 1 = 0) ∨ (k = 1 ∧ ¬ (x.toUInt64 >>> ((32 : Int32).toInt64.toUInt64 &&& Int64.toUInt64 63)).toInt64 &&& 1 = 0))
/-- X's value x is Y's value (k, v, h); H: the homes of X by their numbers in Y -/
def hv_V (tk : Nat → Int32) (N nh : Nat) (H : Nat → Nat) (x : Int64) (k v h : Int32) : Prop :=
  (k = 0 ∧ x = hv_i v) ∨ (k = 1 ∧ ∃ t xh, t < N ∧ tk t = 13 ∧ xh < nh ∧ v = nI t ∧ h = nI (H xh) ∧ x = hv_b t xh)
theorem hv_VK {tk : Nat → Int32} {N nh : Nat} {H : Nat → Nat} {x : Int64} {k v h : Int32} (hN : N ≤ 128) (hn : nh ≤ 256) (z : hv_V tk N nh H x k v h) : hv_K x k v := by
  rcases z with ⟨rfl, rfl⟩ | ⟨rfl, t, xh, ht, -, hx, rfl, rfl, rfl⟩
  · exact ⟨hv_l_i v, Or.inl ⟨rfl, hv_k_i v⟩⟩
  · exact ⟨hv_l_b (by omega) (by omega), Or.inr ⟨rfl, hv_k_b (by omega) (by omega)⟩⟩
theorem hv_K0 : hv_K 0 0 0 := by
  have a := hv_l_i 0
  have b := hv_k_i 0
  rw [hv_0] at a b
  exact ⟨a, Or.inl ⟨rfl, b⟩⟩
theorem hv_V0 {tk : Nat → Int32} {N nh : Nat} {H : Nat → Nat} {h : Int32} : hv_V tk N nh H 0 0 0 h := Or.inl ⟨rfl, hv_0.symm⟩
theorem hv_V_mono {tk : Nat → Int32} {N nh nh' : Nat} {H H' : Nat → Nat} (hn : nh ≤ nh') (hH : ∀ j, j < nh → H' j = H j) (x : Int64) (k v h : Int32) (z : hv_V tk N nh H x k v h) : hv_V tk N nh' H' x k v h := by
  rcases z with z | ⟨e, t, xh, h1, h2, h3, h4, h5, h6⟩
  · exact Or.inl z
  · exact Or.inr ⟨e, t, xh, h1, h2, by omega, h4, by rw [hH xh h3]; exact h5, h6⟩
end
section
/-- the arity of a kind -/
def hc_ar (k : Int32) : Nat := if k = 0 ∨ k = 1 ∨ k = 3 ∨ k = 5 then 0 else if k = 10 then 3 else if k = 6 ∨ k = 7 ∨ k = 8 ∨ k = 9 ∨ k = 11 ∨ k = 14 then 2 else 1
def hs_bin (k : Int32) : Prop := k = 6 ∨ k = 7 ∨ k = 8 ∨ k = 9 ∨ k = 14
/-! the stack of entries of Y (w*, v*) beside the pending tokens of X (p*): n entries, all of them waiting; p pending tokens; q the place of the activation on top; vb values below; w the steps that are left at most -/
def hs_S (V : Int64 → Int32 → Int32 → Int32 → Prop) (tk : Nat → Int32) (N : Nat) (f D : Nat → Nat) (B : Nat → Bool) (A : Nat → Nat) (M : Nat → Bool) (xB pT pL : Nat → Int32) (pV : Nat → Int64) (wt wa ws wb wx vk vv vh : Nat → Int32) : Nat → Nat → Nat → Nat → Nat → Prop
  | 0, p, q, vb, w => p = 0 ∧ q = 0 ∧ vb = 0 ∧ w = 0 ∧ xB 0 = nI 0
  | n + 1, p, q, vb, w => ∃ t p' q' vb' w', hs_S V tk N f D B A M xB pT pL pV wt wa ws wb wx vk vv vh n p' q' vb' w' ∧ t < N ∧ wt n = nI t ∧ wa n = nI (A q') ∧ wb n = nI vb' ∧ n < 8 * q' + D t ∧ (M q' = true → B t = false) ∧
    ((ws n = 1 ∧ 1 ≤ hc_ar (tk t) ∧ tk t ≠ 13 ∧ p = p' + 1 ∧ q = q' ∧ vb = vb' ∧ w = w' + (3 + 4 * (f t - f (t + 1))) ∧ pT p' = nI t ∧ pL p' = 0) ∨
     (ws n = 2 ∧ hs_bin (tk t) ∧ p = p' + 1 ∧ q = q' ∧ vb = vb' + 1 ∧ w = w' + 2 ∧ pT p' = nI t ∧ pL p' = 1 ∧ V (pV p') (vk vb') (vv vb') (vh vb')) ∨
     (ws n = 2 ∧ tk t = 11 ∧ p = p' ∧ q = q' ∧ vb = vb' + 1 ∧ w = w' + 2) ∨
     (ws n = 2 ∧ tk t = 10 ∧ p = p' ∧ q = q' ∧ vb = vb' ∧ w = w' + 1) ∨
     (p = p' ∧ q = q' + 1 ∧ vb = vb' ∧ w = w' + 1 ∧ wx n = nI (A q) ∧ xB q = nI p ∧ ((ws n = 2 ∧ tk t = 15 ∧ M q = true) ∨ (ws n = 3 ∧ tk t = 14 ∧ M q = false))))
section
variable {V V' : Int64 → Int32 → Int32 → Int32 → Prop} {tk : Nat → Int32} {N : Nat} {f D : Nat → Nat} {B : Nat → Bool} {A A' : Nat → Nat} {M M' : Nat → Bool} {xB pT pL xB' pT' pL' : Nat → Int32} {pV pV' : Nat → Int64} {wt wa ws wb wx vk vv vh wt' wa' ws' wb' wx' vk' vv' vh' : Nat → Int32}
theorem hs_S_bd (hD : ∀ t, t < N → D t ≤ 8) : ∀ n p q vb w, hs_S V tk N f D B A M xB pT pL pV wt wa ws wb wx vk vv vh n p q vb w → p ≤ n ∧ vb ≤ n ∧ n ≤ 8 * q + 8 ∧ (0 < n → n ≤ 8 * q + 8) ∧ ∃ b, xB q = nI b ∧ b ≤ p
  | 0, p, q, vb, w, h => by
    obtain ⟨rfl, rfl, rfl, -, h0⟩ := h
    exact ⟨Nat.le_refl _, Nat.le_refl _, by omega, by omega, 0, h0, Nat.le_refl _⟩
  | n + 1, p, q, vb, w, h => by
    obtain ⟨t, p', q', vb', w', S, ht, -, -, -, hn, -, h⟩ := h
    have d := hD t ht
    obtain ⟨i1, i2, i3, -, b, b1, b2⟩ := hs_S_bd hD n p' q' vb' w' S
    rcases h with ⟨-, -, -, rfl, rfl, rfl, -⟩ | ⟨-, -, rfl, rfl, rfl, -⟩ | ⟨-, -, rfl, rfl, rfl, -⟩ | ⟨-, -, rfl, rfl, rfl, -⟩ | ⟨rfl, rfl, rfl, -, -, hx, -⟩
    · exact ⟨by omega, by omega, by omega, by omega, b, b1, by omega⟩
    · exact ⟨by omega, by omega, by omega, by omega, b, b1, by omega⟩
    · exact ⟨by omega, by omega, by omega, by omega, b, b1, by omega⟩
    · exact ⟨by omega, by omega, by omega, by omega, b, b1, by omega⟩
    · exact ⟨by omega, by omega, by omega, by omega, p, hx, Nat.le_refl _⟩
theorem hs_S_fr (hV : ∀ x k v h, V x k v h → V' x k v h) : ∀ n p q vb w, hs_S V tk N f D B A M xB pT pL pV wt wa ws wb wx vk vv vh n p q vb w →
    (∀ j, j < n → wt' j = wt j ∧ wa' j = wa j ∧ ws' j = ws j ∧ wb' j = wb j ∧ wx' j = wx j) → (∀ j, j < p → pT' j = pT j ∧ pL' j = pL j ∧ pV' j = pV j) → (∀ j, j < vb → vk' j = vk j ∧ vv' j = vv j ∧ vh' j = vh j) → (∀ j, j ≤ q → xB' j = xB j ∧ A' j = A j ∧ M' j = M j) →
    hs_S V' tk N f D B A' M' xB' pT' pL' pV' wt' wa' ws' wb' wx' vk' vv' vh' n p q vb w
  | 0, p, q, vb, w, h, e1, e2, e3, e4 => by
    obtain ⟨rfl, rfl, rfl, h4, h5⟩ := h
    exact ⟨rfl, rfl, rfl, h4, by rw [(e4 0 (Nat.le_refl _)).1]; exact h5⟩
  | n + 1, p, q, vb, w, h, e1, e2, e3, e4 => by
    obtain ⟨t, p', q', vb', w', S, ht, h1, h2, h3, hn, hM, h⟩ := h
    obtain ⟨w1, w2, w3, w4, w5⟩ := e1 n (Nat.lt_succ_self n)
    have X1 : wt' n = nI t := by rw [w1]; exact h1
    have X3 : wb' n = nI vb' := by rw [w4]; exact h3
    rcases h with ⟨a1, a2, a3, a4, a5, a6, a7, a8, a9⟩ | ⟨a1, a2, a3, a4, a5, a6, a7, a8, a9⟩ | ⟨a1, a2, a3, a4, a5, a6⟩ | ⟨a1, a2, a3, a4, a5, a6⟩ | ⟨a1, a2, a3, a4, a5, a6, a7⟩
    · have IH := hs_S_fr hV n p' q' vb' w' S (fun j hj => e1 j (by omega)) (fun j hj => e2 j (by omega)) (fun j hj => e3 j (by omega)) (fun j hj => e4 j (by omega))
      obtain ⟨u1, u2, u3⟩ := e2 p' (by omega)
      obtain ⟨y1, y2, y3⟩ := e4 q' (by omega)
      exact ⟨t, p', q', vb', w', IH, ht, X1, by rw [w2, y2]; exact h2, X3, hn, by rw [y3]; exact hM, Or.inl ⟨by rw [w3]; exact a1, a2, a3, a4, a5, a6, a7, by rw [u1]; exact a8, by rw [u2]; exact a9⟩⟩
    · have IH := hs_S_fr hV n p' q' vb' w' S (fun j hj => e1 j (by omega)) (fun j hj => e2 j (by omega)) (fun j hj => e3 j (by omega)) (fun j hj => e4 j (by omega))
      obtain ⟨u1, u2, u3⟩ := e2 p' (by omega)
      obtain ⟨y1, y2, y3⟩ := e4 q' (by omega)
      obtain ⟨z1, z2, z3⟩ := e3 vb' (by omega)
      exact ⟨t, p', q', vb', w', IH, ht, X1, by rw [w2, y2]; exact h2, X3, hn, by rw [y3]; exact hM, Or.inr (Or.inl ⟨by rw [w3]; exact a1, a2, a3, a4, a5, a6, by rw [u1]; exact a7, by rw [u2]; exact a8, by rw [u3, z1, z2, z3]; exact hV _ _ _ _ a9⟩)⟩
    · have IH := hs_S_fr hV n p' q' vb' w' S (fun j hj => e1 j (by omega)) (fun j hj => e2 j (by omega)) (fun j hj => e3 j (by omega)) (fun j hj => e4 j (by omega))
      obtain ⟨y1, y2, y3⟩ := e4 q' (by omega)
      exact ⟨t, p', q', vb', w', IH, ht, X1, by rw [w2, y2]; exact h2, X3, hn, by rw [y3]; exact hM, Or.inr (Or.inr (Or.inl ⟨by rw [w3]; exact a1, a2, a3, a4, a5, a6⟩))⟩
    · have IH := hs_S_fr hV n p' q' vb' w' S (fun j hj => e1 j (by omega)) (fun j hj => e2 j (by omega)) (fun j hj => e3 j (by omega)) (fun j hj => e4 j (by omega))
      obtain ⟨y1, y2, y3⟩ := e4 q' (by omega)
      exact ⟨t, p', q', vb', w', IH, ht, X1, by rw [w2, y2]; exact h2, X3, hn, by rw [y3]; exact hM, Or.inr (Or.inr (Or.inr (Or.inl ⟨by rw [w3]; exact a1, a2, a3, a4, a5, a6⟩)))⟩
    · have IH := hs_S_fr hV n p' q' vb' w' S (fun j hj => e1 j (by omega)) (fun j hj => e2 j (by omega)) (fun j hj => e3 j (by omega)) (fun j hj => e4 j (by omega))
      obtain ⟨y1, y2, y3⟩ := e4 q' (by omega)
      obtain ⟨x1, x2, x3⟩ := e4 q (Nat.le_refl _)
      exact ⟨t, p', q', vb', w', IH, ht, X1, by rw [w2, y2]; exact h2, X3, hn, by rw [y3]; exact hM, Or.inr (Or.inr (Or.inr (Or.inr ⟨a1, a2, a3, a4, by rw [w5, x2]; exact a5, by rw [x1]; exact a6, by rw [w3, x3]; exact a7⟩)))⟩
theorem hs_ne {a b : Nat} (h : a < b) (hb : b < 2 ^ 31) : nI a ≠ nI b := fun e => by
  rw [nI_eq (by omega) hb] at e; omega
/-- an entry that a return to the activation m passes over -/
def hs_no (tk : Nat → Int32) (N : Nat) (wt ws wx : Nat → Int32) (m j : Nat) : Prop := ∃ t, t < N ∧ wt j = nI t ∧ ¬ (tk t = 15 ∧ ws j = 2 ∧ wx j = nI m)
theorem hs_S_cut : ∀ n p q vb w, hs_S V tk N f D B A M xB pT pL pV wt wa ws wb wx vk vv vh n p q vb w → (∀ i j, i < j → j ≤ q → A i < A j) → (∀ j, j ≤ q → A j < 2 ^ 31) → ∀ r, r + 1 ≤ q →
    ∃ b p' vb' w' t, b < n ∧ hs_S V tk N f D B A M xB pT pL pV wt wa ws wb wx vk vv vh b p' r vb' w' ∧ w' + 1 ≤ w ∧ t < N ∧ wt b = nI t ∧ wb b = nI vb' ∧ vb' ≤ vb ∧ wx b = nI (A (r + 1)) ∧ xB (r + 1) = nI p' ∧ p' ≤ p ∧
      ((ws b = 2 ∧ tk t = 15 ∧ M (r + 1) = true) ∨ (ws b = 3 ∧ tk t = 14 ∧ M (r + 1) = false)) ∧ (∀ j, b < j → j < n → hs_no tk N wt ws wx (A (r + 1)) j)
  | 0, p, q, vb, w, h, _, _, r, hr => by
    obtain ⟨-, rfl, -⟩ := h
    omega
  | n + 1, p, q, vb, w, h, hA, hB, r, hr => by
    obtain ⟨t, p', q', vb', w', S, ht, h1, h2, h3, hn, hM, h⟩ := h
    have key : (hs_no tk N wt ws wx (A (r + 1)) n) → q = q' ∨ q = q' + 1 → r + 1 ≤ q' → w' ≤ w → p' ≤ p → vb' ≤ vb → ∃ b p' vb' w' t, b < n + 1 ∧ hs_S V tk N f D B A M xB pT pL pV wt wa ws wb wx vk vv vh b p' r vb' w' ∧ w' + 1 ≤ w ∧ t < N ∧ wt b = nI t ∧ wb b = nI vb' ∧ vb' ≤ vb ∧ wx b = nI (A (r + 1)) ∧ xB (r + 1) = nI p' ∧ p' ≤ p ∧
      ((ws b = 2 ∧ tk t = 15 ∧ M (r + 1) = true) ∨ (ws b = 3 ∧ tk t = 14 ∧ M (r + 1) = false)) ∧ (∀ j, b < j → j < n + 1 → hs_no tk N wt ws wx (A (r + 1)) j) := fun hno eq hr' hw hp hvb => by
      obtain ⟨b, p2, vb2, w2, t2, i1, i2, i3, i4, i5, i6, i7, i8, i9, i10, i11, i12⟩ := hs_S_cut n p' q' vb' w' S (fun i j h1 h2 => hA i j h1 (by omega)) (fun j h1 => hB j (by omega)) r hr'
      exact ⟨b, p2, vb2, w2, t2, by omega, i2, by omega, i4, i5, i6, by omega, i8, i9, by omega, i11, fun j j1 j2 => if e : j = n then e ▸ hno else i12 j j1 (by omega)⟩
    rcases h with ⟨a1, a2, a3, a4, a5, a6, a7, a8, a9⟩ | ⟨a1, a2, a3, a4, a5, a6, a7, a8, a9⟩ | ⟨a1, a2, a3, a4, a5, a6⟩ | ⟨a1, a2, a3, a4, a5, a6⟩ | ⟨a1, a2, a3, a4, a5, a6, a7⟩
    · exact key ⟨t, ht, h1, fun z => by rw [a1] at z; exact absurd z.2.1 (by decide)⟩ (Or.inl a5) (by omega) (by omega) (by omega) (by omega)
    · exact key ⟨t, ht, h1, fun z => by unfold hs_bin at a2; rw [z.1] at a2; exact absurd a2 (by decide)⟩ (Or.inl a4) (by omega) (by omega) (by omega) (by omega)
    · exact key ⟨t, ht, h1, fun z => by rw [z.1] at a2; exact absurd a2 (by decide)⟩ (Or.inl a4) (by omega) (by omega) (by omega) (by omega)
    · exact key ⟨t, ht, h1, fun z => by rw [z.1] at a2; exact absurd a2 (by decide)⟩ (Or.inl a4) (by omega) (by omega) (by omega) (by omega)
    · by_cases e : r + 1 = q
      · have e2 : q' = r := by omega
        subst e2
        subst e
        subst a1
        subst a3
        exact ⟨n, p, vb, w', t, Nat.lt_succ_self n, S, by omega, ht, h1, h3, Nat.le_refl _, a5, a6, Nat.le_refl _, a7, fun j j1 j2 => by omega⟩
      · exact key ⟨t, ht, h1, fun z => hs_ne (hA (r + 1) q (by omega) (Nat.le_refl _)) (hB q (Nat.le_refl _)) (z.2.2.symm.trans a5)⟩ (Or.inr a2) (by omega) (by omega) (by omega) (by omega)
theorem hs_S_root : ∀ n p q vb w, hs_S V tk N f D B A M xB pT pL pV wt wa ws wb wx vk vv vh n p q vb w → (∀ i j, i < j → j ≤ q → A i < A j) → (∀ j, j ≤ q → A j < 2 ^ 31) → ∀ j, j < n → hs_no tk N wt ws wx (A 0) j
  | 0, p, q, vb, w, h, _, _, j, hj => by omega
  | n + 1, p, q, vb, w, h, hA, hB, j, hj => by
    obtain ⟨t, p', q', vb', w', S, ht, h1, h2, h3, hn, hM, h⟩ := h
    have key : (hs_no tk N wt ws wx (A 0) n) → q' ≤ q → hs_no tk N wt ws wx (A 0) j := fun hno hq =>
      if e : j = n then e ▸ hno else hs_S_root n p' q' vb' w' S (fun i j h1 h2 => hA i j h1 (by omega)) (fun j h1 => hB j (by omega)) j (by omega)
    rcases h with ⟨a1, a2, a3, a4, a5, a6, a7, a8, a9⟩ | ⟨a1, a2, a3, a4, a5, a6, a7, a8, a9⟩ | ⟨a1, a2, a3, a4, a5, a6⟩ | ⟨a1, a2, a3, a4, a5, a6⟩ | ⟨a1, a2, a3, a4, a5, a6, a7⟩
    · exact key ⟨t, ht, h1, fun z => by rw [a1] at z; exact absurd z.2.1 (by decide)⟩ (by omega)
    · exact key ⟨t, ht, h1, fun z => by unfold hs_bin at a2; rw [z.1] at a2; exact absurd a2 (by decide)⟩ (by omega)
    · exact key ⟨t, ht, h1, fun z => by rw [z.1] at a2; exact absurd a2 (by decide)⟩ (by omega)
    · exact key ⟨t, ht, h1, fun z => by rw [z.1] at a2; exact absurd a2 (by decide)⟩ (by omega)
    · exact key ⟨t, ht, h1, fun z => hs_ne (hA 0 q (by omega) (Nat.le_refl _)) (hB q (Nat.le_refl _)) (z.2.2.symm.trans a5)⟩ (by omega)
end
end
section
/-! activations: na active in X at the places 0 .. na - 1; A: their numbers in Y; nh homes of X, H: their numbers in Y; M: is it a method's; an: activations made in Y -/
def hs_A (V : Int64 → Int32 → Int32 → Int32 → Prop) (na nh an : Nat) (A H : Nat → Nat) (M : Nat → Bool) (xH : Nat → Int32) (xP : Nat → Int64) (hP yH yPk yPv yPh yM yA : Nat → Int32) : Prop :=
  (∀ q, q < na → A q < an ∧ yA (A q) = 1 ∧ ∃ h, h < nh ∧ xH q = nI h ∧ yH (A q) = nI (H h) ∧ ((M q = true ∧ yM (A q) = 1 ∧ H h = A q) ∨ (M q = false ∧ yM (A q) = 0 ∧ V (xP q) (yPk (A q)) (yPv (A q)) (yPh (A q))))) ∧
  (∀ p q, p < q → q < na → A p < A q) ∧
  (∀ h, h < nh → H h < an ∧ ((∃ p, p < na ∧ M p = true ∧ hP h = nI p ∧ A p = H h) ∨ (hP h = -1 ∧ yA (H h) = 0))) ∧
  (∀ g h, g < h → h < nh → H g < H h) ∧
  (∀ m, m < an → yA m = 0 ∨ ∃ q, q < na ∧ A q = m)
section
variable {V V' : Int64 → Int32 → Int32 → Int32 → Prop} {na nh an : Nat} {A H : Nat → Nat} {M : Nat → Bool} {xH : Nat → Int32} {xP : Nat → Int64} {hP hP' yH yPk yPv yPh yM yA yA' : Nat → Int32}
theorem hs_H_inj (h4 : ∀ g h, g < h → h < nh → H g < H h) {g h : Nat} (hg : g < nh) (hh : h < nh) (e : H g = H h) : g = h := by
  rcases Nat.lt_trichotomy g h with z | z | z
  · have := h4 g h z hh; omega
  · exact z
  · have := h4 h g z hg; omega
theorem hs_A_V (hV : ∀ x k v h, V x k v h → V' x k v h) (a : hs_A V na nh an A H M xH xP hP yH yPk yPv yPh yM yA) : hs_A V' na nh an A H M xH xP hP yH yPk yPv yPh yM yA := by
  obtain ⟨a1, a2, a3, a4, a5⟩ := a
  refine ⟨fun q hq => ?_, a2, a3, a4, a5⟩
  obtain ⟨b1, b2, h, b3, b4, b5, b6⟩ := a1 q hq
  exact ⟨b1, b2, h, b3, b4, b5, b6.imp id (fun c => ⟨c.1, c.2.1, hV _ _ _ _ c.2.2⟩)⟩
/-- the activations from place p on have ended -/
theorem hs_A_cut (a : hs_A V na nh an A H M xH xP hP yH yPk yPv yPh yM yA) {p : Nat} (hp : p < na)
    (y0 : ∀ m, A p ≤ m → m < an → yA' m = 0) (y1 : ∀ m, m < A p → yA' m = yA m)
    (x0 : ∀ h, h < nh → hP' h = hP h ∨ hP' h = -1) (x1 : ∀ h r, h < nh → r < p → hP h = nI r → hP' h = hP h) (x2 : ∀ h r, h < nh → p ≤ r → r < na → M r = true → A r = H h → hP h = nI r → hP' h = -1) :
    hs_A V p nh an A H M xH xP hP' yH yPk yPv yPh yM yA' := by
  obtain ⟨a1, a2, a3, a4, a5⟩ := a
  have mono : ∀ i, p ≤ i → i < na → A p ≤ A i := fun i h1 h2 => by
    rcases Nat.lt_or_ge p i with z | z
    · exact Nat.le_of_lt (a2 p i z h2)
    · have e : p = i := by omega
      rw [e]; exact Nat.le_refl _
  refine ⟨fun q hq => ?_, fun i j h1 h2 => a2 i j h1 (by omega), fun h hh => ?_, a4, fun m hm => ?_⟩
  · obtain ⟨b1, b2, b3⟩ := a1 q (by omega)
    exact ⟨b1, by rw [y1 _ (a2 q p hq hp)]; exact b2, b3⟩
  · obtain ⟨b1, b2⟩ := a3 h hh
    refine ⟨b1, ?_⟩
    rcases b2 with ⟨r, r1, r2, r3, r4⟩ | ⟨r1, r2⟩
    · rcases Nat.lt_or_ge r p with z | z
      · exact Or.inl ⟨r, z, r2, by rw [x1 h r hh z r3]; exact r3, r4⟩
      · exact Or.inr ⟨x2 h r hh z r1 r2 r4 r3, y0 _ (by rw [← r4]; exact mono r z r1) b1⟩
    · refine Or.inr ⟨(x0 h hh).elim (fun e => e.trans r1) id, ?_⟩
      rcases Nat.lt_or_ge (H h) (A p) with z | z
      · rw [y1 _ z]; exact r2
      · exact y0 _ z b1
  · rcases Nat.lt_or_ge m (A p) with z | z
    · rw [y1 m z]
      rcases a5 m hm with e | ⟨q, q1, q2⟩
      · exact Or.inl e
      · refine Or.inr ⟨q, ?_, q2⟩
        rcases Nat.lt_or_ge q p with y | y
        · exact y
        · have := mono q y q1; omega
    · exact Or.inl (y0 m z hm)
/-- a method starts -/
theorem hs_A_meth (a : hs_A V na nh an A H M xH xP hP yH yPk yPv yPh yM yA) {k v h : Int32} :
    hs_A V (na + 1) (nh + 1) (an + 1) (gu A na an) (gu H nh an) (gu M na true) (upd xH na (nI nh)) xP (upd hP nh (nI na)) (upd yH an (nI an)) (upd yPk an k) (upd yPv an v) (upd yPh an h) (upd yM an 1) (upd yA an 1) := by
  obtain ⟨a1, a2, a3, a4, a5⟩ := a
  refine ⟨fun q hq => ?_, fun i j h1 h2 => ?_, fun h hh => ?_, fun g h h1 h2 => ?_, fun m hm => ?_⟩
  · by_cases e : q = na
    · subst e
      refine ⟨by rw [gu_s]; omega, by rw [gu_s, pk_us], nh, by omega, by rw [pk_us], by rw [gu_s, pk_us, gu_s], Or.inl ⟨gu_s, by rw [gu_s, pk_us], by rw [gu_s, gu_s]⟩⟩
    · obtain ⟨b1, b2, h, b3, b4, b5, b6⟩ := a1 q (by omega)
      have n1 : A q ≠ an := by omega
      rw [gu_n e]
      refine ⟨by omega, by rw [pk_un n1]; exact b2, h, by omega, by rw [pk_un e]; exact b4, by rw [pk_un n1, gu_n (by omega)]; exact b5, ?_⟩
      rw [gu_n e, pk_un n1, gu_n (by omega), pk_un n1, pk_un n1, pk_un n1]
      exact b6
  · by_cases e : j = na
    · subst e
      rw [gu_s, gu_n (by omega)]
      exact (a1 i (by omega)).1
    · rw [gu_n e, gu_n (by omega)]
      exact a2 i j h1 (by omega)
  · by_cases e : h = nh
    · subst e
      exact ⟨by rw [gu_s]; omega, Or.inl ⟨na, by omega, gu_s, pk_us, by rw [gu_s, gu_s]⟩⟩
    · obtain ⟨b1, b2⟩ := a3 h (by omega)
      rw [gu_n e, pk_un e]
      refine ⟨by omega, b2.imp (fun ⟨r, r1, r2, r3, r4⟩ => ⟨r, by omega, by rw [gu_n (by omega)]; exact r2, r3, by rw [gu_n (by omega)]; exact r4⟩) (fun ⟨r1, r2⟩ => ⟨r1, by rw [pk_un (by omega)]; exact r2⟩)⟩
  · by_cases e : h = nh
    · subst e
      rw [gu_s, gu_n (by omega)]
      exact (a3 g (by omega)).1
    · rw [gu_n e, gu_n (by omega)]
      exact a4 g h h1 (by omega)
  · by_cases e : m = an
    · subst e
      exact Or.inr ⟨na, by omega, gu_s⟩
    · rw [pk_un e]
      exact (a5 m (by omega)).imp id (fun ⟨q, q1, q2⟩ => ⟨q, by omega, by rw [gu_n (by omega)]; exact q2⟩)
/-- a block starts, its home is X's home h0 -/
theorem hs_A_block (a : hs_A V na nh an A H M xH xP hP yH yPk yPv yPh yM yA) {h0 : Nat} (hh0 : h0 < nh) {x : Int64} {k v h : Int32} (hx : V x k v h) :
    hs_A V (na + 1) nh (an + 1) (gu A na an) H (gu M na false) (upd xH na (nI h0)) (vp_updL xP na x) hP (upd yH an (nI (H h0))) (upd yPk an k) (upd yPv an v) (upd yPh an h) (upd yM an 0) (upd yA an 1) := by
  obtain ⟨a1, a2, a3, a4, a5⟩ := a
  refine ⟨fun q hq => ?_, fun i j h1 h2 => ?_, fun h hh => ?_, a4, fun m hm => ?_⟩
  · by_cases e : q = na
    · subst e
      refine ⟨by rw [gu_s]; omega, by rw [gu_s, pk_us], h0, hh0, by rw [pk_us], by rw [gu_s, pk_us], Or.inr ⟨gu_s, by rw [gu_s, pk_us], ?_⟩⟩
      rw [gu_s, pk_us, pk_us, pk_us, pk_uLs]
      exact hx
    · obtain ⟨b1, b2, h, b3, b4, b5, b6⟩ := a1 q (by omega)
      have n1 : A q ≠ an := by omega
      rw [gu_n e]
      refine ⟨by omega, by rw [pk_un n1]; exact b2, h, by omega, by rw [pk_un e]; exact b4, by rw [pk_un n1]; exact b5, ?_⟩
      rw [gu_n e, pk_un n1, pk_un n1, pk_un n1, pk_un n1, pk_uLn e]
      exact b6
  · by_cases e : j = na
    · subst e
      rw [gu_s, gu_n (by omega)]
      exact (a1 i (by omega)).1
    · rw [gu_n e, gu_n (by omega)]
      exact a2 i j h1 (by omega)
  · obtain ⟨b1, b2⟩ := a3 h hh
    refine ⟨by omega, b2.imp (fun ⟨r, r1, r2, r3, r4⟩ => ⟨r, by omega, by rw [gu_n (by omega)]; exact r2, r3, by rw [gu_n (by omega)]; exact r4⟩) (fun ⟨r1, r2⟩ => ⟨r1, by rw [pk_un (by omega)]; exact r2⟩)⟩
  · by_cases e : m = an
    · subst e
      exact Or.inr ⟨na, by omega, gu_s⟩
    · rw [pk_un e]
      exact (a5 m (by omega)).imp id (fun ⟨q, q1, q2⟩ => ⟨q, by omega, by rw [gu_n (by omega)]; exact q2⟩)
end
/-! the locals -/
def hs_L (V : Int64 → Int32 → Int32 → Int32 → Prop) (nh : Nat) (H : Nat → Nat) (xL : Nat → Int64) (lk lv lh : Nat → Int32) : Prop := ∀ h, h < nh → ∀ j, j < 4 → V (xL (h * 4 + j)) (lk (H h * 4 + j)) (lv (H h * 4 + j)) (lh (H h * 4 + j))
theorem hs_L_set {V : Int64 → Int32 → Int32 → Int32 → Prop} {nh : Nat} {H : Nat → Nat} {xL : Nat → Int64} {lk lv lh : Nat → Int32} (l : hs_L V nh H xL lk lv lh) (h4 : ∀ g h, g < h → h < nh → H g < H h) {h0 j0 : Nat} (hh : h0 < nh) (hj : j0 < 4) {x : Int64} {k v h : Int32} (hx : V x k v h) :
    hs_L V nh H (vp_updL xL (h0 * 4 + j0) x) (upd lk (H h0 * 4 + j0) k) (upd lv (H h0 * 4 + j0) v) (upd lh (H h0 * 4 + j0) h) := by
  intro h1 hh1 j hj1
  by_cases e : h1 = h0 ∧ j = j0
  · obtain ⟨rfl, rfl⟩ := e
    rw [pk_us, pk_us, pk_us, pk_uLs]; exact hx
  · have n1 : h1 * 4 + j ≠ h0 * 4 + j0 := fun z => e ⟨by omega, by omega⟩
    have n2 : H h1 * 4 + j ≠ H h0 * 4 + j0 := fun z => e ⟨hs_H_inj h4 hh1 hh (by omega), by omega⟩
    rw [pk_un n2, pk_un n2, pk_un n2, pk_uLn n1]
    exact l h1 hh1 j hj1
end
section
/-! the reference's forward scan: its stack beside the tree -/
def hc_pp (need : Nat → Int32) : Nat → Nat
  | 0 => 0
  | s + 1 => if need s = 0 then hc_pp need s else s + 1
theorem hc_pp_le (need : Nat → Int32) : ∀ s, hc_pp need s ≤ s
  | 0 => Nat.le_refl _
  | s + 1 => by
    have := hc_pp_le need s
    simp only [hc_pp]
    split <;> omega
/-- the stack from place k0 on: s entries; g is where the next child of the topmost entry is due -/
def hc_Sk (a f : Nat → Nat) (R : Nat → Prop) (k0 lo i : Nat) (need node dep : Nat → Int32) : Nat → Nat → Prop
  | 0, g => R g
  | s + 1, g => ∃ t m, need (k0 + s) = nI m ∧ node (k0 + s) = nI t ∧ lo ≤ t ∧ t < i ∧ m ≤ a t ∧ g = hc_it f (a t - m) (t + 1) ∧ dep t = nI (k0 + s + 1) ∧ hc_Sk a f R k0 lo i need node dep s (f t)
section
variable {a f : Nat → Nat} {R R' : Nat → Prop} {k0 lo i N : Nat} {need node dep need' node' dep' : Nat → Int32}
theorem hc_Sk_fr (hR : ∀ g, R g → R' g) {i' : Nat} (hi : i ≤ i') : ∀ s g, hc_Sk a f R k0 lo i need node dep s g → (∀ k, k < k0 + s → k0 ≤ k → need' k = need k ∧ node' k = node k) → (∀ j, j < i → dep' j = dep j) → hc_Sk a f R' k0 lo i' need' node' dep' s g
  | 0, g, h, _, _ => hR g h
  | s + 1, g, h, e1, e2 => by
    obtain ⟨t, m, h1, h2, h3, h4, h5, h6, h7, h8⟩ := h
    obtain ⟨y1, y2⟩ := e1 (k0 + s) (by omega) (by omega)
    exact ⟨t, m, by rw [y1]; exact h1, by rw [y2]; exact h2, h3, by omega, h5, h6, by rw [e2 t h4]; exact h7, hc_Sk_fr hR hi s (f t) h8 (fun k k1 k2 => e1 k (by omega) k2) e2⟩
/-- finished entries are taken off -/
theorem hc_Sk_pp (L : ∀ t, lo ≤ t → t < i → f t = hc_it f (a t) (t + 1)) (h3 : ∀ t, lo ≤ t → t < i → a t ≤ 3) (hR : ∀ s, R s → ∀ k, k0 = k + 1 → need k ≠ 0) : ∀ s g, hc_Sk a f R k0 lo i need node dep s g → ∃ s', s' ≤ s ∧ hc_pp need (k0 + s) = k0 + s' ∧ hc_Sk a f R k0 lo i need node dep s' g ∧ (∀ k, k0 + s' = k + 1 → need k ≠ 0)
  | 0, g, h => by
    refine ⟨0, Nat.le_refl _, ?_, h, fun k hk => hR g h k hk⟩
    cases k0 with
    | zero => rfl
    | succ k => show hc_pp need (k + 1) = k + 1; simp only [hc_pp]; rw [if_neg (hR g h k rfl)]
  | s + 1, g, h => by
    by_cases z : need (k0 + s) = 0
    · obtain ⟨t, m, h1, h2, h3', h4, h5, h6, h7, h8⟩ := h
      have m0 : m = 0 := by
        have b := h3 t h3' h4
        rw [h1] at z
        rcases Nat.eq_zero_or_pos m with y | y
        · exact y
        · exact absurd z (nI_ne0 y (by omega))
      subst m0
      have e : g = f t := by rw [h6, L t h3' h4]; rfl
      rw [e]
      obtain ⟨s', i1, i2, i3, i4⟩ := hc_Sk_pp L h3 hR s (f t) h8
      refine ⟨s', by omega, ?_, i3, i4⟩
      show hc_pp need (k0 + s + 1) = _
      simp only [hc_pp]
      rw [if_pos z]; exact i2
    · refine ⟨s + 1, Nat.le_refl _, ?_, h, fun k hk => ?_⟩
      · show hc_pp need (k0 + s + 1) = _
        simp only [hc_pp]
        rw [if_neg z]; rfl
      · have : k = k0 + s := by omega
        rw [this]; exact z
end
/-- one token of the scan: what the loop's body leaves, before entries are taken off -/
def hc_n1 (sp ai : Nat) (need : Nat → Int32) : Nat → Int32 := upd (if 0 < sp then upd need (sp - 1) (need (sp - 1) - 1) else need) sp (nI ai)
section
variable {a f : Nat → Nat} {R R' : Nat → Prop} {k0 lo i N : Nat} {need node dep : Nat → Int32}
/-- a token under the topmost entry -/
theorem hc_Sk_in (h3 : ∀ t, a t ≤ 3) (hR : ∀ g, R g → R' g) {s : Nat} (h : hc_Sk a f R k0 lo i need node dep (s + 1) i) (hlo : lo ≤ i) (hz : need (k0 + s) ≠ 0) {di : Int32} (hdi : di = nI (k0 + s + 1 + 1)) :
    hc_Sk a f R' k0 lo (i + 1) (hc_n1 (k0 + s + 1) (a i) need) (upd node (k0 + s + 1) (nI i)) (upd dep i di) (s + 2) (i + 1) ∧ ∃ t, lo ≤ t ∧ t < i ∧ hc_Ch a f t i ∧ node (k0 + s) = nI t ∧ dep t = nI (k0 + s + 1) := by
  obtain ⟨t, m, h1, h2, g3, h4, h5, h6, h7, h8⟩ := h
  have m0 : 0 < m := by
    rcases Nat.eq_zero_or_pos m with y | y
    · rw [h1, y, nI_0] at hz; exact absurd rfl hz
    · exact y
  obtain ⟨m1, rfl⟩ : ∃ m1, m = m1 + 1 := ⟨m - 1, by omega⟩
  refine ⟨⟨i, a i, ?_, ?_, hlo, by omega, Nat.le_refl _, by rw [Nat.sub_self]; rfl, ?_, ?_⟩, t, g3, h4, ⟨a t - (m1 + 1), by omega, h6⟩, h2, h7⟩
  · exact pk_us
  · exact pk_us
  · rw [pk_us]; exact hdi
  · refine ⟨t, m1, ?_, ?_, g3, by omega, by omega, ?_, ?_, ?_⟩
    · unfold hc_n1
      rw [pk_un (by omega), if_pos (by omega)]
      show upd need (k0 + s) _ (k0 + s) = _
      rw [pk_us]
      show need (k0 + s) - 1 = _
      rw [h1, nI_pred]
    · rw [pk_un (by omega)]; exact h2
    · have e : a t - m1 = a t - (m1 + 1) + 1 := by omega
      rw [e, hc_it_s, ← h6]
    · rw [pk_un (by omega)]; exact h7
    · refine hc_Sk_fr hR (Nat.le_succ i) s (f t) h8 (fun k k1 k2 => ⟨?_, ?_⟩) (fun j hj => pk_un (by omega))
      · unfold hc_n1
        rw [pk_un (by omega), if_pos (by omega)]
        exact pk_un (by omega)
      · exact pk_un (by omega)
/-- a token right above the base -/
theorem hc_Sk_base (hR : R' (f i)) (hlo : lo ≤ i) {di : Int32} (hdi : di = nI (k0 + 1)) :
    hc_Sk a f R' k0 lo (i + 1) (hc_n1 k0 (a i) need) (upd node k0 (nI i)) (upd dep i di) 1 (i + 1) := by
  refine ⟨i, a i, ?_, ?_, hlo, by omega, Nat.le_refl _, by rw [Nat.sub_self]; rfl, ?_, hR⟩
  · exact pk_us
  · exact pk_us
  · rw [pk_us]; exact hdi
end
end
section
/-- the scan of a list whose every token has its operands -/
def hc_Ok (a f : Nat → Nat) (i sp cnt : Nat) (need node dep par : Nat → Int32) : Prop :=
  sp ≤ i ∧ hc_Sk a f (fun g => g = hc_it f cnt 0) 0 0 i need node dep sp i ∧ (∀ k, sp = k + 1 → need k ≠ 0) ∧ (∀ k, k < cnt → hc_it f k 0 < i) ∧
  (∀ j, j < i → (∃ k, k < cnt ∧ j = hc_it f k 0 ∧ dep j = nI 1 ∧ par j = -1) ∨ (∃ t d, t < j ∧ hc_Ch a f t j ∧ par j = nI t ∧ dep t = nI d ∧ dep j = nI (d + 1))) ∧ cnt ≤ i ∧ (∀ j, j < i → ∃ d, 1 ≤ d ∧ d ≤ j + 1 ∧ dep j = nI d)
def hc_c1 (sp cnt : Nat) : Nat := if 0 < sp then cnt else cnt + 1
def hc_p1 (sp : Nat) (node : Nat → Int32) : Int32 := if 0 < sp then node (sp - 1) else -1
theorem hc_Ok_s {a f : Nat → Nat} {N i sp cnt : Nat} {need node dep par : Nat → Int32} (h3 : ∀ t, a t ≤ 3) (L : hc_Lk a f 0 N) (hi : i < N) (h : hc_Ok a f i sp cnt need node dep par) :
    hc_Ok a f (i + 1) (hc_pp (hc_n1 sp (a i) need) (sp + 1)) (hc_c1 sp cnt) (hc_n1 sp (a i) need) (upd node sp (nI i)) (upd dep i (nI (sp + 1))) (upd par i (hc_p1 sp node)) := by
  obtain ⟨b1, b2, b3, b4, b5, b6, b7⟩ := h
  have LL : ∀ t, 0 ≤ t → t < i + 1 → f t = hc_it f (a t) (t + 1) := fun t _ ht => (L t (Nat.zero_le _) (by omega)).2
  have key : ∀ (R : Nat → Prop) (s : Nat), hc_Sk a f R 0 0 (i + 1) (hc_n1 sp (a i) need) (upd node sp (nI i)) (upd dep i (nI (sp + 1))) (s + 1) (i + 1) → s = sp → hc_Sk a f R 0 0 (i + 1) (hc_n1 sp (a i) need) (upd node sp (nI i)) (upd dep i (nI (sp + 1))) (hc_pp (hc_n1 sp (a i) need) (sp + 1)) (i + 1) ∧ hc_pp (hc_n1 sp (a i) need) (sp + 1) ≤ i + 1 ∧ (∀ k, hc_pp (hc_n1 sp (a i) need) (sp + 1) = k + 1 → hc_n1 sp (a i) need k ≠ 0) := by
    intro R s hs es
    subst es
    obtain ⟨s', i1, i2, i3, i4⟩ := hc_Sk_pp LL (fun t _ _ => h3 t) (fun _ _ k hk => by omega) (s + 1) (i + 1) hs
    have e : hc_pp (hc_n1 s (a i) need) (s + 1) = s' := by rw [← Nat.zero_add (s + 1), i2, Nat.zero_add]
    rw [e]
    exact ⟨i3, by omega, fun k hk => i4 k (by omega)⟩
  have dd : ∀ j, j < i → upd dep i (nI (sp + 1)) j = dep j := fun j hj => pk_un (by omega)
  have dp : ∀ j, j < i → upd par i (hc_p1 sp node) j = par j := fun j hj => pk_un (by omega)
  have B7 : ∀ j, j < i + 1 → ∃ d, 1 ≤ d ∧ d ≤ j + 1 ∧ upd dep i (nI (sp + 1)) j = nI d := by
    intro j hj
    by_cases e : j = i
    · subst e; exact ⟨sp + 1, by omega, by omega, pk_us⟩
    · rw [dd j (by omega)]; exact b7 j (by omega)
  cases sp with
  | zero =>
    have ei : i = hc_it f cnt 0 := b2
    have c1 : hc_c1 0 cnt = cnt + 1 := if_neg (by omega)
    have p1 : hc_p1 0 node = -1 := if_neg (by omega)
    rw [c1, p1]
    obtain ⟨k1, k2, k3⟩ := key (fun g => g = hc_it f (cnt + 1) 0) 0 (hc_Sk_base (k0 := 0) (by rw [hc_it_s, ← ei]) (Nat.zero_le _) rfl) rfl
    refine ⟨k2, k1, k3, fun k hk => ?_, fun j hj => ?_, by omega, B7⟩
    · by_cases e : k = cnt
      · rw [e, ← ei]; omega
      · have := b4 k (by omega); omega
    · by_cases e : j = i
      · subst e
        exact Or.inl ⟨cnt, by omega, ei, pk_us, pk_us⟩
      · rw [dd j (by omega), pk_un e]
        rcases b5 j (by omega) with ⟨k, y1, y2⟩ | ⟨t, d, y1, y2, y3, y4, y5⟩
        · exact Or.inl ⟨k, by omega, y2⟩
        · exact Or.inr ⟨t, d, y1, y2, y3, by rw [dd t (by omega)]; exact y4, y5⟩
  | succ s =>
    have c1 : hc_c1 (s + 1) cnt = cnt := if_pos (by omega)
    have p1 : hc_p1 (s + 1) node = node s := if_pos (by omega)
    rw [c1, p1]
    rw [p1] at dp
    have z : need (0 + s) ≠ 0 := by rw [Nat.zero_add]; exact b3 s rfl
    obtain ⟨S2, t, t1, t2, t3, t4, t5⟩ := hc_Sk_in h3 (fun g (hg : g = hc_it f cnt 0) => hg) b2 (Nat.zero_le _) z (di := nI (s + 1 + 1)) (by rw [Nat.zero_add])
    rw [Nat.zero_add] at S2 t4 t5
    obtain ⟨k1, k2, k3⟩ := key (fun g => g = hc_it f cnt 0) (s + 1) S2 rfl
    refine ⟨k2, k1, k3, fun k hk => ?_, fun j hj => ?_, by omega, B7⟩
    · have := b4 k hk; omega
    · by_cases e : j = i
      · subst e
        exact Or.inr ⟨t, s + 1, t2, t3, by rw [pk_us]; exact t4, by rw [dd t t2]; exact t5, pk_us⟩
      · rw [dd j (by omega), pk_un e]
        rcases b5 j (by omega) with ⟨k, y1, y2⟩ | ⟨t, d, y1, y2, y3, y4, y5⟩
        · exact Or.inl ⟨k, y1, y2⟩
        · exact Or.inr ⟨t, d, y1, y2, y3, by rw [dd t (by omega)]; exact y4, y5⟩
theorem hc_Ok_0 {a f : Nat → Nat} {need node dep par : Nat → Int32} : hc_Ok a f 0 0 0 need node dep par :=
  ⟨Nat.le_refl _, rfl, fun k hk => by omega, fun k hk => by omega, fun j hj => by omega, Nat.le_refl _, fun j hj => by omega⟩
theorem hc_Ok_e {a f : Nat → Nat} {N sp cnt : Nat} {need node dep par : Nat → Int32} (L : hc_Lk a f 0 N) (h : hc_Ok a f N sp cnt need node dep par) : sp = 0 ∧ hc_it f cnt 0 = N := by
  obtain ⟨b1, b2, b3, b4, b5, b6⟩ := h
  cases sp with
  | zero => exact ⟨rfl, (show N = _ from b2).symm⟩
  | succ s =>
    obtain ⟨t, m, h1, h2, h3, h4, h5, h6, h7, h8⟩ := b2
    have z := b3 s rfl
    rw [Nat.zero_add] at h1
    have m0 : 0 < m := by
      rcases Nat.eq_zero_or_pos m with y | y
      · rw [h1, y, nI_0] at z; exact absurd rfl z
      · exact y
    have := (L t (Nat.zero_le _) h4).1 (a t - m) (by omega)
    omega
theorem hc_sub1 {x m : Nat} (h : m + 1 ≤ x) : x - m = x - (m + 1) + 1 := by omega
/-- the scan of a list in which token t0 lacks operands: its entry stays -/
def hc_R (a f : Nat → Nat) (t0 q0 k : Nat) (need : Nat → Int32) (g : Nat) : Prop := ∃ m, need k = nI m ∧ m ≤ a t0 ∧ a t0 - m ≤ q0 ∧ g = hc_it f (a t0 - m) (t0 + 1)
def hc_Bad (a f : Nat → Nat) (t0 q0 i sp : Nat) (need node dep : Nat → Int32) : Prop :=
  sp ≤ i ∧ (t0 < i → ∃ k s, sp = k + 1 + s ∧ hc_Sk a f (hc_R a f t0 q0 k need) (k + 1) (t0 + 1) i need node dep s i ∧ (∀ k', sp = k' + 1 → need k' ≠ 0))
theorem hc_Bad_s {a f : Nat → Nat} {N t0 q0 i sp : Nat} {need node dep : Nat → Int32} (h3 : ∀ t, a t ≤ 3) (L : hc_Lk a f (t0 + 1) N) (hq0 : q0 < a t0) (hN : N ≤ hc_it f q0 (t0 + 1)) (hi : i < N) (h : hc_Bad a f t0 q0 i sp need node dep) :
    hc_Bad a f t0 q0 (i + 1) (hc_pp (hc_n1 sp (a i) need) (sp + 1)) (hc_n1 sp (a i) need) (upd node sp (nI i)) (upd dep i (nI (sp + 1))) := by
  obtain ⟨b1, b2⟩ := h
  have LL : ∀ t, t0 + 1 ≤ t → t < i + 1 → f t = hc_it f (a t) (t + 1) := fun t h1 ht => (L t h1 (by omega)).2
  have bd := hc_pp_le (hc_n1 sp (a i) need) (sp + 1)
  refine ⟨by omega, fun ht => ?_⟩
  have key : ∀ k s, sp = k + s → hc_Sk a f (hc_R a f t0 q0 k (hc_n1 sp (a i) need)) (k + 1) (t0 + 1) (i + 1) (hc_n1 sp (a i) need) (upd node sp (nI i)) (upd dep i (nI (sp + 1))) s (i + 1) →
      ∃ k s, hc_pp (hc_n1 sp (a i) need) (sp + 1) = k + 1 + s ∧ hc_Sk a f (hc_R a f t0 q0 k (hc_n1 sp (a i) need)) (k + 1) (t0 + 1) (i + 1) (hc_n1 sp (a i) need) (upd node sp (nI i)) (upd dep i (nI (sp + 1))) s (i + 1) ∧ (∀ k', hc_pp (hc_n1 sp (a i) need) (sp + 1) = k' + 1 → hc_n1 sp (a i) need k' ≠ 0) := by
    intro k s es hs
    obtain ⟨s', i1, i2, i3, i4⟩ := hc_Sk_pp LL (fun t _ _ => h3 t) (fun g hg k' hk' => by
      have e : k' = k := by omega
      subst e
      obtain ⟨m, m1, m2, m3, m4⟩ := hg
      have := h3 t0
      rw [m1]
      exact nI_ne0 (by omega) (by omega)) s (i + 1) hs
    have e2 : hc_pp (hc_n1 sp (a i) need) (sp + 1) = k + 1 + s' := by
      have e : sp + 1 = k + 1 + s := by omega
      rw [e]; exact i2
    exact ⟨k, s', e2, i3, fun k' hk' => i4 k' (by rw [e2] at hk'; exact hk')⟩
  by_cases e : i = t0
  · subst e
    refine key sp 0 rfl ⟨a i, pk_us, Nat.le_refl _, by omega, ?_⟩
    rw [Nat.sub_self]; rfl
  · obtain ⟨k, s, e1, e2, e3⟩ := b2 (by omega)
    cases s with
    | zero =>
      obtain ⟨m, m1, m2, m3, m4⟩ := e2
      have hq : a t0 - m ≠ q0 := fun z => by rw [z] at m4; omega
      obtain ⟨m', rfl⟩ : ∃ m', m = m' + 1 := ⟨m - 1, by omega⟩
      subst e1
      refine key k 1 rfl (hc_Sk_base ⟨m', ?_, by omega, by omega, ?_⟩ (by omega) rfl)
      · unfold hc_n1
        rw [pk_un (by omega), if_pos (by omega)]
        show upd need k (need k - 1) k = _
        rw [pk_us, m1, nI_pred]
      · rw [hc_sub1 m2, hc_it_s, ← m4]
    | succ s =>
      subst e1
      have z : need (k + 1 + s) ≠ 0 := e3 (k + 1 + s) rfl
      obtain ⟨S2, -⟩ := hc_Sk_in (R' := hc_R a f t0 q0 k (hc_n1 (k + 1 + s + 1) (a i) need)) h3 (fun g ⟨m, m1, m2⟩ => ⟨m, by
        unfold hc_n1
        rw [pk_un (by omega), if_pos (by omega), pk_un (by omega)]
        exact m1, m2⟩) e2 (by omega) z (di := nI (k + 1 + s + 1 + 1)) rfl
      exact key k (s + 2) (by omega) S2
theorem hc_Bad_0 {a f : Nat → Nat} {t0 q0 : Nat} {need node dep : Nat → Int32} : hc_Bad a f t0 q0 0 0 need node dep := ⟨Nat.le_refl _, fun h => by omega⟩
theorem hc_Bad_e {a f : Nat → Nat} {N t0 q0 sp : Nat} {need node dep : Nat → Int32} (ht : t0 < N) (h : hc_Bad a f t0 q0 N sp need node dep) : 0 < sp := by
  obtain ⟨k, s, e, -⟩ := h.2 ht
  omega
end
section
/-! a compiled program -/
def hp_a (tk : Nat → Int32) : Nat → Nat := fun i => hc_ar (tk i)
def hp_T (tk tv : Nat → Int32) (N : Nat) : Prop := ∀ t, t < N → ∃ k, k ≤ 16 ∧ tk t = nI k ∧ (k = 1 ∨ k = 2 → ∃ j, j < 4 ∧ tv t = nI j) ∧ (k = 3 ∨ k = 4 → ∃ j, j < 8 ∧ tv t = nI j) ∧ (k = 15 → ∃ j, j < 8 ∧ tv t = nI j)
def hp_G (tk tv : Nat → Int32) (N : Nat) (f D : Nat → Nat) (B : Nat → Bool) (mc : Nat) : Prop :=
  N ≤ 128 ∧ hc_Lk (hp_a tk) f 0 N ∧ (∀ t, t < N → 1 ≤ D t ∧ D t ≤ 8) ∧ (∀ t, t < N → ∀ c, hc_Ch (hp_a tk) f t c → D c = D t + 1 ∧ (tk t ≠ 13 → B t = false → B c = false)) ∧
  (∀ m, m < mc → hc_it f m 0 < N ∧ B (hc_it f m 0) = false) ∧ (∀ t, t < N → tk t = 5 → B t = true) ∧ (∀ t, t < N → tk t = 15 → ∃ m, m < mc ∧ tv t = nI m) ∧ hp_T tk tv N ∧ 1 ≤ mc ∧ mc ≤ 8
theorem hc_ar3 (k : Int32) : hc_ar k ≤ 3 := by
  unfold hc_ar
  split
  · omega
  · split
    · omega
    · split <;> omega
section
variable {tk tv : Nat → Int32} {N : Nat} {f D : Nat → Nat} {B : Nat → Bool} {mc : Nat}
theorem hp_c (G : hp_G tk tv N f D B mc) {t c : Nat} (ht : t < N) (h : hc_Ch (hp_a tk) f t c) : c < N ∧ t < c ∧ c < f c ∧ f c ≤ f t ∧ f t ≤ N ∧ D c = D t + 1 ∧ (tk t ≠ 13 → B t = false → B c = false) := by
  obtain ⟨g1, g2, g3, g4, -⟩ := G
  have b := hc_Ch_lt g2 (Nat.zero_le _) ht h
  have c := g4 t ht _ h
  have d := hc_lt g2 (Nat.zero_le _) ht
  exact ⟨b.2.1, b.1, b.2.2.1, b.2.2.2, d.2, c.1, c.2⟩
theorem hp_1 (G : hp_G tk tv N f D B mc) {t : Nat} (ht : t < N) (ha : 1 ≤ hc_ar (tk t)) : t + 1 < N ∧ t < t + 1 ∧ t + 1 < f (t + 1) ∧ f (t + 1) ≤ f t ∧ f t ≤ N ∧ D (t + 1) = D t + 1 ∧ (tk t ≠ 13 → B t = false → B (t + 1) = false) := hp_c G ht ⟨0, ha, rfl⟩
theorem hp_2 (G : hp_G tk tv N f D B mc) {t : Nat} (ht : t < N) (ha : 2 ≤ hc_ar (tk t)) : f (t + 1) < N ∧ t < f (t + 1) ∧ f (t + 1) < f (f (t + 1)) ∧ f (f (t + 1)) ≤ f t ∧ f t ≤ N ∧ D (f (t + 1)) = D t + 1 ∧ (tk t ≠ 13 → B t = false → B (f (t + 1)) = false) := hp_c G ht ⟨1, ha, rfl⟩
theorem hp_3 (G : hp_G tk tv N f D B mc) {t : Nat} (ht : t < N) (ha : 3 ≤ hc_ar (tk t)) : f (f (t + 1)) < N ∧ t < f (f (t + 1)) ∧ f (f (t + 1)) < f (f (f (t + 1))) ∧ f (f (f (t + 1))) ≤ f t ∧ f t ≤ N ∧ D (f (f (t + 1))) = D t + 1 ∧ (tk t ≠ 13 → B t = false → B (f (f (t + 1))) = false) := hp_c G ht ⟨2, ha, rfl⟩
theorem hp_lt (G : hp_G tk tv N f D B mc) {t : Nat} (ht : t < N) : t < f t ∧ f t ≤ N := hc_lt G.2.1 (Nat.zero_le _) ht
theorem hp_f (G : hp_G tk tv N f D B mc) {t : Nat} (ht : t < N) : f t = hc_it f (hc_ar (tk t)) (t + 1) := (G.2.1 t (Nat.zero_le _) ht).2
theorem hp_f0 (G : hp_G tk tv N f D B mc) {t : Nat} (ht : t < N) (ha : hc_ar (tk t) = 0) : f t = t + 1 := by rw [hp_f G ht, ha]; rfl
theorem hp_f1 (G : hp_G tk tv N f D B mc) {t : Nat} (ht : t < N) (ha : hc_ar (tk t) = 1) : f t = f (t + 1) := by rw [hp_f G ht, ha]; rfl
theorem hp_f2 (G : hp_G tk tv N f D B mc) {t : Nat} (ht : t < N) (ha : hc_ar (tk t) = 2) : f t = f (f (t + 1)) := by rw [hp_f G ht, ha]; rfl
theorem hp_f3 (G : hp_G tk tv N f D B mc) {t : Nat} (ht : t < N) (ha : hc_ar (tk t) = 3) : f t = f (f (f (t + 1))) := by rw [hp_f G ht, ha]; rfl
end
theorem hc_ar_k {k : Nat} (hk : k ≤ 16) : hc_ar (nI k) = if k = 0 ∨ k = 1 ∨ k = 3 ∨ k = 5 then 0 else if k = 10 then 3 else if k = 6 ∨ k = 7 ∨ k = 8 ∨ k = 9 ∨ k = 11 ∨ k = 14 then 2 else 1 := by
  have h : ∀ k, k < 17 → hc_ar (nI k) = if k = 0 ∨ k = 1 ∨ k = 3 ∨ k = 5 then 0 else if k = 10 then 3 else if k = 6 ∨ k = 7 ∨ k = 8 ∨ k = 9 ∨ k = 11 ∨ k = 14 then 2 else 1 := by decide +kernel
  exact h k (by omega)
/-! what one Y entry more means -/
def hs_T (N : Nat) (D : Nat → Nat) (B : Nat → Bool) (A : Nat → Nat) (M : Nat → Bool) (wt wa ws wb : Nat → Int32) (n q vb t : Nat) : Prop :=
  t < N ∧ wt n = nI t ∧ wa n = nI (A q) ∧ ws n = 0 ∧ wb n = nI vb ∧ n < 8 * q + D t ∧ (M q = true → B t = false)
end
section
/-! the moves of the machine on the stack -/
section
variable {V V' : Int64 → Int32 → Int32 → Int32 → Prop} {tk tv : Nat → Int32} {N mc : Nat} {f D : Nat → Nat} {B : Nat → Bool} {A : Nat → Nat} {M : Nat → Bool} {xB pT pL : Nat → Int32} {pV : Nat → Int64} {wt wa ws wb wx vk vv vh : Nat → Int32} {n p q vb w t : Nat}
/-- a value is laid on top -/
theorem hs_t_v (S : hs_S V tk N f D B A M xB pT pL pV wt wa ws wb wx vk vv vh n p q vb w) (a b c : Int32) : hs_S V tk N f D B A M xB pT pL pV wt wa ws wb wx (upd vk vb a) (upd vv vb b) (upd vh vb c) n p q vb w :=
  hs_S_fr (fun _ _ _ _ h => h) n p q vb w S (fun _ _ => ⟨rfl, rfl, rfl, rfl, rfl⟩) (fun _ _ => ⟨rfl, rfl, rfl⟩) (fun j hj => ⟨pk_un (by omega), pk_un (by omega), pk_un (by omega)⟩) (fun _ _ => ⟨rfl, rfl, rfl⟩)
/-- the first operand is begun -/
theorem hs_t_a (G : hp_G tk tv N f D B mc) (S : hs_S V tk N f D B A M xB pT pL pV wt wa ws wb wx vk vv vh n p q vb w) (T : hs_T N D B A M wt wa ws wb n q vb t) (ha : 1 ≤ hc_ar (tk t)) (hk : tk t ≠ 13) :
    hs_S V tk N f D B A M xB (upd pT p (nI t)) (upd pL p 0) pV (upd wt (n + 1) (nI (t + 1))) (upd wa (n + 1) (nI (A q))) (upd (upd ws n 1) (n + 1) 0) (upd wb (n + 1) (nI vb)) (upd wx (n + 1) 0) vk vv vh (n + 1) (p + 1) q vb (w + (3 + 4 * (f t - f (t + 1)))) ∧
    hs_T N D B A M (upd wt (n + 1) (nI (t + 1))) (upd wa (n + 1) (nI (A q))) (upd (upd ws n 1) (n + 1) 0) (upd wb (n + 1) (nI vb)) (n + 1) q vb (t + 1) := by
  obtain ⟨t1, t2, t3, t4, t5, t6, t7⟩ := T
  have c := hp_1 G t1 ha
  refine ⟨⟨t, p, q, vb, w, hs_S_fr (fun _ _ _ _ h => h) n p q vb w S (fun j hj => ⟨pk_un (by omega), pk_un (by omega), by rw [pk_un (by omega), pk_un (by omega)], pk_un (by omega), pk_un (by omega)⟩) (fun j hj => ⟨pk_un (by omega), pk_un (by omega), rfl⟩) (fun _ _ => ⟨rfl, rfl, rfl⟩) (fun _ _ => ⟨rfl, rfl, rfl⟩),
    t1, by rw [pk_un (by omega)]; exact t2, by rw [pk_un (by omega)]; exact t3, by rw [pk_un (by omega)]; exact t5, t6, t7, Or.inl ⟨by rw [pk_un (by omega), pk_us], ha, hk, rfl, rfl, rfl, rfl, pk_us, pk_us⟩⟩, ?_⟩
  exact ⟨c.1, pk_us, pk_us, pk_us, pk_us, by omega, fun h => c.2.2.2.2.2.2 hk (t7 h)⟩
/-- the second operand of a token that keeps the first -/
theorem hs_t_2 (G : hp_G tk tv N f D B mc) (S : hs_S V tk N f D B A M xB pT pL pV wt wa ws wb wx vk vv vh n p q vb w) (t1 : t < N) (t2 : wt n = nI t) (t3 : wa n = nI (A q)) (t5 : wb n = nI vb) (t6 : n < 8 * q + D t) (t7 : M q = true → B t = false) (t8 : pT p = nI t) (ha : 2 ≤ hc_ar (tk t)) (hk : hs_bin (tk t)) {x : Int64} (hx : V x (vk vb) (vv vb) (vh vb)) :
    hs_S V tk N f D B A M xB pT (upd pL p 1) (vp_updL pV p x) (upd wt (n + 1) (nI (f (t + 1)))) (upd wa (n + 1) (nI (A q))) (upd (upd ws n 2) (n + 1) 0) (upd wb (n + 1) (nI (vb + 1))) (upd wx (n + 1) 0) vk vv vh (n + 1) (p + 1) q (vb + 1) (w + 2) ∧
    hs_T N D B A M (upd wt (n + 1) (nI (f (t + 1)))) (upd wa (n + 1) (nI (A q))) (upd (upd ws n 2) (n + 1) 0) (upd wb (n + 1) (nI (vb + 1))) (n + 1) q (vb + 1) (f (t + 1)) := by
  have c := hp_2 G t1 ha
  have hk' : tk t ≠ 13 := fun e => by unfold hs_bin at hk; rw [e] at hk; exact absurd hk (by decide)
  refine ⟨⟨t, p, q, vb, w, hs_S_fr (fun _ _ _ _ h => h) n p q vb w S (fun j hj => ⟨pk_un (by omega), pk_un (by omega), by rw [pk_un (by omega), pk_un (by omega)], pk_un (by omega), pk_un (by omega)⟩) (fun j hj => ⟨rfl, pk_un (by omega), pk_uLn (by omega)⟩) (fun _ _ => ⟨rfl, rfl, rfl⟩) (fun _ _ => ⟨rfl, rfl, rfl⟩),
    t1, by rw [pk_un (by omega)]; exact t2, by rw [pk_un (by omega)]; exact t3, by rw [pk_un (by omega)]; exact t5, t6, t7, Or.inr (Or.inl ⟨by rw [pk_un (by omega), pk_us], hk, rfl, rfl, rfl, rfl, t8, pk_us, by rw [pk_uLs]; exact hx⟩)⟩, ?_⟩
  exact ⟨c.1, pk_us, pk_us, pk_us, pk_us, by omega, fun h => c.2.2.2.2.2.2 hk' (t7 h)⟩
/-- SEQ goes on with its second operand -/
theorem hs_t_s (G : hp_G tk tv N f D B mc) (S : hs_S V tk N f D B A M xB pT pL pV wt wa ws wb wx vk vv vh n p q vb w) (t1 : t < N) (t2 : wt n = nI t) (t3 : wa n = nI (A q)) (t5 : wb n = nI vb) (t6 : n < 8 * q + D t) (t7 : M q = true → B t = false) (hk : tk t = 11) :
    hs_S V tk N f D B A M xB pT pL pV (upd wt (n + 1) (nI (f (t + 1)))) (upd wa (n + 1) (nI (A q))) (upd (upd ws n 2) (n + 1) 0) (upd wb (n + 1) (nI (vb + 1))) (upd wx (n + 1) 0) vk vv vh (n + 1) p q (vb + 1) (w + 2) ∧
    hs_T N D B A M (upd wt (n + 1) (nI (f (t + 1)))) (upd wa (n + 1) (nI (A q))) (upd (upd ws n 2) (n + 1) 0) (upd wb (n + 1) (nI (vb + 1))) (n + 1) q (vb + 1) (f (t + 1)) := by
  have c := hp_2 G t1 (by rw [hk]; decide)
  have hk' : tk t ≠ 13 := by rw [hk]; decide
  refine ⟨⟨t, p, q, vb, w, hs_S_fr (fun _ _ _ _ h => h) n p q vb w S (fun j hj => ⟨pk_un (by omega), pk_un (by omega), by rw [pk_un (by omega), pk_un (by omega)], pk_un (by omega), pk_un (by omega)⟩) (fun _ _ => ⟨rfl, rfl, rfl⟩) (fun _ _ => ⟨rfl, rfl, rfl⟩) (fun _ _ => ⟨rfl, rfl, rfl⟩),
    t1, by rw [pk_un (by omega)]; exact t2, by rw [pk_un (by omega)]; exact t3, by rw [pk_un (by omega)]; exact t5, t6, t7, Or.inr (Or.inr (Or.inl ⟨by rw [pk_un (by omega), pk_us], hk, rfl, rfl, rfl, rfl⟩))⟩, ?_⟩
  exact ⟨c.1, pk_us, pk_us, pk_us, pk_us, by omega, fun h => c.2.2.2.2.2.2 hk' (t7 h)⟩
/-- IF goes on with a branch c -/
theorem hs_t_i (G : hp_G tk tv N f D B mc) (S : hs_S V tk N f D B A M xB pT pL pV wt wa ws wb wx vk vv vh n p q vb w) (t1 : t < N) (t2 : wt n = nI t) (t3 : wa n = nI (A q)) (t5 : wb n = nI vb) (t6 : n < 8 * q + D t) (t7 : M q = true → B t = false) (hk : tk t = 10) {c : Nat} (hc : hc_Ch (hp_a tk) f t c) :
    hs_S V tk N f D B A M xB pT pL pV (upd wt (n + 1) (nI c)) (upd wa (n + 1) (nI (A q))) (upd (upd ws n 2) (n + 1) 0) (upd wb (n + 1) (nI vb)) (upd wx (n + 1) 0) vk vv vh (n + 1) p q vb (w + 1) ∧
    hs_T N D B A M (upd wt (n + 1) (nI c)) (upd wa (n + 1) (nI (A q))) (upd (upd ws n 2) (n + 1) 0) (upd wb (n + 1) (nI vb)) (n + 1) q vb c := by
  have cc := hp_c G t1 hc
  have hk' : tk t ≠ 13 := by rw [hk]; decide
  refine ⟨⟨t, p, q, vb, w, hs_S_fr (fun _ _ _ _ h => h) n p q vb w S (fun j hj => ⟨pk_un (by omega), pk_un (by omega), by rw [pk_un (by omega), pk_un (by omega)], pk_un (by omega), pk_un (by omega)⟩) (fun _ _ => ⟨rfl, rfl, rfl⟩) (fun _ _ => ⟨rfl, rfl, rfl⟩) (fun _ _ => ⟨rfl, rfl, rfl⟩),
    t1, by rw [pk_un (by omega)]; exact t2, by rw [pk_un (by omega)]; exact t3, by rw [pk_un (by omega)]; exact t5, t6, t7, Or.inr (Or.inr (Or.inr (Or.inl ⟨by rw [pk_un (by omega), pk_us], hk, rfl, rfl, rfl, rfl⟩)))⟩, ?_⟩
  exact ⟨cc.1, pk_us, pk_us, pk_us, pk_us, by omega, fun h => cc.2.2.2.2.2.2 hk' (t7 h)⟩
/-- an activation starts: number an in Y, place q + 1 in X, its first token m -/
theorem hs_t_c (hV : ∀ x k v h, V x k v h → V' x k v h) (hD : ∀ t, t < N → 1 ≤ D t ∧ D t ≤ 8) (S : hs_S V tk N f D B A M xB pT pL pV wt wa ws wb wx vk vv vh n p q vb w) (t1 : t < N) (t2 : wt n = nI t) (t3 : wa n = nI (A q)) (t5 : wb n = nI vb) (t6 : n < 8 * q + D t) (t7 : M q = true → B t = false)
    {b : Bool} {s : Int32} (hk : (s = 2 ∧ tk t = 15 ∧ b = true) ∨ (s = 3 ∧ tk t = 14 ∧ b = false)) {m an : Nat} (hm : m < N) (hb : b = true → B m = false) :
    hs_S V' tk N f D B (gu A (q + 1) an) (gu M (q + 1) b) (upd xB (q + 1) (nI p)) pT pL pV (upd wt (n + 1) (nI m)) (upd wa (n + 1) (nI an)) (upd (upd ws n s) (n + 1) 0) (upd wb (n + 1) (nI vb)) (upd (upd wx n (nI an)) (n + 1) 0) vk vv vh (n + 1) p (q + 1) vb (w + 1) ∧
    hs_T N D B (gu A (q + 1) an) (gu M (q + 1) b) (upd wt (n + 1) (nI m)) (upd wa (n + 1) (nI an)) (upd (upd ws n s) (n + 1) 0) (upd wb (n + 1) (nI vb)) (n + 1) (q + 1) vb m := by
  have d := hD t t1
  have d2 := hD m hm
  refine ⟨⟨t, p, q, vb, w, hs_S_fr hV n p q vb w S (fun j hj => ⟨pk_un (by omega), pk_un (by omega), by rw [pk_un (by omega), pk_un (by omega)], pk_un (by omega), by rw [pk_un (by omega), pk_un (by omega)]⟩) (fun _ _ => ⟨rfl, rfl, rfl⟩) (fun _ _ => ⟨rfl, rfl, rfl⟩) (fun j hj => ⟨pk_un (by omega), gu_n (by omega), gu_n (by omega)⟩),
    t1, by rw [pk_un (by omega)]; exact t2, by rw [pk_un (by omega), gu_n (by omega)]; exact t3, by rw [pk_un (by omega)]; exact t5, t6, by rw [gu_n (by omega)]; exact t7, Or.inr (Or.inr (Or.inr (Or.inr ⟨rfl, rfl, rfl, rfl, by rw [pk_un (by omega), pk_us, gu_s], pk_us, ?_⟩)))⟩, ?_⟩
  · rw [pk_un (by omega), pk_us, gu_s]; exact hk
  · refine ⟨hm, pk_us, by rw [pk_us, gu_s], pk_us, pk_us, by omega, ?_⟩
    rw [gu_s]; exact hb
end
/-! ends of activations in X: from place e - 1 down to place p -/
def hx_end (xH : Nat → Int32) (p : Nat) : Nat → (Nat → Int32) → Nat → Int32
  | 0, hP => hP
  | e + 1, hP => if p ≤ e then hx_end xH p e (if hP (xH e).toNatClampNeg = nI e then upd hP (xH e).toNatClampNeg (-1) else hP) else hP
theorem hx_end_0 {xH : Nat → Int32} {p : Nat} : ∀ e hP h, hx_end xH p e hP h = hP h ∨ hx_end xH p e hP h = -1
  | 0, hP, h => Or.inl rfl
  | e + 1, hP, h => by
    simp only [hx_end]
    split
    · rcases hx_end_0 e (if hP (xH e).toNatClampNeg = nI e then upd hP (xH e).toNatClampNeg (-1) else hP) h with z | z
      · rw [z]
        split
        · by_cases y : h = (xH e).toNatClampNeg
          · rw [y, pk_us]; exact Or.inr rfl
          · rw [pk_un y]; exact Or.inl rfl
        · exact Or.inl rfl
      · exact Or.inr z
    · exact Or.inl rfl
theorem hx_end_1 {xH : Nat → Int32} {p h r : Nat} (hr : r < p) : ∀ e hP, e < 2 ^ 31 → hP h = nI r → hx_end xH p e hP h = hP h
  | 0, hP, _, _ => rfl
  | e + 1, hP, he, hh => by
    simp only [hx_end]
    split
    · rename_i hpe
      split
      · rename_i z
        have y : h ≠ (xH e).toNatClampNeg := fun y => by
          rw [← y, hh] at z
          exact hs_ne (show r < e by omega) (by omega) z
        rw [hx_end_1 hr e _ (by omega) (by rw [pk_un y]; exact hh), pk_un y]
      · exact hx_end_1 hr e _ (by omega) hh
    · rfl
theorem hx_end_2 {xH : Nat → Int32} {p h r : Nat} (hh31 : h < 2 ^ 31) (hpr : p ≤ r) (hx : xH r = nI h) : ∀ e hP, e < 2 ^ 31 → r < e → hP h = nI r → hx_end xH p e hP h = -1
  | 0, hP, _, hr, _ => by omega
  | e + 1, hP, he, hr, hh => by
    simp only [hx_end]
    rw [if_pos (by omega)]
    by_cases er : r = e
    · subst er
      rw [hx, nI_clamp hh31, if_pos hh]
      rcases hx_end_0 (xH := xH) (p := p) r (upd hP h (-1)) h with z | z
      · rw [z, pk_us]
      · exact z
    · split
      · rename_i z
        have y : h ≠ (xH e).toNatClampNeg := fun y => by
          rw [← y, hh] at z
          exact hs_ne (show r < e by omega) (by omega) z
        exact hx_end_2 hh31 hpr hx e _ (by omega) (by omega) (by rw [pk_un y]; exact hh)
      · exact hx_end_2 hh31 hpr hx e _ (by omega) (by omega) hh
theorem hs_A_end {V : Int64 → Int32 → Int32 → Int32 → Prop} {na nh an : Nat} {A H : Nat → Nat} {M : Nat → Bool} {xH : Nat → Int32} {xP : Nat → Int64} {hP yH yPk yPv yPh yM yA yA' : Nat → Int32}
    (a : hs_A V na nh an A H M xH xP hP yH yPk yPv yPh yM yA) (hna : na ≤ 16) (hnh : nh ≤ 256) {p : Nat} (hp : p < na)
    (y0 : ∀ m, A p ≤ m → m < an → yA' m = 0) (y1 : ∀ m, m < A p → yA' m = yA m) :
    hs_A V p nh an A H M xH xP (hx_end xH p na hP) yH yPk yPv yPh yM yA' := by
  refine hs_A_cut a hp y0 y1 (fun h _ => hx_end_0 na hP h) (fun h r _ hr e => hx_end_1 hr na hP (by omega) e) (fun h r hh hpr hr hM hA e => ?_)
  obtain ⟨b1, b2, h', b3, b4, b5, b6⟩ := a.1 r hr
  rcases b6 with ⟨-, -, c⟩ | ⟨c, -⟩
  · have eh : h' = h := hs_H_inj a.2.2.2.1 b3 hh (by omega)
    subst eh
    exact hx_end_2 (by omega) hpr b4 na hP (by omega) hr e
  · rw [hM] at c; exact absurd c (by decide)
end
section
theorem wk_b0 : vp_nar .boolean 0 = 0 := by rfl
theorem wk_b1 : vp_nar .boolean 1 = 1 := by rfl
theorem wk_ix (h j : Nat) : nI h * 4 + nI j = nI (h * 4 + j) := by
  show nI h * nI 4 + nI j = _
  rw [pk_mul, nI_add]
theorem wk_m4 (h : Nat) : nI h * 4 = nI (h * 4) := pk_mul h 4
def wk_mx (d a : Int32) : Int32 := if a ≤ d then d else a
/-! the arity on both sides -/
theorem wx_arity {post : Int32 → Prop} : ∀ {k : Nat}, k ≤ 16 → post (nI (hc_ar (nI k))) → wpX_arity post (nI k)
  | 0, _, h => by
    rw [show hc_ar (nI 0) = 0 by decide] at h
    exact br_f (by decide) (br_f (by decide) (br_t (by decide) (h)))
  | 1, _, h => by
    rw [show hc_ar (nI 1) = 0 by decide] at h
    exact br_f (by decide) (br_f (by decide) (br_f (by decide) (br_t (by decide) (h))))
  | 2, _, h => by
    rw [show hc_ar (nI 2) = 1 by decide] at h
    exact br_f (by decide) (br_f (by decide) (br_f (by decide) (br_f (by decide) (br_t (by decide) (h)))))
  | 3, _, h => by
    rw [show hc_ar (nI 3) = 0 by decide] at h
    exact br_f (by decide) (br_f (by decide) (br_f (by decide) (br_f (by decide) (br_f (by decide) (br_t (by decide) (h))))))
  | 4, _, h => by
    rw [show hc_ar (nI 4) = 1 by decide] at h
    exact br_f (by decide) (br_f (by decide) (br_f (by decide) (br_f (by decide) (br_f (by decide) (br_f (by decide) (br_t (by decide) (h)))))))
  | 5, _, h => by
    rw [show hc_ar (nI 5) = 0 by decide] at h
    exact br_f (by decide) (br_f (by decide) (br_f (by decide) (br_f (by decide) (br_f (by decide) (br_f (by decide) (br_f (by decide) (br_t (by decide) (h))))))))
  | 6, _, h => by
    rw [show hc_ar (nI 6) = 2 by decide] at h
    exact br_f (by decide) (br_f (by decide) (br_f (by decide) (br_f (by decide) (br_f (by decide) (br_f (by decide) (br_f (by decide) (br_f (by decide) (br_t (by decide) (h)))))))))
  | 7, _, h => by
    rw [show hc_ar (nI 7) = 2 by decide] at h
    exact br_f (by decide) (br_f (by decide) (br_f (by decide) (br_f (by decide) (br_f (by decide) (br_f (by decide) (br_f (by decide) (br_f (by decide) (br_f (by decide) (br_t (by decide) (h))))))))))
  | 8, _, h => by
    rw [show hc_ar (nI 8) = 2 by decide] at h
    exact br_f (by decide) (br_f (by decide) (br_f (by decide) (br_f (by decide) (br_f (by decide) (br_f (by decide) (br_f (by decide) (br_f (by decide) (br_f (by decide) (br_f (by decide) (br_t (by decide) (h)))))))))))
  | 9, _, h => by
    rw [show hc_ar (nI 9) = 2 by decide] at h
    exact br_f (by decide) (br_f (by decide) (br_f (by decide) (br_f (by decide) (br_f (by decide) (br_f (by decide) (br_f (by decide) (br_f (by decide) (br_f (by decide) (br_f (by decide) (br_f (by decide) (br_t (by decide) (h))))))))))))
  | 10, _, h => by
    rw [show hc_ar (nI 10) = 3 by decide] at h
    exact br_f (by decide) (br_f (by decide) (br_f (by decide) (br_f (by decide) (br_f (by decide) (br_f (by decide) (br_f (by decide) (br_f (by decide) (br_f (by decide) (br_f (by decide) (br_f (by decide) (br_f (by decide) (br_t (by decide) (h)))))))))))))
  | 11, _, h => by
    rw [show hc_ar (nI 11) = 2 by decide] at h
    exact br_f (by decide) (br_f (by decide) (br_f (by decide) (br_f (by decide) (br_f (by decide) (br_f (by decide) (br_f (by decide) (br_f (by decide) (br_f (by decide) (br_f (by decide) (br_f (by decide) (br_f (by decide) (br_f (by decide) (br_t (by decide) (h))))))))))))))
  | 12, _, h => by
    rw [show hc_ar (nI 12) = 1 by decide] at h
    exact br_f (by decide) (br_f (by decide) (br_f (by decide) (br_f (by decide) (br_f (by decide) (br_f (by decide) (br_f (by decide) (br_f (by decide) (br_f (by decide) (br_f (by decide) (br_f (by decide) (br_f (by decide) (br_f (by decide) (br_f (by decide) (br_t (by decide) (h)))))))))))))))
  | 13, _, h => by
    rw [show hc_ar (nI 13) = 1 by decide] at h
    exact br_f (by decide) (br_f (by decide) (br_f (by decide) (br_f (by decide) (br_f (by decide) (br_f (by decide) (br_f (by decide) (br_f (by decide) (br_f (by decide) (br_f (by decide) (br_f (by decide) (br_f (by decide) (br_f (by decide) (br_f (by decide) (br_f (by decide) (br_t (by decide) (h))))))))))))))))
  | 14, _, h => by
    rw [show hc_ar (nI 14) = 2 by decide] at h
    exact br_f (by decide) (br_f (by decide) (br_f (by decide) (br_f (by decide) (br_f (by decide) (br_f (by decide) (br_f (by decide) (br_f (by decide) (br_f (by decide) (br_f (by decide) (br_f (by decide) (br_f (by decide) (br_f (by decide) (br_f (by decide) (br_f (by decide) (br_f (by decide) (br_t (by decide) (h)))))))))))))))))
  | 15, _, h => by
    rw [show hc_ar (nI 15) = 1 by decide] at h
    exact br_f (by decide) (br_t (by decide) (h))
  | 16, _, h => by
    rw [show hc_ar (nI 16) = 1 by decide] at h
    exact br_f (by decide) (br_t (by decide) (h))
  | k + 17, hk, _ => absurd hk (by omega)
section
variable {yn yr ym yo yrk yrv ypn yf yd ya yac yw yv y1 y2 y3 : Int32} {tk tv pk pv gk gv gh cn cd cD cP lk lv lh yH yPk yPv yPh yM yA wt wa ws wb wx vk vv vh : Nat → Int32}
theorem wy_arity {post : Int32 → Prop} : ∀ {k : Nat}, k ≤ 16 → post (nI (hc_ar (nI k))) → wpY_arity post (yn, yr, ym, yo, yrk, yrv, ypn, yf, yd, ya, yac, yw, yv, y1, y2, y3, tk, tv, pk, pv, gk, gv, gh, cn, cd, cD, cP, lk, lv, lh, yH, yPk, yPv, yPh, yM, yA, wt, wa, ws, wb, wx, vk, vv, vh) (nI k)
  | 0, _, h => by
    rw [show hc_ar (nI 0) = 0 by decide] at h
    exact br_t (by decide) (h)
  | 1, _, h => by
    rw [show hc_ar (nI 1) = 0 by decide] at h
    exact br_f (by decide) (br_t (by decide) (h))
  | 2, _, h => by
    rw [show hc_ar (nI 2) = 1 by decide] at h
    exact br_f (by decide) (br_f (by decide) (br_f (by decide) (br_f (by decide) (br_f (by decide) (br_f (by decide) (br_f (by decide) (br_f (by decide) (br_f (by decide) (br_f (by decide) (br_f (by decide) (h)))))))))))
  | 3, _, h => by
    rw [show hc_ar (nI 3) = 0 by decide] at h
    exact br_f (by decide) (br_f (by decide) (br_t (by decide) (h)))
  | 4, _, h => by
    rw [show hc_ar (nI 4) = 1 by decide] at h
    exact br_f (by decide) (br_f (by decide) (br_f (by decide) (br_f (by decide) (br_f (by decide) (br_f (by decide) (br_f (by decide) (br_f (by decide) (br_f (by decide) (br_f (by decide) (br_f (by decide) (h)))))))))))
  | 5, _, h => by
    rw [show hc_ar (nI 5) = 0 by decide] at h
    exact br_f (by decide) (br_f (by decide) (br_f (by decide) (br_t (by decide) (h))))
  | 6, _, h => by
    rw [show hc_ar (nI 6) = 2 by decide] at h
    exact br_f (by decide) (br_f (by decide) (br_f (by decide) (br_f (by decide) (br_f (by decide) (br_t (by decide) (h))))))
  | 7, _, h => by
    rw [show hc_ar (nI 7) = 2 by decide] at h
    exact br_f (by decide) (br_f (by decide) (br_f (by decide) (br_f (by decide) (br_f (by decide) (br_f (by decide) (br_t (by decide) (h)))))))
  | 8, _, h => by
    rw [show hc_ar (nI 8) = 2 by decide] at h
    exact br_f (by decide) (br_f (by decide) (br_f (by decide) (br_f (by decide) (br_f (by decide) (br_f (by decide) (br_f (by decide) (br_t (by decide) (h))))))))
  | 9, _, h => by
    rw [show hc_ar (nI 9) = 2 by decide] at h
    exact br_f (by decide) (br_f (by decide) (br_f (by decide) (br_f (by decide) (br_f (by decide) (br_f (by decide) (br_f (by decide) (br_f (by decide) (br_t (by decide) (h)))))))))
  | 10, _, h => by
    rw [show hc_ar (nI 10) = 3 by decide] at h
    exact br_f (by decide) (br_f (by decide) (br_f (by decide) (br_f (by decide) (br_t (by decide) (h)))))
  | 11, _, h => by
    rw [show hc_ar (nI 11) = 2 by decide] at h
    exact br_f (by decide) (br_f (by decide) (br_f (by decide) (br_f (by decide) (br_f (by decide) (br_f (by decide) (br_f (by decide) (br_f (by decide) (br_f (by decide) (br_t (by decide) (h))))))))))
  | 12, _, h => by
    rw [show hc_ar (nI 12) = 1 by decide] at h
    exact br_f (by decide) (br_f (by decide) (br_f (by decide) (br_f (by decide) (br_f (by decide) (br_f (by decide) (br_f (by decide) (br_f (by decide) (br_f (by decide) (br_f (by decide) (br_f (by decide) (h)))))))))))
  | 13, _, h => by
    rw [show hc_ar (nI 13) = 1 by decide] at h
    exact br_f (by decide) (br_f (by decide) (br_f (by decide) (br_f (by decide) (br_f (by decide) (br_f (by decide) (br_f (by decide) (br_f (by decide) (br_f (by decide) (br_f (by decide) (br_f (by decide) (h)))))))))))
  | 14, _, h => by
    rw [show hc_ar (nI 14) = 2 by decide] at h
    exact br_f (by decide) (br_f (by decide) (br_f (by decide) (br_f (by decide) (br_f (by decide) (br_f (by decide) (br_f (by decide) (br_f (by decide) (br_f (by decide) (br_f (by decide) (br_t (by decide) (h)))))))))))
  | 15, _, h => by
    rw [show hc_ar (nI 15) = 1 by decide] at h
    exact br_f (by decide) (br_f (by decide) (br_f (by decide) (br_f (by decide) (br_f (by decide) (br_f (by decide) (br_f (by decide) (br_f (by decide) (br_f (by decide) (br_f (by decide) (br_f (by decide) (h)))))))))))
  | 16, _, h => by
    rw [show hc_ar (nI 16) = 1 by decide] at h
    exact br_f (by decide) (br_f (by decide) (br_f (by decide) (br_f (by decide) (br_f (by decide) (br_f (by decide) (br_f (by decide) (br_f (by decide) (br_f (by decide) (br_f (by decide) (br_f (by decide) (h)))))))))))
  | k + 17, hk, _ => absurd hk (by omega)
end
theorem wx_both1 {post : Int32 → Prop} {k : Nat} (hk : k ≤ 16) (hb : hs_bin (nI k)) (h : post 1) : wpX_needsBoth post (nI k) := by
  have e : ∀ k, k < 17 → hs_bin (nI k) → hc_ar (nI k) = 2 ∧ nI k ≠ 11 := by unfold hs_bin; decide +kernel
  obtain ⟨e1, e2⟩ := e k (by omega) hb
  exact wx_arity hk (by rw [e1]; exact br_t (by decide) (br_f e2 h))
theorem wx_both0 {post : Int32 → Prop} {k : Nat} (hk : k ≤ 16) (hb : ¬ hs_bin (nI k)) (h : post 0) : wpX_needsBoth post (nI k) := by
  have e : ∀ k, k < 17 → ¬ hs_bin (nI k) → hc_ar (nI k) ≠ 2 ∨ nI k = 11 := by unfold hs_bin; decide +kernel
  refine wx_arity hk ?_
  have b := hc_ar3 (nI k)
  by_cases z : hc_ar (nI k) = 2
  · rw [z]
    rcases e k (by omega) hb with y | y
    · exact absurd z y
    · exact br_t (by decide) (br_t y h)
  · refine br_f (fun y => z ?_) h
    exact (nI_eq (b := 2) (by omega) (by decide)).mp y
theorem wx_kind {post : Int32 → Prop} {x : Int64} {k v : Int32} (z : hv_K x k v) (h : post k) : wpX_kindOf post x := by
  obtain ⟨-, ⟨rfl, z⟩ | ⟨rfl, z⟩⟩ := z
  · exact br_t z h
  · exact br_f z h
section
variable {xn xm xo xpn xf xd xa xh xp xt xy : Int32} {xr xv : Int64} {tk tv af dp ib ms aH aB hP pT pL : Nat → Int32} {pr gl aP lo pV : Nat → Int64} {K : SX → Prop}
theorem wx_startAct {home : Int32} {na p : Nat} (hna : na < 16) (h : K (xn, xm, xo, xr, xpn, xf, wk_mx xd (nI (na + 1)), nI (na + 1), xh, nI p, xt, xv, xy, tk, tv, af, dp, ib, ms, pr, gl, upd aH na home, aP, upd aB na (nI p), lo, hP, pT, pL, pV)) : wpX_startActivation K (xn, xm, xo, xr, xpn, xf, xd, nI na, xh, nI p, xt, xv, xy, tk, tv, af, dp, ib, ms, pr, gl, aH, aP, aB, lo, hP, pT, pL, pV) home := by
  have e : (nI na).toNatClampNeg = na := nI_clamp (by omega)
  have hi : vp_in (nI na) 16 := vp_in_nI hna (by omega)
  unfold wpX_startActivation
  refine ⟨hi, nm_r (congrArg (fun i => upd aH i home) e) ⟨hi, nm_r (congrArg (fun i => upd aB i (nI p)) e) (nm_r (nI_1 na) ?_)⟩⟩
  unfold wk_mx at h
  by_cases z : nI (na + 1) ≤ xd
  · rw [if_pos z] at h; exact br_t z h
  · rw [if_neg z] at h; exact br_f z h
theorem wx_wait {t p : Nat} (hp : p < 128) (h : K (xn, xm, xo, xr, xpn, xf, xd, xa, xh, nI (p + 1), nI (t + 1), xv, 0, tk, tv, af, dp, ib, ms, pr, gl, aH, aP, aB, lo, hP, upd pT p (nI t), upd pL p 0, pV)) : wpX_waitForOperand K (xn, xm, xo, xr, xpn, xf, xd, xa, xh, nI p, xt, xv, xy, tk, tv, af, dp, ib, ms, pr, gl, aH, aP, aB, lo, hP, pT, pL, pV) (nI t) := by
  have e : (nI p).toNatClampNeg = p := nI_clamp (by omega)
  have hi : vp_in (nI p) 128 := vp_in_nI hp (by omega)
  unfold wpX_waitForOperand
  refine ⟨hi, nm_r (congrArg (fun i => upd pT i (nI t)) e) ⟨hi, nm_r (show _ = upd pL p 0 by rw [e, wk_b0]) (nm_r (nI_1 p) ?_)⟩⟩
  show K (xn, xm, xo, xr, xpn, xf, xd, xa, xh, nI (p + 1), nI t + 1, xv, 0, tk, tv, af, dp, ib, ms, pr, gl, aH, aP, aB, lo, hP, upd pT p (nI t), upd pL p 0, pV)
  rw [nI_1 t]; exact h
/-! a token is begun -/
theorem wx_begin_num {t q : Nat} (ht : t < 128) (hq : q < 16) (hk : tk t = 0) (h : K (xn, xm, xo, xr, xpn, xf, xd, nI (q + 1), xh, xp, nI t, hv_i (tv t), 1, tk, tv, af, dp, ib, ms, pr, gl, aH, aP, aB, lo, hP, pT, pL, pV)) : wpX_beginToken K (xn, xm, xo, xr, xpn, xf, xd, nI (q + 1), xh, xp, nI t, xv, xy, tk, tv, af, dp, ib, ms, pr, gl, aH, aP, aB, lo, hP, pT, pL, pV) := by
  have e1 : (nI t).toNatClampNeg = t := nI_clamp (by omega)
  have e2 : nI (q + 1) - 1 = nI q := nI_pred q
  have e3 : (nI q).toNatClampNeg = q := nI_clamp (by omega)
  have i1 : vp_in (nI t) 128 := vp_in_nI ht (by omega)
  have i2 : vp_in (nI q) 16 := vp_in_nI hq (by omega)
  unfold wpX_beginToken
  refine ⟨i1, nm_r (congrArg tv e1) ⟨by rw [e2]; exact i2, nm_r (show _ = aH q by rw [e2, e3]) ⟨i1, nm_r (show _ = 0 by rw [e1, hk]) ?_⟩⟩⟩
  exact br_f (by decide) (br_f (by decide) (br_t (by decide) (h)))
theorem wx_begin_var {t q : Nat} (ht : t < 128) (hq : q < 16) (hk : tk t = 1) {h0 j : Nat} (hh : aH q = nI h0) (hv : tv t = nI j) (hi : h0 * 4 + j < 1024) (h : K (xn, xm, xo, xr, xpn, xf, xd, nI (q + 1), xh, xp, nI t, lo (h0 * 4 + j), 1, tk, tv, af, dp, ib, ms, pr, gl, aH, aP, aB, lo, hP, pT, pL, pV)) : wpX_beginToken K (xn, xm, xo, xr, xpn, xf, xd, nI (q + 1), xh, xp, nI t, xv, xy, tk, tv, af, dp, ib, ms, pr, gl, aH, aP, aB, lo, hP, pT, pL, pV) := by
  have e1 : (nI t).toNatClampNeg = t := nI_clamp (by omega)
  have e2 : nI (q + 1) - 1 = nI q := nI_pred q
  have e3 : (nI q).toNatClampNeg = q := nI_clamp (by omega)
  have i1 : vp_in (nI t) 128 := vp_in_nI ht (by omega)
  have i2 : vp_in (nI q) 16 := vp_in_nI hq (by omega)
  unfold wpX_beginToken
  refine ⟨i1, nm_r (congrArg tv e1) ⟨by rw [e2]; exact i2, nm_r (show _ = aH q by rw [e2, e3]) ⟨i1, nm_r (show _ = 1 by rw [e1, hk]) ?_⟩⟩⟩
  exact br_f (by decide) (br_f (by decide) (br_f (by decide) (br_t (by decide) (⟨by rw [hh, hv, wk_ix]; exact vp_in_nI hi (by omega), nm_r (show _ = lo (h0 * 4 + j) by rw [hh, hv, wk_ix, nI_clamp (by omega)]) h⟩))))
theorem wx_begin_glob {t q : Nat} (ht : t < 128) (hq : q < 16) (hk : tk t = 3) {j : Nat} (hv : tv t = nI j) (hi : j < 8) (h : K (xn, xm, xo, xr, xpn, xf, xd, nI (q + 1), xh, xp, nI t, gl j, 1, tk, tv, af, dp, ib, ms, pr, gl, aH, aP, aB, lo, hP, pT, pL, pV)) : wpX_beginToken K (xn, xm, xo, xr, xpn, xf, xd, nI (q + 1), xh, xp, nI t, xv, xy, tk, tv, af, dp, ib, ms, pr, gl, aH, aP, aB, lo, hP, pT, pL, pV) := by
  have e1 : (nI t).toNatClampNeg = t := nI_clamp (by omega)
  have e2 : nI (q + 1) - 1 = nI q := nI_pred q
  have e3 : (nI q).toNatClampNeg = q := nI_clamp (by omega)
  have i1 : vp_in (nI t) 128 := vp_in_nI ht (by omega)
  have i2 : vp_in (nI q) 16 := vp_in_nI hq (by omega)
  unfold wpX_beginToken
  refine ⟨i1, nm_r (congrArg tv e1) ⟨by rw [e2]; exact i2, nm_r (show _ = aH q by rw [e2, e3]) ⟨i1, nm_r (show _ = 3 by rw [e1, hk]) ?_⟩⟩⟩
  exact br_f (by decide) (br_f (by decide) (br_f (by decide) (br_f (by decide) (br_f (by decide) (br_t (by decide) (⟨by rw [hv]; exact vp_in_nI hi (by omega), nm_r (show _ = gl j by rw [hv, nI_clamp (by omega)]) h⟩))))))
theorem wx_begin_param {t q : Nat} (ht : t < 128) (hq : q < 16) (hk : tk t = 5) (h : K (xn, xm, xo, xr, xpn, xf, xd, nI (q + 1), xh, xp, nI t, aP q, 1, tk, tv, af, dp, ib, ms, pr, gl, aH, aP, aB, lo, hP, pT, pL, pV)) : wpX_beginToken K (xn, xm, xo, xr, xpn, xf, xd, nI (q + 1), xh, xp, nI t, xv, xy, tk, tv, af, dp, ib, ms, pr, gl, aH, aP, aB, lo, hP, pT, pL, pV) := by
  have e1 : (nI t).toNatClampNeg = t := nI_clamp (by omega)
  have e2 : nI (q + 1) - 1 = nI q := nI_pred q
  have e3 : (nI q).toNatClampNeg = q := nI_clamp (by omega)
  have i1 : vp_in (nI t) 128 := vp_in_nI ht (by omega)
  have i2 : vp_in (nI q) 16 := vp_in_nI hq (by omega)
  unfold wpX_beginToken
  refine ⟨i1, nm_r (congrArg tv e1) ⟨by rw [e2]; exact i2, nm_r (show _ = aH q by rw [e2, e3]) ⟨i1, nm_r (show _ = 5 by rw [e1, hk]) ?_⟩⟩⟩
  exact br_f (by decide) (br_f (by decide) (br_f (by decide) (br_f (by decide) (br_f (by decide) (br_f (by decide) (br_f (by decide) (br_t (by decide) (⟨by rw [e2]; exact i2, nm_r (show _ = aP q by rw [e2, e3]) h⟩))))))))
theorem wx_begin_block {t q : Nat} (ht : t < 128) (hq : q < 16) (hk : tk t = 13) {h0 : Nat} (hh : aH q = nI h0) (h : K (xn, xm, xo, xr, xpn, xf, xd, nI (q + 1), xh, xp, nI t, hv_b t h0, 1, tk, tv, af, dp, ib, ms, pr, gl, aH, aP, aB, lo, hP, pT, pL, pV)) : wpX_beginToken K (xn, xm, xo, xr, xpn, xf, xd, nI (q + 1), xh, xp, nI t, xv, xy, tk, tv, af, dp, ib, ms, pr, gl, aH, aP, aB, lo, hP, pT, pL, pV) := by
  have e1 : (nI t).toNatClampNeg = t := nI_clamp (by omega)
  have e2 : nI (q + 1) - 1 = nI q := nI_pred q
  have e3 : (nI q).toNatClampNeg = q := nI_clamp (by omega)
  have i1 : vp_in (nI t) 128 := vp_in_nI ht (by omega)
  have i2 : vp_in (nI q) 16 := vp_in_nI hq (by omega)
  unfold wpX_beginToken
  refine ⟨i1, nm_r (congrArg tv e1) ⟨by rw [e2]; exact i2, nm_r (show _ = aH q by rw [e2, e3]) ⟨i1, nm_r (show _ = 13 by rw [e1, hk]) ?_⟩⟩⟩
  exact br_f (by decide) (br_f (by decide) (br_f (by decide) (br_f (by decide) (br_f (by decide) (br_f (by decide) (br_f (by decide) (br_f (by decide) (br_f (by decide) (br_f (by decide) (br_f (by decide) (br_f (by decide) (br_f (by decide) (br_f (by decide) (br_f (by decide) (br_t (by decide) (by rw [hh]; exact h))))))))))))))))
theorem wx_begin_wait {t q p k : Nat} (ht : t < 128) (hq : q < 16) (hp : p < 128) (hk16 : k ≤ 16) (hk : tk t = nI k) (ha : 1 ≤ hc_ar (tk t)) (h13 : tk t ≠ 13) (h : K (xn, xm, xo, xr, xpn, xf, xd, nI (q + 1), xh, nI (p + 1), nI (t + 1), xv, 0, tk, tv, af, dp, ib, ms, pr, gl, aH, aP, aB, lo, hP, upd pT p (nI t), upd pL p 0, pV)) : wpX_beginToken K (xn, xm, xo, xr, xpn, xf, xd, nI (q + 1), xh, nI p, nI t, xv, xy, tk, tv, af, dp, ib, ms, pr, gl, aH, aP, aB, lo, hP, pT, pL, pV) := by
  have e1 : (nI t).toNatClampNeg = t := nI_clamp (by omega)
  have e2 : nI (q + 1) - 1 = nI q := nI_pred q
  have i1 : vp_in (nI t) 128 := vp_in_nI ht (by omega)
  have i2 : vp_in (nI q) 16 := vp_in_nI hq (by omega)
  rw [hk] at ha h13
  unfold wpX_beginToken
  refine ⟨i1, nm_e ⟨by rw [e2]; exact i2, nm_e ⟨i1, nm_r (show _ = nI k by rw [e1, hk]) ?_⟩⟩⟩
  have B : wX_beginToken_175 K (nI t) xn xm xo xr xpn xf xd (nI (q + 1)) xh (nI p) (nI t) xv 1 tk tv af dp ib ms pr gl aH aP aB lo hP pT pL pV := wx_wait (xt := nI t) (xy := 1) hp h
  match k, hk16, ha, h13 with
  | 0, _, ha, _ => exact absurd ha (by decide)
  | 1, _, ha, _ => exact absurd ha (by decide)
  | 2, _, _, _ => exact br_f (by decide) (br_f (by decide) (br_f (by decide) (br_f (by decide) (br_t (by decide) (B)))))
  | 3, _, ha, _ => exact absurd ha (by decide)
  | 4, _, _, _ => exact br_f (by decide) (br_f (by decide) (br_f (by decide) (br_f (by decide) (br_f (by decide) (br_f (by decide) (br_t (by decide) (B)))))))
  | 5, _, ha, _ => exact absurd ha (by decide)
  | 6, _, _, _ => exact br_f (by decide) (br_f (by decide) (br_f (by decide) (br_f (by decide) (br_f (by decide) (br_f (by decide) (br_f (by decide) (br_f (by decide) (br_t (by decide) (B)))))))))
  | 7, _, _, _ => exact br_f (by decide) (br_f (by decide) (br_f (by decide) (br_f (by decide) (br_f (by decide) (br_f (by decide) (br_f (by decide) (br_f (by decide) (br_f (by decide) (br_t (by decide) (B))))))))))
  | 8, _, _, _ => exact br_f (by decide) (br_f (by decide) (br_f (by decide) (br_f (by decide) (br_f (by decide) (br_f (by decide) (br_f (by decide) (br_f (by decide) (br_f (by decide) (br_f (by decide) (br_t (by decide) (B)))))))))))
  | 9, _, _, _ => exact br_f (by decide) (br_f (by decide) (br_f (by decide) (br_f (by decide) (br_f (by decide) (br_f (by decide) (br_f (by decide) (br_f (by decide) (br_f (by decide) (br_f (by decide) (br_f (by decide) (br_t (by decide) (B))))))))))))
  | 10, _, _, _ => exact br_f (by decide) (br_f (by decide) (br_f (by decide) (br_f (by decide) (br_f (by decide) (br_f (by decide) (br_f (by decide) (br_f (by decide) (br_f (by decide) (br_f (by decide) (br_f (by decide) (br_f (by decide) (br_t (by decide) (B)))))))))))))
  | 11, _, _, _ => exact br_f (by decide) (br_f (by decide) (br_f (by decide) (br_f (by decide) (br_f (by decide) (br_f (by decide) (br_f (by decide) (br_f (by decide) (br_f (by decide) (br_f (by decide) (br_f (by decide) (br_f (by decide) (br_f (by decide) (br_t (by decide) (B))))))))))))))
  | 12, _, _, _ => exact br_f (by decide) (br_f (by decide) (br_f (by decide) (br_f (by decide) (br_f (by decide) (br_f (by decide) (br_f (by decide) (br_f (by decide) (br_f (by decide) (br_f (by decide) (br_f (by decide) (br_f (by decide) (br_f (by decide) (br_f (by decide) (br_t (by decide) (B)))))))))))))))
  | 13, _, _, h13 => exact absurd rfl h13
  | 14, _, _, _ => exact br_f (by decide) (br_t (by decide) (B))
  | 15, _, _, _ => exact br_f (by decide) (br_t (by decide) (B))
  | 16, _, _, _ => exact br_f (by decide) (br_t (by decide) (B))
  | k + 17, hk, _, _ => exact absurd hk (by omega)
/-! activations -/
theorem wx_startMeth {x : Int64} {m na p nh : Nat} {mt : Int32} (hm : m < 8) (hna : na < 16) (hnh : nh < 256) (hmt : ms m = mt)
    (h : K (xn, xm, xo, xr, xpn, xf, wk_mx xd (nI (na + 1)), nI (na + 1), nI (nh + 1), nI p, mt, xv, 0, tk, tv, af, dp, ib, ms, pr, gl, upd aH na (nI nh), aP, upd aB na (nI p), vp_updL (vp_updL (vp_updL (vp_updL lo (nh * 4) x) (nh * 4 + 1) 0) (nh * 4 + 2) 0) (nh * 4 + 3) 0, upd hP nh (nI na), pT, pL, pV)) : wpX_startMethod K (xn, xm, xo, xr, xpn, xf, xd, nI na, nI nh, nI p, xt, xv, xy, tk, tv, af, dp, ib, ms, pr, gl, aH, aP, aB, lo, hP, pT, pL, pV) (nI m) x := by
  have e : (nI nh).toNatClampNeg = nh := nI_clamp (by omega)
  have e4 : (nI (nh * 4)).toNatClampNeg = nh * 4 := nI_clamp (by omega)
  have a1 : nI (nh * 4) + 1 = nI (nh * 4 + 1) := nI_add _ 1
  have a2 : nI (nh * 4) + 2 = nI (nh * 4 + 2) := nI_add _ 2
  have a3 : nI (nh * 4) + 3 = nI (nh * 4 + 3) := nI_add _ 3
  have c1 : (nI (nh * 4 + 1)).toNatClampNeg = nh * 4 + 1 := nI_clamp (by omega)
  have c2 : (nI (nh * 4 + 2)).toNatClampNeg = nh * 4 + 2 := nI_clamp (by omega)
  have c3 : (nI (nh * 4 + 3)).toNatClampNeg = nh * 4 + 3 := nI_clamp (by omega)
  unfold wpX_startMethod
  refine nm_r (nI_1 nh) ⟨vp_in_nI hnh (by omega), nm_r (congrArg (fun i => upd hP i (nI na)) e) (nm_r (wk_m4 nh) ⟨vp_in_nI (by omega) (by omega), nm_r (congrArg (fun i => vp_updL lo i x) e4) ⟨4, ?_⟩⟩)⟩
  refine br_f (by decide) ⟨by rw [a1]; exact vp_in_nI (by omega) (by omega), nm_r (show _ = vp_updL (vp_updL lo (nh * 4) x) (nh * 4 + 1) 0 by rw [a1, c1]) (nm_r (show (1 : Int32) + 1 = 2 by decide) ?_)⟩
  refine br_f (by decide) ⟨by rw [a2]; exact vp_in_nI (by omega) (by omega), nm_r (show _ = vp_updL (vp_updL (vp_updL lo (nh * 4) x) (nh * 4 + 1) 0) (nh * 4 + 2) 0 by rw [a2, c2]) (nm_r (show (2 : Int32) + 1 = 3 by decide) ?_)⟩
  refine br_f (by decide) ⟨by rw [a3]; exact vp_in_nI (by omega) (by omega), nm_r (show _ = vp_updL (vp_updL (vp_updL (vp_updL lo (nh * 4) x) (nh * 4 + 1) 0) (nh * 4 + 2) 0) (nh * 4 + 3) 0 by rw [a3, c3]) (nm_r (show (3 : Int32) + 1 = 4 by decide) ?_)⟩
  refine br_t (by decide) (wx_startAct hna ?_)
  refine ⟨vp_in_nI hm (by omega), ?_⟩
  have em : ms (nI m).toNatClampNeg = mt := by rw [nI_clamp (by omega)]; exact hmt
  show K (xn, xm, xo, xr, xpn, xf, wk_mx xd (nI (na + 1)), nI (na + 1), nI (nh + 1), nI p, ms (nI m).toNatClampNeg, xv, 0, tk, tv, af, dp, ib, ms, pr, gl, upd aH na (nI nh), aP, upd aB na (nI p), vp_updL (vp_updL (vp_updL (vp_updL lo (nh * 4) x) (nh * 4 + 1) 0) (nh * 4 + 2) 0) (nh * 4 + 3) 0, upd hP nh (nI na), pT, pL, pV)
  rw [em]; exact h
theorem wx_may0 {P : Int32 → SX → Prop} (h : P 0 (xn, xm, 3, xr, xpn, 0, xd, xa, xh, xp, xt, xv, xy, tk, tv, af, dp, ib, ms, pr, gl, aH, aP, aB, lo, hP, pT, pL, pV)) : wpX_mayStart P (xn, xm, xo, xr, xpn, 0, xd, xa, xh, xp, xt, xv, xy, tk, tv, af, dp, ib, ms, pr, gl, aH, aP, aB, lo, hP, pT, pL, pV) := by
  unfold wpX_mayStart
  exact br_t rfl h
theorem wx_may1 {P : Int32 → SX → Prop} {fl na : Nat} (hf : fl < 256) (hna : na = 16) (h : P 0 (xn, xm, 5, xr, xpn, nI fl, xd, nI na, xh, xp, xt, xv, xy, tk, tv, af, dp, ib, ms, pr, gl, aH, aP, aB, lo, hP, pT, pL, pV)) : wpX_mayStart P (xn, xm, xo, xr, xpn, nI (fl + 1), xd, nI na, xh, xp, xt, xv, xy, tk, tv, af, dp, ib, ms, pr, gl, aH, aP, aB, lo, hP, pT, pL, pV) := by
  subst hna
  unfold wpX_mayStart
  exact br_f (nI_ne0 (by omega) (by omega)) (nm_r (nI_pred fl) (br_t rfl h))
theorem wx_may2 {P : Int32 → SX → Prop} {fl na : Nat} (hf : fl < 256) (hna : na < 16) (h : P 1 (xn, xm, xo, xr, xpn, nI fl, xd, nI na, xh, xp, xt, xv, xy, tk, tv, af, dp, ib, ms, pr, gl, aH, aP, aB, lo, hP, pT, pL, pV)) : wpX_mayStart P (xn, xm, xo, xr, xpn, nI (fl + 1), xd, nI na, xh, xp, xt, xv, xy, tk, tv, af, dp, ib, ms, pr, gl, aH, aP, aB, lo, hP, pT, pL, pV) := by
  unfold wpX_mayStart
  exact br_f (nI_ne0 (by omega) (by omega)) (nm_r (nI_pred fl) (br_f (fun z => by have := (nI_eq (b := 16) (by omega) (by decide)).mp z; omega) h))
theorem wx_returnFrom {q p : Nat} (hq : q < 16) (hp : p ≤ q) (hH : ∀ e, e ≤ q → ∃ h, h < 256 ∧ aH e = nI h)
    (h0 : p = 0 → K (xn, xm, 1, xv, xpn, xf, xd, nI p, xh, aB p, xt, xv, xy, tk, tv, af, dp, ib, ms, pr, gl, aH, aP, aB, lo, hx_end aH p (q + 1) hP, pT, pL, pV)) (h1 : p ≠ 0 → K (xn, xm, xo, xr, xpn, xf, xd, nI p, xh, aB p, xt, xv, xy, tk, tv, af, dp, ib, ms, pr, gl, aH, aP, aB, lo, hx_end aH p (q + 1) hP, pT, pL, pV)) : wpX_returnFrom K (xn, xm, xo, xr, xpn, xf, xd, nI (q + 1), xh, xp, xt, xv, xy, tk, tv, af, dp, ib, ms, pr, gl, aH, aP, aB, lo, hP, pT, pL, pV) (nI p) := by
  have key : ∀ d e hP, e ≤ q + 1 → e = p + d → (p = 0 → K (xn, xm, 1, xv, xpn, xf, xd, nI p, xh, aB p, xt, xv, xy, tk, tv, af, dp, ib, ms, pr, gl, aH, aP, aB, lo, hx_end aH p e hP, pT, pL, pV)) → (p ≠ 0 → K (xn, xm, xo, xr, xpn, xf, xd, nI p, xh, aB p, xt, xv, xy, tk, tv, af, dp, ib, ms, pr, gl, aH, aP, aB, lo, hx_end aH p e hP, pT, pL, pV)) → wX_returnFrom_7 K (nI p) xn xm xo xr xpn xf xd (nI (q + 1)) xh xp xt xv xy (d + 1) (nI e + (-1)) tk tv af dp ib ms pr gl aH aP aB lo hP pT pL pV := by
    intro d
    induction d with
    | zero =>
      intro e hP he ed h0 h1
      have ep : e = p := by omega
      subst ep
      have el : ∀ hP, hx_end aH e e hP = hP := fun hP => by
        cases e with
        | zero => rfl
        | succ e => simp only [hx_end]; rw [if_neg (by omega)]
      rw [el] at h0 h1
      have lt : nI e + (-1) < nI e := by
        cases e with
        | zero => decide
        | succ e => rw [pk_m1]; exact nI_lt (by omega) (by omega)
      refine br_t lt ⟨vp_in_nI (by omega) (by omega), nm_r (congrArg aB (nI_clamp (by omega))) ?_⟩
      by_cases z : e = 0
      · subst z
        exact br_t rfl (h0 rfl)
      · exact br_f (nI_ne0 (by omega) (by omega)) (h1 z)
    | succ d ih =>
      intro e hP he ed h0 h1
      obtain ⟨e', rfl⟩ : ∃ e', e = e' + 1 := ⟨e - 1, by omega⟩
      have ex : hx_end aH p (e' + 1) hP = hx_end aH p e' (if hP (aH e').toNatClampNeg = nI e' then upd hP (aH e').toNatClampNeg (-1) else hP) := by
        simp only [hx_end]; rw [if_pos (by omega)]
      rw [ex] at h0 h1
      obtain ⟨hh, hh1, hh2⟩ := hH e' (by omega)
      have c : (nI e').toNatClampNeg = e' := nI_clamp (by omega)
      rw [pk_m1]
      refine br_f (nI_nlt (by omega) (by omega)) ⟨vp_in_nI (by omega) (by omega), nm_r (congrArg aH c) ⟨by rw [hh2]; exact vp_in_nI hh1 (by omega), ?_⟩⟩
      by_cases z : hP (aH e').toNatClampNeg = nI e'
      · rw [if_pos z] at h0 h1
        exact br_t z ⟨by rw [hh2]; exact vp_in_nI hh1 (by omega), nm_e (nm_e (ih e' _ (by omega) (by omega) h0 h1))⟩
      · rw [if_neg z] at h0 h1
        exact br_f z (nm_e (ih e' _ (by omega) (by omega) h0 h1))
  unfold wpX_returnFrom
  refine nm_r (e' := nI (q + 1) + (-1)) (by rw [pk_m1, nI_pred]) ⟨q + 1 - p + 1, key _ _ _ (Nat.le_refl _) (by omega) h0 h1⟩
end
end
section
section
variable {xn xm xo xpn xf xd xa xh xp xt xy : Int32} {xr xv : Int64} {tk tv af dp ib ms aH aB hP pT pL : Nat → Int32} {pr gl aP lo pV : Nat → Int64} {K : SX → Prop} {p t q k : Nat}
/-! a pending token is resumed -/
theorem wx_res67 (hp : p < 128) (ht : t < 128) (hT : pT p = nI t) (hk16 : k ≤ 16) (hk : tk t = nI k) (hb : ¬ hs_bin (nI k) ∨ pL p = 1) (h : wX_resumeToken_67 K (nI p) (nI t) (nI k) xn xm xo xr xpn xf xd xa xh (nI (p + 1)) xt xv xy tk tv af dp ib ms pr gl aH aP aB lo hP pT pL pV) : wpX_resumeToken K (xn, xm, xo, xr, xpn, xf, xd, xa, xh, nI (p + 1), xt, xv, xy, tk, tv, af, dp, ib, ms, pr, gl, aH, aP, aB, lo, hP, pT, pL, pV) := by
  have e1 : (nI p).toNatClampNeg = p := nI_clamp (by omega)
  have e2 : (nI t).toNatClampNeg = t := nI_clamp (by omega)
  have i1 : vp_in (nI p) 128 := vp_in_nI hp (by omega)
  unfold wpX_resumeToken
  refine nm_r (nI_pred p) ⟨i1, nm_r (show _ = nI t by rw [e1, hT]) ⟨vp_in_nI ht (by omega), nm_r (show _ = nI k by rw [e2, hk]) ?_⟩⟩
  by_cases z : hs_bin (nI k)
  · refine wx_both1 hk16 z (br_f (by decide) ⟨i1, br_f ?_ h⟩)
    rcases hb with y | y
    · exact absurd z y
    · rw [e1, y]; decide
  · exact wx_both0 hk16 z (br_t rfl h)
theorem wx_res1 {c : Nat} (hp : p < 128) (ht : t + 1 < 128) (hT : pT p = nI t) (hk16 : k ≤ 16) (hk : tk t = nI k) (hb : hs_bin (nI k)) (hL : pL p = 0) (haf : af (t + 1) = nI c)
    (h : K (xn, xm, xo, xr, xpn, xf, xd, xa, xh, nI (p + 1), nI c, xv, 0, tk, tv, af, dp, ib, ms, pr, gl, aH, aP, aB, lo, hP, pT, upd pL p 1, vp_updL pV p xv)) : wpX_resumeToken K (xn, xm, xo, xr, xpn, xf, xd, xa, xh, nI (p + 1), xt, xv, xy, tk, tv, af, dp, ib, ms, pr, gl, aH, aP, aB, lo, hP, pT, pL, pV) := by
  have e1 : (nI p).toNatClampNeg = p := nI_clamp (by omega)
  have e2 : (nI t).toNatClampNeg = t := nI_clamp (by omega)
  have e3 : (nI (t + 1)).toNatClampNeg = t + 1 := nI_clamp (by omega)
  have i1 : vp_in (nI p) 128 := vp_in_nI hp (by omega)
  unfold wpX_resumeToken
  refine nm_r (nI_pred p) ⟨i1, nm_r (show _ = nI t by rw [e1, hT]) ⟨vp_in_nI (by omega) (by omega), nm_r (show _ = nI k by rw [e2, hk]) ?_⟩⟩
  refine wx_both1 hk16 hb (br_f (by decide) ⟨i1, br_t (by rw [e1]; exact hL) ⟨i1, nm_r (show _ = upd pL p 1 by rw [e1, wk_b1]) ⟨i1, nm_r (show _ = vp_updL pV p xv by rw [e1]) ⟨by rw [nI_1 t]; exact vp_in_nI ht (by omega), ?_⟩⟩⟩⟩)
  have ec : af (nI t + 1).toNatClampNeg = nI c := by rw [nI_1 t, e3]; exact haf
  show K (xn, xm, xo, xr, xpn, xf, xd, xa, xh, nI (p + 1), af (nI t + 1).toNatClampNeg, xv, 0, tk, tv, af, dp, ib, ms, pr, gl, aH, aP, aB, lo, hP, pT, upd pL p 1, vp_updL pV p xv)
  rw [ec]; exact h
theorem wx_if {c1 c2 : Nat} {kk v : Int32} (ht : t + 1 < 128) (hc1 : c1 < 128) (hV : hv_K xv kk v) (h1 : af (t + 1) = nI c1) (h2 : af c1 = nI c2)
    (hb : kk = 1 → K (xn, xm, 4, xr, xpn, xf, xd, xa, xh, nI p, xt, xv, xy, tk, tv, af, dp, ib, ms, pr, gl, aH, aP, aB, lo, hP, pT, pL, pV)) (hz : kk = 0 → v = 0 → K (xn, xm, xo, xr, xpn, xf, xd, xa, xh, nI p, nI c2, xv, 0, tk, tv, af, dp, ib, ms, pr, gl, aH, aP, aB, lo, hP, pT, pL, pV)) (hn : kk = 0 → v ≠ 0 → K (xn, xm, xo, xr, xpn, xf, xd, xa, xh, nI p, nI c1, xv, 0, tk, tv, af, dp, ib, ms, pr, gl, aH, aP, aB, lo, hP, pT, pL, pV)) : wX_resumeToken_67 K (nI p) (nI t) (nI 10) xn xm xo xr xpn xf xd xa xh (nI (p + 1)) xt xv xy tk tv af dp ib ms pr gl aH aP aB lo hP pT pL pV := by
  have e3 : (nI (t + 1)).toNatClampNeg = t + 1 := nI_clamp (by omega)
  have e4 : (nI c1).toNatClampNeg = c1 := nI_clamp (by omega)
  have B : wpX_chooseBranch K (xn, xm, xo, xr, xpn, xf, xd, xa, xh, nI p, xt, xv, xy, tk, tv, af, dp, ib, ms, pr, gl, aH, aP, aB, lo, hP, pT, pL, pV) (nI t) := by
    unfold wpX_chooseBranch
    refine wx_kind hV ?_
    obtain ⟨v1, v2⟩ := hV
    rcases v2 with ⟨z, -⟩ | ⟨z, -⟩
    · refine br_f (by rw [z]; decide) ⟨by rw [nI_1 t]; exact vp_in_nI ht (by omega), nm_r (show _ = nI c1 by rw [nI_1 t, e3, h1]) ⟨vp_in_nI hc1 (by omega), nm_r (show _ = nI c2 by rw [e4, h2]) ?_⟩⟩
      by_cases y : v = 0
      · exact br_t (by rw [v1]; exact y) (hz z y)
      · exact br_f (by rw [v1]; exact y) (hn z y)
    · exact br_t z (hb z)
  exact br_f (by decide) (br_f (by decide) (br_f (by decide) (br_f (by decide) (br_f (by decide) (br_f (by decide) (br_f (by decide) (br_f (by decide) (br_f (by decide) (br_f (by decide) (br_t (by decide) (B)))))))))))
theorem wx_seq {c : Nat} (ht : t + 1 < 128) (h1 : af (t + 1) = nI c) (h : K (xn, xm, xo, xr, xpn, xf, xd, xa, xh, nI p, nI c, xv, 0, tk, tv, af, dp, ib, ms, pr, gl, aH, aP, aB, lo, hP, pT, pL, pV)) : wX_resumeToken_67 K (nI p) (nI t) (nI 11) xn xm xo xr xpn xf xd xa xh (nI (p + 1)) xt xv xy tk tv af dp ib ms pr gl aH aP aB lo hP pT pL pV := by
  have e3 : (nI (t + 1)).toNatClampNeg = t + 1 := nI_clamp (by omega)
  have ec : af (nI t + 1).toNatClampNeg = nI c := by rw [nI_1 t, e3]; exact h1
  have B : K (xn, xm, xo, xr, xpn, xf, xd, xa, xh, nI p, af (nI t + 1).toNatClampNeg, xv, 0, tk, tv, af, dp, ib, ms, pr, gl, aH, aP, aB, lo, hP, pT, pL, pV) := by rw [ec]; exact h
  have B2 : vp_in (nI t + 1) 128 := by rw [nI_1 t]; exact vp_in_nI ht (by omega)
  exact br_f (by decide) (br_f (by decide) (br_f (by decide) (br_f (by decide) (br_f (by decide) (br_f (by decide) (br_f (by decide) (br_f (by decide) (br_f (by decide) (br_f (by decide) (br_f (by decide) (br_t (by decide) (⟨B2, B⟩))))))))))))
theorem wx_set {h0 j : Nat} (ht : t < 128) (hq : q < 16) (hh : aH q = nI h0) (hv : tv t = nI j) (hi : h0 * 4 + j < 1024) (h : K (xn, xm, xo, xr, xpn, xf, xd, nI (q + 1), xh, nI p, xt, xv, xy, tk, tv, af, dp, ib, ms, pr, gl, aH, aP, aB, vp_updL lo (h0 * 4 + j) xv, hP, pT, pL, pV)) : wX_resumeToken_67 K (nI p) (nI t) (nI 2) xn xm xo xr xpn xf xd (nI (q + 1)) xh (nI (p + 1)) xt xv xy tk tv af dp ib ms pr gl aH aP aB lo hP pT pL pV := by
  have e2 : (nI t).toNatClampNeg = t := nI_clamp (by omega)
  have e4 : nI (q + 1) - 1 = nI q := nI_pred q
  have e5 : (nI q).toNatClampNeg = q := nI_clamp (by omega)
  have B : wpX_storeValue K (xn, xm, xo, xr, xpn, xf, xd, nI (q + 1), xh, nI p, xt, xv, xy, tk, tv, af, dp, ib, ms, pr, gl, aH, aP, aB, lo, hP, pT, pL, pV) (nI 2) (tv (nI t).toNatClampNeg) := by
    rw [e2, hv]
    unfold wpX_storeValue
    refine br_t rfl ⟨by rw [e4]; exact vp_in_nI hq (by omega), by rw [e4, e5, hh, wk_ix]; exact vp_in_nI hi (by omega), nm_r (show _ = vp_updL lo (h0 * 4 + j) xv by rw [e4, e5, hh, wk_ix, nI_clamp (by omega)]) h⟩
  exact br_f (by decide) (br_f (by decide) (br_t (by decide) (⟨vp_in_nI ht (by omega), B⟩)))
theorem wx_gset {j : Nat} (ht : t < 128) (hv : tv t = nI j) (hi : j < 8) (h : K (xn, xm, xo, xr, xpn, xf, xd, xa, xh, nI p, xt, xv, xy, tk, tv, af, dp, ib, ms, pr, vp_updL gl j xv, aH, aP, aB, lo, hP, pT, pL, pV)) : wX_resumeToken_67 K (nI p) (nI t) (nI 4) xn xm xo xr xpn xf xd xa xh (nI (p + 1)) xt xv xy tk tv af dp ib ms pr gl aH aP aB lo hP pT pL pV := by
  have e2 : (nI t).toNatClampNeg = t := nI_clamp (by omega)
  have B : wpX_storeValue K (xn, xm, xo, xr, xpn, xf, xd, xa, xh, nI p, xt, xv, xy, tk, tv, af, dp, ib, ms, pr, gl, aH, aP, aB, lo, hP, pT, pL, pV) (nI 4) (tv (nI t).toNatClampNeg) := by
    rw [e2, hv]
    unfold wpX_storeValue
    refine br_f (by decide) (br_t rfl ⟨vp_in_nI hi (by omega), nm_r (show _ = vp_updL gl j xv by rw [nI_clamp (by omega)]) h⟩)
  exact br_f (by decide) (br_f (by decide) (br_f (by decide) (br_f (by decide) (br_t (by decide) (⟨vp_in_nI ht (by omega), B⟩)))))
theorem wx_print {pn : Nat} (ht : t < 128) (hpn : pn ≤ 32) (h1 : pn = 32 → K (xn, xm, xo, xr, nI pn, xf, xd, xa, xh, nI p, xt, xv, xy, tk, tv, af, dp, ib, ms, pr, gl, aH, aP, aB, lo, hP, pT, pL, pV)) (h2 : pn < 32 → K (xn, xm, xo, xr, nI (pn + 1), xf, xd, xa, xh, nI p, xt, xv, xy, tk, tv, af, dp, ib, ms, vp_updL pr pn xv, gl, aH, aP, aB, lo, hP, pT, pL, pV)) : wX_resumeToken_67 K (nI p) (nI t) (nI 12) xn xm xo xr (nI pn) xf xd xa xh (nI (p + 1)) xt xv xy tk tv af dp ib ms pr gl aH aP aB lo hP pT pL pV := by
  have B : ∀ y, wpX_storeValue K (xn, xm, xo, xr, nI pn, xf, xd, xa, xh, nI p, xt, xv, xy, tk, tv, af, dp, ib, ms, pr, gl, aH, aP, aB, lo, hP, pT, pL, pV) (nI 12) y := by
    intro y
    unfold wpX_storeValue
    refine br_f (by decide) (br_f (by decide) ?_)
    by_cases z : pn = 32
    · exact br_t (nI_le (a := 32) (by omega) (by omega)) (h1 z)
    · exact br_f (nI_ge (b := 32) (by omega) (by decide)) ⟨vp_in_nI (by omega) (by omega), nm_r (show _ = vp_updL pr pn xv by rw [nI_clamp (by omega)]) (nm_r (nI_1 pn) (h2 (by omega)))⟩
  exact br_f (by decide) (br_f (by decide) (br_f (by decide) (br_f (by decide) (br_f (by decide) (br_f (by decide) (br_f (by decide) (br_f (by decide) (br_f (by decide) (br_f (by decide) (br_f (by decide) (br_f (by decide) (br_t (by decide) (⟨vp_in_nI ht (by omega), B _⟩)))))))))))))
theorem wx_calc6 {ka a kb b : Int32} (hp : p < 128) (hA : hv_K (pV p) ka a) (hB : hv_K xv kb b) (h1 : ka = 1 ∨ kb = 1 → K (xn, xm, 4, xr, xpn, xf, xd, xa, xh, nI p, xt, xv, xy, tk, tv, af, dp, ib, ms, pr, gl, aH, aP, aB, lo, hP, pT, pL, pV)) (h2 : ka = 0 → kb = 0 → K (xn, xm, xo, xr, xpn, xf, xd, xa, xh, nI p, xt, hv_i (a + b), xy, tk, tv, af, dp, ib, ms, pr, gl, aH, aP, aB, lo, hP, pT, pL, pV)) : wX_resumeToken_67 K (nI p) (nI t) (nI 6) xn xm xo xr xpn xf xd xa xh (nI (p + 1)) xt xv xy tk tv af dp ib ms pr gl aH aP aB lo hP pT pL pV := by
  have e1 : (nI p).toNatClampNeg = p := nI_clamp (by omega)
  have B : wpX_calculate K (xn, xm, xo, xr, xpn, xf, xd, xa, xh, nI p, xt, xv, xy, tk, tv, af, dp, ib, ms, pr, gl, aH, aP, aB, lo, hP, pT, pL, pV) (nI 6) (pV (nI p).toNatClampNeg) xv := by
    rw [e1]
    unfold wpX_calculate
    refine wx_kind hA ?_
    obtain ⟨a1, a2⟩ := hA
    rcases a2 with ⟨z, -⟩ | ⟨z, -⟩
    · refine br_f (by rw [z]; decide) (wx_kind hB ?_)
      obtain ⟨b1, b2⟩ := hB
      rcases b2 with ⟨y, -⟩ | ⟨y, -⟩
      · refine br_f (by rw [y]; decide) ?_
        have C := h2 z y
        rw [a1, b1]
        exact br_f (by decide) (br_f (by decide) (br_t rfl C))
      · exact br_t y (h1 (Or.inr y))
    · exact br_t z (h1 (Or.inl z))
  exact br_f (by decide) (br_f (by decide) (br_f (by decide) (br_f (by decide) (br_f (by decide) (br_f (by decide) (br_t (by decide) (⟨vp_in_nI hp (by omega), B⟩)))))))
theorem wx_calc7 {ka a kb b : Int32} (hp : p < 128) (hA : hv_K (pV p) ka a) (hB : hv_K xv kb b) (h1 : ka = 1 ∨ kb = 1 → K (xn, xm, 4, xr, xpn, xf, xd, xa, xh, nI p, xt, xv, xy, tk, tv, af, dp, ib, ms, pr, gl, aH, aP, aB, lo, hP, pT, pL, pV)) (h2 : ka = 0 → kb = 0 → K (xn, xm, xo, xr, xpn, xf, xd, xa, xh, nI p, xt, hv_i (a - b), xy, tk, tv, af, dp, ib, ms, pr, gl, aH, aP, aB, lo, hP, pT, pL, pV)) : wX_resumeToken_67 K (nI p) (nI t) (nI 7) xn xm xo xr xpn xf xd xa xh (nI (p + 1)) xt xv xy tk tv af dp ib ms pr gl aH aP aB lo hP pT pL pV := by
  have e1 : (nI p).toNatClampNeg = p := nI_clamp (by omega)
  have B : wpX_calculate K (xn, xm, xo, xr, xpn, xf, xd, xa, xh, nI p, xt, xv, xy, tk, tv, af, dp, ib, ms, pr, gl, aH, aP, aB, lo, hP, pT, pL, pV) (nI 7) (pV (nI p).toNatClampNeg) xv := by
    rw [e1]
    unfold wpX_calculate
    refine wx_kind hA ?_
    obtain ⟨a1, a2⟩ := hA
    rcases a2 with ⟨z, -⟩ | ⟨z, -⟩
    · refine br_f (by rw [z]; decide) (wx_kind hB ?_)
      obtain ⟨b1, b2⟩ := hB
      rcases b2 with ⟨y, -⟩ | ⟨y, -⟩
      · refine br_f (by rw [y]; decide) ?_
        have C := h2 z y
        rw [a1, b1]
        exact br_f (by decide) (br_f (by decide) (br_f (by decide) (br_t rfl C)))
      · exact br_t y (h1 (Or.inr y))
    · exact br_t z (h1 (Or.inl z))
  exact br_f (by decide) (br_f (by decide) (br_f (by decide) (br_f (by decide) (br_f (by decide) (br_f (by decide) (br_f (by decide) (br_t (by decide) (⟨vp_in_nI hp (by omega), B⟩))))))))
theorem wx_calc8 {ka a kb b : Int32} (hp : p < 128) (hA : hv_K (pV p) ka a) (hB : hv_K xv kb b) (h1 : ka = 1 ∨ kb = 1 → K (xn, xm, 4, xr, xpn, xf, xd, xa, xh, nI p, xt, xv, xy, tk, tv, af, dp, ib, ms, pr, gl, aH, aP, aB, lo, hP, pT, pL, pV)) (h2 : ka = 0 → kb = 0 → K (xn, xm, xo, xr, xpn, xf, xd, xa, xh, nI p, xt, hv_i (a * b), xy, tk, tv, af, dp, ib, ms, pr, gl, aH, aP, aB, lo, hP, pT, pL, pV)) : wX_resumeToken_67 K (nI p) (nI t) (nI 8) xn xm xo xr xpn xf xd xa xh (nI (p + 1)) xt xv xy tk tv af dp ib ms pr gl aH aP aB lo hP pT pL pV := by
  have e1 : (nI p).toNatClampNeg = p := nI_clamp (by omega)
  have B : wpX_calculate K (xn, xm, xo, xr, xpn, xf, xd, xa, xh, nI p, xt, xv, xy, tk, tv, af, dp, ib, ms, pr, gl, aH, aP, aB, lo, hP, pT, pL, pV) (nI 8) (pV (nI p).toNatClampNeg) xv := by
    rw [e1]
    unfold wpX_calculate
    refine wx_kind hA ?_
    obtain ⟨a1, a2⟩ := hA
    rcases a2 with ⟨z, -⟩ | ⟨z, -⟩
    · refine br_f (by rw [z]; decide) (wx_kind hB ?_)
      obtain ⟨b1, b2⟩ := hB
      rcases b2 with ⟨y, -⟩ | ⟨y, -⟩
      · refine br_f (by rw [y]; decide) ?_
        have C := h2 z y
        rw [a1, b1]
        exact br_f (by decide) (br_f (by decide) (br_f (by decide) (br_f (by decide) (br_t rfl C))))
      · exact br_t y (h1 (Or.inr y))
    · exact br_t z (h1 (Or.inl z))
  exact br_f (by decide) (br_f (by decide) (br_f (by decide) (br_f (by decide) (br_f (by decide) (br_f (by decide) (br_f (by decide) (br_f (by decide) (br_t (by decide) (⟨vp_in_nI hp (by omega), B⟩)))))))))
theorem wx_calc9 {ka a kb b : Int32} (hp : p < 128) (hA : hv_K (pV p) ka a) (hB : hv_K xv kb b) (h1 : ka = 1 ∨ kb = 1 → K (xn, xm, 4, xr, xpn, xf, xd, xa, xh, nI p, xt, xv, xy, tk, tv, af, dp, ib, ms, pr, gl, aH, aP, aB, lo, hP, pT, pL, pV)) (h2 : ka = 0 → kb = 0 → K (xn, xm, xo, xr, xpn, xf, xd, xa, xh, nI p, xt, hv_i (if a < b then 1 else 0), xy, tk, tv, af, dp, ib, ms, pr, gl, aH, aP, aB, lo, hP, pT, pL, pV)) : wX_resumeToken_67 K (nI p) (nI t) (nI 9) xn xm xo xr xpn xf xd xa xh (nI (p + 1)) xt xv xy tk tv af dp ib ms pr gl aH aP aB lo hP pT pL pV := by
  have e1 : (nI p).toNatClampNeg = p := nI_clamp (by omega)
  have B : wpX_calculate K (xn, xm, xo, xr, xpn, xf, xd, xa, xh, nI p, xt, xv, xy, tk, tv, af, dp, ib, ms, pr, gl, aH, aP, aB, lo, hP, pT, pL, pV) (nI 9) (pV (nI p).toNatClampNeg) xv := by
    rw [e1]
    unfold wpX_calculate
    refine wx_kind hA ?_
    obtain ⟨a1, a2⟩ := hA
    rcases a2 with ⟨z, -⟩ | ⟨z, -⟩
    · refine br_f (by rw [z]; decide) (wx_kind hB ?_)
      obtain ⟨b1, b2⟩ := hB
      rcases b2 with ⟨y, -⟩ | ⟨y, -⟩
      · refine br_f (by rw [y]; decide) ?_
        have C := h2 z y
        rw [a1, b1]
        refine br_f (by decide) (br_t (by decide) ?_)
        by_cases w : a < b
        · rw [if_pos w] at C
          exact br_f (fun x => absurd w (Int32.not_lt.mpr x)) C
        · rw [if_neg w] at C
          exact br_t (Int32.not_lt.mp w) C
      · exact br_t y (h1 (Or.inr y))
    · exact br_t z (h1 (Or.inl z))
  exact br_f (by decide) (br_f (by decide) (br_f (by decide) (br_f (by decide) (br_f (by decide) (br_f (by decide) (br_f (by decide) (br_f (by decide) (br_f (by decide) (br_t (by decide) (⟨vp_in_nI hp (by omega), B⟩))))))))))
theorem wx_call {m mt fl nh : Nat} (ht : t < 128) (hv : tv t = nI m) (hm : m < 8) (hms : ms m = nI mt) (hq : q < 16) (hf : fl < 256) (hnh : fl ≠ 0 → q + 1 < 16 → nh < 256)
    (h0 : fl = 0 → K (xn, xm, 3, xr, xpn, nI 0, xd, nI (q + 1), nI nh, nI p, xt, xv, xy, tk, tv, af, dp, ib, ms, pr, gl, aH, aP, aB, lo, hP, pT, pL, pV)) (h1 : ∀ f1, fl = f1 + 1 → q + 1 = 16 → K (xn, xm, 5, xr, xpn, nI f1, xd, nI (q + 1), nI nh, nI p, xt, xv, xy, tk, tv, af, dp, ib, ms, pr, gl, aH, aP, aB, lo, hP, pT, pL, pV))
    (h2 : ∀ f1, fl = f1 + 1 → q + 1 < 16 → K (xn, xm, xo, xr, xpn, nI f1, wk_mx xd (nI (q + 1 + 1)), nI (q + 1 + 1), nI (nh + 1), nI p, nI mt, xv, 0, tk, tv, af, dp, ib, ms, pr, gl, upd aH (q + 1) (nI nh), aP, upd aB (q + 1) (nI p), vp_updL (vp_updL (vp_updL (vp_updL lo (nh * 4) xv) (nh * 4 + 1) 0) (nh * 4 + 2) 0) (nh * 4 + 3) 0, upd hP nh (nI (q + 1)), pT, pL, pV)) : wX_resumeToken_67 K (nI p) (nI t) (nI 15) xn xm xo xr xpn (nI fl) xd (nI (q + 1)) (nI nh) (nI (p + 1)) xt xv xy tk tv af dp ib ms pr gl aH aP aB lo hP pT pL pV := by
  have e2 : (nI t).toNatClampNeg = t := nI_clamp (by omega)
  have B : wpX_mayStart (fun r u => match u with | (xn, xm, xo, xr, xpn, xf, xd, xa, xh, xp, xt, xv, xy, tk, tv, af, dp, ib, ms, pr, gl, aH, aP, aB, lo, hP, pT, pL, pV) => ((r = 0 → K (xn, xm, xo, xr, xpn, xf, xd, xa, xh, xp, xt, xv, xy, tk, tv, af, dp, ib, ms, pr, gl, aH, aP, aB, lo, hP, pT, pL, pV)) ∧ (¬ r = 0 → (vp_in (nI t) 128 ∧ wpX_startMethod K (xn, xm, xo, xr, xpn, xf, xd, xa, xh, xp, xt, xv, xy, tk, tv, af, dp, ib, ms, pr, gl, aH, aP, aB, lo, hP, pT, pL, pV) (tv (nI t).toNatClampNeg) xv)))) (xn, xm, xo, xr, xpn, nI fl, xd, nI (q + 1), nI nh, nI p, xt, xv, xy, tk, tv, af, dp, ib, ms, pr, gl, aH, aP, aB, lo, hP, pT, pL, pV) := by
    cases fl with
    | zero => exact wx_may0 (br_t rfl (h0 rfl))
    | succ f1 =>
      by_cases z : q + 1 = 16
      · exact wx_may1 (by omega) z (br_t rfl (h1 f1 rfl z))
      · refine wx_may2 (by omega) (by omega) (br_f (by decide) ⟨vp_in_nI ht (by omega), ?_⟩)
        rw [e2, hv]
        exact wx_startMeth hm (by omega) (hnh (by omega) (by omega)) hms (h2 f1 rfl (by omega))
  exact br_f (by decide) (br_f (by decide) (br_f (by decide) (br_f (by decide) (br_f (by decide) (br_f (by decide) (br_f (by decide) (br_f (by decide) (br_f (by decide) (br_f (by decide) (br_f (by decide) (br_f (by decide) (br_f (by decide) (br_f (by decide) (br_f (by decide) (br_t (by decide) (B))))))))))))))))
theorem wx_value {kk v : Int32} {tb hb fl : Nat} (hp : p < 128) (hq : q < 16) (hf : fl < 256) (hK : hv_K (pV p) kk v) (hbl : kk = 1 → pV p = hv_b tb hb ∧ tb < 128 ∧ hb < 256)
    (ht : kk = 0 → K (xn, xm, 4, xr, xpn, nI fl, xd, nI (q + 1), xh, nI p, xt, xv, xy, tk, tv, af, dp, ib, ms, pr, gl, aH, aP, aB, lo, hP, pT, pL, pV)) (h0 : kk = 1 → fl = 0 → K (xn, xm, 3, xr, xpn, nI 0, xd, nI (q + 1), xh, nI p, xt, xv, xy, tk, tv, af, dp, ib, ms, pr, gl, aH, aP, aB, lo, hP, pT, pL, pV)) (h1 : kk = 1 → ∀ f1, fl = f1 + 1 → q + 1 = 16 → K (xn, xm, 5, xr, xpn, nI f1, xd, nI (q + 1), xh, nI p, xt, xv, xy, tk, tv, af, dp, ib, ms, pr, gl, aH, aP, aB, lo, hP, pT, pL, pV))
    (h2 : kk = 1 → ∀ f1, fl = f1 + 1 → q + 1 < 16 → K (xn, xm, xo, xr, xpn, nI f1, wk_mx xd (nI (q + 1 + 1)), nI (q + 1 + 1), xh, nI p, nI (tb + 1), xv, 0, tk, tv, af, dp, ib, ms, pr, gl, upd aH (q + 1) (nI hb), vp_updL aP (q + 1) xv, upd aB (q + 1) (nI p), lo, hP, pT, pL, pV)) : wX_resumeToken_67 K (nI p) (nI t) (nI 14) xn xm xo xr xpn (nI fl) xd (nI (q + 1)) xh (nI (p + 1)) xt xv xy tk tv af dp ib ms pr gl aH aP aB lo hP pT pL pV := by
  have e1 : (nI p).toNatClampNeg = p := nI_clamp (by omega)
  have B : wpX_startBlock K (xn, xm, xo, xr, xpn, nI fl, xd, nI (q + 1), xh, nI p, xt, xv, xy, tk, tv, af, dp, ib, ms, pr, gl, aH, aP, aB, lo, hP, pT, pL, pV) (pV (nI p).toNatClampNeg) xv := by
    rw [e1]
    unfold wpX_startBlock
    refine wx_kind hK ?_
    rcases hK.2 with ⟨z, -⟩ | ⟨z, -⟩
    · exact br_t z (ht z)
    · refine br_f (by rw [z]; decide) ?_
      obtain ⟨b1, b2, b3⟩ := hbl z
      cases fl with
      | zero => exact wx_may0 (br_t rfl (h0 z rfl))
      | succ f1 =>
        by_cases y : q + 1 = 16
        · exact wx_may1 (by omega) y (br_t rfl (h1 z f1 rfl y))
        · refine wx_may2 (by omega) (by omega) (br_f (by decide) ⟨vp_in_nI (by omega) (by omega), nm_r (show _ = vp_updL aP (q + 1) xv by rw [nI_clamp (by omega)]) ?_⟩)
          unfold wpX_homeOf
          rw [b1, hv_h_b (by omega) (by omega), hv_l_b (by omega) (by omega)]
          refine wx_startAct (by omega) ?_
          show K (xn, xm, xo, xr, xpn, nI f1, wk_mx xd (nI (q + 1 + 1)), nI (q + 1 + 1), xh, nI p, nI tb + 1, xv, 0, tk, tv, af, dp, ib, ms, pr, gl, upd aH (q + 1) (nI hb), vp_updL aP (q + 1) xv, upd aB (q + 1) (nI p), lo, hP, pT, pL, pV)
          rw [nI_1 tb]
          exact h2 z f1 rfl (by omega)
  exact br_f (by decide) (br_f (by decide) (br_f (by decide) (br_f (by decide) (br_f (by decide) (br_f (by decide) (br_f (by decide) (br_f (by decide) (br_f (by decide) (br_f (by decide) (br_f (by decide) (br_f (by decide) (br_f (by decide) (br_f (by decide) (br_t (by decide) (⟨vp_in_nI hp (by omega), B⟩)))))))))))))))
theorem wx_ret0 {h0 : Nat} (hq : q < 16) (hh0 : h0 < 256) (hh : aH q = nI h0) (hz : hP h0 = -1) (h1 : K (xn, xm, 2, xr, xpn, xf, xd, nI (q + 1), xh, nI p, xt, xv, xy, tk, tv, af, dp, ib, ms, pr, gl, aH, aP, aB, lo, hP, pT, pL, pV)) : wX_resumeToken_67 K (nI p) (nI t) (nI 16) xn xm xo xr xpn xf xd (nI (q + 1)) xh (nI (p + 1)) xt xv xy tk tv af dp ib ms pr gl aH aP aB lo hP pT pL pV := by
  have e4 : nI (q + 1) - 1 = nI q := nI_pred q
  have e5 : (nI q).toNatClampNeg = q := nI_clamp (by omega)
  have e6 : (nI h0).toNatClampNeg = h0 := nI_clamp (by omega)
  have B : wpX_returnToHome K (xn, xm, xo, xr, xpn, xf, xd, nI (q + 1), xh, nI p, xt, xv, xy, tk, tv, af, dp, ib, ms, pr, gl, aH, aP, aB, lo, hP, pT, pL, pV) := by
    unfold wpX_returnToHome
    exact ⟨by rw [e4]; exact vp_in_nI hq (by omega), by rw [e4, e5, hh]; exact vp_in_nI hh0 (by omega), nm_r (show _ = hP h0 by rw [e4, e5, hh, e6]) (br_t hz h1)⟩
  exact br_f (by decide) (br_f (by decide) (br_f (by decide) (br_f (by decide) (br_f (by decide) (br_f (by decide) (br_f (by decide) (br_f (by decide) (br_f (by decide) (br_f (by decide) (br_f (by decide) (br_f (by decide) (br_f (by decide) (br_f (by decide) (br_f (by decide) (br_f (by decide) (br_t (by decide) (B)))))))))))))))))
theorem wx_ret1 {h0 r : Nat} (hq : q < 16) (hh0 : h0 < 256) (hh : aH q = nI h0) (hH : ∀ e, e ≤ q → ∃ h, h < 256 ∧ aH e = nI h) (hr : r ≤ q) (hz : hP h0 = nI r)
    (h0' : r = 0 → K (xn, xm, 1, xv, xpn, xf, xd, nI r, xh, aB r, xt, xv, xy, tk, tv, af, dp, ib, ms, pr, gl, aH, aP, aB, lo, hx_end aH r (q + 1) hP, pT, pL, pV)) (h1' : r ≠ 0 → K (xn, xm, xo, xr, xpn, xf, xd, nI r, xh, aB r, xt, xv, xy, tk, tv, af, dp, ib, ms, pr, gl, aH, aP, aB, lo, hx_end aH r (q + 1) hP, pT, pL, pV)) : wX_resumeToken_67 K (nI p) (nI t) (nI 16) xn xm xo xr xpn xf xd (nI (q + 1)) xh (nI (p + 1)) xt xv xy tk tv af dp ib ms pr gl aH aP aB lo hP pT pL pV := by
  have e4 : nI (q + 1) - 1 = nI q := nI_pred q
  have e5 : (nI q).toNatClampNeg = q := nI_clamp (by omega)
  have e6 : (nI h0).toNatClampNeg = h0 := nI_clamp (by omega)
  have ne : nI r ≠ -1 := fun e => nI_pos (n := r) (by omega) (by rw [e]; decide)
  have B : wpX_returnToHome K (xn, xm, xo, xr, xpn, xf, xd, nI (q + 1), xh, nI p, xt, xv, xy, tk, tv, af, dp, ib, ms, pr, gl, aH, aP, aB, lo, hP, pT, pL, pV) := by
    unfold wpX_returnToHome
    exact ⟨by rw [e4]; exact vp_in_nI hq (by omega), by rw [e4, e5, hh]; exact vp_in_nI hh0 (by omega), nm_r (show _ = nI r by rw [e4, e5, hh, e6, hz]) (br_f ne (wx_returnFrom hq hr hH h0' h1'))⟩
  exact br_f (by decide) (br_f (by decide) (br_f (by decide) (br_f (by decide) (br_f (by decide) (br_f (by decide) (br_f (by decide) (br_f (by decide) (br_f (by decide) (br_f (by decide) (br_f (by decide) (br_f (by decide) (br_f (by decide) (br_f (by decide) (br_f (by decide) (br_f (by decide) (br_t (by decide) (B)))))))))))))))))
end
/-! the loop of X -/
def wk_ev (K : SX → Prop) (n : Nat) (s : Int32) (u : SX) : Prop := match u with | (xn, xm, xo, xr, xpn, xf, xd, xa, xh, xp, xt, xv, xy, tk, tv, af, dp, ib, ms, pr, gl, aH, aP, aB, lo, hP, pT, pL, pV) => wX_evaluate_2 K n s xn xm xo xr xpn xf xd xa xh xp xt xv xy tk tv af dp ib ms pr gl aH aP aB lo hP pT pL pV
def wk_XGo (s : Nat) (u uf : SX) : Prop := ∀ K : SX → Prop, K uf → ∃ n, wk_ev K n (nI s) u
section
variable {xn xm xo xpn xf xd xa xh xp xt xy : Int32} {xr xv : Int64} {tk tv af dp ib ms aH aB hP pT pL : Nat → Int32} {pr gl aP lo pV : Nat → Int64} {u' uf : SX} {s q : Nat}
theorem wk_xa (hs : s < 1000000) (hb : ∀ K : SX → Prop, K u' → wpX_beginToken K (xn, xm, 0, xr, xpn, xf, xd, xa, xh, xp, xt, xv, 0, tk, tv, af, dp, ib, ms, pr, gl, aH, aP, aB, lo, hP, pT, pL, pV)) (h : wk_XGo (s + 1) u' uf) : wk_XGo s (xn, xm, 0, xr, xpn, xf, xd, xa, xh, xp, xt, xv, 0, tk, tv, af, dp, ib, ms, pr, gl, aH, aP, aB, lo, hP, pT, pL, pV) uf := by
  intro K hK
  obtain ⟨n, hn⟩ := h K hK
  obtain ⟨wn', wm', wo', wr', wpn', wf', wd', wa', wh', wp', wt', wv', wy', wtk', wtv', waf', wdp', wib', wms', wpr', wgl', waH', waP', waB', wlo', whP', wpT', wpL', wpV'⟩ := u'
  refine ⟨n + 1, ?_⟩
  exact br_f (nI_ge (b := 1000000) hs (by decide)) (br_t rfl (br_t rfl (hb _ (nm_r (nI_1 s) hn))))
theorem wk_xb (hs : s < 1000000) (hq : q < 16) (hpe : ¬ xp ≤ aB q) (hb : ∀ K : SX → Prop, K u' → wpX_resumeToken K (xn, xm, 0, xr, xpn, xf, xd, nI (q + 1), xh, xp, xt, xv, 1, tk, tv, af, dp, ib, ms, pr, gl, aH, aP, aB, lo, hP, pT, pL, pV)) (h : wk_XGo (s + 1) u' uf) : wk_XGo s (xn, xm, 0, xr, xpn, xf, xd, nI (q + 1), xh, xp, xt, xv, 1, tk, tv, af, dp, ib, ms, pr, gl, aH, aP, aB, lo, hP, pT, pL, pV) uf := by
  have e4 : nI (q + 1) - 1 = nI q := nI_pred q
  have e5 : (nI q).toNatClampNeg = q := nI_clamp (by omega)
  intro K hK
  obtain ⟨n, hn⟩ := h K hK
  obtain ⟨wn', wm', wo', wr', wpn', wf', wd', wa', wh', wp', wt', wv', wy', wtk', wtv', waf', wdp', wib', wms', wpr', wgl', waH', waP', waB', wlo', whP', wpT', wpL', wpV'⟩ := u'
  refine ⟨n + 1, ?_⟩
  exact br_f (nI_ge (b := 1000000) hs (by decide)) (br_t rfl (br_f (by decide) ⟨by rw [e4]; exact vp_in_nI hq (by omega), br_f (by rw [e4, e5]; exact hpe) (hb _ (nm_r (nI_1 s) hn))⟩))
theorem wk_xr (hs : s < 1000000) (hq : q < 16) (hpe : xp ≤ aB q) (hb : ∀ K : SX → Prop, K u' → wpX_returnFrom K (xn, xm, 0, xr, xpn, xf, xd, nI (q + 1), xh, xp, xt, xv, 1, tk, tv, af, dp, ib, ms, pr, gl, aH, aP, aB, lo, hP, pT, pL, pV) (nI q)) (h : wk_XGo (s + 1) u' uf) : wk_XGo s (xn, xm, 0, xr, xpn, xf, xd, nI (q + 1), xh, xp, xt, xv, 1, tk, tv, af, dp, ib, ms, pr, gl, aH, aP, aB, lo, hP, pT, pL, pV) uf := by
  have e4 : nI (q + 1) - 1 = nI q := nI_pred q
  have e5 : (nI q).toNatClampNeg = q := nI_clamp (by omega)
  intro K hK
  obtain ⟨n, hn⟩ := h K hK
  obtain ⟨wn', wm', wo', wr', wpn', wf', wd', wa', wh', wp', wt', wv', wy', wtk', wtv', waf', wdp', wib', wms', wpr', wgl', waH', waP', waB', wlo', whP', wpT', wpL', wpV'⟩ := u'
  refine ⟨n + 1, ?_⟩
  exact br_f (nI_ge (b := 1000000) hs (by decide)) (br_t rfl (br_f (by decide) ⟨by rw [e4]; exact vp_in_nI hq (by omega), br_t (by rw [e4, e5]; exact hpe) (by rw [e4]; exact hb _ (nm_r (nI_1 s) hn))⟩))
theorem wk_xe (hs : s < 1000000) (ho : xo ≠ 0) : wk_XGo s (xn, xm, xo, xr, xpn, xf, xd, xa, xh, xp, xt, xv, xy, tk, tv, af, dp, ib, ms, pr, gl, aH, aP, aB, lo, hP, pT, pL, pV) (xn, xm, xo, xr, xpn, xf, xd, xa, xh, xp, xt, xv, xy, tk, tv, af, dp, ib, ms, pr, gl, aH, aP, aB, lo, hP, pT, pL, pV) := by
  intro K hK
  exact ⟨1, br_f (nI_ge (b := 1000000) hs (by decide)) (br_f ho hK)⟩
end
end
section
theorem pk_uu {g : Nat → Int32} {i : Nat} {x y : Int32} : upd (upd g i x) i y = upd g i y := by
  funext j
  by_cases e : j = i
  · subst e; rw [pk_us, pk_us]
  · rw [pk_un e, pk_un e, pk_un e]
def wk_z4 (g : Nat → Int32) (i : Nat) : Nat → Int32 := upd (upd (upd (upd g i 0) (i + 1) 0) (i + 2) 0) (i + 3) 0
theorem wk_ar (r m : Nat) : nI (r + 1) + (nI m - 1) = nI (r + m) := by
  rw [nI_succ, ← nI_add r m]; grind
section
variable {yn yr ym yo yrk yrv ypn yf yd ya yac yw yv y1 y2 y3 : Int32} {tk tv pk pv gk gv gh cn cd cD cP lk lv lh yH yPk yPv yPh yM yA wt wa ws wb wx vk vv vh : Nat → Int32} {K : SY → Prop} {N n vb : Nat}
theorem wy_pushV {a b c : Int32} (hv : vb < 512) (h : K (yn, yr, ym, yo, yrk, yrv, ypn, yf, yd, ya, yac, yw, nI (vb + 1), y1, y2, y3, tk, tv, pk, pv, gk, gv, gh, cn, cd, cD, cP, lk, lv, lh, yH, yPk, yPv, yPh, yM, yA, wt, wa, ws, wb, wx, upd vk vb a, upd vv vb b, upd vh vb c)) : wpY_pushV K (yn, yr, ym, yo, yrk, yrv, ypn, yf, yd, ya, yac, yw, nI vb, y1, y2, y3, tk, tv, pk, pv, gk, gv, gh, cn, cd, cD, cP, lk, lv, lh, yH, yPk, yPv, yPh, yM, yA, wt, wa, ws, wb, wx, vk, vv, vh) a b c := by
  have e : (nI vb).toNatClampNeg = vb := nI_clamp (by omega)
  have i : vp_in (nI vb) 512 := vp_in_nI hv (by omega)
  unfold wpY_pushV
  exact br_f (nI_ge (b := 512) hv (by decide)) ⟨i, nm_r (congrArg (fun i => upd vk i a) e) ⟨i, nm_r (congrArg (fun i => upd vv i b) e) ⟨i, nm_r (congrArg (fun i => upd vh i c) e) (nm_r (nI_1 vb) h)⟩⟩⟩
theorem wy_popV (hv : vb < 512) (h : K (yn, yr, ym, yo, yrk, yrv, ypn, yf, yd, ya, yac, yw, nI vb, vk vb, vv vb, vh vb, tk, tv, pk, pv, gk, gv, gh, cn, cd, cD, cP, lk, lv, lh, yH, yPk, yPv, yPh, yM, yA, wt, wa, ws, wb, wx, vk, vv, vh)) : wpY_popV K (yn, yr, ym, yo, yrk, yrv, ypn, yf, yd, ya, yac, yw, nI (vb + 1), y1, y2, y3, tk, tv, pk, pv, gk, gv, gh, cn, cd, cD, cP, lk, lv, lh, yH, yPk, yPv, yPh, yM, yA, wt, wa, ws, wb, wx, vk, vv, vh) := by
  have e : (nI vb).toNatClampNeg = vb := nI_clamp (by omega)
  have i : vp_in (nI vb) 512 := vp_in_nI hv (by omega)
  unfold wpY_popV
  exact br_f (nI_nle (by omega) (by omega)) (nm_r (nI_pred vb) ⟨i, nm_r (congrArg vk e) ⟨i, nm_r (congrArg vv e) ⟨i, nm_r (congrArg vh e) h⟩⟩⟩)
theorem wy_pushW {a b : Int32} (hn : n < 256) (h : K (yn, yr, ym, yo, yrk, yrv, ypn, yf, yd, ya, yac, nI (n + 1), yv, y1, y2, y3, tk, tv, pk, pv, gk, gv, gh, cn, cd, cD, cP, lk, lv, lh, yH, yPk, yPv, yPh, yM, yA, upd wt n a, upd wa n b, upd ws n 0, upd wb n yv, upd wx n 0, vk, vv, vh)) : wpY_pushW K (yn, yr, ym, yo, yrk, yrv, ypn, yf, yd, ya, yac, nI n, yv, y1, y2, y3, tk, tv, pk, pv, gk, gv, gh, cn, cd, cD, cP, lk, lv, lh, yH, yPk, yPv, yPh, yM, yA, wt, wa, ws, wb, wx, vk, vv, vh) a b := by
  have e : (nI n).toNatClampNeg = n := nI_clamp (by omega)
  have i : vp_in (nI n) 256 := vp_in_nI hn (by omega)
  unfold wpY_pushW
  exact br_f (nI_ge (b := 256) hn (by decide)) ⟨i, nm_r (congrArg (fun i => upd wt i a) e) ⟨i, nm_r (congrArg (fun i => upd wa i b) e) ⟨i, nm_r (congrArg (fun i => upd ws i 0) e) ⟨i, nm_r (congrArg (fun i => upd wb i yv) e) ⟨i, nm_r (congrArg (fun i => upd wx i 0) e) (nm_r (nI_1 n) h)⟩⟩⟩⟩⟩
theorem wy_skip_key {post : Int32 → Prop} {f : Nat → Nat} (hT : hp_T tk tv N) (hN : N ≤ 128) (L : hc_Lk (hp_a tk) f 0 N) : ∀ d t r m, N - t ≤ d → r + 3 * d < 2 ^ 30 → t < N → wY_skipExpr_4 post (nI N) yr ym yo yrk yrv ypn yf yd ya yac yw yv y1 y2 y3 tk tv pk pv gk gv gh cn cd cD cP lk lv lh yH yPk yPv yPh yM yA wt wa ws wb wx vk vv vh m (nI r) (nI (f t)) → wY_skipExpr_4 post (nI N) yr ym yo yrk yrv ypn yf yd ya yac yw yv y1 y2 y3 tk tv pk pv gk gv gh cn cd cD cP lk lv lh yH yPk yPv yPh yM yA wt wa ws wb wx vk vv vh (m + (f t - t)) (nI (r + 1)) (nI t) := by
  intro d
  induction d with
  | zero => intro t r m h1 hr h2; omega
  | succ d ih =>
    intro t r m h1 hr h2 h
    have lt := hc_lt L (Nat.zero_le _) h2
    obtain ⟨k, k1, k2, -⟩ := hT t h2
    obtain ⟨Lq, Le⟩ := L t (Nat.zero_le _) h2
    have ea : hp_a tk t = hc_ar (nI k) := by unfold hp_a; rw [k2]
    have a33 : hp_a tk t ≤ 3 := hc_ar3 _
    have inner : ∀ j, j ≤ hp_a tk t → wY_skipExpr_4 post (nI N) yr ym yo yrk yrv ypn yf yd ya yac yw yv y1 y2 y3 tk tv pk pv gk gv gh cn cd cD cP lk lv lh yH yPk yPv yPh yM yA wt wa ws wb wx vk vv vh (m + (f t - hc_it f (hp_a tk t - j) (t + 1))) (nI (r + j)) (nI (hc_it f (hp_a tk t - j) (t + 1))) := by
      intro j
      induction j with
      | zero =>
        intro _
        rw [Nat.sub_zero, ← Le, Nat.sub_self]
        exact h
      | succ j ij =>
        intro hj
        have q := ij (by omega)
        have ej : hp_a tk t - j = hp_a tk t - (j + 1) + 1 := by omega
        have c1 := Lq (hp_a tk t - (j + 1)) (by omega)
        have c2 := hc_ch L (Nat.zero_le _) h2 (hp_a tk t - (j + 1)) (by omega)
        have c3 := hc_Ch_lt L (Nat.zero_le _) h2 ⟨hp_a tk t - (j + 1), by omega, rfl⟩
        rw [ej, hc_it_s] at q
        have w := ih (hc_it f (hp_a tk t - (j + 1)) (t + 1)) (r + j) _ (by omega) (by omega) c1 q
        have ef : m + (f t - f (hc_it f (hp_a tk t - (j + 1)) (t + 1))) + (f (hc_it f (hp_a tk t - (j + 1)) (t + 1)) - hc_it f (hp_a tk t - (j + 1)) (t + 1)) = m + (f t - hc_it f (hp_a tk t - (j + 1)) (t + 1)) := by omega
        rw [ef] at w
        exact w
    have w := inner (hp_a tk t) (Nat.le_refl _)
    rw [Nat.sub_self] at w
    have w' : wY_skipExpr_4 post (nI N) yr ym yo yrk yrv ypn yf yd ya yac yw yv y1 y2 y3 tk tv pk pv gk gv gh cn cd cD cP lk lv lh yH yPk yPv yPh yM yA wt wa ws wb wx vk vv vh (m + (f t - (t + 1))) (nI (r + hp_a tk t)) (nI (t + 1)) := w
    have en : m + (f t - t) = m + (f t - (t + 1)) + 1 := by omega
    have et : tk (nI t).toNatClampNeg = nI k := by rw [nI_clamp (by omega)]; exact k2
    have a3 := hc_ar3 (nI k)
    rw [en]
    refine br_f (nI_nle (by omega) (by omega)) (br_f (nI_pos (by omega)) (br_f (nI_ge h2 (by omega)) ⟨vp_in_nI (by omega) (by omega), ?_⟩))
    rw [et]
    refine wy_arity k1 (nm_r (wk_ar r _) (nm_r (nI_1 t) ?_))
    rw [← ea]; exact w'
theorem wy_skip {post : Int32 → Prop} {f : Nat → Nat} (hT : hp_T tk tv N) (hN : N ≤ 128) (L : hc_Lk (hp_a tk) f 0 N) {t : Nat} (ht : t < N) (h : post (nI (f t))) : wpY_skipExpr post (nI N, yr, ym, yo, yrk, yrv, ypn, yf, yd, ya, yac, yw, yv, y1, y2, y3, tk, tv, pk, pv, gk, gv, gh, cn, cd, cD, cP, lk, lv, lh, yH, yPk, yPv, yPh, yM, yA, wt, wa, ws, wb, wx, vk, vv, vh) (nI t) := by
  unfold wpY_skipExpr
  exact ⟨_, wy_skip_key (post := post) hT hN L _ t 0 1 (Nat.le_refl _) (by omega) ht (br_t (by decide) h)⟩
theorem wy_mst {post : Int32 → Prop} {f : Nat → Nat} (hT : hp_T tk tv N) (hN : N ≤ 128) (L : hc_Lk (hp_a tk) f 0 N) {m : Nat} (hm : m < 8) (hr : ∀ k, k < m → hc_it f k 0 < N) (h : post (nI (hc_it f m 0))) : wpY_methodStart post (nI N, yr, ym, yo, yrk, yrv, ypn, yf, yd, ya, yac, yw, yv, y1, y2, y3, tk, tv, pk, pv, gk, gv, gh, cn, cd, cD, cP, lk, lv, lh, yH, yPk, yPv, yPh, yM, yA, wt, wa, ws, wb, wx, vk, vv, vh) (nI m) := by
  have key : ∀ d k, k + d = m → wY_methodStart_4 post (nI m) (nI N) yr ym yo yrk yrv ypn yf yd ya yac yw yv y1 y2 y3 tk tv pk pv gk gv gh cn cd cD cP lk lv lh yH yPk yPv yPh yM yA wt wa ws wb wx vk vv vh (d + 1) (nI (hc_it f k 0)) (nI k) := by
    intro d
    induction d with
    | zero =>
      intro k hk
      have e : k = m := by omega
      subst e
      exact br_t (nI_le (Nat.le_refl _) (by omega)) h
    | succ d ih =>
      intro k hk
      refine br_f (nI_ge (by omega) (by omega)) (br_f (nI_ge (b := 8) (by omega) (by decide)) (wy_skip hT hN L (hr k (by omega)) (nm_r (nI_1 k) ?_)))
      have w := ih (k + 1) (by omega)
      rw [hc_it_s] at w
      exact w
  unfold wpY_methodStart
  exact ⟨_, key m 0 (by omega)⟩
end
section
variable {yn yr ym yo yrk yrv ypn yf yd ya yac yw yv y1 y2 y3 : Int32} {tk tv pk pv gk gv gh cn cd cD cP lk lv lh yH yPk yPv yPh yM yA wt wa ws wb wx vk vv vh : Nat → Int32} {K : Int32 → SY → Prop} {n vb : Nat}
theorem wk_194 {an na : Nat} (han : an < 256) (h : K (nI an) (yn, yr, ym, yo, yrk, yrv, ypn, yf, wk_mx yd (nI (na + 1)), ya, nI (na + 1), yw, yv, y1, y2, y3, tk, tv, pk, pv, gk, gv, gh, cn, cd, cD, cP, lk, lv, lh, yH, yPk, yPv, yPh, yM, upd yA an 1, wt, wa, ws, wb, wx, vk, vv, vh)) : wY_newAct_194 K (nI an) yn yr ym yo yrk yrv ypn yf yd ya (nI na) yw yv y1 y2 y3 tk tv pk pv gk gv gh cn cd cD cP lk lv lh yH yPk yPv yPh yM yA wt wa ws wb wx vk vv vh := by
  have e : (nI an).toNatClampNeg = an := nI_clamp (by omega)
  have i : vp_in (nI an) 256 := vp_in_nI han (by omega)
  refine And.intro i (nm_r (show _ = upd yA an 1 by rw [e, wk_b1]) (nm_r (nI_1 na) ?_))
  unfold wk_mx at h
  by_cases z : nI (na + 1) ≤ yd
  · rw [if_pos z] at h; exact br_t z h
  · rw [if_neg z] at h; exact br_f z h
theorem wk_54 {an na : Nat} {x1 k v hh : Int32} (han : an < 256)
    (h0 : x1 = 0 → K (nI an) (yn, yr, ym, yo, yrk, yrv, ypn, yf, wk_mx yd (nI (na + 1)), ya, nI (na + 1), yw, yv, y1, y2, y3, tk, tv, pk, pv, gk, gv, gh, cn, cd, cD, cP, wk_z4 lk (an * 4), wk_z4 lv (an * 4), wk_z4 lh (an * 4), yH, upd yPk an k, upd yPv an v, upd yPh an hh, yM, upd yA an 1, wt, wa, ws, wb, wx, vk, vv, vh))
    (h1 : x1 ≠ 0 → K (nI an) (yn, yr, ym, yo, yrk, yrv, ypn, yf, wk_mx yd (nI (na + 1)), ya, nI (na + 1), yw, yv, y1, y2, y3, tk, tv, pk, pv, gk, gv, gh, cn, cd, cD, cP, upd (wk_z4 lk (an * 4)) (an * 4) k, upd (wk_z4 lv (an * 4)) (an * 4) v, upd (wk_z4 lh (an * 4)) (an * 4) hh, yH, upd yPk an 0, upd yPv an 0, upd yPh an 0, yM, upd yA an 1, wt, wa, ws, wb, wx, vk, vv, vh)) :
    wY_newAct_54 K x1 k v hh (nI an) yn yr ym yo yrk yrv ypn yf yd ya (nI na) yw yv y1 y2 y3 5 0 tk tv pk pv gk gv gh cn cd cD cP lk lv lh yH yPk yPv yPh yM yA wt wa ws wb wx vk vv vh := by
  have e : (nI an).toNatClampNeg = an := nI_clamp (by omega)
  have i : vp_in (nI an) 256 := vp_in_nI han (by omega)
  have m4 : nI an * 4 = nI (an * 4) := wk_m4 an
  have e4 : (nI (an * 4)).toNatClampNeg = an * 4 := nI_clamp (by omega)
  have i4 : vp_in (nI (an * 4)) 1024 := vp_in_nI (by omega) (by omega)
  have st : ∀ j, j < 4 → vp_in (nI an * 4 + nI j) 1024 ∧ (nI an * 4 + nI j).toNatClampNeg = an * 4 + j := fun j hj => by
    rw [wk_ix]; exact ⟨vp_in_nI (by omega) (by omega), nI_clamp (by omega)⟩
  obtain ⟨p0, c0⟩ := st 0 (by omega)
  obtain ⟨p1, c1⟩ := st 1 (by omega)
  obtain ⟨p2, c2⟩ := st 2 (by omega)
  obtain ⟨p3, c3⟩ := st 3 (by omega)
  unfold wk_z4 at h0 h1
  refine br_f (by decide) ⟨p0, nm_r (congrArg (fun i => upd lk i 0) c0) ⟨p0, nm_r (congrArg (fun i => upd lv i 0) c0) ⟨p0, nm_r (congrArg (fun i => upd lh i 0) c0) (nm_r (show (0 : Int32) + 1 = 1 by decide) ?_)⟩⟩⟩
  refine br_f (by decide) ⟨p1, nm_r (congrArg (fun i => upd (upd lk (an * 4 + 0) 0) i 0) c1) ⟨p1, nm_r (congrArg (fun i => upd (upd lv (an * 4 + 0) 0) i 0) c1) ⟨p1, nm_r (congrArg (fun i => upd (upd lh (an * 4 + 0) 0) i 0) c1) (nm_r (show (1 : Int32) + 1 = 2 by decide) ?_)⟩⟩⟩
  refine br_f (by decide) ⟨p2, nm_r (congrArg (fun i => upd (upd (upd lk (an * 4 + 0) 0) (an * 4 + 1) 0) i 0) c2) ⟨p2, nm_r (congrArg (fun i => upd (upd (upd lv (an * 4 + 0) 0) (an * 4 + 1) 0) i 0) c2) ⟨p2, nm_r (congrArg (fun i => upd (upd (upd lh (an * 4 + 0) 0) (an * 4 + 1) 0) i 0) c2) (nm_r (show (2 : Int32) + 1 = 3 by decide) ?_)⟩⟩⟩
  refine br_f (by decide) ⟨p3, nm_r (congrArg (fun i => upd (upd (upd (upd lk (an * 4 + 0) 0) (an * 4 + 1) 0) (an * 4 + 2) 0) i 0) c3) ⟨p3, nm_r (congrArg (fun i => upd (upd (upd (upd lv (an * 4 + 0) 0) (an * 4 + 1) 0) (an * 4 + 2) 0) i 0) c3) ⟨p3, nm_r (congrArg (fun i => upd (upd (upd (upd lh (an * 4 + 0) 0) (an * 4 + 1) 0) (an * 4 + 2) 0) i 0) c3) (nm_r (show (3 : Int32) + 1 = 4 by decide) ?_)⟩⟩⟩
  refine br_t (by decide) ⟨i, nm_r (congrArg (fun i => upd yPk i 0) e) ⟨i, nm_r (congrArg (fun i => upd yPv i 0) e) ⟨i, nm_r (congrArg (fun i => upd yPh i 0) e) ?_⟩⟩⟩
  by_cases z : x1 = 0
  · exact br_t z ⟨i, nm_r (show _ = upd yPk an k by rw [e, pk_uu]) ⟨i, nm_r (show _ = upd yPv an v by rw [e, pk_uu]) ⟨i, nm_r (show _ = upd yPh an hh by rw [e, pk_uu]) (wk_194 han (h0 z))⟩⟩⟩
  · refine br_f z ⟨by rw [m4]; exact i4, nm_r (congrArg (fun i => upd (upd (upd (upd (upd lk (an * 4 + 0) 0) (an * 4 + 1) 0) (an * 4 + 2) 0) (an * 4 + 3) 0) i k) (show (nI an * 4).toNatClampNeg = an * 4 by rw [m4]; exact e4)) ⟨by rw [m4]; exact i4, nm_r (congrArg (fun i => upd (upd (upd (upd (upd lv (an * 4 + 0) 0) (an * 4 + 1) 0) (an * 4 + 2) 0) (an * 4 + 3) 0) i v) (show (nI an * 4).toNatClampNeg = an * 4 by rw [m4]; exact e4)) ⟨by rw [m4]; exact i4, nm_r (congrArg (fun i => upd (upd (upd (upd (upd lh (an * 4 + 0) 0) (an * 4 + 1) 0) (an * 4 + 2) 0) (an * 4 + 3) 0) i hh) (show (nI an * 4).toNatClampNeg = an * 4 by rw [m4]; exact e4)) (wk_194 han (h1 z))⟩⟩⟩
theorem wy_newM {an na : Nat} {k v hh : Int32} (han : an < 256)
    (h : K (nI an) (yn, yr, ym, yo, yrk, yrv, ypn, yf, wk_mx yd (nI (na + 1)), nI (an + 1), nI (na + 1), yw, yv, y1, y2, y3, tk, tv, pk, pv, gk, gv, gh, cn, cd, cD, cP, upd (wk_z4 lk (an * 4)) (an * 4) k, upd (wk_z4 lv (an * 4)) (an * 4) v, upd (wk_z4 lh (an * 4)) (an * 4) hh, upd yH an (nI an), upd yPk an 0, upd yPv an 0, upd yPh an 0, upd yM an 1, upd yA an 1, wt, wa, ws, wb, wx, vk, vv, vh)) :
    wpY_newAct K (yn, yr, ym, yo, yrk, yrv, ypn, yf, yd, nI an, nI na, yw, yv, y1, y2, y3, tk, tv, pk, pv, gk, gv, gh, cn, cd, cD, cP, lk, lv, lh, yH, yPk, yPv, yPh, yM, yA, wt, wa, ws, wb, wx, vk, vv, vh) 1 0 k v hh := by
  have e : (nI an).toNatClampNeg = an := nI_clamp (by omega)
  have i : vp_in (nI an) 256 := vp_in_nI han (by omega)
  unfold wpY_newAct
  exact nm_r (nI_1 an) ⟨i, nm_r (show _ = upd yM an 1 by rw [e, wk_b1]) (br_f (by decide) ⟨i, nm_r (congrArg (fun i => upd yH i (nI an)) e) ⟨5, wk_54 han (fun z => absurd z (by decide)) (fun _ => h)⟩⟩)⟩
theorem wy_newB {an na h0 : Nat} {k v hh x9 : Int32} (han : an < 256) (hh0 : h0 < an) (hx9 : x9 = nI h0)
    (h : K (nI an) (yn, yr, ym, yo, yrk, yrv, ypn, yf, wk_mx yd (nI (na + 1)), nI (an + 1), nI (na + 1), yw, yv, y1, y2, y3, tk, tv, pk, pv, gk, gv, gh, cn, cd, cD, cP, wk_z4 lk (an * 4), wk_z4 lv (an * 4), wk_z4 lh (an * 4), upd yH an (nI h0), upd yPk an k, upd yPv an v, upd yPh an hh, upd yM an 0, upd yA an 1, wt, wa, ws, wb, wx, vk, vv, vh)) :
    wpY_newAct K (yn, yr, ym, yo, yrk, yrv, ypn, yf, yd, nI an, nI na, yw, yv, y1, y2, y3, tk, tv, pk, pv, gk, gv, gh, cn, cd, cD, cP, lk, lv, lh, yH, yPk, yPv, yPh, yM, yA, wt, wa, ws, wb, wx, vk, vv, vh) 0 x9 k v hh := by
  subst hx9
  have e : (nI an).toNatClampNeg = an := nI_clamp (by omega)
  have i : vp_in (nI an) 256 := vp_in_nI han (by omega)
  unfold wpY_newAct
  exact nm_r (nI_1 an) ⟨i, nm_r (show _ = upd yM an 0 by rw [e, wk_b0]) (br_t rfl (br_f (nI_pos (by omega)) (br_t (nI_lt hh0 (by omega)) ⟨i, nm_r (congrArg (fun i => upd yH i (nI h0)) e) ⟨5, wk_54 han (fun _ => h) (fun z => absurd rfl z)⟩⟩)))⟩
end
end
section
section
variable {yn yr ym yo yrk yrv ypn yf yd ya yac yw yv y1 y2 y3 : Int32} {tk tv pk pv gk gv gh cn cd cD cP lk lv lh yH yPk yPv yPh yM yA wt wa ws wb wx vk vv vh : Nat → Int32} {K : Int32 → SY → Prop} {N n vb t ac : Nat}
/-! one step of Y: what has its value at once -/
theorem wy_num (hn : n < 255) (ht : t < N) (hN : N ≤ 128) (hac : ac < 256) (h1 : wt n = nI t) (h2 : wa n = nI ac) (hk : tk t = nI 0) (hv : vb < 512) (h : K 0 (nI N, yr, ym, yo, yrk, yrv, ypn, yf, yd, ya, yac, nI n, nI (vb + 1), y1, y2, y3, tk, tv, pk, pv, gk, gv, gh, cn, cd, cD, cP, lk, lv, lh, yH, yPk, yPv, yPh, yM, yA, wt, wa, ws, wb, wx, upd vk vb (0), upd vv vb (tv t), upd vh vb (0))) : wpY_step K (nI N, yr, ym, yo, yrk, yrv, ypn, yf, yd, ya, yac, nI (n + 1), nI vb, y1, y2, y3, tk, tv, pk, pv, gk, gv, gh, cn, cd, cD, cP, lk, lv, lh, yH, yPk, yPv, yPh, yM, yA, wt, wa, ws, wb, wx, vk, vv, vh) := by
  have e1 : (nI n).toNatClampNeg = n := nI_clamp (by omega)
  have e2 : (nI t).toNatClampNeg = t := nI_clamp (by omega)
  have e3 : (nI ac).toNatClampNeg = ac := nI_clamp (by omega)
  have i1 : vp_in (nI n) 256 := vp_in_nI (by omega) (by omega)
  have i2 : vp_in (nI t) 128 := vp_in_nI (by omega) (by omega)
  have i3 : vp_in (nI ac) 256 := vp_in_nI hac (by omega)
  unfold wpY_step
  refine nm_r (nI_pred n) ⟨i1, nm_r (show _ = nI t by rw [e1, h1]) ⟨i1, nm_r (show _ = nI ac by rw [e1, h2]) ⟨i1, nm_r (show _ = ws n by rw [e1]) (br_f (nI_pos (by omega)) (br_t (nI_lt ht (by omega)) ⟨i2, nm_r (show _ = nI 0 by rw [e2, hk]) ⟨i2, nm_r (congrArg tv e2) ⟨i3, nm_r (congrArg yH e3) ?_⟩⟩⟩))⟩⟩⟩
  exact br_t (by decide) (wy_pushV hv (nm_r (nI_pred n) h))
theorem wy_var (hn : n < 255) (ht : t < N) (hN : N ≤ 128) (hac : ac < 256) (h1 : wt n = nI t) (h2 : wa n = nI ac) (hk : tk t = nI 1) {h0 j : Nat} (hv : vb < 512) (hh : yH ac = nI h0) (hj : tv t = nI j) (hi : h0 * 4 + j < 1024) (h : K 0 (nI N, yr, ym, yo, yrk, yrv, ypn, yf, yd, ya, yac, nI n, nI (vb + 1), y1, y2, y3, tk, tv, pk, pv, gk, gv, gh, cn, cd, cD, cP, lk, lv, lh, yH, yPk, yPv, yPh, yM, yA, wt, wa, ws, wb, wx, upd vk vb (lk (h0 * 4 + j)), upd vv vb (lv (h0 * 4 + j)), upd vh vb (lh (h0 * 4 + j)))) : wpY_step K (nI N, yr, ym, yo, yrk, yrv, ypn, yf, yd, ya, yac, nI (n + 1), nI vb, y1, y2, y3, tk, tv, pk, pv, gk, gv, gh, cn, cd, cD, cP, lk, lv, lh, yH, yPk, yPv, yPh, yM, yA, wt, wa, ws, wb, wx, vk, vv, vh) := by
  have e1 : (nI n).toNatClampNeg = n := nI_clamp (by omega)
  have e2 : (nI t).toNatClampNeg = t := nI_clamp (by omega)
  have e3 : (nI ac).toNatClampNeg = ac := nI_clamp (by omega)
  have i1 : vp_in (nI n) 256 := vp_in_nI (by omega) (by omega)
  have i2 : vp_in (nI t) 128 := vp_in_nI (by omega) (by omega)
  have i3 : vp_in (nI ac) 256 := vp_in_nI hac (by omega)
  unfold wpY_step
  refine nm_r (nI_pred n) ⟨i1, nm_r (show _ = nI t by rw [e1, h1]) ⟨i1, nm_r (show _ = nI ac by rw [e1, h2]) ⟨i1, nm_r (show _ = ws n by rw [e1]) (br_f (nI_pos (by omega)) (br_t (nI_lt ht (by omega)) ⟨i2, nm_r (show _ = nI 1 by rw [e2, hk]) ⟨i2, nm_r (congrArg tv e2) ⟨i3, nm_r (congrArg yH e3) ?_⟩⟩⟩))⟩⟩⟩
  have B1 : vp_in (yH ac * 4 + tv t) 1024 := by rw [hh, hj, wk_ix]; exact vp_in_nI hi (by omega)
  have B2 : (yH ac * 4 + tv t).toNatClampNeg = h0 * 4 + j := by rw [hh, hj, wk_ix]; exact nI_clamp (by omega)
  exact br_f (by decide) (br_t (by decide) (⟨B1, B1, B1, by rw [B2]; exact wy_pushV hv (nm_r (nI_pred n) h)⟩))
theorem wy_glob (hn : n < 255) (ht : t < N) (hN : N ≤ 128) (hac : ac < 256) (h1 : wt n = nI t) (h2 : wa n = nI ac) (hk : tk t = nI 3) {j : Nat} (hv : vb < 512) (hj : tv t = nI j) (hi : j < 8) (h : K 0 (nI N, yr, ym, yo, yrk, yrv, ypn, yf, yd, ya, yac, nI n, nI (vb + 1), y1, y2, y3, tk, tv, pk, pv, gk, gv, gh, cn, cd, cD, cP, lk, lv, lh, yH, yPk, yPv, yPh, yM, yA, wt, wa, ws, wb, wx, upd vk vb (gk j), upd vv vb (gv j), upd vh vb (gh j))) : wpY_step K (nI N, yr, ym, yo, yrk, yrv, ypn, yf, yd, ya, yac, nI (n + 1), nI vb, y1, y2, y3, tk, tv, pk, pv, gk, gv, gh, cn, cd, cD, cP, lk, lv, lh, yH, yPk, yPv, yPh, yM, yA, wt, wa, ws, wb, wx, vk, vv, vh) := by
  have e1 : (nI n).toNatClampNeg = n := nI_clamp (by omega)
  have e2 : (nI t).toNatClampNeg = t := nI_clamp (by omega)
  have e3 : (nI ac).toNatClampNeg = ac := nI_clamp (by omega)
  have i1 : vp_in (nI n) 256 := vp_in_nI (by omega) (by omega)
  have i2 : vp_in (nI t) 128 := vp_in_nI (by omega) (by omega)
  have i3 : vp_in (nI ac) 256 := vp_in_nI hac (by omega)
  unfold wpY_step
  refine nm_r (nI_pred n) ⟨i1, nm_r (show _ = nI t by rw [e1, h1]) ⟨i1, nm_r (show _ = nI ac by rw [e1, h2]) ⟨i1, nm_r (show _ = ws n by rw [e1]) (br_f (nI_pos (by omega)) (br_t (nI_lt ht (by omega)) ⟨i2, nm_r (show _ = nI 3 by rw [e2, hk]) ⟨i2, nm_r (congrArg tv e2) ⟨i3, nm_r (congrArg yH e3) ?_⟩⟩⟩))⟩⟩⟩
  have B1 : vp_in (tv t) 8 := by rw [hj]; exact vp_in_nI hi (by omega)
  have B2 : (tv t).toNatClampNeg = j := by rw [hj]; exact nI_clamp (by omega)
  exact br_f (by decide) (br_f (by decide) (br_t (by decide) (⟨B1, B1, B1, by rw [B2]; exact wy_pushV hv (nm_r (nI_pred n) h)⟩)))
theorem wy_param (hn : n < 255) (ht : t < N) (hN : N ≤ 128) (hac : ac < 256) (h1 : wt n = nI t) (h2 : wa n = nI ac) (hk : tk t = nI 5) (hv : vb < 512) (h : K 0 (nI N, yr, ym, yo, yrk, yrv, ypn, yf, yd, ya, yac, nI n, nI (vb + 1), y1, y2, y3, tk, tv, pk, pv, gk, gv, gh, cn, cd, cD, cP, lk, lv, lh, yH, yPk, yPv, yPh, yM, yA, wt, wa, ws, wb, wx, upd vk vb (yPk ac), upd vv vb (yPv ac), upd vh vb (yPh ac))) : wpY_step K (nI N, yr, ym, yo, yrk, yrv, ypn, yf, yd, ya, yac, nI (n + 1), nI vb, y1, y2, y3, tk, tv, pk, pv, gk, gv, gh, cn, cd, cD, cP, lk, lv, lh, yH, yPk, yPv, yPh, yM, yA, wt, wa, ws, wb, wx, vk, vv, vh) := by
  have e1 : (nI n).toNatClampNeg = n := nI_clamp (by omega)
  have e2 : (nI t).toNatClampNeg = t := nI_clamp (by omega)
  have e3 : (nI ac).toNatClampNeg = ac := nI_clamp (by omega)
  have i1 : vp_in (nI n) 256 := vp_in_nI (by omega) (by omega)
  have i2 : vp_in (nI t) 128 := vp_in_nI (by omega) (by omega)
  have i3 : vp_in (nI ac) 256 := vp_in_nI hac (by omega)
  unfold wpY_step
  refine nm_r (nI_pred n) ⟨i1, nm_r (show _ = nI t by rw [e1, h1]) ⟨i1, nm_r (show _ = nI ac by rw [e1, h2]) ⟨i1, nm_r (show _ = ws n by rw [e1]) (br_f (nI_pos (by omega)) (br_t (nI_lt ht (by omega)) ⟨i2, nm_r (show _ = nI 5 by rw [e2, hk]) ⟨i2, nm_r (congrArg tv e2) ⟨i3, nm_r (congrArg yH e3) ?_⟩⟩⟩))⟩⟩⟩
  exact br_f (by decide) (br_f (by decide) (br_f (by decide) (br_t (by decide) (⟨i3, i3, i3, by rw [e3]; exact wy_pushV hv (nm_r (nI_pred n) h)⟩))))
theorem wy_block (hn : n < 255) (ht : t < N) (hN : N ≤ 128) (hac : ac < 256) (h1 : wt n = nI t) (h2 : wa n = nI ac) (hk : tk t = nI 13) (hv : vb < 512) (h : K 0 (nI N, yr, ym, yo, yrk, yrv, ypn, yf, yd, ya, yac, nI n, nI (vb + 1), y1, y2, y3, tk, tv, pk, pv, gk, gv, gh, cn, cd, cD, cP, lk, lv, lh, yH, yPk, yPv, yPh, yM, yA, wt, wa, ws, wb, wx, upd vk vb (1), upd vv vb (nI t), upd vh vb (yH ac))) : wpY_step K (nI N, yr, ym, yo, yrk, yrv, ypn, yf, yd, ya, yac, nI (n + 1), nI vb, y1, y2, y3, tk, tv, pk, pv, gk, gv, gh, cn, cd, cD, cP, lk, lv, lh, yH, yPk, yPv, yPh, yM, yA, wt, wa, ws, wb, wx, vk, vv, vh) := by
  have e1 : (nI n).toNatClampNeg = n := nI_clamp (by omega)
  have e2 : (nI t).toNatClampNeg = t := nI_clamp (by omega)
  have e3 : (nI ac).toNatClampNeg = ac := nI_clamp (by omega)
  have i1 : vp_in (nI n) 256 := vp_in_nI (by omega) (by omega)
  have i2 : vp_in (nI t) 128 := vp_in_nI (by omega) (by omega)
  have i3 : vp_in (nI ac) 256 := vp_in_nI hac (by omega)
  unfold wpY_step
  refine nm_r (nI_pred n) ⟨i1, nm_r (show _ = nI t by rw [e1, h1]) ⟨i1, nm_r (show _ = nI ac by rw [e1, h2]) ⟨i1, nm_r (show _ = ws n by rw [e1]) (br_f (nI_pos (by omega)) (br_t (nI_lt ht (by omega)) ⟨i2, nm_r (show _ = nI 13 by rw [e2, hk]) ⟨i2, nm_r (congrArg tv e2) ⟨i3, nm_r (congrArg yH e3) ?_⟩⟩⟩))⟩⟩⟩
  exact br_f (by decide) (br_f (by decide) (br_f (by decide) (br_f (by decide) (br_t (by decide) (wy_pushV hv (nm_r (nI_pred n) h))))))
theorem wy_wait {k : Nat} (hn : n < 255) (ht : t < N) (hN : N ≤ 128) (hac : ac < 256) (h1 : wt n = nI t) (h2 : wa n = nI ac) (h3 : ws n = 0) (hk16 : k ≤ 16) (hk : tk t = nI k) (ha : 1 ≤ hc_ar (tk t)) (h13 : tk t ≠ 13) (h : K 0 (nI N, yr, ym, yo, yrk, yrv, ypn, yf, yd, ya, yac, nI (n + 1 + 1), yv, y1, y2, y3, tk, tv, pk, pv, gk, gv, gh, cn, cd, cD, cP, lk, lv, lh, yH, yPk, yPv, yPh, yM, yA, upd wt (n + 1) (nI (t + 1)), upd wa (n + 1) (nI ac), upd (upd ws n 1) (n + 1) 0, upd wb (n + 1) yv, upd wx (n + 1) 0, vk, vv, vh)) : wpY_step K (nI N, yr, ym, yo, yrk, yrv, ypn, yf, yd, ya, yac, nI (n + 1), yv, y1, y2, y3, tk, tv, pk, pv, gk, gv, gh, cn, cd, cD, cP, lk, lv, lh, yH, yPk, yPv, yPh, yM, yA, wt, wa, ws, wb, wx, vk, vv, vh) := by
  have e1 : (nI n).toNatClampNeg = n := nI_clamp (by omega)
  have e2 : (nI t).toNatClampNeg = t := nI_clamp (by omega)
  have e3 : (nI ac).toNatClampNeg = ac := nI_clamp (by omega)
  have i1 : vp_in (nI n) 256 := vp_in_nI (by omega) (by omega)
  have i2 : vp_in (nI t) 128 := vp_in_nI (by omega) (by omega)
  have i3 : vp_in (nI ac) 256 := vp_in_nI hac (by omega)
  unfold wpY_step
  refine nm_r (nI_pred n) ⟨i1, nm_r (show _ = nI t by rw [e1, h1]) ⟨i1, nm_r (show _ = nI ac by rw [e1, h2]) ⟨i1, nm_r (show _ = 0 by rw [e1, h3]) (br_f (nI_pos (by omega)) (br_t (nI_lt ht (by omega)) ⟨i2, nm_r (show _ = nI k by rw [e2, hk]) ⟨i2, nm_r (congrArg tv e2) ⟨i3, nm_r (congrArg yH e3) ?_⟩⟩⟩))⟩⟩⟩
  have B : wpY_pushW (K 0) (nI N, yr, ym, yo, yrk, yrv, ypn, yf, yd, ya, yac, nI (n + 1), yv, y1, y2, y3, tk, tv, pk, pv, gk, gv, gh, cn, cd, cD, cP, lk, lv, lh, yH, yPk, yPv, yPh, yM, yA, wt, wa, upd ws n 1, wb, wx, vk, vv, vh) (nI t + 1) (nI ac) := by rw [nI_1 t]; exact wy_pushW (by omega) h
  have C := And.intro i1 (nm_r (P := fun z => wpY_pushW (K 0) (nI N, yr, ym, yo, yrk, yrv, ypn, yf, yd, ya, yac, nI (n + 1), yv, y1, y2, y3, tk, tv, pk, pv, gk, gv, gh, cn, cd, cD, cP, lk, lv, lh, yH, yPk, yPv, yPh, yM, yA, wt, wa, z, wb, wx, vk, vv, vh) (nI t + 1) (nI ac)) (show upd ws (nI n).toNatClampNeg 1 = upd ws n 1 by rw [e1]) B)
  rw [hk] at ha h13
  match k, hk16, ha, h13 with
  | 0, _, ha, _ => exact absurd ha (by decide)
  | 1, _, ha, _ => exact absurd ha (by decide)
  | 2, _, _, _ => exact br_f (by decide) (br_f (by decide) (br_f (by decide) (br_f (by decide) (br_f (by decide) (br_f (by decide) (wy_arity (k := 2) (by decide) (by rw [show hc_ar (nI 2) = 1 by decide]; exact br_t (by decide) (br_t (by decide) C))))))))
  | 3, _, ha, _ => exact absurd ha (by decide)
  | 4, _, _, _ => exact br_f (by decide) (br_f (by decide) (br_f (by decide) (br_f (by decide) (br_f (by decide) (br_f (by decide) (wy_arity (k := 4) (by decide) (by rw [show hc_ar (nI 4) = 1 by decide]; exact br_t (by decide) (br_t (by decide) C))))))))
  | 5, _, ha, _ => exact absurd ha (by decide)
  | 6, _, _, _ => exact br_f (by decide) (br_f (by decide) (br_f (by decide) (br_f (by decide) (br_f (by decide) (br_f (by decide) (wy_arity (k := 6) (by decide) (by rw [show hc_ar (nI 6) = 2 by decide]; exact br_f (by decide) (br_t (by decide) C))))))))
  | 7, _, _, _ => exact br_f (by decide) (br_f (by decide) (br_f (by decide) (br_f (by decide) (br_f (by decide) (br_f (by decide) (wy_arity (k := 7) (by decide) (by rw [show hc_ar (nI 7) = 2 by decide]; exact br_f (by decide) (br_t (by decide) C))))))))
  | 8, _, _, _ => exact br_f (by decide) (br_f (by decide) (br_f (by decide) (br_f (by decide) (br_f (by decide) (br_f (by decide) (wy_arity (k := 8) (by decide) (by rw [show hc_ar (nI 8) = 2 by decide]; exact br_f (by decide) (br_t (by decide) C))))))))
  | 9, _, _, _ => exact br_f (by decide) (br_f (by decide) (br_f (by decide) (br_f (by decide) (br_f (by decide) (br_f (by decide) (wy_arity (k := 9) (by decide) (by rw [show hc_ar (nI 9) = 2 by decide]; exact br_f (by decide) (br_t (by decide) C))))))))
  | 10, _, _, _ => exact br_f (by decide) (br_f (by decide) (br_f (by decide) (br_f (by decide) (br_f (by decide) (br_t (by decide) (br_t (by decide) C))))))
  | 11, _, _, _ => exact br_f (by decide) (br_f (by decide) (br_f (by decide) (br_f (by decide) (br_f (by decide) (br_f (by decide) (wy_arity (k := 11) (by decide) (by rw [show hc_ar (nI 11) = 2 by decide]; exact br_f (by decide) (br_t (by decide) C))))))))
  | 12, _, _, _ => exact br_f (by decide) (br_f (by decide) (br_f (by decide) (br_f (by decide) (br_f (by decide) (br_f (by decide) (wy_arity (k := 12) (by decide) (by rw [show hc_ar (nI 12) = 1 by decide]; exact br_t (by decide) (br_t (by decide) C))))))))
  | 13, _, _, h13 => exact absurd rfl h13
  | 14, _, _, _ => exact br_f (by decide) (br_f (by decide) (br_f (by decide) (br_f (by decide) (br_f (by decide) (br_f (by decide) (wy_arity (k := 14) (by decide) (by rw [show hc_ar (nI 14) = 2 by decide]; exact br_f (by decide) (br_t (by decide) C))))))))
  | 15, _, _, _ => exact br_f (by decide) (br_f (by decide) (br_f (by decide) (br_f (by decide) (br_f (by decide) (br_f (by decide) (wy_arity (k := 15) (by decide) (by rw [show hc_ar (nI 15) = 1 by decide]; exact br_t (by decide) (br_t (by decide) C))))))))
  | 16, _, _, _ => exact br_f (by decide) (br_f (by decide) (br_f (by decide) (br_f (by decide) (br_f (by decide) (br_f (by decide) (wy_arity (k := 16) (by decide) (by rw [show hc_ar (nI 16) = 1 by decide]; exact br_t (by decide) (br_t (by decide) C))))))))
  | k + 17, hk, _, _ => exact absurd hk (by omega)
/-! the second operand, or a branch -/
theorem wy_bin1 {k : Nat} (hn : n < 255) (ht : t < N) (hN : N ≤ 128) (hac : ac < 256) (h1 : wt n = nI t) (h2 : wa n = nI ac) (h3 : ws n = 1) (hk16 : k ≤ 16) (hk : tk t = nI k) (ha : hc_ar (tk t) = 2) {f : Nat → Nat} (hT : hp_T tk tv N) (L : hc_Lk (hp_a tk) f 0 N) (ht1 : t + 1 < N) (h : K 0 (nI N, yr, ym, yo, yrk, yrv, ypn, yf, yd, ya, yac, nI (n + 1 + 1), yv, y1, y2, y3, tk, tv, pk, pv, gk, gv, gh, cn, cd, cD, cP, lk, lv, lh, yH, yPk, yPv, yPh, yM, yA, upd wt (n + 1) (nI (f (t + 1))), upd wa (n + 1) (nI ac), upd (upd ws n 2) (n + 1) 0, upd wb (n + 1) yv, upd wx (n + 1) 0, vk, vv, vh)) : wpY_step K (nI N, yr, ym, yo, yrk, yrv, ypn, yf, yd, ya, yac, nI (n + 1), yv, y1, y2, y3, tk, tv, pk, pv, gk, gv, gh, cn, cd, cD, cP, lk, lv, lh, yH, yPk, yPv, yPh, yM, yA, wt, wa, ws, wb, wx, vk, vv, vh) := by
  have e1 : (nI n).toNatClampNeg = n := nI_clamp (by omega)
  have e2 : (nI t).toNatClampNeg = t := nI_clamp (by omega)
  have e3 : (nI ac).toNatClampNeg = ac := nI_clamp (by omega)
  have i1 : vp_in (nI n) 256 := vp_in_nI (by omega) (by omega)
  have i2 : vp_in (nI t) 128 := vp_in_nI (by omega) (by omega)
  have i3 : vp_in (nI ac) 256 := vp_in_nI hac (by omega)
  unfold wpY_step
  refine nm_r (nI_pred n) ⟨i1, nm_r (show _ = nI t by rw [e1, h1]) ⟨i1, nm_r (show _ = nI ac by rw [e1, h2]) ⟨i1, nm_r (show _ = 1 by rw [e1, h3]) (br_f (nI_pos (by omega)) (br_t (nI_lt ht (by omega)) ⟨i2, nm_r (show _ = nI k by rw [e2, hk]) ⟨i2, nm_r (congrArg tv e2) ⟨i3, nm_r (congrArg yH e3) ?_⟩⟩⟩))⟩⟩⟩
  have C : wpY_skipExpr (fun r => vp_in (nI n) 256 ∧ ∀ z, z = upd ws (nI n).toNatClampNeg 2 → wpY_pushW (K 0) (nI N, yr, ym, yo, yrk, yrv, ypn, yf, yd, ya, yac, nI (n + 1), yv, y1, y2, y3, tk, tv, pk, pv, gk, gv, gh, cn, cd, cD, cP, lk, lv, lh, yH, yPk, yPv, yPh, yM, yA, wt, wa, z, wb, wx, vk, vv, vh) r (nI ac)) (nI N, yr, ym, yo, yrk, yrv, ypn, yf, yd, ya, yac, nI (n + 1), yv, y1, y2, y3, tk, tv, pk, pv, gk, gv, gh, cn, cd, cD, cP, lk, lv, lh, yH, yPk, yPv, yPh, yM, yA, wt, wa, ws, wb, wx, vk, vv, vh) (nI t + 1) := by
    rw [nI_1 t]
    exact wy_skip hT hN L ht1 ⟨i1, nm_r (show _ = upd ws n 2 by rw [e1]) (wy_pushW (by omega) h)⟩
  rw [hk] at ha
  match k, hk16, ha with
  | 0, _, ha => exact absurd ha (by decide)
  | 1, _, ha => exact absurd ha (by decide)
  | 2, _, ha => exact absurd ha (by decide)
  | 3, _, ha => exact absurd ha (by decide)
  | 4, _, ha => exact absurd ha (by decide)
  | 5, _, ha => exact absurd ha (by decide)
  | 6, _, _ => exact br_f (by decide) (br_f (by decide) (br_f (by decide) (br_f (by decide) (br_f (by decide) (br_f (by decide) (wy_arity (k := 6) (by decide) (by rw [show hc_ar (nI 6) = 2 by decide]; exact br_f (by decide) (br_f (by decide) (br_t (by decide) C)))))))))
  | 7, _, _ => exact br_f (by decide) (br_f (by decide) (br_f (by decide) (br_f (by decide) (br_f (by decide) (br_f (by decide) (wy_arity (k := 7) (by decide) (by rw [show hc_ar (nI 7) = 2 by decide]; exact br_f (by decide) (br_f (by decide) (br_t (by decide) C)))))))))
  | 8, _, _ => exact br_f (by decide) (br_f (by decide) (br_f (by decide) (br_f (by decide) (br_f (by decide) (br_f (by decide) (wy_arity (k := 8) (by decide) (by rw [show hc_ar (nI 8) = 2 by decide]; exact br_f (by decide) (br_f (by decide) (br_t (by decide) C)))))))))
  | 9, _, _ => exact br_f (by decide) (br_f (by decide) (br_f (by decide) (br_f (by decide) (br_f (by decide) (br_f (by decide) (wy_arity (k := 9) (by decide) (by rw [show hc_ar (nI 9) = 2 by decide]; exact br_f (by decide) (br_f (by decide) (br_t (by decide) C)))))))))
  | 10, _, ha => exact absurd ha (by decide)
  | 11, _, _ => exact br_f (by decide) (br_f (by decide) (br_f (by decide) (br_f (by decide) (br_f (by decide) (br_f (by decide) (wy_arity (k := 11) (by decide) (by rw [show hc_ar (nI 11) = 2 by decide]; exact br_f (by decide) (br_f (by decide) (br_t (by decide) C)))))))))
  | 12, _, ha => exact absurd ha (by decide)
  | 13, _, ha => exact absurd ha (by decide)
  | 14, _, _ => exact br_f (by decide) (br_f (by decide) (br_f (by decide) (br_f (by decide) (br_f (by decide) (br_f (by decide) (wy_arity (k := 14) (by decide) (by rw [show hc_ar (nI 14) = 2 by decide]; exact br_f (by decide) (br_f (by decide) (br_t (by decide) C)))))))))
  | 15, _, ha => exact absurd ha (by decide)
  | 16, _, ha => exact absurd ha (by decide)
  | k + 17, hk, _ => exact absurd hk (by omega)
theorem wy_if1 (hn : n < 255) (ht : t < N) (hN : N ≤ 128) (hac : ac < 256) (h1 : wt n = nI t) (h2 : wa n = nI ac) (h3 : ws n = 1) (hk : tk t = nI 10) {f : Nat → Nat} (hT : hp_T tk tv N) (L : hc_Lk (hp_a tk) f 0 N) (hv : vb < 512) (ht1 : t + 1 < N) (ht2 : f (t + 1) < N) (hb : vk vb = 1 → K 4 (nI N, yr, ym, yo, yrk, yrv, ypn, yf, yd, ya, yac, nI (n + 1), nI vb, vk vb, vv vb, vh vb, tk, tv, pk, pv, gk, gv, gh, cn, cd, cD, cP, lk, lv, lh, yH, yPk, yPv, yPh, yM, yA, wt, wa, ws, wb, wx, vk, vv, vh)) (hz : vk vb ≠ 1 → vv vb = 0 → K 0 (nI N, yr, ym, yo, yrk, yrv, ypn, yf, yd, ya, yac, nI (n + 1 + 1), nI vb, vk vb, vv vb, vh vb, tk, tv, pk, pv, gk, gv, gh, cn, cd, cD, cP, lk, lv, lh, yH, yPk, yPv, yPh, yM, yA, upd wt (n + 1) (nI (f (f (t + 1)))), upd wa (n + 1) (nI ac), upd (upd ws n 2) (n + 1) 0, upd wb (n + 1) (nI vb), upd wx (n + 1) 0, vk, vv, vh)) (hnz : vk vb ≠ 1 → vv vb ≠ 0 → K 0 (nI N, yr, ym, yo, yrk, yrv, ypn, yf, yd, ya, yac, nI (n + 1 + 1), nI vb, vk vb, vv vb, vh vb, tk, tv, pk, pv, gk, gv, gh, cn, cd, cD, cP, lk, lv, lh, yH, yPk, yPv, yPh, yM, yA, upd wt (n + 1) (nI (f (t + 1))), upd wa (n + 1) (nI ac), upd (upd ws n 2) (n + 1) 0, upd wb (n + 1) (nI vb), upd wx (n + 1) 0, vk, vv, vh)) : wpY_step K (nI N, yr, ym, yo, yrk, yrv, ypn, yf, yd, ya, yac, nI (n + 1), nI (vb + 1), y1, y2, y3, tk, tv, pk, pv, gk, gv, gh, cn, cd, cD, cP, lk, lv, lh, yH, yPk, yPv, yPh, yM, yA, wt, wa, ws, wb, wx, vk, vv, vh) := by
  have e1 : (nI n).toNatClampNeg = n := nI_clamp (by omega)
  have e2 : (nI t).toNatClampNeg = t := nI_clamp (by omega)
  have e3 : (nI ac).toNatClampNeg = ac := nI_clamp (by omega)
  have i1 : vp_in (nI n) 256 := vp_in_nI (by omega) (by omega)
  have i2 : vp_in (nI t) 128 := vp_in_nI (by omega) (by omega)
  have i3 : vp_in (nI ac) 256 := vp_in_nI hac (by omega)
  unfold wpY_step
  refine nm_r (nI_pred n) ⟨i1, nm_r (show _ = nI t by rw [e1, h1]) ⟨i1, nm_r (show _ = nI ac by rw [e1, h2]) ⟨i1, nm_r (show _ = 1 by rw [e1, h3]) (br_f (nI_pos (by omega)) (br_t (nI_lt ht (by omega)) ⟨i2, nm_r (show _ = nI 10 by rw [e2, hk]) ⟨i2, nm_r (congrArg tv e2) ⟨i3, nm_r (congrArg yH e3) ?_⟩⟩⟩))⟩⟩⟩
  have E : ∀ c, K 0 (nI N, yr, ym, yo, yrk, yrv, ypn, yf, yd, ya, yac, nI (n + 1 + 1), nI vb, vk vb, vv vb, vh vb, tk, tv, pk, pv, gk, gv, gh, cn, cd, cD, cP, lk, lv, lh, yH, yPk, yPv, yPh, yM, yA, upd wt (n + 1) (nI c), upd wa (n + 1) (nI ac), upd (upd ws n 2) (n + 1) 0, upd wb (n + 1) (nI vb), upd wx (n + 1) 0, vk, vv, vh) → wY_step_338 K (nI n) (nI ac) (nI c) (nI N) yr ym yo yrk yrv ypn yf yd ya yac (nI (n + 1)) (nI vb) (vk vb) (vv vb) (vh vb) tk tv pk pv gk gv gh cn cd cD cP lk lv lh yH yPk yPv yPh yM yA wt wa ws wb wx vk vv vh := fun c h =>
    And.intro i1 (nm_r (show _ = upd ws n 2 by rw [e1]) (wy_pushW (by omega) h))
  have C : (vk vb = 1 → K 4 (nI N, yr, ym, yo, yrk, yrv, ypn, yf, yd, ya, yac, nI (n + 1), nI vb, vk vb, vv vb, vh vb, tk, tv, pk, pv, gk, gv, gh, cn, cd, cD, cP, lk, lv, lh, yH, yPk, yPv, yPh, yM, yA, wt, wa, ws, wb, wx, vk, vv, vh)) ∧ (¬ vk vb = 1 → wpY_skipExpr (fun r => ((vv vb = 0 → wpY_skipExpr (fun r' => wY_step_338 K (nI n) (nI ac) r' (nI N) yr ym yo yrk yrv ypn yf yd ya yac (nI (n + 1)) (nI vb) (vk vb) (vv vb) (vh vb) tk tv pk pv gk gv gh cn cd cD cP lk lv lh yH yPk yPv yPh yM yA wt wa ws wb wx vk vv vh) (nI N, yr, ym, yo, yrk, yrv, ypn, yf, yd, ya, yac, nI (n + 1), nI vb, vk vb, vv vb, vh vb, tk, tv, pk, pv, gk, gv, gh, cn, cd, cD, cP, lk, lv, lh, yH, yPk, yPv, yPh, yM, yA, wt, wa, ws, wb, wx, vk, vv, vh) r) ∧ (¬ vv vb = 0 → wY_step_338 K (nI n) (nI ac) r (nI N) yr ym yo yrk yrv ypn yf yd ya yac (nI (n + 1)) (nI vb) (vk vb) (vv vb) (vh vb) tk tv pk pv gk gv gh cn cd cD cP lk lv lh yH yPk yPv yPh yM yA wt wa ws wb wx vk vv vh))) (nI N, yr, ym, yo, yrk, yrv, ypn, yf, yd, ya, yac, nI (n + 1), nI vb, vk vb, vv vb, vh vb, tk, tv, pk, pv, gk, gv, gh, cn, cd, cD, cP, lk, lv, lh, yH, yPk, yPv, yPh, yM, yA, wt, wa, ws, wb, wx, vk, vv, vh) (nI t + 1)) := by
    refine ⟨hb, fun z => ?_⟩
    rw [nI_1 t]
    refine wy_skip hT hN L ht1 ⟨fun y => ?_, fun y => E _ (hnz z y)⟩
    exact wy_skip hT hN L ht2 (E _ (hz z y))
  exact br_f (by decide) (br_f (by decide) (br_f (by decide) (br_f (by decide) (br_f (by decide) (br_t (by decide) (br_f (by decide) (br_t (by decide) (wy_popV hv C))))))))
theorem wy_if2 (hn : n < 255) (ht : t < N) (hN : N ≤ 128) (hac : ac < 256) (h1 : wt n = nI t) (h2 : wa n = nI ac) (h3 : ws n = 2) (hk : tk t = nI 10) (h : K 0 (nI N, yr, ym, yo, yrk, yrv, ypn, yf, yd, ya, yac, nI n, yv, y1, y2, y3, tk, tv, pk, pv, gk, gv, gh, cn, cd, cD, cP, lk, lv, lh, yH, yPk, yPv, yPh, yM, yA, wt, wa, ws, wb, wx, vk, vv, vh)) : wpY_step K (nI N, yr, ym, yo, yrk, yrv, ypn, yf, yd, ya, yac, nI (n + 1), yv, y1, y2, y3, tk, tv, pk, pv, gk, gv, gh, cn, cd, cD, cP, lk, lv, lh, yH, yPk, yPv, yPh, yM, yA, wt, wa, ws, wb, wx, vk, vv, vh) := by
  have e1 : (nI n).toNatClampNeg = n := nI_clamp (by omega)
  have e2 : (nI t).toNatClampNeg = t := nI_clamp (by omega)
  have e3 : (nI ac).toNatClampNeg = ac := nI_clamp (by omega)
  have i1 : vp_in (nI n) 256 := vp_in_nI (by omega) (by omega)
  have i2 : vp_in (nI t) 128 := vp_in_nI (by omega) (by omega)
  have i3 : vp_in (nI ac) 256 := vp_in_nI hac (by omega)
  unfold wpY_step
  refine nm_r (nI_pred n) ⟨i1, nm_r (show _ = nI t by rw [e1, h1]) ⟨i1, nm_r (show _ = nI ac by rw [e1, h2]) ⟨i1, nm_r (show _ = 2 by rw [e1, h3]) (br_f (nI_pos (by omega)) (br_t (nI_lt ht (by omega)) ⟨i2, nm_r (show _ = nI 10 by rw [e2, hk]) ⟨i2, nm_r (congrArg tv e2) ⟨i3, nm_r (congrArg yH e3) ?_⟩⟩⟩))⟩⟩⟩
  exact br_f (by decide) (br_f (by decide) (br_f (by decide) (br_f (by decide) (br_f (by decide) (br_t (by decide) (br_f (by decide) (br_f (by decide) (nm_r (nI_pred n) h))))))))
/-! one operand -/
theorem wy_set (hn : n < 255) (ht : t < N) (hN : N ≤ 128) (hac : ac < 256) (h1 : wt n = nI t) (h2 : wa n = nI ac) (h3 : ws n = 1) (hk : tk t = nI 2) {h0 j : Nat} (hv : vb < 512) (hh : yH ac = nI h0) (hj : tv t = nI j) (hi : h0 * 4 + j < 1024) (h : K 0 (nI N, yr, ym, yo, yrk, yrv, ypn, yf, yd, ya, yac, nI n, nI (vb + 1), vk vb, vv vb, vh vb, tk, tv, pk, pv, gk, gv, gh, cn, cd, cD, cP, upd lk (h0 * 4 + j) (vk vb), upd lv (h0 * 4 + j) (vv vb), upd lh (h0 * 4 + j) (vh vb), yH, yPk, yPv, yPh, yM, yA, wt, wa, ws, wb, wx, upd vk vb (vk vb), upd vv vb (vv vb), upd vh vb (vh vb))) : wpY_step K (nI N, yr, ym, yo, yrk, yrv, ypn, yf, yd, ya, yac, nI (n + 1), nI (vb + 1), y1, y2, y3, tk, tv, pk, pv, gk, gv, gh, cn, cd, cD, cP, lk, lv, lh, yH, yPk, yPv, yPh, yM, yA, wt, wa, ws, wb, wx, vk, vv, vh) := by
  have e1 : (nI n).toNatClampNeg = n := nI_clamp (by omega)
  have e2 : (nI t).toNatClampNeg = t := nI_clamp (by omega)
  have e3 : (nI ac).toNatClampNeg = ac := nI_clamp (by omega)
  have i1 : vp_in (nI n) 256 := vp_in_nI (by omega) (by omega)
  have i2 : vp_in (nI t) 128 := vp_in_nI (by omega) (by omega)
  have i3 : vp_in (nI ac) 256 := vp_in_nI hac (by omega)
  unfold wpY_step
  refine nm_r (nI_pred n) ⟨i1, nm_r (show _ = nI t by rw [e1, h1]) ⟨i1, nm_r (show _ = nI ac by rw [e1, h2]) ⟨i1, nm_r (show _ = 1 by rw [e1, h3]) (br_f (nI_pos (by omega)) (br_t (nI_lt ht (by omega)) ⟨i2, nm_r (show _ = nI 2 by rw [e2, hk]) ⟨i2, nm_r (congrArg tv e2) ⟨i3, nm_r (congrArg yH e3) ?_⟩⟩⟩))⟩⟩⟩
  have B1 : vp_in (yH ac * 4 + tv t) 1024 := by rw [hh, hj, wk_ix]; exact vp_in_nI hi (by omega)
  have B2 : (yH ac * 4 + tv t).toNatClampNeg = h0 * 4 + j := by rw [hh, hj, wk_ix]; exact nI_clamp (by omega)
  exact br_f (by decide) (br_f (by decide) (br_f (by decide) (br_f (by decide) (br_f (by decide) (br_f (by decide) (wy_arity (k := 2) (by decide) (by rw [show hc_ar (nI 2) = 1 by decide]; exact br_t (by decide) (br_f (by decide) (br_f (by decide) (wy_popV hv (br_t (by decide) ⟨B1, nm_r (congrArg (fun i => upd lk i (vk vb)) B2) ⟨B1, nm_r (congrArg (fun i => upd lv i (vv vb)) B2) ⟨B1, nm_r (congrArg (fun i => upd lh i (vh vb)) B2) (br_f (by decide) (br_f (by decide) (br_f (by decide) (br_f (by decide) (wy_pushV hv (nm_r (nI_pred n) h))))))⟩⟩⟩)))))))))))
theorem wy_gset (hn : n < 255) (ht : t < N) (hN : N ≤ 128) (hac : ac < 256) (h1 : wt n = nI t) (h2 : wa n = nI ac) (h3 : ws n = 1) (hk : tk t = nI 4) {j : Nat} (hv : vb < 512) (hj : tv t = nI j) (hi : j < 8) (h : K 0 (nI N, yr, ym, yo, yrk, yrv, ypn, yf, yd, ya, yac, nI n, nI (vb + 1), vk vb, vv vb, vh vb, tk, tv, pk, pv, upd gk j (vk vb), upd gv j (vv vb), upd gh j (vh vb), cn, cd, cD, cP, lk, lv, lh, yH, yPk, yPv, yPh, yM, yA, wt, wa, ws, wb, wx, upd vk vb (vk vb), upd vv vb (vv vb), upd vh vb (vh vb))) : wpY_step K (nI N, yr, ym, yo, yrk, yrv, ypn, yf, yd, ya, yac, nI (n + 1), nI (vb + 1), y1, y2, y3, tk, tv, pk, pv, gk, gv, gh, cn, cd, cD, cP, lk, lv, lh, yH, yPk, yPv, yPh, yM, yA, wt, wa, ws, wb, wx, vk, vv, vh) := by
  have e1 : (nI n).toNatClampNeg = n := nI_clamp (by omega)
  have e2 : (nI t).toNatClampNeg = t := nI_clamp (by omega)
  have e3 : (nI ac).toNatClampNeg = ac := nI_clamp (by omega)
  have i1 : vp_in (nI n) 256 := vp_in_nI (by omega) (by omega)
  have i2 : vp_in (nI t) 128 := vp_in_nI (by omega) (by omega)
  have i3 : vp_in (nI ac) 256 := vp_in_nI hac (by omega)
  unfold wpY_step
  refine nm_r (nI_pred n) ⟨i1, nm_r (show _ = nI t by rw [e1, h1]) ⟨i1, nm_r (show _ = nI ac by rw [e1, h2]) ⟨i1, nm_r (show _ = 1 by rw [e1, h3]) (br_f (nI_pos (by omega)) (br_t (nI_lt ht (by omega)) ⟨i2, nm_r (show _ = nI 4 by rw [e2, hk]) ⟨i2, nm_r (congrArg tv e2) ⟨i3, nm_r (congrArg yH e3) ?_⟩⟩⟩))⟩⟩⟩
  have B1 : vp_in (tv t) 8 := by rw [hj]; exact vp_in_nI hi (by omega)
  have B2 : (tv t).toNatClampNeg = j := by rw [hj]; exact nI_clamp (by omega)
  exact br_f (by decide) (br_f (by decide) (br_f (by decide) (br_f (by decide) (br_f (by decide) (br_f (by decide) (wy_arity (k := 4) (by decide) (by rw [show hc_ar (nI 4) = 1 by decide]; exact br_t (by decide) (br_f (by decide) (br_f (by decide) (wy_popV hv (br_f (by decide) (br_t (by decide) ⟨B1, nm_r (congrArg (fun i => upd gk i (vk vb)) B2) ⟨B1, nm_r (congrArg (fun i => upd gv i (vv vb)) B2) ⟨B1, nm_r (congrArg (fun i => upd gh i (vh vb)) B2) (br_f (by decide) (br_f (by decide) (br_f (by decide) (wy_pushV hv (nm_r (nI_pred n) h)))))⟩⟩⟩))))))))))))
theorem wy_print0 (hn : n < 255) (ht : t < N) (hN : N ≤ 128) (hac : ac < 256) (h1 : wt n = nI t) (h2 : wa n = nI ac) (h3 : ws n = 1) (hk : tk t = nI 12) {pn : Nat} (hv : vb < 512) (hpn : pn = 32) (h : K 0 (nI N, yr, ym, yo, yrk, yrv, nI pn, yf, yd, ya, yac, nI n, nI (vb + 1), vk vb, vv vb, vh vb, tk, tv, pk, pv, gk, gv, gh, cn, cd, cD, cP, lk, lv, lh, yH, yPk, yPv, yPh, yM, yA, wt, wa, ws, wb, wx, upd vk vb (vk vb), upd vv vb (vv vb), upd vh vb (vh vb))) : wpY_step K (nI N, yr, ym, yo, yrk, yrv, nI pn, yf, yd, ya, yac, nI (n + 1), nI (vb + 1), y1, y2, y3, tk, tv, pk, pv, gk, gv, gh, cn, cd, cD, cP, lk, lv, lh, yH, yPk, yPv, yPh, yM, yA, wt, wa, ws, wb, wx, vk, vv, vh) := by
  have e1 : (nI n).toNatClampNeg = n := nI_clamp (by omega)
  have e2 : (nI t).toNatClampNeg = t := nI_clamp (by omega)
  have e3 : (nI ac).toNatClampNeg = ac := nI_clamp (by omega)
  have i1 : vp_in (nI n) 256 := vp_in_nI (by omega) (by omega)
  have i2 : vp_in (nI t) 128 := vp_in_nI (by omega) (by omega)
  have i3 : vp_in (nI ac) 256 := vp_in_nI hac (by omega)
  unfold wpY_step
  refine nm_r (nI_pred n) ⟨i1, nm_r (show _ = nI t by rw [e1, h1]) ⟨i1, nm_r (show _ = nI ac by rw [e1, h2]) ⟨i1, nm_r (show _ = 1 by rw [e1, h3]) (br_f (nI_pos (by omega)) (br_t (nI_lt ht (by omega)) ⟨i2, nm_r (show _ = nI 12 by rw [e2, hk]) ⟨i2, nm_r (congrArg tv e2) ⟨i3, nm_r (congrArg yH e3) ?_⟩⟩⟩))⟩⟩⟩
  exact br_f (by decide) (br_f (by decide) (br_f (by decide) (br_f (by decide) (br_f (by decide) (br_f (by decide) (wy_arity (k := 12) (by decide) (by rw [show hc_ar (nI 12) = 1 by decide]; exact br_t (by decide) (br_f (by decide) (br_f (by decide) (wy_popV hv (br_f (by decide) (br_f (by decide) (br_t (by decide) (br_t (nI_le (a := 32) (by omega) (by omega)) (br_f (by decide) (br_f (by decide) (wy_pushV hv (nm_r (nI_pred n) h))))))))))))))))))
theorem wy_print1 (hn : n < 255) (ht : t < N) (hN : N ≤ 128) (hac : ac < 256) (h1 : wt n = nI t) (h2 : wa n = nI ac) (h3 : ws n = 1) (hk : tk t = nI 12) {pn : Nat} (hv : vb < 512) (hpn : pn < 32) (h : K 0 (nI N, yr, ym, yo, yrk, yrv, nI (pn + 1), yf, yd, ya, yac, nI n, nI (vb + 1), vk vb, vv vb, vh vb, tk, tv, upd pk pn (vk vb), upd pv pn (vv vb), gk, gv, gh, cn, cd, cD, cP, lk, lv, lh, yH, yPk, yPv, yPh, yM, yA, wt, wa, ws, wb, wx, upd vk vb (vk vb), upd vv vb (vv vb), upd vh vb (vh vb))) : wpY_step K (nI N, yr, ym, yo, yrk, yrv, nI pn, yf, yd, ya, yac, nI (n + 1), nI (vb + 1), y1, y2, y3, tk, tv, pk, pv, gk, gv, gh, cn, cd, cD, cP, lk, lv, lh, yH, yPk, yPv, yPh, yM, yA, wt, wa, ws, wb, wx, vk, vv, vh) := by
  have e1 : (nI n).toNatClampNeg = n := nI_clamp (by omega)
  have e2 : (nI t).toNatClampNeg = t := nI_clamp (by omega)
  have e3 : (nI ac).toNatClampNeg = ac := nI_clamp (by omega)
  have i1 : vp_in (nI n) 256 := vp_in_nI (by omega) (by omega)
  have i2 : vp_in (nI t) 128 := vp_in_nI (by omega) (by omega)
  have i3 : vp_in (nI ac) 256 := vp_in_nI hac (by omega)
  unfold wpY_step
  refine nm_r (nI_pred n) ⟨i1, nm_r (show _ = nI t by rw [e1, h1]) ⟨i1, nm_r (show _ = nI ac by rw [e1, h2]) ⟨i1, nm_r (show _ = 1 by rw [e1, h3]) (br_f (nI_pos (by omega)) (br_t (nI_lt ht (by omega)) ⟨i2, nm_r (show _ = nI 12 by rw [e2, hk]) ⟨i2, nm_r (congrArg tv e2) ⟨i3, nm_r (congrArg yH e3) ?_⟩⟩⟩))⟩⟩⟩
  have B1 : vp_in (nI pn) 32 := vp_in_nI hpn (by omega)
  have B2 : (nI pn).toNatClampNeg = pn := nI_clamp (by omega)
  exact br_f (by decide) (br_f (by decide) (br_f (by decide) (br_f (by decide) (br_f (by decide) (br_f (by decide) (wy_arity (k := 12) (by decide) (by rw [show hc_ar (nI 12) = 1 by decide]; exact br_t (by decide) (br_f (by decide) (br_f (by decide) (wy_popV hv (br_f (by decide) (br_f (by decide) (br_t (by decide) (br_f (nI_ge (b := 32) (by omega) (by decide)) ⟨B1, nm_r (congrArg (fun i => upd pk i (vk vb)) B2) ⟨B1, nm_r (congrArg (fun i => upd pv i (vv vb)) B2) (nm_r (nI_1 pn) (br_f (by decide) (br_f (by decide) (wy_pushV hv (nm_r (nI_pred n) h)))))⟩⟩))))))))))))))
theorem wy_ret (hn : n < 255) (ht : t < N) (hN : N ≤ 128) (hac : ac < 256) (h1 : wt n = nI t) (h2 : wa n = nI ac) (h3 : ws n = 1) (hk : tk t = nI 16) (hv : vb < 512) (h : wpY_doRet K (nI N, yr, ym, yo, yrk, yrv, ypn, yf, yd, ya, yac, nI (n + 1), nI vb, vk vb, vv vb, vh vb, tk, tv, pk, pv, gk, gv, gh, cn, cd, cD, cP, lk, lv, lh, yH, yPk, yPv, yPh, yM, yA, wt, wa, ws, wb, wx, vk, vv, vh) (nI ac) (vk vb) (vv vb) (vh vb)) : wpY_step K (nI N, yr, ym, yo, yrk, yrv, ypn, yf, yd, ya, yac, nI (n + 1), nI (vb + 1), y1, y2, y3, tk, tv, pk, pv, gk, gv, gh, cn, cd, cD, cP, lk, lv, lh, yH, yPk, yPv, yPh, yM, yA, wt, wa, ws, wb, wx, vk, vv, vh) := by
  have e1 : (nI n).toNatClampNeg = n := nI_clamp (by omega)
  have e2 : (nI t).toNatClampNeg = t := nI_clamp (by omega)
  have e3 : (nI ac).toNatClampNeg = ac := nI_clamp (by omega)
  have i1 : vp_in (nI n) 256 := vp_in_nI (by omega) (by omega)
  have i2 : vp_in (nI t) 128 := vp_in_nI (by omega) (by omega)
  have i3 : vp_in (nI ac) 256 := vp_in_nI hac (by omega)
  unfold wpY_step
  refine nm_r (nI_pred n) ⟨i1, nm_r (show _ = nI t by rw [e1, h1]) ⟨i1, nm_r (show _ = nI ac by rw [e1, h2]) ⟨i1, nm_r (show _ = 1 by rw [e1, h3]) (br_f (nI_pos (by omega)) (br_t (nI_lt ht (by omega)) ⟨i2, nm_r (show _ = nI 16 by rw [e2, hk]) ⟨i2, nm_r (congrArg tv e2) ⟨i3, nm_r (congrArg yH e3) ?_⟩⟩⟩))⟩⟩⟩
  exact br_f (by decide) (br_f (by decide) (br_f (by decide) (br_f (by decide) (br_f (by decide) (br_f (by decide) (wy_arity (k := 16) (by decide) (by rw [show hc_ar (nI 16) = 1 by decide]; exact br_t (by decide) (br_f (by decide) (br_f (by decide) (wy_popV hv (br_f (by decide) (br_f (by decide) (br_f (by decide) (br_t (by decide) h))))))))))))))
theorem wy_call (hn : n < 255) (ht : t < N) (hN : N ≤ 128) (hac : ac < 256) (h1 : wt n = nI t) (h2 : wa n = nI ac) (h3 : ws n = 1) (hk : tk t = nI 15) {f : Nat → Nat} (hT : hp_T tk tv N) (L : hc_Lk (hp_a tk) f 0 N) {fl na an m : Nat} (hv : vb < 512) (hj : tv t = nI m) (hm : m < 8) (hr : ∀ k, k < m → hc_it f k 0 < N) (hfl : fl < 256) (hna : na ≤ 16) (han : fl ≠ 0 → an < 256) (h0 : fl = 0 → K 3 (nI N, yr, ym, yo, yrk, yrv, ypn, nI 0, yd, nI an, nI na, nI (n + 1), nI vb, vk vb, vv vb, vh vb, tk, tv, pk, pv, gk, gv, gh, cn, cd, cD, cP, lk, lv, lh, yH, yPk, yPv, yPh, yM, yA, wt, wa, ws, wb, wx, vk, vv, vh)) (h1' : ∀ f1, fl = f1 + 1 → na = 16 → K 5 (nI N, yr, ym, yo, yrk, yrv, ypn, nI f1, yd, nI an, nI na, nI (n + 1), nI vb, vk vb, vv vb, vh vb, tk, tv, pk, pv, gk, gv, gh, cn, cd, cD, cP, lk, lv, lh, yH, yPk, yPv, yPh, yM, yA, wt, wa, ws, wb, wx, vk, vv, vh))
    (h2' : ∀ f1, fl = f1 + 1 → na < 16 → K 0 (nI N, yr, ym, yo, yrk, yrv, ypn, nI f1, wk_mx yd (nI (na + 1)), nI (an + 1), nI (na + 1), nI (n + 1 + 1), nI vb, vk vb, vv vb, vh vb, tk, tv, pk, pv, gk, gv, gh, cn, cd, cD, cP, upd (wk_z4 lk (an * 4)) (an * 4) (vk vb), upd (wk_z4 lv (an * 4)) (an * 4) (vv vb), upd (wk_z4 lh (an * 4)) (an * 4) (vh vb), upd yH an (nI an), upd yPk an 0, upd yPv an 0, upd yPh an 0, upd yM an 1, upd yA an 1, upd wt (n + 1) (nI (hc_it f m 0)), upd wa (n + 1) (nI an), upd (upd ws n 2) (n + 1) 0, upd wb (n + 1) (nI vb), upd (upd wx n (nI an)) (n + 1) 0, vk, vv, vh)) : wpY_step K (nI N, yr, ym, yo, yrk, yrv, ypn, nI fl, yd, nI an, nI na, nI (n + 1), nI (vb + 1), y1, y2, y3, tk, tv, pk, pv, gk, gv, gh, cn, cd, cD, cP, lk, lv, lh, yH, yPk, yPv, yPh, yM, yA, wt, wa, ws, wb, wx, vk, vv, vh) := by
  have e1 : (nI n).toNatClampNeg = n := nI_clamp (by omega)
  have e2 : (nI t).toNatClampNeg = t := nI_clamp (by omega)
  have e3 : (nI ac).toNatClampNeg = ac := nI_clamp (by omega)
  have i1 : vp_in (nI n) 256 := vp_in_nI (by omega) (by omega)
  have i2 : vp_in (nI t) 128 := vp_in_nI (by omega) (by omega)
  have i3 : vp_in (nI ac) 256 := vp_in_nI hac (by omega)
  unfold wpY_step
  refine nm_r (nI_pred n) ⟨i1, nm_r (show _ = nI t by rw [e1, h1]) ⟨i1, nm_r (show _ = nI ac by rw [e1, h2]) ⟨i1, nm_r (show _ = 1 by rw [e1, h3]) (br_f (nI_pos (by omega)) (br_t (nI_lt ht (by omega)) ⟨i2, nm_r (show _ = nI 15 by rw [e2, hk]) ⟨i2, nm_r (congrArg tv e2) ⟨i3, nm_r (congrArg yH e3) ?_⟩⟩⟩))⟩⟩⟩
  have C : (nI fl = 0 → K 3 (nI N, yr, ym, yo, yrk, yrv, ypn, nI fl, yd, nI an, nI na, nI (n + 1), nI vb, vk vb, vv vb, vh vb, tk, tv, pk, pv, gk, gv, gh, cn, cd, cD, cP, lk, lv, lh, yH, yPk, yPv, yPh, yM, yA, wt, wa, ws, wb, wx, vk, vv, vh)) ∧ (¬ nI fl = 0 → ∀ f1, f1 = nI fl - 1 → ((nI na < 16 → ((nI an < 256 → wpY_methodStart (fun r => wpY_newAct (fun r' u => match u with | (yn, yr, ym, yo, yrk, yrv, ypn, yf, yd, ya, yac, yw, yv, y1, y2, y3, tk, tv, pk, pv, gk, gv, gh, cn, cd, cD, cP, lk, lv, lh, yH, yPk, yPv, yPh, yM, yA, wt, wa, ws, wb, wx, vk, vv, vh) => vp_in (nI n) 256 ∧ ∀ w1, w1 = upd ws (nI n).toNatClampNeg 2 → (vp_in (nI n) 256 ∧ ∀ w2, w2 = upd wx (nI n).toNatClampNeg r' → wpY_pushW (K 0) (yn, yr, ym, yo, yrk, yrv, ypn, yf, yd, ya, yac, yw, yv, y1, y2, y3, tk, tv, pk, pv, gk, gv, gh, cn, cd, cD, cP, lk, lv, lh, yH, yPk, yPv, yPh, yM, yA, wt, wa, w1, wb, w2, vk, vv, vh) r r')) (nI N, yr, ym, yo, yrk, yrv, ypn, f1, yd, nI an, nI na, nI (n + 1), nI vb, vk vb, vv vb, vh vb, tk, tv, pk, pv, gk, gv, gh, cn, cd, cD, cP, lk, lv, lh, yH, yPk, yPv, yPh, yM, yA, wt, wa, ws, wb, wx, vk, vv, vh) 1 0 (vk vb) (vv vb) (vh vb)) (nI N, yr, ym, yo, yrk, yrv, ypn, f1, yd, nI an, nI na, nI (n + 1), nI vb, vk vb, vv vb, vh vb, tk, tv, pk, pv, gk, gv, gh, cn, cd, cD, cP, lk, lv, lh, yH, yPk, yPv, yPh, yM, yA, wt, wa, ws, wb, wx, vk, vv, vh) (tv t)) ∧ (¬ nI an < 256 → K 3 (nI N, yr, ym, yo, yrk, yrv, ypn, f1, yd, nI an, nI na, nI (n + 1), nI vb, vk vb, vv vb, vh vb, tk, tv, pk, pv, gk, gv, gh, cn, cd, cD, cP, lk, lv, lh, yH, yPk, yPv, yPh, yM, yA, wt, wa, ws, wb, wx, vk, vv, vh)))) ∧ (¬ nI na < 16 → K 5 (nI N, yr, ym, yo, yrk, yrv, ypn, f1, yd, nI an, nI na, nI (n + 1), nI vb, vk vb, vv vb, vh vb, tk, tv, pk, pv, gk, gv, gh, cn, cd, cD, cP, lk, lv, lh, yH, yPk, yPv, yPh, yM, yA, wt, wa, ws, wb, wx, vk, vv, vh)))) := by
    cases fl with
    | zero => exact br_t rfl (h0 rfl)
    | succ f1 =>
      refine br_f (nI_ne0 (by omega) (by omega)) (nm_r (nI_pred f1) ?_)
      by_cases z : na = 16
      · exact br_f (nI_nlt (b := 16) (by omega) (by omega)) (h1' f1 rfl z)
      · refine br_t (nI_lt (b := 16) (by omega) (by decide)) (br_t (nI_lt (b := 256) (han (by omega)) (by decide)) ?_)
        rw [hj]
        refine wy_mst hT hN L hm hr (wy_newM (han (by omega)) ⟨i1, nm_r (show _ = upd ws n 2 by rw [e1]) ⟨i1, nm_r (show _ = upd wx n (nI an) by rw [e1]) (wy_pushW (by omega) (h2' f1 rfl (by omega)))⟩⟩)
  exact br_f (by decide) (br_f (by decide) (br_f (by decide) (br_f (by decide) (br_f (by decide) (br_f (by decide) (wy_arity (k := 15) (by decide) (by rw [show hc_ar (nI 15) = 1 by decide]; exact br_t (by decide) (br_f (by decide) (br_t (by decide) (br_f (by decide) (wy_popV hv (br_f (by decide) (br_f (by decide) (br_f (by decide) (br_f (by decide) (br_t (by decide) C))))))))))))))))
theorem wy_fin {P : SY → Prop} {na vb' : Nat} (hn : n < 255) (hac : ac < 256) (hv : vb < 512) (hv' : vb' < 512) (hwx : wx n = nI ac) (hA : yA ac = 1) (hwb : wb n = nI vb') (h : P (yn, yr, ym, yo, yrk, yrv, ypn, yf, yd, ya, nI na, nI n, nI (vb' + 1), vk vb, vv vb, vh vb, tk, tv, pk, pv, gk, gv, gh, cn, cd, cD, cP, lk, lv, lh, yH, yPk, yPv, yPh, yM, upd yA ac 0, wt, wa, ws, wb, wx, upd vk vb' (vk vb), upd vv vb' (vv vb), upd vh vb' (vh vb))) : wpY_finishCall P (yn, yr, ym, yo, yrk, yrv, ypn, yf, yd, ya, nI (na + 1), nI (n + 1), nI (vb + 1), y1, y2, y3, tk, tv, pk, pv, gk, gv, gh, cn, cd, cD, cP, lk, lv, lh, yH, yPk, yPv, yPh, yM, yA, wt, wa, ws, wb, wx, vk, vv, vh) (nI n) := by
  have e1 : (nI n).toNatClampNeg = n := nI_clamp (by omega)
  have e3 : (nI ac).toNatClampNeg = ac := nI_clamp (by omega)
  have i1 : vp_in (nI n) 256 := vp_in_nI (by omega) (by omega)
  have i3 : vp_in (nI ac) 256 := vp_in_nI hac (by omega)
  unfold wpY_finishCall
  refine wy_popV hv ⟨i1, nm_r (show _ = nI ac by rw [e1, hwx]) (br_f (nI_pos (by omega)) (br_f (nI_ge (b := 256) hac (by decide)) ⟨i3, br_f (by rw [e3, hA]; decide) ⟨i3, nm_r (show _ = upd yA ac 0 by rw [e3, wk_b0]) (nm_r (nI_pred na) ⟨i1, nm_r (show _ = nI vb' by rw [e1, hwb]) (wy_pushV hv' (nm_r (nI_pred n) h))⟩)⟩⟩))⟩
theorem wy_call2 (hn : n < 255) (ht : t < N) (hN : N ≤ 128) (hac : ac < 256) (h1 : wt n = nI t) (h2 : wa n = nI ac) (h3 : ws n = 2) (hk : tk t = nI 15) {na vb' : Nat} (hv : vb < 512) (hv' : vb' < 512) {ax : Nat} (hax : ax < 256) (hwx : wx n = nI ax) (hA : yA ax = 1) (hwb : wb n = nI vb') (h : K 0 (nI N, yr, ym, yo, yrk, yrv, ypn, yf, yd, ya, nI na, nI n, nI (vb' + 1), vk vb, vv vb, vh vb, tk, tv, pk, pv, gk, gv, gh, cn, cd, cD, cP, lk, lv, lh, yH, yPk, yPv, yPh, yM, upd yA ax 0, wt, wa, ws, wb, wx, upd vk vb' (vk vb), upd vv vb' (vv vb), upd vh vb' (vh vb))) : wpY_step K (nI N, yr, ym, yo, yrk, yrv, ypn, yf, yd, ya, nI (na + 1), nI (n + 1), nI (vb + 1), y1, y2, y3, tk, tv, pk, pv, gk, gv, gh, cn, cd, cD, cP, lk, lv, lh, yH, yPk, yPv, yPh, yM, yA, wt, wa, ws, wb, wx, vk, vv, vh) := by
  have e1 : (nI n).toNatClampNeg = n := nI_clamp (by omega)
  have e2 : (nI t).toNatClampNeg = t := nI_clamp (by omega)
  have e3 : (nI ac).toNatClampNeg = ac := nI_clamp (by omega)
  have i1 : vp_in (nI n) 256 := vp_in_nI (by omega) (by omega)
  have i2 : vp_in (nI t) 128 := vp_in_nI (by omega) (by omega)
  have i3 : vp_in (nI ac) 256 := vp_in_nI hac (by omega)
  unfold wpY_step
  refine nm_r (nI_pred n) ⟨i1, nm_r (show _ = nI t by rw [e1, h1]) ⟨i1, nm_r (show _ = nI ac by rw [e1, h2]) ⟨i1, nm_r (show _ = 2 by rw [e1, h3]) (br_f (nI_pos (by omega)) (br_t (nI_lt ht (by omega)) ⟨i2, nm_r (show _ = nI 15 by rw [e2, hk]) ⟨i2, nm_r (congrArg tv e2) ⟨i3, nm_r (congrArg yH e3) ?_⟩⟩⟩))⟩⟩⟩
  exact br_f (by decide) (br_f (by decide) (br_f (by decide) (br_f (by decide) (br_f (by decide) (br_f (by decide) (wy_arity (k := 15) (by decide) (by rw [show hc_ar (nI 15) = 1 by decide]; exact br_t (by decide) (br_f (by decide) (br_t (by decide) (br_t (by decide) (wy_fin (by omega) hax hv hv' hwx hA hwb h)))))))))))
theorem wy_value3 (hn : n < 255) (ht : t < N) (hN : N ≤ 128) (hac : ac < 256) (h1 : wt n = nI t) (h2 : wa n = nI ac) (h3 : ws n = 3) (hk : tk t = nI 14) {na vb' : Nat} (hv : vb < 512) (hv' : vb' < 512) {ax : Nat} (hax : ax < 256) (hwx : wx n = nI ax) (hA : yA ax = 1) (hwb : wb n = nI vb') (h : K 0 (nI N, yr, ym, yo, yrk, yrv, ypn, yf, yd, ya, nI na, nI n, nI (vb' + 1), vk vb, vv vb, vh vb, tk, tv, pk, pv, gk, gv, gh, cn, cd, cD, cP, lk, lv, lh, yH, yPk, yPv, yPh, yM, upd yA ax 0, wt, wa, ws, wb, wx, upd vk vb' (vk vb), upd vv vb' (vv vb), upd vh vb' (vh vb))) : wpY_step K (nI N, yr, ym, yo, yrk, yrv, ypn, yf, yd, ya, nI (na + 1), nI (n + 1), nI (vb + 1), y1, y2, y3, tk, tv, pk, pv, gk, gv, gh, cn, cd, cD, cP, lk, lv, lh, yH, yPk, yPv, yPh, yM, yA, wt, wa, ws, wb, wx, vk, vv, vh) := by
  have e1 : (nI n).toNatClampNeg = n := nI_clamp (by omega)
  have e2 : (nI t).toNatClampNeg = t := nI_clamp (by omega)
  have e3 : (nI ac).toNatClampNeg = ac := nI_clamp (by omega)
  have i1 : vp_in (nI n) 256 := vp_in_nI (by omega) (by omega)
  have i2 : vp_in (nI t) 128 := vp_in_nI (by omega) (by omega)
  have i3 : vp_in (nI ac) 256 := vp_in_nI hac (by omega)
  unfold wpY_step
  refine nm_r (nI_pred n) ⟨i1, nm_r (show _ = nI t by rw [e1, h1]) ⟨i1, nm_r (show _ = nI ac by rw [e1, h2]) ⟨i1, nm_r (show _ = 3 by rw [e1, h3]) (br_f (nI_pos (by omega)) (br_t (nI_lt ht (by omega)) ⟨i2, nm_r (show _ = nI 14 by rw [e2, hk]) ⟨i2, nm_r (congrArg tv e2) ⟨i3, nm_r (congrArg yH e3) ?_⟩⟩⟩))⟩⟩⟩
  exact br_f (by decide) (br_f (by decide) (br_f (by decide) (br_f (by decide) (br_f (by decide) (br_f (by decide) (wy_arity (k := 14) (by decide) (by rw [show hc_ar (nI 14) = 2 by decide]; exact br_f (by decide) (br_f (by decide) (br_f (by decide) (br_t (by decide) (wy_fin (by omega) hax hv hv' hwx hA hwb h)))))))))))
/-! two operands -/
theorem wy_seq2 (hn : n < 255) (ht : t < N) (hN : N ≤ 128) (hac : ac < 256) (h1 : wt n = nI t) (h2 : wa n = nI ac) (h3 : ws n = 2) (hk : tk t = nI 11) (hv : vb + 1 < 512) (h : K 0 (nI N, yr, ym, yo, yrk, yrv, ypn, yf, yd, ya, yac, nI n, nI (vb + 1), vk vb, vv vb, vh vb, tk, tv, pk, pv, gk, gv, gh, cn, cd, cD, cP, lk, lv, lh, yH, yPk, yPv, yPh, yM, yA, wt, wa, ws, wb, wx, upd vk vb (vk (vb + 1)), upd vv vb (vv (vb + 1)), upd vh vb (vh (vb + 1)))) : wpY_step K (nI N, yr, ym, yo, yrk, yrv, ypn, yf, yd, ya, yac, nI (n + 1), nI (vb + 1 + 1), y1, y2, y3, tk, tv, pk, pv, gk, gv, gh, cn, cd, cD, cP, lk, lv, lh, yH, yPk, yPv, yPh, yM, yA, wt, wa, ws, wb, wx, vk, vv, vh) := by
  have e1 : (nI n).toNatClampNeg = n := nI_clamp (by omega)
  have e2 : (nI t).toNatClampNeg = t := nI_clamp (by omega)
  have e3 : (nI ac).toNatClampNeg = ac := nI_clamp (by omega)
  have i1 : vp_in (nI n) 256 := vp_in_nI (by omega) (by omega)
  have i2 : vp_in (nI t) 128 := vp_in_nI (by omega) (by omega)
  have i3 : vp_in (nI ac) 256 := vp_in_nI hac (by omega)
  unfold wpY_step
  refine nm_r (nI_pred n) ⟨i1, nm_r (show _ = nI t by rw [e1, h1]) ⟨i1, nm_r (show _ = nI ac by rw [e1, h2]) ⟨i1, nm_r (show _ = 2 by rw [e1, h3]) (br_f (nI_pos (by omega)) (br_t (nI_lt ht (by omega)) ⟨i2, nm_r (show _ = nI 11 by rw [e2, hk]) ⟨i2, nm_r (congrArg tv e2) ⟨i3, nm_r (congrArg yH e3) ?_⟩⟩⟩))⟩⟩⟩
  exact br_f (by decide) (br_f (by decide) (br_f (by decide) (br_f (by decide) (br_f (by decide) (br_f (by decide) (wy_arity (k := 11) (by decide) (by rw [show hc_ar (nI 11) = 2 by decide]; exact br_f (by decide) (br_f (by decide) (br_f (by decide) (br_f (by decide) (wy_popV hv (wy_popV (by omega) (br_t (by decide) (wy_pushV (by omega) (nm_r (nI_pred n) h)))))))))))))))
theorem wy_calc6 (hn : n < 255) (ht : t < N) (hN : N ≤ 128) (hac : ac < 256) (h1 : wt n = nI t) (h2 : wa n = nI ac) (h3 : ws n = 2) (hk : tk t = nI 6) (hv : vb + 1 < 512) (hb : vk vb = 1 ∨ vk (vb + 1) = 1 → K 4 (nI N, yr, ym, yo, yrk, yrv, ypn, yf, yd, ya, yac, nI (n + 1), nI vb, vk vb, vv vb, vh vb, tk, tv, pk, pv, gk, gv, gh, cn, cd, cD, cP, lk, lv, lh, yH, yPk, yPv, yPh, yM, yA, wt, wa, ws, wb, wx, vk, vv, vh)) (h : vk vb ≠ 1 → vk (vb + 1) ≠ 1 → K 0 (nI N, yr, ym, yo, yrk, yrv, ypn, yf, yd, ya, yac, nI n, nI (vb + 1), vk vb, vv vb, vh vb, tk, tv, pk, pv, gk, gv, gh, cn, cd, cD, cP, lk, lv, lh, yH, yPk, yPv, yPh, yM, yA, wt, wa, ws, wb, wx, upd vk vb 0, upd vv vb (vv vb + vv (vb + 1)), upd vh vb 0)) : wpY_step K (nI N, yr, ym, yo, yrk, yrv, ypn, yf, yd, ya, yac, nI (n + 1), nI (vb + 1 + 1), y1, y2, y3, tk, tv, pk, pv, gk, gv, gh, cn, cd, cD, cP, lk, lv, lh, yH, yPk, yPv, yPh, yM, yA, wt, wa, ws, wb, wx, vk, vv, vh) := by
  have e1 : (nI n).toNatClampNeg = n := nI_clamp (by omega)
  have e2 : (nI t).toNatClampNeg = t := nI_clamp (by omega)
  have e3 : (nI ac).toNatClampNeg = ac := nI_clamp (by omega)
  have i1 : vp_in (nI n) 256 := vp_in_nI (by omega) (by omega)
  have i2 : vp_in (nI t) 128 := vp_in_nI (by omega) (by omega)
  have i3 : vp_in (nI ac) 256 := vp_in_nI hac (by omega)
  unfold wpY_step
  refine nm_r (nI_pred n) ⟨i1, nm_r (show _ = nI t by rw [e1, h1]) ⟨i1, nm_r (show _ = nI ac by rw [e1, h2]) ⟨i1, nm_r (show _ = 2 by rw [e1, h3]) (br_f (nI_pos (by omega)) (br_t (nI_lt ht (by omega)) ⟨i2, nm_r (show _ = nI 6 by rw [e2, hk]) ⟨i2, nm_r (congrArg tv e2) ⟨i3, nm_r (congrArg yH e3) ?_⟩⟩⟩))⟩⟩⟩
  have Z : (vk vb = 1 → K 4 (nI N, yr, ym, yo, yrk, yrv, ypn, yf, yd, ya, yac, nI (n + 1), nI vb, vk vb, vv vb, vh vb, tk, tv, pk, pv, gk, gv, gh, cn, cd, cD, cP, lk, lv, lh, yH, yPk, yPv, yPh, yM, yA, wt, wa, ws, wb, wx, vk, vv, vh)) ∧ (¬ vk vb = 1 → ((vk (vb + 1) = 1 → K 4 (nI N, yr, ym, yo, yrk, yrv, ypn, yf, yd, ya, yac, nI (n + 1), nI vb, vk vb, vv vb, vh vb, tk, tv, pk, pv, gk, gv, gh, cn, cd, cD, cP, lk, lv, lh, yH, yPk, yPv, yPh, yM, yA, wt, wa, ws, wb, wx, vk, vv, vh)) ∧ (¬ vk (vb + 1) = 1 → ((nI 6 = 6 → ∀ z, z = vv vb + vv (vb + 1) → wY_step_975 K (nI 6) (vv (vb + 1)) (vv vb) z (nI N) yr ym yo yrk yrv ypn yf yd ya yac (nI (n + 1)) (nI vb) (vk vb) (vv vb) (vh vb) tk tv pk pv gk gv gh cn cd cD cP lk lv lh yH yPk yPv yPh yM yA wt wa ws wb wx vk vv vh) ∧ (¬ nI 6 = 6 → wY_step_975 K (nI 6) (vv (vb + 1)) (vv vb) 0 (nI N) yr ym yo yrk yrv ypn yf yd ya yac (nI (n + 1)) (nI vb) (vk vb) (vv vb) (vh vb) tk tv pk pv gk gv gh cn cd cD cP lk lv lh yH yPk yPv yPh yM yA wt wa ws wb wx vk vv vh))))) := by
    refine ⟨fun z => hb (Or.inl z), fun z => ⟨fun y => hb (Or.inr y), fun y => ?_⟩⟩
    have C := h z y
    exact br_t (by decide) (nm_e (br_f (by decide) (br_f (by decide) (br_f (by decide) (wy_pushV (by omega) (nm_r (nI_pred n) C))))))
  exact br_f (by decide) (br_f (by decide) (br_f (by decide) (br_f (by decide) (br_f (by decide) (br_f (by decide) (wy_arity (k := 6) (by decide) (by rw [show hc_ar (nI 6) = 2 by decide]; exact br_f (by decide) (br_f (by decide) (br_f (by decide) (br_f (by decide) (wy_popV hv (wy_popV (by omega) (br_f (by decide) (br_f (by decide) Z))))))))))))))
theorem wy_calc7 (hn : n < 255) (ht : t < N) (hN : N ≤ 128) (hac : ac < 256) (h1 : wt n = nI t) (h2 : wa n = nI ac) (h3 : ws n = 2) (hk : tk t = nI 7) (hv : vb + 1 < 512) (hb : vk vb = 1 ∨ vk (vb + 1) = 1 → K 4 (nI N, yr, ym, yo, yrk, yrv, ypn, yf, yd, ya, yac, nI (n + 1), nI vb, vk vb, vv vb, vh vb, tk, tv, pk, pv, gk, gv, gh, cn, cd, cD, cP, lk, lv, lh, yH, yPk, yPv, yPh, yM, yA, wt, wa, ws, wb, wx, vk, vv, vh)) (h : vk vb ≠ 1 → vk (vb + 1) ≠ 1 → K 0 (nI N, yr, ym, yo, yrk, yrv, ypn, yf, yd, ya, yac, nI n, nI (vb + 1), vk vb, vv vb, vh vb, tk, tv, pk, pv, gk, gv, gh, cn, cd, cD, cP, lk, lv, lh, yH, yPk, yPv, yPh, yM, yA, wt, wa, ws, wb, wx, upd vk vb 0, upd vv vb (vv vb - vv (vb + 1)), upd vh vb 0)) : wpY_step K (nI N, yr, ym, yo, yrk, yrv, ypn, yf, yd, ya, yac, nI (n + 1), nI (vb + 1 + 1), y1, y2, y3, tk, tv, pk, pv, gk, gv, gh, cn, cd, cD, cP, lk, lv, lh, yH, yPk, yPv, yPh, yM, yA, wt, wa, ws, wb, wx, vk, vv, vh) := by
  have e1 : (nI n).toNatClampNeg = n := nI_clamp (by omega)
  have e2 : (nI t).toNatClampNeg = t := nI_clamp (by omega)
  have e3 : (nI ac).toNatClampNeg = ac := nI_clamp (by omega)
  have i1 : vp_in (nI n) 256 := vp_in_nI (by omega) (by omega)
  have i2 : vp_in (nI t) 128 := vp_in_nI (by omega) (by omega)
  have i3 : vp_in (nI ac) 256 := vp_in_nI hac (by omega)
  unfold wpY_step
  refine nm_r (nI_pred n) ⟨i1, nm_r (show _ = nI t by rw [e1, h1]) ⟨i1, nm_r (show _ = nI ac by rw [e1, h2]) ⟨i1, nm_r (show _ = 2 by rw [e1, h3]) (br_f (nI_pos (by omega)) (br_t (nI_lt ht (by omega)) ⟨i2, nm_r (show _ = nI 7 by rw [e2, hk]) ⟨i2, nm_r (congrArg tv e2) ⟨i3, nm_r (congrArg yH e3) ?_⟩⟩⟩))⟩⟩⟩
  have Z : (vk vb = 1 → K 4 (nI N, yr, ym, yo, yrk, yrv, ypn, yf, yd, ya, yac, nI (n + 1), nI vb, vk vb, vv vb, vh vb, tk, tv, pk, pv, gk, gv, gh, cn, cd, cD, cP, lk, lv, lh, yH, yPk, yPv, yPh, yM, yA, wt, wa, ws, wb, wx, vk, vv, vh)) ∧ (¬ vk vb = 1 → ((vk (vb + 1) = 1 → K 4 (nI N, yr, ym, yo, yrk, yrv, ypn, yf, yd, ya, yac, nI (n + 1), nI vb, vk vb, vv vb, vh vb, tk, tv, pk, pv, gk, gv, gh, cn, cd, cD, cP, lk, lv, lh, yH, yPk, yPv, yPh, yM, yA, wt, wa, ws, wb, wx, vk, vv, vh)) ∧ (¬ vk (vb + 1) = 1 → ((nI 7 = 6 → ∀ z, z = vv vb + vv (vb + 1) → wY_step_975 K (nI 7) (vv (vb + 1)) (vv vb) z (nI N) yr ym yo yrk yrv ypn yf yd ya yac (nI (n + 1)) (nI vb) (vk vb) (vv vb) (vh vb) tk tv pk pv gk gv gh cn cd cD cP lk lv lh yH yPk yPv yPh yM yA wt wa ws wb wx vk vv vh) ∧ (¬ nI 7 = 6 → wY_step_975 K (nI 7) (vv (vb + 1)) (vv vb) 0 (nI N) yr ym yo yrk yrv ypn yf yd ya yac (nI (n + 1)) (nI vb) (vk vb) (vv vb) (vh vb) tk tv pk pv gk gv gh cn cd cD cP lk lv lh yH yPk yPv yPh yM yA wt wa ws wb wx vk vv vh))))) := by
    refine ⟨fun z => hb (Or.inl z), fun z => ⟨fun y => hb (Or.inr y), fun y => ?_⟩⟩
    have C := h z y
    exact br_f (by decide) (br_t (by decide) (nm_e (br_f (by decide) (br_f (by decide) (wy_pushV (by omega) (nm_r (nI_pred n) C))))))
  exact br_f (by decide) (br_f (by decide) (br_f (by decide) (br_f (by decide) (br_f (by decide) (br_f (by decide) (wy_arity (k := 7) (by decide) (by rw [show hc_ar (nI 7) = 2 by decide]; exact br_f (by decide) (br_f (by decide) (br_f (by decide) (br_f (by decide) (wy_popV hv (wy_popV (by omega) (br_f (by decide) (br_f (by decide) Z))))))))))))))
theorem wy_calc8 (hn : n < 255) (ht : t < N) (hN : N ≤ 128) (hac : ac < 256) (h1 : wt n = nI t) (h2 : wa n = nI ac) (h3 : ws n = 2) (hk : tk t = nI 8) (hv : vb + 1 < 512) (hb : vk vb = 1 ∨ vk (vb + 1) = 1 → K 4 (nI N, yr, ym, yo, yrk, yrv, ypn, yf, yd, ya, yac, nI (n + 1), nI vb, vk vb, vv vb, vh vb, tk, tv, pk, pv, gk, gv, gh, cn, cd, cD, cP, lk, lv, lh, yH, yPk, yPv, yPh, yM, yA, wt, wa, ws, wb, wx, vk, vv, vh)) (h : vk vb ≠ 1 → vk (vb + 1) ≠ 1 → K 0 (nI N, yr, ym, yo, yrk, yrv, ypn, yf, yd, ya, yac, nI n, nI (vb + 1), vk vb, vv vb, vh vb, tk, tv, pk, pv, gk, gv, gh, cn, cd, cD, cP, lk, lv, lh, yH, yPk, yPv, yPh, yM, yA, wt, wa, ws, wb, wx, upd vk vb 0, upd vv vb (vv vb * vv (vb + 1)), upd vh vb 0)) : wpY_step K (nI N, yr, ym, yo, yrk, yrv, ypn, yf, yd, ya, yac, nI (n + 1), nI (vb + 1 + 1), y1, y2, y3, tk, tv, pk, pv, gk, gv, gh, cn, cd, cD, cP, lk, lv, lh, yH, yPk, yPv, yPh, yM, yA, wt, wa, ws, wb, wx, vk, vv, vh) := by
  have e1 : (nI n).toNatClampNeg = n := nI_clamp (by omega)
  have e2 : (nI t).toNatClampNeg = t := nI_clamp (by omega)
  have e3 : (nI ac).toNatClampNeg = ac := nI_clamp (by omega)
  have i1 : vp_in (nI n) 256 := vp_in_nI (by omega) (by omega)
  have i2 : vp_in (nI t) 128 := vp_in_nI (by omega) (by omega)
  have i3 : vp_in (nI ac) 256 := vp_in_nI hac (by omega)
  unfold wpY_step
  refine nm_r (nI_pred n) ⟨i1, nm_r (show _ = nI t by rw [e1, h1]) ⟨i1, nm_r (show _ = nI ac by rw [e1, h2]) ⟨i1, nm_r (show _ = 2 by rw [e1, h3]) (br_f (nI_pos (by omega)) (br_t (nI_lt ht (by omega)) ⟨i2, nm_r (show _ = nI 8 by rw [e2, hk]) ⟨i2, nm_r (congrArg tv e2) ⟨i3, nm_r (congrArg yH e3) ?_⟩⟩⟩))⟩⟩⟩
  have Z : (vk vb = 1 → K 4 (nI N, yr, ym, yo, yrk, yrv, ypn, yf, yd, ya, yac, nI (n + 1), nI vb, vk vb, vv vb, vh vb, tk, tv, pk, pv, gk, gv, gh, cn, cd, cD, cP, lk, lv, lh, yH, yPk, yPv, yPh, yM, yA, wt, wa, ws, wb, wx, vk, vv, vh)) ∧ (¬ vk vb = 1 → ((vk (vb + 1) = 1 → K 4 (nI N, yr, ym, yo, yrk, yrv, ypn, yf, yd, ya, yac, nI (n + 1), nI vb, vk vb, vv vb, vh vb, tk, tv, pk, pv, gk, gv, gh, cn, cd, cD, cP, lk, lv, lh, yH, yPk, yPv, yPh, yM, yA, wt, wa, ws, wb, wx, vk, vv, vh)) ∧ (¬ vk (vb + 1) = 1 → ((nI 8 = 6 → ∀ z, z = vv vb + vv (vb + 1) → wY_step_975 K (nI 8) (vv (vb + 1)) (vv vb) z (nI N) yr ym yo yrk yrv ypn yf yd ya yac (nI (n + 1)) (nI vb) (vk vb) (vv vb) (vh vb) tk tv pk pv gk gv gh cn cd cD cP lk lv lh yH yPk yPv yPh yM yA wt wa ws wb wx vk vv vh) ∧ (¬ nI 8 = 6 → wY_step_975 K (nI 8) (vv (vb + 1)) (vv vb) 0 (nI N) yr ym yo yrk yrv ypn yf yd ya yac (nI (n + 1)) (nI vb) (vk vb) (vv vb) (vh vb) tk tv pk pv gk gv gh cn cd cD cP lk lv lh yH yPk yPv yPh yM yA wt wa ws wb wx vk vv vh))))) := by
    refine ⟨fun z => hb (Or.inl z), fun z => ⟨fun y => hb (Or.inr y), fun y => ?_⟩⟩
    have C := h z y
    exact br_f (by decide) (br_f (by decide) (br_t (by decide) (nm_e (br_f (by decide) (wy_pushV (by omega) (nm_r (nI_pred n) C))))))
  exact br_f (by decide) (br_f (by decide) (br_f (by decide) (br_f (by decide) (br_f (by decide) (br_f (by decide) (wy_arity (k := 8) (by decide) (by rw [show hc_ar (nI 8) = 2 by decide]; exact br_f (by decide) (br_f (by decide) (br_f (by decide) (br_f (by decide) (wy_popV hv (wy_popV (by omega) (br_f (by decide) (br_f (by decide) Z))))))))))))))
theorem wy_calc9 (hn : n < 255) (ht : t < N) (hN : N ≤ 128) (hac : ac < 256) (h1 : wt n = nI t) (h2 : wa n = nI ac) (h3 : ws n = 2) (hk : tk t = nI 9) (hv : vb + 1 < 512) (hb : vk vb = 1 ∨ vk (vb + 1) = 1 → K 4 (nI N, yr, ym, yo, yrk, yrv, ypn, yf, yd, ya, yac, nI (n + 1), nI vb, vk vb, vv vb, vh vb, tk, tv, pk, pv, gk, gv, gh, cn, cd, cD, cP, lk, lv, lh, yH, yPk, yPv, yPh, yM, yA, wt, wa, ws, wb, wx, vk, vv, vh)) (h : vk vb ≠ 1 → vk (vb + 1) ≠ 1 → K 0 (nI N, yr, ym, yo, yrk, yrv, ypn, yf, yd, ya, yac, nI n, nI (vb + 1), vk vb, vv vb, vh vb, tk, tv, pk, pv, gk, gv, gh, cn, cd, cD, cP, lk, lv, lh, yH, yPk, yPv, yPh, yM, yA, wt, wa, ws, wb, wx, upd vk vb 0, upd vv vb (if vv vb < vv (vb + 1) then 1 else 0), upd vh vb 0)) : wpY_step K (nI N, yr, ym, yo, yrk, yrv, ypn, yf, yd, ya, yac, nI (n + 1), nI (vb + 1 + 1), y1, y2, y3, tk, tv, pk, pv, gk, gv, gh, cn, cd, cD, cP, lk, lv, lh, yH, yPk, yPv, yPh, yM, yA, wt, wa, ws, wb, wx, vk, vv, vh) := by
  have e1 : (nI n).toNatClampNeg = n := nI_clamp (by omega)
  have e2 : (nI t).toNatClampNeg = t := nI_clamp (by omega)
  have e3 : (nI ac).toNatClampNeg = ac := nI_clamp (by omega)
  have i1 : vp_in (nI n) 256 := vp_in_nI (by omega) (by omega)
  have i2 : vp_in (nI t) 128 := vp_in_nI (by omega) (by omega)
  have i3 : vp_in (nI ac) 256 := vp_in_nI hac (by omega)
  unfold wpY_step
  refine nm_r (nI_pred n) ⟨i1, nm_r (show _ = nI t by rw [e1, h1]) ⟨i1, nm_r (show _ = nI ac by rw [e1, h2]) ⟨i1, nm_r (show _ = 2 by rw [e1, h3]) (br_f (nI_pos (by omega)) (br_t (nI_lt ht (by omega)) ⟨i2, nm_r (show _ = nI 9 by rw [e2, hk]) ⟨i2, nm_r (congrArg tv e2) ⟨i3, nm_r (congrArg yH e3) ?_⟩⟩⟩))⟩⟩⟩
  have Z : (vk vb = 1 → K 4 (nI N, yr, ym, yo, yrk, yrv, ypn, yf, yd, ya, yac, nI (n + 1), nI vb, vk vb, vv vb, vh vb, tk, tv, pk, pv, gk, gv, gh, cn, cd, cD, cP, lk, lv, lh, yH, yPk, yPv, yPh, yM, yA, wt, wa, ws, wb, wx, vk, vv, vh)) ∧ (¬ vk vb = 1 → ((vk (vb + 1) = 1 → K 4 (nI N, yr, ym, yo, yrk, yrv, ypn, yf, yd, ya, yac, nI (n + 1), nI vb, vk vb, vv vb, vh vb, tk, tv, pk, pv, gk, gv, gh, cn, cd, cD, cP, lk, lv, lh, yH, yPk, yPv, yPh, yM, yA, wt, wa, ws, wb, wx, vk, vv, vh)) ∧ (¬ vk (vb + 1) = 1 → ((nI 9 = 6 → ∀ z, z = vv vb + vv (vb + 1) → wY_step_975 K (nI 9) (vv (vb + 1)) (vv vb) z (nI N) yr ym yo yrk yrv ypn yf yd ya yac (nI (n + 1)) (nI vb) (vk vb) (vv vb) (vh vb) tk tv pk pv gk gv gh cn cd cD cP lk lv lh yH yPk yPv yPh yM yA wt wa ws wb wx vk vv vh) ∧ (¬ nI 9 = 6 → wY_step_975 K (nI 9) (vv (vb + 1)) (vv vb) 0 (nI N) yr ym yo yrk yrv ypn yf yd ya yac (nI (n + 1)) (nI vb) (vk vb) (vv vb) (vh vb) tk tv pk pv gk gv gh cn cd cD cP lk lv lh yH yPk yPv yPh yM yA wt wa ws wb wx vk vv vh))))) := by
    refine ⟨fun z => hb (Or.inl z), fun z => ⟨fun y => hb (Or.inr y), fun y => ?_⟩⟩
    have C := h z y
    refine br_f (by decide) (br_f (by decide) (br_f (by decide) (br_t (by decide) ?_)))
    by_cases w : vv vb < vv (vb + 1)
    · rw [if_pos w] at C
      refine br_f (fun x => absurd w (Int32.not_lt.mpr x)) ?_
      unfold wY_step_1022 wY_step_1024
      exact wy_pushV (by omega) (nm_r (nI_pred n) C)
    · rw [if_neg w] at C
      refine br_t (Int32.not_lt.mp w) ?_
      unfold wY_step_1022 wY_step_1024
      exact wy_pushV (by omega) (nm_r (nI_pred n) C)
  exact br_f (by decide) (br_f (by decide) (br_f (by decide) (br_f (by decide) (br_f (by decide) (br_f (by decide) (wy_arity (k := 9) (by decide) (by rw [show hc_ar (nI 9) = 2 by decide]; exact br_f (by decide) (br_f (by decide) (br_f (by decide) (br_f (by decide) (wy_popV hv (wy_popV (by omega) (br_f (by decide) (br_f (by decide) Z))))))))))))))
theorem wy_value2 (hn : n < 255) (ht : t < N) (hN : N ≤ 128) (hac : ac < 256) (h1 : wt n = nI t) (h2 : wa n = nI ac) (h3 : ws n = 2) (hk : tk t = nI 14) {fl na an tb hb : Nat} (hv : vb + 1 < 512) (hfl : fl < 256) (hna : na ≤ 16) (han : fl ≠ 0 → an < 256) (hbl : vk vb = 1 → vv vb = nI tb ∧ vh vb = nI hb ∧ hb < an) (hty : vk vb ≠ 1 → K 4 (nI N, yr, ym, yo, yrk, yrv, ypn, nI fl, yd, nI an, nI na, nI (n + 1), nI vb, vk vb, vv vb, vh vb, tk, tv, pk, pv, gk, gv, gh, cn, cd, cD, cP, lk, lv, lh, yH, yPk, yPv, yPh, yM, yA, wt, wa, ws, wb, wx, vk, vv, vh)) (h0 : vk vb = 1 → fl = 0 → K 3 (nI N, yr, ym, yo, yrk, yrv, ypn, nI 0, yd, nI an, nI na, nI (n + 1), nI vb, vk vb, vv vb, vh vb, tk, tv, pk, pv, gk, gv, gh, cn, cd, cD, cP, lk, lv, lh, yH, yPk, yPv, yPh, yM, yA, wt, wa, ws, wb, wx, vk, vv, vh)) (h1' : vk vb = 1 → ∀ f1, fl = f1 + 1 → na = 16 → K 5 (nI N, yr, ym, yo, yrk, yrv, ypn, nI f1, yd, nI an, nI na, nI (n + 1), nI vb, vk vb, vv vb, vh vb, tk, tv, pk, pv, gk, gv, gh, cn, cd, cD, cP, lk, lv, lh, yH, yPk, yPv, yPh, yM, yA, wt, wa, ws, wb, wx, vk, vv, vh))
    (h2' : vk vb = 1 → ∀ f1, fl = f1 + 1 → na < 16 → K 0 (nI N, yr, ym, yo, yrk, yrv, ypn, nI f1, wk_mx yd (nI (na + 1)), nI (an + 1), nI (na + 1), nI (n + 1 + 1), nI vb, vk vb, vv vb, vh vb, tk, tv, pk, pv, gk, gv, gh, cn, cd, cD, cP, wk_z4 lk (an * 4), wk_z4 lv (an * 4), wk_z4 lh (an * 4), upd yH an (nI hb), upd yPk an (vk (vb + 1)), upd yPv an (vv (vb + 1)), upd yPh an (vh (vb + 1)), upd yM an 0, upd yA an 1, upd wt (n + 1) (nI (tb + 1)), upd wa (n + 1) (nI an), upd (upd ws n 3) (n + 1) 0, upd wb (n + 1) (nI vb), upd (upd wx n (nI an)) (n + 1) 0, vk, vv, vh)) : wpY_step K (nI N, yr, ym, yo, yrk, yrv, ypn, nI fl, yd, nI an, nI na, nI (n + 1), nI (vb + 1 + 1), y1, y2, y3, tk, tv, pk, pv, gk, gv, gh, cn, cd, cD, cP, lk, lv, lh, yH, yPk, yPv, yPh, yM, yA, wt, wa, ws, wb, wx, vk, vv, vh) := by
  have e1 : (nI n).toNatClampNeg = n := nI_clamp (by omega)
  have e2 : (nI t).toNatClampNeg = t := nI_clamp (by omega)
  have e3 : (nI ac).toNatClampNeg = ac := nI_clamp (by omega)
  have i1 : vp_in (nI n) 256 := vp_in_nI (by omega) (by omega)
  have i2 : vp_in (nI t) 128 := vp_in_nI (by omega) (by omega)
  have i3 : vp_in (nI ac) 256 := vp_in_nI hac (by omega)
  unfold wpY_step
  refine nm_r (nI_pred n) ⟨i1, nm_r (show _ = nI t by rw [e1, h1]) ⟨i1, nm_r (show _ = nI ac by rw [e1, h2]) ⟨i1, nm_r (show _ = 2 by rw [e1, h3]) (br_f (nI_pos (by omega)) (br_t (nI_lt ht (by omega)) ⟨i2, nm_r (show _ = nI 14 by rw [e2, hk]) ⟨i2, nm_r (congrArg tv e2) ⟨i3, nm_r (congrArg yH e3) ?_⟩⟩⟩))⟩⟩⟩
  have Z : ∀ x9 : Int32, x9 = vv vb → ((vk vb = 1 → ((nI fl = 0 → K 3 (nI N, yr, ym, yo, yrk, yrv, ypn, nI fl, yd, nI an, nI na, nI (n + 1), nI vb, vk vb, vv vb, vh vb, tk, tv, pk, pv, gk, gv, gh, cn, cd, cD, cP, lk, lv, lh, yH, yPk, yPv, yPh, yM, yA, wt, wa, ws, wb, wx, vk, vv, vh)) ∧ (¬ nI fl = 0 → ∀ f1, f1 = nI fl - 1 → ((nI na < 16 → ((nI an < 256 → wpY_newAct (fun r' u => match u with | (yn, yr, ym, yo, yrk, yrv, ypn, yf, yd, ya, yac, yw, yv, y1, y2, y3, tk, tv, pk, pv, gk, gv, gh, cn, cd, cD, cP, lk, lv, lh, yH, yPk, yPv, yPh, yM, yA, wt, wa, ws, wb, wx, vk, vv, vh) => vp_in (nI n) 256 ∧ ∀ w1, w1 = upd ws (nI n).toNatClampNeg 3 → (vp_in (nI n) 256 ∧ ∀ w2, w2 = upd wx (nI n).toNatClampNeg r' → wpY_pushW (K 0) (yn, yr, ym, yo, yrk, yrv, ypn, yf, yd, ya, yac, yw, yv, y1, y2, y3, tk, tv, pk, pv, gk, gv, gh, cn, cd, cD, cP, lk, lv, lh, yH, yPk, yPv, yPh, yM, yA, wt, wa, w1, wb, w2, vk, vv, vh) (x9 + 1) r')) (nI N, yr, ym, yo, yrk, yrv, ypn, f1, yd, nI an, nI na, nI (n + 1), nI vb, vk vb, vv vb, vh vb, tk, tv, pk, pv, gk, gv, gh, cn, cd, cD, cP, lk, lv, lh, yH, yPk, yPv, yPh, yM, yA, wt, wa, ws, wb, wx, vk, vv, vh) 0 (vh vb) (vk (vb + 1)) (vv (vb + 1)) (vh (vb + 1))) ∧ (¬ nI an < 256 → K 3 (nI N, yr, ym, yo, yrk, yrv, ypn, f1, yd, nI an, nI na, nI (n + 1), nI vb, vk vb, vv vb, vh vb, tk, tv, pk, pv, gk, gv, gh, cn, cd, cD, cP, lk, lv, lh, yH, yPk, yPv, yPh, yM, yA, wt, wa, ws, wb, wx, vk, vv, vh)))) ∧ (¬ nI na < 16 → K 5 (nI N, yr, ym, yo, yrk, yrv, ypn, f1, yd, nI an, nI na, nI (n + 1), nI vb, vk vb, vv vb, vh vb, tk, tv, pk, pv, gk, gv, gh, cn, cd, cD, cP, lk, lv, lh, yH, yPk, yPv, yPh, yM, yA, wt, wa, ws, wb, wx, vk, vv, vh)))))) ∧ (¬ vk vb = 1 → K 4 (nI N, yr, ym, yo, yrk, yrv, ypn, nI fl, yd, nI an, nI na, nI (n + 1), nI vb, vk vb, vv vb, vh vb, tk, tv, pk, pv, gk, gv, gh, cn, cd, cD, cP, lk, lv, lh, yH, yPk, yPv, yPh, yM, yA, wt, wa, ws, wb, wx, vk, vv, vh))) := by
    intro x9 hx9
    refine ⟨fun z => ?_, hty⟩
    obtain ⟨b1, b2, b3⟩ := hbl z
    cases fl with
    | zero => exact br_t rfl (h0 z rfl)
    | succ f1 =>
      refine br_f (nI_ne0 (by omega) (by omega)) (nm_r (nI_pred f1) ?_)
      by_cases y : na = 16
      · exact br_f (nI_nlt (b := 16) (by omega) (by omega)) (h1' z f1 rfl y)
      · refine br_t (nI_lt (b := 16) (by omega) (by decide)) (br_t (nI_lt (b := 256) (han (by omega)) (by decide)) ?_)
        refine wy_newB (han (by omega)) b3 b2 ⟨i1, nm_r (show _ = upd ws n 3 by rw [e1]) ⟨i1, nm_r (show _ = upd wx n (nI an) by rw [e1]) ?_⟩⟩
        rw [show x9 = nI tb from hx9.trans b1, nI_1 tb]
        exact wy_pushW (by omega) (h2' z f1 rfl (by omega))
  exact br_f (by decide) (br_f (by decide) (br_f (by decide) (br_f (by decide) (br_f (by decide) (br_f (by decide) (wy_arity (k := 14) (by decide) (by rw [show hc_ar (nI 14) = 2 by decide]; exact br_f (by decide) (br_f (by decide) (br_f (by decide) (br_f (by decide) (wy_popV hv (wy_popV (by omega) (br_f (by decide) (br_t (by decide) (Z _ rfl)))))))))))))))
end
end
section
section
variable {yn yr ym yo yrk yrv ypn yf yd ya yac yw yv y1 y2 y3 : Int32} {tk tv pk pv gk gv gh cn cd cD cP lk lv lh yH yPk yPv yPh yM yA wt wa ws wb wx vk vv vh : Nat → Int32} {K : Int32 → SY → Prop} {N n vb t ac : Nat}
/-! the return of Y -/
theorem wy_165 {rk rv rh : Int32} (h : K 1 (yn, yr, ym, yo, rk, rv, ypn, yf, yd, ya, yac, nI 0, yv, y1, y2, y3, tk, tv, pk, pv, gk, gv, gh, cn, cd, cD, cP, lk, lv, lh, yH, yPk, yPv, yPh, yM, yA, wt, wa, ws, wb, wx, vk, vv, vh)) : wY_doRet_165 K rk rv rh yn yr ym yo yrk yrv ypn yf yd ya yac (nI 0) yv y1 y2 y3 tk tv pk pv gk gv gh cn cd cD cP lk lv lh yH yPk yPv yPh yM yA wt wa ws wb wx vk vv vh := br_t rfl h
theorem wy_165' {rk rv rh : Int32} {b vb' : Nat} (hb : b < 255) (hv : vb' < 512) (hwb : wb b = nI vb') (h : K 0 (yn, yr, ym, yo, yrk, yrv, ypn, yf, yd, ya, yac, nI b, nI (vb' + 1), y1, y2, y3, tk, tv, pk, pv, gk, gv, gh, cn, cd, cD, cP, lk, lv, lh, yH, yPk, yPv, yPh, yM, yA, wt, wa, ws, wb, wx, upd vk vb' rk, upd vv vb' rv, upd vh vb' rh)) : wY_doRet_165 K rk rv rh yn yr ym yo yrk yrv ypn yf yd ya yac (nI (b + 1)) yv y1 y2 y3 tk tv pk pv gk gv gh cn cd cD cP lk lv lh yH yPk yPv yPh yM yA wt wa ws wb wx vk vv vh := by
  have e : nI (b + 1) - 1 = nI b := nI_pred b
  refine br_f (nI_ne0 (by omega) (by omega)) ⟨by rw [e]; exact vp_in_nI (by omega) (by omega), nm_r (show _ = nI vb' by rw [e, nI_clamp (by omega), hwb]) (wy_pushV hv (nm_r e h))⟩
/-- entries are taken off down to place b -/
theorem wy_83 {rk rv rh : Int32} {hh b : Nat} (hN : N ≤ 128) (hb : b = 0 ∨ ∃ b' t, b = b' + 1 ∧ t < N ∧ wt b' = nI t ∧ tk t = 15 ∧ ws b' = 2 ∧ wx b' = nI hh) (h : wY_doRet_165 K rk rv rh yn yr ym yo yrk yrv ypn yf yd ya yac (nI b) yv y1 y2 y3 tk tv pk pv gk gv gh cn cd cD cP lk lv lh yH yPk yPv yPh yM yA wt wa ws wb wx vk vv vh) : ∀ d c, (∀ j, b ≤ j → j < b + d → hs_no tk N wt ws wx hh j) → c + (b + d) < 256 → wY_doRet_83 K rk rv rh (nI hh) yn yr ym yo yrk yrv ypn yf yd ya yac yv y1 y2 y3 tk tv pk pv gk gv gh cn cd cD cP lk lv lh yH yPk yPv yPh yM yA wt wa ws wb wx vk vv vh (d + 1) (nI c) (nI (b + d)) := by
  intro d
  induction d with
  | zero =>
    intro c _ hc
    refine br_f (nI_ge (b := 256) (by omega) (by decide)) ?_
    rcases hb with z | ⟨b', t, rfl, ht, w1, w2, w3, w4⟩
    · subst z; exact br_t (by decide) h
    · have e : nI (b' + 1) - 1 = nI b' := nI_pred b'
      have e1 : (nI b').toNatClampNeg = b' := nI_clamp (by omega)
      have i : vp_in (nI b') 256 := vp_in_nI (by omega) (by omega)
      exact br_f (nI_nle (by omega) (by omega)) (nm_r e ⟨i, by rw [e1, w1]; exact vp_in_nI (by omega) (by omega), br_t (by rw [e1, w1, nI_clamp (by omega)]; exact w2) ⟨i, br_t (by rw [e1]; exact w3) ⟨i, br_t (by rw [e1]; exact w4) h⟩⟩⟩)
  | succ d ih =>
    intro c hno hc
    have e : nI (b + d + 1) - 1 = nI (b + d) := nI_pred _
    have e1 : (nI (b + d)).toNatClampNeg = b + d := nI_clamp (by omega)
    have i : vp_in (nI (b + d)) 256 := vp_in_nI (by omega) (by omega)
    have Q : wY_doRet_149 K (wY_doRet_83 K rk rv rh (nI hh) yn yr ym yo yrk yrv ypn yf yd ya yac yv y1 y2 y3 tk tv pk pv gk gv gh cn cd cD cP lk lv lh yH yPk yPv yPh yM yA wt wa ws wb wx vk vv vh (d + 1)) rk rv rh (nI hh) (nI c) yn yr ym yo yrk yrv ypn yf yd ya yac (nI (b + d + 1)) yv y1 y2 y3 tk tv pk pv gk gv gh cn cd cD cP lk lv lh yH yPk yPv yPh yM yA wt wa ws wb wx vk vv vh := nm_r e (nm_r (nI_1 c) (ih (c + 1) (fun j h1 h2 => hno j h1 (by omega)) (by omega)))
    obtain ⟨t, ht, w1, w2⟩ := hno (b + d) (by omega) (by omega)
    refine br_f (nI_ge (b := 256) (by omega) (by decide)) (br_f (nI_nle (by omega) (by omega)) (nm_r e ⟨i, by rw [e1, w1]; exact vp_in_nI (by omega) (by omega), ?_⟩))
    have et : tk (wt (nI (b + d)).toNatClampNeg).toNatClampNeg = tk t := by rw [e1, w1, nI_clamp (by omega)]
    by_cases z1 : tk t = 15
    · refine br_t (et.trans z1) ⟨i, ?_⟩
      by_cases z2 : ws (b + d) = 2
      · refine br_t (by rw [e1]; exact z2) ⟨i, ?_⟩
        exact br_f (by rw [e1]; exact fun z3 => w2 ⟨z1, z2, z3⟩) Q
      · exact br_f (by rw [e1]; exact z2) Q
    · exact br_f (by rw [et]; exact z1) Q
/-- the activations from place p on end -/
theorem wy_37 {rk rv rh : Int32} {na an p : Nat} {A : Nat → Nat} {z0 : Int32} (han : an ≤ 256) (hna : na ≤ 16) (hp : p < na) (hA : ∀ i j, i < j → j < na → A i < A j) (hAa : ∀ q, q < na → A q < an ∧ yA (A q) = 1) (hAx : ∀ m, m < an → yA m = 0 ∨ ∃ q, q < na ∧ A q = m)
    (h : ∀ yA' : Nat → Int32, (∀ m, A p ≤ m → m < an → yA' m = 0) → (∀ m, (m < A p ∨ an ≤ m) → yA' m = yA m) → ∃ n83, wY_doRet_83 K rk rv rh z0 yn yr ym yo yrk yrv ypn yf yd (nI an) (nI p) yv y1 y2 y3 tk tv pk pv gk gv gh cn cd cD cP lk lv lh yH yPk yPv yPh yM yA' wt wa ws wb wx vk vv vh n83 0 yw) :
    ∀ d i r yA', i + d = an → A p ≤ i → p ≤ r → r ≤ na → (∀ q, q < r → A q < i) → (∀ q, r ≤ q → q < na → i ≤ A q) → (∀ m, A p ≤ m → m < i → yA' m = 0) → (∀ m, (m < A p ∨ i ≤ m) → yA' m = yA m) →
    wY_doRet_37 K rk rv rh z0 yn yr ym yo yrk yrv ypn yf yd (nI an) yw yv y1 y2 y3 (d + 1) (nI i) (nI (p + (na - r))) tk tv pk pv gk gv gh cn cd cD cP lk lv lh yH yPk yPv yPh yM yA' wt wa ws wb wx vk vv vh := by
  intro d
  induction d with
  | zero =>
    intro i r yA' hi hpi hpr hrn h1 h2 h3 h4
    have ei : i = an := by omega
    subst ei
    have er : r = na := by
      rcases Nat.lt_or_ge r na with z | z
      · have := h2 r (Nat.le_refl _) z
        have := (hAa r z).1
        omega
      · omega
    subst er
    refine br_t (nI_le (Nat.le_refl _) (by omega)) ?_
    rw [Nat.sub_self, Nat.add_zero]
    exact h yA' h3 h4
  | succ d ih =>
    intro i r yA' hi hpi hpr hrn h1 h2 h3 h4
    have e : (nI i).toNatClampNeg = i := nI_clamp (by omega)
    have iv : vp_in (nI i) 256 := vp_in_nI (by omega) (by omega)
    have y := h4 i (Or.inr (Nat.le_refl _))
    refine br_f (nI_ge (by omega) (by omega)) ⟨iv, ?_⟩
    by_cases z : yA i = 0
    · refine br_t (by rw [e, y]; exact z) (nm_r (nI_1 i) (ih (i + 1) r yA' (by omega) (by omega) hpr hrn (fun q hq => by have := h1 q hq; omega) (fun q hq1 hq2 => ?_) (fun m m1 m2 => ?_) (fun m hm => h4 m (by omega))))
      · have a1 := h2 q hq1 hq2
        have a2 := (hAa q hq2).2
        by_cases ee : A q = i
        · rw [ee, z] at a2; exact absurd a2 (by decide)
        · omega
      · by_cases ee : m = i
        · rw [ee, y]; exact z
        · exact h3 m m1 (by omega)
    · obtain ⟨q, q1, q2⟩ := (hAx i (by omega)).resolve_left z
      have qr : q = r := by
        rcases Nat.lt_trichotomy q r with x | x | x
        · have := h1 q x; omega
        · exact x
        · have a1 := hA r q x q1
          have a2 := h2 r (Nat.le_refl _) (by omega)
          omega
      subst qr
      have en : nI (p + (na - q)) - 1 = nI (p + (na - (q + 1))) := by
        rw [show p + (na - q) = p + (na - (q + 1)) + 1 by omega]; exact nI_pred _
      refine br_f (by rw [e, y]; exact z) ⟨iv, nm_r (show _ = upd yA' i 0 by rw [e, wk_b0]) (nm_r en (nm_r (nI_1 i) (ih (i + 1) (q + 1) (upd yA' i 0) (by omega) (by omega) (by omega) (by omega) (fun q' hq' => ?_) (fun q' hq1 hq2 => ?_) (fun m m1 m2 => ?_) (fun m hm => ?_))))⟩
      · by_cases ee : q' = q
        · rw [ee]; omega
        · have := h1 q' (by omega); omega
      · have := hA q q' (by omega) hq2; omega
      · by_cases ee : m = i
        · rw [ee, pk_us]
        · rw [pk_un ee]; exact h3 m m1 (by omega)
      · rw [pk_un (by omega)]; exact h4 m (by omega)
/-- all that are active from lo on, ended -/
def hy_c (lo hi : Nat) (g : Nat → Int32) : Nat → Int32 := fun m => if lo ≤ m ∧ m < hi then 0 else g m
/-- doRet to a home that is active at place p; entries down to b -/
theorem wy_ret1 {rk rv rh : Int32} {na an p hh b : Nat} {A : Nat → Nat} (hac : ac < 256) (hhh : (yM ac = 0 ∧ yH ac = nI hh) ∨ (yM ac ≠ 0 ∧ hh = ac)) (han : an ≤ 256) (hna : na ≤ 16) (hp : p < na) (hAp : A p = hh) (hA : ∀ i j, i < j → j < na → A i < A j) (hAa : ∀ q, q < na → A q < an ∧ yA (A q) = 1) (hAx : ∀ m, m < an → yA m = 0 ∨ ∃ q, q < na ∧ A q = m)
    (hN : N ≤ 128) (hn : n ≤ 200) (hbn : b ≤ n) (hb : b = 0 ∨ ∃ b' t, b = b' + 1 ∧ t < N ∧ wt b' = nI t ∧ tk t = 15 ∧ ws b' = 2 ∧ wx b' = nI hh) (hno : ∀ j, b ≤ j → j < n → hs_no tk N wt ws wx hh j)
    (h : wY_doRet_165 K rk rv rh yn yr ym yo yrk yrv ypn yf yd (nI an) (nI p) (nI b) yv y1 y2 y3 tk tv pk pv gk gv gh cn cd cD cP lk lv lh yH yPk yPv yPh yM (hy_c hh an yA) wt wa ws wb wx vk vv vh) : wpY_doRet K (yn, yr, ym, yo, yrk, yrv, ypn, yf, yd, nI an, nI na, nI n, yv, y1, y2, y3, tk, tv, pk, pv, gk, gv, gh, cn, cd, cD, cP, lk, lv, lh, yH, yPk, yPv, yPh, yM, yA, wt, wa, ws, wb, wx, vk, vv, vh) (nI ac) rk rv rh := by
  have e3 : (nI ac).toNatClampNeg = ac := nI_clamp (by omega)
  have i3 : vp_in (nI ac) 256 := vp_in_nI hac (by omega)
  have a0 := hAa p hp
  have C : wY_doRet_19 K rk rv rh (nI hh) yn yr ym yo yrk yrv ypn yf yd (nI an) (nI na) (nI n) yv y1 y2 y3 tk tv pk pv gk gv gh cn cd cD cP lk lv lh yH yPk yPv yPh yM yA wt wa ws wb wx vk vv vh := by
    refine And.intro (vp_in_nI (by omega) (by omega)) (br_f (by rw [nI_clamp (by omega), ← hAp, a0.2]; decide) ⟨an - hh + 1, ?_⟩)
    have w : wY_doRet_37 K rk rv rh (nI hh) yn yr ym yo yrk yrv ypn yf yd (nI an) (nI n) yv y1 y2 y3 (an - hh + 1) (nI hh) (nI (p + (na - p))) tk tv pk pv gk gv gh cn cd cD cP lk lv lh yH yPk yPv yPh yM yA wt wa ws wb wx vk vv vh := wy_37 han hna hp hA hAa hAx (fun yA' f0 f1 => ⟨n - b + 1, by
      have e9 : yA' = hy_c hh an yA := by
        funext m
        unfold hy_c
        by_cases z : hh ≤ m ∧ m < an
        · rw [if_pos z]; exact f0 m (by omega) z.2
        · rw [if_neg z]; exact f1 m (by omega)
      subst e9
      have w2 := wy_83 (K := K) hN hb h (n - b) 0 (fun j j1 j2 => hno j j1 (by omega)) (by omega)
      rw [show b + (n - b) = n by omega] at w2
      exact w2⟩) (an - hh) hh p yA (by omega) (by omega) (Nat.le_refl _) (by omega) (fun q hq => by rw [← hAp]; exact hA q p hq hp) (fun q hq1 hq2 => by
        rcases Nat.lt_or_ge p q with x | x
        · have := hA p q x hq2; omega
        · have ex : q = p := by omega
          rw [ex]; omega) (fun m m1 m2 => by omega) (fun _ _ => rfl)
    rw [show p + (na - p) = na by omega] at w
    exact w
  unfold wpY_doRet
  rcases hhh with ⟨z1, z2⟩ | ⟨z1, z2⟩
  · exact ⟨i3, br_t (by rw [e3]; exact z1) ⟨i3, by rw [e3, z2]; exact C⟩⟩
  · exact ⟨i3, br_f (by rw [e3]; exact z1) (by rw [← z2]; exact C)⟩
/-- doRet to a home that has ended -/
theorem wy_ret0 {rk rv rh : Int32} {hh : Nat} (hac : ac < 256) (hhh : (yM ac = 0 ∧ yH ac = nI hh) ∨ (yM ac ≠ 0 ∧ hh = ac)) (hh2 : hh < 256) (hz : yA hh = 0) (h : K 2 (yn, yr, ym, yo, yrk, yrv, ypn, yf, yd, ya, yac, yw, yv, y1, y2, y3, tk, tv, pk, pv, gk, gv, gh, cn, cd, cD, cP, lk, lv, lh, yH, yPk, yPv, yPh, yM, yA, wt, wa, ws, wb, wx, vk, vv, vh)) : wpY_doRet K (yn, yr, ym, yo, yrk, yrv, ypn, yf, yd, ya, yac, yw, yv, y1, y2, y3, tk, tv, pk, pv, gk, gv, gh, cn, cd, cD, cP, lk, lv, lh, yH, yPk, yPv, yPh, yM, yA, wt, wa, ws, wb, wx, vk, vv, vh) (nI ac) rk rv rh := by
  have e3 : (nI ac).toNatClampNeg = ac := nI_clamp (by omega)
  have i3 : vp_in (nI ac) 256 := vp_in_nI hac (by omega)
  have C : wY_doRet_19 K rk rv rh (nI hh) yn yr ym yo yrk yrv ypn yf yd ya yac yw yv y1 y2 y3 tk tv pk pv gk gv gh cn cd cD cP lk lv lh yH yPk yPv yPh yM yA wt wa ws wb wx vk vv vh := And.intro (vp_in_nI (by omega) (by omega)) (br_t (by rw [nI_clamp (by omega)]; exact hz) h)
  unfold wpY_doRet
  rcases hhh with ⟨z1, z2⟩ | ⟨z1, z2⟩
  · exact ⟨i3, br_t (by rw [e3]; exact z1) ⟨i3, by rw [e3, z2]; exact C⟩⟩
  · exact ⟨i3, br_f (by rw [e3]; exact z1) (by rw [← z2]; exact C)⟩
end
/-! the loop of Y -/
def wk_yr (K : Int32 → SY → Prop) (n : Nat) (r g : Int32) (v : SY) : Prop := match v with | (yn, yr, ym, yo, yrk, yrv, ypn, yf, yd, ya, yac, yw, yv, y1, y2, y3, tk, tv, pk, pv, gk, gv, gh, cn, cd, cD, cP, lk, lv, lh, yH, yPk, yPv, yPh, yM, yA, wt, wa, ws, wb, wx, vk, vv, vh) => wY_run_141 K n r g yn yr ym yo yrk yrv ypn yf yd ya yac yw yv y1 y2 y3 tk tv pk pv gk gv gh cn cd cD cP lk lv lh yH yPk yPv yPh yM yA wt wa ws wb wx vk vv vh
def wk_YGo (r : Int32) (g : Nat) (v : SY) (rf : Int32) (vf : SY) : Prop := ∀ K : Int32 → SY → Prop, K rf vf → ∃ n, wk_yr K n r (nI g) v
section
variable {yn yr ym yo yrk yrv ypn yf yd ya yac yw yv y1 y2 y3 : Int32} {tk tv pk pv gk gv gh cn cd cD cP lk lv lh yH yPk yPv yPh yM yA wt wa ws wb wx vk vv vh : Nat → Int32} {v' vf : SY} {r' rf : Int32} {g n : Nat}
theorem wk_ys (hg : g < 4000000) (hn : n < 256) (hb : ∀ K : Int32 → SY → Prop, K r' v' → wpY_step K (yn, yr, ym, yo, yrk, yrv, ypn, yf, yd, ya, yac, nI (n + 1), yv, y1, y2, y3, tk, tv, pk, pv, gk, gv, gh, cn, cd, cD, cP, lk, lv, lh, yH, yPk, yPv, yPh, yM, yA, wt, wa, ws, wb, wx, vk, vv, vh)) (h : wk_YGo r' (g + 1) v' rf vf) : wk_YGo 0 g (yn, yr, ym, yo, yrk, yrv, ypn, yf, yd, ya, yac, nI (n + 1), yv, y1, y2, y3, tk, tv, pk, pv, gk, gv, gh, cn, cd, cD, cP, lk, lv, lh, yH, yPk, yPv, yPh, yM, yA, wt, wa, ws, wb, wx, vk, vv, vh) rf vf := by
  intro K hK
  obtain ⟨m, hm⟩ := h K hK
  obtain ⟨q1, q2, q3, q4, q5, q6, q7, q8, q9, q10, q11, q12, q13, q14, q15, q16, q17, q18, q19, q20, q21, q22, q23, q24, q25, q26, q27, q28, q29, q30, q31, q32, q33, q34, q35, q36, q37, q38, q39, q40, q41, q42, q43, q44⟩ := v'
  refine ⟨m + 1, ?_⟩
  exact br_f (nI_ge (b := 4000000) hg (by decide)) (br_f (nI_nle (by omega) (by omega)) (br_t rfl (hb _ (nm_r (nI_1 g) hm))))
/-- stopped by an outcome -/
theorem wk_ye (hg : g < 4000000) (hr : rf ≠ 0) : wk_YGo rf g (yn, yr, ym, yo, yrk, yrv, ypn, yf, yd, ya, yac, yw, yv, y1, y2, y3, tk, tv, pk, pv, gk, gv, gh, cn, cd, cD, cP, lk, lv, lh, yH, yPk, yPv, yPh, yM, yA, wt, wa, ws, wb, wx, vk, vv, vh) rf (yn, yr, ym, rf, yrk, yrv, ypn, yf, yd, ya, yac, yw, yv, y1, y2, y3, tk, tv, pk, pv, gk, gv, gh, cn, cd, cD, cP, lk, lv, lh, yH, yPk, yPv, yPh, yM, yA, wt, wa, ws, wb, wx, vk, vv, vh) := by
  intro K hK
  refine ⟨1, br_f (nI_ge (b := 4000000) hg (by decide)) ?_⟩
  by_cases z : yw ≤ 0
  · exact br_t z (br_f hr hK)
  · exact br_f z (br_f hr (br_f hr hK))
/-- the first activation ends -/
theorem wk_y0 {vb : Nat} (hg : g < 4000000) (hv : vb < 512) {nx : Int32} {yAx : Nat → Int32} (hA : (yA 0 = 0 ∧ nx = yac ∧ yAx = yA) ∨ (yA 0 ≠ 0 ∧ nx = yac - 1 ∧ yAx = upd yA 0 0)) : wk_YGo 0 g (yn, yr, ym, yo, yrk, yrv, ypn, yf, yd, ya, yac, nI 0, nI (vb + 1), y1, y2, y3, tk, tv, pk, pv, gk, gv, gh, cn, cd, cD, cP, lk, lv, lh, yH, yPk, yPv, yPh, yM, yA, wt, wa, ws, wb, wx, vk, vv, vh) 1 (yn, yr, ym, 1, vk vb, vv vb, ypn, yf, yd, ya, nx, nI 0, nI vb, vk vb, vv vb, vh vb, tk, tv, pk, pv, gk, gv, gh, cn, cd, cD, cP, lk, lv, lh, yH, yPk, yPv, yPh, yM, yAx, wt, wa, ws, wb, wx, vk, vv, vh) := by
  intro K hK
  refine ⟨1, br_f (nI_ge (b := 4000000) hg (by decide)) (br_t (by decide) (br_t rfl (wy_popV hv ?_)))⟩
  rcases hA with ⟨z, rfl, rfl⟩ | ⟨z, rfl, rfl⟩
  · exact br_t z hK
  · exact br_f z (nm_r (show _ = upd yA 0 0 by rw [wk_b0]) (nm_e hK))
end
end
section
/-! both machines beside each other -/
def hr_C (tk : Nat → Int32) (N na nh an fl pn : Nat) (A H : Nat → Nat) (M : Nat → Bool) (gl pr : Nat → Int64) (aH : Nat → Int32) (aP lo : Nat → Int64) (hP pk pv gk gv gh lk lv lh yH yPk yPv yPh yM yA : Nat → Int32) : Prop :=
  nh ≤ an ∧ an + fl ≤ 256 ∧ pn ≤ 32 ∧ na ≤ 16 ∧ hs_A (hv_V tk N nh H) na nh an A H M aH aP hP yH yPk yPv yPh yM yA ∧ hs_L (hv_V tk N nh H) nh H lo lk lv lh ∧
  (∀ i, i < 8 → hv_V tk N nh H (gl i) (gk i) (gv i) (gh i)) ∧ (∀ i, i < pn → hv_K (pr i) (pk i) (pv i))
/-- what a run leaves -/
def hr_F (N : Nat) (xm0 yr0 ym0 : Int32) (tk0 tv0 af0 ms0 : Nat → Int32) (uf : SX) (rf : Int32) (vf : SY) : Prop := match uf, vf with
  | (xn, xm, xo, xr, xpn, xf, xd, xa, xh, xp, xt, xv, xy, tk, tv, af, dp, ib, ms, pr, gl, aH, aP, aB, lo, hP, pT, pL, pV), (yn, yr, ym, yo, yrk, yrv, ypn, yf, yd, ya, yac, yw, yv, y1, y2, y3, tk2, tv2, pk, pv, gk, gv, gh, cn, cd, cD, cP, lk, lv, lh, yH, yPk, yPv, yPh, yM, yA, wt, wa, ws, wb, wx, vk, vv, vh) => xn = nI N ∧ xm = xm0 ∧ tk = tk0 ∧ tv = tv0 ∧ af = af0 ∧ ms = ms0 ∧ yn = nI N ∧ yr = yr0 ∧ ym = ym0 ∧ tk2 = tk0 ∧ tv2 = tv0 ∧ rf = xo ∧ yo = xo ∧ yf = xf ∧ yd = xd ∧ hv_K xr yrk yrv ∧
    (∃ pn, xpn = nI pn ∧ ypn = nI pn ∧ pn ≤ 32 ∧ ∀ i, i < pn → hv_K (pr i) (pk i) (pv i)) ∧ (∀ i, i < 8 → hv_K (gl i) (gk i) (gv i))
def hr_D (N : Nat) (xm yr ym : Int32) (tk tv af ms : Nat → Int32) (s g : Nat) (u : SX) (v : SY) : Prop := ∃ uf rf vf, wk_XGo s u uf ∧ wk_YGo 0 g v rf vf ∧ hr_F N xm yr ym tk tv af ms uf rf vf
section
variable {xn xm xo xpn xf xd xa xh xp xt xy : Int32} {xr xv : Int64} {tk tv af dp ib ms aH aB hP pT pL : Nat → Int32} {pr gl aP lo pV : Nat → Int64} {yn yr ym yo yrk yrv ypn yf yd ya yac yw yv y1 y2 y3 : Int32} {pk pv gk gv gh cn cd cD cP lk lv lh yH yPk yPv yPh yM yA wt wa ws wb wx vk vv vh : Nat → Int32} {N n q o' pn fl : Nat} {u' : SX} {v' : SY} {s g : Nat} {o : Int32} {xm0 yr0 ym0 : Int32} {tk0 tv0 af0 ms0 : Nat → Int32}
theorem hr_F_mk (h1 : hv_K xr yrk yrv) (h2 : pn ≤ 32) (h3 : ∀ i, i < pn → hv_K (pr i) (pk i) (pv i)) (h4 : ∀ i, i < 8 → hv_K (gl i) (gk i) (gv i)) : hr_F N xm yr ym tk tv af ms (nI N, xm, xo, xr, nI pn, xf, xd, xa, xh, xp, xt, xv, xy, tk, tv, af, dp, ib, ms, pr, gl, aH, aP, aB, lo, hP, pT, pL, pV) xo (nI N, yr, ym, xo, yrk, yrv, nI pn, xf, xd, ya, yac, yw, yv, y1, y2, y3, tk, tv, pk, pv, gk, gv, gh, cn, cd, cD, cP, lk, lv, lh, yH, yPk, yPv, yPh, yM, yA, wt, wa, ws, wb, wx, vk, vv, vh) := by
  unfold hr_F
  exact ⟨rfl, rfl, rfl, rfl, rfl, rfl, rfl, rfl, rfl, rfl, rfl, rfl, rfl, rfl, rfl, h1, ⟨pn, rfl, rfl, h2, h3⟩, h4⟩
theorem hr_ga (hs : s < 1000000) (hg : g < 4000000) (hn : n < 256) (hx : ∀ K : SX → Prop, K u' → wpX_beginToken K (xn, xm, 0, xr, xpn, xf, xd, xa, xh, xp, xt, xv, 0, tk, tv, af, dp, ib, ms, pr, gl, aH, aP, aB, lo, hP, pT, pL, pV)) (hy : ∀ K : Int32 → SY → Prop, K 0 v' → wpY_step K (yn, yr, ym, yo, yrk, yrv, ypn, yf, yd, ya, yac, nI (n + 1), yv, y1, y2, y3, tk, tv, pk, pv, gk, gv, gh, cn, cd, cD, cP, lk, lv, lh, yH, yPk, yPv, yPh, yM, yA, wt, wa, ws, wb, wx, vk, vv, vh)) (h : hr_D N xm0 yr0 ym0 tk0 tv0 af0 ms0 (s + 1) (g + 1) u' v') : hr_D N xm0 yr0 ym0 tk0 tv0 af0 ms0 s g (xn, xm, 0, xr, xpn, xf, xd, xa, xh, xp, xt, xv, 0, tk, tv, af, dp, ib, ms, pr, gl, aH, aP, aB, lo, hP, pT, pL, pV) (yn, yr, ym, yo, yrk, yrv, ypn, yf, yd, ya, yac, nI (n + 1), yv, y1, y2, y3, tk, tv, pk, pv, gk, gv, gh, cn, cd, cD, cP, lk, lv, lh, yH, yPk, yPv, yPh, yM, yA, wt, wa, ws, wb, wx, vk, vv, vh) := by
  obtain ⟨uf, rf, vf, a, b, c⟩ := h
  exact ⟨uf, rf, vf, wk_xa hs hx a, wk_ys hg hn hy b, c⟩
theorem hr_gb (hs : s < 1000000) (hg : g < 4000000) (hn : n < 256) (hq : q < 16) (hpe : ¬ xp ≤ aB q) (hx : ∀ K : SX → Prop, K u' → wpX_resumeToken K (xn, xm, 0, xr, xpn, xf, xd, nI (q + 1), xh, xp, xt, xv, 1, tk, tv, af, dp, ib, ms, pr, gl, aH, aP, aB, lo, hP, pT, pL, pV)) (hy : ∀ K : Int32 → SY → Prop, K 0 v' → wpY_step K (yn, yr, ym, yo, yrk, yrv, ypn, yf, yd, ya, yac, nI (n + 1), yv, y1, y2, y3, tk, tv, pk, pv, gk, gv, gh, cn, cd, cD, cP, lk, lv, lh, yH, yPk, yPv, yPh, yM, yA, wt, wa, ws, wb, wx, vk, vv, vh)) (h : hr_D N xm0 yr0 ym0 tk0 tv0 af0 ms0 (s + 1) (g + 1) u' v') : hr_D N xm0 yr0 ym0 tk0 tv0 af0 ms0 s g (xn, xm, 0, xr, xpn, xf, xd, nI (q + 1), xh, xp, xt, xv, 1, tk, tv, af, dp, ib, ms, pr, gl, aH, aP, aB, lo, hP, pT, pL, pV) (yn, yr, ym, yo, yrk, yrv, ypn, yf, yd, ya, yac, nI (n + 1), yv, y1, y2, y3, tk, tv, pk, pv, gk, gv, gh, cn, cd, cD, cP, lk, lv, lh, yH, yPk, yPv, yPh, yM, yA, wt, wa, ws, wb, wx, vk, vv, vh) := by
  obtain ⟨uf, rf, vf, a, b, c⟩ := h
  exact ⟨uf, rf, vf, wk_xb hs hq hpe hx a, wk_ys hg hn hy b, c⟩
theorem hr_gr (hs : s < 1000000) (hg : g < 4000000) (hn : n < 256) (hq : q < 16) (hpe : xp ≤ aB q) (hx : ∀ K : SX → Prop, K u' → wpX_returnFrom K (xn, xm, 0, xr, xpn, xf, xd, nI (q + 1), xh, xp, xt, xv, 1, tk, tv, af, dp, ib, ms, pr, gl, aH, aP, aB, lo, hP, pT, pL, pV) (nI q)) (hy : ∀ K : Int32 → SY → Prop, K 0 v' → wpY_step K (yn, yr, ym, yo, yrk, yrv, ypn, yf, yd, ya, yac, nI (n + 1), yv, y1, y2, y3, tk, tv, pk, pv, gk, gv, gh, cn, cd, cD, cP, lk, lv, lh, yH, yPk, yPv, yPh, yM, yA, wt, wa, ws, wb, wx, vk, vv, vh)) (h : hr_D N xm0 yr0 ym0 tk0 tv0 af0 ms0 (s + 1) (g + 1) u' v') : hr_D N xm0 yr0 ym0 tk0 tv0 af0 ms0 s g (xn, xm, 0, xr, xpn, xf, xd, nI (q + 1), xh, xp, xt, xv, 1, tk, tv, af, dp, ib, ms, pr, gl, aH, aP, aB, lo, hP, pT, pL, pV) (yn, yr, ym, yo, yrk, yrv, ypn, yf, yd, ya, yac, nI (n + 1), yv, y1, y2, y3, tk, tv, pk, pv, gk, gv, gh, cn, cd, cD, cP, lk, lv, lh, yH, yPk, yPv, yPh, yM, yA, wt, wa, ws, wb, wx, vk, vv, vh) := by
  obtain ⟨uf, rf, vf, a, b, c⟩ := h
  exact ⟨uf, rf, vf, wk_xr hs hq hpe hx a, wk_ys hg hn hy b, c⟩
theorem hr_gy {u : SX} (hg : g < 4000000) (hn : n < 256) (hy : ∀ K : Int32 → SY → Prop, K 0 v' → wpY_step K (yn, yr, ym, yo, yrk, yrv, ypn, yf, yd, ya, yac, nI (n + 1), yv, y1, y2, y3, tk, tv, pk, pv, gk, gv, gh, cn, cd, cD, cP, lk, lv, lh, yH, yPk, yPv, yPh, yM, yA, wt, wa, ws, wb, wx, vk, vv, vh)) (h : hr_D N xm0 yr0 ym0 tk0 tv0 af0 ms0 s (g + 1) u v') : hr_D N xm0 yr0 ym0 tk0 tv0 af0 ms0 s g u (yn, yr, ym, yo, yrk, yrv, ypn, yf, yd, ya, yac, nI (n + 1), yv, y1, y2, y3, tk, tv, pk, pv, gk, gv, gh, cn, cd, cD, cP, lk, lv, lh, yH, yPk, yPv, yPh, yM, yA, wt, wa, ws, wb, wx, vk, vv, vh) := by
  obtain ⟨uf, rf, vf, a, b, c⟩ := h
  exact ⟨uf, rf, vf, a, wk_ys hg hn hy b, c⟩
end
section
variable {xn xm xo xpn xf xd xa xh xp xt xy : Int32} {xr xv : Int64} {tk tv af dp ib ms aH aB hP pT pL : Nat → Int32} {pr gl aP lo pV : Nat → Int64} {yn yr ym yo yrk yrv ypn yf yd ya yac yw yv y1 y2 y3 : Int32} {pk pv gk gv gh cn cd cD cP lk lv lh yH yPk yPv yPh yM yA wt wa ws wb wx vk vv vh : Nat → Int32} {N n q pn fl : Nat} {s g : Nat} {o : Int32} {xm0 yr0 ym0 : Int32} {tk0 tv0 af0 ms0 : Nat → Int32} {u : SX} {v : SY}
/-- both stop at this step, with the outcome o -/
theorem hr_st (hs : s + 1 < 1000000) (hg : g + 1 < 4000000) (ho : xo ≠ 0) (hxg : wk_XGo (s + 1) (xn, xm, xo, xr, xpn, xf, xd, xa, xh, xp, xt, xv, xy, tk, tv, af, dp, ib, ms, pr, gl, aH, aP, aB, lo, hP, pT, pL, pV) (xn, xm, xo, xr, xpn, xf, xd, xa, xh, xp, xt, xv, xy, tk, tv, af, dp, ib, ms, pr, gl, aH, aP, aB, lo, hP, pT, pL, pV) → wk_XGo s u (xn, xm, xo, xr, xpn, xf, xd, xa, xh, xp, xt, xv, xy, tk, tv, af, dp, ib, ms, pr, gl, aH, aP, aB, lo, hP, pT, pL, pV)) (hyg : wk_YGo xo (g + 1) (yn, yr, ym, yo, yrk, yrv, ypn, yf, yd, ya, yac, yw, yv, y1, y2, y3, tk, tv, pk, pv, gk, gv, gh, cn, cd, cD, cP, lk, lv, lh, yH, yPk, yPv, yPh, yM, yA, wt, wa, ws, wb, wx, vk, vv, vh) xo (yn, yr, ym, xo, yrk, yrv, ypn, yf, yd, ya, yac, yw, yv, y1, y2, y3, tk, tv, pk, pv, gk, gv, gh, cn, cd, cD, cP, lk, lv, lh, yH, yPk, yPv, yPh, yM, yA, wt, wa, ws, wb, wx, vk, vv, vh) → wk_YGo 0 g v xo (yn, yr, ym, xo, yrk, yrv, ypn, yf, yd, ya, yac, yw, yv, y1, y2, y3, tk, tv, pk, pv, gk, gv, gh, cn, cd, cD, cP, lk, lv, lh, yH, yPk, yPv, yPh, yM, yA, wt, wa, ws, wb, wx, vk, vv, vh)) (hf : hr_F N xm0 yr0 ym0 tk0 tv0 af0 ms0 (xn, xm, xo, xr, xpn, xf, xd, xa, xh, xp, xt, xv, xy, tk, tv, af, dp, ib, ms, pr, gl, aH, aP, aB, lo, hP, pT, pL, pV) xo (yn, yr, ym, xo, yrk, yrv, ypn, yf, yd, ya, yac, yw, yv, y1, y2, y3, tk, tv, pk, pv, gk, gv, gh, cn, cd, cD, cP, lk, lv, lh, yH, yPk, yPv, yPh, yM, yA, wt, wa, ws, wb, wx, vk, vv, vh)) : hr_D N xm0 yr0 ym0 tk0 tv0 af0 ms0 s g u v :=
  ⟨_, _, _, hxg (wk_xe hs ho), hyg (wk_ye hg ho), hf⟩
end
/-- a run stands before the token t -/
def hr_PA (tk tv : Nat → Int32) (N : Nat) (f D : Nat → Nat) (B : Nat → Bool) (xm yr ym : Int32) (af ms : Nat → Int32) (m s g : Nat) : Prop :=
  ∀ {xd yo y1 y2 y3 : Int32} {xv : Int64} {dp ib aH aB hP pT pL pk pv gk gv gh cn cd cD cP lk lv lh yH yPk yPv yPh yM yA wt wa ws wb wx vk vv vh : Nat → Int32} {pr gl aP lo pV : Nat → Int64} {n p q vb w t nh an fl pn : Nat} {A H : Nat → Nat} {M : Nat → Bool},
    hr_C tk N (q + 1) nh an fl pn A H M gl pr aH aP lo hP pk pv gk gv gh lk lv lh yH yPk yPv yPh yM yA → hs_S (hv_V tk N nh H) tk N f D B A M aB pT pL pV wt wa ws wb wx vk vv vh n p q vb w → hs_T N D B A M wt wa ws wb n q vb t → 4 * (f t - t) + w + 512 * fl ≤ m →
    hr_D N xm yr ym tk tv af ms s g (nI N, xm, 0, 0, nI pn, nI fl, xd, nI (q + 1), nI nh, nI p, nI t, xv, 0, tk, tv, af, dp, ib, ms, pr, gl, aH, aP, aB, lo, hP, pT, pL, pV) (nI N, yr, ym, yo, 0, 0, nI pn, nI fl, xd, nI an, nI (q + 1), nI (n + 1), nI vb, y1, y2, y3, tk, tv, pk, pv, gk, gv, gh, cn, cd, cD, cP, lk, lv, lh, yH, yPk, yPv, yPh, yM, yA, wt, wa, ws, wb, wx, vk, vv, vh)
/-- a run has a value for what waits -/
def hr_PB (tk tv : Nat → Int32) (N : Nat) (f D : Nat → Nat) (B : Nat → Bool) (xm yr ym : Int32) (af ms : Nat → Int32) (m s g : Nat) : Prop :=
  ∀ {xd xt yo y1 y2 y3 : Int32} {xv : Int64} {dp ib aH aB hP pT pL pk pv gk gv gh cn cd cD cP lk lv lh yH yPk yPv yPh yM yA wt wa ws wb wx vk vv vh : Nat → Int32} {pr gl aP lo pV : Nat → Int64} {n p q vb w nh an fl pn : Nat} {A H : Nat → Nat} {M : Nat → Bool},
    hr_C tk N (q + 1) nh an fl pn A H M gl pr aH aP lo hP pk pv gk gv gh lk lv lh yH yPk yPv yPh yM yA → hs_S (hv_V tk N nh H) tk N f D B A M aB pT pL pV wt wa ws wb wx vk vv vh n p q vb w → hv_V tk N nh H xv (vk vb) (vv vb) (vh vb) → w + 512 * fl ≤ m →
    hr_D N xm yr ym tk tv af ms s g (nI N, xm, 0, 0, nI pn, nI fl, xd, nI (q + 1), nI nh, nI p, xt, xv, 1, tk, tv, af, dp, ib, ms, pr, gl, aH, aP, aB, lo, hP, pT, pL, pV) (nI N, yr, ym, yo, 0, 0, nI pn, nI fl, xd, nI an, nI (q + 1), nI n, nI (vb + 1), y1, y2, y3, tk, tv, pk, pv, gk, gv, gh, cn, cd, cD, cP, lk, lv, lh, yH, yPk, yPv, yPh, yM, yA, wt, wa, ws, wb, wx, vk, vv, vh)
end
section
theorem hs_bin_ar {k : Int32} (h : hs_bin k) : hc_ar k = 2 ∧ k ≠ 13 := by
  rcases h with rfl | rfl | rfl | rfl | rfl <;> decide
theorem hm_leaf : ∀ k, k < 17 → ¬ (1 ≤ hc_ar (nI k) ∧ nI k ≠ 13) → k = 0 ∨ k = 1 ∨ k = 3 ∨ k = 5 ∨ k = 13 := by decide +kernel
theorem hm_un : ∀ k, k < 17 → (1 ≤ hc_ar (nI k) ∧ nI k ≠ 13 ∧ ¬ (nI k = 6 ∨ nI k = 7 ∨ nI k = 8 ∨ nI k = 9 ∨ nI k = 14)) → k = 2 ∨ k = 4 ∨ k = 10 ∨ k = 11 ∨ k = 12 ∨ k = 15 ∨ k = 16 := by decide +kernel
theorem hm_bi : ∀ k, k < 17 → (nI k = 6 ∨ nI k = 7 ∨ nI k = 8 ∨ nI k = 9 ∨ nI k = 14) → k = 6 ∨ k = 7 ∨ k = 8 ∨ k = 9 ∨ k = 14 := by decide +kernel
theorem hp_k {tk tv : Nat → Int32} {N t : Nat} (h : hp_T tk tv N) (ht : t < N) : ∃ k, k ≤ 16 ∧ tk t = nI k := by
  obtain ⟨k, k1, k2, -⟩ := h t ht
  exact ⟨k, k1, k2⟩
theorem hp_v4 {tk tv : Nat → Int32} {N t : Nat} (h : hp_T tk tv N) (ht : t < N) (e : tk t = nI 1 ∨ tk t = nI 2) : ∃ j, j < 4 ∧ tv t = nI j := by
  obtain ⟨k, k1, k2, k3, -⟩ := h t ht
  refine k3 (e.imp (fun e => ?_) (fun e => ?_))
  · rw [k2] at e; exact (nI_eq (by omega) (by decide)).mp e
  · rw [k2] at e; exact (nI_eq (by omega) (by decide)).mp e
theorem hp_v8 {tk tv : Nat → Int32} {N t : Nat} (h : hp_T tk tv N) (ht : t < N) (e : tk t = nI 3 ∨ tk t = nI 4) : ∃ j, j < 8 ∧ tv t = nI j := by
  obtain ⟨k, k1, k2, -, k3, -⟩ := h t ht
  refine k3 (e.imp (fun e => ?_) (fun e => ?_))
  · rw [k2] at e; exact (nI_eq (by omega) (by decide)).mp e
  · rw [k2] at e; exact (nI_eq (by omega) (by decide)).mp e
section
variable {tk tv : Nat → Int32} {N mc : Nat} {f D : Nat → Nat} {B : Nat → Bool} {xm yr ym : Int32} {af ms : Nat → Int32} {m s g : Nat}
theorem hm_a (G : hp_G tk tv N f D B mc) (hs : s < 1000000) (hg : g < 4000000) (IHa : hr_PA tk tv N f D B xm yr ym af ms m (s + 1) (g + 1)) (IHb : hr_PB tk tv N f D B xm yr ym af ms m (s + 1) (g + 1)) : hr_PA tk tv N f D B xm yr ym af ms (m + 1) s g := by
  intro xd yo y1 y2 y3 xv dp ib aH aB hP pT pL pk pv gk gv gh cn cd cD cP lk lv lh yH yPk yPv yPh yM yA wt wa ws wb wx vk vv vh pr gl aP lo pV n p q vb w t nh an fl pn A H M C S T hm
  have C' := C
  obtain ⟨c1, c2, c3, c4, cA, cL, cG, cPr⟩ := C'
  have T' := T
  obtain ⟨t1, t2, t3, t4, t5, t6, t7⟩ := T'
  have g1 := G.1
  have gD := G.2.2.1 t t1
  obtain ⟨bd1, bd2, bd3, bd4, bb, bb1, bb2⟩ := hs_S_bd (fun t ht => (G.2.2.1 t ht).2) n p q vb w S
  have lt := hp_lt G t1
  obtain ⟨a1, a2, h0, a3, a4, a5, a6⟩ := cA.1 q (Nat.lt_succ_self q)
  have hH0 := (cA.2.2.1 h0 a3).1
  have hT := G.2.2.2.2.2.2.2.1
  obtain ⟨k, k1, k2⟩ := hp_k hT t1
  by_cases kw : 1 ≤ hc_ar (tk t) ∧ tk t ≠ 13
  · obtain ⟨S', T'⟩ := hs_t_a G S T kw.1 kw.2
    have p1 := hp_1 G t1 kw.1
    exact hr_ga hs hg (by omega) (fun K h => wx_begin_wait (by omega) (by omega) (by omega) k1 k2 kw.1 kw.2 h) (fun K h => wy_wait (by omega) t1 g1 (by omega) t2 t3 t4 k1 k2 kw.1 kw.2 h) (IHa C S' T' (by omega))
  · rw [k2] at kw
    rcases hm_leaf k (by omega) kw with rfl | rfl | rfl | rfl | rfl
    · exact hr_ga hs hg (by omega) (fun K h => wx_begin_num (by omega) (by omega) k2 h) (fun K h => wy_num (by omega) t1 g1 (by omega) t2 t3 k2 (by omega) h) (IHb C (hs_t_v S _ _ _) (by rw [pk_us, pk_us, pk_us]; exact Or.inl ⟨rfl, rfl⟩) (by omega))
    · obtain ⟨j, j1, j2⟩ := hp_v4 hT t1 (Or.inl k2)
      exact hr_ga hs hg (by omega) (fun K h => wx_begin_var (by omega) (by omega) k2 a4 j2 (by omega) h) (fun K h => wy_var (by omega) t1 g1 (by omega) t2 t3 k2 (by omega) a5 j2 (by omega) h) (IHb C (hs_t_v S _ _ _) (by rw [pk_us, pk_us, pk_us]; exact cL h0 a3 j j1) (by omega))
    · obtain ⟨j, j1, j2⟩ := hp_v8 hT t1 (Or.inl k2)
      exact hr_ga hs hg (by omega) (fun K h => wx_begin_glob (by omega) (by omega) k2 j2 j1 h) (fun K h => wy_glob (by omega) t1 g1 (by omega) t2 t3 k2 (by omega) j2 j1 h) (IHb C (hs_t_v S _ _ _) (by rw [pk_us, pk_us, pk_us]; exact cG j j1) (by omega))
    · have hB := G.2.2.2.2.2.1 t t1 k2
      rcases a6 with ⟨y, -⟩ | ⟨-, -, y⟩
      · rw [t7 y] at hB; exact absurd hB (by decide)
      · exact hr_ga hs hg (by omega) (fun K h => wx_begin_param (by omega) (by omega) k2 h) (fun K h => wy_param (by omega) t1 g1 (by omega) t2 t3 k2 (by omega) h) (IHb C (hs_t_v S _ _ _) (by rw [pk_us, pk_us, pk_us]; exact y) (by omega))
    · exact hr_ga hs hg (by omega) (fun K h => wx_begin_block (by omega) (by omega) k2 a4 h) (fun K h => wy_block (by omega) t1 g1 (by omega) t2 t3 k2 (by omega) h) (IHb C (hs_t_v S _ _ _) (by rw [pk_us, pk_us, pk_us]; exact Or.inr ⟨rfl, t, h0, t1, k2, a3, rfl, a5, rfl⟩) (by omega))
end
end
section
theorem wk_z4n {g : Nat → Int32} {i j : Nat} (h : j < i ∨ i + 4 ≤ j) : wk_z4 g i j = g j := by
  unfold wk_z4
  rw [pk_un (by omega), pk_un (by omega), pk_un (by omega), pk_un (by omega)]
theorem wk_z4z {g : Nat → Int32} {i j : Nat} (h : j < 4) : wk_z4 g i (i + j) = 0 := by
  unfold wk_z4
  match j, h with
  | 0, _ => rw [pk_un (by omega), pk_un (by omega), pk_un (by omega)]; exact pk_us
  | 1, _ => rw [pk_un (by omega), pk_un (by omega)]; exact pk_us
  | 2, _ => rw [pk_un (by omega)]; exact pk_us
  | 3, _ => exact pk_us
def wk_l4 (g : Nat → Int64) (i : Nat) (x : Int64) : Nat → Int64 := vp_updL (vp_updL (vp_updL (vp_updL g i x) (i + 1) 0) (i + 2) 0) (i + 3) 0
theorem wk_l4n {g : Nat → Int64} {i j : Nat} {x : Int64} (h : j < i ∨ i + 4 ≤ j) : wk_l4 g i x j = g j := by
  unfold wk_l4
  rw [pk_uLn (by omega), pk_uLn (by omega), pk_uLn (by omega), pk_uLn (by omega)]
theorem wk_l40 {g : Nat → Int64} {i : Nat} {x : Int64} : wk_l4 g i x i = x := by
  unfold wk_l4
  rw [pk_uLn (by omega), pk_uLn (by omega), pk_uLn (by omega)]; exact pk_uLs
theorem wk_l4z {g : Nat → Int64} {i j : Nat} {x : Int64} (h0 : 0 < j) (h : j < 4) : wk_l4 g i x (i + j) = 0 := by
  unfold wk_l4
  match j, h0, h with
  | 1, _, _ => rw [pk_uLn (by omega), pk_uLn (by omega)]; exact pk_uLs
  | 2, _, _ => rw [pk_uLn (by omega)]; exact pk_uLs
  | 3, _, _ => exact pk_uLs
section
variable {tk : Nat → Int32} {N nh an : Nat} {H : Nat → Nat} {lo : Nat → Int64} {lk lv lh : Nat → Int32}
theorem hs_L_blk (l : hs_L (hv_V tk N nh H) nh H lo lk lv lh) (hH : ∀ h, h < nh → H h < an) : hs_L (hv_V tk N nh H) nh H lo (wk_z4 lk (an * 4)) (wk_z4 lv (an * 4)) (wk_z4 lh (an * 4)) := by
  intro h hh j hj
  have b := hH h hh
  rw [wk_z4n (by omega), wk_z4n (by omega), wk_z4n (by omega)]
  exact l h hh j hj
theorem hs_L_met (l : hs_L (hv_V tk N nh H) nh H lo lk lv lh) (hH : ∀ h, h < nh → H h < an) {x : Int64} {k v h : Int32} (hx : hv_V tk N nh H x k v h) :
    hs_L (hv_V tk N (nh + 1) (gu H nh an)) (nh + 1) (gu H nh an) (wk_l4 lo (nh * 4) x) (upd (wk_z4 lk (an * 4)) (an * 4) k) (upd (wk_z4 lv (an * 4)) (an * 4) v) (upd (wk_z4 lh (an * 4)) (an * 4) h) := by
  have mono := fun x k v h => hv_V_mono (tk := tk) (N := N) (nh := nh) (nh' := nh + 1) (H := H) (H' := gu H nh an) (Nat.le_succ nh) (fun j hj => gu_n (by omega)) x k v h
  intro h1 hh j hj
  by_cases e : h1 = nh
  · subst e
    rw [gu_s]
    by_cases ej : j = 0
    · subst ej
      show hv_V tk N (h1 + 1) (gu H h1 an) (wk_l4 lo (h1 * 4) x (h1 * 4)) (upd (wk_z4 lk (an * 4)) (an * 4) k (an * 4)) (upd (wk_z4 lv (an * 4)) (an * 4) v (an * 4)) (upd (wk_z4 lh (an * 4)) (an * 4) h (an * 4))
      rw [wk_l40, pk_us, pk_us, pk_us]
      exact mono _ _ _ _ hx
    · rw [wk_l4z (by omega) hj, pk_un (by omega), pk_un (by omega), pk_un (by omega), wk_z4z hj, wk_z4z hj, wk_z4z hj]
      exact hv_V0
  · rw [gu_n e]
    have b := hH h1 (by omega)
    rw [wk_l4n (by omega), pk_un (by omega), pk_un (by omega), pk_un (by omega), wk_z4n (by omega), wk_z4n (by omega), wk_z4n (by omega)]
    exact mono _ _ _ _ (l h1 (by omega) j hj)
end
end
section
section
variable {tk tv : Nat → Int32} {N mc : Nat} {f D : Nat → Nat} {B : Nat → Bool} {xm yr ym : Int32} {af ms : Nat → Int32} {m s g : Nat}
theorem hm_bin1 {xd xt yo y1 y2 y3 : Int32} {xv : Int64} {dp ib aH aB hP pT pL pk pv gk gv gh cn cd cD cP lk lv lh yH yPk yPv yPh yM yA wt wa ws wb wx vk vv vh : Nat → Int32} {pr gl aP lo pV : Nat → Int64} {n p q vb w nh an fl pn t : Nat} {A H : Nat → Nat} {M : Nat → Bool} (G : hp_G tk tv N f D B mc) (haf : ∀ t, t < N → af t = nI (f t)) (hms : ∀ m, m < mc → ms m = nI (hc_it f m 0)) (hs : s + 1 < 1000000) (hg : g + 1 < 4000000) (IHa : hr_PA tk tv N f D B xm yr ym af ms m (s + 1) (g + 1)) (IHb : hr_PB tk tv N f D B xm yr ym af ms m (s + 1) (g + 1)) (C : hr_C tk N (q + 1) nh an fl pn A H M gl pr aH aP lo hP pk pv gk gv gh lk lv lh yH yPk yPv yPh yM yA) (S : hs_S (hv_V tk N nh H) tk N f D B A M aB pT pL pV wt wa ws wb wx vk vv vh n p q vb w) (t1 : t < N) (t2 : wt n = nI t) (t3 : wa n = nI (A q)) (t5 : wb n = nI vb) (t6 : n < 8 * q + D t) (t7 : M q = true → B t = false) (b8 : pT p = nI t) (V : hv_V tk N nh H xv (vk vb) (vv vb) (vh vb)) (b1 : ws n = 1) (b9 : pL p = 0) {k : Nat} (k1 : k ≤ 16) (k2 : tk t = nI k) (kb : hs_bin (nI k)) (hm : w + (3 + 4 * (f t - f (t + 1))) + 512 * fl ≤ m + 1) : hr_D N xm yr ym tk tv af ms s g (nI N, xm, 0, 0, nI pn, nI fl, xd, nI (q + 1), nI nh, nI (p + 1), xt, xv, 1, tk, tv, af, dp, ib, ms, pr, gl, aH, aP, aB, lo, hP, pT, pL, pV) (nI N, yr, ym, yo, 0, 0, nI pn, nI fl, xd, nI an, nI (q + 1), nI (n + 1), nI (vb + 1), y1, y2, y3, tk, tv, pk, pv, gk, gv, gh, cn, cd, cD, cP, lk, lv, lh, yH, yPk, yPv, yPh, yM, yA, wt, wa, ws, wb, wx, vk, vv, vh) := by
  have C' := C
  obtain ⟨c1, c2, c3, c4, cA, cL, cG, cPr⟩ := C'
  have g1 := G.1
  have gL := G.2.1
  have gD := G.2.2.1 t t1
  have hT := G.2.2.2.2.2.2.2.1
  obtain ⟨a1, a2, h0, a3, a4, a5, a6⟩ := cA.1 q (Nat.lt_succ_self q)
  have hH0 := (cA.2.2.1 h0 a3).1
  obtain ⟨bd1, bd2, bd3, bd4, bb, bb1, bb2⟩ := hs_S_bd (fun t ht => (G.2.2.1 t ht).2) n p q vb w S
  have hpe : ¬ nI (p + 1) ≤ aB q := by rw [bb1]; exact nI_ge (by omega) (by omega)
  have VK := hv_VK g1 (by omega) V
  have gK : ∀ i, i < 8 → hv_K (gl i) (gk i) (gv i) := fun i hi => hv_VK g1 (by omega) (cG i hi)
  have kb' : hs_bin (tk t) := by rw [k2]; exact kb
  have ar2 := (hs_bin_ar kb').1
  have p1 := hp_1 G t1 (by omega)
  have p2 := hp_2 G t1 (by omega)
  have pf := hp_f2 G t1 ar2
  obtain ⟨S2, T2⟩ := hs_t_2 G S t1 t2 t3 t5 t6 t7 b8 (by omega) kb' V
  exact hr_gb (by omega) (by omega) (by omega) (by omega) hpe (fun K h => wx_res1 (by omega) (by omega) b8 k1 k2 kb b9 (haf _ p1.1) h) (fun K h => wy_bin1 (by omega) t1 g1 (by omega) t2 t3 b1 k1 k2 ar2 hT gL p1.1 h) (IHa C S2 T2 (by omega))
theorem hm_seq1 {xd xt yo y1 y2 y3 : Int32} {xv : Int64} {dp ib aH aB hP pT pL pk pv gk gv gh cn cd cD cP lk lv lh yH yPk yPv yPh yM yA wt wa ws wb wx vk vv vh : Nat → Int32} {pr gl aP lo pV : Nat → Int64} {n p q vb w nh an fl pn t : Nat} {A H : Nat → Nat} {M : Nat → Bool} (G : hp_G tk tv N f D B mc) (haf : ∀ t, t < N → af t = nI (f t)) (hms : ∀ m, m < mc → ms m = nI (hc_it f m 0)) (hs : s + 1 < 1000000) (hg : g + 1 < 4000000) (IHa : hr_PA tk tv N f D B xm yr ym af ms m (s + 1) (g + 1)) (IHb : hr_PB tk tv N f D B xm yr ym af ms m (s + 1) (g + 1)) (C : hr_C tk N (q + 1) nh an fl pn A H M gl pr aH aP lo hP pk pv gk gv gh lk lv lh yH yPk yPv yPh yM yA) (S : hs_S (hv_V tk N nh H) tk N f D B A M aB pT pL pV wt wa ws wb wx vk vv vh n p q vb w) (t1 : t < N) (t2 : wt n = nI t) (t3 : wa n = nI (A q)) (t5 : wb n = nI vb) (t6 : n < 8 * q + D t) (t7 : M q = true → B t = false) (b8 : pT p = nI t) (V : hv_V tk N nh H xv (vk vb) (vv vb) (vh vb)) (b1 : ws n = 1) (k2 : tk t = nI 11) (hm : w + (3 + 4 * (f t - f (t + 1))) + 512 * fl ≤ m + 1) : hr_D N xm yr ym tk tv af ms s g (nI N, xm, 0, 0, nI pn, nI fl, xd, nI (q + 1), nI nh, nI (p + 1), xt, xv, 1, tk, tv, af, dp, ib, ms, pr, gl, aH, aP, aB, lo, hP, pT, pL, pV) (nI N, yr, ym, yo, 0, 0, nI pn, nI fl, xd, nI an, nI (q + 1), nI (n + 1), nI (vb + 1), y1, y2, y3, tk, tv, pk, pv, gk, gv, gh, cn, cd, cD, cP, lk, lv, lh, yH, yPk, yPv, yPh, yM, yA, wt, wa, ws, wb, wx, vk, vv, vh) := by
  have C' := C
  obtain ⟨c1, c2, c3, c4, cA, cL, cG, cPr⟩ := C'
  have g1 := G.1
  have gL := G.2.1
  have gD := G.2.2.1 t t1
  have hT := G.2.2.2.2.2.2.2.1
  obtain ⟨a1, a2, h0, a3, a4, a5, a6⟩ := cA.1 q (Nat.lt_succ_self q)
  have hH0 := (cA.2.2.1 h0 a3).1
  obtain ⟨bd1, bd2, bd3, bd4, bb, bb1, bb2⟩ := hs_S_bd (fun t ht => (G.2.2.1 t ht).2) n p q vb w S
  have hpe : ¬ nI (p + 1) ≤ aB q := by rw [bb1]; exact nI_ge (by omega) (by omega)
  have VK := hv_VK g1 (by omega) V
  have gK : ∀ i, i < 8 → hv_K (gl i) (gk i) (gv i) := fun i hi => hv_VK g1 (by omega) (cG i hi)
  have ar2 : hc_ar (tk t) = 2 := by rw [k2]; decide
  have p1 := hp_1 G t1 (by omega)
  have p2 := hp_2 G t1 (by omega)
  have pf := hp_f2 G t1 ar2
  obtain ⟨S2, T2⟩ := hs_t_s G S t1 t2 t3 t5 t6 t7 k2
  exact hr_gb (by omega) (by omega) (by omega) (by omega) hpe (fun K h => wx_res67 (by omega) (by omega) b8 (k := 11) (by omega) k2 (Or.inl (by unfold hs_bin; decide)) (wx_seq (by omega) (haf _ p1.1) h)) (fun K h => wy_bin1 (by omega) t1 g1 (by omega) t2 t3 b1 (k := 11) (by omega) k2 ar2 hT gL p1.1 h) (IHa C S2 T2 (by omega))
theorem hm_if1 {xd xt yo y1 y2 y3 : Int32} {xv : Int64} {dp ib aH aB hP pT pL pk pv gk gv gh cn cd cD cP lk lv lh yH yPk yPv yPh yM yA wt wa ws wb wx vk vv vh : Nat → Int32} {pr gl aP lo pV : Nat → Int64} {n p q vb w nh an fl pn t : Nat} {A H : Nat → Nat} {M : Nat → Bool} (G : hp_G tk tv N f D B mc) (haf : ∀ t, t < N → af t = nI (f t)) (hms : ∀ m, m < mc → ms m = nI (hc_it f m 0)) (hs : s + 1 < 1000000) (hg : g + 1 < 4000000) (IHa : hr_PA tk tv N f D B xm yr ym af ms m (s + 1) (g + 1)) (IHb : hr_PB tk tv N f D B xm yr ym af ms m (s + 1) (g + 1)) (C : hr_C tk N (q + 1) nh an fl pn A H M gl pr aH aP lo hP pk pv gk gv gh lk lv lh yH yPk yPv yPh yM yA) (S : hs_S (hv_V tk N nh H) tk N f D B A M aB pT pL pV wt wa ws wb wx vk vv vh n p q vb w) (t1 : t < N) (t2 : wt n = nI t) (t3 : wa n = nI (A q)) (t5 : wb n = nI vb) (t6 : n < 8 * q + D t) (t7 : M q = true → B t = false) (b8 : pT p = nI t) (V : hv_V tk N nh H xv (vk vb) (vv vb) (vh vb)) (b1 : ws n = 1) (k2 : tk t = nI 10) (hm : w + (3 + 4 * (f t - f (t + 1))) + 512 * fl ≤ m + 1) : hr_D N xm yr ym tk tv af ms s g (nI N, xm, 0, 0, nI pn, nI fl, xd, nI (q + 1), nI nh, nI (p + 1), xt, xv, 1, tk, tv, af, dp, ib, ms, pr, gl, aH, aP, aB, lo, hP, pT, pL, pV) (nI N, yr, ym, yo, 0, 0, nI pn, nI fl, xd, nI an, nI (q + 1), nI (n + 1), nI (vb + 1), y1, y2, y3, tk, tv, pk, pv, gk, gv, gh, cn, cd, cD, cP, lk, lv, lh, yH, yPk, yPv, yPh, yM, yA, wt, wa, ws, wb, wx, vk, vv, vh) := by
  have C' := C
  obtain ⟨c1, c2, c3, c4, cA, cL, cG, cPr⟩ := C'
  have g1 := G.1
  have gL := G.2.1
  have gD := G.2.2.1 t t1
  have hT := G.2.2.2.2.2.2.2.1
  obtain ⟨a1, a2, h0, a3, a4, a5, a6⟩ := cA.1 q (Nat.lt_succ_self q)
  have hH0 := (cA.2.2.1 h0 a3).1
  obtain ⟨bd1, bd2, bd3, bd4, bb, bb1, bb2⟩ := hs_S_bd (fun t ht => (G.2.2.1 t ht).2) n p q vb w S
  have hpe : ¬ nI (p + 1) ≤ aB q := by rw [bb1]; exact nI_ge (by omega) (by omega)
  have VK := hv_VK g1 (by omega) V
  have gK : ∀ i, i < 8 → hv_K (gl i) (gk i) (gv i) := fun i hi => hv_VK g1 (by omega) (cG i hi)
  have ar3 : hc_ar (tk t) = 3 := by rw [k2]; decide
  have p1 := hp_1 G t1 (by omega)
  have p2 := hp_2 G t1 (by omega)
  have p3 := hp_3 G t1 (by omega)
  have pf := hp_f3 G t1 ar3
  have nb : ¬ hs_bin (nI 10) := by unfold hs_bin; decide
  have e1 := haf _ p1.1
  have e2 := haf _ p2.1
  rcases VK.2 with ⟨z, -⟩ | ⟨z, -⟩
  · have z1 : vk vb ≠ 1 := by rw [z]; decide
    by_cases y : vv vb = 0
    · obtain ⟨S2, T2⟩ := hs_t_i G S t1 t2 t3 t5 t6 t7 k2 (c := f (f (t + 1))) ⟨2, by unfold hp_a; omega, rfl⟩
      exact hr_gb (by omega) (by omega) (by omega) (by omega) hpe (fun K h => wx_res67 (by omega) (by omega) b8 (k := 10) (by omega) k2 (Or.inl nb) (wx_if (by omega) (by omega) VK e1 e2 (fun x => absurd x z1) (fun _ _ => h) (fun _ x => absurd y x))) (fun K h => wy_if1 (by omega) t1 g1 (by omega) t2 t3 b1 k2 hT gL (by omega) p1.1 p2.1 (fun x => absurd x z1) (fun _ _ => h) (fun _ x => absurd y x)) (IHa C S2 T2 (by omega))
    · obtain ⟨S2, T2⟩ := hs_t_i G S t1 t2 t3 t5 t6 t7 k2 (c := f (t + 1)) ⟨1, by unfold hp_a; omega, rfl⟩
      exact hr_gb (by omega) (by omega) (by omega) (by omega) hpe (fun K h => wx_res67 (by omega) (by omega) b8 (k := 10) (by omega) k2 (Or.inl nb) (wx_if (by omega) (by omega) VK e1 e2 (fun x => absurd x z1) (fun _ x => absurd x y) (fun _ _ => h))) (fun K h => wy_if1 (by omega) t1 g1 (by omega) t2 t3 b1 k2 hT gL (by omega) p1.1 p2.1 (fun x => absurd x z1) (fun _ x => absurd x y) (fun _ _ => h)) (IHa C S2 T2 (by omega))
  · have z0 : vk vb ≠ 0 := by rw [z]; decide
    exact hr_st hs hg (by decide) (wk_xb (by omega) (by omega) hpe (fun K h => wx_res67 (by omega) (by omega) b8 (k := 10) (by omega) k2 (Or.inl nb) (wx_if (by omega) (by omega) VK e1 e2 (fun _ => h) (fun x _ => absurd x z0) (fun x _ => absurd x z0)))) (wk_ys (by omega) (by omega) (fun K h => wy_if1 (by omega) t1 g1 (by omega) t2 t3 b1 k2 hT gL (by omega) p1.1 p2.1 (fun _ => h) (fun x _ => absurd z x) (fun x _ => absurd z x))) (hr_F_mk hv_K0 c3 cPr gK)
theorem hm_set {xd xt yo y1 y2 y3 : Int32} {xv : Int64} {dp ib aH aB hP pT pL pk pv gk gv gh cn cd cD cP lk lv lh yH yPk yPv yPh yM yA wt wa ws wb wx vk vv vh : Nat → Int32} {pr gl aP lo pV : Nat → Int64} {n p q vb w nh an fl pn t : Nat} {A H : Nat → Nat} {M : Nat → Bool} (G : hp_G tk tv N f D B mc) (haf : ∀ t, t < N → af t = nI (f t)) (hms : ∀ m, m < mc → ms m = nI (hc_it f m 0)) (hs : s + 1 < 1000000) (hg : g + 1 < 4000000) (IHa : hr_PA tk tv N f D B xm yr ym af ms m (s + 1) (g + 1)) (IHb : hr_PB tk tv N f D B xm yr ym af ms m (s + 1) (g + 1)) (C : hr_C tk N (q + 1) nh an fl pn A H M gl pr aH aP lo hP pk pv gk gv gh lk lv lh yH yPk yPv yPh yM yA) (S : hs_S (hv_V tk N nh H) tk N f D B A M aB pT pL pV wt wa ws wb wx vk vv vh n p q vb w) (t1 : t < N) (t2 : wt n = nI t) (t3 : wa n = nI (A q)) (t5 : wb n = nI vb) (t6 : n < 8 * q + D t) (t7 : M q = true → B t = false) (b8 : pT p = nI t) (V : hv_V tk N nh H xv (vk vb) (vv vb) (vh vb)) (b1 : ws n = 1) (k2 : tk t = nI 2) (hm : w + (3 + 4 * (f t - f (t + 1))) + 512 * fl ≤ m + 1) : hr_D N xm yr ym tk tv af ms s g (nI N, xm, 0, 0, nI pn, nI fl, xd, nI (q + 1), nI nh, nI (p + 1), xt, xv, 1, tk, tv, af, dp, ib, ms, pr, gl, aH, aP, aB, lo, hP, pT, pL, pV) (nI N, yr, ym, yo, 0, 0, nI pn, nI fl, xd, nI an, nI (q + 1), nI (n + 1), nI (vb + 1), y1, y2, y3, tk, tv, pk, pv, gk, gv, gh, cn, cd, cD, cP, lk, lv, lh, yH, yPk, yPv, yPh, yM, yA, wt, wa, ws, wb, wx, vk, vv, vh) := by
  have C' := C
  obtain ⟨c1, c2, c3, c4, cA, cL, cG, cPr⟩ := C'
  have g1 := G.1
  have gL := G.2.1
  have gD := G.2.2.1 t t1
  have hT := G.2.2.2.2.2.2.2.1
  obtain ⟨a1, a2, h0, a3, a4, a5, a6⟩ := cA.1 q (Nat.lt_succ_self q)
  have hH0 := (cA.2.2.1 h0 a3).1
  obtain ⟨bd1, bd2, bd3, bd4, bb, bb1, bb2⟩ := hs_S_bd (fun t ht => (G.2.2.1 t ht).2) n p q vb w S
  have hpe : ¬ nI (p + 1) ≤ aB q := by rw [bb1]; exact nI_ge (by omega) (by omega)
  have VK := hv_VK g1 (by omega) V
  have gK : ∀ i, i < 8 → hv_K (gl i) (gk i) (gv i) := fun i hi => hv_VK g1 (by omega) (cG i hi)
  obtain ⟨j, j1, j2⟩ := hp_v4 hT t1 (Or.inr k2)
  exact hr_gb (by omega) (by omega) (by omega) (by omega) hpe (fun K h => wx_res67 (by omega) (by omega) b8 (k := 2) (by omega) k2 (Or.inl (by unfold hs_bin; decide)) (wx_set (by omega) (by omega) a4 j2 (by omega) h)) (fun K h => wy_set (by omega) t1 g1 (by omega) t2 t3 b1 k2 (by omega) a5 j2 (by omega) h) (IHb ⟨c1, c2, c3, c4, cA, hs_L_set cL cA.2.2.2.1 a3 j1 V, cG, cPr⟩ (hs_t_v S _ _ _) (by rw [pk_us, pk_us, pk_us]; exact V) (by omega))
theorem hm_gset {xd xt yo y1 y2 y3 : Int32} {xv : Int64} {dp ib aH aB hP pT pL pk pv gk gv gh cn cd cD cP lk lv lh yH yPk yPv yPh yM yA wt wa ws wb wx vk vv vh : Nat → Int32} {pr gl aP lo pV : Nat → Int64} {n p q vb w nh an fl pn t : Nat} {A H : Nat → Nat} {M : Nat → Bool} (G : hp_G tk tv N f D B mc) (haf : ∀ t, t < N → af t = nI (f t)) (hms : ∀ m, m < mc → ms m = nI (hc_it f m 0)) (hs : s + 1 < 1000000) (hg : g + 1 < 4000000) (IHa : hr_PA tk tv N f D B xm yr ym af ms m (s + 1) (g + 1)) (IHb : hr_PB tk tv N f D B xm yr ym af ms m (s + 1) (g + 1)) (C : hr_C tk N (q + 1) nh an fl pn A H M gl pr aH aP lo hP pk pv gk gv gh lk lv lh yH yPk yPv yPh yM yA) (S : hs_S (hv_V tk N nh H) tk N f D B A M aB pT pL pV wt wa ws wb wx vk vv vh n p q vb w) (t1 : t < N) (t2 : wt n = nI t) (t3 : wa n = nI (A q)) (t5 : wb n = nI vb) (t6 : n < 8 * q + D t) (t7 : M q = true → B t = false) (b8 : pT p = nI t) (V : hv_V tk N nh H xv (vk vb) (vv vb) (vh vb)) (b1 : ws n = 1) (k2 : tk t = nI 4) (hm : w + (3 + 4 * (f t - f (t + 1))) + 512 * fl ≤ m + 1) : hr_D N xm yr ym tk tv af ms s g (nI N, xm, 0, 0, nI pn, nI fl, xd, nI (q + 1), nI nh, nI (p + 1), xt, xv, 1, tk, tv, af, dp, ib, ms, pr, gl, aH, aP, aB, lo, hP, pT, pL, pV) (nI N, yr, ym, yo, 0, 0, nI pn, nI fl, xd, nI an, nI (q + 1), nI (n + 1), nI (vb + 1), y1, y2, y3, tk, tv, pk, pv, gk, gv, gh, cn, cd, cD, cP, lk, lv, lh, yH, yPk, yPv, yPh, yM, yA, wt, wa, ws, wb, wx, vk, vv, vh) := by
  have C' := C
  obtain ⟨c1, c2, c3, c4, cA, cL, cG, cPr⟩ := C'
  have g1 := G.1
  have gL := G.2.1
  have gD := G.2.2.1 t t1
  have hT := G.2.2.2.2.2.2.2.1
  obtain ⟨a1, a2, h0, a3, a4, a5, a6⟩ := cA.1 q (Nat.lt_succ_self q)
  have hH0 := (cA.2.2.1 h0 a3).1
  obtain ⟨bd1, bd2, bd3, bd4, bb, bb1, bb2⟩ := hs_S_bd (fun t ht => (G.2.2.1 t ht).2) n p q vb w S
  have hpe : ¬ nI (p + 1) ≤ aB q := by rw [bb1]; exact nI_ge (by omega) (by omega)
  have VK := hv_VK g1 (by omega) V
  have gK : ∀ i, i < 8 → hv_K (gl i) (gk i) (gv i) := fun i hi => hv_VK g1 (by omega) (cG i hi)
  obtain ⟨j, j1, j2⟩ := hp_v8 hT t1 (Or.inr k2)
  have cG' : ∀ i, i < 8 → hv_V tk N nh H (vp_updL gl j xv i) (upd gk j (vk vb) i) (upd gv j (vv vb) i) (upd gh j (vh vb) i) := fun i hi => by
    by_cases e : i = j
    · subst e; rw [pk_uLs, pk_us, pk_us, pk_us]; exact V
    · rw [pk_uLn e, pk_un e, pk_un e, pk_un e]; exact cG i hi
  exact hr_gb (by omega) (by omega) (by omega) (by omega) hpe (fun K h => wx_res67 (by omega) (by omega) b8 (k := 4) (by omega) k2 (Or.inl (by unfold hs_bin; decide)) (wx_gset (by omega) j2 j1 h)) (fun K h => wy_gset (by omega) t1 g1 (by omega) t2 t3 b1 k2 (by omega) j2 j1 h) (IHb ⟨c1, c2, c3, c4, cA, cL, cG', cPr⟩ (hs_t_v S _ _ _) (by rw [pk_us, pk_us, pk_us]; exact V) (by omega))
theorem hm_print {xd xt yo y1 y2 y3 : Int32} {xv : Int64} {dp ib aH aB hP pT pL pk pv gk gv gh cn cd cD cP lk lv lh yH yPk yPv yPh yM yA wt wa ws wb wx vk vv vh : Nat → Int32} {pr gl aP lo pV : Nat → Int64} {n p q vb w nh an fl pn t : Nat} {A H : Nat → Nat} {M : Nat → Bool} (G : hp_G tk tv N f D B mc) (haf : ∀ t, t < N → af t = nI (f t)) (hms : ∀ m, m < mc → ms m = nI (hc_it f m 0)) (hs : s + 1 < 1000000) (hg : g + 1 < 4000000) (IHa : hr_PA tk tv N f D B xm yr ym af ms m (s + 1) (g + 1)) (IHb : hr_PB tk tv N f D B xm yr ym af ms m (s + 1) (g + 1)) (C : hr_C tk N (q + 1) nh an fl pn A H M gl pr aH aP lo hP pk pv gk gv gh lk lv lh yH yPk yPv yPh yM yA) (S : hs_S (hv_V tk N nh H) tk N f D B A M aB pT pL pV wt wa ws wb wx vk vv vh n p q vb w) (t1 : t < N) (t2 : wt n = nI t) (t3 : wa n = nI (A q)) (t5 : wb n = nI vb) (t6 : n < 8 * q + D t) (t7 : M q = true → B t = false) (b8 : pT p = nI t) (V : hv_V tk N nh H xv (vk vb) (vv vb) (vh vb)) (b1 : ws n = 1) (k2 : tk t = nI 12) (hm : w + (3 + 4 * (f t - f (t + 1))) + 512 * fl ≤ m + 1) : hr_D N xm yr ym tk tv af ms s g (nI N, xm, 0, 0, nI pn, nI fl, xd, nI (q + 1), nI nh, nI (p + 1), xt, xv, 1, tk, tv, af, dp, ib, ms, pr, gl, aH, aP, aB, lo, hP, pT, pL, pV) (nI N, yr, ym, yo, 0, 0, nI pn, nI fl, xd, nI an, nI (q + 1), nI (n + 1), nI (vb + 1), y1, y2, y3, tk, tv, pk, pv, gk, gv, gh, cn, cd, cD, cP, lk, lv, lh, yH, yPk, yPv, yPh, yM, yA, wt, wa, ws, wb, wx, vk, vv, vh) := by
  have C' := C
  obtain ⟨c1, c2, c3, c4, cA, cL, cG, cPr⟩ := C'
  have g1 := G.1
  have gL := G.2.1
  have gD := G.2.2.1 t t1
  have hT := G.2.2.2.2.2.2.2.1
  obtain ⟨a1, a2, h0, a3, a4, a5, a6⟩ := cA.1 q (Nat.lt_succ_self q)
  have hH0 := (cA.2.2.1 h0 a3).1
  obtain ⟨bd1, bd2, bd3, bd4, bb, bb1, bb2⟩ := hs_S_bd (fun t ht => (G.2.2.1 t ht).2) n p q vb w S
  have hpe : ¬ nI (p + 1) ≤ aB q := by rw [bb1]; exact nI_ge (by omega) (by omega)
  have VK := hv_VK g1 (by omega) V
  have gK : ∀ i, i < 8 → hv_K (gl i) (gk i) (gv i) := fun i hi => hv_VK g1 (by omega) (cG i hi)
  by_cases z : pn = 32
  · exact hr_gb (by omega) (by omega) (by omega) (by omega) hpe (fun K h => wx_res67 (by omega) (by omega) b8 (k := 12) (by omega) k2 (Or.inl (by unfold hs_bin; decide)) (wx_print (by omega) c3 (fun _ => h) (fun x => absurd z (by omega)))) (fun K h => wy_print0 (by omega) t1 g1 (by omega) t2 t3 b1 k2 (by omega) z h) (IHb C (hs_t_v S _ _ _) (by rw [pk_us, pk_us, pk_us]; exact V) (by omega))
  · have cPr' : ∀ i, i < pn + 1 → hv_K (vp_updL pr pn xv i) (upd pk pn (vk vb) i) (upd pv pn (vv vb) i) := fun i hi => by
      by_cases e : i = pn
      · subst e; rw [pk_uLs, pk_us, pk_us]; exact VK
      · rw [pk_uLn e, pk_un e, pk_un e]; exact cPr i (by omega)
    exact hr_gb (by omega) (by omega) (by omega) (by omega) hpe (fun K h => wx_res67 (by omega) (by omega) b8 (k := 12) (by omega) k2 (Or.inl (by unfold hs_bin; decide)) (wx_print (by omega) c3 (fun x => absurd x z) (fun _ => h))) (fun K h => wy_print1 (by omega) t1 g1 (by omega) t2 t3 b1 k2 (by omega) (by omega) h) (IHb ⟨c1, c2, by omega, c4, cA, cL, cG, cPr'⟩ (hs_t_v S _ _ _) (by rw [pk_us, pk_us, pk_us]; exact V) (by omega))
end
end
section
section
variable {tk tv : Nat → Int32} {N mc : Nat} {f D : Nat → Nat} {B : Nat → Bool} {xm yr ym : Int32} {af ms : Nat → Int32} {m s g : Nat}
theorem hm_call {xd xt yo y1 y2 y3 : Int32} {xv : Int64} {dp ib aH aB hP pT pL pk pv gk gv gh cn cd cD cP lk lv lh yH yPk yPv yPh yM yA wt wa ws wb wx vk vv vh : Nat → Int32} {pr gl aP lo pV : Nat → Int64} {n p q vb w nh an fl pn t : Nat} {A H : Nat → Nat} {M : Nat → Bool} (G : hp_G tk tv N f D B mc) (haf : ∀ t, t < N → af t = nI (f t)) (hms : ∀ m, m < mc → ms m = nI (hc_it f m 0)) (hs : s + 1 < 1000000) (hg : g + 1 < 4000000) (IHa : hr_PA tk tv N f D B xm yr ym af ms m (s + 1) (g + 1)) (IHb : hr_PB tk tv N f D B xm yr ym af ms m (s + 1) (g + 1)) (C : hr_C tk N (q + 1) nh an fl pn A H M gl pr aH aP lo hP pk pv gk gv gh lk lv lh yH yPk yPv yPh yM yA) (S : hs_S (hv_V tk N nh H) tk N f D B A M aB pT pL pV wt wa ws wb wx vk vv vh n p q vb w) (t1 : t < N) (t2 : wt n = nI t) (t3 : wa n = nI (A q)) (t5 : wb n = nI vb) (t6 : n < 8 * q + D t) (t7 : M q = true → B t = false) (b8 : pT p = nI t) (V : hv_V tk N nh H xv (vk vb) (vv vb) (vh vb)) (b1 : ws n = 1) (k2 : tk t = nI 15) (hm : w + (3 + 4 * (f t - f (t + 1))) + 512 * fl ≤ m + 1) : hr_D N xm yr ym tk tv af ms s g (nI N, xm, 0, 0, nI pn, nI fl, xd, nI (q + 1), nI nh, nI (p + 1), xt, xv, 1, tk, tv, af, dp, ib, ms, pr, gl, aH, aP, aB, lo, hP, pT, pL, pV) (nI N, yr, ym, yo, 0, 0, nI pn, nI fl, xd, nI an, nI (q + 1), nI (n + 1), nI (vb + 1), y1, y2, y3, tk, tv, pk, pv, gk, gv, gh, cn, cd, cD, cP, lk, lv, lh, yH, yPk, yPv, yPh, yM, yA, wt, wa, ws, wb, wx, vk, vv, vh) := by
  have C' := C
  obtain ⟨c1, c2, c3, c4, cA, cL, cG, cPr⟩ := C'
  have g1 := G.1
  have gL := G.2.1
  have gD := G.2.2.1 t t1
  have hT := G.2.2.2.2.2.2.2.1
  obtain ⟨a1, a2, h0, a3, a4, a5, a6⟩ := cA.1 q (Nat.lt_succ_self q)
  have hH0 := (cA.2.2.1 h0 a3).1
  have hHa : ∀ h, h < nh → H h < an := fun h hh => (cA.2.2.1 h hh).1
  obtain ⟨bd1, bd2, bd3, bd4, bb, bb1, bb2⟩ := hs_S_bd (fun t ht => (G.2.2.1 t ht).2) n p q vb w S
  have hpe : ¬ nI (p + 1) ≤ aB q := by rw [bb1]; exact nI_ge (by omega) (by omega)
  have VK := hv_VK g1 (by omega) V
  have gK : ∀ i, i < 8 → hv_K (gl i) (gk i) (gv i) := fun i hi => hv_VK g1 (by omega) (cG i hi)
  have hH : ∀ e, e ≤ q → ∃ h, h < 256 ∧ aH e = nI h := fun e he => by
    obtain ⟨_, _, h, h1, h2, _⟩ := cA.1 e (by omega)
    exact ⟨h, by omega, h2⟩
  obtain ⟨mm, m1, m2⟩ := G.2.2.2.2.2.2.1 t t1 k2
  have mc8 := G.2.2.2.2.2.2.2.2.2
  obtain ⟨r1, r2⟩ := G.2.2.2.2.1 mm m1
  have r3 := hp_lt G r1
  cases fl with
  | zero => exact hr_st hs hg (by decide) (wk_xb (by omega) (by omega) hpe (fun K h => wx_res67 (by omega) (by omega) b8 (k := 15) (by omega) k2 (Or.inl (by unfold hs_bin; decide)) (wx_call (by omega) m2 (by omega) (hms mm m1) (by omega) (by omega) (fun _ _ => by omega) (fun _ => h) (fun f1 e => nomatch e) (fun f1 e => nomatch e)))) (wk_ys (by omega) (by omega) (fun K h => wy_call (by omega) t1 g1 (by omega) t2 t3 b1 k2 hT gL (by omega) m2 (by omega) (fun k hk => (G.2.2.2.2.1 k (by omega)).1) (by omega) (by omega) (fun _ => by omega) (fun _ => h) (fun f1 e => nomatch e) (fun f1 e => nomatch e))) (hr_F_mk hv_K0 c3 cPr gK)
  | succ f1 =>
    by_cases z : q + 1 = 16
    · have X1 : ∀ K : SX → Prop, K (nI N, xm, 5, 0, nI pn, nI f1, xd, nI (q + 1), nI nh, nI p, xt, xv, 1, tk, tv, af, dp, ib, ms, pr, gl, aH, aP, aB, lo, hP, pT, pL, pV) → wpX_resumeToken K (nI N, xm, 0, 0, nI pn, nI (f1 + 1), xd, nI (q + 1), nI nh, nI (p + 1), xt, xv, 1, tk, tv, af, dp, ib, ms, pr, gl, aH, aP, aB, lo, hP, pT, pL, pV) := fun K h => wx_res67 (by omega) (by omega) b8 (k := 15) (by omega) k2 (Or.inl (by unfold hs_bin; decide)) (wx_call (by omega) m2 (by omega) (hms mm m1) (by omega) (by omega) (fun _ _ => by omega) (fun e => nomatch e) (fun f2 e _ => by cases e; exact h) (fun f2 e z2 => absurd z (by omega)))
      have Y1 : ∀ K : Int32 → SY → Prop, K 5 (nI N, yr, ym, yo, 0, 0, nI pn, nI f1, xd, nI an, nI (q + 1), nI (n + 1), nI vb, vk vb, vv vb, vh vb, tk, tv, pk, pv, gk, gv, gh, cn, cd, cD, cP, lk, lv, lh, yH, yPk, yPv, yPh, yM, yA, wt, wa, ws, wb, wx, vk, vv, vh) → wpY_step K (nI N, yr, ym, yo, 0, 0, nI pn, nI (f1 + 1), xd, nI an, nI (q + 1), nI (n + 1), nI (vb + 1), y1, y2, y3, tk, tv, pk, pv, gk, gv, gh, cn, cd, cD, cP, lk, lv, lh, yH, yPk, yPv, yPh, yM, yA, wt, wa, ws, wb, wx, vk, vv, vh) := fun K h => wy_call (by omega) t1 g1 (by omega) t2 t3 b1 k2 hT gL (by omega) m2 (by omega) (fun k hk => (G.2.2.2.2.1 k (by omega)).1) (by omega) (by omega) (fun _ => by omega) (fun e => nomatch e) (fun f2 e _ => by cases e; exact h) (fun f2 e z2 => absurd z (by omega))
      exact hr_st hs hg (by decide) (wk_xb (by omega) (by omega) hpe X1) (wk_ys (by omega) (by omega) Y1) (hr_F_mk hv_K0 c3 cPr gK)
    · have mono := fun x k v h => hv_V_mono (tk := tk) (N := N) (nh := nh) (nh' := nh + 1) (H := H) (H' := gu H nh an) (Nat.le_succ nh) (fun j hj => gu_n (by omega)) x k v h
      obtain ⟨S2, T2⟩ := hs_t_c (an := an) mono G.2.2.1 S t1 t2 t3 t5 t6 t7 (Or.inl ⟨rfl, k2, rfl⟩) r1 (fun _ => r2)
      exact hr_gb (by omega) (by omega) (by omega) (by omega) hpe (fun K h => wx_res67 (by omega) (by omega) b8 (k := 15) (by omega) k2 (Or.inl (by unfold hs_bin; decide)) (wx_call (by omega) m2 (by omega) (hms mm m1) (by omega) (by omega) (fun _ _ => by omega) (fun e => nomatch e) (fun f2 e z2 => absurd z2 z) (fun f2 e _ => by cases e; exact h))) (fun K h => wy_call (by omega) t1 g1 (by omega) t2 t3 b1 k2 hT gL (by omega) m2 (by omega) (fun k hk => (G.2.2.2.2.1 k (by omega)).1) (by omega) (by omega) (fun _ => by omega) (fun e => nomatch e) (fun f2 e z2 => absurd z2 z) (fun f2 e _ => by cases e; exact h)) (IHa ⟨by omega, by omega, c3, by omega, hs_A_V mono (hs_A_meth cA), hs_L_met cL hHa V, fun i hi => mono _ _ _ _ (cG i hi), cPr⟩ S2 T2 (by omega))
theorem hm_ret {xd xt yo y1 y2 y3 : Int32} {xv : Int64} {dp ib aH aB hP pT pL pk pv gk gv gh cn cd cD cP lk lv lh yH yPk yPv yPh yM yA wt wa ws wb wx vk vv vh : Nat → Int32} {pr gl aP lo pV : Nat → Int64} {n p q vb w nh an fl pn t : Nat} {A H : Nat → Nat} {M : Nat → Bool} (G : hp_G tk tv N f D B mc) (haf : ∀ t, t < N → af t = nI (f t)) (hms : ∀ m, m < mc → ms m = nI (hc_it f m 0)) (hs : s + 1 < 1000000) (hg : g + 1 < 4000000) (IHa : hr_PA tk tv N f D B xm yr ym af ms m (s + 1) (g + 1)) (IHb : hr_PB tk tv N f D B xm yr ym af ms m (s + 1) (g + 1)) (C : hr_C tk N (q + 1) nh an fl pn A H M gl pr aH aP lo hP pk pv gk gv gh lk lv lh yH yPk yPv yPh yM yA) (S : hs_S (hv_V tk N nh H) tk N f D B A M aB pT pL pV wt wa ws wb wx vk vv vh n p q vb w) (t1 : t < N) (t2 : wt n = nI t) (t3 : wa n = nI (A q)) (t5 : wb n = nI vb) (t6 : n < 8 * q + D t) (t7 : M q = true → B t = false) (b8 : pT p = nI t) (V : hv_V tk N nh H xv (vk vb) (vv vb) (vh vb)) (b1 : ws n = 1) (k2 : tk t = nI 16) (hm : w + (3 + 4 * (f t - f (t + 1))) + 512 * fl ≤ m + 1) : hr_D N xm yr ym tk tv af ms s g (nI N, xm, 0, 0, nI pn, nI fl, xd, nI (q + 1), nI nh, nI (p + 1), xt, xv, 1, tk, tv, af, dp, ib, ms, pr, gl, aH, aP, aB, lo, hP, pT, pL, pV) (nI N, yr, ym, yo, 0, 0, nI pn, nI fl, xd, nI an, nI (q + 1), nI (n + 1), nI (vb + 1), y1, y2, y3, tk, tv, pk, pv, gk, gv, gh, cn, cd, cD, cP, lk, lv, lh, yH, yPk, yPv, yPh, yM, yA, wt, wa, ws, wb, wx, vk, vv, vh) := by
  have C' := C
  obtain ⟨c1, c2, c3, c4, cA, cL, cG, cPr⟩ := C'
  have g1 := G.1
  have gL := G.2.1
  have gD := G.2.2.1 t t1
  have hT := G.2.2.2.2.2.2.2.1
  obtain ⟨a1, a2, h0, a3, a4, a5, a6⟩ := cA.1 q (Nat.lt_succ_self q)
  have hH0 := (cA.2.2.1 h0 a3).1
  have hHa : ∀ h, h < nh → H h < an := fun h hh => (cA.2.2.1 h hh).1
  obtain ⟨bd1, bd2, bd3, bd4, bb, bb1, bb2⟩ := hs_S_bd (fun t ht => (G.2.2.1 t ht).2) n p q vb w S
  have hpe : ¬ nI (p + 1) ≤ aB q := by rw [bb1]; exact nI_ge (by omega) (by omega)
  have VK := hv_VK g1 (by omega) V
  have gK : ∀ i, i < 8 → hv_K (gl i) (gk i) (gv i) := fun i hi => hv_VK g1 (by omega) (cG i hi)
  have hH : ∀ e, e ≤ q → ∃ h, h < 256 ∧ aH e = nI h := fun e he => by
    obtain ⟨_, _, h, h1, h2, _⟩ := cA.1 e (by omega)
    exact ⟨h, by omega, h2⟩
  have hhh : (yM (A q) = 0 ∧ yH (A q) = nI (H h0)) ∨ (yM (A q) ≠ 0 ∧ H h0 = A q) := a6.elim (fun x => Or.inr ⟨by rw [x.2.1]; decide, x.2.2⟩) (fun x => Or.inl ⟨x.2.1, a5⟩)
  have nor : hs_no tk N wt ws wx (H h0) n := ⟨t, t1, t2, fun x => by rw [k2] at x; exact absurd x.1 (by decide)⟩
  have A1 : ∀ i j, i < j → j ≤ q → A i < A j := fun i j x y => cA.2.1 i j x (by omega)
  have A2 : ∀ j, j ≤ q → A j < 2 ^ 31 := fun j x => by have := (cA.1 j (by omega)).1; omega
  have A3 : ∀ j, j < q + 1 → A j < an ∧ yA (A j) = 1 := fun j x => ⟨(cA.1 j x).1, (cA.1 j x).2.1⟩
  rcases (cA.2.2.1 h0 a3).2 with ⟨r, r1, r2, r3, r4⟩ | ⟨e1, e2⟩
  · cases r with
    | zero =>
      have no : ∀ j, 0 ≤ j → j < n + 1 → hs_no tk N wt ws wx (H h0) j := fun j _ hj => if e : j = n then e ▸ nor else by
        have := hs_S_root n p q vb w S A1 A2 j (by omega)
        rw [r4] at this; exact this
      exact hr_st hs hg (by decide) (wk_xb (by omega) (by omega) hpe (fun K h => wx_res67 (by omega) (by omega) b8 (k := 16) (by omega) k2 (Or.inl (by unfold hs_bin; decide)) (wx_ret1 (by omega) (by omega) a4 hH (Nat.zero_le _) r3 (fun _ => h) (fun x => absurd rfl x)))) (wk_ys (by omega) (by omega) (fun K h => wy_ret (by omega) t1 g1 (by omega) t2 t3 b1 k2 (by omega) (wy_ret1 (N := N) (by omega) hhh (by omega) (by omega) r1 r4 cA.2.1 A3 cA.2.2.2.2 g1 (by omega) (Nat.zero_le _) (Or.inl rfl) no (wy_165 h)))) (hr_F_mk VK c3 cPr gK)
    | succ r =>
      obtain ⟨b, p2, vb2, w2, tb, i1, i2, i3, i4, i5, i6, i7, i8, i9, i10, i11, i12⟩ := hs_S_cut n p q vb w S A1 A2 r (by omega)
      obtain ⟨j1, j2, -⟩ | ⟨-, -, j3⟩ := i11
      · have no : ∀ j, b + 1 ≤ j → j < n + 1 → hs_no tk N wt ws wx (H h0) j := fun j x hj => if e : j = n then e ▸ nor else by
          have := i12 j (by omega) (by omega)
          rw [r4] at this; exact this
        have cA' := hs_A_end (yA' := hy_c (H h0) an yA) cA (by omega) (by omega) (p := r + 1) r1 (fun mm x y => if_pos ⟨by omega, y⟩) (fun mm x => if_neg (by omega))
        exact hr_gb (by omega) (by omega) (by omega) (by omega) hpe (fun K h => wx_res67 (by omega) (by omega) b8 (k := 16) (by omega) k2 (Or.inl (by unfold hs_bin; decide)) (wx_ret1 (by omega) (by omega) a4 hH (by omega) r3 (fun x => nomatch x) (fun _ => h))) (fun K h => wy_ret (by omega) t1 g1 (by omega) t2 t3 b1 k2 (by omega) (wy_ret1 (N := N) (by omega) hhh (by omega) (by omega) r1 r4 cA.2.1 A3 cA.2.2.2.2 g1 (by omega) (by omega) (Or.inr ⟨b, tb, rfl, i4, i5, j2, j1, i8.trans (congrArg nI r4)⟩) no (wy_165' (by omega) (by omega) i6 h))) (by rw [i9]; exact IHb ⟨c1, c2, c3, by omega, cA', cL, cG, cPr⟩ (hs_t_v i2 _ _ _) (by rw [pk_us, pk_us, pk_us]; exact V) (by omega))
      · rw [r2] at j3; exact absurd j3 (by decide)
  · exact hr_st hs hg (by decide) (wk_xb (by omega) (by omega) hpe (fun K h => wx_res67 (by omega) (by omega) b8 (k := 16) (by omega) k2 (Or.inl (by unfold hs_bin; decide)) (wx_ret0 (by omega) (by omega) a4 e1 h))) (wk_ys (by omega) (by omega) (fun K h => wy_ret (by omega) t1 g1 (by omega) t2 t3 b1 k2 (by omega) (wy_ret0 (by omega) hhh (by omega) e2 h))) (hr_F_mk hv_K0 c3 cPr gK)
theorem hm_calc6 {xd xt yo y1 y2 y3 : Int32} {xv : Int64} {dp ib aH aB hP pT pL pk pv gk gv gh cn cd cD cP lk lv lh yH yPk yPv yPh yM yA wt wa ws wb wx vk vv vh : Nat → Int32} {pr gl aP lo pV : Nat → Int64} {n p q vb w nh an fl pn t : Nat} {A H : Nat → Nat} {M : Nat → Bool} (G : hp_G tk tv N f D B mc) (haf : ∀ t, t < N → af t = nI (f t)) (hms : ∀ m, m < mc → ms m = nI (hc_it f m 0)) (hs : s + 1 < 1000000) (hg : g + 1 < 4000000) (IHa : hr_PA tk tv N f D B xm yr ym af ms m (s + 1) (g + 1)) (IHb : hr_PB tk tv N f D B xm yr ym af ms m (s + 1) (g + 1)) (C : hr_C tk N (q + 1) nh an fl pn A H M gl pr aH aP lo hP pk pv gk gv gh lk lv lh yH yPk yPv yPh yM yA) (S : hs_S (hv_V tk N nh H) tk N f D B A M aB pT pL pV wt wa ws wb wx vk vv vh n p q vb w) (t1 : t < N) (t2 : wt n = nI t) (t3 : wa n = nI (A q)) (t5 : wb n = nI vb) (t6 : n < 8 * q + D t) (t7 : M q = true → B t = false) (b8 : pT p = nI t) (V : hv_V tk N nh H xv (vk (vb + 1)) (vv (vb + 1)) (vh (vb + 1))) (VL : hv_V tk N nh H (pV p) (vk vb) (vv vb) (vh vb)) (b1 : ws n = 2) (b9 : pL p = 1) (k2 : tk t = nI 6) (hm : w + 2 + 512 * fl ≤ m + 1) : hr_D N xm yr ym tk tv af ms s g (nI N, xm, 0, 0, nI pn, nI fl, xd, nI (q + 1), nI nh, nI (p + 1), xt, xv, 1, tk, tv, af, dp, ib, ms, pr, gl, aH, aP, aB, lo, hP, pT, pL, pV) (nI N, yr, ym, yo, 0, 0, nI pn, nI fl, xd, nI an, nI (q + 1), nI (n + 1), nI (vb + 1 + 1), y1, y2, y3, tk, tv, pk, pv, gk, gv, gh, cn, cd, cD, cP, lk, lv, lh, yH, yPk, yPv, yPh, yM, yA, wt, wa, ws, wb, wx, vk, vv, vh) := by
  have C' := C
  obtain ⟨c1, c2, c3, c4, cA, cL, cG, cPr⟩ := C'
  have g1 := G.1
  have gL := G.2.1
  have gD := G.2.2.1 t t1
  have hT := G.2.2.2.2.2.2.2.1
  obtain ⟨a1, a2, h0, a3, a4, a5, a6⟩ := cA.1 q (Nat.lt_succ_self q)
  have hH0 := (cA.2.2.1 h0 a3).1
  have hHa : ∀ h, h < nh → H h < an := fun h hh => (cA.2.2.1 h hh).1
  obtain ⟨bd1, bd2, bd3, bd4, bb, bb1, bb2⟩ := hs_S_bd (fun t ht => (G.2.2.1 t ht).2) n p q vb w S
  have hpe : ¬ nI (p + 1) ≤ aB q := by rw [bb1]; exact nI_ge (by omega) (by omega)
  have VK := hv_VK g1 (by omega) V
  have gK : ∀ i, i < 8 → hv_K (gl i) (gk i) (gv i) := fun i hi => hv_VK g1 (by omega) (cG i hi)
  have hH : ∀ e, e ≤ q → ∃ h, h < 256 ∧ aH e = nI h := fun e he => by
    obtain ⟨_, _, h, h1, h2, _⟩ := cA.1 e (by omega)
    exact ⟨h, by omega, h2⟩
  have VL' := hv_VK g1 (by omega) VL
  by_cases z : vk vb = 1 ∨ vk (vb + 1) = 1
  · exact hr_st hs hg (by decide) (wk_xb (by omega) (by omega) hpe (fun K h => wx_res67 (by omega) (by omega) b8 (k := 6) (by omega) k2 (Or.inr b9) (wx_calc6 (by omega) VL' VK (fun _ => h) (fun x y => by rw [x, y] at z; exact absurd z (by decide))))) (wk_ys (by omega) (by omega) (fun K h => wy_calc6 (by omega) t1 g1 (by omega) t2 t3 b1 k2 (by omega) (fun _ => h) (fun x y => absurd z (fun c => c.elim x y)))) (hr_F_mk hv_K0 c3 cPr gK)
  · have z1 : vk vb ≠ 1 := fun x => z (Or.inl x)
    have z2 : vk (vb + 1) ≠ 1 := fun x => z (Or.inr x)
    exact hr_gb (by omega) (by omega) (by omega) (by omega) hpe (fun K h => wx_res67 (by omega) (by omega) b8 (k := 6) (by omega) k2 (Or.inr b9) (wx_calc6 (by omega) VL' VK (fun x => absurd x z) (fun _ _ => h))) (fun K h => wy_calc6 (by omega) t1 g1 (by omega) t2 t3 b1 k2 (by omega) (fun x => absurd x z) (fun _ _ => h)) (IHb C (hs_t_v S _ _ _) (by rw [pk_us, pk_us, pk_us]; exact Or.inl ⟨rfl, rfl⟩) (by omega))
theorem hm_calc7 {xd xt yo y1 y2 y3 : Int32} {xv : Int64} {dp ib aH aB hP pT pL pk pv gk gv gh cn cd cD cP lk lv lh yH yPk yPv yPh yM yA wt wa ws wb wx vk vv vh : Nat → Int32} {pr gl aP lo pV : Nat → Int64} {n p q vb w nh an fl pn t : Nat} {A H : Nat → Nat} {M : Nat → Bool} (G : hp_G tk tv N f D B mc) (haf : ∀ t, t < N → af t = nI (f t)) (hms : ∀ m, m < mc → ms m = nI (hc_it f m 0)) (hs : s + 1 < 1000000) (hg : g + 1 < 4000000) (IHa : hr_PA tk tv N f D B xm yr ym af ms m (s + 1) (g + 1)) (IHb : hr_PB tk tv N f D B xm yr ym af ms m (s + 1) (g + 1)) (C : hr_C tk N (q + 1) nh an fl pn A H M gl pr aH aP lo hP pk pv gk gv gh lk lv lh yH yPk yPv yPh yM yA) (S : hs_S (hv_V tk N nh H) tk N f D B A M aB pT pL pV wt wa ws wb wx vk vv vh n p q vb w) (t1 : t < N) (t2 : wt n = nI t) (t3 : wa n = nI (A q)) (t5 : wb n = nI vb) (t6 : n < 8 * q + D t) (t7 : M q = true → B t = false) (b8 : pT p = nI t) (V : hv_V tk N nh H xv (vk (vb + 1)) (vv (vb + 1)) (vh (vb + 1))) (VL : hv_V tk N nh H (pV p) (vk vb) (vv vb) (vh vb)) (b1 : ws n = 2) (b9 : pL p = 1) (k2 : tk t = nI 7) (hm : w + 2 + 512 * fl ≤ m + 1) : hr_D N xm yr ym tk tv af ms s g (nI N, xm, 0, 0, nI pn, nI fl, xd, nI (q + 1), nI nh, nI (p + 1), xt, xv, 1, tk, tv, af, dp, ib, ms, pr, gl, aH, aP, aB, lo, hP, pT, pL, pV) (nI N, yr, ym, yo, 0, 0, nI pn, nI fl, xd, nI an, nI (q + 1), nI (n + 1), nI (vb + 1 + 1), y1, y2, y3, tk, tv, pk, pv, gk, gv, gh, cn, cd, cD, cP, lk, lv, lh, yH, yPk, yPv, yPh, yM, yA, wt, wa, ws, wb, wx, vk, vv, vh) := by
  have C' := C
  obtain ⟨c1, c2, c3, c4, cA, cL, cG, cPr⟩ := C'
  have g1 := G.1
  have gL := G.2.1
  have gD := G.2.2.1 t t1
  have hT := G.2.2.2.2.2.2.2.1
  obtain ⟨a1, a2, h0, a3, a4, a5, a6⟩ := cA.1 q (Nat.lt_succ_self q)
  have hH0 := (cA.2.2.1 h0 a3).1
  have hHa : ∀ h, h < nh → H h < an := fun h hh => (cA.2.2.1 h hh).1
  obtain ⟨bd1, bd2, bd3, bd4, bb, bb1, bb2⟩ := hs_S_bd (fun t ht => (G.2.2.1 t ht).2) n p q vb w S
  have hpe : ¬ nI (p + 1) ≤ aB q := by rw [bb1]; exact nI_ge (by omega) (by omega)
  have VK := hv_VK g1 (by omega) V
  have gK : ∀ i, i < 8 → hv_K (gl i) (gk i) (gv i) := fun i hi => hv_VK g1 (by omega) (cG i hi)
  have hH : ∀ e, e ≤ q → ∃ h, h < 256 ∧ aH e = nI h := fun e he => by
    obtain ⟨_, _, h, h1, h2, _⟩ := cA.1 e (by omega)
    exact ⟨h, by omega, h2⟩
  have VL' := hv_VK g1 (by omega) VL
  by_cases z : vk vb = 1 ∨ vk (vb + 1) = 1
  · exact hr_st hs hg (by decide) (wk_xb (by omega) (by omega) hpe (fun K h => wx_res67 (by omega) (by omega) b8 (k := 7) (by omega) k2 (Or.inr b9) (wx_calc7 (by omega) VL' VK (fun _ => h) (fun x y => by rw [x, y] at z; exact absurd z (by decide))))) (wk_ys (by omega) (by omega) (fun K h => wy_calc7 (by omega) t1 g1 (by omega) t2 t3 b1 k2 (by omega) (fun _ => h) (fun x y => absurd z (fun c => c.elim x y)))) (hr_F_mk hv_K0 c3 cPr gK)
  · have z1 : vk vb ≠ 1 := fun x => z (Or.inl x)
    have z2 : vk (vb + 1) ≠ 1 := fun x => z (Or.inr x)
    exact hr_gb (by omega) (by omega) (by omega) (by omega) hpe (fun K h => wx_res67 (by omega) (by omega) b8 (k := 7) (by omega) k2 (Or.inr b9) (wx_calc7 (by omega) VL' VK (fun x => absurd x z) (fun _ _ => h))) (fun K h => wy_calc7 (by omega) t1 g1 (by omega) t2 t3 b1 k2 (by omega) (fun x => absurd x z) (fun _ _ => h)) (IHb C (hs_t_v S _ _ _) (by rw [pk_us, pk_us, pk_us]; exact Or.inl ⟨rfl, rfl⟩) (by omega))
theorem hm_calc8 {xd xt yo y1 y2 y3 : Int32} {xv : Int64} {dp ib aH aB hP pT pL pk pv gk gv gh cn cd cD cP lk lv lh yH yPk yPv yPh yM yA wt wa ws wb wx vk vv vh : Nat → Int32} {pr gl aP lo pV : Nat → Int64} {n p q vb w nh an fl pn t : Nat} {A H : Nat → Nat} {M : Nat → Bool} (G : hp_G tk tv N f D B mc) (haf : ∀ t, t < N → af t = nI (f t)) (hms : ∀ m, m < mc → ms m = nI (hc_it f m 0)) (hs : s + 1 < 1000000) (hg : g + 1 < 4000000) (IHa : hr_PA tk tv N f D B xm yr ym af ms m (s + 1) (g + 1)) (IHb : hr_PB tk tv N f D B xm yr ym af ms m (s + 1) (g + 1)) (C : hr_C tk N (q + 1) nh an fl pn A H M gl pr aH aP lo hP pk pv gk gv gh lk lv lh yH yPk yPv yPh yM yA) (S : hs_S (hv_V tk N nh H) tk N f D B A M aB pT pL pV wt wa ws wb wx vk vv vh n p q vb w) (t1 : t < N) (t2 : wt n = nI t) (t3 : wa n = nI (A q)) (t5 : wb n = nI vb) (t6 : n < 8 * q + D t) (t7 : M q = true → B t = false) (b8 : pT p = nI t) (V : hv_V tk N nh H xv (vk (vb + 1)) (vv (vb + 1)) (vh (vb + 1))) (VL : hv_V tk N nh H (pV p) (vk vb) (vv vb) (vh vb)) (b1 : ws n = 2) (b9 : pL p = 1) (k2 : tk t = nI 8) (hm : w + 2 + 512 * fl ≤ m + 1) : hr_D N xm yr ym tk tv af ms s g (nI N, xm, 0, 0, nI pn, nI fl, xd, nI (q + 1), nI nh, nI (p + 1), xt, xv, 1, tk, tv, af, dp, ib, ms, pr, gl, aH, aP, aB, lo, hP, pT, pL, pV) (nI N, yr, ym, yo, 0, 0, nI pn, nI fl, xd, nI an, nI (q + 1), nI (n + 1), nI (vb + 1 + 1), y1, y2, y3, tk, tv, pk, pv, gk, gv, gh, cn, cd, cD, cP, lk, lv, lh, yH, yPk, yPv, yPh, yM, yA, wt, wa, ws, wb, wx, vk, vv, vh) := by
  have C' := C
  obtain ⟨c1, c2, c3, c4, cA, cL, cG, cPr⟩ := C'
  have g1 := G.1
  have gL := G.2.1
  have gD := G.2.2.1 t t1
  have hT := G.2.2.2.2.2.2.2.1
  obtain ⟨a1, a2, h0, a3, a4, a5, a6⟩ := cA.1 q (Nat.lt_succ_self q)
  have hH0 := (cA.2.2.1 h0 a3).1
  have hHa : ∀ h, h < nh → H h < an := fun h hh => (cA.2.2.1 h hh).1
  obtain ⟨bd1, bd2, bd3, bd4, bb, bb1, bb2⟩ := hs_S_bd (fun t ht => (G.2.2.1 t ht).2) n p q vb w S
  have hpe : ¬ nI (p + 1) ≤ aB q := by rw [bb1]; exact nI_ge (by omega) (by omega)
  have VK := hv_VK g1 (by omega) V
  have gK : ∀ i, i < 8 → hv_K (gl i) (gk i) (gv i) := fun i hi => hv_VK g1 (by omega) (cG i hi)
  have hH : ∀ e, e ≤ q → ∃ h, h < 256 ∧ aH e = nI h := fun e he => by
    obtain ⟨_, _, h, h1, h2, _⟩ := cA.1 e (by omega)
    exact ⟨h, by omega, h2⟩
  have VL' := hv_VK g1 (by omega) VL
  by_cases z : vk vb = 1 ∨ vk (vb + 1) = 1
  · exact hr_st hs hg (by decide) (wk_xb (by omega) (by omega) hpe (fun K h => wx_res67 (by omega) (by omega) b8 (k := 8) (by omega) k2 (Or.inr b9) (wx_calc8 (by omega) VL' VK (fun _ => h) (fun x y => by rw [x, y] at z; exact absurd z (by decide))))) (wk_ys (by omega) (by omega) (fun K h => wy_calc8 (by omega) t1 g1 (by omega) t2 t3 b1 k2 (by omega) (fun _ => h) (fun x y => absurd z (fun c => c.elim x y)))) (hr_F_mk hv_K0 c3 cPr gK)
  · have z1 : vk vb ≠ 1 := fun x => z (Or.inl x)
    have z2 : vk (vb + 1) ≠ 1 := fun x => z (Or.inr x)
    exact hr_gb (by omega) (by omega) (by omega) (by omega) hpe (fun K h => wx_res67 (by omega) (by omega) b8 (k := 8) (by omega) k2 (Or.inr b9) (wx_calc8 (by omega) VL' VK (fun x => absurd x z) (fun _ _ => h))) (fun K h => wy_calc8 (by omega) t1 g1 (by omega) t2 t3 b1 k2 (by omega) (fun x => absurd x z) (fun _ _ => h)) (IHb C (hs_t_v S _ _ _) (by rw [pk_us, pk_us, pk_us]; exact Or.inl ⟨rfl, rfl⟩) (by omega))
theorem hm_calc9 {xd xt yo y1 y2 y3 : Int32} {xv : Int64} {dp ib aH aB hP pT pL pk pv gk gv gh cn cd cD cP lk lv lh yH yPk yPv yPh yM yA wt wa ws wb wx vk vv vh : Nat → Int32} {pr gl aP lo pV : Nat → Int64} {n p q vb w nh an fl pn t : Nat} {A H : Nat → Nat} {M : Nat → Bool} (G : hp_G tk tv N f D B mc) (haf : ∀ t, t < N → af t = nI (f t)) (hms : ∀ m, m < mc → ms m = nI (hc_it f m 0)) (hs : s + 1 < 1000000) (hg : g + 1 < 4000000) (IHa : hr_PA tk tv N f D B xm yr ym af ms m (s + 1) (g + 1)) (IHb : hr_PB tk tv N f D B xm yr ym af ms m (s + 1) (g + 1)) (C : hr_C tk N (q + 1) nh an fl pn A H M gl pr aH aP lo hP pk pv gk gv gh lk lv lh yH yPk yPv yPh yM yA) (S : hs_S (hv_V tk N nh H) tk N f D B A M aB pT pL pV wt wa ws wb wx vk vv vh n p q vb w) (t1 : t < N) (t2 : wt n = nI t) (t3 : wa n = nI (A q)) (t5 : wb n = nI vb) (t6 : n < 8 * q + D t) (t7 : M q = true → B t = false) (b8 : pT p = nI t) (V : hv_V tk N nh H xv (vk (vb + 1)) (vv (vb + 1)) (vh (vb + 1))) (VL : hv_V tk N nh H (pV p) (vk vb) (vv vb) (vh vb)) (b1 : ws n = 2) (b9 : pL p = 1) (k2 : tk t = nI 9) (hm : w + 2 + 512 * fl ≤ m + 1) : hr_D N xm yr ym tk tv af ms s g (nI N, xm, 0, 0, nI pn, nI fl, xd, nI (q + 1), nI nh, nI (p + 1), xt, xv, 1, tk, tv, af, dp, ib, ms, pr, gl, aH, aP, aB, lo, hP, pT, pL, pV) (nI N, yr, ym, yo, 0, 0, nI pn, nI fl, xd, nI an, nI (q + 1), nI (n + 1), nI (vb + 1 + 1), y1, y2, y3, tk, tv, pk, pv, gk, gv, gh, cn, cd, cD, cP, lk, lv, lh, yH, yPk, yPv, yPh, yM, yA, wt, wa, ws, wb, wx, vk, vv, vh) := by
  have C' := C
  obtain ⟨c1, c2, c3, c4, cA, cL, cG, cPr⟩ := C'
  have g1 := G.1
  have gL := G.2.1
  have gD := G.2.2.1 t t1
  have hT := G.2.2.2.2.2.2.2.1
  obtain ⟨a1, a2, h0, a3, a4, a5, a6⟩ := cA.1 q (Nat.lt_succ_self q)
  have hH0 := (cA.2.2.1 h0 a3).1
  have hHa : ∀ h, h < nh → H h < an := fun h hh => (cA.2.2.1 h hh).1
  obtain ⟨bd1, bd2, bd3, bd4, bb, bb1, bb2⟩ := hs_S_bd (fun t ht => (G.2.2.1 t ht).2) n p q vb w S
  have hpe : ¬ nI (p + 1) ≤ aB q := by rw [bb1]; exact nI_ge (by omega) (by omega)
  have VK := hv_VK g1 (by omega) V
  have gK : ∀ i, i < 8 → hv_K (gl i) (gk i) (gv i) := fun i hi => hv_VK g1 (by omega) (cG i hi)
  have hH : ∀ e, e ≤ q → ∃ h, h < 256 ∧ aH e = nI h := fun e he => by
    obtain ⟨_, _, h, h1, h2, _⟩ := cA.1 e (by omega)
    exact ⟨h, by omega, h2⟩
  have VL' := hv_VK g1 (by omega) VL
  by_cases z : vk vb = 1 ∨ vk (vb + 1) = 1
  · exact hr_st hs hg (by decide) (wk_xb (by omega) (by omega) hpe (fun K h => wx_res67 (by omega) (by omega) b8 (k := 9) (by omega) k2 (Or.inr b9) (wx_calc9 (by omega) VL' VK (fun _ => h) (fun x y => by rw [x, y] at z; exact absurd z (by decide))))) (wk_ys (by omega) (by omega) (fun K h => wy_calc9 (by omega) t1 g1 (by omega) t2 t3 b1 k2 (by omega) (fun _ => h) (fun x y => absurd z (fun c => c.elim x y)))) (hr_F_mk hv_K0 c3 cPr gK)
  · have z1 : vk vb ≠ 1 := fun x => z (Or.inl x)
    have z2 : vk (vb + 1) ≠ 1 := fun x => z (Or.inr x)
    exact hr_gb (by omega) (by omega) (by omega) (by omega) hpe (fun K h => wx_res67 (by omega) (by omega) b8 (k := 9) (by omega) k2 (Or.inr b9) (wx_calc9 (by omega) VL' VK (fun x => absurd x z) (fun _ _ => h))) (fun K h => wy_calc9 (by omega) t1 g1 (by omega) t2 t3 b1 k2 (by omega) (fun x => absurd x z) (fun _ _ => h)) (IHb C (hs_t_v S _ _ _) (by rw [pk_us, pk_us, pk_us]; exact Or.inl ⟨rfl, rfl⟩) (by omega))
theorem hm_value {xd xt yo y1 y2 y3 : Int32} {xv : Int64} {dp ib aH aB hP pT pL pk pv gk gv gh cn cd cD cP lk lv lh yH yPk yPv yPh yM yA wt wa ws wb wx vk vv vh : Nat → Int32} {pr gl aP lo pV : Nat → Int64} {n p q vb w nh an fl pn t : Nat} {A H : Nat → Nat} {M : Nat → Bool} (G : hp_G tk tv N f D B mc) (haf : ∀ t, t < N → af t = nI (f t)) (hms : ∀ m, m < mc → ms m = nI (hc_it f m 0)) (hs : s + 1 < 1000000) (hg : g + 1 < 4000000) (IHa : hr_PA tk tv N f D B xm yr ym af ms m (s + 1) (g + 1)) (IHb : hr_PB tk tv N f D B xm yr ym af ms m (s + 1) (g + 1)) (C : hr_C tk N (q + 1) nh an fl pn A H M gl pr aH aP lo hP pk pv gk gv gh lk lv lh yH yPk yPv yPh yM yA) (S : hs_S (hv_V tk N nh H) tk N f D B A M aB pT pL pV wt wa ws wb wx vk vv vh n p q vb w) (t1 : t < N) (t2 : wt n = nI t) (t3 : wa n = nI (A q)) (t5 : wb n = nI vb) (t6 : n < 8 * q + D t) (t7 : M q = true → B t = false) (b8 : pT p = nI t) (V : hv_V tk N nh H xv (vk (vb + 1)) (vv (vb + 1)) (vh (vb + 1))) (VL : hv_V tk N nh H (pV p) (vk vb) (vv vb) (vh vb)) (b1 : ws n = 2) (b9 : pL p = 1) (k2 : tk t = nI 14) (hm : w + 2 + 512 * fl ≤ m + 1) : hr_D N xm yr ym tk tv af ms s g (nI N, xm, 0, 0, nI pn, nI fl, xd, nI (q + 1), nI nh, nI (p + 1), xt, xv, 1, tk, tv, af, dp, ib, ms, pr, gl, aH, aP, aB, lo, hP, pT, pL, pV) (nI N, yr, ym, yo, 0, 0, nI pn, nI fl, xd, nI an, nI (q + 1), nI (n + 1), nI (vb + 1 + 1), y1, y2, y3, tk, tv, pk, pv, gk, gv, gh, cn, cd, cD, cP, lk, lv, lh, yH, yPk, yPv, yPh, yM, yA, wt, wa, ws, wb, wx, vk, vv, vh) := by
  have C' := C
  obtain ⟨c1, c2, c3, c4, cA, cL, cG, cPr⟩ := C'
  have g1 := G.1
  have gL := G.2.1
  have gD := G.2.2.1 t t1
  have hT := G.2.2.2.2.2.2.2.1
  obtain ⟨a1, a2, h0, a3, a4, a5, a6⟩ := cA.1 q (Nat.lt_succ_self q)
  have hH0 := (cA.2.2.1 h0 a3).1
  have hHa : ∀ h, h < nh → H h < an := fun h hh => (cA.2.2.1 h hh).1
  obtain ⟨bd1, bd2, bd3, bd4, bb, bb1, bb2⟩ := hs_S_bd (fun t ht => (G.2.2.1 t ht).2) n p q vb w S
  have hpe : ¬ nI (p + 1) ≤ aB q := by rw [bb1]; exact nI_ge (by omega) (by omega)
  have VK := hv_VK g1 (by omega) V
  have gK : ∀ i, i < 8 → hv_K (gl i) (gk i) (gv i) := fun i hi => hv_VK g1 (by omega) (cG i hi)
  have hH : ∀ e, e ≤ q → ∃ h, h < 256 ∧ aH e = nI h := fun e he => by
    obtain ⟨_, _, h, h1, h2, _⟩ := cA.1 e (by omega)
    exact ⟨h, by omega, h2⟩
  have VL' := hv_VK g1 (by omega) VL
  rcases VL with ⟨z, zz⟩ | ⟨z, tb, hb, d1, d2, d3, d4, d5, d6⟩
  · have z1 : vk vb ≠ 1 := by rw [z]; decide
    exact hr_st hs hg (by decide) (wk_xb (by omega) (by omega) hpe (fun K h => wx_res67 (by omega) (by omega) b8 (k := 14) (by omega) k2 (Or.inr b9) (wx_value (by omega) (by omega) (by omega) VL' (tb := 0) (hb := 0) (fun x => absurd x z1) (fun _ => h) (fun x => absurd x z1) (fun x => absurd x z1) (fun x => absurd x z1)))) (wk_ys (by omega) (by omega) (fun K h => wy_value2 (by omega) t1 g1 (by omega) t2 t3 b1 k2 (by omega) (by omega) (by omega) (fun _ => by omega) (tb := 0) (hb := 0) (fun x => absurd x z1) (fun _ => h) (fun x => absurd x z1) (fun x => absurd x z1) (fun x => absurd x z1))) (hr_F_mk hv_K0 c3 cPr gK)
  · have z0 : vk vb ≠ 0 := by rw [z]; decide
    have xb : vk vb = 1 → pV p = hv_b tb hb ∧ tb < 128 ∧ hb < 256 := fun _ => ⟨d6, by omega, by omega⟩
    have hHb := hHa hb d3
    have yb : vk vb = 1 → vv vb = nI tb ∧ vh vb = nI (H hb) ∧ H hb < an := fun _ => ⟨d4, d5, hHb⟩
    have p1 := hp_1 G d1 (by rw [d2]; decide)
    have p2 := hp_lt G p1.1
    cases fl with
    | zero => exact hr_st hs hg (by decide) (wk_xb (by omega) (by omega) hpe (fun K h => wx_res67 (by omega) (by omega) b8 (k := 14) (by omega) k2 (Or.inr b9) (wx_value (by omega) (by omega) (by omega) VL' xb (fun x => absurd x z0) (fun _ _ => h) (fun _ f1 e => nomatch e) (fun _ f1 e => nomatch e)))) (wk_ys (by omega) (by omega) (fun K h => wy_value2 (by omega) t1 g1 (by omega) t2 t3 b1 k2 (by omega) (by omega) (by omega) (fun _ => by omega) yb (fun x => absurd z x) (fun _ _ => h) (fun _ f1 e => nomatch e) (fun _ f1 e => nomatch e))) (hr_F_mk hv_K0 c3 cPr gK)
    | succ f1 =>
      by_cases y : q + 1 = 16
      · have X1 : ∀ K : SX → Prop, K (nI N, xm, 5, 0, nI pn, nI f1, xd, nI (q + 1), nI nh, nI p, xt, xv, 1, tk, tv, af, dp, ib, ms, pr, gl, aH, aP, aB, lo, hP, pT, pL, pV) → wpX_resumeToken K (nI N, xm, 0, 0, nI pn, nI (f1 + 1), xd, nI (q + 1), nI nh, nI (p + 1), xt, xv, 1, tk, tv, af, dp, ib, ms, pr, gl, aH, aP, aB, lo, hP, pT, pL, pV) := fun K h => wx_res67 (by omega) (by omega) b8 (k := 14) (by omega) k2 (Or.inr b9) (wx_value (by omega) (by omega) (by omega) VL' xb (fun x => absurd x z0) (fun _ e => nomatch e) (fun _ f2 e _ => by cases e; exact h) (fun _ f2 e z2 => absurd y (by omega)))
        have Y1 : ∀ K : Int32 → SY → Prop, K 5 (nI N, yr, ym, yo, 0, 0, nI pn, nI f1, xd, nI an, nI (q + 1), nI (n + 1), nI vb, vk vb, vv vb, vh vb, tk, tv, pk, pv, gk, gv, gh, cn, cd, cD, cP, lk, lv, lh, yH, yPk, yPv, yPh, yM, yA, wt, wa, ws, wb, wx, vk, vv, vh) → wpY_step K (nI N, yr, ym, yo, 0, 0, nI pn, nI (f1 + 1), xd, nI an, nI (q + 1), nI (n + 1), nI (vb + 1 + 1), y1, y2, y3, tk, tv, pk, pv, gk, gv, gh, cn, cd, cD, cP, lk, lv, lh, yH, yPk, yPv, yPh, yM, yA, wt, wa, ws, wb, wx, vk, vv, vh) := fun K h => wy_value2 (by omega) t1 g1 (by omega) t2 t3 b1 k2 (by omega) (by omega) (by omega) (fun _ => by omega) yb (fun x => absurd z x) (fun _ e => nomatch e) (fun _ f2 e _ => by cases e; exact h) (fun _ f2 e z2 => absurd y (by omega))
        exact hr_st hs hg (by decide) (wk_xb (by omega) (by omega) hpe X1) (wk_ys (by omega) (by omega) Y1) (hr_F_mk hv_K0 c3 cPr gK)
      · obtain ⟨S2, T2⟩ := hs_t_c (an := an) (b := false) (fun _ _ _ _ h => h) G.2.2.1 S t1 t2 t3 t5 t6 t7 (Or.inr ⟨rfl, k2, rfl⟩) p1.1 (fun x => nomatch x)
        exact hr_gb (by omega) (by omega) (by omega) (by omega) hpe (fun K h => wx_res67 (by omega) (by omega) b8 (k := 14) (by omega) k2 (Or.inr b9) (wx_value (by omega) (by omega) (by omega) VL' xb (fun x => absurd x z0) (fun _ e => nomatch e) (fun _ f2 e z2 => absurd z2 y) (fun _ f2 e _ => by cases e; exact h))) (fun K h => wy_value2 (by omega) t1 g1 (by omega) t2 t3 b1 k2 (by omega) (by omega) (by omega) (fun _ => by omega) yb (fun x => absurd z x) (fun _ e => nomatch e) (fun _ f2 e z2 => absurd z2 y) (fun _ f2 e _ => by cases e; exact h)) (IHa ⟨by omega, by omega, c3, by omega, hs_A_block cA d3 V, hs_L_blk cL hHa, cG, cPr⟩ S2 T2 (by omega))
theorem hm_end {xd xt yo y1 y2 y3 : Int32} {xv : Int64} {dp ib aH aB hP pT pL pk pv gk gv gh cn cd cD cP lk lv lh yH yPk yPv yPh yM yA wt wa ws wb wx vk vv vh : Nat → Int32} {pr gl aP lo pV : Nat → Int64} {n p q vb w nh an fl pn t : Nat} {A H : Nat → Nat} {M : Nat → Bool} (G : hp_G tk tv N f D B mc) (haf : ∀ t, t < N → af t = nI (f t)) (hms : ∀ m, m < mc → ms m = nI (hc_it f m 0)) (hs : s + 1 < 1000000) (hg : g + 1 < 4000000) (IHa : hr_PA tk tv N f D B xm yr ym af ms m (s + 1) (g + 1)) (IHb : hr_PB tk tv N f D B xm yr ym af ms m (s + 1) (g + 1)) (C : hr_C tk N (q + 1 + 1) nh an fl pn A H M gl pr aH aP lo hP pk pv gk gv gh lk lv lh yH yPk yPv yPh yM yA) (S : hs_S (hv_V tk N nh H) tk N f D B A M aB pT pL pV wt wa ws wb wx vk vv vh n p q vb w) (t1 : t < N) (t2 : wt n = nI t) (t3 : wa n = nI (A q)) (t5 : wb n = nI vb) (t6 : n < 8 * q + D t) (t7 : M q = true → B t = false) (b4 : wx n = nI (A (q + 1))) (b5 : aB (q + 1) = nI p) (b6 : (ws n = 2 ∧ tk t = 15 ∧ M (q + 1) = true) ∨ (ws n = 3 ∧ tk t = 14 ∧ M (q + 1) = false)) (V : hv_V tk N nh H xv (vk vb) (vv vb) (vh vb)) (hm : w + 1 + 512 * fl ≤ m + 1) : hr_D N xm yr ym tk tv af ms s g (nI N, xm, 0, 0, nI pn, nI fl, xd, nI (q + 1 + 1), nI nh, nI p, xt, xv, 1, tk, tv, af, dp, ib, ms, pr, gl, aH, aP, aB, lo, hP, pT, pL, pV) (nI N, yr, ym, yo, 0, 0, nI pn, nI fl, xd, nI an, nI (q + 1 + 1), nI (n + 1), nI (vb + 1), y1, y2, y3, tk, tv, pk, pv, gk, gv, gh, cn, cd, cD, cP, lk, lv, lh, yH, yPk, yPv, yPh, yM, yA, wt, wa, ws, wb, wx, vk, vv, vh) := by
  have C' := C
  obtain ⟨c1, c2, c3, c4, cA, cL, cG, cPr⟩ := C'
  have g1 := G.1
  have gD := G.2.2.1 t t1
  obtain ⟨a1, a2, h0, a3, a4, a5, a6⟩ := cA.1 (q + 1) (Nat.lt_succ_self _)
  obtain ⟨d1, d2, d3⟩ := cA.1 q (by omega)
  obtain ⟨bd1, bd2, bd3, bd4, bb, bb1, bb2⟩ := hs_S_bd (fun t ht => (G.2.2.1 t ht).2) n p q vb w S
  have hH : ∀ e, e ≤ q + 1 → ∃ h, h < 256 ∧ aH e = nI h := fun e he => by
    obtain ⟨_, _, h, h1, h2, _⟩ := cA.1 e (by omega)
    exact ⟨h, by omega, h2⟩
  have cA' := hs_A_end (yA' := upd yA (A (q + 1)) 0) cA (by omega) (by omega) (p := q + 1) (by omega) (fun mm x y => by
    by_cases e : mm = A (q + 1)
    · rw [e]; exact pk_us
    · rw [pk_un e]
      rcases cA.2.2.2.2 mm y with z | ⟨r, r1, r2⟩
      · exact z
      · have r3 : r ≤ q + 1 := by omega
        rcases Nat.lt_or_ge r (q + 1) with x1 | x1
        · have := cA.2.1 r (q + 1) x1 (by omega); omega
        · have x2 : r = q + 1 := by omega
          rw [x2] at r2; omega) (fun mm x => pk_un (by omega))
  have hpe : nI p ≤ aB (q + 1) := by rw [b5]; exact nI_le (Nat.le_refl _) (by omega)
  have key : hr_D N xm yr ym tk tv af ms (s + 1) (g + 1) (nI N, xm, 0, 0, nI pn, nI fl, xd, nI (q + 1), nI nh, aB (q + 1), xt, xv, 1, tk, tv, af, dp, ib, ms, pr, gl, aH, aP, aB, lo, hx_end aH (q + 1) (q + 1 + 1) hP, pT, pL, pV) (nI N, yr, ym, yo, 0, 0, nI pn, nI fl, xd, nI an, nI (q + 1), nI n, nI (vb + 1), vk vb, vv vb, vh vb, tk, tv, pk, pv, gk, gv, gh, cn, cd, cD, cP, lk, lv, lh, yH, yPk, yPv, yPh, yM, upd yA (A (q + 1)) 0, wt, wa, ws, wb, wx, upd vk vb (vk vb), upd vv vb (vv vb), upd vh vb (vh vb)) := by
    rw [b5]
    exact IHb ⟨c1, c2, c3, by omega, cA', cL, cG, cPr⟩ (hs_t_v S _ _ _) (by rw [pk_us, pk_us, pk_us]; exact V) (by omega)
  rcases b6 with ⟨e1, e2, -⟩ | ⟨e1, e2, -⟩
  · exact hr_gr (by omega) (by omega) (by omega) (by omega) hpe (fun K h => wx_returnFrom (by omega) (Nat.le_refl _) hH (fun x => nomatch x) (fun _ => h)) (fun K h => wy_call2 (by omega) t1 g1 (by omega) t2 t3 e1 e2 (by omega) (by omega) (by omega) b4 a2 t5 h) key
  · exact hr_gr (by omega) (by omega) (by omega) (by omega) hpe (fun K h => wx_returnFrom (by omega) (Nat.le_refl _) hH (fun x => nomatch x) (fun _ => h)) (fun K h => wy_value3 (by omega) t1 g1 (by omega) t2 t3 e1 e2 (by omega) (by omega) (by omega) b4 a2 t5 h) key
end
end
section
theorem hs_S_w {V : Int64 → Int32 → Int32 → Int32 → Prop} {tk : Nat → Int32} {N : Nat} {f D : Nat → Nat} {B : Nat → Bool} {A : Nat → Nat} {M : Nat → Bool} {xB pT pL : Nat → Int32} {pV : Nat → Int64} {wt wa ws wb wx vk vv vh : Nat → Int32} : ∀ n p q vb w, hs_S V tk N f D B A M xB pT pL pV wt wa ws wb wx vk vv vh n p q vb w → n ≤ w
  | 0, _, _, _, _, _ => Nat.zero_le _
  | n + 1, p, q, vb, w, h => by
    obtain ⟨t, p', q', vb', w', S, -, -, -, -, -, -, h⟩ := h
    have i := hs_S_w n p' q' vb' w' S
    rcases h with ⟨-, -, -, -, -, -, e, -⟩ | ⟨-, -, -, -, -, e, -⟩ | ⟨-, -, -, -, -, e⟩ | ⟨-, -, -, -, -, e⟩ | ⟨-, -, -, e, -⟩ <;> omega
section
variable {tk tv : Nat → Int32} {N mc : Nat} {f D : Nat → Nat} {B : Nat → Bool} {xm yr ym : Int32} {af ms : Nat → Int32} {m s g : Nat}
theorem hm_fin {xd xt yo y1 y2 y3 : Int32} {xv : Int64} {dp ib aH aB hP pT pL pk pv gk gv gh cn cd cD cP lk lv lh yH yPk yPv yPh yM yA wt wa ws wb wx vk vv vh : Nat → Int32} {pr gl aP lo pV : Nat → Int64} {p q vb w nh an fl pn : Nat} {A H : Nat → Nat} {M : Nat → Bool} (G : hp_G tk tv N f D B mc) (hs : s + 1 < 1000000) (hg : g + 1 < 4000000)
    (C : hr_C tk N (q + 1) nh an fl pn A H M gl pr aH aP lo hP pk pv gk gv gh lk lv lh yH yPk yPv yPh yM yA) (S : hs_S (hv_V tk N nh H) tk N f D B A M aB pT pL pV wt wa ws wb wx vk vv vh 0 p q vb w) (V : hv_V tk N nh H xv (vk vb) (vv vb) (vh vb)) :
    hr_D N xm yr ym tk tv af ms s g (nI N, xm, 0, 0, nI pn, nI fl, xd, nI (q + 1), nI nh, nI p, xt, xv, 1, tk, tv, af, dp, ib, ms, pr, gl, aH, aP, aB, lo, hP, pT, pL, pV) (nI N, yr, ym, yo, 0, 0, nI pn, nI fl, xd, nI an, nI (q + 1), nI 0, nI (vb + 1), y1, y2, y3, tk, tv, pk, pv, gk, gv, gh, cn, cd, cD, cP, lk, lv, lh, yH, yPk, yPv, yPh, yM, yA, wt, wa, ws, wb, wx, vk, vv, vh) := by
  obtain ⟨rfl, rfl, rfl, rfl, x0⟩ := S
  obtain ⟨c1, c2, c3, c4, cA, cL, cG, cPr⟩ := C
  have g1 := G.1
  have hH : ∀ e, e ≤ 0 → ∃ h, h < 256 ∧ aH e = nI h := fun e he => by
    obtain ⟨_, _, h, h1, h2, _⟩ := cA.1 e (by omega)
    exact ⟨h, by omega, h2⟩
  have VK := hv_VK g1 (by omega) V
  have gK : ∀ i, i < 8 → hv_K (gl i) (gk i) (gv i) := fun i hi => hv_VK g1 (by omega) (cG i hi)
  have hpe : nI 0 ≤ aB 0 := by rw [x0]; exact nI_le (Nat.le_refl _) (by omega)
  by_cases z : yA 0 = 0
  · exact ⟨_, _, _, wk_xr (q := 0) (by omega) (by omega) hpe (fun K h => wx_returnFrom (by omega) (Nat.le_refl _) hH (fun _ => h) (fun z => absurd rfl z)) (wk_xe (by omega) (by decide)), wk_y0 (by omega) (by omega) (Or.inl ⟨z, rfl, rfl⟩), hr_F_mk VK c3 cPr gK⟩
  · exact ⟨_, _, _, wk_xr (q := 0) (by omega) (by omega) hpe (fun K h => wx_returnFrom (by omega) (Nat.le_refl _) hH (fun _ => h) (fun z => absurd rfl z)) (wk_xe (by omega) (by decide)), wk_y0 (by omega) (by omega) (Or.inr ⟨z, rfl, rfl⟩), hr_F_mk VK c3 cPr gK⟩
theorem hm_b (G : hp_G tk tv N f D B mc) (haf : ∀ t, t < N → af t = nI (f t)) (hms : ∀ m, m < mc → ms m = nI (hc_it f m 0)) (hs : s + 1 < 1000000) (hg : g + 1 < 4000000) (IHa : hr_PA tk tv N f D B xm yr ym af ms m (s + 1) (g + 1)) (IHb : hr_PB tk tv N f D B xm yr ym af ms m (s + 1) (g + 1)) (IHc : hr_PB tk tv N f D B xm yr ym af ms m s (g + 1)) : hr_PB tk tv N f D B xm yr ym af ms (m + 1) s g := by
  intro xd xt yo y1 y2 y3 xv dp ib aH aB hP pT pL pk pv gk gv gh cn cd cD cP lk lv lh yH yPk yPv yPh yM yA wt wa ws wb wx vk vv vh pr gl aP lo pV n p q vb w nh an fl pn A H M C S V hm
  cases n with
  | zero => exact hm_fin G hs hg C S V
  | succ n =>
    have hT := G.2.2.2.2.2.2.2.1
    obtain ⟨t, p', q', vb', w', S', t1, t2, t3, t5, t6, t7, h⟩ := S
    obtain ⟨k, k1, k2⟩ := hp_k hT t1
    rcases h with ⟨b1, b2, b3, b4, b5, b6, b7, b8, b9⟩ | ⟨b1, b2, b4, b5, b6, b7, b8, b9, b10⟩ | ⟨b1, b2, b4, b5, b6, b7⟩ | ⟨b1, b2, b4, b5, b6, b7⟩ | ⟨b4, b5, b6, b7, b8, b9, b10⟩
    · subst b4; subst b5; subst b6; subst b7
      by_cases kb : hs_bin (nI k)
      · exact hm_bin1 G haf hms hs hg IHa IHb C S' t1 t2 t3 t5 t6 t7 b8 V b1 b9 k1 k2 kb hm
      · rw [k2] at b2 b3
        rcases hm_un k (by omega) ⟨b2, b3, kb⟩ with rfl | rfl | rfl | rfl | rfl | rfl | rfl
        · exact hm_set G haf hms hs hg IHa IHb C S' t1 t2 t3 t5 t6 t7 b8 V b1 k2 hm
        · exact hm_gset G haf hms hs hg IHa IHb C S' t1 t2 t3 t5 t6 t7 b8 V b1 k2 hm
        · exact hm_if1 G haf hms hs hg IHa IHb C S' t1 t2 t3 t5 t6 t7 b8 V b1 k2 hm
        · exact hm_seq1 G haf hms hs hg IHa IHb C S' t1 t2 t3 t5 t6 t7 b8 V b1 k2 hm
        · exact hm_print G haf hms hs hg IHa IHb C S' t1 t2 t3 t5 t6 t7 b8 V b1 k2 hm
        · exact hm_call G haf hms hs hg IHa IHb C S' t1 t2 t3 t5 t6 t7 b8 V b1 k2 hm
        · exact hm_ret G haf hms hs hg IHa IHb C S' t1 t2 t3 t5 t6 t7 b8 V b1 k2 hm
    · subst b4; subst b5; subst b6; subst b7
      rw [k2] at b2
      rcases hm_bi k (by omega) b2 with rfl | rfl | rfl | rfl | rfl
      · exact hm_calc6 G haf hms hs hg IHa IHb C S' t1 t2 t3 t5 t6 t7 b8 V b10 b1 b9 k2 hm
      · exact hm_calc7 G haf hms hs hg IHa IHb C S' t1 t2 t3 t5 t6 t7 b8 V b10 b1 b9 k2 hm
      · exact hm_calc8 G haf hms hs hg IHa IHb C S' t1 t2 t3 t5 t6 t7 b8 V b10 b1 b9 k2 hm
      · exact hm_calc9 G haf hms hs hg IHa IHb C S' t1 t2 t3 t5 t6 t7 b8 V b10 b1 b9 k2 hm
      · exact hm_value G haf hms hs hg IHa IHb C S' t1 t2 t3 t5 t6 t7 b8 V b10 b1 b9 k2 hm
    · subst b4; subst b5; subst b6; subst b7
      have g1 := G.1
      have gD := G.2.2.1 t t1
      have C' := C
      obtain ⟨c1, c2, c3, c4, cA, -⟩ := C'
      have a1 := (cA.1 q (Nat.lt_succ_self q)).1
      obtain ⟨bd1, bd2, bd3, bd4, bb, bb1, bb2⟩ := hs_S_bd (fun t ht => (G.2.2.1 t ht).2) n p q vb' w' S'
      exact hr_gy (by omega) (by omega) (fun K h => wy_seq2 (by omega) t1 g1 (by omega) t2 t3 b1 b2 (by omega) h) (IHc C (hs_t_v S' _ _ _) (by rw [pk_us, pk_us, pk_us]; exact V) (by omega))
    · subst b4; subst b5; subst b6; subst b7
      have g1 := G.1
      have gD := G.2.2.1 t t1
      have C' := C
      obtain ⟨c1, c2, c3, c4, cA, -⟩ := C'
      have a1 := (cA.1 q (Nat.lt_succ_self q)).1
      exact hr_gy (by omega) (by omega) (fun K h => wy_if2 (by omega) t1 g1 (by omega) t2 t3 b1 b2 h) (IHc C S' V (by omega))
    · subst b4; subst b5; subst b6; subst b7
      exact hm_end G haf hms hs hg IHa IHb C S' t1 t2 t3 t5 t6 t7 b8 b9 b10 V hm
theorem hm_all (G : hp_G tk tv N f D B mc) (haf : ∀ t, t < N → af t = nI (f t)) (hms : ∀ m, m < mc → ms m = nI (hc_it f m 0)) : ∀ m s g, s + m + 2 < 1000000 → g + m + 2 < 4000000 → hr_PA tk tv N f D B xm yr ym af ms m s g ∧ hr_PB tk tv N f D B xm yr ym af ms m s g := by
  intro m
  induction m with
  | zero =>
    intro s g hs hg
    constructor
    · intro xd yo y1 y2 y3 xv dp ib aH aB hP pT pL pk pv gk gv gh cn cd cD cP lk lv lh yH yPk yPv yPh yM yA wt wa ws wb wx vk vv vh pr gl aP lo pV n p q vb w t nh an fl pn A H M C S T hm
      have lt := hp_lt G T.1
      omega
    · intro xd xt yo y1 y2 y3 xv dp ib aH aB hP pT pL pk pv gk gv gh cn cd cD cP lk lv lh yH yPk yPv yPh yM yA wt wa ws wb wx vk vv vh pr gl aP lo pV n p q vb w nh an fl pn A H M C S V hm
      have hw := hs_S_w n p q vb w S
      have n0 : n = 0 := by omega
      subst n0
      exact hm_fin G (by omega) (by omega) C S V
  | succ m ih =>
    intro s g hs hg
    obtain ⟨i1, i2⟩ := ih (s + 1) (g + 1) (by omega) (by omega)
    obtain ⟨-, i3⟩ := ih s (g + 1) (by omega) (by omega)
    exact ⟨hm_a G (by omega) (by omega) i1 i2, hm_b G haf hms (by omega) (by omega) i1 i2 i3⟩
end
end
section
def zk {α : Type} (g : Nat → α) (z : α) (i : Nat) : Nat → α := fun j => if j < i then z else g j
theorem zk_lt {α : Type} {g : Nat → α} {z : α} {i j : Nat} (h : j < i) : zk g z i j = z := if_pos h
theorem zk_0 {α : Type} {g : Nat → α} {z : α} : zk g z 0 = g := funext fun j => if_neg (by omega)
theorem zk_s {g : Nat → Int32} {i : Nat} : upd (zk g 0 i) i 0 = zk g 0 (i + 1) := by
  funext j
  unfold zk
  by_cases e : j = i
  · subst e; rw [pk_us, if_pos (by omega)]
  · rw [pk_un e]
    by_cases z : j < i
    · rw [if_pos z, if_pos (by omega)]
    · rw [if_neg z, if_neg (by omega)]
theorem zk_sL {g : Nat → Int64} {i : Nat} : vp_updL (zk g 0 i) i 0 = zk g 0 (i + 1) := by
  funext j
  unfold zk
  by_cases e : j = i
  · subst e; rw [pk_uLs, if_pos (by omega)]
  · rw [pk_uLn e]
    by_cases z : j < i
    · rw [if_pos z, if_pos (by omega)]
    · rw [if_neg z, if_neg (by omega)]
section
variable {xn xm xo xpn xf xd xa xh xp xt xy : Int32} {xr xv : Int64} {tk tv af dp ib ms aH aB hP pT pL : Nat → Int32} {pr gl aP lo pV : Nat → Int64} {K : SX → Prop}
theorem wx_reset (h : K (xn, xm, 0, 0, 0, 0, 0, xa, xh, xp, xt, xv, xy, tk, tv, af, dp, ib, ms, pr, zk gl 0 8, aH, aP, aB, lo, hP, pT, pL, pV)) : wpX_resetAnswers K (xn, xm, xo, xr, xpn, xf, xd, xa, xh, xp, xt, xv, xy, tk, tv, af, dp, ib, ms, pr, gl, aH, aP, aB, lo, hP, pT, pL, pV) := by
  have key : ∀ d i, i + d = 8 → wX_resetAnswers_17 K xn xm 0 0 0 xf xd xa xh xp xt xv xy (d + 1) (nI i) tk tv af dp ib ms pr (zk gl 0 i) aH aP aB lo hP pT pL pV := by
    intro d
    induction d with
    | zero =>
      intro i hi
      have e : i = 8 := by omega
      subst e
      exact br_t (by decide) h
    | succ d ih =>
      intro i hi
      exact br_f (nI_ge (b := 8) (by omega) (by decide)) ⟨vp_in_nI (by omega) (by omega), nm_r (show _ = zk gl 0 (i + 1) by rw [nI_clamp (by omega)]; exact zk_sL) (nm_r (nI_1 i) (ih (i + 1) (by omega)))⟩
  have w := key 8 0 rfl
  rw [zk_0] at w
  unfold wpX_resetAnswers
  exact ⟨9, w⟩
end
section
variable {yn yr ym yo yrk yrv ypn yf yd ya yac yw yv y1 y2 y3 : Int32} {tk tv pk pv gk gv gh cn cd cD cP lk lv lh yH yPk yPv yPh yM yA wt wa ws wb wx vk vv vh : Nat → Int32} {K : SY → Prop} {P : Int32 → SY → Prop}
theorem wy_clear (h : K (0, 0, 0, 0, 0, 0, 0, 0, 0, ya, yac, yw, yv, y1, y2, y3, tk, tv, pk, pv, zk gk 0 8, zk gv 0 8, zk gh 0 8, cn, cd, cD, cP, lk, lv, lh, yH, yPk, yPv, yPh, yM, yA, wt, wa, ws, wb, wx, vk, vv, vh)) : wpY_clear K (yn, yr, ym, yo, yrk, yrv, ypn, yf, yd, ya, yac, yw, yv, y1, y2, y3, tk, tv, pk, pv, gk, gv, gh, cn, cd, cD, cP, lk, lv, lh, yH, yPk, yPv, yPh, yM, yA, wt, wa, ws, wb, wx, vk, vv, vh) := by
  have key : ∀ d i, i + d = 8 → wY_clear_37 K 0 0 0 0 0 0 0 yf yd ya yac yw yv y1 y2 y3 (d + 1) (nI i) tk tv pk pv (zk gk 0 i) (zk gv 0 i) (zk gh 0 i) cn cd cD cP lk lv lh yH yPk yPv yPh yM yA wt wa ws wb wx vk vv vh := by
    intro d
    induction d with
    | zero =>
      intro i hi
      have e : i = 8 := by omega
      subst e
      exact br_t (by decide) h
    | succ d ih =>
      intro i hi
      have e1 : (nI i).toNatClampNeg = i := nI_clamp (by omega)
      have i1 : vp_in (nI i) 8 := vp_in_nI (by omega) (by omega)
      exact br_f (nI_ge (b := 8) (by omega) (by decide)) ⟨i1, nm_r (show _ = zk gk 0 (i + 1) by rw [e1]; exact zk_s) ⟨i1, nm_r (show _ = zk gv 0 (i + 1) by rw [e1]; exact zk_s) ⟨i1, nm_r (show _ = zk gh 0 (i + 1) by rw [e1]; exact zk_s) (nm_r (nI_1 i) (ih (i + 1) (by omega)))⟩⟩⟩
  have w := key 8 0 rfl
  rw [zk_0, zk_0, zk_0] at w
  unfold wpY_clear
  exact ⟨9, w⟩
theorem wy_run35 {a fl : Int32} (h : wpY_newAct (fun r u => match u with | (yn, yr, ym, yo, yrk, yrv, ypn, yf, yd, ya, yac, yw, yv, y1, y2, y3, tk, tv, pk, pv, gk, gv, gh, cn, cd, cD, cP, lk, lv, lh, yH, yPk, yPv, yPh, yM, yA, wt, wa, ws, wb, wx, vk, vv, vh) => wpY_pushW (fun u => match u with | (yn, yr, ym, yo, yrk, yrv, ypn, yf, yd, ya, yac, yw, yv, y1, y2, y3, tk, tv, pk, pv, gk, gv, gh, cn, cd, cD, cP, lk, lv, lh, yH, yPk, yPv, yPh, yM, yA, wt, wa, ws, wb, wx, vk, vv, vh) => ∃ n141 : Nat, wY_run_141 P n141 0 0 yn yr ym yo yrk yrv ypn yf yd ya yac yw yv y1 y2 y3 tk tv pk pv gk gv gh cn cd cD cP lk lv lh yH yPk yPv yPh yM yA wt wa ws wb wx vk vv vh) (yn, yr, ym, yo, yrk, yrv, ypn, yf, yd, ya, yac, yw, yv, y1, y2, y3, tk, tv, pk, pv, gk, gv, gh, cn, cd, cD, cP, lk, lv, lh, yH, yPk, yPv, yPh, yM, yA, wt, wa, ws, wb, wx, vk, vv, vh) 0 r) (yn, yr, ym, yo, 0, 0, 0, fl, 0, 0, 0, 0, 0, y1, y2, y3, tk, tv, pk, pv, zk gk 0 8, zk gv 0 8, zk gh 0 8, cn, cd, cD, cP, lk, lv, lh, yH, yPk, yPv, yPh, yM, yA, wt, wa, ws, wb, wx, vk, vv, vh) 1 0 0 a 0) : ∃ n35, wY_run_35 P a fl yn yr ym yo yrk yrv ypn yf yd ya yac yw yv y1 y2 y3 n35 0 tk tv pk pv gk gv gh cn cd cD cP lk lv lh yH yPk yPv yPh yM yA wt wa ws wb wx vk vv vh := by
  have key : ∀ d i, i + d = 8 → wY_run_35 P a fl yn yr ym yo yrk yrv ypn yf yd ya yac yw yv y1 y2 y3 (d + 1) (nI i) tk tv pk pv (zk gk 0 i) (zk gv 0 i) (zk gh 0 i) cn cd cD cP lk lv lh yH yPk yPv yPh yM yA wt wa ws wb wx vk vv vh := by
    intro d
    induction d with
    | zero =>
      intro i hi
      have e : i = 8 := by omega
      subst e
      exact br_t (by decide) h
    | succ d ih =>
      intro i hi
      have e1 : (nI i).toNatClampNeg = i := nI_clamp (by omega)
      have i1 : vp_in (nI i) 8 := vp_in_nI (by omega) (by omega)
      exact br_f (nI_ge (b := 8) (by omega) (by decide)) ⟨i1, nm_r (show _ = zk gk 0 (i + 1) by rw [e1]; exact zk_s) ⟨i1, nm_r (show _ = zk gv 0 (i + 1) by rw [e1]; exact zk_s) ⟨i1, nm_r (show _ = zk gh 0 (i + 1) by rw [e1]; exact zk_s) (nm_r (nI_1 i) (ih (i + 1) (by omega)))⟩⟩⟩
  have w := key 8 0 rfl
  rw [zk_0, zk_0, zk_0] at w
  exact ⟨9, w⟩
end
/-! the relation -/
def hr_Rdy (tk tv : Nat → Int32) (N mc : Nat) (yr ym : Int32) (af ms : Nat → Int32) : Prop :=
  (mc = 0 ∧ yr = 0) ∨ (yr = 1 ∧ ym = nI mc ∧ ∃ f D B, hp_G tk tv N f D B mc ∧ (∀ t, t < N → af t = nI (f t)) ∧ (∀ m, m < mc → ms m = nI (hc_it f m 0)))
def hr_R (u : SX) (v : SY) : Prop := match u, v with
  | (xn, xm, xo, xr, xpn, xf, xd, xa, xh, xp, xt, xv, xy, tk, tv, af, dp, ib, ms, pr, gl, aH, aP, aB, lo, hP, pT, pL, pV), (yn, yr, ym, yo, yrk, yrv, ypn, yf, yd, ya, yac, yw, yv, y1, y2, y3, tk2, tv2, pk, pv, gk, gv, gh, cn, cd, cD, cP, lk, lv, lh, yH, yPk, yPv, yPh, yM, yA, wt, wa, ws, wb, wx, vk, vv, vh) => ∃ N mc pn, xn = nI N ∧ yn = nI N ∧ N ≤ 128 ∧ tk2 = tk ∧ tv2 = tv ∧ hp_T tk tv N ∧ xm = nI mc ∧ mc ≤ 8 ∧ hr_Rdy tk tv N mc yr ym af ms ∧ yo = xo ∧ yf = xf ∧ yd = xd ∧ hv_K xr yrk yrv ∧
    xpn = nI pn ∧ ypn = nI pn ∧ pn ≤ 32 ∧ (∀ i, i < pn → hv_K (pr i) (pk i) (pv i)) ∧ (∀ i, i < 8 → hv_K (gl i) (gk i) (gv i))
section
variable {xn xm xo xpn xf xd xa xh xp xt xy : Int32} {xr xv : Int64} {tk tv af dp ib ms aH aB hP pT pL : Nat → Int32} {pr gl aP lo pV : Nat → Int64} {yn yr ym yo yrk yrv ypn yf yd ya yac yw yv y1 y2 y3 : Int32} {pk pv gk gv gh cn cd cD cP lk lv lh yH yPk yPv yPh yM yA wt wa ws wb wx vk vv vh : Nat → Int32} {N mc pn : Nat}
theorem hr_R_mk (hN : N ≤ 128) (hT : hp_T tk tv N) (hm : mc ≤ 8) (hG : hr_Rdy tk tv N mc yr ym af ms) (hr : hv_K xr yrk yrv) (hpn : pn ≤ 32) (hp : ∀ i, i < pn → hv_K (pr i) (pk i) (pv i)) (hg : ∀ i, i < 8 → hv_K (gl i) (gk i) (gv i)) : hr_R (nI N, nI mc, xo, xr, nI pn, xf, xd, xa, xh, xp, xt, xv, xy, tk, tv, af, dp, ib, ms, pr, gl, aH, aP, aB, lo, hP, pT, pL, pV) (nI N, yr, ym, xo, yrk, yrv, nI pn, xf, xd, ya, yac, yw, yv, y1, y2, y3, tk, tv, pk, pv, gk, gv, gh, cn, cd, cD, cP, lk, lv, lh, yH, yPk, yPv, yPh, yM, yA, wt, wa, ws, wb, wx, vk, vv, vh) := by
  unfold hr_R
  exact ⟨N, mc, pn, rfl, rfl, hN, rfl, rfl, hT, rfl, hm, hG, rfl, rfl, rfl, hr, rfl, rfl, hpn, hp, hg⟩
end
section
variable {xn xm xo xpn xf xd xa xh xp xt xy : Int32} {xr xv : Int64} {tk tv af dp ib ms aH aB hP pT pL : Nat → Int32} {pr gl aP lo pV : Nat → Int64} {yn yr ym yo yrk yrv ypn yf yd ya yac yw yv y1 y2 y3 : Int32} {pk pv gk gv gh cn cd cD cP lk lv lh yH yPk yPv yPh yM yA wt wa ws wb wx vk vv vh : Nat → Int32} {N mc : Nat} {f D : Nat → Nat} {B : Nat → Bool}
/-- a run of a compiled program, from its start to its end -/
theorem hm_run (G : hp_G tk tv N f D B mc) (haf : ∀ t, t < N → af t = nI (f t)) (hms : ∀ m, m < mc → ms m = nI (hc_it f m 0)) (a : Int32) {fl : Nat} (hfl : fl ≤ 255) : ∃ uf rf vf,
    (∀ K : SX → Prop, K uf → wpX_startMethod (fun u => match u with | (xn, xm, xo, xr, xpn, xf, xd, xa, xh, xp, xt, xv, xy, tk, tv, af, dp, ib, ms, pr, gl, aH, aP, aB, lo, hP, pT, pL, pV) => wpX_evaluate K (xn, xm, xo, xr, xpn, xf, xd, xa, xh, xp, xt, xv, xy, tk, tv, af, dp, ib, ms, pr, gl, aH, aP, aB, lo, hP, pT, pL, pV)) (nI N, xm, 0, 0, 0, nI fl, 0, 0, 0, 0, xt, xv, xy, tk, tv, af, dp, ib, ms, pr, zk gl 0 8, aH, aP, aB, lo, hP, pT, pL, pV) 0 (hv_i a)) ∧
    (∀ P : Int32 → SY → Prop, P rf vf → ∃ n35, wY_run_35 P a (nI fl) (nI N) yr ym yo yrk yrv ypn yf yd ya yac yw yv y1 y2 y3 n35 0 tk tv pk pv gk gv gh cn cd cD cP lk lv lh yH yPk yPv yPh yM yA wt wa ws wb wx vk vv vh) ∧ hr_F N xm yr ym tk tv af ms uf rf vf := by
  have mc1 := G.2.2.2.2.2.2.2.2.1
  have g1 := G.1
  obtain ⟨r1, r2⟩ := G.2.2.2.2.1 0 (by omega)
  have lt := hp_lt G r1
  have gD := G.2.2.1 _ r1
  have r1' : 0 < N := r1
  have D0 : hr_D N xm yr ym tk tv af ms 0 0 (nI N, xm, 0, 0, nI 0, nI fl, wk_mx 0 (nI (0 + 1)), nI (0 + 1), nI (0 + 1), nI 0, nI 0, xv, 0, tk, tv, af, dp, ib, ms, pr, zk gl 0 8, upd aH 0 (nI 0), aP, upd aB 0 (nI 0), wk_l4 lo (0 * 4) (hv_i a), upd hP 0 (nI 0), pT, pL, pV) (nI N, yr, ym, yo, 0, 0, nI 0, nI fl, wk_mx 0 (nI (0 + 1)), nI (0 + 1), nI (0 + 1), nI (0 + 1), nI 0, y1, y2, y3, tk, tv, pk, pv, zk gk 0 8, zk gv 0 8, zk gh 0 8, cn, cd, cD, cP, upd (wk_z4 lk (0 * 4)) (0 * 4) 0, upd (wk_z4 lv (0 * 4)) (0 * 4) a, upd (wk_z4 lh (0 * 4)) (0 * 4) 0, upd yH 0 (nI 0), upd yPk 0 0, upd yPv 0 0, upd yPh 0 0, upd yM 0 1, upd yA 0 1, upd wt 0 (nI 0), upd wa 0 (nI 0), upd ws 0 0, upd wb 0 (nI 0), upd wx 0 0, vk, vv, vh) := by
    have E : hs_A (hv_V tk N (0 + 1) (gu (fun _ => 0) 0 0)) 0 0 0 (fun _ => 0) (fun _ => 0) (fun _ => true) aH aP hP yH yPk yPv yPh yM yA := ⟨fun q hq => by omega, fun p q _ hq => by omega, fun h hh => by omega, fun g h _ hh => by omega, fun m hm => by omega⟩
    have L0 : hs_L (hv_V tk N 0 (fun _ => 0)) 0 (fun _ => 0) lo lk lv lh := fun h hh => by omega
    exact (hm_all G haf hms 131100 0 0 (by omega) (by omega)).1 (q := 0) (n := 0) (p := 0) (vb := 0) (w := 0) (t := 0) (nh := 0 + 1) (an := 0 + 1) (pn := 0)
      ⟨by omega, by omega, by omega, by omega, hs_A_meth E, hs_L_met L0 (fun h hh => by omega) (Or.inl ⟨rfl, rfl⟩), fun i hi => by rw [zk_lt hi, zk_lt hi, zk_lt hi]; exact hv_V0, fun i hi => by omega⟩
      ⟨rfl, rfl, rfl, rfl, pk_us⟩ ⟨r1', pk_us, by rw [pk_us, gu_s], pk_us, pk_us, by have := gD.1; exact (show 0 < 8 * 0 + D 0 from by have : 1 ≤ D 0 := gD.1; omega), fun _ => r2⟩ (by have : f 0 ≤ N := lt.2; omega)
  obtain ⟨uf, rf, vf, x, y, z⟩ := D0
  refine ⟨uf, rf, vf, fun K hK => ?_, fun P hP' => ?_, z⟩
  · exact wx_startMeth (m := 0) (na := 0) (p := 0) (nh := 0) (mt := nI 0) (by omega) (by omega) (by omega) (hms 0 (by omega)) (x K hK)
  · exact wy_run35 (wy_newM (an := 0) (na := 0) (by omega) (wy_pushW (n := 0) (by omega) (y P hP')))
end
def i_Rel (k : Nat) (u : SX) (v : SY) : Prop := hr_R u v
theorem i_up {k : Nat} {u : SX} {v : SY} (h : i_Rel k u v) : i_Rel (k + 3) u v := h
end
section
theorem i_vc0 : wpX_init (fun u => wpY_init (fun v => i_Rel 0 u v)) := by
  unfold wpX_init wpX_clear
  refine wx_reset ?_
  unfold wpY_init
  refine wy_clear ?_
  refine hr_R_mk (N := 0) (mc := 0) (pn := 0) (by omega) (fun t ht => by omega) (by omega) (Or.inl ⟨rfl, rfl⟩) hv_K0 (by omega) (fun i hi => by omega) (fun i hi => ?_)
  rw [zk_lt hi, zk_lt hi]; exact hv_K0
theorem i_vc_clear {k : Nat} {u : SX} {v : SY} (I : i_Rel k u v) (hk : k + 3 ≤ 1536) : wpX_clear (fun u' => wpY_clear (fun v' => i_Rel (k + 3) u' v') v) u := by
  obtain ⟨xn, xm, xo, xr, xpn, xf, xd, xa, xh, xp, xt, xv, xy, tk, tv, af, dp, ib, ms, pr, gl, aH, aP, aB, lo, hP, pT, pL, pV⟩ := u
  obtain ⟨yn, yr, ym, yo, yrk, yrv, ypn, yf, yd, ya, yac, yw, yv, y1, y2, y3, tk2, tv2, pk, pv, gk, gv, gh, cn, cd, cD, cP, lk, lv, lh, yH, yPk, yPv, yPh, yM, yA, wt, wa, ws, wb, wx, vk, vv, vh⟩ := v
  have I' := I
  obtain ⟨N, mc, pn, rfl, rfl, hN, rfl, rfl, hT, rfl, hm8, hG, rfl, rfl, rfl, hr, rfl, rfl, hpn, hp, hg⟩ := I
  unfold wpX_clear
  refine wx_reset ?_
  refine wy_clear ?_
  refine hr_R_mk (N := 0) (mc := 0) (pn := 0) (by omega) (fun t ht => by omega) (by omega) (Or.inl ⟨rfl, rfl⟩) hv_K0 (by omega) (fun i hi => by omega) (fun i hi => ?_)
  rw [zk_lt hi, zk_lt hi, zk_lt hi]; exact hv_K0
theorem i_vc_tokenCount {k : Nat} {u : SX} {v : SY} (I : i_Rel k u v) (hk : k + 3 ≤ 1536) : wpX_tokenCount (fun r => wpY_tokenCount (fun r' => r' = r ∧ i_Rel (k + 3) u v) v) u := by
  obtain ⟨xn, xm, xo, xr, xpn, xf, xd, xa, xh, xp, xt, xv, xy, tk, tv, af, dp, ib, ms, pr, gl, aH, aP, aB, lo, hP, pT, pL, pV⟩ := u
  obtain ⟨yn, yr, ym, yo, yrk, yrv, ypn, yf, yd, ya, yac, yw, yv, y1, y2, y3, tk2, tv2, pk, pv, gk, gv, gh, cn, cd, cD, cP, lk, lv, lh, yH, yPk, yPv, yPh, yM, yA, wt, wa, ws, wb, wx, vk, vv, vh⟩ := v
  have I' := I
  obtain ⟨N, mc, pn, rfl, rfl, hN, rfl, rfl, hT, rfl, hm8, hG, rfl, rfl, rfl, hr, rfl, rfl, hpn, hp, hg⟩ := I
  exact And.intro rfl I'
theorem i_vc_outcome {k : Nat} {u : SX} {v : SY} (I : i_Rel k u v) (hk : k + 3 ≤ 1536) : wpX_outcome (fun r => wpY_outcome (fun r' => r' = r ∧ i_Rel (k + 3) u v) v) u := by
  obtain ⟨xn, xm, xo, xr, xpn, xf, xd, xa, xh, xp, xt, xv, xy, tk, tv, af, dp, ib, ms, pr, gl, aH, aP, aB, lo, hP, pT, pL, pV⟩ := u
  obtain ⟨yn, yr, ym, yo, yrk, yrv, ypn, yf, yd, ya, yac, yw, yv, y1, y2, y3, tk2, tv2, pk, pv, gk, gv, gh, cn, cd, cD, cP, lk, lv, lh, yH, yPk, yPv, yPh, yM, yA, wt, wa, ws, wb, wx, vk, vv, vh⟩ := v
  have I' := I
  obtain ⟨N, mc, pn, rfl, rfl, hN, rfl, rfl, hT, rfl, hm8, hG, rfl, rfl, rfl, hr, rfl, rfl, hpn, hp, hg⟩ := I
  exact And.intro rfl I'
theorem i_vc_printCount {k : Nat} {u : SX} {v : SY} (I : i_Rel k u v) (hk : k + 3 ≤ 1536) : wpX_printCount (fun r => wpY_printCount (fun r' => r' = r ∧ i_Rel (k + 3) u v) v) u := by
  obtain ⟨xn, xm, xo, xr, xpn, xf, xd, xa, xh, xp, xt, xv, xy, tk, tv, af, dp, ib, ms, pr, gl, aH, aP, aB, lo, hP, pT, pL, pV⟩ := u
  obtain ⟨yn, yr, ym, yo, yrk, yrv, ypn, yf, yd, ya, yac, yw, yv, y1, y2, y3, tk2, tv2, pk, pv, gk, gv, gh, cn, cd, cD, cP, lk, lv, lh, yH, yPk, yPv, yPh, yM, yA, wt, wa, ws, wb, wx, vk, vv, vh⟩ := v
  have I' := I
  obtain ⟨N, mc, pn, rfl, rfl, hN, rfl, rfl, hT, rfl, hm8, hG, rfl, rfl, rfl, hr, rfl, rfl, hpn, hp, hg⟩ := I
  exact And.intro rfl I'
theorem i_vc_fuelLeft {k : Nat} {u : SX} {v : SY} (I : i_Rel k u v) (hk : k + 3 ≤ 1536) : wpX_fuelLeft (fun r => wpY_fuelLeft (fun r' => r' = r ∧ i_Rel (k + 3) u v) v) u := by
  obtain ⟨xn, xm, xo, xr, xpn, xf, xd, xa, xh, xp, xt, xv, xy, tk, tv, af, dp, ib, ms, pr, gl, aH, aP, aB, lo, hP, pT, pL, pV⟩ := u
  obtain ⟨yn, yr, ym, yo, yrk, yrv, ypn, yf, yd, ya, yac, yw, yv, y1, y2, y3, tk2, tv2, pk, pv, gk, gv, gh, cn, cd, cD, cP, lk, lv, lh, yH, yPk, yPv, yPh, yM, yA, wt, wa, ws, wb, wx, vk, vv, vh⟩ := v
  have I' := I
  obtain ⟨N, mc, pn, rfl, rfl, hN, rfl, rfl, hT, rfl, hm8, hG, rfl, rfl, rfl, hr, rfl, rfl, hpn, hp, hg⟩ := I
  exact And.intro rfl I'
theorem i_vc_maxDepth {k : Nat} {u : SX} {v : SY} (I : i_Rel k u v) (hk : k + 3 ≤ 1536) : wpX_maxDepth (fun r => wpY_maxDepth (fun r' => r' = r ∧ i_Rel (k + 3) u v) v) u := by
  obtain ⟨xn, xm, xo, xr, xpn, xf, xd, xa, xh, xp, xt, xv, xy, tk, tv, af, dp, ib, ms, pr, gl, aH, aP, aB, lo, hP, pT, pL, pV⟩ := u
  obtain ⟨yn, yr, ym, yo, yrk, yrv, ypn, yf, yd, ya, yac, yw, yv, y1, y2, y3, tk2, tv2, pk, pv, gk, gv, gh, cn, cd, cD, cP, lk, lv, lh, yH, yPk, yPv, yPh, yM, yA, wt, wa, ws, wb, wx, vk, vv, vh⟩ := v
  have I' := I
  obtain ⟨N, mc, pn, rfl, rfl, hN, rfl, rfl, hT, rfl, hm8, hG, rfl, rfl, rfl, hr, rfl, rfl, hpn, hp, hg⟩ := I
  exact And.intro rfl I'
theorem i_vc_methodCount {k : Nat} {u : SX} {v : SY} (I : i_Rel k u v) (hk : k + 3 ≤ 1536) : wpX_methodCount (fun r => wpY_methodCount (fun r' => r' = r ∧ i_Rel (k + 3) u v) v) u := by
  obtain ⟨xn, xm, xo, xr, xpn, xf, xd, xa, xh, xp, xt, xv, xy, tk, tv, af, dp, ib, ms, pr, gl, aH, aP, aB, lo, hP, pT, pL, pV⟩ := u
  obtain ⟨yn, yr, ym, yo, yrk, yrv, ypn, yf, yd, ya, yac, yw, yv, y1, y2, y3, tk2, tv2, pk, pv, gk, gv, gh, cn, cd, cD, cP, lk, lv, lh, yH, yPk, yPv, yPh, yM, yA, wt, wa, ws, wb, wx, vk, vv, vh⟩ := v
  have I' := I
  obtain ⟨N, mc, pn, rfl, rfl, hN, rfl, rfl, hT, rfl, hm8, hG, rfl, rfl, rfl, hr, rfl, rfl, hpn, hp, hg⟩ := I
  rcases hG with ⟨rfl, rfl⟩ | ⟨rfl, rfl, -⟩
  · exact br_t rfl (And.intro rfl I')
  · exact br_f (by decide) (And.intro rfl I')
theorem i_vc_resultKind {k : Nat} {u : SX} {v : SY} (I : i_Rel k u v) (hk : k + 3 ≤ 1536) : wpX_resultKind (fun r => wpY_resultKind (fun r' => r' = r ∧ i_Rel (k + 3) u v) v) u := by
  obtain ⟨xn, xm, xo, xr, xpn, xf, xd, xa, xh, xp, xt, xv, xy, tk, tv, af, dp, ib, ms, pr, gl, aH, aP, aB, lo, hP, pT, pL, pV⟩ := u
  obtain ⟨yn, yr, ym, yo, yrk, yrv, ypn, yf, yd, ya, yac, yw, yv, y1, y2, y3, tk2, tv2, pk, pv, gk, gv, gh, cn, cd, cD, cP, lk, lv, lh, yH, yPk, yPv, yPh, yM, yA, wt, wa, ws, wb, wx, vk, vv, vh⟩ := v
  have I' := I
  obtain ⟨N, mc, pn, rfl, rfl, hN, rfl, rfl, hT, rfl, hm8, hG, rfl, rfl, rfl, hr, rfl, rfl, hpn, hp, hg⟩ := I
  unfold wpX_resultKind
  exact wx_kind hr (And.intro rfl I')
theorem i_vc_resultValue {k : Nat} {u : SX} {v : SY} (I : i_Rel k u v) (hk : k + 3 ≤ 1536) : wpX_resultValue (fun r => wpY_resultValue (fun r' => r' = r ∧ i_Rel (k + 3) u v) v) u := by
  obtain ⟨xn, xm, xo, xr, xpn, xf, xd, xa, xh, xp, xt, xv, xy, tk, tv, af, dp, ib, ms, pr, gl, aH, aP, aB, lo, hP, pT, pL, pV⟩ := u
  obtain ⟨yn, yr, ym, yo, yrk, yrv, ypn, yf, yd, ya, yac, yw, yv, y1, y2, y3, tk2, tv2, pk, pv, gk, gv, gh, cn, cd, cD, cP, lk, lv, lh, yH, yPk, yPv, yPh, yM, yA, wt, wa, ws, wb, wx, vk, vv, vh⟩ := v
  have I' := I
  obtain ⟨N, mc, pn, rfl, rfl, hN, rfl, rfl, hT, rfl, hm8, hG, rfl, rfl, rfl, hr, rfl, rfl, hpn, hp, hg⟩ := I
  exact And.intro hr.1.symm I'
theorem i_vc_printKind {k : Nat} {u : SX} {v : SY} (I : i_Rel k u v) (hk : k + 3 ≤ 1536) (v1 : Int32) : wpX_printKind (fun r => wpY_printKind (fun r' => r' = r ∧ i_Rel (k + 3) u v) v v1) u v1 := by
  obtain ⟨xn, xm, xo, xr, xpn, xf, xd, xa, xh, xp, xt, xv, xy, tk, tv, af, dp, ib, ms, pr, gl, aH, aP, aB, lo, hP, pT, pL, pV⟩ := u
  obtain ⟨yn, yr, ym, yo, yrk, yrv, ypn, yf, yd, ya, yac, yw, yv, y1, y2, y3, tk2, tv2, pk, pv, gk, gv, gh, cn, cd, cD, cP, lk, lv, lh, yH, yPk, yPv, yPh, yM, yA, wt, wa, ws, wb, wx, vk, vv, vh⟩ := v
  have I' := I
  obtain ⟨N, mc, pn, rfl, rfl, hN, rfl, rfl, hT, rfl, hm8, hG, rfl, rfl, rfl, hr, rfl, rfl, hpn, hp, hg⟩ := I
  rcases pk_ix v1 (n := pn) (by omega) with z | z | ⟨j, hj, rfl⟩
  · exact br_t z (br_t z (And.intro rfl I'))
  · have z0 : ¬ v1 < 0 := fun x => absurd (Int32.lt_of_le_of_lt z x) (nI_pos (by omega))
    exact br_f z0 (br_t z (br_f z0 (br_f (Int32.not_lt.mpr z) (And.intro rfl I'))))
  · have z0 : ¬ nI j < 0 := nI_pos (by omega)
    have e : (nI j).toNatClampNeg = j := nI_clamp (by omega)
    have i1 : vp_in (nI j) 32 := vp_in_nI (by omega) (by omega)
    have q := hp j hj
    refine br_f z0 (br_f (nI_ge hj (by omega)) ⟨i1, ?_⟩)
    rw [e]
    exact wx_kind q (br_f z0 (br_t (nI_lt hj (by omega)) ⟨i1, And.intro (congrArg pk e) I'⟩))
theorem i_vc_printValue {k : Nat} {u : SX} {v : SY} (I : i_Rel k u v) (hk : k + 3 ≤ 1536) (v1 : Int32) : wpX_printValue (fun r => wpY_printValue (fun r' => r' = r ∧ i_Rel (k + 3) u v) v v1) u v1 := by
  obtain ⟨xn, xm, xo, xr, xpn, xf, xd, xa, xh, xp, xt, xv, xy, tk, tv, af, dp, ib, ms, pr, gl, aH, aP, aB, lo, hP, pT, pL, pV⟩ := u
  obtain ⟨yn, yr, ym, yo, yrk, yrv, ypn, yf, yd, ya, yac, yw, yv, y1, y2, y3, tk2, tv2, pk, pv, gk, gv, gh, cn, cd, cD, cP, lk, lv, lh, yH, yPk, yPv, yPh, yM, yA, wt, wa, ws, wb, wx, vk, vv, vh⟩ := v
  have I' := I
  obtain ⟨N, mc, pn, rfl, rfl, hN, rfl, rfl, hT, rfl, hm8, hG, rfl, rfl, rfl, hr, rfl, rfl, hpn, hp, hg⟩ := I
  rcases pk_ix v1 (n := pn) (by omega) with z | z | ⟨j, hj, rfl⟩
  · exact br_t z (br_t z (And.intro rfl I'))
  · have z0 : ¬ v1 < 0 := fun x => absurd (Int32.lt_of_le_of_lt z x) (nI_pos (by omega))
    exact br_f z0 (br_t z (br_f z0 (br_f (Int32.not_lt.mpr z) (And.intro rfl I'))))
  · have z0 : ¬ nI j < 0 := nI_pos (by omega)
    have e : (nI j).toNatClampNeg = j := nI_clamp (by omega)
    have i1 : vp_in (nI j) 32 := vp_in_nI (by omega) (by omega)
    have q := hp j hj
    refine br_f z0 (br_f (nI_ge hj (by omega)) ⟨i1, ?_⟩)
    rw [e]
    exact br_f z0 (br_t (nI_lt hj (by omega)) ⟨i1, And.intro ((congrArg pv e).trans q.1.symm) I'⟩)
theorem i_vc_globalKind {k : Nat} {u : SX} {v : SY} (I : i_Rel k u v) (hk : k + 3 ≤ 1536) (v1 : Int32) : wpX_globalKind (fun r => wpY_globalKind (fun r' => r' = r ∧ i_Rel (k + 3) u v) v v1) u v1 := by
  obtain ⟨xn, xm, xo, xr, xpn, xf, xd, xa, xh, xp, xt, xv, xy, tk, tv, af, dp, ib, ms, pr, gl, aH, aP, aB, lo, hP, pT, pL, pV⟩ := u
  obtain ⟨yn, yr, ym, yo, yrk, yrv, ypn, yf, yd, ya, yac, yw, yv, y1, y2, y3, tk2, tv2, pk, pv, gk, gv, gh, cn, cd, cD, cP, lk, lv, lh, yH, yPk, yPv, yPh, yM, yA, wt, wa, ws, wb, wx, vk, vv, vh⟩ := v
  have I' := I
  obtain ⟨N, mc, pn, rfl, rfl, hN, rfl, rfl, hT, rfl, hm8, hG, rfl, rfl, rfl, hr, rfl, rfl, hpn, hp, hg⟩ := I
  rcases pk_ix v1 (n := 8) (by omega) with z | z | ⟨j, hj, rfl⟩
  · exact br_t z (br_t z (And.intro rfl I'))
  · have z0 : ¬ v1 < 0 := fun x => absurd (Int32.lt_of_le_of_lt z x) (by decide)
    have z7 : ¬ v1 ≤ 7 := fun x => absurd (Int32.le_trans z x) (by decide)
    exact br_f z0 (br_t z (br_f z0 (br_f z7 (And.intro rfl I'))))
  · have z0 : ¬ nI j < 0 := nI_pos (by omega)
    have e : (nI j).toNatClampNeg = j := nI_clamp (by omega)
    have i1 : vp_in (nI j) 8 := vp_in_nI (by omega) (by omega)
    have q := hg j hj
    refine br_f z0 (br_f (nI_ge (b := 8) hj (by decide)) ⟨i1, ?_⟩)
    rw [e]
    exact wx_kind q (br_f z0 (br_t (nI_le (b := 7) (by omega) (by decide)) ⟨i1, And.intro (congrArg gk e) I'⟩))
theorem i_vc_globalValue {k : Nat} {u : SX} {v : SY} (I : i_Rel k u v) (hk : k + 3 ≤ 1536) (v1 : Int32) : wpX_globalValue (fun r => wpY_globalValue (fun r' => r' = r ∧ i_Rel (k + 3) u v) v v1) u v1 := by
  obtain ⟨xn, xm, xo, xr, xpn, xf, xd, xa, xh, xp, xt, xv, xy, tk, tv, af, dp, ib, ms, pr, gl, aH, aP, aB, lo, hP, pT, pL, pV⟩ := u
  obtain ⟨yn, yr, ym, yo, yrk, yrv, ypn, yf, yd, ya, yac, yw, yv, y1, y2, y3, tk2, tv2, pk, pv, gk, gv, gh, cn, cd, cD, cP, lk, lv, lh, yH, yPk, yPv, yPh, yM, yA, wt, wa, ws, wb, wx, vk, vv, vh⟩ := v
  have I' := I
  obtain ⟨N, mc, pn, rfl, rfl, hN, rfl, rfl, hT, rfl, hm8, hG, rfl, rfl, rfl, hr, rfl, rfl, hpn, hp, hg⟩ := I
  rcases pk_ix v1 (n := 8) (by omega) with z | z | ⟨j, hj, rfl⟩
  · exact br_t z (br_t z (And.intro rfl I'))
  · have z0 : ¬ v1 < 0 := fun x => absurd (Int32.lt_of_le_of_lt z x) (by decide)
    have z7 : ¬ v1 ≤ 7 := fun x => absurd (Int32.le_trans z x) (by decide)
    exact br_f z0 (br_t z (br_f z0 (br_f z7 (And.intro rfl I'))))
  · have z0 : ¬ nI j < 0 := nI_pos (by omega)
    have e : (nI j).toNatClampNeg = j := nI_clamp (by omega)
    have i1 : vp_in (nI j) 8 := vp_in_nI (by omega) (by omega)
    have q := hg j hj
    refine br_f z0 (br_f (nI_ge (b := 8) hj (by decide)) ⟨i1, ?_⟩)
    rw [e]
    exact br_f z0 (br_t (nI_le (b := 7) (by omega) (by decide)) ⟨i1, And.intro ((congrArg gv e).trans q.1.symm) I'⟩)
def hk_ok (k : Nat) (b : Int32) : Prop := (k = 1 ∨ k = 2 → ∃ j, j < 4 ∧ b = nI j) ∧ (k = 3 ∨ k = 4 → ∃ j, j < 8 ∧ b = nI j) ∧ (k = 15 → ∃ j, j < 8 ∧ b = nI j)
theorem hk_r (b : Int32) {n : Nat} (hn : n < 100) : (b < 0 ∧ ¬ ∃ j, j < n ∧ b = nI j) ∨ (nI n ≤ b ∧ ¬ b < 0 ∧ ¬ ∃ j, j < n ∧ b = nI j) ∨ (¬ b < 0 ∧ ¬ nI n ≤ b ∧ ∃ j, j < n ∧ b = nI j) := by
  rcases pk_ix b (n := n) (by omega) with z | z | ⟨j, hj, rfl⟩
  · exact Or.inl ⟨z, fun ⟨j, hj, e⟩ => by rw [e] at z; exact absurd z (nI_pos (by omega))⟩
  · exact Or.inr (Or.inl ⟨z, fun x => absurd (Int32.lt_of_le_of_lt z x) (nI_pos (by omega)), fun ⟨j, hj, e⟩ => by rw [e] at z; exact absurd z (nI_ge hj (by omega))⟩)
  · exact Or.inr (Or.inr ⟨nI_pos (by omega), nI_ge hj (by omega), j, hj, rfl⟩)
theorem hk_n7 {b : Int32} (h : ¬ nI 8 ≤ b) : b ≤ 7 := by
  rw [Int32.le_iff_toInt_le] at h ⊢
  have : (nI 8).toInt = 8 := by decide
  have : (7 : Int32).toInt = 7 := by decide
  omega
theorem hk_n3 {b : Int32} (h : ¬ nI 4 ≤ b) : b ≤ 3 := by
  rw [Int32.le_iff_toInt_le] at h ⊢
  have : (nI 4).toInt = 4 := by decide
  have : (3 : Int32).toInt = 3 := by decide
  omega
theorem hk_8 {b : Int32} (h : nI 8 ≤ b) : ¬ b ≤ 7 := fun x => absurd (Int32.le_trans h x) (by decide)
theorem hk_4 {b : Int32} (h : nI 4 ≤ b) : ¬ b ≤ 3 := fun x => absurd (Int32.le_trans h x) (by decide)
theorem wx_acc {post : Int32 → Prop} {b : Int32} : ∀ {k : Nat}, k ≤ 16 → (hk_ok k b → post 1) → (¬ hk_ok k b → post 0) → wpX_acceptable post (nI k) b
  | 0, _, h1, _ => br_t (by decide) (br_f (by decide) (br_f (by decide) (h1 ⟨fun x => absurd x (by decide), fun x => absurd x (by decide), fun x => absurd x (by decide)⟩)))
  | 1, _, h1, h0 => by
    rcases hk_r b (n := 4) (by omega) with ⟨z, y⟩ | ⟨z, z2, y⟩ | ⟨z, z2, y⟩
    · exact br_f (by decide) (br_f (by decide) (br_t (by decide) (br_t z (h0 (fun c => y (c.1 (Or.inl rfl)))))))
    · exact br_f (by decide) (br_f (by decide) (br_t (by decide) (br_f z2 (br_t z (h0 (fun c => y (c.1 (Or.inl rfl))))))))
    · exact br_f (by decide) (br_f (by decide) (br_t (by decide) (br_f z (br_f z2 (h1 ⟨fun _ => y, fun x => absurd x (by decide), fun x => absurd x (by decide)⟩)))))
  | 2, _, h1, h0 => by
    rcases hk_r b (n := 4) (by omega) with ⟨z, y⟩ | ⟨z, z2, y⟩ | ⟨z, z2, y⟩
    · exact br_f (by decide) (br_f (by decide) (br_f (by decide) (br_t (by decide) (br_t z (h0 (fun c => y (c.1 (Or.inr rfl))))))))
    · exact br_f (by decide) (br_f (by decide) (br_f (by decide) (br_t (by decide) (br_f z2 (br_t z (h0 (fun c => y (c.1 (Or.inr rfl)))))))))
    · exact br_f (by decide) (br_f (by decide) (br_f (by decide) (br_t (by decide) (br_f z (br_f z2 (h1 ⟨fun _ => y, fun x => absurd x (by decide), fun x => absurd x (by decide)⟩))))))
  | 3, _, h1, h0 => by
    rcases hk_r b (n := 8) (by omega) with ⟨z, y⟩ | ⟨z, z2, y⟩ | ⟨z, z2, y⟩
    · exact br_f (by decide) (br_f (by decide) (br_f (by decide) (br_f (by decide) (br_t (by decide) (br_t z (h0 (fun c => y (c.2.1 (Or.inl rfl)))))))))
    · exact br_f (by decide) (br_f (by decide) (br_f (by decide) (br_f (by decide) (br_t (by decide) (br_f z2 (br_t z (h0 (fun c => y (c.2.1 (Or.inl rfl))))))))))
    · exact br_f (by decide) (br_f (by decide) (br_f (by decide) (br_f (by decide) (br_t (by decide) (br_f z (br_f z2 (h1 ⟨fun x => absurd x (by decide), fun _ => y, fun x => absurd x (by decide)⟩)))))))
  | 4, _, h1, h0 => by
    rcases hk_r b (n := 8) (by omega) with ⟨z, y⟩ | ⟨z, z2, y⟩ | ⟨z, z2, y⟩
    · exact br_f (by decide) (br_f (by decide) (br_f (by decide) (br_f (by decide) (br_f (by decide) (br_t (by decide) (br_t z (h0 (fun c => y (c.2.1 (Or.inr rfl))))))))))
    · exact br_f (by decide) (br_f (by decide) (br_f (by decide) (br_f (by decide) (br_f (by decide) (br_t (by decide) (br_f z2 (br_t z (h0 (fun c => y (c.2.1 (Or.inr rfl)))))))))))
    · exact br_f (by decide) (br_f (by decide) (br_f (by decide) (br_f (by decide) (br_f (by decide) (br_t (by decide) (br_f z (br_f z2 (h1 ⟨fun x => absurd x (by decide), fun _ => y, fun x => absurd x (by decide)⟩))))))))
  | 5, _, h1, _ => br_f (by decide) (br_f (by decide) (br_f (by decide) (br_f (by decide) (br_f (by decide) (br_f (by decide) (br_t (by decide) (br_f (by decide) (br_f (by decide) (h1 ⟨fun x => absurd x (by decide), fun x => absurd x (by decide), fun x => absurd x (by decide)⟩)))))))))
  | 6, _, h1, _ => br_f (by decide) (br_f (by decide) (br_f (by decide) (br_f (by decide) (br_f (by decide) (br_f (by decide) (br_f (by decide) (br_t (by decide) (br_f (by decide) (br_f (by decide) (h1 ⟨fun x => absurd x (by decide), fun x => absurd x (by decide), fun x => absurd x (by decide)⟩))))))))))
  | 7, _, h1, _ => br_f (by decide) (br_f (by decide) (br_f (by decide) (br_f (by decide) (br_f (by decide) (br_f (by decide) (br_f (by decide) (br_f (by decide) (br_t (by decide) (br_f (by decide) (br_f (by decide) (h1 ⟨fun x => absurd x (by decide), fun x => absurd x (by decide), fun x => absurd x (by decide)⟩)))))))))))
  | 8, _, h1, _ => br_f (by decide) (br_f (by decide) (br_f (by decide) (br_f (by decide) (br_f (by decide) (br_f (by decide) (br_f (by decide) (br_f (by decide) (br_f (by decide) (br_t (by decide) (br_f (by decide) (br_f (by decide) (h1 ⟨fun x => absurd x (by decide), fun x => absurd x (by decide), fun x => absurd x (by decide)⟩))))))))))))
  | 9, _, h1, _ => br_f (by decide) (br_f (by decide) (br_f (by decide) (br_f (by decide) (br_f (by decide) (br_f (by decide) (br_f (by decide) (br_f (by decide) (br_f (by decide) (br_f (by decide) (br_t (by decide) (br_f (by decide) (br_f (by decide) (h1 ⟨fun x => absurd x (by decide), fun x => absurd x (by decide), fun x => absurd x (by decide)⟩)))))))))))))
  | 10, _, h1, _ => br_f (by decide) (br_f (by decide) (br_f (by decide) (br_f (by decide) (br_f (by decide) (br_f (by decide) (br_f (by decide) (br_f (by decide) (br_f (by decide) (br_f (by decide) (br_f (by decide) (br_t (by decide) (br_f (by decide) (br_f (by decide) (h1 ⟨fun x => absurd x (by decide), fun x => absurd x (by decide), fun x => absurd x (by decide)⟩))))))))))))))
  | 11, _, h1, _ => br_f (by decide) (br_f (by decide) (br_f (by decide) (br_f (by decide) (br_f (by decide) (br_f (by decide) (br_f (by decide) (br_f (by decide) (br_f (by decide) (br_f (by decide) (br_f (by decide) (br_f (by decide) (br_t (by decide) (br_f (by decide) (br_f (by decide) (h1 ⟨fun x => absurd x (by decide), fun x => absurd x (by decide), fun x => absurd x (by decide)⟩)))))))))))))))
  | 12, _, h1, _ => br_f (by decide) (br_f (by decide) (br_f (by decide) (br_f (by decide) (br_f (by decide) (br_f (by decide) (br_f (by decide) (br_f (by decide) (br_f (by decide) (br_f (by decide) (br_f (by decide) (br_f (by decide) (br_f (by decide) (br_t (by decide) (br_f (by decide) (br_f (by decide) (h1 ⟨fun x => absurd x (by decide), fun x => absurd x (by decide), fun x => absurd x (by decide)⟩))))))))))))))))
  | 13, _, h1, _ => br_f (by decide) (br_f (by decide) (br_f (by decide) (br_f (by decide) (br_f (by decide) (br_f (by decide) (br_f (by decide) (br_f (by decide) (br_f (by decide) (br_f (by decide) (br_f (by decide) (br_f (by decide) (br_f (by decide) (br_f (by decide) (br_t (by decide) (br_f (by decide) (br_f (by decide) (h1 ⟨fun x => absurd x (by decide), fun x => absurd x (by decide), fun x => absurd x (by decide)⟩)))))))))))))))))
  | 14, _, h1, _ => br_f (by decide) (br_f (by decide) (br_f (by decide) (br_f (by decide) (br_f (by decide) (br_f (by decide) (br_f (by decide) (br_f (by decide) (br_f (by decide) (br_f (by decide) (br_f (by decide) (br_f (by decide) (br_f (by decide) (br_f (by decide) (br_f (by decide) (br_t (by decide) (br_f (by decide) (br_f (by decide) (h1 ⟨fun x => absurd x (by decide), fun x => absurd x (by decide), fun x => absurd x (by decide)⟩))))))))))))))))))
  | 15, _, h1, h0 => by
    rcases hk_r b (n := 8) (by omega) with ⟨z, y⟩ | ⟨z, z2, y⟩ | ⟨z, z2, y⟩
    · exact br_f (by decide) (br_f (by decide) (br_f (by decide) (br_f (by decide) (br_f (by decide) (br_f (by decide) (br_f (by decide) (br_f (by decide) (br_f (by decide) (br_f (by decide) (br_f (by decide) (br_f (by decide) (br_f (by decide) (br_f (by decide) (br_f (by decide) (br_f (by decide) (br_t (by decide) (br_t z (h0 (fun c => y (c.2.2 rfl))))))))))))))))))))
    · exact br_f (by decide) (br_f (by decide) (br_f (by decide) (br_f (by decide) (br_f (by decide) (br_f (by decide) (br_f (by decide) (br_f (by decide) (br_f (by decide) (br_f (by decide) (br_f (by decide) (br_f (by decide) (br_f (by decide) (br_f (by decide) (br_f (by decide) (br_f (by decide) (br_t (by decide) (br_f z2 (br_t z (h0 (fun c => y (c.2.2 rfl)))))))))))))))))))))
    · exact br_f (by decide) (br_f (by decide) (br_f (by decide) (br_f (by decide) (br_f (by decide) (br_f (by decide) (br_f (by decide) (br_f (by decide) (br_f (by decide) (br_f (by decide) (br_f (by decide) (br_f (by decide) (br_f (by decide) (br_f (by decide) (br_f (by decide) (br_f (by decide) (br_t (by decide) (br_f z (br_f z2 (h1 ⟨fun x => absurd x (by decide), fun x => absurd x (by decide), fun _ => y⟩)))))))))))))))))))
  | 16, _, h1, _ => br_f (by decide) (br_t (by decide) (br_f (by decide) (br_f (by decide) (h1 ⟨fun x => absurd x (by decide), fun x => absurd x (by decide), fun x => absurd x (by decide)⟩))))
  | k + 17, hk, _, _ => absurd hk (by omega)
section
variable {yn yr ym yo yrk yrv ypn yf yd ya yac yw yv y1 y2 y3 : Int32} {tk tv pk pv gk gv gh cn cd cD cP lk lv lh yH yPk yPv yPh yM yA wt wa ws wb wx vk vv vh : Nat → Int32} {P : Int32 → SY → Prop} {N : Nat}
theorem wy_85 {x b : Int32} (hN : N < 128) (h : P 1 (nI (N + 1), 0, 0, yo, yrk, yrv, ypn, yf, yd, ya, yac, yw, yv, y1, y2, y3, upd tk N x, upd tv N b, pk, pv, gk, gv, gh, cn, cd, cD, cP, lk, lv, lh, yH, yPk, yPv, yPh, yM, yA, wt, wa, ws, wb, wx, vk, vv, vh)) : wY_addToken_85 P x b (nI N) yr ym yo yrk yrv ypn yf yd ya yac yw yv y1 y2 y3 tk tv pk pv gk gv gh cn cd cD cP lk lv lh yH yPk yPv yPh yM yA wt wa ws wb wx vk vv vh := by
  have e : (nI N).toNatClampNeg = N := nI_clamp (by omega)
  have i : vp_in (nI N) 128 := vp_in_nI hN (by omega)
  exact And.intro i (nm_r (congrArg (fun i => upd tk i x) e) ⟨i, nm_r (congrArg (fun i => upd tv i b) e) (nm_r (nI_1 N) h)⟩)
theorem wy_add {b : Int32} (hN : N < 128) : ∀ {k : Nat}, k ≤ 16 → (hk_ok k b → P 1 (nI (N + 1), 0, 0, yo, yrk, yrv, ypn, yf, yd, ya, yac, yw, yv, y1, y2, y3, upd tk N (nI k), upd tv N b, pk, pv, gk, gv, gh, cn, cd, cD, cP, lk, lv, lh, yH, yPk, yPv, yPh, yM, yA, wt, wa, ws, wb, wx, vk, vv, vh)) → (¬ hk_ok k b → P 0 (nI N, yr, ym, yo, yrk, yrv, ypn, yf, yd, ya, yac, yw, yv, y1, y2, y3, tk, tv, pk, pv, gk, gv, gh, cn, cd, cD, cP, lk, lv, lh, yH, yPk, yPv, yPh, yM, yA, wt, wa, ws, wb, wx, vk, vv, vh)) → wpY_addToken P (nI N, yr, ym, yo, yrk, yrv, ypn, yf, yd, ya, yac, yw, yv, y1, y2, y3, tk, tv, pk, pv, gk, gv, gh, cn, cd, cD, cP, lk, lv, lh, yH, yPk, yPv, yPh, yM, yA, wt, wa, ws, wb, wx, vk, vv, vh) (nI k) b
  | 0, _, h1, _ => br_t (nI_lt (b := 128) hN (by decide)) (br_f (by decide) (br_t (by decide) (br_f (by decide) (br_f (by decide) (br_f (by decide) (br_f (by decide) (br_f (by decide) (wy_85 hN (h1 ⟨fun x => absurd x (by decide), fun x => absurd x (by decide), fun x => absurd x (by decide)⟩)))))))))
  | 1, _, h1, h0 => by
    rcases hk_r b (n := 4) (by omega) with ⟨z, y⟩ | ⟨z, z2, y⟩ | ⟨z, z2, y⟩
    · exact br_t (nI_lt (b := 128) hN (by decide)) (br_f (by decide) (br_t (by decide) (br_t (by decide) (br_t z (h0 (fun c => y (c.1 (Or.inl rfl))))))))
    · exact br_t (nI_lt (b := 128) hN (by decide)) (br_f (by decide) (br_t (by decide) (br_t (by decide) (br_f z2 (br_f (hk_4 z) (h0 (fun c => y (c.1 (Or.inl rfl)))))))))
    · exact br_t (nI_lt (b := 128) hN (by decide)) (br_f (by decide) (br_t (by decide) (br_t (by decide) (br_f z (br_t (hk_n3 z2) (br_f (by decide) (br_f (by decide) (br_f (by decide) (wy_85 hN (h1 ⟨fun _ => y, fun x => absurd x (by decide), fun x => absurd x (by decide)⟩))))))))))
  | 2, _, h1, h0 => by
    rcases hk_r b (n := 4) (by omega) with ⟨z, y⟩ | ⟨z, z2, y⟩ | ⟨z, z2, y⟩
    · exact br_t (nI_lt (b := 128) hN (by decide)) (br_f (by decide) (br_t (by decide) (br_f (by decide) (br_t (by decide) (br_t z (h0 (fun c => y (c.1 (Or.inr rfl)))))))))
    · exact br_t (nI_lt (b := 128) hN (by decide)) (br_f (by decide) (br_t (by decide) (br_f (by decide) (br_t (by decide) (br_f z2 (br_f (hk_4 z) (h0 (fun c => y (c.1 (Or.inr rfl))))))))))
    · exact br_t (nI_lt (b := 128) hN (by decide)) (br_f (by decide) (br_t (by decide) (br_f (by decide) (br_t (by decide) (br_f z (br_t (hk_n3 z2) (br_f (by decide) (br_f (by decide) (br_f (by decide) (wy_85 hN (h1 ⟨fun _ => y, fun x => absurd x (by decide), fun x => absurd x (by decide)⟩)))))))))))
  | 3, _, h1, h0 => by
    rcases hk_r b (n := 8) (by omega) with ⟨z, y⟩ | ⟨z, z2, y⟩ | ⟨z, z2, y⟩
    · exact br_t (nI_lt (b := 128) hN (by decide)) (br_f (by decide) (br_t (by decide) (br_f (by decide) (br_f (by decide) (br_t (by decide) (br_t z (h0 (fun c => y (c.2.1 (Or.inl rfl))))))))))
    · exact br_t (nI_lt (b := 128) hN (by decide)) (br_f (by decide) (br_t (by decide) (br_f (by decide) (br_f (by decide) (br_t (by decide) (br_f z2 (br_f (hk_8 z) (h0 (fun c => y (c.2.1 (Or.inl rfl)))))))))))
    · exact br_t (nI_lt (b := 128) hN (by decide)) (br_f (by decide) (br_t (by decide) (br_f (by decide) (br_f (by decide) (br_t (by decide) (br_f z (br_t (hk_n7 z2) (br_f (by decide) (wy_85 hN (h1 ⟨fun x => absurd x (by decide), fun _ => y, fun x => absurd x (by decide)⟩))))))))))
  | 4, _, h1, h0 => by
    rcases hk_r b (n := 8) (by omega) with ⟨z, y⟩ | ⟨z, z2, y⟩ | ⟨z, z2, y⟩
    · exact br_t (nI_lt (b := 128) hN (by decide)) (br_f (by decide) (br_t (by decide) (br_f (by decide) (br_f (by decide) (br_f (by decide) (br_t (by decide) (br_t z (h0 (fun c => y (c.2.1 (Or.inr rfl)))))))))))
    · exact br_t (nI_lt (b := 128) hN (by decide)) (br_f (by decide) (br_t (by decide) (br_f (by decide) (br_f (by decide) (br_f (by decide) (br_t (by decide) (br_f z2 (br_f (hk_8 z) (h0 (fun c => y (c.2.1 (Or.inr rfl))))))))))))
    · exact br_t (nI_lt (b := 128) hN (by decide)) (br_f (by decide) (br_t (by decide) (br_f (by decide) (br_f (by decide) (br_f (by decide) (br_t (by decide) (br_f z (br_t (hk_n7 z2) (br_f (by decide) (wy_85 hN (h1 ⟨fun x => absurd x (by decide), fun _ => y, fun x => absurd x (by decide)⟩)))))))))))
  | 5, _, h1, _ => br_t (nI_lt (b := 128) hN (by decide)) (br_f (by decide) (br_t (by decide) (br_f (by decide) (br_f (by decide) (br_f (by decide) (br_f (by decide) (br_f (by decide) (wy_85 hN (h1 ⟨fun x => absurd x (by decide), fun x => absurd x (by decide), fun x => absurd x (by decide)⟩)))))))))
  | 6, _, h1, _ => br_t (nI_lt (b := 128) hN (by decide)) (br_f (by decide) (br_t (by decide) (br_f (by decide) (br_f (by decide) (br_f (by decide) (br_f (by decide) (br_f (by decide) (wy_85 hN (h1 ⟨fun x => absurd x (by decide), fun x => absurd x (by decide), fun x => absurd x (by decide)⟩)))))))))
  | 7, _, h1, _ => br_t (nI_lt (b := 128) hN (by decide)) (br_f (by decide) (br_t (by decide) (br_f (by decide) (br_f (by decide) (br_f (by decide) (br_f (by decide) (br_f (by decide) (wy_85 hN (h1 ⟨fun x => absurd x (by decide), fun x => absurd x (by decide), fun x => absurd x (by decide)⟩)))))))))
  | 8, _, h1, _ => br_t (nI_lt (b := 128) hN (by decide)) (br_f (by decide) (br_t (by decide) (br_f (by decide) (br_f (by decide) (br_f (by decide) (br_f (by decide) (br_f (by decide) (wy_85 hN (h1 ⟨fun x => absurd x (by decide), fun x => absurd x (by decide), fun x => absurd x (by decide)⟩)))))))))
  | 9, _, h1, _ => br_t (nI_lt (b := 128) hN (by decide)) (br_f (by decide) (br_t (by decide) (br_f (by decide) (br_f (by decide) (br_f (by decide) (br_f (by decide) (br_f (by decide) (wy_85 hN (h1 ⟨fun x => absurd x (by decide), fun x => absurd x (by decide), fun x => absurd x (by decide)⟩)))))))))
  | 10, _, h1, _ => br_t (nI_lt (b := 128) hN (by decide)) (br_f (by decide) (br_t (by decide) (br_f (by decide) (br_f (by decide) (br_f (by decide) (br_f (by decide) (br_f (by decide) (wy_85 hN (h1 ⟨fun x => absurd x (by decide), fun x => absurd x (by decide), fun x => absurd x (by decide)⟩)))))))))
  | 11, _, h1, _ => br_t (nI_lt (b := 128) hN (by decide)) (br_f (by decide) (br_t (by decide) (br_f (by decide) (br_f (by decide) (br_f (by decide) (br_f (by decide) (br_f (by decide) (wy_85 hN (h1 ⟨fun x => absurd x (by decide), fun x => absurd x (by decide), fun x => absurd x (by decide)⟩)))))))))
  | 12, _, h1, _ => br_t (nI_lt (b := 128) hN (by decide)) (br_f (by decide) (br_t (by decide) (br_f (by decide) (br_f (by decide) (br_f (by decide) (br_f (by decide) (br_f (by decide) (wy_85 hN (h1 ⟨fun x => absurd x (by decide), fun x => absurd x (by decide), fun x => absurd x (by decide)⟩)))))))))
  | 13, _, h1, _ => br_t (nI_lt (b := 128) hN (by decide)) (br_f (by decide) (br_t (by decide) (br_f (by decide) (br_f (by decide) (br_f (by decide) (br_f (by decide) (br_f (by decide) (wy_85 hN (h1 ⟨fun x => absurd x (by decide), fun x => absurd x (by decide), fun x => absurd x (by decide)⟩)))))))))
  | 14, _, h1, _ => br_t (nI_lt (b := 128) hN (by decide)) (br_f (by decide) (br_t (by decide) (br_f (by decide) (br_f (by decide) (br_f (by decide) (br_f (by decide) (br_f (by decide) (wy_85 hN (h1 ⟨fun x => absurd x (by decide), fun x => absurd x (by decide), fun x => absurd x (by decide)⟩)))))))))
  | 15, _, h1, h0 => by
    rcases hk_r b (n := 8) (by omega) with ⟨z, y⟩ | ⟨z, z2, y⟩ | ⟨z, z2, y⟩
    · exact br_t (nI_lt (b := 128) hN (by decide)) (br_f (by decide) (br_t (by decide) (br_f (by decide) (br_f (by decide) (br_f (by decide) (br_f (by decide) (br_t (by decide) (br_t z (h0 (fun c => y (c.2.2 rfl)))))))))))
    · exact br_t (nI_lt (b := 128) hN (by decide)) (br_f (by decide) (br_t (by decide) (br_f (by decide) (br_f (by decide) (br_f (by decide) (br_f (by decide) (br_t (by decide) (br_f z2 (br_f (hk_8 z) (h0 (fun c => y (c.2.2 rfl))))))))))))
    · exact br_t (nI_lt (b := 128) hN (by decide)) (br_f (by decide) (br_t (by decide) (br_f (by decide) (br_f (by decide) (br_f (by decide) (br_f (by decide) (br_t (by decide) (br_f z (br_t (hk_n7 z2) (wy_85 hN (h1 ⟨fun x => absurd x (by decide), fun x => absurd x (by decide), fun _ => y⟩)))))))))))
  | 16, _, h1, _ => br_t (nI_lt (b := 128) hN (by decide)) (br_f (by decide) (br_t (by decide) (br_f (by decide) (br_f (by decide) (br_f (by decide) (br_f (by decide) (br_f (by decide) (wy_85 hN (h1 ⟨fun x => absurd x (by decide), fun x => absurd x (by decide), fun x => absurd x (by decide)⟩)))))))))
  | k + 17, hk, _, _ => absurd hk (by omega)
end
theorem i_vc_addToken {k : Nat} {u : SX} {v : SY} (I : i_Rel k u v) (hk : k + 3 ≤ 1536) (v1 : Int32) (v2 : Int32) : wpX_addToken (fun r u' => wpY_addToken (fun r' v' => r' = r ∧ i_Rel (k + 3) u' v') v v1 v2) u v1 v2 := by
  obtain ⟨xn, xm, xo, xr, xpn, xf, xd, xa, xh, xp, xt, xv, xy, tk, tv, af, dp, ib, ms, pr, gl, aH, aP, aB, lo, hP, pT, pL, pV⟩ := u
  obtain ⟨yn, yr, ym, yo, yrk, yrv, ypn, yf, yd, ya, yac, yw, yv, y1, y2, y3, tk2, tv2, pk, pv, gk, gv, gh, cn, cd, cD, cP, lk, lv, lh, yH, yPk, yPv, yPh, yM, yA, wt, wa, ws, wb, wx, vk, vv, vh⟩ := v
  have I' := I
  obtain ⟨N, mc, pn, rfl, rfl, hN, rfl, rfl, hT, rfl, hm8, hG, rfl, rfl, rfl, hr, rfl, rfl, hpn, hp, hg⟩ := I
  by_cases zN : N = 128
  · subst zN
    exact br_t (by decide) (br_f (by decide) (And.intro rfl I'))
  · have nN : ¬ (128 : Int32) ≤ nI N := nI_ge (b := 128) (by omega) (by decide)
    have yN : nI N < 128 := nI_lt (b := 128) (by omega) (by decide)
    rcases pk_ix v1 (n := 17) (by omega) with z | z | ⟨j, hj, rfl⟩
    · refine br_f nN (br_t ?_ (br_t z (br_t rfl (br_t yN (br_t z (And.intro rfl I'))))))
      exact Int32.lt_trans z (by decide)
    · have z0 : ¬ v1 < 0 := fun x => absurd (Int32.lt_of_le_of_lt z x) (by decide)
      have z1 : ¬ v1 < 1 := fun x => absurd (Int32.lt_of_le_of_lt z x) (by decide)
      have z15 : (15 : Int32) < v1 := Int32.lt_of_lt_of_le (by decide) z
      have z16 : (16 : Int32) < v1 := Int32.lt_of_lt_of_le (by decide) z
      exact br_f nN (br_f z1 (br_t z15 (br_f z0 (br_t z16 (br_t rfl (br_t yN (br_f z0 (br_f (Int32.not_le.mpr z16) (And.intro rfl I')))))))))
    · refine br_f nN (wx_acc (by omega) (fun c => ?_) (fun c => ?_))
      · have e : (nI N).toNatClampNeg = N := nI_clamp (by omega)
        have i : vp_in (nI N) 128 := vp_in_nI (by omega) (by omega)
        refine br_f (by decide) ⟨i, nm_r (congrArg (fun i => upd tk2 i (nI j)) e) ⟨i, nm_r (congrArg (fun i => upd tv2 i v2) e) (nm_r (nI_1 N) ?_)⟩⟩
        refine wy_add (by omega) (by omega) (fun _ => ⟨rfl, ?_⟩) (fun x => absurd c x)
        refine hr_R_mk (N := N + 1) (mc := 0) (by omega) (fun t ht => ?_) (by omega) (Or.inl ⟨rfl, rfl⟩) hr hpn hp hg
        by_cases et : t = N
        · subst et
          rw [pk_us, pk_us]
          exact ⟨j, by omega, rfl, c⟩
        · rw [pk_un et, pk_un et]
          exact hT t (by omega)
      · exact br_t rfl (wy_add (by omega) (by omega) (fun x => absurd x c) (fun _ => ⟨rfl, I'⟩))
theorem i_vc_run {k : Nat} {u : SX} {v : SY} (I : i_Rel k u v) (hk : k + 3 ≤ 1536) (v1 : Int32) (v2 : Int32) : wpX_run (fun r u' => wpY_run (fun r' v' => r' = r ∧ i_Rel (k + 3) u' v') v v1 v2) u v1 v2 := by
  obtain ⟨xn, xm, xo, xr, xpn, xf, xd, xa, xh, xp, xt, xv, xy, tk, tv, af, dp, ib, ms, pr, gl, aH, aP, aB, lo, hP, pT, pL, pV⟩ := u
  obtain ⟨yn, yr, ym, yo, yrk, yrv, ypn, yf, yd, ya, yac, yw, yv, y1, y2, y3, tk2, tv2, pk, pv, gk, gv, gh, cn, cd, cD, cP, lk, lv, lh, yH, yPk, yPv, yPh, yM, yA, wt, wa, ws, wb, wx, vk, vv, vh⟩ := v
  have I' := I
  obtain ⟨N, mc, pn, rfl, rfl, hN, rfl, rfl, hT, rfl, hm8, hG, rfl, rfl, rfl, hr, rfl, rfl, hpn, hp, hg⟩ := I
  rcases hG with ⟨rfl, rfl⟩ | ⟨rfl, rfl, f, D, B, G, haf, hms⟩
  · exact br_t rfl (br_t rfl (And.intro rfl I'))
  · have mc1 := G.2.2.2.2.2.2.2.2.1
    have key : ∀ fl, fl ≤ 255 → (∀ P : Int32 → SY → Prop, (∃ n35, wY_run_35 P v1 (nI fl) (nI N) 1 (nI mc) yo yrk yrv (nI pn) yf yd ya yac yw yv y1 y2 y3 n35 0 tk2 tv2 pk pv gk gv gh cn cd cD cP lk lv lh yH yPk yPv yPh yM yA wt wa ws wb wx vk vv vh) → wpY_run P (nI N, 1, nI mc, yo, yrk, yrv, nI pn, yf, yd, ya, yac, yw, yv, y1, y2, y3, tk2, tv2, pk, pv, gk, gv, gh, cn, cd, cD, cP, lk, lv, lh, yH, yPk, yPv, yPh, yM, yA, wt, wa, ws, wb, wx, vk, vv, vh) v1 v2) → (∀ Q : Int32 → Prop, Q (nI fl) → wpX_clampFuel Q v2) → wpX_run (fun r u' => wpY_run (fun r' v' => r' = r ∧ i_Rel (k + 3) u' v') (nI N, 1, nI mc, yo, yrk, yrv, nI pn, yf, yd, ya, yac, yw, yv, y1, y2, y3, tk2, tv2, pk, pv, gk, gv, gh, cn, cd, cD, cP, lk, lv, lh, yH, yPk, yPv, yPh, yM, yA, wt, wa, ws, wb, wx, vk, vv, vh) v1 v2) (nI N, nI mc, yo, xr, nI pn, yf, yd, xa, xh, xp, xt, xv, xy, tk2, tv2, af, dp, ib, ms, pr, gl, aH, aP, aB, lo, hP, pT, pL, pV) v1 v2 := by
      intro fl hfl hY hX
      obtain ⟨uf, rf, vf, x, y, z⟩ := hm_run G haf hms v1 hfl
      unfold wpX_run
      refine br_f (nI_ne0 (by omega) (by omega)) ?_
      refine wx_reset ?_
      refine hX _ ?_
      refine x _ ?_
      obtain ⟨xn', xm', xo', xr', xpn', xf', xd', xa', xh', xp', xt', xv', xy', tk', tv', af', dp', ib', ms', pr', gl', aH', aP', aB', lo', hP', pT', pL', pV'⟩ := uf
      obtain ⟨yn', yr', ym', yo', yrk', yrv', ypn', yf', yd', ya', yac', yw', yv', y1', y2', y3', tk2', tv2', pk', pv', gk', gv', gh', cn', cd', cD', cP', lk', lv', lh', yH', yPk', yPv', yPh', yM', yA', wt', wa', ws', wb', wx', vk', vv', vh'⟩ := vf
      obtain ⟨rfl, rfl, rfl, rfl, rfl, rfl, rfl, rfl, rfl, rfl, rfl, rfl, rfl, rfl, rfl, q1, ⟨pn', rfl, rfl, q2, q3⟩, q4⟩ := z
      refine hY _ (y _ ?_)
      exact And.intro rfl (hr_R_mk hN hT hm8 (Or.inr ⟨rfl, rfl, f, D, B, G, haf, hms⟩) q1 q2 q3 q4)
    by_cases z0 : 0 ≤ v2
    · obtain ⟨j, hj, rfl⟩ := nI_of (x := v2) (Int32.not_lt.mpr z0)
      rcases Nat.lt_or_ge 255 j with zj | zj
      · have w : ¬ nI j ≤ 255 := nI_ge (a := 255) zj hj
        exact key 255 (by omega) (fun P h => br_f (by decide) (br_t z0 (br_f w h))) (fun Q h => br_t z0 (br_f w h))
      · have w : nI j ≤ 255 := nI_le (b := 255) zj (by decide)
        exact key j zj (fun P h => br_f (by decide) (br_t z0 (br_t w h))) (fun Q h => br_t z0 (br_t w h))
    · exact key 0 (by omega) (fun P h => br_f (by decide) (br_f z0 h)) (fun Q h => br_f z0 h)
end
section
theorem hc_le {a f : Nat → Nat} {lo N : Nat} (L : hc_Lk a f lo N) {x0 : Nat} (h1 : lo ≤ x0) (h2 : x0 ≤ N) : ∀ m, (∀ q, q < m → hc_it f q x0 < N) → lo ≤ hc_it f m x0 ∧ hc_it f m x0 ≤ N
  | 0, _ => ⟨h1, h2⟩
  | m + 1, H => by
    have i := hc_le L h1 h2 m (fun q hq => H q (by omega))
    have c := hc_lt L i.1 (H m (by omega))
    rw [hc_it_s]
    exact ⟨by omega, c.2⟩
section
variable {xn xm xo xpn xf xd xa xh xp xt xy : Int32} {xr xv : Int64} {tk tv af dp ib ms aH aB hP pT pL : Nat → Int32} {pr gl aP lo pV : Nat → Int64} {N t : Nat} {f : Nat → Nat}
/-! linkExpressions -/
theorem xl_in {post : Int32 → SX → Prop} {J7 : Int32 → (Nat → Int32) → (Nat → Int32) → (Nat → Int32) → (Nat → Int32) → (Nat → Int32) → (Nat → Int32) → (Nat → Int64) → (Nat → Int64) → (Nat → Int32) → (Nat → Int64) → (Nat → Int32) → (Nat → Int64) → (Nat → Int32) → (Nat → Int32) → (Nat → Int32) → (Nat → Int64) → Prop} (hN : N ≤ 128) (ht : t < N) (L : hc_Lk (hp_a tk) f (t + 1) N) (haf : ∀ i, t + 1 ≤ i → i < N → af i = nI (f i))
    (hF : ∀ q0, q0 < hp_a tk t → N ≤ hc_it f q0 (t + 1) → post 0 (nI N, xm, xo, xr, xpn, xf, xd, xa, xh, xp, xt, xv, xy, tk, tv, af, dp, ib, ms, pr, gl, aH, aP, aB, lo, hP, pT, pL, pV)) (hS : (∀ q, q < hp_a tk t → hc_it f q (t + 1) < N) → J7 (nI t + (-1)) tk tv (upd af t (nI (hc_it f (hp_a tk t) (t + 1)))) dp ib ms pr gl aH aP aB lo hP pT pL pV) :
    ∀ m, m ≤ hp_a tk t → (∀ q, q < hp_a tk t - m → hc_it f q (t + 1) < N) → wX_linkExpressions_25 post J7 (nI t) (nI N) xm xo xr xpn xf xd xa xh xp xt xv xy tk tv af dp ib ms pr gl aH aP aB lo hP pT pL pV (m + 1) (nI (hc_it f (hp_a tk t - m) (t + 1))) (nI m) := by
  have a3 : hp_a tk t ≤ 3 := hc_ar3 _
  intro m
  induction m with
  | zero =>
    intro _ H
    rw [Nat.sub_zero] at H ⊢
    exact br_t (by decide) ⟨vp_in_nI (by omega) (by omega), nm_r (show _ = upd af t (nI (hc_it f (hp_a tk t) (t + 1))) by rw [nI_clamp (by omega)]) (nm_e (hS H))⟩
  | succ m ih =>
    intro hm H
    have b := hc_le L (Nat.le_refl _) (by omega) (hp_a tk t - (m + 1)) H
    refine br_f (nI_nle (by omega) (by omega)) ?_
    by_cases z : hc_it f (hp_a tk t - (m + 1)) (t + 1) < N
    · have e : hp_a tk t - m = hp_a tk t - (m + 1) + 1 := by omega
      have w := ih (by omega) (fun q hq => by
        by_cases y : q = hp_a tk t - (m + 1)
        · rw [y]; exact z
        · exact H q (by omega))
      rw [e, hc_it_s] at w
      exact br_t (nI_lt z (by omega)) ⟨vp_in_nI (by omega) (by omega), nm_r (show _ = nI (f (hc_it f (hp_a tk t - (m + 1)) (t + 1))) by rw [nI_clamp (by omega)]; exact haf _ b.1 z) (nm_r (pk_m1 m) w)⟩
    · exact br_f (nI_nlt (by omega) (by omega)) (hF (hp_a tk t - (m + 1)) (by omega) (by omega))
theorem xl_out {post : Int32 → SX → Prop} (hN : N ≤ 128) (hT : hp_T tk tv N)
    (hF : ∀ (f : Nat → Nat) (af' : Nat → Int32) (t0 q0 : Nat), t0 < N → hc_Lk (hp_a tk) f (t0 + 1) N → q0 < hp_a tk t0 → N ≤ hc_it f q0 (t0 + 1) → post 0 (nI N, xm, xo, xr, xpn, xf, xd, xa, xh, xp, xt, xv, xy, tk, tv, af', dp, ib, ms, pr, gl, aH, aP, aB, lo, hP, pT, pL, pV))
    (hS : ∀ (f : Nat → Nat) (af' : Nat → Int32), hc_Lk (hp_a tk) f 0 N → (∀ i, i < N → af' i = nI (f i)) → post 1 (nI N, xm, xo, xr, xpn, xf, xd, xa, xh, xp, xt, xv, xy, tk, tv, af', dp, ib, ms, pr, gl, aH, aP, aB, lo, hP, pT, pL, pV)) :
    ∀ (e : Nat) (f : Nat → Nat) (af : Nat → Int32), e ≤ N → hc_Lk (hp_a tk) f e N → (∀ i, e ≤ i → i < N → af i = nI (f i)) → wX_linkExpressions_7 post (nI N) xm xo xr xpn xf xd xa xh xp xt xv xy (e + 1) (nI e + (-1)) tk tv af dp ib ms pr gl aH aP aB lo hP pT pL pV := by
  intro e
  induction e with
  | zero =>
    intro f af _ L haf
    exact br_t (by decide) (hS f af L (fun i hi => haf i (Nat.zero_le _) hi))
  | succ t ih =>
    intro f af ht L haf
    obtain ⟨k, k1, k2⟩ := hp_k hT (show t < N by omega)
    have e1 : (nI t).toNatClampNeg = t := nI_clamp (by omega)
    have ea : hp_a tk t = hc_ar (nI k) := by unfold hp_a; rw [k2]
    rw [pk_m1]
    refine br_f (nI_pos (by omega)) (nm_r (nI_1 t) ⟨vp_in_nI (by omega) (by omega), ?_⟩)
    rw [e1, k2]
    refine wx_arity k1 ⟨hp_a tk t + 1, ?_⟩
    rw [← ea]
    have w := xl_in (post := post) (J7 := wX_linkExpressions_7 post (nI N) xm xo xr xpn xf xd xa xh xp xt xv xy (t + 1)) hN (show t < N by omega) L haf (fun q0 h1 h2 => hF f af t q0 (by omega) L h1 h2) (fun H => ih (fun x => if x = t then hc_it f (hp_a tk t) (t + 1) else f x) _ (by omega) (hc_Lk_step L H rfl) (fun i i1 i2 => by
      by_cases y : i = t
      · subst y; rw [pk_us, if_pos rfl]
      · rw [pk_un y, if_neg y]; exact haf i (by omega) i2)) (hp_a tk t) (Nat.le_refl _) (fun q hq => by omega)
    rw [Nat.sub_self] at w
    exact w
theorem wx_link {post : Int32 → SX → Prop} (hN : N ≤ 128) (hT : hp_T tk tv N)
    (hF : ∀ (f : Nat → Nat) (af' : Nat → Int32) (t0 q0 : Nat), t0 < N → hc_Lk (hp_a tk) f (t0 + 1) N → q0 < hp_a tk t0 → N ≤ hc_it f q0 (t0 + 1) → post 0 (nI N, xm, xo, xr, xpn, xf, xd, xa, xh, xp, xt, xv, xy, tk, tv, af', dp, ib, ms, pr, gl, aH, aP, aB, lo, hP, pT, pL, pV))
    (hS : ∀ (f : Nat → Nat) (af' : Nat → Int32), hc_Lk (hp_a tk) f 0 N → (∀ i, i < N → af' i = nI (f i)) → post 1 (nI N, xm, xo, xr, xpn, xf, xd, xa, xh, xp, xt, xv, xy, tk, tv, af', dp, ib, ms, pr, gl, aH, aP, aB, lo, hP, pT, pL, pV)) : wpX_linkExpressions post (nI N, xm, xo, xr, xpn, xf, xd, xa, xh, xp, xt, xv, xy, tk, tv, af, dp, ib, ms, pr, gl, aH, aP, aB, lo, hP, pT, pL, pV) := by
  unfold wpX_linkExpressions
  have e : nI N - 1 = nI N + (-1) := by grind
  exact nm_r e ⟨N + 1, xl_out hN hT hF hS N (fun _ => 0) af (Nat.le_refl _) (fun i h1 h2 => by omega) (fun i h1 h2 => by omega)⟩
/-! placeRoots -/
theorem xr_loop {post : Int32 → SX → Prop} (hN : N ≤ 128) (L : hc_Lk (hp_a tk) f 0 N) (haf : ∀ i, i < N → af i = nI (f i))
    (hS : ∀ (e : Nat) (dp' ib' ms' : Nat → Int32), hc_it f e 0 = N → (∀ k, k < e → hc_it f k 0 < N) → e ≤ N → (∀ k, k < e → k < 8 → ms' k = nI (hc_it f k 0)) → (∀ k, k < e → dp' (hc_it f k 0) = nI 1 ∧ ib' (hc_it f k 0) = 0) → post (nI e) (nI N, xm, xo, xr, xpn, xf, xd, xa, xh, xp, xt, xv, xy, tk, tv, af, dp', ib', ms', pr, gl, aH, aP, aB, lo, hP, pT, pL, pV)) :
    ∀ d i e (dp ib ms : Nat → Int32), i + d = N → i ≤ hc_it f e 0 → hc_it f e 0 ≤ N → (∀ k, k < e → hc_it f k 0 < i) → e ≤ i → (∀ k, k < e → k < 8 → ms k = nI (hc_it f k 0)) → (∀ k, k < e → dp (hc_it f k 0) = nI 1 ∧ ib (hc_it f k 0) = 0) → wX_placeRoots_6 post (nI N) xm xo xr xpn xf xd xa xh xp xt xv xy (d + 1) (nI e) (nI (hc_it f e 0)) (nI i) tk tv af dp ib ms pr gl aH aP aB lo hP pT pL pV := by
  intro d
  induction d with
  | zero =>
    intro i e dp ib ms hi h1 h2 h3 h4 h5 h6
    have ei : i = N := by omega
    subst ei
    exact br_t (nI_le (Nat.le_refl _) (by omega)) (hS e dp ib ms (by omega) h3 h4 h5 h6)
  | succ d ih =>
    intro i e dp ib ms hi h1 h2 h3 h4 h5 h6
    have e1 : (nI i).toNatClampNeg = i := nI_clamp (by omega)
    have i1 : vp_in (nI i) 128 := vp_in_nI (by omega) (by omega)
    refine br_f (nI_ge (by omega) (by omega)) ?_
    by_cases z : i = hc_it f e 0
    · have lt := hc_lt L (Nat.zero_le i) (show i < N by omega)
      have er : hc_it f (e + 1) 0 = f i := by rw [hc_it_s, ← z]
      have B : ∀ ms' : Nat → Int32, (∀ k, k < e + 1 → k < 8 → ms' k = nI (hc_it f k 0)) → wX_placeRoots_32 post (wX_placeRoots_6 post (nI N) xm xo xr xpn xf xd xa xh xp xt xv xy (d + 1)) (nI e) (nI i) (nI N) xm xo xr xpn xf xd xa xh xp xt xv xy tk tv af dp ib ms' pr gl aH aP aB lo hP pT pL pV := by
        intro ms' hms
        refine nm_r (nI_1 e) ⟨i1, nm_r (show _ = upd dp i 1 by rw [e1]) ⟨i1, nm_r (show _ = upd ib i 0 by rw [e1, wk_b0]) ⟨i1, nm_r (show _ = nI (hc_it f (e + 1) 0) by rw [e1, er]; exact haf i (by omega)) (nm_r (nI_1 i) ?_)⟩⟩⟩
        refine ih (i + 1) (e + 1) _ _ _ (by omega) (by omega) (by omega) (fun k hk => ?_) (by omega) hms (fun k hk => ?_)
        · by_cases y : k = e
          · rw [y]; omega
          · have := h3 k (by omega); omega
        · by_cases y : k = e
          · rw [y, ← z, pk_us, pk_us]; exact ⟨rfl, rfl⟩
          · have := h3 k (by omega)
            rw [pk_un (by omega), pk_un (by omega)]; exact h6 k (by omega)
      refine br_t (by rw [z]) ?_
      by_cases y : 8 ≤ e
      · exact br_t (nI_le (a := 8) y (by omega)) (B ms (fun k k1 k2 => h5 k (by omega) k2))
      · refine br_f (nI_ge (b := 8) (by omega) (by decide)) ⟨vp_in_nI (by omega) (by omega), nm_r (show _ = upd ms e (nI i) by rw [nI_clamp (by omega)]) (B _ (fun k k1 k2 => ?_))⟩
        by_cases x : k = e
        · rw [x, pk_us, ← z]
        · rw [pk_un x]; exact h5 k (by omega) k2
    · refine br_f (fun x => z ((nI_eq (by omega) (by omega)).mp x)) (nm_r (nI_1 i) (ih (i + 1) e dp ib ms (by omega) (by omega) h2 (fun k hk => by have := h3 k hk; omega) (by omega) h5 h6))
theorem wx_roots {post : Int32 → SX → Prop} (hN : N ≤ 128) (L : hc_Lk (hp_a tk) f 0 N) (haf : ∀ i, i < N → af i = nI (f i))
    (hS : ∀ (e : Nat) (dp' ib' ms' : Nat → Int32), hc_it f e 0 = N → (∀ k, k < e → hc_it f k 0 < N) → e ≤ N → (∀ k, k < e → k < 8 → ms' k = nI (hc_it f k 0)) → (∀ k, k < e → dp' (hc_it f k 0) = nI 1 ∧ ib' (hc_it f k 0) = 0) → post (nI e) (nI N, xm, xo, xr, xpn, xf, xd, xa, xh, xp, xt, xv, xy, tk, tv, af, dp', ib', ms', pr, gl, aH, aP, aB, lo, hP, pT, pL, pV)) : wpX_placeRoots post (nI N, xm, xo, xr, xpn, xf, xd, xa, xh, xp, xt, xv, xy, tk, tv, af, dp, ib, ms, pr, gl, aH, aP, aB, lo, hP, pT, pL, pV) := by
  unfold wpX_placeRoots
  exact ⟨N + 1, xr_loop hN L haf hS N 0 0 dp ib ms (by omega) (Nat.le_refl _) (Nat.zero_le _) (fun k hk => by omega) (Nat.le_refl _) (fun k hk => by omega) (fun k hk => by omega)⟩
end
/-! placeOperands -/
def hc_ib (tk ib : Nat → Int32) (t : Nat) : Int32 := if ib t ≠ 0 ∨ tk t = 13 then 1 else 0
def hc_Pl (tk : Nat → Int32) (f : Nat → Nat) (e t : Nat) (dp ib : Nat → Int32) : Prop :=
  (∀ k, k < e → dp (hc_it f k 0) = nI 1 ∧ ib (hc_it f k 0) = 0) ∧ (∀ p, p < t → ∀ c, hc_Ch (hp_a tk) f p c → dp c = dp p + 1 ∧ ib c = hc_ib tk ib p)
section
variable {xn xm xo xpn xf xd xa xh xp xt xy : Int32} {xr xv : Int64} {tk tv af dp ib ms aH aB hP pT pL : Nat → Int32} {pr gl aP lo pV : Nat → Int64} {N t e : Nat} {f : Nat → Nat}
theorem xo_in {post : SX → Prop} {J2 : Int32 → (Nat → Int32) → (Nat → Int32) → (Nat → Int32) → (Nat → Int32) → (Nat → Int32) → (Nat → Int32) → (Nat → Int64) → (Nat → Int64) → (Nat → Int32) → (Nat → Int64) → (Nat → Int32) → (Nat → Int64) → (Nat → Int32) → (Nat → Int32) → (Nat → Int32) → (Nat → Int64) → Prop} (hN : N ≤ 128) (ht : t < N) (L : hc_Lk (hp_a tk) f 0 N) (haf : ∀ i, i < N → af i = nI (f i)) (hroots : ∀ k, k < e → hc_it f k 0 < N)
    (hS : ∀ dp' ib' : Nat → Int32, hc_Pl tk f e (t + 1) dp' ib' → J2 (nI (t + 1)) tk tv af dp' ib' ms pr gl aH aP aB lo hP pT pL pV) :
    ∀ m (dp ib : Nat → Int32), m ≤ hp_a tk t → hc_Pl tk f e t dp ib → (∀ q, q < hp_a tk t - m → dp (hc_it f q (t + 1)) = dp t + 1 ∧ ib (hc_it f q (t + 1)) = hc_ib tk ib t) → wX_placeOperands_27 post J2 (nI t) (tk t) (nI N) xm xo xr xpn xf xd xa xh xp xt xv xy (m + 1) (nI (hc_it f (hp_a tk t - m) (t + 1))) (nI m) tk tv af dp ib ms pr gl aH aP aB lo hP pT pL pV := by
  have a3 : hp_a tk t ≤ 3 := hc_ar3 _
  obtain ⟨Lq, Le⟩ := L t (Nat.zero_le _) ht
  intro m
  induction m with
  | zero =>
    intro dp ib _ P H
    rw [Nat.sub_zero] at H
    refine br_t (by decide) (nm_r (nI_1 t) (hS dp ib ⟨P.1, fun p hp c hc => ?_⟩))
    by_cases y : p = t
    · subst y
      obtain ⟨q, q1, rfl⟩ := hc
      exact H q q1
    · exact P.2 p (by omega) c hc
  | succ m ih =>
    intro dp ib hm P H
    have hch : hc_Ch (hp_a tk) f t (hc_it f (hp_a tk t - (m + 1)) (t + 1)) := ⟨hp_a tk t - (m + 1), by omega, rfl⟩
    have cl := hc_Ch_lt L (Nat.zero_le _) ht hch
    have eq1 : hc_it f (hp_a tk t - m) (t + 1) = f (hc_it f (hp_a tk t - (m + 1)) (t + 1)) := by
      rw [show hp_a tk t - m = hp_a tk t - (m + 1) + 1 by omega, hc_it_s]
    have mono := hc_mono L (x0 := t + 1) (Nat.zero_le _) (hp_a tk t - (m + 1)) (fun q hq => Lq q (by omega))
    have lts : ∀ q, q < hp_a tk t - (m + 1) → hc_it f q (t + 1) ≠ hc_it f (hp_a tk t - (m + 1)) (t + 1) := fun q hq x => by
      have a := (mono (q + 1) (by omega)).2
      have b := hc_lt L (Nat.zero_le _) (Lq q (by omega))
      rw [hc_it_s] at a
      omega
    generalize hc : hc_it f (hp_a tk t - (m + 1)) (t + 1) = c at *
    have ec : (nI c).toNatClampNeg = c := nI_clamp (by omega)
    have et : (nI t).toNatClampNeg = t := nI_clamp (by omega)
    have it : vp_in (nI t) 128 := vp_in_nI (by omega) (by omega)
    have ic : vp_in (nI c) 128 := vp_in_nI (by omega) (by omega)
    have tail : ∀ z0 : Int32, (vp_nar .boolean z0 = hc_ib tk ib t) → wX_placeOperands_71 post J2 (wX_placeOperands_27 post J2 (nI t) (tk t) (nI N) xm xo xr xpn xf xd xa xh xp xt xv xy (m + 1)) (nI t) (tk t) (nI c) (nI (m + 1)) z0 (nI c) (nI N) xm xo xr xpn xf xd xa xh xp xt xv xy tk tv af (upd dp c (dp t + 1)) ib ms pr gl aH aP aB lo hP pT pL pV := by
      intro z0 hz
      refine And.intro ic (nm_r (show _ = upd ib c (hc_ib tk ib t) by rw [ec, hz]) ⟨ic, nm_r (show _ = nI (hc_it f (hp_a tk t - m) (t + 1)) by rw [ec, eq1]; exact haf c (by omega)) (nm_r (pk_m1 m) ?_)⟩)
      have bt : hc_ib tk (upd ib c (hc_ib tk ib t)) t = hc_ib tk ib t := by unfold hc_ib; rw [pk_un (show t ≠ c by omega)]
      refine ih _ _ (by omega) ⟨fun k hk => ?_, fun p hp c' hc' => ?_⟩ (fun q hq => ?_)
      · have ne : hc_it f k 0 ≠ c := fun x => by
          rw [← x] at hch
          exact hc_root L (fun j hj => hroots j (by omega)) ht hch
        rw [pk_un ne, pk_un ne]; exact P.1 k hk
      · have ne : c' ≠ c := fun x => by
          rw [x] at hc'
          have := hc_uniq L (Nat.zero_le _) (Nat.zero_le _) (show p < N by omega) ht hc' hch
          omega
        have bp : hc_ib tk (upd ib c (hc_ib tk ib t)) p = hc_ib tk ib p := by unfold hc_ib; rw [pk_un (show p ≠ c by omega)]
        rw [pk_un ne, pk_un ne, pk_un (show p ≠ c by omega), bp]
        exact P.2 p hp c' hc'
      · rw [bt, pk_un (show t ≠ c by omega)]
        by_cases y : q = hp_a tk t - (m + 1)
        · rw [y, hc, pk_us, pk_us]; exact ⟨rfl, rfl⟩
        · have ne := lts q (by omega)
          rw [pk_un ne, pk_un ne]; exact H q (by omega)
    refine br_f (nI_nle (by omega) (by omega)) ⟨it, ic, nm_r (show _ = upd dp c (dp t + 1) by rw [ec, et]) ⟨it, ?_⟩⟩
    rw [et]
    by_cases z : ib t = 0
    · refine br_t z ?_
      by_cases y : tk t = 13
      · exact br_t y (tail 1 (by rw [wk_b1]; unfold hc_ib; rw [if_pos (Or.inr y)]))
      · exact br_f y (tail 0 (by rw [wk_b0]; unfold hc_ib; rw [if_neg (fun x => x.elim (fun w => w z) y)]))
    · exact br_f z (tail 1 (by rw [wk_b1]; unfold hc_ib; rw [if_pos (Or.inl z)]))
theorem wx_opers {post : SX → Prop} (hN : N ≤ 128) (hT : hp_T tk tv N) (L : hc_Lk (hp_a tk) f 0 N) (haf : ∀ i, i < N → af i = nI (f i)) (hroots : ∀ k, k < e → hc_it f k 0 < N) (h0 : ∀ k, k < e → dp (hc_it f k 0) = nI 1 ∧ ib (hc_it f k 0) = 0)
    (hS : ∀ dp' ib' : Nat → Int32, hc_Pl tk f e N dp' ib' → post (nI N, xm, xo, xr, xpn, xf, xd, xa, xh, xp, xt, xv, xy, tk, tv, af, dp', ib', ms, pr, gl, aH, aP, aB, lo, hP, pT, pL, pV)) : wpX_placeOperands post (nI N, xm, xo, xr, xpn, xf, xd, xa, xh, xp, xt, xv, xy, tk, tv, af, dp, ib, ms, pr, gl, aH, aP, aB, lo, hP, pT, pL, pV) := by
  have key : ∀ d t (dp ib : Nat → Int32), t + d = N → hc_Pl tk f e t dp ib → wX_placeOperands_2 post (nI N) xm xo xr xpn xf xd xa xh xp xt xv xy (d + 1) (nI t) tk tv af dp ib ms pr gl aH aP aB lo hP pT pL pV := by
    intro d
    induction d with
    | zero =>
      intro t dp ib ht P
      have et : t = N := by omega
      subst et
      exact br_t (nI_le (Nat.le_refl _) (by omega)) (hS dp ib P)
    | succ d ih =>
      intro t dp ib ht P
      obtain ⟨k, k1, k2⟩ := hp_k hT (show t < N by omega)
      have ea : hp_a tk t = hc_ar (nI k) := by unfold hp_a; rw [k2]
      have e1 : (nI t).toNatClampNeg = t := nI_clamp (by omega)
      refine br_f (nI_ge (by omega) (by omega)) ⟨vp_in_nI (by omega) (by omega), nm_r (show _ = tk t by rw [e1]) (nm_r (nI_1 t) ?_)⟩
      have w : wX_placeOperands_27 post (wX_placeOperands_2 post (nI N) xm xo xr xpn xf xd xa xh xp xt xv xy (d + 1)) (nI t) (tk t) (nI N) xm xo xr xpn xf xd xa xh xp xt xv xy (hp_a tk t + 1) (nI (hc_it f (hp_a tk t - hp_a tk t) (t + 1))) (nI (hp_a tk t)) tk tv af dp ib ms pr gl aH aP aB lo hP pT pL pV := xo_in hN (show t < N by omega) L haf hroots (fun dp' ib' P' => ih (t + 1) dp' ib' (by omega) P') (hp_a tk t) dp ib (Nat.le_refl _) P (fun q hq => by omega)
      rw [Nat.sub_self] at w
      have w2 : wpX_arity (fun r_5 => (∃ n27 : Nat, wX_placeOperands_27 post (wX_placeOperands_2 post (nI N) xm xo xr xpn xf xd xa xh xp xt xv xy (d + 1)) (nI t) (tk t) (nI N) xm xo xr xpn xf xd xa xh xp xt xv xy n27 (nI (t + 1)) r_5 tk tv af dp ib ms pr gl aH aP aB lo hP pT pL pV)) (nI k) := wx_arity k1 ⟨hp_a tk t + 1, by rw [← ea]; exact w⟩
      rw [← k2] at w2
      exact w2
  unfold wpX_placeOperands
  exact ⟨N + 1, key N 0 dp ib (by omega) ⟨h0, fun p hp => by omega⟩⟩
/-! the three checks -/
theorem wx_deep {post : Int32 → Prop} (hN : N ≤ 128) (h1 : (∃ j, j < N ∧ ¬ dp j ≤ 8) → post 1) (h0 : (∀ j, j < N → dp j ≤ 8) → post 0) : wpX_hasDeepToken post (nI N, xm, xo, xr, xpn, xf, xd, xa, xh, xp, xt, xv, xy, tk, tv, af, dp, ib, ms, pr, gl, aH, aP, aB, lo, hP, pT, pL, pV) := by
  have key : ∀ d i, i + d = N → (∀ j, j < i → dp j ≤ 8) → wX_hasDeepToken_2 post (nI N) xm xo xr xpn xf xd xa xh xp xt xv xy tk tv af dp ib ms pr gl aH aP aB lo hP pT pL pV (d + 1) (nI i) := by
    intro d
    induction d with
    | zero =>
      intro i hi H
      have e : i = N := by omega
      subst e
      exact br_t (nI_le (Nat.le_refl _) (by omega)) (h0 H)
    | succ d ih =>
      intro i hi H
      have e1 : (nI i).toNatClampNeg = i := nI_clamp (by omega)
      refine br_f (nI_ge (by omega) (by omega)) ⟨vp_in_nI (by omega) (by omega), ?_⟩
      rw [e1]
      by_cases z : dp i ≤ 8
      · exact br_t z (nm_r (nI_1 i) (ih (i + 1) (by omega) (lt_s H z)))
      · exact br_f z (h1 ⟨i, by omega, z⟩)
  unfold wpX_hasDeepToken
  exact ⟨N + 1, key N 0 (by omega) (fun j hj => by omega)⟩
theorem wx_par {post : Int32 → Prop} (hN : N ≤ 128) (h1 : (∃ j, j < N ∧ tk j = 5 ∧ ib j = 0) → post 1) (h0 : (∀ j, j < N → tk j = 5 → ib j ≠ 0) → post 0) : wpX_hasParamOutsideBlock post (nI N, xm, xo, xr, xpn, xf, xd, xa, xh, xp, xt, xv, xy, tk, tv, af, dp, ib, ms, pr, gl, aH, aP, aB, lo, hP, pT, pL, pV) := by
  have key : ∀ d i, i + d = N → (∀ j, j < i → tk j = 5 → ib j ≠ 0) → wX_hasParamOutsideBlock_2 post (nI N) xm xo xr xpn xf xd xa xh xp xt xv xy tk tv af dp ib ms pr gl aH aP aB lo hP pT pL pV (d + 1) (nI i) := by
    intro d
    induction d with
    | zero =>
      intro i hi H
      have e : i = N := by omega
      subst e
      exact br_t (nI_le (Nat.le_refl _) (by omega)) (h0 H)
    | succ d ih =>
      intro i hi H
      have e1 : (nI i).toNatClampNeg = i := nI_clamp (by omega)
      have i1 : vp_in (nI i) 128 := vp_in_nI (by omega) (by omega)
      refine br_f (nI_ge (by omega) (by omega)) ⟨i1, ?_⟩
      rw [e1]
      by_cases z : tk i = 5
      · refine br_t z ⟨i1, ?_⟩
        by_cases y : ib i = 0
        · exact br_t y (h1 ⟨i, by omega, z, y⟩)
        · exact br_f y (nm_r (nI_1 i) (ih (i + 1) (by omega) (lt_s (p := fun j => tk j = 5 → ib j ≠ 0) H (fun _ => y))))
      · exact br_f z (nm_r (nI_1 i) (ih (i + 1) (by omega) (lt_s (p := fun j => tk j = 5 → ib j ≠ 0) H (fun x => absurd x z))))
  unfold wpX_hasParamOutsideBlock
  exact ⟨N + 1, key N 0 (by omega) (fun j hj => by omega)⟩
theorem wx_calls {post : Int32 → Prop} {c : Int32} (hN : N ≤ 128) (h1 : (∃ j, j < N ∧ tk j = 15 ∧ ¬ tv j < c) → post 1) (h0 : (∀ j, j < N → tk j = 15 → tv j < c) → post 0) : wpX_hasCallBeyond post (nI N, xm, xo, xr, xpn, xf, xd, xa, xh, xp, xt, xv, xy, tk, tv, af, dp, ib, ms, pr, gl, aH, aP, aB, lo, hP, pT, pL, pV) c := by
  have key : ∀ d i, i + d = N → (∀ j, j < i → tk j = 15 → tv j < c) → wX_hasCallBeyond_2 post c (nI N) xm xo xr xpn xf xd xa xh xp xt xv xy tk tv af dp ib ms pr gl aH aP aB lo hP pT pL pV (d + 1) (nI i) := by
    intro d
    induction d with
    | zero =>
      intro i hi H
      have e : i = N := by omega
      subst e
      exact br_t (nI_le (Nat.le_refl _) (by omega)) (h0 H)
    | succ d ih =>
      intro i hi H
      have e1 : (nI i).toNatClampNeg = i := nI_clamp (by omega)
      have i1 : vp_in (nI i) 128 := vp_in_nI (by omega) (by omega)
      refine br_f (nI_ge (by omega) (by omega)) ⟨i1, ?_⟩
      rw [e1]
      by_cases z : tk i = 15
      · refine br_t z ⟨i1, ?_⟩
        by_cases y : tv i < c
        · exact br_t y (nm_r (nI_1 i) (ih (i + 1) (by omega) (lt_s (p := fun j => tk j = 15 → tv j < c) H (fun _ => y))))
        · exact br_f y (h1 ⟨i, by omega, z, y⟩)
      · exact br_f z (nm_r (nI_1 i) (ih (i + 1) (by omega) (lt_s (p := fun j => tk j = 15 → tv j < c) H (fun x => absurd x z))))
  unfold wpX_hasCallBeyond
  exact ⟨N + 1, key N 0 (by omega) (fun j hj => by omega)⟩
end
end
section
section
variable {yn yr ym yo yrk yrv ypn yf yd ya yac yw yv y1 y2 y3 : Int32} {tk tv pk pv gk gv gh cn cd cD cP lk lv lh yH yPk yPv yPh yM yA wt wa ws wb wx vk vv vh : Nat → Int32} {post : Int32 → SY → Prop} {N : Nat}
theorem yc_pop {J25 : Int32 → Int32 → Int32 → (Nat → Int32) → (Nat → Int32) → (Nat → Int32) → (Nat → Int32) → (Nat → Int32) → (Nat → Int32) → (Nat → Int32) → (Nat → Int32) → (Nat → Int32) → (Nat → Int32) → (Nat → Int32) → (Nat → Int32) → (Nat → Int32) → (Nat → Int32) → (Nat → Int32) → (Nat → Int32) → (Nat → Int32) → (Nat → Int32) → (Nat → Int32) → (Nat → Int32) → (Nat → Int32) → (Nat → Int32) → (Nat → Int32) → (Nat → Int32) → (Nat → Int32) → (Nat → Int32) → (Nat → Int32) → (Nat → Int32) → Prop} {x2 x3 : Int32} : ∀ sp, sp ≤ 128 → J25 (nI (hc_pp cn sp)) x2 (x3 + 1) tk tv pk pv gk gv gh cn cd cD cP lk lv lh yH yPk yPv yPh yM yA wt wa ws wb wx vk vv vh → wY_compile_119 post J25 x2 x3 yn yr ym yo yrk yrv ypn yf yd ya yac yw yv y1 y2 y3 tk tv pk pv gk gv gh cn cd cD cP lk lv lh yH yPk yPv yPh yM yA wt wa ws wb wx vk vv vh (sp + 1) (nI sp)
  | 0, _, h => br_t (by decide) (nm_e h)
  | sp + 1, hs, h => by
    have e : nI (sp + 1) - 1 = nI sp := nI_pred sp
    have e1 : (nI sp).toNatClampNeg = sp := nI_clamp (by omega)
    simp only [hc_pp] at h
    refine br_f (nI_nle (by omega) (by omega)) ⟨by rw [e]; exact vp_in_nI (by omega) (by omega), ?_⟩
    rw [e, e1]
    by_cases z : cn sp = 0
    · rw [if_pos z] at h
      exact br_t z (nm_r (pk_m1 sp) (yc_pop sp (by omega) h))
    · rw [if_neg z] at h
      exact br_f z (nm_e h)
theorem yc_scan (hN : N ≤ 128) (hT : hp_T tk tv N) (Inv : Nat → Nat → Nat → (Nat → Int32) → (Nat → Int32) → (Nat → Int32) → (Nat → Int32) → Prop)
    (hb : ∀ i sp cnt need node dep par, Inv i sp cnt need node dep par → sp ≤ i ∧ cnt ≤ i)
    (hs : ∀ i sp cnt need node dep par, i < N → Inv i sp cnt need node dep par → Inv (i + 1) (hc_pp (hc_n1 sp (hp_a tk i) need) (sp + 1)) (hc_c1 sp cnt) (hc_n1 sp (hp_a tk i) need) (upd node sp (nI i)) (upd dep i (nI (sp + 1))) (upd par i (hc_p1 sp node)))
    (hx : ∀ sp cnt need node dep par, Inv N sp cnt need node dep par → ((nI sp ≤ 0 → ((nI cnt ≤ 8 → ∃ n162 : Nat, wY_compile_162 post (nI cnt) (nI N) yr ym yo yrk yrv ypn yf yd ya yac yw yv y1 y2 y3 tk tv pk pv gk gv gh need node dep par lk lv lh yH yPk yPv yPh yM yA wt wa ws wb wx vk vv vh n162 0) ∧ (¬ nI cnt ≤ 8 → post 3 (nI N, yr, ym, yo, yrk, yrv, ypn, yf, yd, ya, yac, yw, yv, y1, y2, y3, tk, tv, pk, pv, gk, gv, gh, need, node, dep, par, lk, lv, lh, yH, yPk, yPv, yPh, yM, yA, wt, wa, ws, wb, wx, vk, vv, vh)))) ∧ (¬ nI sp ≤ 0 → post 2 (nI N, yr, ym, yo, yrk, yrv, ypn, yf, yd, ya, yac, yw, yv, y1, y2, y3, tk, tv, pk, pv, gk, gv, gh, need, node, dep, par, lk, lv, lh, yH, yPk, yPv, yPh, yM, yA, wt, wa, ws, wb, wx, vk, vv, vh)))) :
    ∀ d i sp cnt (cn cd cD cP : Nat → Int32), i + d = N → Inv i sp cnt cn cd cD cP → wY_compile_25 post (nI N) yr ym yo yrk yrv ypn yf yd ya yac yw yv y1 y2 y3 (d + 1) (nI sp) (nI cnt) (nI i) tk tv pk pv gk gv gh cn cd cD cP lk lv lh yH yPk yPv yPh yM yA wt wa ws wb wx vk vv vh := by
  intro d
  induction d with
  | zero =>
    intro i sp cnt cn cd cD cP hi H
    have e : i = N := by omega
    subst e
    exact br_t (nI_le (Nat.le_refl _) (by omega)) (hx sp cnt cn cd cD cP H)
  | succ d ih =>
    intro i sp cnt cn cd cD cP hi H
    obtain ⟨b1, b2⟩ := hb _ _ _ _ _ _ _ H
    have w := ih (i + 1) _ _ _ _ _ _ (by omega) (hs i sp cnt cn cd cD cP (by omega) H)
    obtain ⟨k, k1, k2⟩ := hp_k hT (show i < N by omega)
    have ea : hp_a tk i = hc_ar (nI k) := by unfold hp_a; rw [k2]
    have ei : (nI i).toNatClampNeg = i := nI_clamp (by omega)
    have es : (nI sp).toNatClampNeg = sp := nI_clamp (by omega)
    have ii : vp_in (nI i) 128 := vp_in_nI (by omega) (by omega)
    have is : vp_in (nI sp) 128 := vp_in_nI (by omega) (by omega)
    have T85 : ∀ (c' z0 : Int32) (cn' : Nat → Int32), c' = nI (hc_c1 sp cnt) → z0 = hc_p1 sp cd → upd cn' sp (nI (hp_a tk i)) = hc_n1 sp (hp_a tk i) cn → wY_compile_85 post (wY_compile_25 post (nI N) yr ym yo yrk yrv ypn yf yd ya yac yw yv y1 y2 y3 (d + 1)) (nI sp) c' (nI i) z0 (nI i) (nI N) yr ym yo yrk yrv ypn yf yd ya yac yw yv y1 y2 y3 tk tv pk pv gk gv gh cn' cd (upd cD i (nI (sp + 1))) cP lk lv lh yH yPk yPv yPh yM yA wt wa ws wb wx vk vv vh := by
      intro c' z0 cn' hc hz hn
      subst hc hz
      refine And.intro ii (nm_r (show _ = upd cP i (hc_p1 sp cd) by rw [ei]) (br_f (nI_ge (b := 128) (by omega) (by decide)) ⟨ii, ?_⟩))
      rw [ei, k2]
      refine wy_arity k1 ⟨is, nm_r (show _ = hc_n1 sp (hp_a tk i) cn by rw [es, ← ea]; exact hn) ⟨is, nm_r (show _ = upd cd sp (nI i) by rw [es]) (nm_r (nI_1 sp) ⟨sp + 1 + 1, ?_⟩)⟩⟩
      refine yc_pop (sp + 1) (by omega) ?_
      rw [nI_1 i]; exact w
    refine br_f (nI_ge (by omega) (by omega)) ?_
    cases sp with
    | zero =>
      refine br_t (by decide) (nm_r (nI_1 cnt) ⟨ii, nm_r (show _ = upd cD i (nI (0 + 1)) by rw [ei]; rfl) (br_t (by decide) ?_)⟩)
      exact T85 _ _ _ (by rw [show hc_c1 0 cnt = cnt + 1 from if_neg (by omega)]) (show (-1 : Int32) = hc_p1 0 cd from (if_neg (by omega)).symm) (by unfold hc_n1; rw [if_neg (by omega)])
    | succ s =>
      have e : nI (s + 1) - 1 = nI s := nI_pred s
      have e2 : (nI s).toNatClampNeg = s := nI_clamp (by omega)
      have ip : vp_in (nI s) 128 := vp_in_nI (by omega) (by omega)
      refine br_f (nI_nle (by omega) (by omega)) ⟨by rw [e]; exact ip, by rw [e]; exact ip, nm_r (show _ = upd cn s (cn s - 1) by rw [e, e2]) ⟨ii, nm_r (show _ = upd cD i (nI (s + 1 + 1)) by rw [ei, nI_1]) (br_f (nI_nle (by omega) (by omega)) ⟨by rw [e]; exact ip, ?_⟩)⟩⟩
      exact T85 _ _ _ (by rw [show hc_c1 (s + 1) cnt = cnt from if_pos (by omega)]) (by rw [e, e2]; exact (if_pos (Nat.succ_pos s)).symm) (by unfold hc_n1; rw [if_pos (by omega)]; rfl)
/-! the checks of Y -/
theorem yc_292 {c : Int32} (hN : N ≤ 128) (h1 : (∃ j, j < N ∧ tk j = 15 ∧ ¬ tv j < c) → post 6 (nI N, yr, ym, yo, yrk, yrv, ypn, yf, yd, ya, yac, yw, yv, y1, y2, y3, tk, tv, pk, pv, gk, gv, gh, cn, cd, cD, cP, lk, lv, lh, yH, yPk, yPv, yPh, yM, yA, wt, wa, ws, wb, wx, vk, vv, vh)) (h0 : (∀ j, j < N → tk j = 15 → tv j < c) → post 0 (nI N, 1, c, yo, yrk, yrv, ypn, yf, yd, ya, yac, yw, yv, y1, y2, y3, tk, tv, pk, pv, gk, gv, gh, cn, cd, cD, cP, lk, lv, lh, yH, yPk, yPv, yPh, yM, yA, wt, wa, ws, wb, wx, vk, vv, vh)) : ∃ n292, wY_compile_292 post c (nI N) yr ym yo yrk yrv ypn yf yd ya yac yw yv y1 y2 y3 tk tv pk pv gk gv gh cn cd cD cP lk lv lh yH yPk yPv yPh yM yA wt wa ws wb wx vk vv vh n292 0 := by
  have key : ∀ d i, i + d = N → (∀ j, j < i → tk j = 15 → tv j < c) → wY_compile_292 post c (nI N) yr ym yo yrk yrv ypn yf yd ya yac yw yv y1 y2 y3 tk tv pk pv gk gv gh cn cd cD cP lk lv lh yH yPk yPv yPh yM yA wt wa ws wb wx vk vv vh (d + 1) (nI i) := by
    intro d
    induction d with
    | zero =>
      intro i hi H
      have e : i = N := by omega
      subst e
      exact br_t (nI_le (Nat.le_refl _) (by omega)) (h0 H)
    | succ d ih =>
      intro i hi H
      have e1 : (nI i).toNatClampNeg = i := nI_clamp (by omega)
      have i1 : vp_in (nI i) 128 := vp_in_nI (by omega) (by omega)
      refine br_f (nI_ge (by omega) (by omega)) ⟨i1, ?_⟩
      rw [e1]
      by_cases z : tk i = 15
      · refine br_t z ⟨i1, ?_⟩
        by_cases y : tv i < c
        · exact br_t y (nm_r (nI_1 i) (ih (i + 1) (by omega) (lt_s (p := fun j => tk j = 15 → tv j < c) H (fun _ => y))))
        · exact br_f y (h1 ⟨i, by omega, z, y⟩)
      · exact br_f z (nm_r (nI_1 i) (ih (i + 1) (by omega) (lt_s (p := fun j => tk j = 15 → tv j < c) H (fun x => absurd x z))))
  exact ⟨N + 1, key N 0 (by omega) (fun j hj => by omega)⟩
/-- up the parents of token j -/
theorem yc_226 {J191 : Int32 → Prop} {x2 x3 : Int32} {F : Nat → Prop} (hN : N ≤ 128) (hF : ∀ j, j < N → (cP j = -1 ∧ ¬ F j) ∨ (∃ t, t < j ∧ cP j = nI t ∧ (F j ↔ (F t ∨ tk t = 13)))) : ∀ d j c, j ≤ d → j < N → c + j ≤ 128 → (F j → wY_compile_277 post J191 x2 x3 1 (nI N) yr ym yo yrk yrv ypn yf yd ya yac yw yv y1 y2 y3 tk tv pk pv gk gv gh cn cd cD cP lk lv lh yH yPk yPv yPh yM yA wt wa ws wb wx vk vv vh) → (¬ F j → wY_compile_277 post J191 x2 x3 0 (nI N) yr ym yo yrk yrv ypn yf yd ya yac yw yv y1 y2 y3 tk tv pk pv gk gv gh cn cd cD cP lk lv lh yH yPk yPv yPh yM yA wt wa ws wb wx vk vv vh) → wY_compile_226 post J191 x2 x3 (nI N) yr ym yo yrk yrv ypn yf yd ya yac yw yv y1 y2 y3 tk tv pk pv gk gv gh cn cd cD cP lk lv lh yH yPk yPv yPh yM yA wt wa ws wb wx vk vv vh (d + 2) (cP j) 0 (nI c) := by
  intro d
  induction d with
  | zero =>
    intro j c hj hjN hc h1 h0
    rcases hF j hjN with ⟨e, nf⟩ | ⟨t, ht, -⟩
    · rw [e]
      by_cases z : c = 128
      · subst z; exact br_t (by decide) (h0 nf)
      · exact br_f (nI_ge (b := 128) (by omega) (by decide)) (br_t (by decide) (h0 nf))
    · omega
  | succ d ih =>
    intro j c hj hjN hc h1 h0
    rcases hF j hjN with ⟨e, nf⟩ | ⟨t, ht, e, hf⟩
    · rw [e]
      by_cases z : c = 128
      · subst z; exact br_t (by decide) (h0 nf)
      · exact br_f (nI_ge (b := 128) (by omega) (by decide)) (br_t (by decide) (h0 nf))
    · have e1 : (nI t).toNatClampNeg = t := nI_clamp (by omega)
      have i1 : vp_in (nI t) 128 := vp_in_nI (by omega) (by omega)
      rw [e]
      refine br_f (nI_ge (b := 128) (by omega) (by decide)) (br_f (nI_pos (by omega)) (br_t rfl ⟨i1, ?_⟩))
      rw [e1]
      by_cases z : tk t = 13
      · refine br_t z (nm_r (nI_1 c) ?_)
        have q := h1 (hf.mpr (Or.inr z))
        by_cases y : c + 1 = 128
        · rw [y]; exact br_t (by decide) q
        · exact br_f (nI_ge (b := 128) (by omega) (by decide)) (br_f (nI_pos (by omega)) (br_f (by decide) q))
      · exact br_f z ⟨i1, nm_r rfl (nm_r (nI_1 c) (ih t (c + 1) (by omega) (by omega) (by omega) (fun x => h1 (hf.mpr (Or.inl x))) (fun x => h0 (fun y => (hf.mp y).elim x z))))⟩
theorem yc_191 {c : Int32} {F : Nat → Prop} (hN : N ≤ 128) (hF : ∀ j, j < N → (cP j = -1 ∧ ¬ F j) ∨ (∃ t, t < j ∧ cP j = nI t ∧ (F j ↔ (F t ∨ tk t = 13)))) (h1 : (∃ j, j < N ∧ tk j = 5 ∧ ¬ F j) → post 5 (nI N, yr, ym, yo, yrk, yrv, ypn, yf, yd, ya, yac, yw, yv, y1, y2, y3, tk, tv, pk, pv, gk, gv, gh, cn, cd, cD, cP, lk, lv, lh, yH, yPk, yPv, yPh, yM, yA, wt, wa, ws, wb, wx, vk, vv, vh)) (h0 : (∀ j, j < N → tk j = 5 → F j) → ∃ n292, wY_compile_292 post c (nI N) yr ym yo yrk yrv ypn yf yd ya yac yw yv y1 y2 y3 tk tv pk pv gk gv gh cn cd cD cP lk lv lh yH yPk yPv yPh yM yA wt wa ws wb wx vk vv vh n292 0) : ∃ n191, wY_compile_191 post c (nI N) yr ym yo yrk yrv ypn yf yd ya yac yw yv y1 y2 y3 tk tv pk pv gk gv gh cn cd cD cP lk lv lh yH yPk yPv yPh yM yA wt wa ws wb wx vk vv vh n191 0 := by
  have key : ∀ d i, i + d = N → (∀ j, j < i → tk j = 5 → F j) → wY_compile_191 post c (nI N) yr ym yo yrk yrv ypn yf yd ya yac yw yv y1 y2 y3 tk tv pk pv gk gv gh cn cd cD cP lk lv lh yH yPk yPv yPh yM yA wt wa ws wb wx vk vv vh (d + 1) (nI i) := by
    intro d
    induction d with
    | zero =>
      intro i hi H
      have e : i = N := by omega
      subst e
      exact br_t (nI_le (Nat.le_refl _) (by omega)) (h0 H)
    | succ d ih =>
      intro i hi H
      have e1 : (nI i).toNatClampNeg = i := nI_clamp (by omega)
      have i1 : vp_in (nI i) 128 := vp_in_nI (by omega) (by omega)
      refine br_f (nI_ge (by omega) (by omega)) ⟨i1, ?_⟩
      rw [e1]
      by_cases z : tk i = 5
      · refine br_t z ⟨i1, nm_e ⟨i + 2, ?_⟩⟩
        refine yc_226 hN hF i i 0 (Nat.le_refl _) (by omega) (by omega) (fun x => ?_) (fun x => ?_)
        · exact br_f (by decide) (nm_r (nI_1 i) (ih (i + 1) (by omega) (lt_s (p := fun j => tk j = 5 → F j) H (fun _ => x))))
        · exact br_t rfl (h1 ⟨i, by omega, z, x⟩)
      · exact br_f z (nm_r (nI_1 i) (ih (i + 1) (by omega) (lt_s (p := fun j => tk j = 5 → F j) H (fun x => absurd x z))))
  exact ⟨N + 1, key N 0 (by omega) (fun j hj => by omega)⟩
theorem yc_162 {c : Int32} (hN : N ≤ 128) (h1 : (∃ j, j < N ∧ ¬ cD j ≤ 8) → post 4 (nI N, yr, ym, yo, yrk, yrv, ypn, yf, yd, ya, yac, yw, yv, y1, y2, y3, tk, tv, pk, pv, gk, gv, gh, cn, cd, cD, cP, lk, lv, lh, yH, yPk, yPv, yPh, yM, yA, wt, wa, ws, wb, wx, vk, vv, vh)) (h0 : (∀ j, j < N → cD j ≤ 8) → ∃ n191, wY_compile_191 post c (nI N) yr ym yo yrk yrv ypn yf yd ya yac yw yv y1 y2 y3 tk tv pk pv gk gv gh cn cd cD cP lk lv lh yH yPk yPv yPh yM yA wt wa ws wb wx vk vv vh n191 0) : ∃ n162, wY_compile_162 post c (nI N) yr ym yo yrk yrv ypn yf yd ya yac yw yv y1 y2 y3 tk tv pk pv gk gv gh cn cd cD cP lk lv lh yH yPk yPv yPh yM yA wt wa ws wb wx vk vv vh n162 0 := by
  have key : ∀ d i, i + d = N → (∀ j, j < i → cD j ≤ 8) → wY_compile_162 post c (nI N) yr ym yo yrk yrv ypn yf yd ya yac yw yv y1 y2 y3 tk tv pk pv gk gv gh cn cd cD cP lk lv lh yH yPk yPv yPh yM yA wt wa ws wb wx vk vv vh (d + 1) (nI i) := by
    intro d
    induction d with
    | zero =>
      intro i hi H
      have e : i = N := by omega
      subst e
      exact br_t (nI_le (Nat.le_refl _) (by omega)) (h0 H)
    | succ d ih =>
      intro i hi H
      have e1 : (nI i).toNatClampNeg = i := nI_clamp (by omega)
      refine br_f (nI_ge (by omega) (by omega)) ⟨vp_in_nI (by omega) (by omega), ?_⟩
      rw [e1]
      by_cases z : cD i ≤ 8
      · exact br_t z (nm_r (nI_1 i) (ih (i + 1) (by omega) (lt_s H z)))
      · exact br_f z (h1 ⟨i, by omega, z⟩)
  exact ⟨N + 1, key N 0 (by omega) (fun j hj => by omega)⟩
end
end
section
section
variable {yn yr ym yo yrk yrv ypn yf yd ya yac yw yv y1 y2 y3 : Int32} {tk tv pk pv gk gv gh cn cd cD cP lk lv lh yH yPk yPv yPh yM yA wt wa ws wb wx vk vv vh : Nat → Int32} {post : Int32 → SY → Prop} {N : Nat} {f : Nat → Nat}
theorem yc_ok (hN : N ≤ 128) (h0 : 0 < N) (hT : hp_T tk tv N) (L : hc_Lk (hp_a tk) f 0 N)
    (hx : ∀ cnt need node dep par, hc_Ok (hp_a tk) f N 0 cnt need node dep par → hc_it f cnt 0 = N → ((nI cnt ≤ 8 → ∃ n162 : Nat, wY_compile_162 post (nI cnt) (nI N) 0 0 yo yrk yrv ypn yf yd ya yac yw yv y1 y2 y3 tk tv pk pv gk gv gh need node dep par lk lv lh yH yPk yPv yPh yM yA wt wa ws wb wx vk vv vh n162 0) ∧ (¬ nI cnt ≤ 8 → post 3 (nI N, 0, 0, yo, yrk, yrv, ypn, yf, yd, ya, yac, yw, yv, y1, y2, y3, tk, tv, pk, pv, gk, gv, gh, need, node, dep, par, lk, lv, lh, yH, yPk, yPv, yPh, yM, yA, wt, wa, ws, wb, wx, vk, vv, vh)))) : wpY_compile post (nI N, yr, ym, yo, yrk, yrv, ypn, yf, yd, ya, yac, yw, yv, y1, y2, y3, tk, tv, pk, pv, gk, gv, gh, cn, cd, cD, cP, lk, lv, lh, yH, yPk, yPv, yPh, yM, yA, wt, wa, ws, wb, wx, vk, vv, vh) := by
  unfold wpY_compile
  refine br_f (nI_ne0 h0 (by omega)) ⟨N + 1, ?_⟩
  refine yc_scan hN hT (hc_Ok (hp_a tk) f) (fun i sp cnt need node dep par H => ⟨H.1, H.2.2.2.2.2.1⟩) (fun i sp cnt need node dep par hi H => hc_Ok_s (fun t => hc_ar3 _) L hi H) (fun sp cnt need node dep par H => ?_) N 0 0 0 cn cd cD cP (by omega) hc_Ok_0
  obtain ⟨e1, e2⟩ := hc_Ok_e L H
  subst e1
  exact br_t (by decide) (hx cnt need node dep par H e2)
theorem yc_bad {t0 q0 : Nat} (hN : N ≤ 128) (h0 : 0 < N) (hT : hp_T tk tv N) (ht : t0 < N) (L : hc_Lk (hp_a tk) f (t0 + 1) N) (hq : q0 < hp_a tk t0) (hq2 : N ≤ hc_it f q0 (t0 + 1))
    (hx : ∀ need node dep par, post 2 (nI N, 0, 0, yo, yrk, yrv, ypn, yf, yd, ya, yac, yw, yv, y1, y2, y3, tk, tv, pk, pv, gk, gv, gh, need, node, dep, par, lk, lv, lh, yH, yPk, yPv, yPh, yM, yA, wt, wa, ws, wb, wx, vk, vv, vh)) : wpY_compile post (nI N, yr, ym, yo, yrk, yrv, ypn, yf, yd, ya, yac, yw, yv, y1, y2, y3, tk, tv, pk, pv, gk, gv, gh, cn, cd, cD, cP, lk, lv, lh, yH, yPk, yPv, yPh, yM, yA, wt, wa, ws, wb, wx, vk, vv, vh) := by
  unfold wpY_compile
  refine br_f (nI_ne0 h0 (by omega)) ⟨N + 1, ?_⟩
  refine yc_scan hN hT (fun i sp cnt need node dep _ => hc_Bad (hp_a tk) f t0 q0 i sp need node dep ∧ cnt ≤ i) (fun i sp cnt need node dep par H => ⟨H.1.1, H.2⟩) (fun i sp cnt need node dep par hi H => ⟨hc_Bad_s (fun t => hc_ar3 _) L hq hq2 hi H.1, ?_⟩) (fun sp cnt need node dep par H => ?_) N 0 0 0 cn cd cD cP (by omega) ⟨hc_Bad_0, Nat.le_refl _⟩
  · have := H.2
    unfold hc_c1
    split <;> omega
  · have p := hc_Bad_e ht H.1
    have b := H.1.1
    exact br_f (nI_nle p (by omega)) (hx need node dep par)
end
theorem yc_facts {tk dp ib need node dep par : Nat → Int32} {f : Nat → Nat} {N e : Nat} (Pl : hc_Pl tk f e N dp ib) (ok : hc_Ok (hp_a tk) f N 0 e need node dep par) :
    (∀ j, j < N → dep j = dp j) ∧ (∀ j, j < N → (par j = -1 ∧ ¬ ib j ≠ 0) ∨ (∃ t, t < j ∧ par j = nI t ∧ (ib j ≠ 0 ↔ (ib t ≠ 0 ∨ tk t = 13)))) := by
  obtain ⟨b1, b2, b3, b4, b5, b6, b7⟩ := ok
  constructor
  · have key : ∀ n j, j < n → j < N → dep j = dp j := by
      intro n
      induction n with
      | zero => intro j h; omega
      | succ n ih =>
        intro j hj hN
        rcases b5 j hN with ⟨k, k1, k2, k3, k4⟩ | ⟨t, d, t1, t2, t3, t4, t5⟩
        · rw [k3, k2]; exact (Pl.1 k k1).1.symm
        · have i := ih t (by omega) (by omega)
          rw [t5, (Pl.2 t (by omega) j t2).1, ← i, t4, nI_1]
    exact fun j hj => key (j + 1) j (Nat.lt_succ_self j) hj
  · intro j hN
    rcases b5 j hN with ⟨k, k1, k2, k3, k4⟩ | ⟨t, d, t1, t2, t3, t4, t5⟩
    · refine Or.inl ⟨k4, fun x => x ?_⟩
      rw [k2]; exact (Pl.1 k k1).2
    · refine Or.inr ⟨t, t1, t3, ?_⟩
      rw [(Pl.2 t (by omega) j t2).2]
      unfold hc_ib
      by_cases z : ib t ≠ 0 ∨ tk t = 13
      · rw [if_pos z]; exact ⟨fun _ => z, fun _ => by decide⟩
      · rw [if_neg z]; exact ⟨fun x => absurd rfl x, fun x => absurd x z⟩
theorem yc_G {tk tv dp ib need node dep par : Nat → Int32} {f : Nat → Nat} {N e : Nat} (hN : N ≤ 128) (h0 : 0 < N) (hT : hp_T tk tv N) (L : hc_Lk (hp_a tk) f 0 N) (he : e ≤ 8) (r1 : hc_it f e 0 = N) (r2 : ∀ k, k < e → hc_it f k 0 < N) (Pl : hc_Pl tk f e N dp ib) (ok : hc_Ok (hp_a tk) f N 0 e need node dep par)
    (hd : ∀ j, j < N → dp j ≤ 8) (hp : ∀ j, j < N → tk j = 5 → ib j ≠ 0) (hc : ∀ j, j < N → tk j = 15 → tv j < nI e) : hp_G tk tv N f (fun j => (dp j).toNatClampNeg) (fun j => decide (¬ ib j = 0)) e := by
  obtain ⟨fe, -⟩ := yc_facts Pl ok
  have b7 := ok.2.2.2.2.2.2
  have e1 : 1 ≤ e := by
    rcases Nat.eq_zero_or_pos e with z | z
    · rw [z] at r1
      have : (0 : Nat) = N := r1
      omega
    · exact z
  refine ⟨hN, L, fun t ht => ?_, fun t ht c hch => ?_, fun m hm => ⟨r2 m hm, ?_⟩, fun t ht h5 => ?_, fun t ht h15 => ?_, hT, e1, he⟩
  · obtain ⟨d, d1, d2, d3⟩ := b7 t ht
    have x := hd t ht
    rw [← fe t ht, d3] at x
    have x8 : d ≤ 8 := (nI_leI (b := 8) (by omega) (by decide)).mp x
    show 1 ≤ (dp t).toNatClampNeg ∧ (dp t).toNatClampNeg ≤ 8
    rw [← fe t ht, d3, nI_clamp (by omega)]
    exact ⟨d1, x8⟩
  · obtain ⟨d, d1, d2, d3⟩ := b7 t ht
    obtain ⟨p1, p2⟩ := Pl.2 t ht c hch
    rw [← fe t ht, d3, nI_1] at p1
    refine ⟨?_, fun h13 hB => ?_⟩
    · show (dp c).toNatClampNeg = (dp t).toNatClampNeg + 1
      rw [p1, ← fe t ht, d3, nI_clamp (by omega), nI_clamp (by omega)]
    · have z : ib t = 0 := by
        have := of_decide_eq_false hB
        exact Decidable.of_not_not this
      have w : ib c = 0 := by
        rw [p2]; unfold hc_ib; rw [if_neg (fun x => x.elim (fun y => y z) h13)]
      exact decide_eq_false (fun x => x w)
  · exact decide_eq_false (fun x => x (Pl.1 m hm).2)
  · exact decide_eq_true (hp t ht h5)
  · obtain ⟨k, k1, k2, -, -, k5⟩ := hT t ht
    have kk : k = 15 := by
      rw [k2] at h15
      exact (nI_eq (b := 15) (by omega) (by decide)).mp h15
    obtain ⟨j, j1, j2⟩ := k5 kk
    have x := hc t ht h15
    rw [j2] at x
    exact ⟨j, (nI_ltI (by omega) (by omega)).mp x, j2⟩
theorem i_vc_compile {k : Nat} {u : SX} {v : SY} (I : i_Rel k u v) (hk : k + 3 ≤ 1536) : wpX_compile (fun r u' => wpY_compile (fun r' v' => r' = r ∧ i_Rel (k + 3) u' v') v) u := by
  obtain ⟨xn, xm, xo, xr, xpn, xf, xd, xa, xh, xp, xt, xv, xy, tk, tv, af, dp, ib, ms, pr, gl, aH, aP, aB, lo, hP, pT, pL, pV⟩ := u
  obtain ⟨yn, yr, ym, yo, yrk, yrv, ypn, yf, yd, ya, yac, yw, yv, y1, y2, y3, tk2, tv2, pk, pv, gk, gv, gh, cn, cd, cD, cP, lk, lv, lh, yH, yPk, yPv, yPh, yM, yA, wt, wa, ws, wb, wx, vk, vv, vh⟩ := v
  have I' := I
  obtain ⟨N, mc, pn, rfl, rfl, hN, rfl, rfl, hT, rfl, hm8, hG, rfl, rfl, rfl, hr, rfl, rfl, hpn, hp, hg⟩ := I
  by_cases z : N = 0
  · subst z
    exact br_t rfl (br_t rfl (And.intro rfl (hr_R_mk (N := 0) (mc := 0) hN hT (by omega) (Or.inl ⟨rfl, rfl⟩) hr hpn hp hg)))
  · have h0 : 0 < N := by omega
    unfold wpX_compile
    refine br_f (nI_ne0 h0 (by omega)) ?_
    refine wx_link hN hT (fun f af' t0 q0 h1 h2 h3 h4 => ?_) (fun f af' L haf => ?_)
    · refine br_t rfl ?_
      refine yc_bad hN h0 hT h1 h2 h3 h4 (fun need node dep par => ?_)
      exact And.intro rfl (hr_R_mk (mc := 0) hN hT (by omega) (Or.inl ⟨rfl, rfl⟩) hr hpn hp hg)
    · refine br_f (by decide) ?_
      refine wx_roots hN L haf (fun e dp1 ib1 ms1 r1 r2 r3 r4 r5 => ?_)
      by_cases e8 : e ≤ 8
      · refine br_t (nI_le (b := 8) e8 (by decide)) ?_
        refine wx_opers hN hT L haf r2 r5 (fun dp2 ib2 Pl => ?_)
        have cc : ∀ cnt need node dep par, hc_Ok (hp_a tk2) f N 0 cnt need node dep par → hc_it f cnt 0 = N → cnt = e := fun cnt need node dep par ok it => hc_cnt it (fun k hk => ok.2.2.2.1 k hk) r1 r2
        refine wx_deep hN (fun hd => ?_) (fun hd => ?_)
        · refine br_f (by decide) ?_
          refine yc_ok hN h0 hT L (fun cnt need node dep par ok it => ?_)
          have ce := cc cnt need node dep par ok it
          subst ce
          obtain ⟨fe, ff⟩ := yc_facts Pl ok
          refine br_t (nI_le (b := 8) e8 (by decide)) (yc_162 hN (fun _ => ?_) (fun y => ?_))
          · exact And.intro rfl (hr_R_mk (mc := 0) hN hT (by omega) (Or.inl ⟨rfl, rfl⟩) hr hpn hp hg)
          · obtain ⟨j, j1, j2⟩ := hd
            exact absurd (by rw [← fe j j1]; exact y j j1) j2
        · refine br_t rfl ?_
          refine wx_par hN (fun hq => ?_) (fun hq => ?_)
          · refine br_f (by decide) ?_
            refine yc_ok hN h0 hT L (fun cnt need node dep par ok it => ?_)
            have ce := cc cnt need node dep par ok it
            subst ce
            obtain ⟨fe, ff⟩ := yc_facts Pl ok
            refine br_t (nI_le (b := 8) e8 (by decide)) (yc_162 hN (fun y => ?_) (fun _ => yc_191 (F := fun j => ib2 j ≠ 0) hN ff (fun _ => ?_) (fun y => ?_)))
            · obtain ⟨j, j1, j2⟩ := y
              exact absurd (by rw [fe j j1]; exact hd j j1) j2
            · exact And.intro rfl (hr_R_mk (mc := 0) hN hT (by omega) (Or.inl ⟨rfl, rfl⟩) hr hpn hp hg)
            · obtain ⟨j, j1, j2, j3⟩ := hq
              exact absurd j3 (y j j1 j2)
          · refine br_t rfl ?_
            refine wx_calls hN (fun hk2 => ?_) (fun hk2 => ?_)
            · refine br_f (by decide) ?_
              refine yc_ok hN h0 hT L (fun cnt need node dep par ok it => ?_)
              have ce := cc cnt need node dep par ok it
              subst ce
              obtain ⟨fe, ff⟩ := yc_facts Pl ok
              refine br_t (nI_le (b := 8) e8 (by decide)) (yc_162 hN (fun y => ?_) (fun _ => yc_191 (F := fun j => ib2 j ≠ 0) hN ff (fun y => ?_) (fun _ => yc_292 hN (fun _ => ?_) (fun y => ?_))))
              · obtain ⟨j, j1, j2⟩ := y
                exact absurd (by rw [fe j j1]; exact hd j j1) j2
              · obtain ⟨j, j1, j2, j3⟩ := y
                exact absurd (hq j j1 j2) j3
              · exact And.intro rfl (hr_R_mk (mc := 0) hN hT (by omega) (Or.inl ⟨rfl, rfl⟩) hr hpn hp hg)
              · obtain ⟨j, j1, j2, j3⟩ := hk2
                exact absurd (y j j1 j2) j3
            · refine br_t rfl ?_
              refine yc_ok hN h0 hT L (fun cnt need node dep par ok it => ?_)
              have ce := cc cnt need node dep par ok it
              subst ce
              obtain ⟨fe, ff⟩ := yc_facts Pl ok
              refine br_t (nI_le (b := 8) e8 (by decide)) (yc_162 hN (fun y => ?_) (fun _ => yc_191 (F := fun j => ib2 j ≠ 0) hN ff (fun y => ?_) (fun _ => yc_292 hN (fun y => ?_) (fun _ => ?_))))
              · obtain ⟨j, j1, j2⟩ := y
                exact absurd (by rw [fe j j1]; exact hd j j1) j2
              · obtain ⟨j, j1, j2, j3⟩ := y
                exact absurd (hq j j1 j2) j3
              · obtain ⟨j, j1, j2, j3⟩ := y
                exact absurd (hk2 j j1 j2) j3
              · exact And.intro rfl (hr_R_mk hN hT e8 (Or.inr ⟨rfl, rfl, f, _, _, yc_G hN h0 hT L e8 r1 r2 Pl ok hd hq hk2, haf, fun m hm => r4 m hm (by omega)⟩) hr hpn hp hg)
      · refine br_f (nI_ge (a := 8) (by omega) (by omega)) ?_
        refine yc_ok hN h0 hT L (fun cnt need node dep par ok it => ?_)
        have ce : cnt = e := hc_cnt it (fun k hk => ok.2.2.2.1 k hk) r1 r2
        subst ce
        refine br_f (nI_ge (a := 8) (by omega) (by omega)) ?_
        exact And.intro rfl (hr_R_mk (mc := 0) hN hT (by omega) (Or.inl ⟨rfl, rfl⟩) hr hpn hp hg)
end
