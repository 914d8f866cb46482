/-! a compiled program -/
def hp_a (tk : Nat → Int32) : Nat → Nat := fun i => hc_ar (tk i)
def hp_T (tk tv : Nat → Int32) (N : Nat) : Prop := ∀ t, t < N → ∃ k, k ≤ 16 ∧ tk t = nI k ∧ (k = 1 ∨ k = 2 → ∃ j, j < 4 ∧ tv t = nI j) ∧ (k = 3 ∨ k = 4 → ∃ j, j < 8 ∧ tv t = nI j) ∧ (k = 15 → ∃ j, j < 8 ∧ tv t = nI j)
def hp_G (tk tv : Nat → Int32) (N : Nat) (f D : Nat → Nat) (B : Nat → Bool) (mc : Nat) : Prop :=
  N ≤ 128 ∧ hc_Lk (hp_a tk) f 0 N ∧ (∀ t, t < N → 1 ≤ D t ∧ D t ≤ 8) ∧ (∀ t, t < N → ∀ c, hc_Ch (hp_a tk) f t c → D c = D t + 1 ∧ (tk t ≠ 13 → B t = false → B c = false)) ∧
  (∀ m, m < mc → hc_it f m 0 < N ∧ B (hc_it f m 0) = false) ∧ (∀ t, t < N → tk t = 5 → B t = true) ∧ (∀ t, t < N → tk t = 15 → ∃ m, m < mc ∧ tv t = nI m) ∧ hp_T tk tv N ∧ 1 ≤ mc ∧ mc ≤ 8
theorem hc_ar3 (k : Int32) : hc_ar k ≤ 3 := by
  unfold hc_ar
  split
  · omega
  · split
    · omega
    · split <;> omega
section
variable {tk tv : Nat → Int32} {N : Nat} {f D : Nat → Nat} {B : Nat → Bool} {mc : Nat}
theorem hp_c (G : hp_G tk tv N f D B mc) {t c : Nat} (ht : t < N) (h : hc_Ch (hp_a tk) f t c) : c < N ∧ t < c ∧ c < f c ∧ f c ≤ f t ∧ f t ≤ N ∧ D c = D t + 1 ∧ (tk t ≠ 13 → B t = false → B c = false) := by
  obtain ⟨g1, g2, g3, g4, -⟩ := G
  have b := hc_Ch_lt g2 (Nat.zero_le _) ht h
  have c := g4 t ht _ h
  have d := hc_lt g2 (Nat.zero_le _) ht
  exact ⟨b.2.1, b.1, b.2.2.1, b.2.2.2, d.2, c.1, c.2⟩
theorem hp_1 (G : hp_G tk tv N f D B mc) {t : Nat} (ht : t < N) (ha : 1 ≤ hc_ar (tk t)) : t + 1 < N ∧ t < t + 1 ∧ t + 1 < f (t + 1) ∧ f (t + 1) ≤ f t ∧ f t ≤ N ∧ D (t + 1) = D t + 1 ∧ (tk t ≠ 13 → B t = false → B (t + 1) = false) := hp_c G ht ⟨0, ha, rfl⟩
theorem hp_2 (G : hp_G tk tv N f D B mc) {t : Nat} (ht : t < N) (ha : 2 ≤ hc_ar (tk t)) : f (t + 1) < N ∧ t < f (t + 1) ∧ f (t + 1) < f (f (t + 1)) ∧ f (f (t + 1)) ≤ f t ∧ f t ≤ N ∧ D (f (t + 1)) = D t + 1 ∧ (tk t ≠ 13 → B t = false → B (f (t + 1)) = false) := hp_c G ht ⟨1, ha, rfl⟩
theorem hp_3 (G : hp_G tk tv N f D B mc) {t : Nat} (ht : t < N) (ha : 3 ≤ hc_ar (tk t)) : f (f (t + 1)) < N ∧ t < f (f (t + 1)) ∧ f (f (t + 1)) < f (f (f (t + 1))) ∧ f (f (f (t + 1))) ≤ f t ∧ f t ≤ N ∧ D (f (f (t + 1))) = D t + 1 ∧ (tk t ≠ 13 → B t = false → B (f (f (t + 1))) = false) := hp_c G ht ⟨2, ha, rfl⟩
theorem hp_lt (G : hp_G tk tv N f D B mc) {t : Nat} (ht : t < N) : t < f t ∧ f t ≤ N := hc_lt G.2.1 (Nat.zero_le _) ht
theorem hp_f (G : hp_G tk tv N f D B mc) {t : Nat} (ht : t < N) : f t = hc_it f (hc_ar (tk t)) (t + 1) := (G.2.1 t (Nat.zero_le _) ht).2
theorem hp_f0 (G : hp_G tk tv N f D B mc) {t : Nat} (ht : t < N) (ha : hc_ar (tk t) = 0) : f t = t + 1 := by rw [hp_f G ht, ha]; rfl
theorem hp_f1 (G : hp_G tk tv N f D B mc) {t : Nat} (ht : t < N) (ha : hc_ar (tk t) = 1) : f t = f (t + 1) := by rw [hp_f G ht, ha]; rfl
theorem hp_f2 (G : hp_G tk tv N f D B mc) {t : Nat} (ht : t < N) (ha : hc_ar (tk t) = 2) : f t = f (f (t + 1)) := by rw [hp_f G ht, ha]; rfl
theorem hp_f3 (G : hp_G tk tv N f D B mc) {t : Nat} (ht : t < N) (ha : hc_ar (tk t) = 3) : f t = f (f (f (t + 1))) := by rw [hp_f G ht, ha]; rfl
end
theorem hc_ar_k {k : Nat} (hk : k ≤ 16) : hc_ar (nI k) = if k = 0 ∨ k = 1 ∨ k = 3 ∨ k = 5 then 0 else if k = 10 then 3 else if k = 6 ∨ k = 7 ∨ k = 8 ∨ k = 9 ∨ k = 11 ∨ k = 14 then 2 else 1 := by
  have h : ∀ k, k < 17 → hc_ar (nI k) = if k = 0 ∨ k = 1 ∨ k = 3 ∨ k = 5 then 0 else if k = 10 then 3 else if k = 6 ∨ k = 7 ∨ k = 8 ∨ k = 9 ∨ k = 11 ∨ k = 14 then 2 else 1 := by decide +kernel
  exact h k (by omega)
/-! what one Y entry more means -/
def hs_T (N : Nat) (D : Nat → Nat) (B : Nat → Bool) (A : Nat → Nat) (M : Nat → Bool) (wt wa ws wb : Nat → Int32) (n q vb t : Nat) : Prop :=
  t < N ∧ wt n = nI t ∧ wa n = nI (A q) ∧ ws n = 0 ∧ wb n = nI vb ∧ n < 8 * q + D t ∧ (M q = true → B t = false)
