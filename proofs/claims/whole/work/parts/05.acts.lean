/-! activations: na active in X at the places 0 .. na - 1; A: their numbers in Y; nh homes of X, H: their numbers in Y; M: is it a method's; an: activations made in Y -/
def hs_A (V : Int64 → Int32 → Int32 → Int32 → Prop) (na nh an : Nat) (A H : Nat → Nat) (M : Nat → Bool) (xH : Nat → Int32) (xP : Nat → Int64) (hP yH yPk yPv yPh yM yA : Nat → Int32) : Prop :=
  (∀ q, q < na → A q < an ∧ yA (A q) = 1 ∧ ∃ h, h < nh ∧ xH q = nI h ∧ yH (A q) = nI (H h) ∧ ((M q = true ∧ yM (A q) = 1 ∧ H h = A q) ∨ (M q = false ∧ yM (A q) = 0 ∧ V (xP q) (yPk (A q)) (yPv (A q)) (yPh (A q))))) ∧
  (∀ p q, p < q → q < na → A p < A q) ∧
  (∀ h, h < nh → H h < an ∧ ((∃ p, p < na ∧ M p = true ∧ hP h = nI p ∧ A p = H h) ∨ (hP h = -1 ∧ yA (H h) = 0))) ∧
  (∀ g h, g < h → h < nh → H g < H h) ∧
  (∀ m, m < an → yA m = 0 ∨ ∃ q, q < na ∧ A q = m)
section
variable {V V' : Int64 → Int32 → Int32 → Int32 → Prop} {na nh an : Nat} {A H : Nat → Nat} {M : Nat → Bool} {xH : Nat → Int32} {xP : Nat → Int64} {hP hP' yH yPk yPv yPh yM yA yA' : Nat → Int32}
theorem hs_H_inj (h4 : ∀ g h, g < h → h < nh → H g < H h) {g h : Nat} (hg : g < nh) (hh : h < nh) (e : H g = H h) : g = h := by
  rcases Nat.lt_trichotomy g h with z | z | z
  · have := h4 g h z hh; omega
  · exact z
  · have := h4 h g z hg; omega
theorem hs_A_V (hV : ∀ x k v h, V x k v h → V' x k v h) (a : hs_A V na nh an A H M xH xP hP yH yPk yPv yPh yM yA) : hs_A V' na nh an A H M xH xP hP yH yPk yPv yPh yM yA := by
  obtain ⟨a1, a2, a3, a4, a5⟩ := a
  refine ⟨fun q hq => ?_, a2, a3, a4, a5⟩
  obtain ⟨b1, b2, h, b3, b4, b5, b6⟩ := a1 q hq
  exact ⟨b1, b2, h, b3, b4, b5, b6.imp id (fun c => ⟨c.1, c.2.1, hV _ _ _ _ c.2.2⟩)⟩
/-- the activations from place p on have ended -/
theorem hs_A_cut (a : hs_A V na nh an A H M xH xP hP yH yPk yPv yPh yM yA) {p : Nat} (hp : p < na)
    (y0 : ∀ m, A p ≤ m → m < an → yA' m = 0) (y1 : ∀ m, m < A p → yA' m = yA m)
    (x0 : ∀ h, h < nh → hP' h = hP h ∨ hP' h = -1) (x1 : ∀ h r, h < nh → r < p → hP h = nI r → hP' h = hP h) (x2 : ∀ h r, h < nh → p ≤ r → r < na → M r = true → A r = H h → hP h = nI r → hP' h = -1) :
    hs_A V p nh an A H M xH xP hP' yH yPk yPv yPh yM yA' := by
  obtain ⟨a1, a2, a3, a4, a5⟩ := a
  have mono : ∀ i, p ≤ i → i < na → A p ≤ A i := fun i h1 h2 => by
    rcases Nat.lt_or_ge p i with z | z
    · exact Nat.le_of_lt (a2 p i z h2)
    · have e : p = i := by omega
      rw [e]; exact Nat.le_refl _
  refine ⟨fun q hq => ?_, fun i j h1 h2 => a2 i j h1 (by omega), fun h hh => ?_, a4, fun m hm => ?_⟩
  · obtain ⟨b1, b2, b3⟩ := a1 q (by omega)
    exact ⟨b1, by rw [y1 _ (a2 q p hq hp)]; exact b2, b3⟩
  · obtain ⟨b1, b2⟩ := a3 h hh
    refine ⟨b1, ?_⟩
    rcases b2 with ⟨r, r1, r2, r3, r4⟩ | ⟨r1, r2⟩
    · rcases Nat.lt_or_ge r p with z | z
      · exact Or.inl ⟨r, z, r2, by rw [x1 h r hh z r3]; exact r3, r4⟩
      · exact Or.inr ⟨x2 h r hh z r1 r2 r4 r3, y0 _ (by rw [← r4]; exact mono r z r1) b1⟩
    · refine Or.inr ⟨(x0 h hh).elim (fun e => e.trans r1) id, ?_⟩
      rcases Nat.lt_or_ge (H h) (A p) with z | z
      · rw [y1 _ z]; exact r2
      · exact y0 _ z b1
  · rcases Nat.lt_or_ge m (A p) with z | z
    · rw [y1 m z]
      rcases a5 m hm with e | ⟨q, q1, q2⟩
      · exact Or.inl e
      · refine Or.inr ⟨q, ?_, q2⟩
        rcases Nat.lt_or_ge q p with y | y
        · exact y
        · have := mono q y q1; omega
    · exact Or.inl (y0 m z hm)
/-- a method starts -/
theorem hs_A_meth (a : hs_A V na nh an A H M xH xP hP yH yPk yPv yPh yM yA) {k v h : Int32} :
    hs_A V (na + 1) (nh + 1) (an + 1) (gu A na an) (gu H nh an) (gu M na true) (upd xH na (nI nh)) xP (upd hP nh (nI na)) (upd yH an (nI an)) (upd yPk an k) (upd yPv an v) (upd yPh an h) (upd yM an 1) (upd yA an 1) := by
  obtain ⟨a1, a2, a3, a4, a5⟩ := a
  refine ⟨fun q hq => ?_, fun i j h1 h2 => ?_, fun h hh => ?_, fun g h h1 h2 => ?_, fun m hm => ?_⟩
  · by_cases e : q = na
    · subst e
      refine ⟨by rw [gu_s]; omega, by rw [gu_s, pk_us], nh, by omega, by rw [pk_us], by rw [gu_s, pk_us, gu_s], Or.inl ⟨gu_s, by rw [gu_s, pk_us], by rw [gu_s, gu_s]⟩⟩
    · obtain ⟨b1, b2, h, b3, b4, b5, b6⟩ := a1 q (by omega)
      have n1 : A q ≠ an := by omega
      rw [gu_n e]
      refine ⟨by omega, by rw [pk_un n1]; exact b2, h, by omega, by rw [pk_un e]; exact b4, by rw [pk_un n1, gu_n (by omega)]; exact b5, ?_⟩
      rw [gu_n e, pk_un n1, gu_n (by omega), pk_un n1, pk_un n1, pk_un n1]
      exact b6
  · by_cases e : j = na
    · subst e
      rw [gu_s, gu_n (by omega)]
      exact (a1 i (by omega)).1
    · rw [gu_n e, gu_n (by omega)]
      exact a2 i j h1 (by omega)
  · by_cases e : h = nh
    · subst e
      exact ⟨by rw [gu_s]; omega, Or.inl ⟨na, by omega, gu_s, pk_us, by rw [gu_s, gu_s]⟩⟩
    · obtain ⟨b1, b2⟩ := a3 h (by omega)
      rw [gu_n e, pk_un e]
      refine ⟨by omega, b2.imp (fun ⟨r, r1, r2, r3, r4⟩ => ⟨r, by omega, by rw [gu_n (by omega)]; exact r2, r3, by rw [gu_n (by omega)]; exact r4⟩) (fun ⟨r1, r2⟩ => ⟨r1, by rw [pk_un (by omega)]; exact r2⟩)⟩
  · by_cases e : h = nh
    · subst e
      rw [gu_s, gu_n (by omega)]
      exact (a3 g (by omega)).1
    · rw [gu_n e, gu_n (by omega)]
      exact a4 g h h1 (by omega)
  · by_cases e : m = an
    · subst e
      exact Or.inr ⟨na, by omega, gu_s⟩
    · rw [pk_un e]
      exact (a5 m (by omega)).imp id (fun ⟨q, q1, q2⟩ => ⟨q, by omega, by rw [gu_n (by omega)]; exact q2⟩)
/-- a block starts, its home is X's home h0 -/
theorem hs_A_block (a : hs_A V na nh an A H M xH xP hP yH yPk yPv yPh yM yA) {h0 : Nat} (hh0 : h0 < nh) {x : Int64} {k v h : Int32} (hx : V x k v h) :
    hs_A V (na + 1) nh (an + 1) (gu A na an) H (gu M na false) (upd xH na (nI h0)) (vp_updL xP na x) hP (upd yH an (nI (H h0))) (upd yPk an k) (upd yPv an v) (upd yPh an h) (upd yM an 0) (upd yA an 1) := by
  obtain ⟨a1, a2, a3, a4, a5⟩ := a
  refine ⟨fun q hq => ?_, fun i j h1 h2 => ?_, fun h hh => ?_, a4, fun m hm => ?_⟩
  · by_cases e : q = na
    · subst e
      refine ⟨by rw [gu_s]; omega, by rw [gu_s, pk_us], h0, hh0, by rw [pk_us], by rw [gu_s, pk_us], Or.inr ⟨gu_s, by rw [gu_s, pk_us], ?_⟩⟩
      rw [gu_s, pk_us, pk_us, pk_us, pk_uLs]
      exact hx
    · obtain ⟨b1, b2, h, b3, b4, b5, b6⟩ := a1 q (by omega)
      have n1 : A q ≠ an := by omega
      rw [gu_n e]
      refine ⟨by omega, by rw [pk_un n1]; exact b2, h, by omega, by rw [pk_un e]; exact b4, by rw [pk_un n1]; exact b5, ?_⟩
      rw [gu_n e, pk_un n1, pk_un n1, pk_un n1, pk_un n1, pk_uLn e]
      exact b6
  · by_cases e : j = na
    · subst e
      rw [gu_s, gu_n (by omega)]
      exact (a1 i (by omega)).1
    · rw [gu_n e, gu_n (by omega)]
      exact a2 i j h1 (by omega)
  · obtain ⟨b1, b2⟩ := a3 h hh
    refine ⟨by omega, b2.imp (fun ⟨r, r1, r2, r3, r4⟩ => ⟨r, by omega, by rw [gu_n (by omega)]; exact r2, r3, by rw [gu_n (by omega)]; exact r4⟩) (fun ⟨r1, r2⟩ => ⟨r1, by rw [pk_un (by omega)]; exact r2⟩)⟩
  · by_cases e : m = an
    · subst e
      exact Or.inr ⟨na, by omega, gu_s⟩
    · rw [pk_un e]
      exact (a5 m (by omega)).imp id (fun ⟨q, q1, q2⟩ => ⟨q, by omega, by rw [gu_n (by omega)]; exact q2⟩)
end
/-! the locals -/
def hs_L (V : Int64 → Int32 → Int32 → Int32 → Prop) (nh : Nat) (H : Nat → Nat) (xL : Nat → Int64) (lk lv lh : Nat → Int32) : Prop := ∀ h, h < nh → ∀ j, j < 4 → V (xL (h * 4 + j)) (lk (H h * 4 + j)) (lv (H h * 4 + j)) (lh (H h * 4 + j))
theorem hs_L_set {V : Int64 → Int32 → Int32 → Int32 → Prop} {nh : Nat} {H : Nat → Nat} {xL : Nat → Int64} {lk lv lh : Nat → Int32} (l : hs_L V nh H xL lk lv lh) (h4 : ∀ g h, g < h → h < nh → H g < H h) {h0 j0 : Nat} (hh : h0 < nh) (hj : j0 < 4) {x : Int64} {k v h : Int32} (hx : V x k v h) :
    hs_L V nh H (vp_updL xL (h0 * 4 + j0) x) (upd lk (H h0 * 4 + j0) k) (upd lv (H h0 * 4 + j0) v) (upd lh (H h0 * 4 + j0) h) := by
  intro h1 hh1 j hj1
  by_cases e : h1 = h0 ∧ j = j0
  · obtain ⟨rfl, rfl⟩ := e
    rw [pk_us, pk_us, pk_us, pk_uLs]; exact hx
  · have n1 : h1 * 4 + j ≠ h0 * 4 + j0 := fun z => e ⟨by omega, by omega⟩
    have n2 : H h1 * 4 + j ≠ H h0 * 4 + j0 := fun z => e ⟨hs_H_inj h4 hh1 hh (by omega), by omega⟩
    rw [pk_un n2, pk_un n2, pk_un n2, pk_uLn n1]
    exact l h1 hh1 j hj1
