/-- the arity of a kind -/
def hc_ar (k : Int32) : Nat := if k = 0 ∨ k = 1 ∨ k = 3 ∨ k = 5 then 0 else if k = 10 then 3 else if k = 6 ∨ k = 7 ∨ k = 8 ∨ k = 9 ∨ k = 11 ∨ k = 14 then 2 else 1
def hs_bin (k : Int32) : Prop := k = 6 ∨ k = 7 ∨ k = 8 ∨ k = 9 ∨ k = 14
/-! the stack of entries of Y (w*, v*) beside the pending tokens of X (p*): n entries, all of them waiting; p pending tokens; q the place of the activation on top; vb values below; w the steps that are left at most -/
def hs_S (V : Int64 → Int32 → Int32 → Int32 → Prop) (tk : Nat → Int32) (N : Nat) (f D : Nat → Nat) (B : Nat → Bool) (A : Nat → Nat) (M : Nat → Bool) (xB pT pL : Nat → Int32) (pV : Nat → Int64) (wt wa ws wb wx vk vv vh : Nat → Int32) : Nat → Nat → Nat → Nat → Nat → Prop
  | 0, p, q, vb, w => p = 0 ∧ q = 0 ∧ vb = 0 ∧ w = 0 ∧ xB 0 = nI 0
  | n + 1, p, q, vb, w => ∃ t p' q' vb' w', hs_S V tk N f D B A M xB pT pL pV wt wa ws wb wx vk vv vh n p' q' vb' w' ∧ t < N ∧ wt n = nI t ∧ wa n = nI (A q') ∧ wb n = nI vb' ∧ n < 8 * q' + D t ∧ (M q' = true → B t = false) ∧
    ((ws n = 1 ∧ 1 ≤ hc_ar (tk t) ∧ tk t ≠ 13 ∧ p = p' + 1 ∧ q = q' ∧ vb = vb' ∧ w = w' + (3 + 4 * (f t - f (t + 1))) ∧ pT p' = nI t ∧ pL p' = 0) ∨
     (ws n = 2 ∧ hs_bin (tk t) ∧ p = p' + 1 ∧ q = q' ∧ vb = vb' + 1 ∧ w = w' + 2 ∧ pT p' = nI t ∧ pL p' = 1 ∧ V (pV p') (vk vb') (vv vb') (vh vb')) ∨
     (ws n = 2 ∧ tk t = 11 ∧ p = p' ∧ q = q' ∧ vb = vb' + 1 ∧ w = w' + 2) ∨
     (ws n = 2 ∧ tk t = 10 ∧ p = p' ∧ q = q' ∧ vb = vb' ∧ w = w' + 1) ∨
     (p = p' ∧ q = q' + 1 ∧ vb = vb' ∧ w = w' + 1 ∧ wx n = nI (A q) ∧ xB q = nI p ∧ ((ws n = 2 ∧ tk t = 15 ∧ M q = true) ∨ (ws n = 3 ∧ tk t = 14 ∧ M q = false))))
section
variable {V V' : Int64 → Int32 → Int32 → Int32 → Prop} {tk : Nat → Int32} {N : Nat} {f D : Nat → Nat} {B : Nat → Bool} {A A' : Nat → Nat} {M M' : Nat → Bool} {xB pT pL xB' pT' pL' : Nat → Int32} {pV pV' : Nat → Int64} {wt wa ws wb wx vk vv vh wt' wa' ws' wb' wx' vk' vv' vh' : Nat → Int32}
theorem hs_S_bd (hD : ∀ t, t < N → D t ≤ 8) : ∀ n p q vb w, hs_S V tk N f D B A M xB pT pL pV wt wa ws wb wx vk vv vh n p q vb w → p ≤ n ∧ vb ≤ n ∧ n ≤ 8 * q + 8 ∧ (0 < n → n ≤ 8 * q + 8) ∧ ∃ b, xB q = nI b ∧ b ≤ p
  | 0, p, q, vb, w, h => by
    obtain ⟨rfl, rfl, rfl, -, h0⟩ := h
    exact ⟨Nat.le_refl _, Nat.le_refl _, by omega, by omega, 0, h0, Nat.le_refl _⟩
  | n + 1, p, q, vb, w, h => by
    obtain ⟨t, p', q', vb', w', S, ht, -, -, -, hn, -, h⟩ := h
    have d := hD t ht
    obtain ⟨i1, i2, i3, -, b, b1, b2⟩ := hs_S_bd hD n p' q' vb' w' S
    rcases h with ⟨-, -, -, rfl, rfl, rfl, -⟩ | ⟨-, -, rfl, rfl, rfl, -⟩ | ⟨-, -, rfl, rfl, rfl, -⟩ | ⟨-, -, rfl, rfl, rfl, -⟩ | ⟨rfl, rfl, rfl, -, -, hx, -⟩
    · exact ⟨by omega, by omega, by omega, by omega, b, b1, by omega⟩
    · exact ⟨by omega, by omega, by omega, by omega, b, b1, by omega⟩
    · exact ⟨by omega, by omega, by omega, by omega, b, b1, by omega⟩
    · exact ⟨by omega, by omega, by omega, by omega, b, b1, by omega⟩
    · exact ⟨by omega, by omega, by omega, by omega, p, hx, Nat.le_refl _⟩
theorem hs_S_fr (hV : ∀ x k v h, V x k v h → V' x k v h) : ∀ n p q vb w, hs_S V tk N f D B A M xB pT pL pV wt wa ws wb wx vk vv vh n p q vb w →
    (∀ j, j < n → wt' j = wt j ∧ wa' j = wa j ∧ ws' j = ws j ∧ wb' j = wb j ∧ wx' j = wx j) → (∀ j, j < p → pT' j = pT j ∧ pL' j = pL j ∧ pV' j = pV j) → (∀ j, j < vb → vk' j = vk j ∧ vv' j = vv j ∧ vh' j = vh j) → (∀ j, j ≤ q → xB' j = xB j ∧ A' j = A j ∧ M' j = M j) →
    hs_S V' tk N f D B A' M' xB' pT' pL' pV' wt' wa' ws' wb' wx' vk' vv' vh' n p q vb w
  | 0, p, q, vb, w, h, e1, e2, e3, e4 => by
    obtain ⟨rfl, rfl, rfl, h4, h5⟩ := h
    exact ⟨rfl, rfl, rfl, h4, by rw [(e4 0 (Nat.le_refl _)).1]; exact h5⟩
  | n + 1, p, q, vb, w, h, e1, e2, e3, e4 => by
    obtain ⟨t, p', q', vb', w', S, ht, h1, h2, h3, hn, hM, h⟩ := h
    obtain ⟨w1, w2, w3, w4, w5⟩ := e1 n (Nat.lt_succ_self n)
    have X1 : wt' n = nI t := by rw [w1]; exact h1
    have X3 : wb' n = nI vb' := by rw [w4]; exact h3
    rcases h with ⟨a1, a2, a3, a4, a5, a6, a7, a8, a9⟩ | ⟨a1, a2, a3, a4, a5, a6, a7, a8, a9⟩ | ⟨a1, a2, a3, a4, a5, a6⟩ | ⟨a1, a2, a3, a4, a5, a6⟩ | ⟨a1, a2, a3, a4, a5, a6, a7⟩
    · have IH := hs_S_fr hV n p' q' vb' w' S (fun j hj => e1 j (by omega)) (fun j hj => e2 j (by omega)) (fun j hj => e3 j (by omega)) (fun j hj => e4 j (by omega))
      obtain ⟨u1, u2, u3⟩ := e2 p' (by omega)
      obtain ⟨y1, y2, y3⟩ := e4 q' (by omega)
      exact ⟨t, p', q', vb', w', IH, ht, X1, by rw [w2, y2]; exact h2, X3, hn, by rw [y3]; exact hM, Or.inl ⟨by rw [w3]; exact a1, a2, a3, a4, a5, a6, a7, by rw [u1]; exact a8, by rw [u2]; exact a9⟩⟩
    · have IH := hs_S_fr hV n p' q' vb' w' S (fun j hj => e1 j (by omega)) (fun j hj => e2 j (by omega)) (fun j hj => e3 j (by omega)) (fun j hj => e4 j (by omega))
      obtain ⟨u1, u2, u3⟩ := e2 p' (by omega)
      obtain ⟨y1, y2, y3⟩ := e4 q' (by omega)
      obtain ⟨z1, z2, z3⟩ := e3 vb' (by omega)
      exact ⟨t, p', q', vb', w', IH, ht, X1, by rw [w2, y2]; exact h2, X3, hn, by rw [y3]; exact hM, Or.inr (Or.inl ⟨by rw [w3]; exact a1, a2, a3, a4, a5, a6, by rw [u1]; exact a7, by rw [u2]; exact a8, by rw [u3, z1, z2, z3]; exact hV _ _ _ _ a9⟩)⟩
    · have IH := hs_S_fr hV n p' q' vb' w' S (fun j hj => e1 j (by omega)) (fun j hj => e2 j (by omega)) (fun j hj => e3 j (by omega)) (fun j hj => e4 j (by omega))
      obtain ⟨y1, y2, y3⟩ := e4 q' (by omega)
      exact ⟨t, p', q', vb', w', IH, ht, X1, by rw [w2, y2]; exact h2, X3, hn, by rw [y3]; exact hM, Or.inr (Or.inr (Or.inl ⟨by rw [w3]; exact a1, a2, a3, a4, a5, a6⟩))⟩
    · have IH := hs_S_fr hV n p' q' vb' w' S (fun j hj => e1 j (by omega)) (fun j hj => e2 j (by omega)) (fun j hj => e3 j (by omega)) (fun j hj => e4 j (by omega))
      obtain ⟨y1, y2, y3⟩ := e4 q' (by omega)
      exact ⟨t, p', q', vb', w', IH, ht, X1, by rw [w2, y2]; exact h2, X3, hn, by rw [y3]; exact hM, Or.inr (Or.inr (Or.inr (Or.inl ⟨by rw [w3]; exact a1, a2, a3, a4, a5, a6⟩)))⟩
    · have IH := hs_S_fr hV n p' q' vb' w' S (fun j hj => e1 j (by omega)) (fun j hj => e2 j (by omega)) (fun j hj => e3 j (by omega)) (fun j hj => e4 j (by omega))
      obtain ⟨y1, y2, y3⟩ := e4 q' (by omega)
      obtain ⟨x1, x2, x3⟩ := e4 q (Nat.le_refl _)
      exact ⟨t, p', q', vb', w', IH, ht, X1, by rw [w2, y2]; exact h2, X3, hn, by rw [y3]; exact hM, Or.inr (Or.inr (Or.inr (Or.inr ⟨a1, a2, a3, a4, by rw [w5, x2]; exact a5, by rw [x1]; exact a6, by rw [w3, x3]; exact a7⟩)))⟩
theorem hs_ne {a b : Nat} (h : a < b) (hb : b < 2 ^ 31) : nI a ≠ nI b := fun e => by
  rw [nI_eq (by omega) hb] at e; omega
/-- an entry that a return to the activation m passes over -/
def hs_no (tk : Nat → Int32) (N : Nat) (wt ws wx : Nat → Int32) (m j : Nat) : Prop := ∃ t, t < N ∧ wt j = nI t ∧ ¬ (tk t = 15 ∧ ws j = 2 ∧ wx j = nI m)
theorem hs_S_cut : ∀ n p q vb w, hs_S V tk N f D B A M xB pT pL pV wt wa ws wb wx vk vv vh n p q vb w → (∀ i j, i < j → j ≤ q → A i < A j) → (∀ j, j ≤ q → A j < 2 ^ 31) → ∀ r, r + 1 ≤ q →
    ∃ b p' vb' w' t, b < n ∧ hs_S V tk N f D B A M xB pT pL pV wt wa ws wb wx vk vv vh b p' r vb' w' ∧ w' + 1 ≤ w ∧ t < N ∧ wt b = nI t ∧ wb b = nI vb' ∧ vb' ≤ vb ∧ wx b = nI (A (r + 1)) ∧ xB (r + 1) = nI p' ∧ p' ≤ p ∧
      ((ws b = 2 ∧ tk t = 15 ∧ M (r + 1) = true) ∨ (ws b = 3 ∧ tk t = 14 ∧ M (r + 1) = false)) ∧ (∀ j, b < j → j < n → hs_no tk N wt ws wx (A (r + 1)) j)
  | 0, p, q, vb, w, h, _, _, r, hr => by
    obtain ⟨-, rfl, -⟩ := h
    omega
  | n + 1, p, q, vb, w, h, hA, hB, r, hr => by
    obtain ⟨t, p', q', vb', w', S, ht, h1, h2, h3, hn, hM, h⟩ := h
    have key : (hs_no tk N wt ws wx (A (r + 1)) n) → q = q' ∨ q = q' + 1 → r + 1 ≤ q' → w' ≤ w → p' ≤ p → vb' ≤ vb → ∃ b p' vb' w' t, b < n + 1 ∧ hs_S V tk N f D B A M xB pT pL pV wt wa ws wb wx vk vv vh b p' r vb' w' ∧ w' + 1 ≤ w ∧ t < N ∧ wt b = nI t ∧ wb b = nI vb' ∧ vb' ≤ vb ∧ wx b = nI (A (r + 1)) ∧ xB (r + 1) = nI p' ∧ p' ≤ p ∧
      ((ws b = 2 ∧ tk t = 15 ∧ M (r + 1) = true) ∨ (ws b = 3 ∧ tk t = 14 ∧ M (r + 1) = false)) ∧ (∀ j, b < j → j < n + 1 → hs_no tk N wt ws wx (A (r + 1)) j) := fun hno eq hr' hw hp hvb => by
      obtain ⟨b, p2, vb2, w2, t2, i1, i2, i3, i4, i5, i6, i7, i8, i9, i10, i11, i12⟩ := hs_S_cut n p' q' vb' w' S (fun i j h1 h2 => hA i j h1 (by omega)) (fun j h1 => hB j (by omega)) r hr'
      exact ⟨b, p2, vb2, w2, t2, by omega, i2, by omega, i4, i5, i6, by omega, i8, i9, by omega, i11, fun j j1 j2 => if e : j = n then e ▸ hno else i12 j j1 (by omega)⟩
    rcases h with ⟨a1, a2, a3, a4, a5, a6, a7, a8, a9⟩ | ⟨a1, a2, a3, a4, a5, a6, a7, a8, a9⟩ | ⟨a1, a2, a3, a4, a5, a6⟩ | ⟨a1, a2, a3, a4, a5, a6⟩ | ⟨a1, a2, a3, a4, a5, a6, a7⟩
    · exact key ⟨t, ht, h1, fun z => by rw [a1] at z; exact absurd z.2.1 (by decide)⟩ (Or.inl a5) (by omega) (by omega) (by omega) (by omega)
    · exact key ⟨t, ht, h1, fun z => by unfold hs_bin at a2; rw [z.1] at a2; exact absurd a2 (by decide)⟩ (Or.inl a4) (by omega) (by omega) (by omega) (by omega)
    · exact key ⟨t, ht, h1, fun z => by rw [z.1] at a2; exact absurd a2 (by decide)⟩ (Or.inl a4) (by omega) (by omega) (by omega) (by omega)
    · exact key ⟨t, ht, h1, fun z => by rw [z.1] at a2; exact absurd a2 (by decide)⟩ (Or.inl a4) (by omega) (by omega) (by omega) (by omega)
    · by_cases e : r + 1 = q
      · have e2 : q' = r := by omega
        subst e2
        subst e
        subst a1
        subst a3
        exact ⟨n, p, vb, w', t, Nat.lt_succ_self n, S, by omega, ht, h1, h3, Nat.le_refl _, a5, a6, Nat.le_refl _, a7, fun j j1 j2 => by omega⟩
      · exact key ⟨t, ht, h1, fun z => hs_ne (hA (r + 1) q (by omega) (Nat.le_refl _)) (hB q (Nat.le_refl _)) (z.2.2.symm.trans a5)⟩ (Or.inr a2) (by omega) (by omega) (by omega) (by omega)
theorem hs_S_root : ∀ n p q vb w, hs_S V tk N f D B A M xB pT pL pV wt wa ws wb wx vk vv vh n p q vb w → (∀ i j, i < j → j ≤ q → A i < A j) → (∀ j, j ≤ q → A j < 2 ^ 31) → ∀ j, j < n → hs_no tk N wt ws wx (A 0) j
  | 0, p, q, vb, w, h, _, _, j, hj => by omega
  | n + 1, p, q, vb, w, h, hA, hB, j, hj => by
    obtain ⟨t, p', q', vb', w', S, ht, h1, h2, h3, hn, hM, h⟩ := h
    have key : (hs_no tk N wt ws wx (A 0) n) → q' ≤ q → hs_no tk N wt ws wx (A 0) j := fun hno hq =>
      if e : j = n then e ▸ hno else hs_S_root n p' q' vb' w' S (fun i j h1 h2 => hA i j h1 (by omega)) (fun j h1 => hB j (by omega)) j (by omega)
    rcases h with ⟨a1, a2, a3, a4, a5, a6, a7, a8, a9⟩ | ⟨a1, a2, a3, a4, a5, a6, a7, a8, a9⟩ | ⟨a1, a2, a3, a4, a5, a6⟩ | ⟨a1, a2, a3, a4, a5, a6⟩ | ⟨a1, a2, a3, a4, a5, a6, a7⟩
    · exact key ⟨t, ht, h1, fun z => by rw [a1] at z; exact absurd z.2.1 (by decide)⟩ (by omega)
    · exact key ⟨t, ht, h1, fun z => by unfold hs_bin at a2; rw [z.1] at a2; exact absurd a2 (by decide)⟩ (by omega)
    · exact key ⟨t, ht, h1, fun z => by rw [z.1] at a2; exact absurd a2 (by decide)⟩ (by omega)
    · exact key ⟨t, ht, h1, fun z => by rw [z.1] at a2; exact absurd a2 (by decide)⟩ (by omega)
    · exact key ⟨t, ht, h1, fun z => hs_ne (hA 0 q (by omega) (Nat.le_refl _)) (hB q (Nat.le_refl _)) (z.2.2.symm.trans a5)⟩ (by omega)
end
