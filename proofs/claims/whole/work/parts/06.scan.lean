/-! the reference's forward scan: its stack beside the tree -/
def hc_pp (need : Nat → Int32) : Nat → Nat
  | 0 => 0
  | s + 1 => if need s = 0 then hc_pp need s else s + 1
theorem hc_pp_le (need : Nat → Int32) : ∀ s, hc_pp need s ≤ s
  | 0 => Nat.le_refl _
  | s + 1 => by
    have := hc_pp_le need s
    simp only [hc_pp]
    split <;> omega
/-- the stack from place k0 on: s entries; g is where the next child of the topmost entry is due -/
def hc_Sk (a f : Nat → Nat) (R : Nat → Prop) (k0 lo i : Nat) (need node dep : Nat → Int32) : Nat → Nat → Prop
  | 0, g => R g
  | s + 1, g => ∃ t m, need (k0 + s) = nI m ∧ node (k0 + s) = nI t ∧ lo ≤ t ∧ t < i ∧ m ≤ a t ∧ g = hc_it f (a t - m) (t + 1) ∧ dep t = nI (k0 + s + 1) ∧ hc_Sk a f R k0 lo i need node dep s (f t)
section
variable {a f : Nat → Nat} {R R' : Nat → Prop} {k0 lo i N : Nat} {need node dep need' node' dep' : Nat → Int32}
theorem hc_Sk_fr (hR : ∀ g, R g → R' g) {i' : Nat} (hi : i ≤ i') : ∀ s g, hc_Sk a f R k0 lo i need node dep s g → (∀ k, k < k0 + s → k0 ≤ k → need' k = need k ∧ node' k = node k) → (∀ j, j < i → dep' j = dep j) → hc_Sk a f R' k0 lo i' need' node' dep' s g
  | 0, g, h, _, _ => hR g h
  | s + 1, g, h, e1, e2 => by
    obtain ⟨t, m, h1, h2, h3, h4, h5, h6, h7, h8⟩ := h
    obtain ⟨y1, y2⟩ := e1 (k0 + s) (by omega) (by omega)
    exact ⟨t, m, by rw [y1]; exact h1, by rw [y2]; exact h2, h3, by omega, h5, h6, by rw [e2 t h4]; exact h7, hc_Sk_fr hR hi s (f t) h8 (fun k k1 k2 => e1 k (by omega) k2) e2⟩
/-- finished entries are taken off -/
theorem hc_Sk_pp (L : ∀ t, lo ≤ t → t < i → f t = hc_it f (a t) (t + 1)) (h3 : ∀ t, lo ≤ t → t < i → a t ≤ 3) (hR : ∀ s, R s → ∀ k, k0 = k + 1 → need k ≠ 0) : ∀ s g, hc_Sk a f R k0 lo i need node dep s g → ∃ s', s' ≤ s ∧ hc_pp need (k0 + s) = k0 + s' ∧ hc_Sk a f R k0 lo i need node dep s' g ∧ (∀ k, k0 + s' = k + 1 → need k ≠ 0)
  | 0, g, h => by
    refine ⟨0, Nat.le_refl _, ?_, h, fun k hk => hR g h k hk⟩
    cases k0 with
    | zero => rfl
    | succ k => show hc_pp need (k + 1) = k + 1; simp only [hc_pp]; rw [if_neg (hR g h k rfl)]
  | s + 1, g, h => by
    by_cases z : need (k0 + s) = 0
    · obtain ⟨t, m, h1, h2, h3', h4, h5, h6, h7, h8⟩ := h
      have m0 : m = 0 := by
        have b := h3 t h3' h4
        rw [h1] at z
        rcases Nat.eq_zero_or_pos m with y | y
        · exact y
        · exact absurd z (nI_ne0 y (by omega))
      subst m0
      have e : g = f t := by rw [h6, L t h3' h4]; rfl
      rw [e]
      obtain ⟨s', i1, i2, i3, i4⟩ := hc_Sk_pp L h3 hR s (f t) h8
      refine ⟨s', by omega, ?_, i3, i4⟩
      show hc_pp need (k0 + s + 1) = _
      simp only [hc_pp]
      rw [if_pos z]; exact i2
    · refine ⟨s + 1, Nat.le_refl _, ?_, h, fun k hk => ?_⟩
      · show hc_pp need (k0 + s + 1) = _
        simp only [hc_pp]
        rw [if_neg z]; rfl
      · have : k = k0 + s := by omega
        rw [this]; exact z
end
/-- one token of the scan: what the loop's body leaves, before entries are taken off -/
def hc_n1 (sp ai : Nat) (need : Nat → Int32) : Nat → Int32 := upd (if 0 < sp then upd need (sp - 1) (need (sp - 1) - 1) else need) sp (nI ai)
section
variable {a f : Nat → Nat} {R R' : Nat → Prop} {k0 lo i N : Nat} {need node dep : Nat → Int32}
/-- a token under the topmost entry -/
theorem hc_Sk_in (h3 : ∀ t, a t ≤ 3) (hR : ∀ g, R g → R' g) {s : Nat} (h : hc_Sk a f R k0 lo i need node dep (s + 1) i) (hlo : lo ≤ i) (hz : need (k0 + s) ≠ 0) {di : Int32} (hdi : di = nI (k0 + s + 1 + 1)) :
    hc_Sk a f R' k0 lo (i + 1) (hc_n1 (k0 + s + 1) (a i) need) (upd node (k0 + s + 1) (nI i)) (upd dep i di) (s + 2) (i + 1) ∧ ∃ t, lo ≤ t ∧ t < i ∧ hc_Ch a f t i ∧ node (k0 + s) = nI t ∧ dep t = nI (k0 + s + 1) := by
  obtain ⟨t, m, h1, h2, g3, h4, h5, h6, h7, h8⟩ := h
  have m0 : 0 < m := by
    rcases Nat.eq_zero_or_pos m with y | y
    · rw [h1, y, nI_0] at hz; exact absurd rfl hz
    · exact y
  obtain ⟨m1, rfl⟩ : ∃ m1, m = m1 + 1 := ⟨m - 1, by omega⟩
  refine ⟨⟨i, a i, ?_, ?_, hlo, by omega, Nat.le_refl _, by rw [Nat.sub_self]; rfl, ?_, ?_⟩, t, g3, h4, ⟨a t - (m1 + 1), by omega, h6⟩, h2, h7⟩
  · exact pk_us
  · exact pk_us
  · rw [pk_us]; exact hdi
  · refine ⟨t, m1, ?_, ?_, g3, by omega, by omega, ?_, ?_, ?_⟩
    · unfold hc_n1
      rw [pk_un (by omega), if_pos (by omega)]
      show upd need (k0 + s) _ (k0 + s) = _
      rw [pk_us]
      show need (k0 + s) - 1 = _
      rw [h1, nI_pred]
    · rw [pk_un (by omega)]; exact h2
    · have e : a t - m1 = a t - (m1 + 1) + 1 := by omega
      rw [e, hc_it_s, ← h6]
    · rw [pk_un (by omega)]; exact h7
    · refine hc_Sk_fr hR (Nat.le_succ i) s (f t) h8 (fun k k1 k2 => ⟨?_, ?_⟩) (fun j hj => pk_un (by omega))
      · unfold hc_n1
        rw [pk_un (by omega), if_pos (by omega)]
        exact pk_un (by omega)
      · exact pk_un (by omega)
/-- a token right above the base -/
theorem hc_Sk_base (hR : R' (f i)) (hlo : lo ≤ i) {di : Int32} (hdi : di = nI (k0 + 1)) :
    hc_Sk a f R' k0 lo (i + 1) (hc_n1 k0 (a i) need) (upd node k0 (nI i)) (upd dep i di) 1 (i + 1) := by
  refine ⟨i, a i, ?_, ?_, hlo, by omega, Nat.le_refl _, by rw [Nat.sub_self]; rfl, ?_, hR⟩
  · exact pk_us
  · exact pk_us
  · rw [pk_us]; exact hdi
end
