/-! the moves of the machine on the stack -/
section
variable {V V' : Int64 → Int32 → Int32 → Int32 → Prop} {tk tv : Nat → Int32} {N mc : Nat} {f D : Nat → Nat} {B : Nat → Bool} {A : Nat → Nat} {M : Nat → Bool} {xB pT pL : Nat → Int32} {pV : Nat → Int64} {wt wa ws wb wx vk vv vh : Nat → Int32} {n p q vb w t : Nat}
/-- a value is laid on top -/
theorem hs_t_v (S : hs_S V tk N f D B A M xB pT pL pV wt wa ws wb wx vk vv vh n p q vb w) (a b c : Int32) : hs_S V tk N f D B A M xB pT pL pV wt wa ws wb wx (upd vk vb a) (upd vv vb b) (upd vh vb c) n p q vb w :=
  hs_S_fr (fun _ _ _ _ h => h) n p q vb w S (fun _ _ => ⟨rfl, rfl, rfl, rfl, rfl⟩) (fun _ _ => ⟨rfl, rfl, rfl⟩) (fun j hj => ⟨pk_un (by omega), pk_un (by omega), pk_un (by omega)⟩) (fun _ _ => ⟨rfl, rfl, rfl⟩)
/-- the first operand is begun -/
theorem hs_t_a (G : hp_G tk tv N f D B mc) (S : hs_S V tk N f D B A M xB pT pL pV wt wa ws wb wx vk vv vh n p q vb w) (T : hs_T N D B A M wt wa ws wb n q vb t) (ha : 1 ≤ hc_ar (tk t)) (hk : tk t ≠ 13) :
    hs_S V tk N f D B A M xB (upd pT p (nI t)) (upd pL p 0) pV (upd wt (n + 1) (nI (t + 1))) (upd wa (n + 1) (nI (A q))) (upd (upd ws n 1) (n + 1) 0) (upd wb (n + 1) (nI vb)) (upd wx (n + 1) 0) vk vv vh (n + 1) (p + 1) q vb (w + (3 + 4 * (f t - f (t + 1)))) ∧
    hs_T N D B A M (upd wt (n + 1) (nI (t + 1))) (upd wa (n + 1) (nI (A q))) (upd (upd ws n 1) (n + 1) 0) (upd wb (n + 1) (nI vb)) (n + 1) q vb (t + 1) := by
  obtain ⟨t1, t2, t3, t4, t5, t6, t7⟩ := T
  have c := hp_1 G t1 ha
  refine ⟨⟨t, p, q, vb, w, hs_S_fr (fun _ _ _ _ h => h) n p q vb w S (fun j hj => ⟨pk_un (by omega), pk_un (by omega), by rw [pk_un (by omega), pk_un (by omega)], pk_un (by omega), pk_un (by omega)⟩) (fun j hj => ⟨pk_un (by omega), pk_un (by omega), rfl⟩) (fun _ _ => ⟨rfl, rfl, rfl⟩) (fun _ _ => ⟨rfl, rfl, rfl⟩),
    t1, by rw [pk_un (by omega)]; exact t2, by rw [pk_un (by omega)]; exact t3, by rw [pk_un (by omega)]; exact t5, t6, t7, Or.inl ⟨by rw [pk_un (by omega), pk_us], ha, hk, rfl, rfl, rfl, rfl, pk_us, pk_us⟩⟩, ?_⟩
  exact ⟨c.1, pk_us, pk_us, pk_us, pk_us, by omega, fun h => c.2.2.2.2.2.2 hk (t7 h)⟩
/-- the second operand of a token that keeps the first -/
theorem hs_t_2 (G : hp_G tk tv N f D B mc) (S : hs_S V tk N f D B A M xB pT pL pV wt wa ws wb wx vk vv vh n p q vb w) (t1 : t < N) (t2 : wt n = nI t) (t3 : wa n = nI (A q)) (t5 : wb n = nI vb) (t6 : n < 8 * q + D t) (t7 : M q = true → B t = false) (t8 : pT p = nI t) (ha : 2 ≤ hc_ar (tk t)) (hk : hs_bin (tk t)) {x : Int64} (hx : V x (vk vb) (vv vb) (vh vb)) :
    hs_S V tk N f D B A M xB pT (upd pL p 1) (vp_updL pV p x) (upd wt (n + 1) (nI (f (t + 1)))) (upd wa (n + 1) (nI (A q))) (upd (upd ws n 2) (n + 1) 0) (upd wb (n + 1) (nI (vb + 1))) (upd wx (n + 1) 0) vk vv vh (n + 1) (p + 1) q (vb + 1) (w + 2) ∧
    hs_T N D B A M (upd wt (n + 1) (nI (f (t + 1)))) (upd wa (n + 1) (nI (A q))) (upd (upd ws n 2) (n + 1) 0) (upd wb (n + 1) (nI (vb + 1))) (n + 1) q (vb + 1) (f (t + 1)) := by
  have c := hp_2 G t1 ha
  have hk' : tk t ≠ 13 := fun e => by unfold hs_bin at hk; rw [e] at hk; exact absurd hk (by decide)
  refine ⟨⟨t, p, q, vb, w, hs_S_fr (fun _ _ _ _ h => h) n p q vb w S (fun j hj => ⟨pk_un (by omega), pk_un (by omega), by rw [pk_un (by omega), pk_un (by omega)], pk_un (by omega), pk_un (by omega)⟩) (fun j hj => ⟨rfl, pk_un (by omega), pk_uLn (by omega)⟩) (fun _ _ => ⟨rfl, rfl, rfl⟩) (fun _ _ => ⟨rfl, rfl, rfl⟩),
    t1, by rw [pk_un (by omega)]; exact t2, by rw [pk_un (by omega)]; exact t3, by rw [pk_un (by omega)]; exact t5, t6, t7, Or.inr (Or.inl ⟨by rw [pk_un (by omega), pk_us], hk, rfl, rfl, rfl, rfl, t8, pk_us, by rw [pk_uLs]; exact hx⟩)⟩, ?_⟩
  exact ⟨c.1, pk_us, pk_us, pk_us, pk_us, by omega, fun h => c.2.2.2.2.2.2 hk' (t7 h)⟩
/-- SEQ goes on with its second operand -/
theorem hs_t_s (G : hp_G tk tv N f D B mc) (S : hs_S V tk N f D B A M xB pT pL pV wt wa ws wb wx vk vv vh n p q vb w) (t1 : t < N) (t2 : wt n = nI t) (t3 : wa n = nI (A q)) (t5 : wb n = nI vb) (t6 : n < 8 * q + D t) (t7 : M q = true → B t = false) (hk : tk t = 11) :
    hs_S V tk N f D B A M xB pT pL pV (upd wt (n + 1) (nI (f (t + 1)))) (upd wa (n + 1) (nI (A q))) (upd (upd ws n 2) (n + 1) 0) (upd wb (n + 1) (nI (vb + 1))) (upd wx (n + 1) 0) vk vv vh (n + 1) p q (vb + 1) (w + 2) ∧
    hs_T N D B A M (upd wt (n + 1) (nI (f (t + 1)))) (upd wa (n + 1) (nI (A q))) (upd (upd ws n 2) (n + 1) 0) (upd wb (n + 1) (nI (vb + 1))) (n + 1) q (vb + 1) (f (t + 1)) := by
  have c := hp_2 G t1 (by rw [hk]; decide)
  have hk' : tk t ≠ 13 := by rw [hk]; decide
  refine ⟨⟨t, p, q, vb, w, hs_S_fr (fun _ _ _ _ h => h) n p q vb w S (fun j hj => ⟨pk_un (by omega), pk_un (by omega), by rw [pk_un (by omega), pk_un (by omega)], pk_un (by omega), pk_un (by omega)⟩) (fun _ _ => ⟨rfl, rfl, rfl⟩) (fun _ _ => ⟨rfl, rfl, rfl⟩) (fun _ _ => ⟨rfl, rfl, rfl⟩),
    t1, by rw [pk_un (by omega)]; exact t2, by rw [pk_un (by omega)]; exact t3, by rw [pk_un (by omega)]; exact t5, t6, t7, Or.inr (Or.inr (Or.inl ⟨by rw [pk_un (by omega), pk_us], hk, rfl, rfl, rfl, rfl⟩))⟩, ?_⟩
  exact ⟨c.1, pk_us, pk_us, pk_us, pk_us, by omega, fun h => c.2.2.2.2.2.2 hk' (t7 h)⟩
/-- IF goes on with a branch c -/
theorem hs_t_i (G : hp_G tk tv N f D B mc) (S : hs_S V tk N f D B A M xB pT pL pV wt wa ws wb wx vk vv vh n p q vb w) (t1 : t < N) (t2 : wt n = nI t) (t3 : wa n = nI (A q)) (t5 : wb n = nI vb) (t6 : n < 8 * q + D t) (t7 : M q = true → B t = false) (hk : tk t = 10) {c : Nat} (hc : hc_Ch (hp_a tk) f t c) :
    hs_S V tk N f D B A M xB pT pL pV (upd wt (n + 1) (nI c)) (upd wa (n + 1) (nI (A q))) (upd (upd ws n 2) (n + 1) 0) (upd wb (n + 1) (nI vb)) (upd wx (n + 1) 0) vk vv vh (n + 1) p q vb (w + 1) ∧
    hs_T N D B A M (upd wt (n + 1) (nI c)) (upd wa (n + 1) (nI (A q))) (upd (upd ws n 2) (n + 1) 0) (upd wb (n + 1) (nI vb)) (n + 1) q vb c := by
  have cc := hp_c G t1 hc
  have hk' : tk t ≠ 13 := by rw [hk]; decide
  refine ⟨⟨t, p, q, vb, w, hs_S_fr (fun _ _ _ _ h => h) n p q vb w S (fun j hj => ⟨pk_un (by omega), pk_un (by omega), by rw [pk_un (by omega), pk_un (by omega)], pk_un (by omega), pk_un (by omega)⟩) (fun _ _ => ⟨rfl, rfl, rfl⟩) (fun _ _ => ⟨rfl, rfl, rfl⟩) (fun _ _ => ⟨rfl, rfl, rfl⟩),
    t1, by rw [pk_un (by omega)]; exact t2, by rw [pk_un (by omega)]; exact t3, by rw [pk_un (by omega)]; exact t5, t6, t7, Or.inr (Or.inr (Or.inr (Or.inl ⟨by rw [pk_un (by omega), pk_us], hk, rfl, rfl, rfl, rfl⟩)))⟩, ?_⟩
  exact ⟨cc.1, pk_us, pk_us, pk_us, pk_us, by omega, fun h => cc.2.2.2.2.2.2 hk' (t7 h)⟩
/-- an activation starts: number an in Y, place q + 1 in X, its first token m -/
theorem hs_t_c (hV : ∀ x k v h, V x k v h → V' x k v h) (hD : ∀ t, t < N → 1 ≤ D t ∧ D t ≤ 8) (S : hs_S V tk N f D B A M xB pT pL pV wt wa ws wb wx vk vv vh n p q vb w) (t1 : t < N) (t2 : wt n = nI t) (t3 : wa n = nI (A q)) (t5 : wb n = nI vb) (t6 : n < 8 * q + D t) (t7 : M q = true → B t = false)
    {b : Bool} {s : Int32} (hk : (s = 2 ∧ tk t = 15 ∧ b = true) ∨ (s = 3 ∧ tk t = 14 ∧ b = false)) {m an : Nat} (hm : m < N) (hb : b = true → B m = false) :
    hs_S V' tk N f D B (gu A (q + 1) an) (gu M (q + 1) b) (upd xB (q + 1) (nI p)) pT pL pV (upd wt (n + 1) (nI m)) (upd wa (n + 1) (nI an)) (upd (upd ws n s) (n + 1) 0) (upd wb (n + 1) (nI vb)) (upd (upd wx n (nI an)) (n + 1) 0) vk vv vh (n + 1) p (q + 1) vb (w + 1) ∧
    hs_T N D B (gu A (q + 1) an) (gu M (q + 1) b) (upd wt (n + 1) (nI m)) (upd wa (n + 1) (nI an)) (upd (upd ws n s) (n + 1) 0) (upd wb (n + 1) (nI vb)) (n + 1) (q + 1) vb m := by
  have d := hD t t1
  have d2 := hD m hm
  refine ⟨⟨t, p, q, vb, w, hs_S_fr hV n p q vb w S (fun j hj => ⟨pk_un (by omega), pk_un (by omega), by rw [pk_un (by omega), pk_un (by omega)], pk_un (by omega), by rw [pk_un (by omega), pk_un (by omega)]⟩) (fun _ _ => ⟨rfl, rfl, rfl⟩) (fun _ _ => ⟨rfl, rfl, rfl⟩) (fun j hj => ⟨pk_un (by omega), gu_n (by omega), gu_n (by omega)⟩),
    t1, by rw [pk_un (by omega)]; exact t2, by rw [pk_un (by omega), gu_n (by omega)]; exact t3, by rw [pk_un (by omega)]; exact t5, t6, by rw [gu_n (by omega)]; exact t7, Or.inr (Or.inr (Or.inr (Or.inr ⟨rfl, rfl, rfl, rfl, by rw [pk_un (by omega), pk_us, gu_s], pk_us, ?_⟩)))⟩, ?_⟩
  · rw [pk_un (by omega), pk_us, gu_s]; exact hk
  · refine ⟨hm, pk_us, by rw [pk_us, gu_s], pk_us, pk_us, by omega, ?_⟩
    rw [gu_s]; exact hb
end
/-! ends of activations in X: from place e - 1 down to place p -/
def hx_end (xH : Nat → Int32) (p : Nat) : Nat → (Nat → Int32) → Nat → Int32
  | 0, hP => hP
  | e + 1, hP => if p ≤ e then hx_end xH p e (if hP (xH e).toNatClampNeg = nI e then upd hP (xH e).toNatClampNeg (-1) else hP) else hP
theorem hx_end_0 {xH : Nat → Int32} {p : Nat} : ∀ e hP h, hx_end xH p e hP h = hP h ∨ hx_end xH p e hP h = -1
  | 0, hP, h => Or.inl rfl
  | e + 1, hP, h => by
    simp only [hx_end]
    split
    · rcases hx_end_0 e (if hP (xH e).toNatClampNeg = nI e then upd hP (xH e).toNatClampNeg (-1) else hP) h with z | z
      · rw [z]
        split
        · by_cases y : h = (xH e).toNatClampNeg
          · rw [y, pk_us]; exact Or.inr rfl
          · rw [pk_un y]; exact Or.inl rfl
        · exact Or.inl rfl
      · exact Or.inr z
    · exact Or.inl rfl
theorem hx_end_1 {xH : Nat → Int32} {p h r : Nat} (hr : r < p) : ∀ e hP, e < 2 ^ 31 → hP h = nI r → hx_end xH p e hP h = hP h
  | 0, hP, _, _ => rfl
  | e + 1, hP, he, hh => by
    simp only [hx_end]
    split
    · rename_i hpe
      split
      · rename_i z
        have y : h ≠ (xH e).toNatClampNeg := fun y => by
          rw [← y, hh] at z
          exact hs_ne (show r < e by omega) (by omega) z
        rw [hx_end_1 hr e _ (by omega) (by rw [pk_un y]; exact hh), pk_un y]
      · exact hx_end_1 hr e _ (by omega) hh
    · rfl
theorem hx_end_2 {xH : Nat → Int32} {p h r : Nat} (hh31 : h < 2 ^ 31) (hpr : p ≤ r) (hx : xH r = nI h) : ∀ e hP, e < 2 ^ 31 → r < e → hP h = nI r → hx_end xH p e hP h = -1
  | 0, hP, _, hr, _ => by omega
  | e + 1, hP, he, hr, hh => by
    simp only [hx_end]
    rw [if_pos (by omega)]
    by_cases er : r = e
    · subst er
      rw [hx, nI_clamp hh31, if_pos hh]
      rcases hx_end_0 (xH := xH) (p := p) r (upd hP h (-1)) h with z | z
      · rw [z, pk_us]
      · exact z
    · split
      · rename_i z
        have y : h ≠ (xH e).toNatClampNeg := fun y => by
          rw [← y, hh] at z
          exact hs_ne (show r < e by omega) (by omega) z
        exact hx_end_2 hh31 hpr hx e _ (by omega) (by omega) (by rw [pk_un y]; exact hh)
      · exact hx_end_2 hh31 hpr hx e _ (by omega) (by omega) hh
theorem hs_A_end {V : Int64 → Int32 → Int32 → Int32 → Prop} {na nh an : Nat} {A H : Nat → Nat} {M : Nat → Bool} {xH : Nat → Int32} {xP : Nat → Int64} {hP yH yPk yPv yPh yM yA yA' : Nat → Int32}
    (a : hs_A V na nh an A H M xH xP hP yH yPk yPv yPh yM yA) (hna : na ≤ 16) (hnh : nh ≤ 256) {p : Nat} (hp : p < na)
    (y0 : ∀ m, A p ≤ m → m < an → yA' m = 0) (y1 : ∀ m, m < A p → yA' m = yA m) :
    hs_A V p nh an A H M xH xP (hx_end xH p na hP) yH yPk yPv yPh yM yA' := by
  refine hs_A_cut a hp y0 y1 (fun h _ => hx_end_0 na hP h) (fun h r _ hr e => hx_end_1 hr na hP (by omega) e) (fun h r hh hpr hr hM hA e => ?_)
  obtain ⟨b1, b2, h', b3, b4, b5, b6⟩ := a.1 r hr
  rcases b6 with ⟨-, -, c⟩ | ⟨c, -⟩
  · have eh : h' = h := hs_H_inj a.2.2.2.1 b3 hh (by omega)
    subst eh
    exact hx_end_2 (by omega) hpr b4 na hP (by omega) hr e
  · rw [hM] at c; exact absurd c (by decide)
