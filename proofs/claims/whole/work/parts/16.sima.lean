theorem hs_bin_ar {k : Int32} (h : hs_bin k) : hc_ar k = 2 ∧ k ≠ 13 := by
  rcases h with rfl | rfl | rfl | rfl | rfl <;> decide
theorem hm_leaf : ∀ k, k < 17 → ¬ (1 ≤ hc_ar (nI k) ∧ nI k ≠ 13) → k = 0 ∨ k = 1 ∨ k = 3 ∨ k = 5 ∨ k = 13 := by decide +kernel
theorem hm_un : ∀ k, k < 17 → (1 ≤ hc_ar (nI k) ∧ nI k ≠ 13 ∧ ¬ (nI k = 6 ∨ nI k = 7 ∨ nI k = 8 ∨ nI k = 9 ∨ nI k = 14)) → k = 2 ∨ k = 4 ∨ k = 10 ∨ k = 11 ∨ k = 12 ∨ k = 15 ∨ k = 16 := by decide +kernel
theorem hm_bi : ∀ k, k < 17 → (nI k = 6 ∨ nI k = 7 ∨ nI k = 8 ∨ nI k = 9 ∨ nI k = 14) → k = 6 ∨ k = 7 ∨ k = 8 ∨ k = 9 ∨ k = 14 := by decide +kernel
theorem hp_k {tk tv : Nat → Int32} {N t : Nat} (h : hp_T tk tv N) (ht : t < N) : ∃ k, k ≤ 16 ∧ tk t = nI k := by
  obtain ⟨k, k1, k2, -⟩ := h t ht
  exact ⟨k, k1, k2⟩
theorem hp_v4 {tk tv : Nat → Int32} {N t : Nat} (h : hp_T tk tv N) (ht : t < N) (e : tk t = nI 1 ∨ tk t = nI 2) : ∃ j, j < 4 ∧ tv t = nI j := by
  obtain ⟨k, k1, k2, k3, -⟩ := h t ht
  refine k3 (e.imp (fun e => ?_) (fun e => ?_))
  · rw [k2] at e; exact (nI_eq (by omega) (by decide)).mp e
  · rw [k2] at e; exact (nI_eq (by omega) (by decide)).mp e
theorem hp_v8 {tk tv : Nat → Int32} {N t : Nat} (h : hp_T tk tv N) (ht : t < N) (e : tk t = nI 3 ∨ tk t = nI 4) : ∃ j, j < 8 ∧ tv t = nI j := by
  obtain ⟨k, k1, k2, -, k3, -⟩ := h t ht
  refine k3 (e.imp (fun e => ?_) (fun e => ?_))
  · rw [k2] at e; exact (nI_eq (by omega) (by decide)).mp e
  · rw [k2] at e; exact (nI_eq (by omega) (by decide)).mp e
section
variable {tk tv : Nat → Int32} {N mc : Nat} {f D : Nat → Nat} {B : Nat → Bool} {xm yr ym : Int32} {af ms : Nat → Int32} {m s g : Nat}
theorem hm_a (G : hp_G tk tv N f D B mc) (hs : s < 1000000) (hg : g < 4000000) (IHa : hr_PA tk tv N f D B xm yr ym af ms m (s + 1) (g + 1)) (IHb : hr_PB tk tv N f D B xm yr ym af ms m (s + 1) (g + 1)) : hr_PA tk tv N f D B xm yr ym af ms (m + 1) s g := by
  intro xd yo y1 y2 y3 xv dp ib aH aB hP pT pL pk pv gk gv gh cn cd cD cP lk lv lh yH yPk yPv yPh yM yA wt wa ws wb wx vk vv vh pr gl aP lo pV n p q vb w t nh an fl pn A H M C S T hm
  have C' := C
  obtain ⟨c1, c2, c3, c4, cA, cL, cG, cPr⟩ := C'
  have T' := T
  obtain ⟨t1, t2, t3, t4, t5, t6, t7⟩ := T'
  have g1 := G.1
  have gD := G.2.2.1 t t1
  obtain ⟨bd1, bd2, bd3, bd4, bb, bb1, bb2⟩ := hs_S_bd (fun t ht => (G.2.2.1 t ht).2) n p q vb w S
  have lt := hp_lt G t1
  obtain ⟨a1, a2, h0, a3, a4, a5, a6⟩ := cA.1 q (Nat.lt_succ_self q)
  have hH0 := (cA.2.2.1 h0 a3).1
  have hT := G.2.2.2.2.2.2.2.1
  obtain ⟨k, k1, k2⟩ := hp_k hT t1
  by_cases kw : 1 ≤ hc_ar (tk t) ∧ tk t ≠ 13
  · obtain ⟨S', T'⟩ := hs_t_a G S T kw.1 kw.2
    have p1 := hp_1 G t1 kw.1
    exact hr_ga hs hg (by omega) (fun K h => wx_begin_wait (by omega) (by omega) (by omega) k1 k2 kw.1 kw.2 h) (fun K h => wy_wait (by omega) t1 g1 (by omega) t2 t3 t4 k1 k2 kw.1 kw.2 h) (IHa C S' T' (by omega))
  · rw [k2] at kw
    rcases hm_leaf k (by omega) kw with rfl | rfl | rfl | rfl | rfl
    · exact hr_ga hs hg (by omega) (fun K h => wx_begin_num (by omega) (by omega) k2 h) (fun K h => wy_num (by omega) t1 g1 (by omega) t2 t3 k2 (by omega) h) (IHb C (hs_t_v S _ _ _) (by rw [pk_us, pk_us, pk_us]; exact Or.inl ⟨rfl, rfl⟩) (by omega))
    · obtain ⟨j, j1, j2⟩ := hp_v4 hT t1 (Or.inl k2)
      exact hr_ga hs hg (by omega) (fun K h => wx_begin_var (by omega) (by omega) k2 a4 j2 (by omega) h) (fun K h => wy_var (by omega) t1 g1 (by omega) t2 t3 k2 (by omega) a5 j2 (by omega) h) (IHb C (hs_t_v S _ _ _) (by rw [pk_us, pk_us, pk_us]; exact cL h0 a3 j j1) (by omega))
    · obtain ⟨j, j1, j2⟩ := hp_v8 hT t1 (Or.inl k2)
      exact hr_ga hs hg (by omega) (fun K h => wx_begin_glob (by omega) (by omega) k2 j2 j1 h) (fun K h => wy_glob (by omega) t1 g1 (by omega) t2 t3 k2 (by omega) j2 j1 h) (IHb C (hs_t_v S _ _ _) (by rw [pk_us, pk_us, pk_us]; exact cG j j1) (by omega))
    · have hB := G.2.2.2.2.2.1 t t1 k2
      rcases a6 with ⟨y, -⟩ | ⟨-, -, y⟩
      · rw [t7 y] at hB; exact absurd hB (by decide)
      · exact hr_ga hs hg (by omega) (fun K h => wx_begin_param (by omega) (by omega) k2 h) (fun K h => wy_param (by omega) t1 g1 (by omega) t2 t3 k2 (by omega) h) (IHb C (hs_t_v S _ _ _) (by rw [pk_us, pk_us, pk_us]; exact y) (by omega))
    · exact hr_ga hs hg (by omega) (fun K h => wx_begin_block (by omega) (by omega) k2 a4 h) (fun K h => wy_block (by omega) t1 g1 (by omega) t2 t3 k2 (by omega) h) (IHb C (hs_t_v S _ _ _) (by rw [pk_us, pk_us, pk_us]; exact Or.inr ⟨rfl, t, h0, t1, k2, a3, rfl, a5, rfl⟩) (by omega))
end
