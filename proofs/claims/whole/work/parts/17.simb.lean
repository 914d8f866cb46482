theorem wk_z4n {g : Nat → Int32} {i j : Nat} (h : j < i ∨ i + 4 ≤ j) : wk_z4 g i j = g j := by
  unfold wk_z4
  rw [pk_un (by omega), pk_un (by omega), pk_un (by omega), pk_un (by omega)]
theorem wk_z4z {g : Nat → Int32} {i j : Nat} (h : j < 4) : wk_z4 g i (i + j) = 0 := by
  unfold wk_z4
  match j, h with
  | 0, _ => rw [pk_un (by omega), pk_un (by omega), pk_un (by omega)]; exact pk_us
  | 1, _ => rw [pk_un (by omega), pk_un (by omega)]; exact pk_us
  | 2, _ => rw [pk_un (by omega)]; exact pk_us
  | 3, _ => exact pk_us
def wk_l4 (g : Nat → Int64) (i : Nat) (x : Int64) : Nat → Int64 := vp_updL (vp_updL (vp_updL (vp_updL g i x) (i + 1) 0) (i + 2) 0) (i + 3) 0
theorem wk_l4n {g : Nat → Int64} {i j : Nat} {x : Int64} (h : j < i ∨ i + 4 ≤ j) : wk_l4 g i x j = g j := by
  unfold wk_l4
  rw [pk_uLn (by omega), pk_uLn (by omega), pk_uLn (by omega), pk_uLn (by omega)]
theorem wk_l40 {g : Nat → Int64} {i : Nat} {x : Int64} : wk_l4 g i x i = x := by
  unfold wk_l4
  rw [pk_uLn (by omega), pk_uLn (by omega), pk_uLn (by omega)]; exact pk_uLs
theorem wk_l4z {g : Nat → Int64} {i j : Nat} {x : Int64} (h0 : 0 < j) (h : j < 4) : wk_l4 g i x (i + j) = 0 := by
  unfold wk_l4
  match j, h0, h with
  | 1, _, _ => rw [pk_uLn (by omega), pk_uLn (by omega)]; exact pk_uLs
  | 2, _, _ => rw [pk_uLn (by omega)]; exact pk_uLs
  | 3, _, _ => exact pk_uLs
section
variable {tk : Nat → Int32} {N nh an : Nat} {H : Nat → Nat} {lo : Nat → Int64} {lk lv lh : Nat → Int32}
theorem hs_L_blk (l : hs_L (hv_V tk N nh H) nh H lo lk lv lh) (hH : ∀ h, h < nh → H h < an) : hs_L (hv_V tk N nh H) nh H lo (wk_z4 lk (an * 4)) (wk_z4 lv (an * 4)) (wk_z4 lh (an * 4)) := by
  intro h hh j hj
  have b := hH h hh
  rw [wk_z4n (by omega), wk_z4n (by omega), wk_z4n (by omega)]
  exact l h hh j hj
theorem hs_L_met (l : hs_L (hv_V tk N nh H) nh H lo lk lv lh) (hH : ∀ h, h < nh → H h < an) {x : Int64} {k v h : Int32} (hx : hv_V tk N nh H x k v h) :
    hs_L (hv_V tk N (nh + 1) (gu H nh an)) (nh + 1) (gu H nh an) (wk_l4 lo (nh * 4) x) (upd (wk_z4 lk (an * 4)) (an * 4) k) (upd (wk_z4 lv (an * 4)) (an * 4) v) (upd (wk_z4 lh (an * 4)) (an * 4) h) := by
  have mono := fun x k v h => hv_V_mono (tk := tk) (N := N) (nh := nh) (nh' := nh + 1) (H := H) (H' := gu H nh an) (Nat.le_succ nh) (fun j hj => gu_n (by omega)) x k v h
  intro h1 hh j hj
  by_cases e : h1 = nh
  · subst e
    rw [gu_s]
    by_cases ej : j = 0
    · subst ej
      show hv_V tk N (h1 + 1) (gu H h1 an) (wk_l4 lo (h1 * 4) x (h1 * 4)) (upd (wk_z4 lk (an * 4)) (an * 4) k (an * 4)) (upd (wk_z4 lv (an * 4)) (an * 4) v (an * 4)) (upd (wk_z4 lh (an * 4)) (an * 4) h (an * 4))
      rw [wk_l40, pk_us, pk_us, pk_us]
      exact mono _ _ _ _ hx
    · rw [wk_l4z (by omega) hj, pk_un (by omega), pk_un (by omega), pk_un (by omega), wk_z4z hj, wk_z4z hj, wk_z4z hj]
      exact hv_V0
  · rw [gu_n e]
    have b := hH h1 (by omega)
    rw [wk_l4n (by omega), pk_un (by omega), pk_un (by omega), pk_un (by omega), wk_z4n (by omega), wk_z4n (by omega), wk_z4n (by omega)]
    exact mono _ _ _ _ (l h1 (by omega) j hj)
end
