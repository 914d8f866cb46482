theorem hc_le {a f : Nat → Nat} {lo N : Nat} (L : hc_Lk a f lo N) {x0 : Nat} (h1 : lo ≤ x0) (h2 : x0 ≤ N) : ∀ m, (∀ q, q < m → hc_it f q x0 < N) → lo ≤ hc_it f m x0 ∧ hc_it f m x0 ≤ N
  | 0, _ => ⟨h1, h2⟩
  | m + 1, H => by
    have i := hc_le L h1 h2 m (fun q hq => H q (by omega))
    have c := hc_lt L i.1 (H m (by omega))
    rw [hc_it_s]
    exact ⟨by omega, c.2⟩
section
variable {xn xm xo xpn xf xd xa xh xp xt xy : Int32} {xr xv : Int64} {tk tv af dp ib ms aH aB hP pT pL : Nat → Int32} {pr gl aP lo pV : Nat → Int64} {N t : Nat} {f : Nat → Nat}
/-! linkExpressions -/
theorem xl_in {post : Int32 → SX → Prop} {J7 : Int32 → (Nat → Int32) → (Nat → Int32) → (Nat → Int32) → (Nat → Int32) → (Nat → Int32) → (Nat → Int32) → (Nat → Int64) → (Nat → Int64) → (Nat → Int32) → (Nat → Int64) → (Nat → Int32) → (Nat → Int64) → (Nat → Int32) → (Nat → Int32) → (Nat → Int32) → (Nat → Int64) → Prop} (hN : N ≤ 128) (ht : t < N) (L : hc_Lk (hp_a tk) f (t + 1) N) (haf : ∀ i, t + 1 ≤ i → i < N → af i = nI (f i))
    (hF : ∀ q0, q0 < hp_a tk t → N ≤ hc_it f q0 (t + 1) → post 0 (nI N, xm, xo, xr, xpn, xf, xd, xa, xh, xp, xt, xv, xy, tk, tv, af, dp, ib, ms, pr, gl, aH, aP, aB, lo, hP, pT, pL, pV)) (hS : (∀ q, q < hp_a tk t → hc_it f q (t + 1) < N) → J7 (nI t + (-1)) tk tv (upd af t (nI (hc_it f (hp_a tk t) (t + 1)))) dp ib ms pr gl aH aP aB lo hP pT pL pV) :
    ∀ m, m ≤ hp_a tk t → (∀ q, q < hp_a tk t - m → hc_it f q (t + 1) < N) → wX_linkExpressions_25 post J7 (nI t) (nI N) xm xo xr xpn xf xd xa xh xp xt xv xy tk tv af dp ib ms pr gl aH aP aB lo hP pT pL pV (m + 1) (nI (hc_it f (hp_a tk t - m) (t + 1))) (nI m) := by
  have a3 : hp_a tk t ≤ 3 := hc_ar3 _
  intro m
  induction m with
  | zero =>
    intro _ H
    rw [Nat.sub_zero] at H ⊢
    exact br_t (by decide) ⟨vp_in_nI (by omega) (by omega), nm_r (show _ = upd af t (nI (hc_it f (hp_a tk t) (t + 1))) by rw [nI_clamp (by omega)]) (nm_e (hS H))⟩
  | succ m ih =>
    intro hm H
    have b := hc_le L (Nat.le_refl _) (by omega) (hp_a tk t - (m + 1)) H
    refine br_f (nI_nle (by omega) (by omega)) ?_
    by_cases z : hc_it f (hp_a tk t - (m + 1)) (t + 1) < N
    · have e : hp_a tk t - m = hp_a tk t - (m + 1) + 1 := by omega
      have w := ih (by omega) (fun q hq => by
        by_cases y : q = hp_a tk t - (m + 1)
        · rw [y]; exact z
        · exact H q (by omega))
      rw [e, hc_it_s] at w
      exact br_t (nI_lt z (by omega)) ⟨vp_in_nI (by omega) (by omega), nm_r (show _ = nI (f (hc_it f (hp_a tk t - (m + 1)) (t + 1))) by rw [nI_clamp (by omega)]; exact haf _ b.1 z) (nm_r (pk_m1 m) w)⟩
    · exact br_f (nI_nlt (by omega) (by omega)) (hF (hp_a tk t - (m + 1)) (by omega) (by omega))
theorem xl_out {post : Int32 → SX → Prop} (hN : N ≤ 128) (hT : hp_T tk tv N)
    (hF : ∀ (f : Nat → Nat) (af' : Nat → Int32) (t0 q0 : Nat), t0 < N → hc_Lk (hp_a tk) f (t0 + 1) N → q0 < hp_a tk t0 → N ≤ hc_it f q0 (t0 + 1) → post 0 (nI N, xm, xo, xr, xpn, xf, xd, xa, xh, xp, xt, xv, xy, tk, tv, af', dp, ib, ms, pr, gl, aH, aP, aB, lo, hP, pT, pL, pV))
    (hS : ∀ (f : Nat → Nat) (af' : Nat → Int32), hc_Lk (hp_a tk) f 0 N → (∀ i, i < N → af' i = nI (f i)) → post 1 (nI N, xm, xo, xr, xpn, xf, xd, xa, xh, xp, xt, xv, xy, tk, tv, af', dp, ib, ms, pr, gl, aH, aP, aB, lo, hP, pT, pL, pV)) :
    ∀ (e : Nat) (f : Nat → Nat) (af : Nat → Int32), e ≤ N → hc_Lk (hp_a tk) f e N → (∀ i, e ≤ i → i < N → af i = nI (f i)) → wX_linkExpressions_7 post (nI N) xm xo xr xpn xf xd xa xh xp xt xv xy (e + 1) (nI e + (-1)) tk tv af dp ib ms pr gl aH aP aB lo hP pT pL pV := by
  intro e
  induction e with
  | zero =>
    intro f af _ L haf
    exact br_t (by decide) (hS f af L (fun i hi => haf i (Nat.zero_le _) hi))
  | succ t ih =>
    intro f af ht L haf
    obtain ⟨k, k1, k2⟩ := hp_k hT (show t < N by omega)
    have e1 : (nI t).toNatClampNeg = t := nI_clamp (by omega)
    have ea : hp_a tk t = hc_ar (nI k) := by unfold hp_a; rw [k2]
    rw [pk_m1]
    refine br_f (nI_pos (by omega)) (nm_r (nI_1 t) ⟨vp_in_nI (by omega) (by omega), ?_⟩)
    rw [e1, k2]
    refine wx_arity k1 ⟨hp_a tk t + 1, ?_⟩
    rw [← ea]
    have w := xl_in (post := post) (J7 := wX_linkExpressions_7 post (nI N) xm xo xr xpn xf xd xa xh xp xt xv xy (t + 1)) hN (show t < N by omega) L haf (fun q0 h1 h2 => hF f af t q0 (by omega) L h1 h2) (fun H => ih (fun x => if x = t then hc_it f (hp_a tk t) (t + 1) else f x) _ (by omega) (hc_Lk_step L H rfl) (fun i i1 i2 => by
      by_cases y : i = t
      · subst y; rw [pk_us, if_pos rfl]
      · rw [pk_un y, if_neg y]; exact haf i (by omega) i2)) (hp_a tk t) (Nat.le_refl _) (fun q hq => by omega)
    rw [Nat.sub_self] at w
    exact w
theorem wx_link {post : Int32 → SX → Prop} (hN : N ≤ 128) (hT : hp_T tk tv N)
    (hF : ∀ (f : Nat → Nat) (af' : Nat → Int32) (t0 q0 : Nat), t0 < N → hc_Lk (hp_a tk) f (t0 + 1) N → q0 < hp_a tk t0 → N ≤ hc_it f q0 (t0 + 1) → post 0 (nI N, xm, xo, xr, xpn, xf, xd, xa, xh, xp, xt, xv, xy, tk, tv, af', dp, ib, ms, pr, gl, aH, aP, aB, lo, hP, pT, pL, pV))
    (hS : ∀ (f : Nat → Nat) (af' : Nat → Int32), hc_Lk (hp_a tk) f 0 N → (∀ i, i < N → af' i = nI (f i)) → post 1 (nI N, xm, xo, xr, xpn, xf, xd, xa, xh, xp, xt, xv, xy, tk, tv, af', dp, ib, ms, pr, gl, aH, aP, aB, lo, hP, pT, pL, pV)) : wpX_linkExpressions post (nI N, xm, xo, xr, xpn, xf, xd, xa, xh, xp, xt, xv, xy, tk, tv, af, dp, ib, ms, pr, gl, aH, aP, aB, lo, hP, pT, pL, pV) := by
  unfold wpX_linkExpressions
  have e : nI N - 1 = nI N + (-1) := by grind
  exact nm_r e ⟨N + 1, xl_out hN hT hF hS N (fun _ => 0) af (Nat.le_refl _) (fun i h1 h2 => by omega) (fun i h1 h2 => by omega)⟩
/-! placeRoots -/
theorem xr_loop {post : Int32 → SX → Prop} (hN : N ≤ 128) (L : hc_Lk (hp_a tk) f 0 N) (haf : ∀ i, i < N → af i = nI (f i))
    (hS : ∀ (e : Nat) (dp' ib' ms' : Nat → Int32), hc_it f e 0 = N → (∀ k, k < e → hc_it f k 0 < N) → e ≤ N → (∀ k, k < e → k < 8 → ms' k = nI (hc_it f k 0)) → (∀ k, k < e → dp' (hc_it f k 0) = nI 1 ∧ ib' (hc_it f k 0) = 0) → post (nI e) (nI N, xm, xo, xr, xpn, xf, xd, xa, xh, xp, xt, xv, xy, tk, tv, af, dp', ib', ms', pr, gl, aH, aP, aB, lo, hP, pT, pL, pV)) :
    ∀ d i e (dp ib ms : Nat → Int32), i + d = N → i ≤ hc_it f e 0 → hc_it f e 0 ≤ N → (∀ k, k < e → hc_it f k 0 < i) → e ≤ i → (∀ k, k < e → k < 8 → ms k = nI (hc_it f k 0)) → (∀ k, k < e → dp (hc_it f k 0) = nI 1 ∧ ib (hc_it f k 0) = 0) → wX_placeRoots_6 post (nI N) xm xo xr xpn xf xd xa xh xp xt xv xy (d + 1) (nI e) (nI (hc_it f e 0)) (nI i) tk tv af dp ib ms pr gl aH aP aB lo hP pT pL pV := by
  intro d
  induction d with
  | zero =>
    intro i e dp ib ms hi h1 h2 h3 h4 h5 h6
    have ei : i = N := by omega
    subst ei
    exact br_t (nI_le (Nat.le_refl _) (by omega)) (hS e dp ib ms (by omega) h3 h4 h5 h6)
  | succ d ih =>
    intro i e dp ib ms hi h1 h2 h3 h4 h5 h6
    have e1 : (nI i).toNatClampNeg = i := nI_clamp (by omega)
    have i1 : vp_in (nI i) 128 := vp_in_nI (by omega) (by omega)
    refine br_f (nI_ge (by omega) (by omega)) ?_
    by_cases z : i = hc_it f e 0
    · have lt := hc_lt L (Nat.zero_le i) (show i < N by omega)
      have er : hc_it f (e + 1) 0 = f i := by rw [hc_it_s, ← z]
      have B : ∀ ms' : Nat → Int32, (∀ k, k < e + 1 → k < 8 → ms' k = nI (hc_it f k 0)) → wX_placeRoots_32 post (wX_placeRoots_6 post (nI N) xm xo xr xpn xf xd xa xh xp xt xv xy (d + 1)) (nI e) (nI i) (nI N) xm xo xr xpn xf xd xa xh xp xt xv xy tk tv af dp ib ms' pr gl aH aP aB lo hP pT pL pV := by
        intro ms' hms
        refine nm_r (nI_1 e) ⟨i1, nm_r (show _ = upd dp i 1 by rw [e1]) ⟨i1, nm_r (show _ = upd ib i 0 by rw [e1, wk_b0]) ⟨i1, nm_r (show _ = nI (hc_it f (e + 1) 0) by rw [e1, er]; exact haf i (by omega)) (nm_r (nI_1 i) ?_)⟩⟩⟩
        refine ih (i + 1) (e + 1) _ _ _ (by omega) (by omega) (by omega) (fun k hk => ?_) (by omega) hms (fun k hk => ?_)
        · by_cases y : k = e
          · rw [y]; omega
          · have := h3 k (by omega); omega
        · by_cases y : k = e
          · rw [y, ← z, pk_us, pk_us]; exact ⟨rfl, rfl⟩
          · have := h3 k (by omega)
            rw [pk_un (by omega), pk_un (by omega)]; exact h6 k (by omega)
      refine br_t (by rw [z]) ?_
      by_cases y : 8 ≤ e
      · exact br_t (nI_le (a := 8) y (by omega)) (B ms (fun k k1 k2 => h5 k (by omega) k2))
      · refine br_f (nI_ge (b := 8) (by omega) (by decide)) ⟨vp_in_nI (by omega) (by omega), nm_r (show _ = upd ms e (nI i) by rw [nI_clamp (by omega)]) (B _ (fun k k1 k2 => ?_))⟩
        by_cases x : k = e
        · rw [x, pk_us, ← z]
        · rw [pk_un x]; exact h5 k (by omega) k2
    · refine br_f (fun x => z ((nI_eq (by omega) (by omega)).mp x)) (nm_r (nI_1 i) (ih (i + 1) e dp ib ms (by omega) (by omega) h2 (fun k hk => by have := h3 k hk; omega) (by omega) h5 h6))
theorem wx_roots {post : Int32 → SX → Prop} (hN : N ≤ 128) (L : hc_Lk (hp_a tk) f 0 N) (haf : ∀ i, i < N → af i = nI (f i))
    (hS : ∀ (e : Nat) (dp' ib' ms' : Nat → Int32), hc_it f e 0 = N → (∀ k, k < e → hc_it f k 0 < N) → e ≤ N → (∀ k, k < e → k < 8 → ms' k = nI (hc_it f k 0)) → (∀ k, k < e → dp' (hc_it f k 0) = nI 1 ∧ ib' (hc_it f k 0) = 0) → post (nI e) (nI N, xm, xo, xr, xpn, xf, xd, xa, xh, xp, xt, xv, xy, tk, tv, af, dp', ib', ms', pr, gl, aH, aP, aB, lo, hP, pT, pL, pV)) : wpX_placeRoots post (nI N, xm, xo, xr, xpn, xf, xd, xa, xh, xp, xt, xv, xy, tk, tv, af, dp, ib, ms, pr, gl, aH, aP, aB, lo, hP, pT, pL, pV) := by
  unfold wpX_placeRoots
  exact ⟨N + 1, xr_loop hN L haf hS N 0 0 dp ib ms (by omega) (Nat.le_refl _) (Nat.zero_le _) (fun k hk => by omega) (Nat.le_refl _) (fun k hk => by omega) (fun k hk => by omega)⟩
end
/-! placeOperands -/
def hc_ib (tk ib : Nat → Int32) (t : Nat) : Int32 := if ib t ≠ 0 ∨ tk t = 13 then 1 else 0
def hc_Pl (tk : Nat → Int32) (f : Nat → Nat) (e t : Nat) (dp ib : Nat → Int32) : Prop :=
  (∀ k, k < e → dp (hc_it f k 0) = nI 1 ∧ ib (hc_it f k 0) = 0) ∧ (∀ p, p < t → ∀ c, hc_Ch (hp_a tk) f p c → dp c = dp p + 1 ∧ ib c = hc_ib tk ib p)
section
variable {xn xm xo xpn xf xd xa xh xp xt xy : Int32} {xr xv : Int64} {tk tv af dp ib ms aH aB hP pT pL : Nat → Int32} {pr gl aP lo pV : Nat → Int64} {N t e : Nat} {f : Nat → Nat}
theorem xo_in {post : SX → Prop} {J2 : Int32 → (Nat → Int32) → (Nat → Int32) → (Nat → Int32) → (Nat → Int32) → (Nat → Int32) → (Nat → Int32) → (Nat → Int64) → (Nat → Int64) → (Nat → Int32) → (Nat → Int64) → (Nat → Int32) → (Nat → Int64) → (Nat → Int32) → (Nat → Int32) → (Nat → Int32) → (Nat → Int64) → Prop} (hN : N ≤ 128) (ht : t < N) (L : hc_Lk (hp_a tk) f 0 N) (haf : ∀ i, i < N → af i = nI (f i)) (hroots : ∀ k, k < e → hc_it f k 0 < N)
    (hS : ∀ dp' ib' : Nat → Int32, hc_Pl tk f e (t + 1) dp' ib' → J2 (nI (t + 1)) tk tv af dp' ib' ms pr gl aH aP aB lo hP pT pL pV) :
    ∀ m (dp ib : Nat → Int32), m ≤ hp_a tk t → hc_Pl tk f e t dp ib → (∀ q, q < hp_a tk t - m → dp (hc_it f q (t + 1)) = dp t + 1 ∧ ib (hc_it f q (t + 1)) = hc_ib tk ib t) → wX_placeOperands_27 post J2 (nI t) (tk t) (nI N) xm xo xr xpn xf xd xa xh xp xt xv xy (m + 1) (nI (hc_it f (hp_a tk t - m) (t + 1))) (nI m) tk tv af dp ib ms pr gl aH aP aB lo hP pT pL pV := by
  have a3 : hp_a tk t ≤ 3 := hc_ar3 _
  obtain ⟨Lq, Le⟩ := L t (Nat.zero_le _) ht
  intro m
  induction m with
  | zero =>
    intro dp ib _ P H
    rw [Nat.sub_zero] at H
    refine br_t (by decide) (nm_r (nI_1 t) (hS dp ib ⟨P.1, fun p hp c hc => ?_⟩))
    by_cases y : p = t
    · subst y
      obtain ⟨q, q1, rfl⟩ := hc
      exact H q q1
    · exact P.2 p (by omega) c hc
  | succ m ih =>
    intro dp ib hm P H
    have hch : hc_Ch (hp_a tk) f t (hc_it f (hp_a tk t - (m + 1)) (t + 1)) := ⟨hp_a tk t - (m + 1), by omega, rfl⟩
    have cl := hc_Ch_lt L (Nat.zero_le _) ht hch
    have eq1 : hc_it f (hp_a tk t - m) (t + 1) = f (hc_it f (hp_a tk t - (m + 1)) (t + 1)) := by
      rw [show hp_a tk t - m = hp_a tk t - (m + 1) + 1 by omega, hc_it_s]
    have mono := hc_mono L (x0 := t + 1) (Nat.zero_le _) (hp_a tk t - (m + 1)) (fun q hq => Lq q (by omega))
    have lts : ∀ q, q < hp_a tk t - (m + 1) → hc_it f q (t + 1) ≠ hc_it f (hp_a tk t - (m + 1)) (t + 1) := fun q hq x => by
      have a := (mono (q + 1) (by omega)).2
      have b := hc_lt L (Nat.zero_le _) (Lq q (by omega))
      rw [hc_it_s] at a
      omega
    generalize hc : hc_it f (hp_a tk t - (m + 1)) (t + 1) = c at *
    have ec : (nI c).toNatClampNeg = c := nI_clamp (by omega)
    have et : (nI t).toNatClampNeg = t := nI_clamp (by omega)
    have it : vp_in (nI t) 128 := vp_in_nI (by omega) (by omega)
    have ic : vp_in (nI c) 128 := vp_in_nI (by omega) (by omega)
    have tail : ∀ z0 : Int32, (vp_nar .boolean z0 = hc_ib tk ib t) → wX_placeOperands_71 post J2 (wX_placeOperands_27 post J2 (nI t) (tk t) (nI N) xm xo xr xpn xf xd xa xh xp xt xv xy (m + 1)) (nI t) (tk t) (nI c) (nI (m + 1)) z0 (nI c) (nI N) xm xo xr xpn xf xd xa xh xp xt xv xy tk tv af (upd dp c (dp t + 1)) ib ms pr gl aH aP aB lo hP pT pL pV := by
      intro z0 hz
      refine And.intro ic (nm_r (show _ = upd ib c (hc_ib tk ib t) by rw [ec, hz]) ⟨ic, nm_r (show _ = nI (hc_it f (hp_a tk t - m) (t + 1)) by rw [ec, eq1]; exact haf c (by omega)) (nm_r (pk_m1 m) ?_)⟩)
      have bt : hc_ib tk (upd ib c (hc_ib tk ib t)) t = hc_ib tk ib t := by unfold hc_ib; rw [pk_un (show t ≠ c by omega)]
      refine ih _ _ (by omega) ⟨fun k hk => ?_, fun p hp c' hc' => ?_⟩ (fun q hq => ?_)
      · have ne : hc_it f k 0 ≠ c := fun x => by
          rw [← x] at hch
          exact hc_root L (fun j hj => hroots j (by omega)) ht hch
        rw [pk_un ne, pk_un ne]; exact P.1 k hk
      · have ne : c' ≠ c := fun x => by
          rw [x] at hc'
          have := hc_uniq L (Nat.zero_le _) (Nat.zero_le _) (show p < N by omega) ht hc' hch
          omega
        have bp : hc_ib tk (upd ib c (hc_ib tk ib t)) p = hc_ib tk ib p := by unfold hc_ib; rw [pk_un (show p ≠ c by omega)]
        rw [pk_un ne, pk_un ne, pk_un (show p ≠ c by omega), bp]
        exact P.2 p hp c' hc'
      · rw [bt, pk_un (show t ≠ c by omega)]
        by_cases y : q = hp_a tk t - (m + 1)
        · rw [y, hc, pk_us, pk_us]; exact ⟨rfl, rfl⟩
        · have ne := lts q (by omega)
          rw [pk_un ne, pk_un ne]; exact H q (by omega)
    refine br_f (nI_nle (by omega) (by omega)) ⟨it, ic, nm_r (show _ = upd dp c (dp t + 1) by rw [ec, et]) ⟨it, ?_⟩⟩
    rw [et]
    by_cases z : ib t = 0
    · refine br_t z ?_
      by_cases y : tk t = 13
      · exact br_t y (tail 1 (by rw [wk_b1]; unfold hc_ib; rw [if_pos (Or.inr y)]))
      · exact br_f y (tail 0 (by rw [wk_b0]; unfold hc_ib; rw [if_neg (fun x => x.elim (fun w => w z) y)]))
    · exact br_f z (tail 1 (by rw [wk_b1]; unfold hc_ib; rw [if_pos (Or.inl z)]))
theorem wx_opers {post : SX → Prop} (hN : N ≤ 128) (hT : hp_T tk tv N) (L : hc_Lk (hp_a tk) f 0 N) (haf : ∀ i, i < N → af i = nI (f i)) (hroots : ∀ k, k < e → hc_it f k 0 < N) (h0 : ∀ k, k < e → dp (hc_it f k 0) = nI 1 ∧ ib (hc_it f k 0) = 0)
    (hS : ∀ dp' ib' : Nat → Int32, hc_Pl tk f e N dp' ib' → post (nI N, xm, xo, xr, xpn, xf, xd, xa, xh, xp, xt, xv, xy, tk, tv, af, dp', ib', ms, pr, gl, aH, aP, aB, lo, hP, pT, pL, pV)) : wpX_placeOperands post (nI N, xm, xo, xr, xpn, xf, xd, xa, xh, xp, xt, xv, xy, tk, tv, af, dp, ib, ms, pr, gl, aH, aP, aB, lo, hP, pT, pL, pV) := by
  have key : ∀ d t (dp ib : Nat → Int32), t + d = N → hc_Pl tk f e t dp ib → wX_placeOperands_2 post (nI N) xm xo xr xpn xf xd xa xh xp xt xv xy (d + 1) (nI t) tk tv af dp ib ms pr gl aH aP aB lo hP pT pL pV := by
    intro d
    induction d with
    | zero =>
      intro t dp ib ht P
      have et : t = N := by omega
      subst et
      exact br_t (nI_le (Nat.le_refl _) (by omega)) (hS dp ib P)
    | succ d ih =>
      intro t dp ib ht P
      obtain ⟨k, k1, k2⟩ := hp_k hT (show t < N by omega)
      have ea : hp_a tk t = hc_ar (nI k) := by unfold hp_a; rw [k2]
      have e1 : (nI t).toNatClampNeg = t := nI_clamp (by omega)
      refine br_f (nI_ge (by omega) (by omega)) ⟨vp_in_nI (by omega) (by omega), nm_r (show _ = tk t by rw [e1]) (nm_r (nI_1 t) ?_)⟩
      have w : wX_placeOperands_27 post (wX_placeOperands_2 post (nI N) xm xo xr xpn xf xd xa xh xp xt xv xy (d + 1)) (nI t) (tk t) (nI N) xm xo xr xpn xf xd xa xh xp xt xv xy (hp_a tk t + 1) (nI (hc_it f (hp_a tk t - hp_a tk t) (t + 1))) (nI (hp_a tk t)) tk tv af dp ib ms pr gl aH aP aB lo hP pT pL pV := xo_in hN (show t < N by omega) L haf hroots (fun dp' ib' P' => ih (t + 1) dp' ib' (by omega) P') (hp_a tk t) dp ib (Nat.le_refl _) P (fun q hq => by omega)
      rw [Nat.sub_self] at w
      have w2 : wpX_arity (fun r_5 => (∃ n27 : Nat, wX_placeOperands_27 post (wX_placeOperands_2 post (nI N) xm xo xr xpn xf xd xa xh xp xt xv xy (d + 1)) (nI t) (tk t) (nI N) xm xo xr xpn xf xd xa xh xp xt xv xy n27 (nI (t + 1)) r_5 tk tv af dp ib ms pr gl aH aP aB lo hP pT pL pV)) (nI k) := wx_arity k1 ⟨hp_a tk t + 1, by rw [← ea]; exact w⟩
      rw [← k2] at w2
      exact w2
  unfold wpX_placeOperands
  exact ⟨N + 1, key N 0 dp ib (by omega) ⟨h0, fun p hp => by omega⟩⟩
/-! the three checks -/
theorem wx_deep {post : Int32 → Prop} (hN : N ≤ 128) (h1 : (∃ j, j < N ∧ ¬ dp j ≤ 8) → post 1) (h0 : (∀ j, j < N → dp j ≤ 8) → post 0) : wpX_hasDeepToken post (nI N, xm, xo, xr, xpn, xf, xd, xa, xh, xp, xt, xv, xy, tk, tv, af, dp, ib, ms, pr, gl, aH, aP, aB, lo, hP, pT, pL, pV) := by
  have key : ∀ d i, i + d = N → (∀ j, j < i → dp j ≤ 8) → wX_hasDeepToken_2 post (nI N) xm xo xr xpn xf xd xa xh xp xt xv xy tk tv af dp ib ms pr gl aH aP aB lo hP pT pL pV (d + 1) (nI i) := by
    intro d
    induction d with
    | zero =>
      intro i hi H
      have e : i = N := by omega
      subst e
      exact br_t (nI_le (Nat.le_refl _) (by omega)) (h0 H)
    | succ d ih =>
      intro i hi H
      have e1 : (nI i).toNatClampNeg = i := nI_clamp (by omega)
      refine br_f (nI_ge (by omega) (by omega)) ⟨vp_in_nI (by omega) (by omega), ?_⟩
      rw [e1]
      by_cases z : dp i ≤ 8
      · exact br_t z (nm_r (nI_1 i) (ih (i + 1) (by omega) (lt_s H z)))
      · exact br_f z (h1 ⟨i, by omega, z⟩)
  unfold wpX_hasDeepToken
  exact ⟨N + 1, key N 0 (by omega) (fun j hj => by omega)⟩
theorem wx_par {post : Int32 → Prop} (hN : N ≤ 128) (h1 : (∃ j, j < N ∧ tk j = 5 ∧ ib j = 0) → post 1) (h0 : (∀ j, j < N → tk j = 5 → ib j ≠ 0) → post 0) : wpX_hasParamOutsideBlock post (nI N, xm, xo, xr, xpn, xf, xd, xa, xh, xp, xt, xv, xy, tk, tv, af, dp, ib, ms, pr, gl, aH, aP, aB, lo, hP, pT, pL, pV) := by
  have key : ∀ d i, i + d = N → (∀ j, j < i → tk j = 5 → ib j ≠ 0) → wX_hasParamOutsideBlock_2 post (nI N) xm xo xr xpn xf xd xa xh xp xt xv xy tk tv af dp ib ms pr gl aH aP aB lo hP pT pL pV (d + 1) (nI i) := by
    intro d
    induction d with
    | zero =>
      intro i hi H
      have e : i = N := by omega
      subst e
      exact br_t (nI_le (Nat.le_refl _) (by omega)) (h0 H)
    | succ d ih =>
      intro i hi H
      have e1 : (nI i).toNatClampNeg = i := nI_clamp (by omega)
      have i1 : vp_in (nI i) 128 := vp_in_nI (by omega) (by omega)
      refine br_f (nI_ge (by omega) (by omega)) ⟨i1, ?_⟩
      rw [e1]
      by_cases z : tk i = 5
      · refine br_t z ⟨i1, ?_⟩
        by_cases y : ib i = 0
        · exact br_t y (h1 ⟨i, by omega, z, y⟩)
        · exact br_f y (nm_r (nI_1 i) (ih (i + 1) (by omega) (lt_s (p := fun j => tk j = 5 → ib j ≠ 0) H (fun _ => y))))
      · exact br_f z (nm_r (nI_1 i) (ih (i + 1) (by omega) (lt_s (p := fun j => tk j = 5 → ib j ≠ 0) H (fun x => absurd x z))))
  unfold wpX_hasParamOutsideBlock
  exact ⟨N + 1, key N 0 (by omega) (fun j hj => by omega)⟩
theorem wx_calls {post : Int32 → Prop} {c : Int32} (hN : N ≤ 128) (h1 : (∃ j, j < N ∧ tk j = 15 ∧ ¬ tv j < c) → post 1) (h0 : (∀ j, j < N → tk j = 15 → tv j < c) → post 0) : wpX_hasCallBeyond post (nI N, xm, xo, xr, xpn, xf, xd, xa, xh, xp, xt, xv, xy, tk, tv, af, dp, ib, ms, pr, gl, aH, aP, aB, lo, hP, pT, pL, pV) c := by
  have key : ∀ d i, i + d = N → (∀ j, j < i → tk j = 15 → tv j < c) → wX_hasCallBeyond_2 post c (nI N) xm xo xr xpn xf xd xa xh xp xt xv xy tk tv af dp ib ms pr gl aH aP aB lo hP pT pL pV (d + 1) (nI i) := by
    intro d
    induction d with
    | zero =>
      intro i hi H
      have e : i = N := by omega
      subst e
      exact br_t (nI_le (Nat.le_refl _) (by omega)) (h0 H)
    | succ d ih =>
      intro i hi H
      have e1 : (nI i).toNatClampNeg = i := nI_clamp (by omega)
      have i1 : vp_in (nI i) 128 := vp_in_nI (by omega) (by omega)
      refine br_f (nI_ge (by omega) (by omega)) ⟨i1, ?_⟩
      rw [e1]
      by_cases z : tk i = 15
      · refine br_t z ⟨i1, ?_⟩
        by_cases y : tv i < c
        · exact br_t y (nm_r (nI_1 i) (ih (i + 1) (by omega) (lt_s (p := fun j => tk j = 15 → tv j < c) H (fun _ => y))))
        · exact br_f y (h1 ⟨i, by omega, z, y⟩)
      · exact br_f z (nm_r (nI_1 i) (ih (i + 1) (by omega) (lt_s (p := fun j => tk j = 15 → tv j < c) H (fun x => absurd x z))))
  unfold wpX_hasCallBeyond
  exact ⟨N + 1, key N 0 (by omega) (fun j hj => by omega)⟩
end
