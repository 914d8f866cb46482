/-- the scan of a list whose every token has its operands -/
def hc_Ok (a f : Nat → Nat) (i sp cnt : Nat) (need node dep par : Nat → Int32) : Prop :=
  sp ≤ i ∧ hc_Sk a f (fun g => g = hc_it f cnt 0) 0 0 i need node dep sp i ∧ (∀ k, sp = k + 1 → need k ≠ 0) ∧ (∀ k, k < cnt → hc_it f k 0 < i) ∧
  (∀ j, j < i → (∃ k, k < cnt ∧ j = hc_it f k 0 ∧ dep j = nI 1 ∧ par j = -1) ∨ (∃ t d, t < j ∧ hc_Ch a f t j ∧ par j = nI t ∧ dep t = nI d ∧ dep j = nI (d + 1))) ∧ cnt ≤ i ∧ (∀ j, j < i → ∃ d, 1 ≤ d ∧ d ≤ j + 1 ∧ dep j = nI d)
def hc_c1 (sp cnt : Nat) : Nat := if 0 < sp then cnt else cnt + 1
def hc_p1 (sp : Nat) (node : Nat → Int32) : Int32 := if 0 < sp then node (sp - 1) else -1
theorem hc_Ok_s {a f : Nat → Nat} {N i sp cnt : Nat} {need node dep par : Nat → Int32} (h3 : ∀ t, a t ≤ 3) (L : hc_Lk a f 0 N) (hi : i < N) (h : hc_Ok a f i sp cnt need node dep par) :
    hc_Ok a f (i + 1) (hc_pp (hc_n1 sp (a i) need) (sp + 1)) (hc_c1 sp cnt) (hc_n1 sp (a i) need) (upd node sp (nI i)) (upd dep i (nI (sp + 1))) (upd par i (hc_p1 sp node)) := by
  obtain ⟨b1, b2, b3, b4, b5, b6, b7⟩ := h
  have LL : ∀ t, 0 ≤ t → t < i + 1 → f t = hc_it f (a t) (t + 1) := fun t _ ht => (L t (Nat.zero_le _) (by omega)).2
  have key : ∀ (R : Nat → Prop) (s : Nat), hc_Sk a f R 0 0 (i + 1) (hc_n1 sp (a i) need) (upd node sp (nI i)) (upd dep i (nI (sp + 1))) (s + 1) (i + 1) → s = sp → hc_Sk a f R 0 0 (i + 1) (hc_n1 sp (a i) need) (upd node sp (nI i)) (upd dep i (nI (sp + 1))) (hc_pp (hc_n1 sp (a i) need) (sp + 1)) (i + 1) ∧ hc_pp (hc_n1 sp (a i) need) (sp + 1) ≤ i + 1 ∧ (∀ k, hc_pp (hc_n1 sp (a i) need) (sp + 1) = k + 1 → hc_n1 sp (a i) need k ≠ 0) := by
    intro R s hs es
    subst es
    obtain ⟨s', i1, i2, i3, i4⟩ := hc_Sk_pp LL (fun t _ _ => h3 t) (fun _ _ k hk => by omega) (s + 1) (i + 1) hs
    have e : hc_pp (hc_n1 s (a i) need) (s + 1) = s' := by rw [← Nat.zero_add (s + 1), i2, Nat.zero_add]
    rw [e]
    exact ⟨i3, by omega, fun k hk => i4 k (by omega)⟩
  have dd : ∀ j, j < i → upd dep i (nI (sp + 1)) j = dep j := fun j hj => pk_un (by omega)
  have dp : ∀ j, j < i → upd par i (hc_p1 sp node) j = par j := fun j hj => pk_un (by omega)
  have B7 : ∀ j, j < i + 1 → ∃ d, 1 ≤ d ∧ d ≤ j + 1 ∧ upd dep i (nI (sp + 1)) j = nI d := by
    intro j hj
    by_cases e : j = i
    · subst e; exact ⟨sp + 1, by omega, by omega, pk_us⟩
    · rw [dd j (by omega)]; exact b7 j (by omega)
  cases sp with
  | zero =>
    have ei : i = hc_it f cnt 0 := b2
    have c1 : hc_c1 0 cnt = cnt + 1 := if_neg (by omega)
    have p1 : hc_p1 0 node = -1 := if_neg (by omega)
    rw [c1, p1]
    obtain ⟨k1, k2, k3⟩ := key (fun g => g = hc_it f (cnt + 1) 0) 0 (hc_Sk_base (k0 := 0) (by rw [hc_it_s, ← ei]) (Nat.zero_le _) rfl) rfl
    refine ⟨k2, k1, k3, fun k hk => ?_, fun j hj => ?_, by omega, B7⟩
    · by_cases e : k = cnt
      · rw [e, ← ei]; omega
      · have := b4 k (by omega); omega
    · by_cases e : j = i
      · subst e
        exact Or.inl ⟨cnt, by omega, ei, pk_us, pk_us⟩
      · rw [dd j (by omega), pk_un e]
        rcases b5 j (by omega) with ⟨k, y1, y2⟩ | ⟨t, d, y1, y2, y3, y4, y5⟩
        · exact Or.inl ⟨k, by omega, y2⟩
        · exact Or.inr ⟨t, d, y1, y2, y3, by rw [dd t (by omega)]; exact y4, y5⟩
  | succ s =>
    have c1 : hc_c1 (s + 1) cnt = cnt := if_pos (by omega)
    have p1 : hc_p1 (s + 1) node = node s := if_pos (by omega)
    rw [c1, p1]
    rw [p1] at dp
    have z : need (0 + s) ≠ 0 := by rw [Nat.zero_add]; exact b3 s rfl
    obtain ⟨S2, t, t1, t2, t3, t4, t5⟩ := hc_Sk_in h3 (fun g (hg : g = hc_it f cnt 0) => hg) b2 (Nat.zero_le _) z (di := nI (s + 1 + 1)) (by rw [Nat.zero_add])
    rw [Nat.zero_add] at S2 t4 t5
    obtain ⟨k1, k2, k3⟩ := key (fun g => g = hc_it f cnt 0) (s + 1) S2 rfl
    refine ⟨k2, k1, k3, fun k hk => ?_, fun j hj => ?_, by omega, B7⟩
    · have := b4 k hk; omega
    · by_cases e : j = i
      · subst e
        exact Or.inr ⟨t, s + 1, t2, t3, by rw [pk_us]; exact t4, by rw [dd t t2]; exact t5, pk_us⟩
      · rw [dd j (by omega), pk_un e]
        rcases b5 j (by omega) with ⟨k, y1, y2⟩ | ⟨t, d, y1, y2, y3, y4, y5⟩
        · exact Or.inl ⟨k, y1, y2⟩
        · exact Or.inr ⟨t, d, y1, y2, y3, by rw [dd t (by omega)]; exact y4, y5⟩
theorem hc_Ok_0 {a f : Nat → Nat} {need node dep par : Nat → Int32} : hc_Ok a f 0 0 0 need node dep par :=
  ⟨Nat.le_refl _, rfl, fun k hk => by omega, fun k hk => by omega, fun j hj => by omega, Nat.le_refl _, fun j hj => by omega⟩
theorem hc_Ok_e {a f : Nat → Nat} {N sp cnt : Nat} {need node dep par : Nat → Int32} (L : hc_Lk a f 0 N) (h : hc_Ok a f N sp cnt need node dep par) : sp = 0 ∧ hc_it f cnt 0 = N := by
  obtain ⟨b1, b2, b3, b4, b5, b6⟩ := h
  cases sp with
  | zero => exact ⟨rfl, (show N = _ from b2).symm⟩
  | succ s =>
    obtain ⟨t, m, h1, h2, h3, h4, h5, h6, h7, h8⟩ := b2
    have z := b3 s rfl
    rw [Nat.zero_add] at h1
    have m0 : 0 < m := by
      rcases Nat.eq_zero_or_pos m with y | y
      · rw [h1, y, nI_0] at z; exact absurd rfl z
      · exact y
    have := (L t (Nat.zero_le _) h4).1 (a t - m) (by omega)
    omega
theorem hc_sub1 {x m : Nat} (h : m + 1 ≤ x) : x - m = x - (m + 1) + 1 := by omega
/-- the scan of a list in which token t0 lacks operands: its entry stays -/
def hc_R (a f : Nat → Nat) (t0 q0 k : Nat) (need : Nat → Int32) (g : Nat) : Prop := ∃ m, need k = nI m ∧ m ≤ a t0 ∧ a t0 - m ≤ q0 ∧ g = hc_it f (a t0 - m) (t0 + 1)
def hc_Bad (a f : Nat → Nat) (t0 q0 i sp : Nat) (need node dep : Nat → Int32) : Prop :=
  sp ≤ i ∧ (t0 < i → ∃ k s, sp = k + 1 + s ∧ hc_Sk a f (hc_R a f t0 q0 k need) (k + 1) (t0 + 1) i need node dep s i ∧ (∀ k', sp = k' + 1 → need k' ≠ 0))
theorem hc_Bad_s {a f : Nat → Nat} {N t0 q0 i sp : Nat} {need node dep : Nat → Int32} (h3 : ∀ t, a t ≤ 3) (L : hc_Lk a f (t0 + 1) N) (hq0 : q0 < a t0) (hN : N ≤ hc_it f q0 (t0 + 1)) (hi : i < N) (h : hc_Bad a f t0 q0 i sp need node dep) :
    hc_Bad a f t0 q0 (i + 1) (hc_pp (hc_n1 sp (a i) need) (sp + 1)) (hc_n1 sp (a i) need) (upd node sp (nI i)) (upd dep i (nI (sp + 1))) := by
  obtain ⟨b1, b2⟩ := h
  have LL : ∀ t, t0 + 1 ≤ t → t < i + 1 → f t = hc_it f (a t) (t + 1) := fun t h1 ht => (L t h1 (by omega)).2
  have bd := hc_pp_le (hc_n1 sp (a i) need) (sp + 1)
  refine ⟨by omega, fun ht => ?_⟩
  have key : ∀ k s, sp = k + s → hc_Sk a f (hc_R a f t0 q0 k (hc_n1 sp (a i) need)) (k + 1) (t0 + 1) (i + 1) (hc_n1 sp (a i) need) (upd node sp (nI i)) (upd dep i (nI (sp + 1))) s (i + 1) →
      ∃ k s, hc_pp (hc_n1 sp (a i) need) (sp + 1) = k + 1 + s ∧ hc_Sk a f (hc_R a f t0 q0 k (hc_n1 sp (a i) need)) (k + 1) (t0 + 1) (i + 1) (hc_n1 sp (a i) need) (upd node sp (nI i)) (upd dep i (nI (sp + 1))) s (i + 1) ∧ (∀ k', hc_pp (hc_n1 sp (a i) need) (sp + 1) = k' + 1 → hc_n1 sp (a i) need k' ≠ 0) := by
    intro k s es hs
    obtain ⟨s', i1, i2, i3, i4⟩ := hc_Sk_pp LL (fun t _ _ => h3 t) (fun g hg k' hk' => by
      have e : k' = k := by omega
      subst e
      obtain ⟨m, m1, m2, m3, m4⟩ := hg
      have := h3 t0
      rw [m1]
      exact nI_ne0 (by omega) (by omega)) s (i + 1) hs
    have e2 : hc_pp (hc_n1 sp (a i) need) (sp + 1) = k + 1 + s' := by
      have e : sp + 1 = k + 1 + s := by omega
      rw [e]; exact i2
    exact ⟨k, s', e2, i3, fun k' hk' => i4 k' (by rw [e2] at hk'; exact hk')⟩
  by_cases e : i = t0
  · subst e
    refine key sp 0 rfl ⟨a i, pk_us, Nat.le_refl _, by omega, ?_⟩
    rw [Nat.sub_self]; rfl
  · obtain ⟨k, s, e1, e2, e3⟩ := b2 (by omega)
    cases s with
    | zero =>
      obtain ⟨m, m1, m2, m3, m4⟩ := e2
      have hq : a t0 - m ≠ q0 := fun z => by rw [z] at m4; omega
      obtain ⟨m', rfl⟩ : ∃ m', m = m' + 1 := ⟨m - 1, by omega⟩
      subst e1
      refine key k 1 rfl (hc_Sk_base ⟨m', ?_, by omega, by omega, ?_⟩ (by omega) rfl)
      · unfold hc_n1
        rw [pk_un (by omega), if_pos (by omega)]
        show upd need k (need k - 1) k = _
        rw [pk_us, m1, nI_pred]
      · rw [hc_sub1 m2, hc_it_s, ← m4]
    | succ s =>
      subst e1
      have z : need (k + 1 + s) ≠ 0 := e3 (k + 1 + s) rfl
      obtain ⟨S2, -⟩ := hc_Sk_in (R' := hc_R a f t0 q0 k (hc_n1 (k + 1 + s + 1) (a i) need)) h3 (fun g ⟨m, m1, m2⟩ => ⟨m, by
        unfold hc_n1
        rw [pk_un (by omega), if_pos (by omega), pk_un (by omega)]
        exact m1, m2⟩) e2 (by omega) z (di := nI (k + 1 + s + 1 + 1)) rfl
      exact key k (s + 2) (by omega) S2
theorem hc_Bad_0 {a f : Nat → Nat} {t0 q0 : Nat} {need node dep : Nat → Int32} : hc_Bad a f t0 q0 0 0 need node dep := ⟨Nat.le_refl _, fun h => by omega⟩
theorem hc_Bad_e {a f : Nat → Nat} {N t0 q0 sp : Nat} {need node dep : Nat → Int32} (ht : t0 < N) (h : hc_Bad a f t0 q0 N sp need node dep) : 0 < sp := by
  obtain ⟨k, s, e, -⟩ := h.2 ht
  omega
