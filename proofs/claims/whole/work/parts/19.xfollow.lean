/-! the component: what follows -/
theorem fb_or' : ∀ a : Fin 64, ∀ b : Fin 64, nI a.val ||| nI b.val = nI (a.val ||| b.val) ∧ a.val ||| b.val < 64 := by decide +kernel
theorem fb_or {a b : Nat} (ha : a < 64) (hb : b < 64) : nI a ||| nI b = nI (a ||| b) ∧ a ||| b < 64 := fb_or' ⟨a, ha⟩ ⟨b, hb⟩
theorem fb_sh' : ∀ s : Fin 6, (1 : Int32) <<< (nI s.val &&& 31) = nI (2 ^ s.val) ∧ 2 ^ s.val < 64 := by decide +kernel
theorem fb_sh {s : Nat} (hs : s < 6) : (1 : Int32) <<< (nI s &&& 31) = nI (2 ^ s) ∧ 2 ^ s < 64 := fb_sh' ⟨s, hs⟩
def fb_S (f : pu_C) (k t : Nat) : pf_S := fun n i => (f n i k).testBit t = true
theorem fb_ext {a b : Nat} (ha : a < 64) (hb : b < 64) (h : ∀ t, t < 6 → a.testBit t = b.testBit t) : a = b := by
  apply Nat.eq_of_testBit_eq
  intro t
  by_cases c : t < 6
  · exact h t c
  · have p : 2 ^ 6 ≤ 2 ^ t := Nat.pow_le_pow_right (by decide) (by omega)
    rw [Nat.testBit_lt_two_pow (Nat.lt_of_lt_of_le ha p), Nat.testBit_lt_two_pow (Nat.lt_of_lt_of_le hb p)]
theorem pf_606 {g : gr_G} {s i j : Nat} (S : pu_HS g (pu_HH g)) (ok : pu_ok s) (hij : i ≤ j) (hj : j ≤ gr_L g) : pu_ps g (pu_HH g) s i j 606 ↔ pf_ps g s i j :=
  ⟨fun h => pu_ps_mono (by decide) h, fun h => pu_ps_cut (m := 605) (fun n i j hv => (S n i j hv).2.2) ok hij hj h⟩
section
variable {g : gr_G} {f_chartReady f_countsReady f_distancesReady f_followsReady f_filled : Int32} {a_lefts a_rights a_ops a_constants a_text a_heights a_chosen a_firstEnds a_secondEnds a_order a_counts a_distances a_follows a_sizes : Nat → Int32} {a_values a_operands : Nat → Int64} {a_productive a_used : Nat → Int32}
theorem xs_fop {post : Int32 → Prop} {f : pu_C} {s i k : Nat} {s' i' k' : Int32} (es : s' = sy_m s) (ei : i' = nI i) (ek : k' = nI k) (ok : pu_ok s) (hik : i ≤ k) (hk : k ≤ gr_L g) (W : gr_W g) (mf : xm_D g a_follows f) (hb : ∀ n i j, pu_V g n i j → f n i j < 64)
    (h : ∀ m, m < 64 → (∀ t, t < 6 → (m.testBit t = true ↔ pf_fp k t (fb_S f k t) s i)) → post (nI m)) : wpX_followsOfPart post (nI (gr_P g), nI (gr_L g), f_chartReady, f_countsReady, f_distancesReady, f_followsReady, f_filled, a_lefts, a_rights, a_ops, a_constants, a_text, a_heights, a_chosen, a_firstEnds, a_secondEnds, a_order, a_counts, a_distances, a_follows, a_sizes, a_values, a_operands, a_productive, a_used) s' i' k' := by
  subst es ei ek
  have hL := W.2.1
  have z0 : ∀ t, t < 6 → ((0 : Nat).testBit t = true ↔ False) := fun t _ => by rw [Nat.zero_testBit]; exact ⟨fun q => absurd q (by decide), fun q => q.elim⟩
  refine ek_if (sy_lt ok) (fun c => ek_if (sy_e1 ok) (fun e => ?_) (fun e => ?_)) (fun c => ?_)
  · refine h 0 (by decide) (fun t ht => (z0 t ht).trans ⟨fun q => q.elim, fun q => ?_⟩)
    obtain q | q := q
    · omega
    · unfold pu_nt at q; omega
  · have s6 : s < 6 := by unfold pu_ok at ok; omega
    refine pk_eq i k (fun e2 => ?_) (fun e2 => ?_)
    · have := h (2 ^ s) (fb_sh s6).2 (fun t ht => by
        rw [Nat.testBit_two_pow]
        constructor
        · intro q; exact Or.inl ⟨by omega, of_decide_eq_true q, e2⟩
        · intro q
          obtain q | q := q
          · exact decide_eq_true q.2.1
          · unfold pu_nt at q; omega)
      rw [sy_n (by omega), (fb_sh s6).1]; exact this
    · refine h 0 (by decide) (fun t ht => (z0 t ht).trans ⟨fun q => q.elim, fun q => ?_⟩)
      obtain q | q := q
      · omega
      · unfold pu_nt at q; omega
  · have nt : pu_nt s := by unfold pu_nt; unfold pu_ok at ok; omega
    have hv := xb_ntV ok nt hik hk
    have hl := cx_lt W hv
    refine xb_cell (s - 10) i k (sy_nt nt) rfl rfl ⟨vp_in_nI hl (by decide), ?_⟩
    rw [nI_clamp (by omega), mf _ _ _ hv]
    refine h _ (hb _ _ _ hv) (fun t ht => ⟨fun q => Or.inr ⟨nt, q⟩, fun q => ?_⟩)
    obtain q | q := q
    · unfold pu_nt at nt; omega
    · exact q.2
/-- what has been gathered: the first parts that end before a -/
def fd_A (g : gr_G) (k t : Nat) (S : pf_S) (p i a : Nat) : Prop := pf_fp k t S (gr_R g (3 * p)) i ∨ (∃ u, i ≤ u ∧ u < a ∧ pf_ps g (gr_R g (3 * p)) i u ∧ pf_fp k t S (gr_R g (3 * p + 1)) u) ∨ (∃ u v, i ≤ u ∧ u < a ∧ u ≤ v ∧ v ≤ k ∧ pf_ps g (gr_R g (3 * p)) i u ∧ pf_ps g (gr_R g (3 * p + 1)) u v ∧ pf_fp k t S (gr_R g (3 * p + 2)) v)
def fd_B (g : gr_G) (k t : Nat) (S : pf_S) (p i a b : Nat) : Prop := fd_A g k t S p i a ∨ pf_fp k t S (gr_R g (3 * p + 1)) a ∨ (∃ v, a ≤ v ∧ v < b ∧ pf_ps g (gr_R g (3 * p + 1)) a v ∧ pf_fp k t S (gr_R g (3 * p + 2)) v)
theorem fd_AB {g : gr_G} {k t : Nat} {S : pf_S} {p i a : Nat} (hia : i ≤ a) (hak : a ≤ k) (f0 : pf_ps g (gr_R g (3 * p)) i a) : fd_B g k t S p i a (k + 1) ↔ fd_A g k t S p i (a + 1) := by
  constructor
  · intro h
    obtain (h | ⟨u, h1, h2, h3⟩ | ⟨u, v, h1, h2, h3⟩) | h | ⟨v, h1, h2, h3, h4⟩ := h
    · exact Or.inl h
    · exact Or.inr (Or.inl ⟨u, h1, by omega, h3⟩)
    · exact Or.inr (Or.inr ⟨u, v, h1, by omega, h3⟩)
    · exact Or.inr (Or.inl ⟨a, hia, by omega, f0, h⟩)
    · exact Or.inr (Or.inr ⟨a, v, hia, by omega, h1, by omega, f0, h3, h4⟩)
  · intro h
    obtain h | ⟨u, h1, h2, h3, h4⟩ | ⟨u, v, h1, h2, h3, h4, h5, h6, h7⟩ := h
    · exact Or.inl (Or.inl h)
    · by_cases c : u = a
      · rw [c] at h4; exact Or.inr (Or.inl h4)
      · exact Or.inl (Or.inr (Or.inl ⟨u, h1, by omega, h3, h4⟩))
    · by_cases c : u = a
      · rw [c] at h3 h6; exact Or.inr (Or.inr ⟨v, h3, by omega, h6, h7⟩)
      · exact Or.inl (Or.inr (Or.inr ⟨u, v, h1, by omega, h3, h4, h5, h6, h7⟩))
theorem fd_AA {g : gr_G} {k t : Nat} {S : pf_S} {p i a : Nat} (f0 : ¬ pf_ps g (gr_R g (3 * p)) i a) : fd_A g k t S p i a ↔ fd_A g k t S p i (a + 1) := by
  constructor
  · intro h
    obtain h | ⟨u, h1, h2, h3⟩ | ⟨u, v, h1, h2, h3⟩ := h
    · exact Or.inl h
    · exact Or.inr (Or.inl ⟨u, h1, by omega, h3⟩)
    · exact Or.inr (Or.inr ⟨u, v, h1, by omega, h3⟩)
  · intro h
    obtain h | ⟨u, h1, h2, h3, h4⟩ | ⟨u, v, h1, h2, h3, h4, h5, h6, h7⟩ := h
    · exact Or.inl h
    · by_cases c : u = a
      · rw [c] at h3; exact absurd h3 f0
      · exact Or.inr (Or.inl ⟨u, h1, by omega, h3, h4⟩)
    · by_cases c : u = a
      · rw [c] at h5; exact absurd h5 f0
      · exact Or.inr (Or.inr ⟨u, v, h1, by omega, h3, h4, h5, h6, h7⟩)
theorem fd_Aco {g : gr_G} {k t : Nat} {S : pf_S} {p i : Nat} : fd_A g k t S p i (k + 1) ↔ pf_co g k t S p i := by
  constructor
  · intro h
    obtain h | ⟨u, h1, h2, h3⟩ | ⟨u, v, h1, h2, h3, h4, h5⟩ := h
    · exact Or.inl h
    · exact Or.inr (Or.inl ⟨u, h1, by omega, h3⟩)
    · exact Or.inr (Or.inr ⟨u, v, h1, h3, h4, h5⟩)
  · intro h
    obtain h | ⟨u, h1, h2, h3⟩ | ⟨u, v, h1, h3, h4, h5⟩ := h
    · exact Or.inl h
    · exact Or.inr (Or.inl ⟨u, h1, by omega, h3⟩)
    · exact Or.inr (Or.inr ⟨u, v, h1, by omega, h3, h4, h5⟩)
theorem fb_join {a b : Nat} {P Q R : Nat → Prop} (ha : ∀ t, t < 6 → (a.testBit t = true ↔ P t)) (hb : ∀ t, t < 6 → (b.testBit t = true ↔ Q t)) (h : ∀ t, (P t ∨ Q t) ↔ R t) : ∀ t, t < 6 → ((a ||| b).testBit t = true ↔ R t) := by
  intro t ht
  rw [Nat.testBit_or, Bool.or_eq_true, ha t ht, hb t ht]; exact h t
theorem xs_fd75 {post : Int32 → Prop} {J19 : Int32 → Int32 → Prop} {f : pu_C} {p i k a : Nat} (W : gr_W g) (hp : p < gr_P g) (hia : i ≤ a) (hak : a ≤ k) (hk : k ≤ gr_L g) (tx : xm_T g a_text) (mR : xm_R g a_rights) (S : pu_HS g (pu_HH g)) (mH : xm_H g a_heights (pu_HH g)) (mf : xm_D g a_follows f) (hb : ∀ n i j, pu_V g n i j → f n i j < 64)
    (hJ : ∀ m, m < 64 → (∀ t, t < 6 → (m.testBit t = true ↔ fd_B g k t (fb_S f k t) p i a (k + 1))) → J19 (nI m) (nI (a + 1))) :
    ∀ d b m, b + d = k + 1 → a ≤ b → m < 64 → (∀ t, t < 6 → (m.testBit t = true ↔ fd_B g k t (fb_S f k t) p i a b)) → wX_followsOfDivisions_75 post J19 (nI p) (nI i) (nI k) (nI a) (nI (gr_P g)) (nI (gr_L g)) f_chartReady f_countsReady f_distancesReady f_followsReady f_filled a_lefts a_rights a_ops a_constants a_text a_heights a_chosen a_firstEnds a_secondEnds a_order a_counts a_distances a_follows a_sizes a_values a_operands a_productive a_used (d + 1) (nI m) (nI b) := by
  have hL := W.2.1
  have hP := W.1
  intro d
  induction d with
  | zero =>
    intro b m hbd hab hm I
    have e : b = k + 1 := by omega
    subst e
    exact br_t (nI_lt (by omega) (by omega)) (nm_r (nI_1 a) (hJ m hm I))
  | succ d ih =>
    intro b m hbd hab hm I
    refine br_f (nI_nlt (by omega) (by omega)) ⟨xb_i1 (by omega), ?_⟩
    refine xs_fits (g := g) (H := pu_HH g) (h := 606) (xm_R1 W mR hp) rfl rfl rfl (pu_okR W hp (by decide)) hab (by omega) W (by decide) tx mH (fun n i j hv => by have := (S n i j hv).2.2; omega) (fun f1 => br_f (by decide) ⟨xb_i2 (by omega), ?_⟩) (fun f1 => br_t rfl (nm_r (nI_1 b) (ih (b + 1) m (by omega) (by omega) hm (fun t ht => (I t ht).trans ?_))))
    · rw [pf_606 S (pu_okR W hp (by decide)) hab (by omega)] at f1
      refine xs_fop (g := g) (f := f) (xm_R2 W mR hp) rfl rfl (pu_okR W hp (by decide)) (by omega) hk W mf hb (fun m2 hm2 h2 => nm_r (fb_or hm hm2).1 (nm_r (nI_1 b) (ih (b + 1) _ (by omega) (by omega) (fb_or hm hm2).2 (fb_join I h2 (fun t => ⟨fun h => ?_, fun h => ?_⟩)))))
      · obtain (h | h | ⟨v, h1, h2, h3⟩) | h := h
        · exact Or.inl h
        · exact Or.inr (Or.inl h)
        · exact Or.inr (Or.inr ⟨v, h1, by omega, h3⟩)
        · exact Or.inr (Or.inr ⟨b, hab, by omega, f1, h⟩)
      · obtain h | h | ⟨v, h1, h2, h3, h4⟩ := h
        · exact Or.inl (Or.inl h)
        · exact Or.inl (Or.inr (Or.inl h))
        · by_cases c : v = b
          · rw [c] at h4; exact Or.inr h4
          · exact Or.inl (Or.inr (Or.inr ⟨v, h1, by omega, h3, h4⟩))
    · rw [pf_606 S (pu_okR W hp (by decide)) hab (by omega)] at f1
      constructor
      · intro h
        obtain h | h | ⟨v, h1, h2, h3⟩ := h
        · exact Or.inl h
        · exact Or.inr (Or.inl h)
        · exact Or.inr (Or.inr ⟨v, h1, by omega, h3⟩)
      · intro h
        obtain h | h | ⟨v, h1, h2, h3, h4⟩ := h
        · exact Or.inl h
        · exact Or.inr (Or.inl h)
        · by_cases c : v = b
          · rw [c] at h3; exact absurd h3 f1
          · exact Or.inr (Or.inr ⟨v, h1, by omega, h3, h4⟩)
theorem xs_fod {post : Int32 → Prop} {f : pu_C} {p i k : Nat} (W : gr_W g) (hp : p < gr_P g) (hik : i ≤ k) (hk : k ≤ gr_L g) (tx : xm_T g a_text) (mR : xm_R g a_rights) (S : pu_HS g (pu_HH g)) (mH : xm_H g a_heights (pu_HH g)) (mf : xm_D g a_follows f) (hb : ∀ n i j, pu_V g n i j → f n i j < 64)
    (h : ∀ m, m < 64 → (∀ t, t < 6 → (m.testBit t = true ↔ pf_co g k t (fb_S f k t) p i)) → post (nI m)) : wpX_followsOfDivisions post (nI (gr_P g), nI (gr_L g), f_chartReady, f_countsReady, f_distancesReady, f_followsReady, f_filled, a_lefts, a_rights, a_ops, a_constants, a_text, a_heights, a_chosen, a_firstEnds, a_secondEnds, a_order, a_counts, a_distances, a_follows, a_sizes, a_values, a_operands, a_productive, a_used) (nI p) (nI i) (nI k) := by
  have hL := W.2.1
  have hP := W.1
  have K19 : ∀ d a m, a + d = k + 1 → i ≤ a → m < 64 → (∀ t, t < 6 → (m.testBit t = true ↔ fd_A g k t (fb_S f k t) p i a)) → wX_followsOfDivisions_19 post (nI p) (nI i) (nI k) (nI (gr_P g)) (nI (gr_L g)) f_chartReady f_countsReady f_distancesReady f_followsReady f_filled a_lefts a_rights a_ops a_constants a_text a_heights a_chosen a_firstEnds a_secondEnds a_order a_counts a_distances a_follows a_sizes a_values a_operands a_productive a_used (d + 1) (nI m) (nI a) := by
    intro d
    induction d with
    | zero =>
      intro a m ha hia hm I
      have e : a = k + 1 := by omega
      subst e
      exact br_t (nI_lt (by omega) (by omega)) (h m hm (fun t ht => (I t ht).trans fd_Aco))
    | succ d ih =>
      intro a m ha hia hm I
      refine br_f (nI_nlt (by omega) (by omega)) ⟨xb_i0 (by omega), ?_⟩
      refine xs_fits (g := g) (H := pu_HH g) (h := 606) (xm_R0 W mR hp) rfl rfl rfl (pu_okR0 W hp) hia (by omega) W (by decide) tx mH (fun n i j hv => by have := (S n i j hv).2.2; omega) (fun f0 => br_f (by decide) ⟨xb_i1 (by omega), ?_⟩) (fun f0 => br_t rfl (nm_r (nI_1 a) (ih (a + 1) m (by omega) (by omega) hm (fun t ht => (I t ht).trans (fd_AA (fun z => f0 ((pf_606 S (pu_okR0 W hp) hia (by omega)).mpr z)))))))
      rw [pf_606 S (pu_okR0 W hp) hia (by omega)] at f0
      refine xs_fop (g := g) (f := f) (xm_R1 W mR hp) rfl rfl (pu_okR W hp (by decide)) (by omega) hk W mf hb (fun m2 hm2 h2 => nm_r (fb_or hm hm2).1 ⟨k + 1 - a + 1, ?_⟩)
      refine xs_fd75 (g := g) (f := f) W hp hia (by omega) hk tx mR S mH mf hb (fun m3 hm3 h3 => ih (a + 1) m3 (by omega) (by omega) hm3 (fun t ht => (h3 t ht).trans (fd_AB hia (by omega) f0))) (k + 1 - a) a _ (by omega) (Nat.le_refl _) (fb_or hm hm2).2 (fb_join I h2 (fun t => ⟨fun h => ?_, fun h => ?_⟩))
      · obtain h | h := h
        · exact Or.inl h
        · exact Or.inr (Or.inl h)
      · obtain h | h | ⟨v, h1, h2, _⟩ := h
        · exact Or.inl h
        · exact Or.inr h
        · omega
  refine ⟨xb_i0 (by omega), ?_⟩
  refine xs_fop (g := g) (f := f) (xm_R0 W mR hp) rfl rfl (pu_okR0 W hp) hik hk W mf hb (fun m hm h0 => ⟨k + 1 - i + 1, K19 (k + 1 - i) i m (by omega) (Nat.le_refl _) hm (fun t ht => (h0 t ht).trans ⟨fun q => Or.inl q, fun q => ?_⟩)⟩)
  obtain q | ⟨u, h1, h2, _⟩ | ⟨u, v, h1, h2, _⟩ := q
  · exact q
  · omega
  · omega
end
