/-! the reference: how many trees -/
def ym_m (g : gr_G) (a : Nat → Int64) (f : pu_C) : Prop := ∀ n i j, pu_V g n i j → a (cy n i j) = lN (f n i j)
def yn_mu (g : gr_G) (f : pu_C) : Nat := pu_cnt (fun x => decide (x / 11 % 11 ≤ x % 11 ∧ x % 11 ≤ gr_L g ∧ f (x / 121) (x / 11 % 11) (x % 11) = 0)) 605
theorem yn_mu_up {g : gr_G} {f : pu_C} {n i j v : Nat} (W : gr_W g) (hv : pu_V g n i j) (e : f n i j = 0) (h0 : 0 < v) : yn_mu g (up3 f n i j v) < yn_mu g f := by
  obtain ⟨e1, e2, e3⟩ := pd_cell W hv
  refine pu_cnt_lt (x0 := cx n i j) ?_ ?_ (fun x hx q => ?_) (cx_lt W hv)
  · rw [e1, e2, e3, up3_s]; exact decide_eq_false (fun q => by have := q.2.2; omega)
  · rw [e1, e2, e3]; exact decide_eq_true ⟨hv.2.1, hv.2.2, e⟩
  · have q := of_decide_eq_true q
    refine decide_eq_true ⟨q.1, q.2.1, ?_⟩
    by_cases z : x / 121 = n ∧ x / 11 % 11 = i ∧ x % 11 = j
    · rw [z.1, z.2.1, z.2.2]; exact e
    · have := q.2.2; rw [up3_n z] at this; exact this
theorem ym_m_up {g : gr_G} {a : Nat → Int64} {f : pu_C} (W : gr_W g) (m : ym_m g a f) {n i j : Nat} (hv : pu_V g n i j) (v : Nat) : ym_m g (vp_updL a (cy n i j) (lN v)) (up3 f n i j v) := by
  intro a' b c hv'
  by_cases z : a' = n ∧ b = i ∧ c = j
  · obtain ⟨rfl, rfl, rfl⟩ := z
    rw [pk_uLs, up3_s]
  · rw [up3_n z, pk_uLn (fun e => z (cy_inj W hv' hv e))]
    exact m a' b c hv'
section
variable {g : gr_G} {f_goal f_extra f_measured f_known f_more : Int32} {f_sum : Int64} {a_left a_size a_right a_text a_ops a_constants a_heights : Nat → Int32} {a_many : Nat → Int64} {a_chosen a_firstEnd a_secondEnd : Nat → Int32} {a_values a_nodes : Nat → Int64} {a_far a_productive a_useful a_covers : Nat → Int32}
theorem ys_number {post : Int64 → Prop} {f : pu_C} {s i j : Nat} {s' i' j' : Int32} (es : s' = sy_m s) (ei : i' = nI i) (ej : j' = nI j) (ok : pu_ok s) (hij : i ≤ j) (hj : j ≤ gr_L g) (W : gr_W g) (mm : ym_m g a_many f) (h : post (lN (pu_pt f s i j))) : wpY_number post (nI (gr_P g), nI (gr_L g), f_goal, f_extra, f_measured, f_known, f_more, f_sum, a_left, a_size, a_right, a_text, a_ops, a_constants, a_heights, a_many, a_chosen, a_firstEnd, a_secondEnd, a_values, a_nodes, a_far, a_productive, a_useful, a_covers) s' i' j' := by
  subst es ei ej
  refine ek_if (sy_ge ok) (fun c => ?_) (fun c => ?_)
  · have hv := xb_ntV ok c hij hj
    have hl := cy_lt W hv
    refine ys_cell (s - 10) i j (sy_nt c) rfl rfl ⟨vp_in_nI hl (by decide), ?_⟩
    rw [nI_clamp (by omega), mm _ _ _ hv]
    have e : pu_pt f s i j = f (s - 10) i j := if_pos c
    rw [e] at h; exact h
  · have e : pu_pt f s i j = 1 := if_neg c
    rw [e] at h; exact h
theorem ys_capped {post : Int64 → Prop} {x : Nat} {x' : Int64} (e : x' = lN x) (hx : x < 2 ^ 63) (h : post (lN (pu_cap x))) : wpY_capped post (nI (gr_P g), nI (gr_L g), f_goal, f_extra, f_measured, f_known, f_more, f_sum, a_left, a_size, a_right, a_text, a_ops, a_constants, a_heights, a_many, a_chosen, a_firstEnd, a_secondEnd, a_values, a_nodes, a_far, a_productive, a_useful, a_covers) x' := by
  subst e
  refine ek_if (d := 1000000000 ≤ x) (pk_lLE (a := 1000000000) (by decide) hx) (fun c => ?_) (fun c => ?_)
  · have e : pu_cap x = 1000000000 := if_neg (by omega)
    rw [e] at h; exact h
  · have e : pu_cap x = x := if_pos (by omega)
    rw [e] at h; exact h
theorem ys_add132 {post : Int32 → SY → Prop} {J3 J13 : Int32 → Int64 → Prop} {x1 x2 x3 x4 : Int32} {v a b c Q : Nat} (ha : a ≤ 1000000000) (hb : b ≤ 1000000000) (hc : c ≤ 1000000000) (h0 : a = 0 ∨ b = 0 ∨ c = 0 → post 0 (nI (gr_P g), nI (gr_L g), f_goal, f_extra, f_measured, f_known, f_more, lN (pu_cap Q), a_left, a_size, a_right, a_text, a_ops, a_constants, a_heights, a_many, a_chosen, a_firstEnd, a_secondEnd, a_values, a_nodes, a_far, a_productive, a_useful, a_covers)) (h1 : 0 < a → 0 < b → 0 < c → J13 (nI (v + 1)) (lN (pu_cap (Q + pu_cap (pu_cap (a * b) * c))))) : wY_added_132 post J3 J13 x1 x2 x3 x4 (nI v) (lN a) (lN b) (lN c) (nI (gr_P g)) (nI (gr_L g)) f_goal f_extra f_measured f_known f_more (lN (pu_cap Q)) a_left a_size a_right a_text a_ops a_constants a_heights a_many a_chosen a_firstEnd a_secondEnd a_values a_nodes a_far a_productive a_useful a_covers := by
  have z : ∀ {x : Nat}, x ≤ 1000000000 → (lN x = 0 ↔ x = 0) := fun hx => pk_lEQ (b := 0) (by omega) (by decide)
  refine ek_if (z ha) (fun e => h0 (Or.inl e)) (fun ea => ek_if (z hb) (fun e => h0 (Or.inr (Or.inl e))) (fun eb => ek_if (z hc) (fun e => h0 (Or.inr (Or.inr e))) (fun ec => ?_)))
  have m1 : a * b ≤ 1000000000 * 1000000000 := Nat.mul_le_mul ha hb
  have k1 := pu_cap_le (a * b)
  have m2 : pu_cap (a * b) * c ≤ 1000000000 * 1000000000 := Nat.mul_le_mul k1 hc
  have k2 := pu_cap_le (pu_cap (a * b) * c)
  have k3 := pu_cap_le Q
  refine ys_capped (x := a * b) (by rw [lN_mul]) (by omega) (ys_capped (x := pu_cap (a * b) * c) (by rw [lN_mul]) (by omega) (ys_capped (x := pu_cap Q + pu_cap (pu_cap (a * b) * c)) (by rw [lN_add]) (by omega) (nm_r (nI_1 v) ?_)))
  rw [pu_cap_add]
  exact h1 (by omega) (by omega) (by omega)
theorem pu_pt_le {f : pu_C} (hb : ∀ n i j, pu_V g n i j → f n i j ≤ 1000000000) {s i j : Nat} (ok : pu_ok s) (hij : i ≤ j) (hj : j ≤ gr_L g) : pu_pt f s i j ≤ 1000000000 := by
  unfold pu_pt
  by_cases c : 10 ≤ s ∧ s < 99
  · rw [if_pos c]; exact hb _ _ _ (xb_ntV ok c hij hj)
  · rw [if_neg c]; omega
theorem pu_pt_a {f : pu_C} {s i j : Nat} (h : s = 99) : pu_pt f s i j = 1 := if_neg (by omega)
theorem ys_add {post : Int32 → SY → Prop} {J3 J13 : Int32 → Int64 → Prop} {f : pu_C} {p i j u v Q : Nat} (W : gr_W g) (hp : p < gr_P g) (h1 : i ≤ u) (h2 : u ≤ v) (h3 : v ≤ j) (hj : j ≤ gr_L g) (mR : xm_R g a_right) (mZ : ym_Z g a_size) (mm : ym_m g a_many f) (hb : ∀ n i j, pu_V g n i j → f n i j ≤ 1000000000)
    (hE : ¬ pu_c3 g (pu_ps' f) p i u v j → post 0 (nI (gr_P g), nI (gr_L g), f_goal, f_extra, f_measured, f_known, f_more, lN (pu_cap Q), a_left, a_size, a_right, a_text, a_ops, a_constants, a_heights, a_many, a_chosen, a_firstEnd, a_secondEnd, a_values, a_nodes, a_far, a_productive, a_useful, a_covers)) (hV : pu_c3 g (pu_ps' f) p i u v j → J13 (nI (v + 1)) (lN (pu_cap (Q + pu_tm g f p i u v j)))) :
    vp_in (nI p) 12 ∧ (((1 ≤ (a_size (nI p).toNatClampNeg) → (vp_in (3 * nI p) 36 ∧ (wpY_number (fun r_35 => (wY_added_65 post J3 J13 (nI p) (nI i) (nI j) (nI u) (nI v) r_35 (nI (gr_P g)) (nI (gr_L g)) f_goal f_extra f_measured f_known f_more (lN (pu_cap Q)) a_left a_size a_right a_text a_ops a_constants a_heights a_many a_chosen a_firstEnd a_secondEnd a_values a_nodes a_far a_productive a_useful a_covers)) (nI (gr_P g), nI (gr_L g), f_goal, f_extra, f_measured, f_known, f_more, lN (pu_cap Q), a_left, a_size, a_right, a_text, a_ops, a_constants, a_heights, a_many, a_chosen, a_firstEnd, a_secondEnd, a_values, a_nodes, a_far, a_productive, a_useful, a_covers) (a_right (3 * nI p).toNatClampNeg) (nI i) (nI u)))) ∧ (¬ 1 ≤ (a_size (nI p).toNatClampNeg) → (wY_added_65 post J3 J13 (nI p) (nI i) (nI j) (nI u) (nI v) 1 (nI (gr_P g)) (nI (gr_L g)) f_goal f_extra f_measured f_known f_more (lN (pu_cap Q)) a_left a_size a_right a_text a_ops a_constants a_heights a_many a_chosen a_firstEnd a_secondEnd a_values a_nodes a_far a_productive a_useful a_covers)))) := by
  have hP := W.1
  have ok0 := pu_okR0 W hp
  have ok1 := pu_okR W hp (m := 1) (by decide)
  have ok2 := pu_okR W hp (m := 2) (by decide)
  have ez : a_size (nI p).toNatClampNeg = nI (pu_k g p) := by rw [nI_clamp (by omega)]; exact mZ p hp
  have hin : vp_in (nI p) 12 := vp_in_nI (by omega) (by decide)
  have b0 := pu_pt_le hb ok0 h1 (show u ≤ gr_L g by omega)
  have b1 := pu_pt_le hb ok1 h2 (show v ≤ gr_L g by omega)
  have b2 := pu_pt_le hb ok2 h3 hj
  have k3 := pu_k_le g p
  have T132 : wY_added_132 post J3 J13 (nI p) (nI i) (nI j) (nI u) (nI v) (lN (pu_pt f (gr_R g (3 * p)) i u)) (lN (pu_pt f (gr_R g (3 * p + 1)) u v)) (lN (pu_pt f (gr_R g (3 * p + 2)) v j)) (nI (gr_P g)) (nI (gr_L g)) f_goal f_extra f_measured f_known f_more (lN (pu_cap Q)) a_left a_size a_right a_text a_ops a_constants a_heights a_many a_chosen a_firstEnd a_secondEnd a_values a_nodes a_far a_productive a_useful a_covers := by
    refine ys_add132 b0 b1 b2 (fun z => hE (fun c => ?_)) (fun q0 q1 q2 => hV ⟨pu_pt_pos.mp q0, pu_pt_pos.mp q1, pu_pt_pos.mp q2⟩)
    have a0 := pu_pt_pos.mpr c.1
    have a1 := pu_pt_pos.mpr c.2.1
    have a2 := pu_pt_pos.mpr c.2.2
    omega
  have c := pu_k_c W hp
  have T99 : wY_added_99 post J3 J13 (nI p) (nI i) (nI j) (nI u) (nI v) (lN (pu_pt f (gr_R g (3 * p)) i u)) (lN (pu_pt f (gr_R g (3 * p + 1)) u v)) (nI (gr_P g)) (nI (gr_L g)) f_goal f_extra f_measured f_known f_more (lN (pu_cap Q)) a_left a_size a_right a_text a_ops a_constants a_heights a_many a_chosen a_firstEnd a_secondEnd a_values a_nodes a_far a_productive a_useful a_covers := by
    refine ⟨hin, pk_le 3 (pu_k g p) (fun l => ⟨xb_i2 (by omega), ys_number (f := f) (xm_R2 W mR hp) rfl rfl ok2 h3 hj W mm T132⟩) (fun l => ?_) rfl ez⟩
    rw [pu_pt_a (show gr_R g (3 * p + 2) = 99 by omega)] at T132
    exact T132
  have T65 : wY_added_65 post J3 J13 (nI p) (nI i) (nI j) (nI u) (nI v) (lN (pu_pt f (gr_R g (3 * p)) i u)) (nI (gr_P g)) (nI (gr_L g)) f_goal f_extra f_measured f_known f_more (lN (pu_cap Q)) a_left a_size a_right a_text a_ops a_constants a_heights a_many a_chosen a_firstEnd a_secondEnd a_values a_nodes a_far a_productive a_useful a_covers := by
    refine ⟨hin, pk_le 2 (pu_k g p) (fun l => ⟨xb_i1 (by omega), ys_number (f := f) (xm_R1 W mR hp) rfl rfl ok1 h2 (by omega) W mm T99⟩) (fun l => ?_) rfl ez⟩
    rw [pu_pt_a (show gr_R g (3 * p + 1) = 99 by omega)] at T99
    exact T99
  refine ⟨hin, pk_le 1 (pu_k g p) (fun l => ⟨xb_i0 (by omega), ys_number (f := f) (xm_R0 W mR hp) rfl rfl ok0 h1 (by omega) W mm T65⟩) (fun l => ?_) rfl ez⟩
  rw [pu_pt_a (show gr_R g (3 * p) = 99 by omega)] at T65
  exact T65
theorem ys_added {post : Int32 → SY → Prop} {f : pu_C} {p i j Q : Nat} (W : gr_W g) (hp : p < gr_P g) (hij : i ≤ j) (hj : j ≤ gr_L g) (tx : xm_T g a_text) (mR : xm_R g a_right) (mZ : ym_Z g a_size) (C : ym_Chart g a_heights) (mm : ym_m g a_many f) (hb : ∀ n i j, pu_V g n i j → f n i j ≤ 1000000000)
    (hE : ∀ (f_sum : Int64) u v, i ≤ u → u ≤ v → v ≤ j → pu_G g p i u v j → ¬ pu_c3 g (pu_ps' f) p i u v j → post 0 (nI (gr_P g), nI (gr_L g), f_goal, f_extra, f_measured, f_known, f_more, f_sum, a_left, a_size, a_right, a_text, a_ops, a_constants, a_heights, a_many, a_chosen, a_firstEnd, a_secondEnd, a_values, a_nodes, a_far, a_productive, a_useful, a_covers)) (hV : (∀ u v, i ≤ u → u ≤ v → v ≤ j → pu_G g p i u v j → pu_c3 g (pu_ps' f) p i u v j) → post 1 (nI (gr_P g), nI (gr_L g), f_goal, f_extra, f_measured, f_known, f_more, lN (pu_cap (Q + pu_s2 g f p i j (j + 1))), a_left, a_size, a_right, a_text, a_ops, a_constants, a_heights, a_many, a_chosen, a_firstEnd, a_secondEnd, a_values, a_nodes, a_far, a_productive, a_useful, a_covers)) : wpY_added post (nI (gr_P g), nI (gr_L g), f_goal, f_extra, f_measured, f_known, f_more, lN (pu_cap Q), a_left, a_size, a_right, a_text, a_ops, a_constants, a_heights, a_many, a_chosen, a_firstEnd, a_secondEnd, a_values, a_nodes, a_far, a_productive, a_useful, a_covers) (nI p) (nI i) (nI j) := by
  have hL := W.2.1
  have hbH : ∀ n i j, pu_V g n i j → pu_HH g n i j ≤ 1000 := fun n i j hv => by have := (C.1 n i j hv).2.2; omega
  have K13 : ∀ {J3 : Int32 → Int64 → Prop} (u Q : Nat), i ≤ u → u ≤ j → ((∀ v, u ≤ v → v ≤ j → pu_G g p i u v j → pu_c3 g (pu_ps' f) p i u v j) → J3 (nI (u + 1)) (lN (pu_cap (Q + pu_s1 g f p i u j (j + 1))))) → ∀ d v, v + d = j + 1 → u ≤ v → (∀ v', u ≤ v' → v' < v → pu_G g p i u v' j → pu_c3 g (pu_ps' f) p i u v' j) → wY_added_13 post J3 (nI p) (nI i) (nI j) (nI u) (nI (gr_P g)) (nI (gr_L g)) f_goal f_extra f_measured f_known f_more a_left a_size a_right a_text a_ops a_constants a_heights a_many a_chosen a_firstEnd a_secondEnd a_values a_nodes a_far a_productive a_useful a_covers (d + 1) (nI v) (lN (pu_cap (Q + pu_s1 g f p i u j v))) := by
    intro J3 u Q hiu huj hJ d
    induction d with
    | zero =>
      intro v hv huv hist
      have e : v = j + 1 := by omega
      subst e
      exact br_t (nI_lt (by omega) (by omega)) (nm_r (nI_1 u) (hJ (fun v' h1 h2 => hist v' h1 (by omega))))
    | succ d ih =>
      intro v hv huv hist
      have sb : pu_s1 g f p i u j (v + 1) = pu_s1 g f p i u j v + pu_tF g f p i u v j := by
        show pu_s1 g f p i u j v + (if u ≤ v then pu_tF g f p i u v j else 0) = _
        rw [if_pos huv]
      refine br_f (nI_nlt (by omega) (by omega)) (ys_fits (H := pu_HH g) W hp hiu huv (by omega) hj (by decide) tx mR mZ C.2.1 hbH (fun G => br_f (by decide) (ys_add W hp hiu huv (by omega) hj mR mZ mm hb (fun nc => hE _ u v hiu huv (by omega) G nc) (fun c => ?_))) (fun G => br_t rfl (nm_r (nI_1 v) ?_)))
      · have := ih (v + 1) (by omega) (by omega) (fun v' h1 h2 G' => by
          by_cases c' : v' = v
          · rw [c']; exact c
          · exact hist v' h1 (by omega) G')
        rw [sb, pu_tF_t G, ← Nat.add_assoc] at this
        exact this
      · have := ih (v + 1) (by omega) (by omega) (fun v' h1 h2 G' => by
          by_cases c' : v' = v
          · rw [c'] at G'; exact absurd G' G
          · exact hist v' h1 (by omega) G')
        rw [sb, pu_tF_f G] at this
        exact this
  have K3 : ∀ d u, u + d = j + 1 → i ≤ u → (∀ u' v, i ≤ u' → u' < u → u' ≤ v → v ≤ j → pu_G g p i u' v j → pu_c3 g (pu_ps' f) p i u' v j) → wY_added_3 post (nI p) (nI i) (nI j) (nI (gr_P g)) (nI (gr_L g)) f_goal f_extra f_measured f_known f_more a_left a_size a_right a_text a_ops a_constants a_heights a_many a_chosen a_firstEnd a_secondEnd a_values a_nodes a_far a_productive a_useful a_covers (d + 1) (nI u) (lN (pu_cap (Q + pu_s2 g f p i j u))) := by
    intro d
    induction d with
    | zero =>
      intro u hu hiu hist
      have e : u = j + 1 := by omega
      subst e
      exact br_t (nI_lt (by omega) (by omega)) (hV (fun u' v h1 h2 h3 => hist u' v h1 (by omega) h2 h3))
    | succ d ih =>
      intro u hu hiu hist
      refine br_f (nI_nlt (by omega) (by omega)) ⟨j + 1 - u + 1, ?_⟩
      have Z := K13 (J3 := wY_added_3 post (nI p) (nI i) (nI j) (nI (gr_P g)) (nI (gr_L g)) f_goal f_extra f_measured f_known f_more a_left a_size a_right a_text a_ops a_constants a_heights a_many a_chosen a_firstEnd a_secondEnd a_values a_nodes a_far a_productive a_useful a_covers (d + 1)) u (Q + pu_s2 g f p i j u) hiu (by omega) (fun al => by
        have := ih (u + 1) (by omega) (by omega) (fun u' v h1 h2 h3 h4 G => by
          by_cases c : u' = u
          · rw [c]; rw [c] at G h3; exact al v h3 h4 G
          · exact hist u' v h1 (by omega) h3 h4 G)
        rw [pu_s2_s hiu, ← Nat.add_assoc] at this
        exact this) (j + 1 - u) u (by omega) (Nat.le_refl _) (fun v' h1 h2 => by omega)
      rw [pu_s1_0, Nat.add_zero] at Z
      exact Z
  have Z := K3 (j + 1 - i) i (by omega) (Nat.le_refl _) (fun u' v h1 h2 => by omega)
  rw [pu_s2_0, Nat.add_zero] at Z
  exact ⟨_, Z⟩
def yn_P (g : gr_G) (m0 : Nat) (dn : Nat → Nat → Nat → Prop) (more : Int32) (a : Nat → Int64) : Prop := ∃ f, pu_CI g f ∧ ym_m g a f ∧ ((more = 0 ∧ yn_mu g f ≤ m0 ∧ ∀ n i j, pu_V g n i j → dn n i j → 0 < pu_HH g n i j → f n i j = 0 → ¬ pu_al g (pu_ps' f) n i j) ∨ (more = 1 ∧ yn_mu g f < m0))
theorem yn_P_dn {g : gr_G} {m0 : Nat} {dn dn' : Nat → Nat → Nat → Prop} {more : Int32} {a : Nat → Int64} (l : yn_P g m0 dn more a) (h : ∀ n i j, pu_V g n i j → dn' n i j → dn n i j) : yn_P g m0 dn' more a := by
  obtain ⟨f, h1, h2, ⟨e, mu, h3⟩ | h3⟩ := l
  · exact ⟨f, h1, h2, Or.inl ⟨e, mu, fun n i j hv d => h3 n i j hv (h n i j hv d)⟩⟩
  · exact ⟨f, h1, h2, Or.inr h3⟩
theorem ys_countSpan {post : SY → Prop} {m0 i j : Nat} (W : gr_W g) (hij : i ≤ j) (hj : j ≤ gr_L g) (tx : xm_T g a_text) (mR : xm_R g a_right) (mF : xm_F g a_left) (mZ : ym_Z g a_size) (C : ym_Chart g a_heights) (l : yn_P g m0 (yd_dn i j 0) f_more a_many) (hpost : ∀ (f_more : Int32) (f_sum : Int64) (a_many : Nat → Int64), yn_P g m0 (yd_dn i j 5) f_more a_many → post (nI (gr_P g), nI (gr_L g), f_goal, f_extra, f_measured, f_known, f_more, f_sum, a_left, a_size, a_right, a_text, a_ops, a_constants, a_heights, a_many, a_chosen, a_firstEnd, a_secondEnd, a_values, a_nodes, a_far, a_productive, a_useful, a_covers)) : wpY_countSpan post (nI (gr_P g), nI (gr_L g), f_goal, f_extra, f_measured, f_known, f_more, f_sum, a_left, a_size, a_right, a_text, a_ops, a_constants, a_heights, a_many, a_chosen, a_firstEnd, a_secondEnd, a_values, a_nodes, a_far, a_productive, a_useful, a_covers) (nI i) (nI j) := by
  have hP := W.1
  have K51 : ∀ {J3 : Int32 → Int32 → Int32 → Int32 → Int32 → Int32 → Int32 → Int32 → Int64 → (Nat → Int32) → (Nat → Int32) → (Nat → Int32) → (Nat → Int32) → (Nat → Int32) → (Nat → Int32) → (Nat → Int32) → (Nat → Int64) → (Nat → Int32) → (Nat → Int32) → (Nat → Int32) → (Nat → Int64) → (Nat → Int64) → (Nat → Int32) → (Nat → Int32) → (Nat → Int32) → (Nat → Int32) → Prop} (n : Nat) (f_more : Int32) (a_many : Nat → Int64) (f : pu_C), pu_V g n i j → pu_CI g f → ym_m g a_many f → (¬ pu_al g (pu_ps' f) n i j → ∀ f_sum, J3 (nI (10 + n + 1)) (nI (gr_P g)) (nI (gr_L g)) f_goal f_extra f_measured f_known f_more f_sum a_left a_size a_right a_text a_ops a_constants a_heights a_many a_chosen a_firstEnd a_secondEnd a_values a_nodes a_far a_productive a_useful a_covers) → (pu_al g (pu_ps' f) n i j → ∀ f_sum, J3 (nI (10 + n + 1)) (nI (gr_P g)) (nI (gr_L g)) f_goal f_extra f_measured f_known 1 f_sum a_left a_size a_right a_text a_ops a_constants a_heights (vp_updL a_many (cy n i j) (lN (pu_cap (pu_s3 g f n i j (gr_P g))))) a_chosen a_firstEnd a_secondEnd a_values a_nodes a_far a_productive a_useful a_covers) → ∀ d p, p + d = gr_P g → (∀ q u v, q < p → gr_F g q = n → i ≤ u → u ≤ v → v ≤ j → pu_G g q i u v j → pu_c3 g (pu_ps' f) q i u v j) → wY_countSpan_51 post J3 (nI i) (nI j) (nI (10 + n)) (nI (cy n i j)) (d + 1) 1 (nI p) (nI (gr_P g)) (nI (gr_L g)) f_goal f_extra f_measured f_known f_more (lN (pu_cap (pu_s3 g f n i j p))) a_left a_size a_right a_text a_ops a_constants a_heights a_many a_chosen a_firstEnd a_secondEnd a_values a_nodes a_far a_productive a_useful a_covers := by
    intro J3 n f_more a_many f hv CI mm hE hV d
    have hn5 := hv.1
    have hl := cy_lt W hv
    induction d with
    | zero =>
      intro p hp hist
      have e : p = gr_P g := by omega
      subst e
      exact br_t (nI_le (Nat.le_refl _) (by omega)) (br_f (by decide) ⟨vp_in_nI hl (by decide), nm_r (e' := vp_updL a_many (cy n i j) (lN (pu_cap (pu_s3 g f n i j (gr_P g))))) (by rw [nI_clamp (by omega)]) (nm_r (nI_1 (10 + n)) (hV hist _))⟩)
    | succ d ih =>
      intro p hp hist
      have hp' : p < gr_P g := by omega
      have hF := W.2.2.1 p hp'
      refine br_f (nI_ge (by omega) (by omega)) (br_f (by decide) ⟨vp_in_nI (by omega) (by decide), ?_⟩)
      refine ek_if (d := gr_F g p = n) (by rw [xm_Fp W mF hp', nI_eq (by omega) (by omega)]; omega) (fun c => ?_) (fun c => nm_r (nI_1 p) ?_)
      · refine ys_added (g := g) (f := f) W hp' hij hj tx mR mZ C mm (fun _ _ _ h => pu_CI_le CI h) (fun fs u v h1 h2 h3 G nc => br_t rfl (nm_r (nI_1 p) ?_)) (fun al => br_f (by decide) (nm_r (nI_1 p) ?_))
        · have J := hE (fun al => nc (al p u v hp' c h1 h2 h3 G)) fs
          by_cases z : gr_P g ≤ p + 1
          · exact br_t (nI_le z (by omega)) (br_t rfl (nm_r (nI_1 (10 + n)) J))
          · exact br_f (nI_ge (by omega) (by omega)) (br_t rfl (br_t rfl (nm_r (nI_1 (10 + n)) J)))
        · have Z := ih (p + 1) (by omega) (fun q u v hq h0 h1 h2 h3 G => by
            by_cases cc : q = p
            · rw [cc]; rw [cc] at G; exact al u v h1 h2 h3 G
            · exact hist q u v (by omega) h0 h1 h2 h3 G)
          rw [pu_s3_s c] at Z
          exact Z
      · have Z := ih (p + 1) (by omega) (fun q u v hq h0 h1 h2 h3 G => by
          by_cases cc : q = p
          · rw [cc] at h0; exact absurd h0 c
          · exact hist q u v (by omega) h0 h1 h2 h3 G)
        rw [pu_s3_n c] at Z
        exact Z
  have K3 : ∀ d n, n + d = 5 → ∀ (f_more : Int32) (f_sum : Int64) (a_many : Nat → Int64), yn_P g m0 (yd_dn i j n) f_more a_many → wY_countSpan_3 post (nI i) (nI j) (d + 1) (nI (10 + n)) (nI (gr_P g)) (nI (gr_L g)) f_goal f_extra f_measured f_known f_more f_sum a_left a_size a_right a_text a_ops a_constants a_heights a_many a_chosen a_firstEnd a_secondEnd a_values a_nodes a_far a_productive a_useful a_covers := by
    intro d
    induction d with
    | zero =>
      intro n hn f_more f_sum a_many l
      have e : n = 5 := by omega
      subst e
      exact br_t (nI_le (a := 15) (b := 15) (by decide) (by decide)) (hpost _ _ _ l)
    | succ d ih =>
      intro n hn f_more f_sum a_many l
      have hv : pu_V g n i j := ⟨by omega, hij, hj⟩
      have hl := cy_lt W hv
      have hin : vp_in (nI (cy n i j)) 980 := vp_in_nI hl (by decide)
      have ec : (nI (cy n i j)).toNatClampNeg = cy n i j := nI_clamp (by omega)
      obtain ⟨f, CI, mm, fl⟩ := l
      have hb := (C.1 _ _ _ hv).2.2
      have fb := pu_CI_le CI hv
      have skip : (0 < pu_HH g n i j → f n i j = 0 → ¬ pu_al g (pu_ps' f) n i j) → yn_P g m0 (yd_dn i j (n + 1)) f_more a_many := by
        intro sk
        refine ⟨f, CI, mm, ?_⟩
        obtain ⟨e, mu, h3⟩ | h3 := fl
        · refine Or.inl ⟨e, mu, fun n' i' j' hv' q h0 f0 => ?_⟩
          by_cases z : n' = n ∧ i' = i ∧ j' = j
          · obtain ⟨rfl, rfl, rfl⟩ := z; exact sk h0 f0
          · exact h3 n' i' j' hv' (by unfold yd_dn at *; omega) h0 f0
        · exact Or.inr h3
      refine br_f (nI_ge (b := 15) (by omega) (by decide)) (ys_cell n i j rfl rfl rfl ⟨hin, ?_⟩)
      rw [ec, C.2.1 _ _ _ hv]
      refine pk_le (pu_HH g n i j) 0 (fun z => nm_r (nI_1 (10 + n)) (ih (n + 1) (by omega) _ _ _ (skip (fun h0 => by omega)))) (fun z => ⟨hin, ?_⟩)
      rw [mm _ _ _ hv]
      refine ek_if (d := f n i j = 0) (pk_lEQ (b := 0) (by omega) (by decide)) (fun f0 => ⟨gr_P g + 1, ?_⟩) (fun f0 => nm_r (nI_1 (10 + n)) (ih (n + 1) (by omega) _ _ _ (skip (fun _ q => absurd q f0))))
      refine K51 n f_more a_many f hv CI mm (fun na fs => ih (n + 1) (by omega) _ _ _ (skip (fun _ _ => na))) (fun al fs => ih (n + 1) (by omega) 1 _ _ ⟨_, (pu_CI_up W CI hv z f0 al).1, ym_m_up W mm hv _, Or.inr ⟨rfl, ?_⟩⟩) (gr_P g) 0 (by omega) (fun q u v hq => by omega)
      obtain ⟨p, u, v, hp, hn', h1, h2, h3, G⟩ := pu_tree W C.1 hv z
      have pos : 0 < pu_cap (pu_s3 g f n i j (gr_P g)) := pu_cap_pos (pu_s3_pos hp hn' h1 h2 h3 G (al p u v hp hn' h1 h2 h3 G))
      have := yn_mu_up W hv f0 pos
      obtain ⟨_, mu, _⟩ | ⟨_, mu⟩ := fl <;> omega
  exact ⟨5 + 1, K3 5 0 rfl _ _ _ l⟩
def ym_Cts (g : gr_G) (a : Nat → Int64) : Prop := pu_CS g (pu_CC g) ∧ ym_m g a (pu_CC g)
theorem ys_count {post : SY → Prop} (W : gr_W g) (tx : xm_T g a_text) (mR : xm_R g a_right) (mF : xm_F g a_left) (mZ : ym_Z g a_size) (C : ym_Chart g a_heights) (hpost : ∀ (f_more : Int32) (f_sum : Int64) (a_many : Nat → Int64), ym_Cts g a_many → post (nI (gr_P g), nI (gr_L g), f_goal, f_extra, f_measured, f_known, f_more, f_sum, a_left, a_size, a_right, a_text, a_ops, a_constants, a_heights, a_many, a_chosen, a_firstEnd, a_secondEnd, a_values, a_nodes, a_far, a_productive, a_useful, a_covers)) : wpY_count post (nI (gr_P g), nI (gr_L g), f_goal, f_extra, f_measured, f_known, f_more, f_sum, a_left, a_size, a_right, a_text, a_ops, a_constants, a_heights, a_many, a_chosen, a_firstEnd, a_secondEnd, a_values, a_nodes, a_far, a_productive, a_useful, a_covers) := by
  have hL := W.2.1
  have K51 : ∀ {J27 : Int32 → Int32 → Int32 → Int32 → Int32 → Int32 → Int32 → Int64 → (Nat → Int32) → (Nat → Int32) → (Nat → Int32) → (Nat → Int32) → (Nat → Int32) → (Nat → Int32) → (Nat → Int32) → (Nat → Int64) → (Nat → Int32) → (Nat → Int32) → (Nat → Int32) → (Nat → Int64) → (Nat → Int64) → (Nat → Int32) → (Nat → Int32) → (Nat → Int32) → (Nat → Int32) → Prop} {J41 : Int32 → Int32 → Int32 → Int32 → Int32 → Int32 → Int32 → Int32 → Int64 → (Nat → Int32) → (Nat → Int32) → (Nat → Int32) → (Nat → Int32) → (Nat → Int32) → (Nat → Int32) → (Nat → Int32) → (Nat → Int64) → (Nat → Int32) → (Nat → Int32) → (Nat → Int32) → (Nat → Int64) → (Nat → Int64) → (Nat → Int32) → (Nat → Int32) → (Nat → Int32) → (Nat → Int32) → Prop} (m0 i : Nat), i ≤ gr_L g → (∀ (f_more : Int32) (f_sum : Int64) (a_many : Nat → Int64), yn_P g m0 (yd_dn (i + 1) (i + 1) 0) f_more a_many → J41 (nI (i + 1)) (nI (gr_P g)) (nI (gr_L g)) f_goal f_extra f_measured f_known f_more f_sum a_left a_size a_right a_text a_ops a_constants a_heights a_many a_chosen a_firstEnd a_secondEnd a_values a_nodes a_far a_productive a_useful a_covers) → ∀ d j, j + d = gr_L g + 1 → i ≤ j → ∀ (f_more : Int32) (f_sum : Int64) (a_many : Nat → Int64), yn_P g m0 (yd_dn i j 0) f_more a_many → wY_count_51 post J27 J41 (nI i) (d + 1) (nI j) (nI (gr_P g)) (nI (gr_L g)) f_goal f_extra f_measured f_known f_more f_sum a_left a_size a_right a_text a_ops a_constants a_heights a_many a_chosen a_firstEnd a_secondEnd a_values a_nodes a_far a_productive a_useful a_covers := by
    intro J27 J41 m0 i hi hJ d
    induction d with
    | zero =>
      intro j hj hij f_more f_sum a_many l
      refine br_t (nI_lt (by omega) (by omega)) (nm_r (nI_1 i) (hJ _ _ _ (yn_P_dn l (fun n' i' j' hv q => ?_))))
      unfold pu_V at hv; unfold yd_dn at *; omega
    | succ d ih =>
      intro j hj hij f_more f_sum a_many l
      refine br_f (nI_nlt (by omega) (by omega)) (ys_countSpan (g := g) W hij (by omega) tx mR mF mZ C l (fun f_more f_sum a_many l' => nm_r (nI_1 j) (ih (j + 1) (by omega) (by omega) _ _ _ (yn_P_dn l' (fun n' i' j' hv q => ?_)))))
      unfold pu_V at hv; unfold yd_dn at *; omega
  have K41 : ∀ {J27 : Int32 → Int32 → Int32 → Int32 → Int32 → Int32 → Int32 → Int64 → (Nat → Int32) → (Nat → Int32) → (Nat → Int32) → (Nat → Int32) → (Nat → Int32) → (Nat → Int32) → (Nat → Int32) → (Nat → Int64) → (Nat → Int32) → (Nat → Int32) → (Nat → Int32) → (Nat → Int64) → (Nat → Int64) → (Nat → Int32) → (Nat → Int32) → (Nat → Int32) → (Nat → Int32) → Prop} (m0 : Nat), (∀ (f_more : Int32) (f_sum : Int64) (a_many : Nat → Int64), yn_P g m0 (fun _ _ _ => True) f_more a_many → J27 (nI (gr_P g)) (nI (gr_L g)) f_goal f_extra f_measured f_known f_more f_sum a_left a_size a_right a_text a_ops a_constants a_heights a_many a_chosen a_firstEnd a_secondEnd a_values a_nodes a_far a_productive a_useful a_covers) → ∀ d i, i + d = gr_L g + 1 → ∀ (f_more : Int32) (f_sum : Int64) (a_many : Nat → Int64), yn_P g m0 (yd_dn i i 0) f_more a_many → wY_count_41 post J27 (d + 1) (nI i) (nI (gr_P g)) (nI (gr_L g)) f_goal f_extra f_measured f_known f_more f_sum a_left a_size a_right a_text a_ops a_constants a_heights a_many a_chosen a_firstEnd a_secondEnd a_values a_nodes a_far a_productive a_useful a_covers := by
    intro J27 m0 hJ d
    induction d with
    | zero =>
      intro i hi f_more f_sum a_many l
      refine br_t (nI_lt (by omega) (by omega)) (hJ _ _ _ (yn_P_dn l (fun n' i' j' hv q => ?_)))
      unfold pu_V at hv; unfold yd_dn at *; omega
    | succ d ih =>
      intro i hi f_more f_sum a_many l
      exact br_f (nI_nlt (by omega) (by omega)) ⟨d + 1 + 1, K51 m0 i (by omega) (fun f_more f_sum a_many l' => ih (i + 1) (by omega) _ _ _ l') (d + 1) i (by omega) (Nat.le_refl _) _ _ _ l⟩
  have F : ∀ n (f_sum : Int64) (a_many : Nat → Int64) f, pu_CI g f → ym_m g a_many f → pu_ccl g (pu_ps' f) → wY_count_27 post (n + 1) (nI (gr_P g)) (nI (gr_L g)) f_goal f_extra f_measured f_known 0 f_sum a_left a_size a_right a_text a_ops a_constants a_heights a_many a_chosen a_firstEnd a_secondEnd a_values a_nodes a_far a_productive a_useful a_covers := by
    intro n f_sum a_many f CI mm cl
    exact br_t rfl (hpost _ _ _ ⟨pu_CC_s ⟨CI, cl⟩, fun n i j hv => by rw [mm n i j hv, pu_CC_e W ⟨CI, cl⟩ hv]⟩)
  have K27 : ∀ d (f_sum : Int64) (a_many : Nat → Int64) f, pu_CI g f → ym_m g a_many f → yn_mu g f ≤ d → wY_count_27 post (d + 1 + 1) (nI (gr_P g)) (nI (gr_L g)) f_goal f_extra f_measured f_known 1 f_sum a_left a_size a_right a_text a_ops a_constants a_heights a_many a_chosen a_firstEnd a_secondEnd a_values a_nodes a_far a_productive a_useful a_covers := by
    intro d
    induction d with
    | zero =>
      intro f_sum a_many f CI mm mu
      refine br_f (by decide) ⟨gr_L g + 1 + 1, K41 (yn_mu g f) (fun f_more f_sum a_many l => ?_) (gr_L g + 1) 0 (by omega) 0 f_sum a_many ⟨f, CI, mm, Or.inl ⟨rfl, Nat.le_refl _, fun n i j hv q => by unfold yd_dn at q; omega⟩⟩⟩
      obtain ⟨f', CI', mm', ⟨rfl, mu', h3⟩ | ⟨rfl, mu'⟩⟩ := l
      · refine F _ _ _ f' CI' mm' (fun n i j hv h0 al => ?_)
        by_cases c : f' n i j = 0
        · exact absurd al (h3 n i j hv trivial h0 c)
        · show 0 < f' n i j
          omega
      · omega
    | succ d ih =>
      intro f_sum a_many f CI mm mu
      refine br_f (by decide) ⟨gr_L g + 1 + 1, K41 (yn_mu g f) (fun f_more f_sum a_many l => ?_) (gr_L g + 1) 0 (by omega) 0 f_sum a_many ⟨f, CI, mm, Or.inl ⟨rfl, Nat.le_refl _, fun n i j hv q => by unfold yd_dn at q; omega⟩⟩⟩
      obtain ⟨f', CI', mm', ⟨rfl, mu', h3⟩ | ⟨rfl, mu'⟩⟩ := l
      · refine F _ _ _ f' CI' mm' (fun n i j hv h0 al => ?_)
        by_cases c : f' n i j = 0
        · exact absurd al (h3 n i j hv trivial h0 c)
        · show 0 < f' n i j
          omega
      · exact ih _ _ f' CI' mm' (by omega)
  have K2 : ∀ d x, x + d = 980 → ∀ (a_many : Nat → Int64), (∀ y, y < x → a_many y = 0) → wY_count_2 post (nI (gr_P g)) (nI (gr_L g)) f_goal f_extra f_measured f_known f_more f_sum (d + 1) (nI x) a_left a_size a_right a_text a_ops a_constants a_heights a_many a_chosen a_firstEnd a_secondEnd a_values a_nodes a_far a_productive a_useful a_covers := by
    intro d
    induction d with
    | zero =>
      intro x hx a_many hz
      have e : x = 980 := by omega
      subst e
      exact br_t (nI_le (a := 980) (b := 980) (by decide) (by decide)) ⟨_, K27 605 _ _ (fun _ _ _ => 0) ⟨fun _ _ _ _ _ => rfl, fun n i j hv h => absurd h (Nat.lt_irrefl 0), fun Q cl n i j hv h => absurd h (Nat.lt_irrefl 0)⟩ (fun n i j hv => hz _ (cy_lt W hv)) (pu_cnt_le _ _)⟩
    | succ d ih =>
      intro x hx a_many hz
      refine br_f (nI_ge (b := 980) (by omega) (by decide)) ⟨vp_in_nI (by omega) (by decide), nm_r (e' := vp_updL a_many x 0) (by rw [nI_clamp (by omega)]) (nm_r (nI_1 x) (ih (x + 1) (by omega) _ (fun y hy => ?_)))⟩
      by_cases c : y = x
      · rw [c, pk_uLs]
      · rw [pk_uLn c]; exact hz y (by omega)
  exact ⟨980 + 1, K2 980 0 rfl _ (fun y hy => absurd hy (by omega))⟩
end
