/-! the component: how many trees -/
def xc_v (h f : Nat) : Int32 := if h = 0 then 0 else if f = 0 then (-3) else nI f
def xm_c (g : gr_G) (a : Nat → Int32) (f : pu_C) : Prop := ∀ n i j, pu_V g n i j → a (cx n i j) = xc_v (pu_HH g n i j) (f n i j)
theorem xb_neg3 (n : Nat) (h : n < 2 ^ 31) : ¬ nI n = -3 := by
  intro e
  have := congrArg Int32.toInt e
  rw [nI_toInt h, show ((-3 : Int32)).toInt = -3 from by decide] at this
  omega
theorem xs_atMost {post : Int64 → Prop} {x : Nat} {x' : Int64} (e : x' = lN x) (hx : x < 2 ^ 63) (h : post (lN (pu_cap x))) : wpX_atMost post x' := by
  subst e
  refine ek_if (d := 1000000000 ≤ x) (pk_lLE (a := 1000000000) (by decide) hx) (fun c => ?_) (fun c => ?_)
  · have e : pu_cap x = 1000000000 := if_neg (by omega)
    rw [e] at h; exact h
  · have e : pu_cap x = x := if_pos (by omega)
    rw [e] at h; exact h
theorem pu_psH {g : gr_G} {s i j : Nat} (S : pu_HS g (pu_HH g)) (ok : pu_ok s) (c : 10 ≤ s ∧ s < 99) (hij : i ≤ j) (hj : j ≤ gr_L g) {h : Nat} (hh : 606 ≤ h) : pu_ps g (pu_HH g) s i j h ↔ 0 < pu_HH g (s - 10) i j := by
  rw [pu_ps_n c]
  have := (S _ _ _ (xb_ntV ok c hij hj)).2.2
  omega
section
variable {g : gr_G} {f_chartReady f_countsReady f_distancesReady f_followsReady f_filled : Int32} {a_lefts a_rights a_ops a_constants a_text a_heights a_chosen a_firstEnds a_secondEnds a_order a_counts a_distances a_follows a_sizes : Nat → Int32} {a_values a_operands : Nat → Int64} {a_productive a_used : Nat → Int32}
theorem xs_countPart {post : Int32 → Prop} {f : pu_C} {s i j : Nat} {s' i' j' : Int32} (es : s' = sy_m s) (ei : i' = nI i) (ej : j' = nI j) (ok : pu_ok s) (hij : i ≤ j) (hj : j ≤ gr_L g) (W : gr_W g) (tx : xm_T g a_text) (S : pu_HS g (pu_HH g)) (mc : xm_c g a_counts f) (hb : ∀ n i j, pu_V g n i j → f n i j ≤ 1000000000)
    (h0 : ¬ pu_ps g (pu_HH g) s i j 1000 → post 0) (h3 : pu_ps g (pu_HH g) s i j 1000 → pu_pt f s i j = 0 → post (-3)) (hp : pu_ps g (pu_HH g) s i j 1000 → 0 < pu_pt f s i j → pu_pt f s i j ≤ 1000000000 → post (nI (pu_pt f s i j))) : wpX_countPart post (nI (gr_P g), nI (gr_L g), f_chartReady, f_countsReady, f_distancesReady, f_followsReady, f_filled, a_lefts, a_rights, a_ops, a_constants, a_text, a_heights, a_chosen, a_firstEnds, a_secondEnds, a_order, a_counts, a_distances, a_follows, a_sizes, a_values, a_operands, a_productive, a_used) s' i' j' := by
  subst es ei ej
  refine ek_if (sy_lt ok) (fun c => ?_) (fun c => ?_)
  · have c' : ¬ (10 ≤ s ∧ s < 99) := by omega
    have e1 : pu_pt f s i j = 1 := if_neg c'
    refine xs_treeless (g := g) (H := pu_HH g) 1000 rfl rfl rfl ok c' hij hj W tx (fun t => br_f (by decide) ?_) (fun t => br_t rfl (h0 t))
    have := hp t (by omega) (by omega)
    rw [e1] at this; exact this
  · have c' : 10 ≤ s ∧ s < 99 := by unfold pu_ok at ok; omega
    have hv := xb_ntV ok c' hij hj
    have e1 : pu_pt f s i j = f (s - 10) i j := if_pos c'
    have hl := cx_lt W hv
    refine xb_cell (s - 10) i j (sy_nt c') rfl rfl ⟨vp_in_nI hl (by decide), ?_⟩
    rw [nI_clamp (by omega), mc _ _ _ hv]
    rw [e1] at h3 hp
    rw [pu_psH S ok c' hij hj (by decide)] at h0 h3 hp
    unfold xc_v
    by_cases z : pu_HH g (s - 10) i j = 0
    · rw [if_pos z]; exact h0 (by omega)
    · rw [if_neg z]
      by_cases y : f (s - 10) i j = 0
      · rw [if_pos y]; exact h3 (by omega) y
      · rw [if_neg y]; exact hp (by omega) (by omega) (hb _ _ _ hv)
theorem xs_cd45 {post : Int32 → Prop} {J17 : Int64 → Int32 → Prop} {f : pu_C} {p i j a Q : Nat} {x8 : Int32} (W : gr_W g) (hp : p < gr_P g) (hia : i ≤ a) (haj : a ≤ j) (hj : j ≤ gr_L g) (tx : xm_T g a_text) (mR : xm_R g a_rights) (S : pu_HS g (pu_HH g)) (mc : xm_c g a_counts f) (hb : ∀ n i j, pu_V g n i j → f n i j ≤ 1000000000)
    (t1 : pu_ps g (pu_HH g) (gr_R g (3 * p)) i a 1000) (e8 : (pu_pt f (gr_R g (3 * p)) i a = 0 ∧ x8 = -3) ∨ (0 < pu_pt f (gr_R g (3 * p)) i a ∧ pu_pt f (gr_R g (3 * p)) i a ≤ 1000000000 ∧ x8 = nI (pu_pt f (gr_R g (3 * p)) i a)))
    (hE : ∀ v, a ≤ v → v ≤ j → pu_G g p i a v j → ¬ pu_c3 g (pu_ps' f) p i a v j → post (-3))
    (hJ : (∀ v, a ≤ v → v ≤ j → pu_G g p i a v j → pu_c3 g (pu_ps' f) p i a v j) → J17 (lN (pu_cap (Q + pu_s1 g f p i a j (j + 1)))) (nI (a + 1))) :
    ∀ d b, b + d = j + 1 → a ≤ b → (∀ v, a ≤ v → v < b → pu_G g p i a v j → pu_c3 g (pu_ps' f) p i a v j) → wX_countDivisions_45 post J17 (nI p) (nI i) (nI j) (nI a) x8 (nI (gr_P g)) (nI (gr_L g)) f_chartReady f_countsReady f_distancesReady f_followsReady f_filled a_lefts a_rights a_ops a_constants a_text a_heights a_chosen a_firstEnds a_secondEnds a_order a_counts a_distances a_follows a_sizes a_values a_operands a_productive a_used (d + 1) (lN (pu_cap (Q + pu_s1 g f p i a j b))) (nI b) := by
  have hL := W.2.1
  have hP := W.1
  intro d
  induction d with
  | zero =>
    intro b hb1 hab hist
    have e : b = j + 1 := by omega
    subst e
    exact br_t (nI_lt (by omega) (by omega)) (nm_r (nI_1 a) (hJ (fun v h1 h2 => hist v h1 (by omega))))
  | succ d ih =>
    intro b hb1 hab hist
    have x0 : ¬ x8 = 0 := by
      obtain ⟨_, rfl⟩ | ⟨h1, h2, rfl⟩ := e8
      · decide
      · exact nI_ne0 h1 (by omega)
    have sb : pu_s1 g f p i a j (b + 1) = pu_s1 g f p i a j b + pu_tF g f p i a b j := by
      show pu_s1 g f p i a j b + (if a ≤ b then pu_tF g f p i a b j else 0) = _
      rw [if_pos hab]
    have skip : ¬ pu_G g p i a b j → wX_countDivisions_45 post J17 (nI p) (nI i) (nI j) (nI a) x8 (nI (gr_P g)) (nI (gr_L g)) f_chartReady f_countsReady f_distancesReady f_followsReady f_filled a_lefts a_rights a_ops a_constants a_text a_heights a_chosen a_firstEnds a_secondEnds a_order a_counts a_distances a_follows a_sizes a_values a_operands a_productive a_used (d + 1) (lN (pu_cap (Q + pu_s1 g f p i a j b))) (nI (b + 1)) := by
      intro hG
      have := ih (b + 1) (by omega) (by omega) (fun v h1 h2 G => by
        by_cases c : v = b
        · rw [c] at G; exact absurd G hG
        · exact hist v h1 (by omega) G)
      rw [sb, pu_tF_f hG] at this
      exact this
    refine br_f (nI_nlt (by omega) (by omega)) (br_f x0 ⟨xb_i1 (by omega), ?_⟩)
    refine xs_countPart (g := g) (f := f) (xm_R1 W mR hp) rfl rfl (pu_okR W hp (by decide)) (by omega) (by omega) W tx S mc hb (fun n2 => ⟨xb_i2 (by omega), ?_⟩) (fun t2 z2 => ⟨xb_i2 (by omega), ?_⟩) (fun t2 z2 w2 => ⟨xb_i2 (by omega), ?_⟩)
    · have sk := skip (fun G => n2 G.2.1)
      exact xs_countPart (g := g) (f := f) (xm_R2 W mR hp) rfl rfl (pu_okR W hp (by decide)) (by omega) (by omega) W tx S mc hb (fun n3 => br_t rfl (nm_r (nI_1 b) sk)) (fun t3 z3 => br_t rfl (nm_r (nI_1 b) sk)) (fun t3 z3 w3 => br_t rfl (nm_r (nI_1 b) sk))
    · refine xs_countPart (g := g) (f := f) (xm_R2 W mR hp) rfl rfl (pu_okR W hp (by decide)) (by omega) (by omega) W tx S mc hb (fun n3 => br_f (by decide) (br_t rfl (nm_r (nI_1 b) (skip (fun G => n3 G.2.2))))) (fun t3 z3 => br_f (by decide) (br_f (by decide) ?_)) (fun t3 z3 w3 => br_f (by decide) (br_f (nI_ne0 z3 (by omega)) ?_))
      · have hh := hE b hab (by omega) ⟨t1, t2, t3⟩ (fun z => by have := pu_pt_pos.mpr z.2.1; omega)
        exact br_c (fun _ => hh) (fun _ => br_t rfl hh)
      · have hh := hE b hab (by omega) ⟨t1, t2, t3⟩ (fun z => by have := pu_pt_pos.mpr z.2.1; omega)
        exact br_c (fun _ => hh) (fun _ => br_t rfl hh)
    · refine xs_countPart (g := g) (f := f) (xm_R2 W mR hp) rfl rfl (pu_okR W hp (by decide)) (by omega) (by omega) W tx S mc hb (fun n3 => br_f (nI_ne0 z2 (by omega)) (br_t rfl (nm_r (nI_1 b) (skip (fun G => n3 G.2.2))))) (fun t3 z3 => br_f (nI_ne0 z2 (by omega)) (br_f (by decide) ?_)) (fun t3 z3 w3 => br_f (nI_ne0 z2 (by omega)) (br_f (nI_ne0 z3 (by omega)) ?_))
      · have hh := hE b hab (by omega) ⟨t1, t2, t3⟩ (fun z => by have := pu_pt_pos.mpr z.2.2; omega)
        exact br_c (fun _ => hh) (fun _ => br_c (fun _ => hh) (fun _ => br_t rfl hh))
      · obtain ⟨z1, rfl⟩ | ⟨z1, w1, rfl⟩ := e8
        · exact br_t rfl (hE b hab (by omega) ⟨t1, t2, t3⟩ (fun z => by have := pu_pt_pos.mpr z.1; omega))
        · have c3 : pu_c3 g (pu_ps' f) p i a b j := ⟨pu_pt_pos.mp z1, pu_pt_pos.mp z2, pu_pt_pos.mp z3⟩
          have G : pu_G g p i a b j := ⟨t1, t2, t3⟩
          refine br_f (xb_neg3 _ (by omega)) (br_f (xb_neg3 _ (by omega)) (br_f (xb_neg3 _ (by omega)) ?_))
          have m1 : pu_pt f (gr_R g (3 * p)) i a * pu_pt f (gr_R g (3 * p + 1)) a b ≤ 1000000000 * 1000000000 := Nat.mul_le_mul w1 w2
          have k1 := pu_cap_le (pu_pt f (gr_R g (3 * p)) i a * pu_pt f (gr_R g (3 * p + 1)) a b)
          have m2 : pu_cap (pu_pt f (gr_R g (3 * p)) i a * pu_pt f (gr_R g (3 * p + 1)) a b) * pu_pt f (gr_R g (3 * p + 2)) b j ≤ 1000000000 * 1000000000 := Nat.mul_le_mul k1 w3
          have k2 := pu_cap_le (Q + pu_s1 g f p i a j b)
          have k3 := pu_cap_le (pu_cap (pu_pt f (gr_R g (3 * p)) i a * pu_pt f (gr_R g (3 * p + 1)) a b) * pu_pt f (gr_R g (3 * p + 2)) b j)
          refine xs_atMost (x := pu_pt f (gr_R g (3 * p)) i a * pu_pt f (gr_R g (3 * p + 1)) a b) (by rw [nI_l (by omega), nI_l (by omega), lN_mul]) (by omega) ?_
          refine xs_atMost (x := pu_cap (pu_pt f (gr_R g (3 * p)) i a * pu_pt f (gr_R g (3 * p + 1)) a b) * pu_pt f (gr_R g (3 * p + 2)) b j) (by rw [nI_l (by omega), lN_mul]) (by omega) ?_
          refine xs_atMost (x := pu_cap (Q + pu_s1 g f p i a j b) + pu_tm g f p i a b j) (by rw [lN_add]; rfl) (by unfold pu_tm; omega) (nm_r (nI_1 b) ?_)
          rw [pu_cap_add, Nat.add_assoc]
          have := ih (b + 1) (by omega) (by omega) (fun v h1 h2 G' => by
            by_cases c : v = b
            · rw [c]; exact c3
            · exact hist v h1 (by omega) G')
          rw [sb, pu_tF_t G] at this
          exact this
end
