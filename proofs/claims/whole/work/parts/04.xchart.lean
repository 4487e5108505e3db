/-! the chart of the component -/
def xm_ps2 (g : gr_G) (H : pu_C) (p a v j h : Nat) : Prop := pu_ps g H (gr_R g (3 * p + 1)) a v h ∧ pu_ps g H (gr_R g (3 * p + 2)) v j h
section
variable {g : gr_G} {f_chartReady f_countsReady f_distancesReady f_followsReady f_filled : Int32} {a_lefts a_rights a_ops a_constants a_text a_heights a_chosen a_firstEnds a_secondEnds a_order a_counts a_distances a_follows a_sizes : Nat → Int32} {a_values a_operands : Nat → Int64} {a_productive a_used : Nat → Int32}
theorem xs_choose35 {post : SX → Prop} {J3 : Int32 → Prop} {H : pu_C} {p i j h a fl : Nat} (W : gr_W g) (hp : p < gr_P g) (hia : i ≤ a) (haj : a ≤ j) (hj : j ≤ gr_L g) (hh : h ≤ 1000) (tx : xm_T g a_text) (mR : xm_R g a_rights) (mF : xm_F g a_lefts) (mH : xm_H g a_heights H) (hb : ∀ n i j, pu_V g n i j → H n i j ≤ 1000) (ef : f_filled = nI fl) (hfl : fl < 605)
    (hno : (∀ v, a ≤ v → v ≤ j → ¬ xm_ps2 g H p a v j h) → J3 (nI a + (-1)))
    (hyes : ∀ v, a ≤ v → v ≤ j → xm_ps2 g H p a v j h → (∀ v', v < v' → v' ≤ j → ¬ xm_ps2 g H p a v' j h) → post (nI (gr_P g), nI (gr_L g), f_chartReady, f_countsReady, f_distancesReady, f_followsReady, nI (fl + 1), a_lefts, a_rights, a_ops, a_constants, a_text, upd a_heights (cx (gr_F g p) i j) (nI h), upd a_chosen (cx (gr_F g p) i j) (nI p), upd a_firstEnds (cx (gr_F g p) i j) (nI a), upd a_secondEnds (cx (gr_F g p) i j) (nI v), upd a_order fl (nI (cx (gr_F g p) i j)), a_counts, a_distances, a_follows, a_sizes, a_values, a_operands, a_productive, a_used)) :
    ∀ d y (y' : Int32), y' = nI y + (-1) → y = a + d → y ≤ j + 1 → (∀ v, y ≤ v → v ≤ j → ¬ xm_ps2 g H p a v j h) → wX_choose_35 post J3 (nI p) (nI i) (nI j) (nI h) (nI a) (nI (gr_P g)) (nI (gr_L g)) f_chartReady f_countsReady f_distancesReady f_followsReady f_filled a_lefts a_rights a_ops a_constants a_text a_heights a_chosen a_firstEnds a_secondEnds a_order a_counts a_distances a_follows a_sizes a_values a_operands a_productive a_used (d + 1) y' := by
  have hL := W.2.1
  have hP := W.1
  intro d
  induction d with
  | zero =>
    intro y y' ey' hy hy1 hist
    subst ey'
    refine br_t ((xb_m1lt (by omega) (by omega)).mpr (by omega)) (nm_e ?_)
    exact hno (fun v hv => hist v (by omega))
  | succ d ih =>
    intro y y' ey' hy hy1 hist
    subst ey'
    refine br_f (fun z => by have := (xb_m1lt (by omega) (by omega)).mp z; omega) ?_
    have ey : nI y + (-1) = nI (a + d) := by rw [hy]; exact pk_m1 (a + d)
    rw [ey]
    refine ⟨xb_i1 (by omega), ?_⟩
    refine xs_fits (g := g) (H := H) (xm_R1 W mR hp) rfl rfl rfl (pu_okR W hp (by decide)) (by omega) (by omega) W hh tx mH hb (fun t1 => ?_) (fun t1 => ?_)
    · refine br_f (by decide) ⟨xb_i2 (by omega), ?_⟩
      refine xs_fits (g := g) (H := H) (xm_R2 W mR hp) rfl rfl rfl (pu_okR W hp (by decide)) (by omega) (by omega) W hh tx mH hb (fun t2 => ?_) (fun t2 => ?_)
      · refine br_f (by decide) ⟨pk_in p 12 (by omega), ?_⟩
        have hv : pu_V g (gr_F g p) i j := ⟨W.2.2.1 p hp, by omega, hj⟩
        have hl := cx_lt W hv
        have ec : (nI (cx (gr_F g p) i j)).toNatClampNeg = cx (gr_F g p) i j := nI_clamp (by omega)
        have hin : vp_in (nI (cx (gr_F g p) i j)) 605 := vp_in_nI hl (by decide)
        refine xb_cell (gr_F g p) i j (xm_Fp W mF hp) rfl rfl ⟨hin, nm_r (by rw [ec]) ⟨hin, nm_r (by rw [ec]) ⟨hin, nm_r (by rw [ec]) ⟨hin, nm_r (by rw [ec]) ⟨by rw [ef]; exact vp_in_nI hfl (by decide), nm_r (e' := upd a_order fl (nI (cx (gr_F g p) i j))) (by rw [ef, nI_clamp (by omega)]) (nm_r (e' := nI (fl + 1)) (by rw [ef, nI_1]) ?_)⟩⟩⟩⟩⟩
        exact hyes (a + d) (by omega) (by omega) ⟨t1, t2⟩ (fun v' h1 h2 => hist v' (by omega) h2)
      · refine br_t rfl (nm_e ?_)
        refine ih (a + d) _ rfl rfl (by omega) (fun v h1 h2 => ?_)
        by_cases c : v = a + d
        · rw [c]; exact fun z => t2 z.2
        · exact hist v (by omega) h2
    · refine br_t rfl (nm_e ?_)
      refine ih (a + d) _ rfl rfl (by omega) (fun v h1 h2 => ?_)
      by_cases c : v = a + d
      · rw [c]; exact fun z => t1 z.1
      · exact hist v (by omega) h2
theorem xs_choose {post : SX → Prop} {H : pu_C} {p i j h fl : Nat} (W : gr_W g) (hp : p < gr_P g) (hij : i ≤ j) (hj : j ≤ gr_L g) (hh : h ≤ 1000) (tx : xm_T g a_text) (mR : xm_R g a_rights) (mF : xm_F g a_lefts) (mH : xm_H g a_heights H) (hb : ∀ n i j, pu_V g n i j → H n i j ≤ 1000) (ef : f_filled = nI fl) (hfl : fl < 605)
    (hno : (∀ u v, i ≤ u → u ≤ v → v ≤ j → ¬ pu_F g H p i u v j h) → post (nI (gr_P g), nI (gr_L g), f_chartReady, f_countsReady, f_distancesReady, f_followsReady, f_filled, a_lefts, a_rights, a_ops, a_constants, a_text, a_heights, a_chosen, a_firstEnds, a_secondEnds, a_order, a_counts, a_distances, a_follows, a_sizes, a_values, a_operands, a_productive, a_used))
    (hyes : ∀ u v, i ≤ u → u ≤ v → v ≤ j → pu_F g H p i u v j h → (∀ u' v', i ≤ u' → u' ≤ v' → v' ≤ j → (u < u' ∨ (u = u' ∧ v < v')) → ¬ pu_F g H p i u' v' j h) → post (nI (gr_P g), nI (gr_L g), f_chartReady, f_countsReady, f_distancesReady, f_followsReady, nI (fl + 1), a_lefts, a_rights, a_ops, a_constants, a_text, upd a_heights (cx (gr_F g p) i j) (nI h), upd a_chosen (cx (gr_F g p) i j) (nI p), upd a_firstEnds (cx (gr_F g p) i j) (nI u), upd a_secondEnds (cx (gr_F g p) i j) (nI v), upd a_order fl (nI (cx (gr_F g p) i j)), a_counts, a_distances, a_follows, a_sizes, a_values, a_operands, a_productive, a_used)) :
    wpX_choose post (nI (gr_P g), nI (gr_L g), f_chartReady, f_countsReady, f_distancesReady, f_followsReady, f_filled, a_lefts, a_rights, a_ops, a_constants, a_text, a_heights, a_chosen, a_firstEnds, a_secondEnds, a_order, a_counts, a_distances, a_follows, a_sizes, a_values, a_operands, a_productive, a_used) (nI p) (nI i) (nI j) (nI h) := by
  have hL := W.2.1
  have hP := W.1
  have K : ∀ d y, y = i + d → y ≤ j + 1 → (∀ u v, y ≤ u → u ≤ v → v ≤ j → ¬ pu_F g H p i u v j h) → wX_choose_3 post (nI p) (nI i) (nI j) (nI h) (nI (gr_P g)) (nI (gr_L g)) f_chartReady f_countsReady f_distancesReady f_followsReady f_filled a_lefts a_rights a_ops a_constants a_text a_heights a_chosen a_firstEnds a_secondEnds a_order a_counts a_distances a_follows a_sizes a_values a_operands a_productive a_used (d + 1) (nI y + (-1)) := by
    intro d
    induction d with
    | zero =>
      intro y hy hy1 hist
      refine br_t ((xb_m1lt (by omega) (by omega)).mpr (by omega)) ?_
      exact hno (fun u v hu => hist u v (by omega))
    | succ d ih =>
      intro y hy hy1 hist
      refine br_f (fun z => by have := (xb_m1lt (by omega) (by omega)).mp z; omega) ?_
      have ey : nI y + (-1) = nI (i + d) := by rw [hy]; exact pk_m1 (i + d)
      rw [ey]
      refine ⟨xb_i0 (by omega), ?_⟩
      refine xs_fits (g := g) (H := H) (xm_R0 W mR hp) rfl rfl rfl (pu_okR0 W hp) (by omega) (by omega) W hh tx mH hb (fun t1 => ?_) (fun t1 => ?_)
      · refine br_f (by decide) ⟨j + 1 - (i + d) + 1, ?_⟩
        refine xs_choose35 (g := g) (H := H) (fl := fl) W hp (by omega) (by omega) hj hh tx mR mF mH hb ef hfl (fun hn => ?_) (fun v h1 h2 h3 h4 => ?_) (j + 1 - (i + d)) (j + 1) _ (pk_m1 j).symm (by omega) (by omega) (fun v h1 h2 => by omega)
        · refine ih (i + d) rfl (by omega) (fun u v h1 h2 h3 => ?_)
          by_cases c : u = i + d
          · rw [c]; rw [c] at h2
            exact fun z => hn v h2 h3 ⟨z.2.1, z.2.2⟩
          · exact hist u v (by omega) h2 h3
        · refine hyes (i + d) v (by omega) h1 h2 ⟨t1, h3.1, h3.2⟩ (fun u' v' k1 k2 k3 k4 => ?_)
          by_cases c : u' = i + d
          · rw [c]
            exact fun z => h4 v' (by omega) k3 ⟨z.2.1, z.2.2⟩
          · exact hist u' v' (by omega) k2 k3
      · refine br_t rfl (nm_e ?_)
        refine ih (i + d) rfl (by omega) (fun u v h1 h2 h3 => ?_)
        by_cases c : u = i + d
        · rw [c]; exact fun z => t1 z.1
        · exact hist u v (by omega) h2 h3
  refine ⟨j + 1 - i + 1, ?_⟩
  have Z := K (j + 1 - i) (j + 1) (by omega) (by omega) (fun u v h1 h2 h3 => by omega)
  rw [pk_m1] at Z
  exact Z
end
