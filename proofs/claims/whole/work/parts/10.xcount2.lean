/-! the component: how many trees, the rounds -/
theorem xb_up {a : Nat → Int32} {k : Nat} {x : Int32} (h : a k = x) : upd a k x = a := by
  funext j
  unfold upd
  by_cases c : j = k
  · rw [if_pos c, c, h]
  · rw [if_neg c]
theorem xs_beginOf {post : Int32 → Prop} {n i j : Nat} (hn : n < 5) (hi : i ≤ 10) (hj : j ≤ 10) (h : post (nI i)) : wpX_beginOf post (nI (cx n i j)) := by
  have e : nI (cx n i j) / 11 = nI (11 * n + i) := by
    rw [show (11 : Int32) = nI 11 from rfl, pk_div (by unfold cx; omega) (by decide) (by decide)]
    exact congrArg nI (by unfold cx; omega)
  refine ⟨by decide, by decide, ?_⟩
  rw [e, show (11 : Int32) = nI 11 from rfl, pk_rem (by omega) (by decide) (by decide), show (11 * n + i) % 11 = i by omega]
  exact h
theorem xs_endOf {post : Int32 → Prop} {n i j : Nat} (hn : n < 5) (hi : i ≤ 10) (hj : j ≤ 10) (h : post (nI j)) : wpX_endOf post (nI (cx n i j)) := by
  refine ⟨by decide, ?_⟩
  rw [show (11 : Int32) = nI 11 from rfl, pk_rem (by unfold cx; omega) (by decide) (by decide), show cx n i j % 11 = j by unfold cx; omega]
  exact h
theorem xb_121 {n i j : Nat} (hn : n < 5) (hi : i ≤ 10) (hj : j ≤ 10) : 10 + nI (cx n i j) / 121 = nI (10 + n) := by
  rw [show (121 : Int32) = nI 121 from rfl, pk_div (by unfold cx; omega) (by decide) (by decide), show cx n i j / 121 = n by unfold cx; omega]
  exact nI_add 10 n
theorem pu_CI_le {g : gr_G} {f : pu_C} (I : pu_CI g f) {n i j : Nat} (hv : pu_V g n i j) : f n i j ≤ 1000000000 := by
  by_cases h : 0 < f n i j
  · rw [(I.2.1 n i j hv h).2]; exact pu_cap_le _
  · omega
theorem pu_s1_0 {g : gr_G} {f : pu_C} {p i u j : Nat} : pu_s1 g f p i u j u = 0 := pu_sum_zero (fun v hv => if_neg (by omega))
theorem pu_s2_0 {g : gr_G} {f : pu_C} {p i j : Nat} : pu_s2 g f p i j i = 0 := pu_sum_zero (fun v hv => if_neg (by omega))
theorem pu_s2_s {g : gr_G} {f : pu_C} {p i j u : Nat} (h : i ≤ u) : pu_s2 g f p i j (u + 1) = pu_s2 g f p i j u + pu_s1 g f p i u j (j + 1) := by
  show pu_s2 g f p i j u + (if i ≤ u then pu_s1 g f p i u j (j + 1) else 0) = _
  rw [if_pos h]
theorem pu_s3_s {g : gr_G} {f : pu_C} {n i j p : Nat} (h : gr_F g p = n) : pu_s3 g f n i j (p + 1) = pu_s3 g f n i j p + pu_s2 g f p i j (j + 1) := by
  show pu_s3 g f n i j p + (if gr_F g p = n then pu_s2 g f p i j (j + 1) else 0) = _
  rw [if_pos h]
theorem pu_s3_n {g : gr_G} {f : pu_C} {n i j p : Nat} (h : ¬ gr_F g p = n) : pu_s3 g f n i j (p + 1) = pu_s3 g f n i j p := by
  show pu_s3 g f n i j p + (if gr_F g p = n then pu_s2 g f p i j (j + 1) else 0) = _
  rw [if_neg h]; rfl
section
variable {g : gr_G} {f_chartReady f_countsReady f_distancesReady f_followsReady f_filled : Int32} {a_lefts a_rights a_ops a_constants a_text a_heights a_chosen a_firstEnds a_secondEnds a_order a_counts a_distances a_follows a_sizes : Nat → Int32} {a_values a_operands : Nat → Int64} {a_productive a_used : Nat → Int32}
theorem xs_countDiv {post : Int32 → Prop} {f : pu_C} {p n i j : Nat} (W : gr_W g) (hp : p < gr_P g) (hv : pu_V g n i j) (tx : xm_T g a_text) (mR : xm_R g a_rights) (S : pu_HS g (pu_HH g)) (mc : xm_c g a_counts f) (hb : ∀ n i j, pu_V g n i j → f n i j ≤ 1000000000)
    (hE : ∀ u v, i ≤ u → u ≤ v → v ≤ j → pu_G g p i u v j → ¬ pu_c3 g (pu_ps' f) p i u v j → post (-3))
    (hV : (∀ u v, i ≤ u → u ≤ v → v ≤ j → pu_G g p i u v j → pu_c3 g (pu_ps' f) p i u v j) → post (nI (pu_cap (pu_s2 g f p i j (j + 1))))) : wpX_countDivisions post (nI (gr_P g), nI (gr_L g), f_chartReady, f_countsReady, f_distancesReady, f_followsReady, f_filled, a_lefts, a_rights, a_ops, a_constants, a_text, a_heights, a_chosen, a_firstEnds, a_secondEnds, a_order, a_counts, a_distances, a_follows, a_sizes, a_values, a_operands, a_productive, a_used) (nI p) (nI (cx n i j)) := by
  have hL := W.2.1
  have hP := W.1
  obtain ⟨hn, hij, hj⟩ := hv
  have K17 : ∀ d a, a + d = j + 1 → i ≤ a → (∀ u v, i ≤ u → u < a → u ≤ v → v ≤ j → pu_G g p i u v j → pu_c3 g (pu_ps' f) p i u v j) → wX_countDivisions_17 post (nI p) (nI i) (nI j) (nI (gr_P g)) (nI (gr_L g)) f_chartReady f_countsReady f_distancesReady f_followsReady f_filled a_lefts a_rights a_ops a_constants a_text a_heights a_chosen a_firstEnds a_secondEnds a_order a_counts a_distances a_follows a_sizes a_values a_operands a_productive a_used (d + 1) (lN (pu_cap (pu_s2 g f p i j a))) (nI a) := by
    intro d
    induction d with
    | zero =>
      intro a ha hia hist
      have e : a = j + 1 := by omega
      subst e
      refine br_t (nI_lt (by omega) (by omega)) ?_
      rw [lN_i]
      exact hV (fun u v h1 h2 h3 => hist u v h1 (by omega) h2 h3)
    | succ d ih =>
      intro a ha hia hist
      refine br_f (nI_nlt (by omega) (by omega)) ⟨xb_i0 (by omega), ?_⟩
      have go : pu_ps g (pu_HH g) (gr_R g (3 * p)) i a 1000 → ∀ x8 : Int32, ((pu_pt f (gr_R g (3 * p)) i a = 0 ∧ x8 = -3) ∨ (0 < pu_pt f (gr_R g (3 * p)) i a ∧ pu_pt f (gr_R g (3 * p)) i a ≤ 1000000000 ∧ x8 = nI (pu_pt f (gr_R g (3 * p)) i a))) → ∃ n45, wX_countDivisions_45 post (wX_countDivisions_17 post (nI p) (nI i) (nI j) (nI (gr_P g)) (nI (gr_L g)) f_chartReady f_countsReady f_distancesReady f_followsReady f_filled a_lefts a_rights a_ops a_constants a_text a_heights a_chosen a_firstEnds a_secondEnds a_order a_counts a_distances a_follows a_sizes a_values a_operands a_productive a_used (d + 1)) (nI p) (nI i) (nI j) (nI a) x8 (nI (gr_P g)) (nI (gr_L g)) f_chartReady f_countsReady f_distancesReady f_followsReady f_filled a_lefts a_rights a_ops a_constants a_text a_heights a_chosen a_firstEnds a_secondEnds a_order a_counts a_distances a_follows a_sizes a_values a_operands a_productive a_used n45 (lN (pu_cap (pu_s2 g f p i j a))) (nI a) := by
        intro t1 x8 e8
        have Z := xs_cd45 (g := g) (f_chartReady := f_chartReady) (f_countsReady := f_countsReady) (f_distancesReady := f_distancesReady) (f_followsReady := f_followsReady) (f_filled := f_filled) (a_lefts := a_lefts) (a_ops := a_ops) (a_constants := a_constants) (a_heights := a_heights) (a_chosen := a_chosen) (a_firstEnds := a_firstEnds) (a_secondEnds := a_secondEnds) (a_order := a_order) (a_distances := a_distances) (a_follows := a_follows) (a_sizes := a_sizes) (a_values := a_values) (a_operands := a_operands) (a_productive := a_productive) (a_used := a_used) (post := post) (J17 := wX_countDivisions_17 post (nI p) (nI i) (nI j) (nI (gr_P g)) (nI (gr_L g)) f_chartReady f_countsReady f_distancesReady f_followsReady f_filled a_lefts a_rights a_ops a_constants a_text a_heights a_chosen a_firstEnds a_secondEnds a_order a_counts a_distances a_follows a_sizes a_values a_operands a_productive a_used (d + 1)) (Q := pu_s2 g f p i j a) W hp hia (show a ≤ j by omega) hj tx mR S mc hb t1 e8 (fun v h1 h2 => hE a v hia h1 h2) (fun al => by
          have := ih (a + 1) (by omega) (by omega) (fun u v h1 h2 h3 h4 G => by
            by_cases c : u = a
            · rw [c]; rw [c] at G h3; exact al v h3 h4 G
            · exact hist u v h1 (by omega) h3 h4 G)
          rw [pu_s2_s hia] at this
          exact this) (j + 1 - a) a (by omega) (Nat.le_refl _) (fun v h1 h2 => by omega)
        rw [pu_s1_0, Nat.add_zero] at Z
        exact ⟨_, Z⟩
      refine xs_countPart (g := g) (f := f) (xm_R0 W mR hp) rfl rfl (pu_okR0 W hp) hia (by omega) W tx S mc hb (fun n1 => ⟨1, ?_⟩) (fun t1 z1 => go t1 (-3) (Or.inl ⟨z1, rfl⟩)) (fun t1 z1 w1 => go t1 _ (Or.inr ⟨z1, w1, rfl⟩))
      refine br_f (nI_nlt (by omega) (by omega)) (br_t rfl (nm_r (nI_1 a) ?_))
      have := ih (a + 1) (by omega) (by omega) (fun u v h1 h2 h3 h4 G => by
        by_cases c : u = a
        · rw [c] at G; exact absurd G.1 n1
        · exact hist u v h1 (by omega) h3 h4 G)
      rw [pu_s2_s hia, show pu_s1 g f p i a j (j + 1) = 0 from pu_sum_zero (fun v _ => by rw [pu_tF_f (fun G => n1 G.1)]; exact ite_self 0)] at this
      exact this
  unfold wpX_countDivisions
  refine xs_beginOf hn (by omega) (by omega) (xs_endOf hn (by omega) (by omega) ⟨j + 1 - i + 1, ?_⟩)
  have Z := K17 (j + 1 - i) i (by omega) (Nat.le_refl _) (fun u v h1 h2 => by omega)
  rw [pu_s2_0] at Z
  exact Z
theorem xs_countCell {post : Int32 → Prop} {f : pu_C} {n i j : Nat} (W : gr_W g) (hv : pu_V g n i j) (tx : xm_T g a_text) (mR : xm_R g a_rights) (mF : xm_F g a_lefts) (S : pu_HS g (pu_HH g)) (mc : xm_c g a_counts f) (hb : ∀ n i j, pu_V g n i j → f n i j ≤ 1000000000)
    (hE : ¬ pu_al g (pu_ps' f) n i j → post (-3)) (hV : pu_al g (pu_ps' f) n i j → post (nI (pu_cap (pu_s3 g f n i j (gr_P g))))) : wpX_countCell post (nI (gr_P g), nI (gr_L g), f_chartReady, f_countsReady, f_distancesReady, f_followsReady, f_filled, a_lefts, a_rights, a_ops, a_constants, a_text, a_heights, a_chosen, a_firstEnds, a_secondEnds, a_order, a_counts, a_distances, a_follows, a_sizes, a_values, a_operands, a_productive, a_used) (nI (cx n i j)) := by
  have hL := W.2.1
  have hP := W.1
  have hv' := hv
  obtain ⟨hn, hij, hj⟩ := hv
  have K5 : ∀ d p, p + d = gr_P g → (∀ q u v, q < p → gr_F g q = n → i ≤ u → u ≤ v → v ≤ j → pu_G g q i u v j → pu_c3 g (pu_ps' f) q i u v j) → wX_countCell_5 post (nI (cx n i j)) (nI (gr_P g)) (nI (gr_L g)) f_chartReady f_countsReady f_distancesReady f_followsReady f_filled a_lefts a_rights a_ops a_constants a_text a_heights a_chosen a_firstEnds a_secondEnds a_order a_counts a_distances a_follows a_sizes a_values a_operands a_productive a_used (d + 1) (lN (pu_cap (pu_s3 g f n i j p))) (nI p) := by
    intro d
    induction d with
    | zero =>
      intro p hp hist
      have e : p = gr_P g := by omega
      subst e
      refine br_t (nI_le (Nat.le_refl _) (by omega)) ?_
      rw [lN_i]
      exact hV hist
    | succ d ih =>
      intro p hp hist
      refine br_f (nI_ge (by omega) (by omega)) ⟨vp_in_nI (by omega) (by decide), by decide, ?_⟩
      have hF := W.2.2.1 p (by omega)
      refine ek_if (d := gr_F g p = n) (by rw [xm_Fp W mF (by omega), xb_121 hn (by omega) (by omega), nI_eq (by omega) (by omega)]; omega) (fun c => ?_) (fun c => ?_)
      · refine xs_countDiv (g := g) (f := f) W (by omega) hv' tx mR S mc hb (fun u v h1 h2 h3 G z => br_t rfl (hE (fun al => z (al p u v (by omega) c h1 h2 h3 G)))) (fun al => br_f (xb_neg3 _ (by have := pu_cap_le (pu_s2 g f p i j (j + 1)); omega)) ?_)
        have k1 := pu_cap_le (pu_s3 g f n i j p)
        have k2 := pu_cap_le (pu_s2 g f p i j (j + 1))
        refine xs_atMost (x := pu_cap (pu_s3 g f n i j p) + pu_cap (pu_s2 g f p i j (j + 1))) (by rw [nI_l (by omega), lN_add]) (by omega) (nm_r (nI_1 p) ?_)
        have Z := ih (p + 1) (by omega) (fun q u v hq h0 h1 h2 h3 G => by
          by_cases cc : q = p
          · rw [cc]; rw [cc] at G; exact al u v h1 h2 h3 G
          · exact hist q u v (by omega) h0 h1 h2 h3 G)
        rw [pu_s3_s c] at Z
        rw [pu_cap_add2]
        exact Z
      · refine nm_r (nI_1 p) ?_
        have Z := ih (p + 1) (by omega) (fun q u v hq h0 h1 h2 h3 G => by
          by_cases cc : q = p
          · rw [cc] at h0; exact absurd h0 c
          · exact hist q u v (by omega) h0 h1 h2 h3 G)
        rw [pu_s3_n c] at Z
        exact Z
  exact ⟨gr_P g + 1, K5 (gr_P g) 0 (by omega) (fun q u v hq => by omega)⟩
end
