/-! the reference: distances, until nothing changes -/
def pd_w (D : pu_C) : Nat := pu_sum (fun x => D (x / 121) (x / 11 % 11) (x % 11)) 605
theorem pd_w_up {g : gr_G} {D : pu_C} {n i j r : Nat} (W : gr_W g) (hv : pu_V g n i j) (lt : r < D n i j) : pd_w (up3 D n i j r) < pd_w D := by
  obtain ⟨e1, e2, e3⟩ := pd_cell W hv
  refine pu_sum_lt (x0 := cx n i j) ?_ (fun x hx => ?_) (cx_lt W hv)
  · rw [e1, e2, e3, up3_s]; exact lt
  · by_cases z : x / 121 = n ∧ x / 11 % 11 = i ∧ x % 11 = j
    · rw [z.1, z.2.1, z.2.2, up3_s]; omega
    · rw [up3_n z]; exact Nat.le_refl _
theorem ym_far_up {g : gr_G} {a : Nat → Int32} {D : pu_C} (W : gr_W g) (m : ym_far g a D) {n i j r : Nat} (hv : pu_V g n i j) (hr : r < 1000000) : ym_far g (upd a (cy n i j) (nI r)) (up3 D n i j r) := by
  intro a' b c hv'
  by_cases z : a' = n ∧ b = i ∧ c = j
  · obtain ⟨rfl, rfl, rfl⟩ := z
    rw [pk_us, up3_s, fv_t hr]
  · rw [up3_n z, pk_un (fun e => z (cy_inj W hv' hv e))]
    exact m a' b c hv'
def yv_I (g : gr_G) (D : pu_C) : Prop := (∀ n i j, pu_V g n i j → D n i j ≤ 1000000) ∧ (∀ D', pd_Y g D' → pd_le g D' D) ∧ pw_B g D
def yv_P (g : gr_G) (m0 : Nat) (dn : Nat → Nat → Nat → Prop) (more : Int32) (a : Nat → Int32) : Prop := ∃ D, ym_far g a D ∧ yv_I g D ∧ ((more = 0 ∧ pd_w D ≤ m0 ∧ ∀ p i j, p < gr_P g → i ≤ j → j ≤ gr_L g → dn p i j → ∀ u v, i ≤ u → u ≤ v → v ≤ j → pd_yv g p u v j → D (gr_F g p) i j ≤ pd_sm g D p i u v j) ∨ (more = 1 ∧ pd_w D < m0))
theorem yv_P_dn {g : gr_G} {m0 : Nat} {dn dn' : Nat → Nat → Nat → Prop} {more : Int32} {a : Nat → Int32} (l : yv_P g m0 dn more a) (h : ∀ p i j, p < gr_P g → i ≤ j → j ≤ gr_L g → dn' p i j → dn p i j) : yv_P g m0 dn' more a := by
  obtain ⟨D, h1, h2, ⟨e, mu, h3⟩ | h3⟩ := l
  · exact ⟨D, h1, h2, Or.inl ⟨e, mu, fun p i j a b c d => h3 p i j a b c (h p i j a b c d)⟩⟩
  · exact ⟨D, h1, h2, Or.inr h3⟩
def ym_Far (g : gr_G) (a : Nat → Int32) : Prop := ym_far g a (pd_D g)
section
variable {g : gr_G} {f_goal f_extra f_measured f_known f_more : Int32} {f_sum : Int64} {a_left a_size a_right a_text a_ops a_constants a_heights : Nat → Int32} {a_many : Nat → Int64} {a_chosen a_firstEnd a_secondEnd : Nat → Int32} {a_values a_nodes : Nat → Int64} {a_far a_productive a_useful a_covers : Nat → Int32}
theorem ys_measureSpan {post : SY → Prop} {m0 i j : Nat} (W : gr_W g) (hij : i ≤ j) (hj : j ≤ gr_L g) (tx : xm_T g a_text) (mR : xm_R g a_right) (mF : xm_F g a_left) (mZ : ym_Z g a_size) (l : yv_P g m0 (yd_dn i j 0) f_more a_far) (hpost : ∀ (f_more : Int32) (a_far : Nat → Int32), yv_P g m0 (yd_dn i j (gr_P g)) f_more a_far → post (nI (gr_P g), nI (gr_L g), f_goal, f_extra, f_measured, f_known, f_more, f_sum, a_left, a_size, a_right, a_text, a_ops, a_constants, a_heights, a_many, a_chosen, a_firstEnd, a_secondEnd, a_values, a_nodes, a_far, a_productive, a_useful, a_covers)) : wpY_measureSpan post (nI (gr_P g), nI (gr_L g), f_goal, f_extra, f_measured, f_known, f_more, f_sum, a_left, a_size, a_right, a_text, a_ops, a_constants, a_heights, a_many, a_chosen, a_firstEnd, a_secondEnd, a_values, a_nodes, a_far, a_productive, a_useful, a_covers) (nI i) (nI j) := by
  have hL := W.2.1
  have hP := W.1
  have K : ∀ d p, p + d = gr_P g → ∀ (f_more : Int32) (a_far : Nat → Int32), yv_P g m0 (yd_dn i j p) f_more a_far → wY_measureSpan_2 post (nI i) (nI j) (nI (gr_P g)) (nI (gr_L g)) f_goal f_extra f_measured f_known f_sum (d + 1) (nI p) f_more a_left a_size a_right a_text a_ops a_constants a_heights a_many a_chosen a_firstEnd a_secondEnd a_values a_nodes a_far a_productive a_useful a_covers := by
    intro d
    induction d with
    | zero =>
      intro p hp f_more a_far l
      have e : p = gr_P g := by omega
      subst e
      exact br_t (nI_le (Nat.le_refl _) (by omega)) (hpost _ _ l)
    | succ d ih =>
      intro p hp f_more a_far l
      have hp' : p < gr_P g := by omega
      have hv : pu_V g (gr_F g p) i j := ⟨W.2.2.1 p hp', hij, hj⟩
      have hl := cy_lt W hv
      have hin : vp_in (nI (cy (gr_F g p) i j)) 980 := vp_in_nI hl (by decide)
      have ec : (nI (cy (gr_F g p) i j)).toNatClampNeg = cy (gr_F g p) i j := nI_clamp (by omega)
      obtain ⟨D, mD, I, fl⟩ := l
      have Dle := I.1 _ _ _ hv
      refine br_f (nI_ge (by omega) (by omega)) (ys_least (g := g) (D := D) W hp' hij hj tx mR mZ mD I.2.2 (fun r hr => ⟨vp_in_nI (by omega) (by decide), ys_cell (gr_F g p) i j (xm_Fp W mF hp') rfl rfl ?_⟩))
      obtain ⟨r1, r2, r3⟩ := hr
      have skip : D (gr_F g p) i j ≤ r → wY_measureSpan_2 post (nI i) (nI j) (nI (gr_P g)) (nI (gr_L g)) f_goal f_extra f_measured f_known f_sum (d + 1) (nI (p + 1)) f_more a_left a_size a_right a_text a_ops a_constants a_heights a_many a_chosen a_firstEnd a_secondEnd a_values a_nodes a_far a_productive a_useful a_covers := by
        intro le
        refine ih (p + 1) (by omega) _ _ ⟨D, mD, I, ?_⟩
        obtain ⟨e, mu, h3⟩ | h3 := fl
        · refine Or.inl ⟨e, mu, fun p' i' j' q1 q2 q3 q4 u v h1 h2 h4 yv => ?_⟩
          by_cases z : p' = p ∧ i' = i ∧ j' = j
          · obtain ⟨rfl, rfl, rfl⟩ := z
            exact Nat.le_trans le (r2 u v h1 h2 h4 yv trivial)
          · exact h3 p' i' j' q1 q2 q3 (by unfold yd_dn at *; omega) u v h1 h2 h4 yv
        · exact Or.inr h3
      have take : r < 1000000 → r < D (gr_F g p) i j → wY_measureSpan_60 post (wY_measureSpan_2 post (nI i) (nI j) (nI (gr_P g)) (nI (gr_L g)) f_goal f_extra f_measured f_known f_sum (d + 1)) (nI i) (nI j) (nI p) (nI r) (nI (cy (gr_F g p) i j)) (nI (gr_P g)) (nI (gr_L g)) f_goal f_extra f_measured f_known f_more f_sum a_left a_size a_right a_text a_ops a_constants a_heights a_many a_chosen a_firstEnd a_secondEnd a_values a_nodes a_far a_productive a_useful a_covers := by
        intro rl lt
        obtain e | ⟨u, v, h1, h2, h3, yv, e, q0, q1, q2⟩ := r3
        · omega
        · refine ⟨hin, nm_r (e' := upd a_far (cy (gr_F g p) i j) (nI r)) (by rw [ec]) (nm_r (nI_1 p) (ih (p + 1) (by omega) 1 _ ⟨up3 D (gr_F g p) i j r, ym_far_up W mD hv rl, ⟨fun n' i' j' hv' => ?_, fun D' y n' i' j' hv' => ?_, pw_up W I.2.2 hv lt Dle ?_⟩, Or.inr ⟨rfl, ?_⟩⟩))⟩
          · by_cases z : n' = gr_F g p ∧ i' = i ∧ j' = j
            · obtain ⟨rfl, rfl, rfl⟩ := z
              rw [up3_s]; omega
            · rw [up3_n z]; exact I.1 _ _ _ hv'
          · by_cases z : n' = gr_F g p ∧ i' = i ∧ j' = j
            · obtain ⟨rfl, rfl, rfl⟩ := z
              rw [up3_s, e]
              exact Nat.le_trans (y.2 p i' u v j' hp' h1 h2 h3 hj yv.1 yv.2) (pd_sm_mono W (I.2.1 D' y) hp' h1 h2 h3 hj)
            · rw [up3_n z]; exact I.2.1 D' y _ _ _ hv'
          · rw [e]; exact pw_sum W I.2.2 hp' h1 h2 h3 hj q0 q1 q2
          · have := pd_w_up W hv lt
            obtain ⟨_, mu, _⟩ | ⟨_, mu⟩ := fl <;> omega
      refine ek_if (fv_neg r) (fun z => nm_r (nI_1 p) (skip (by omega))) (fun z => ⟨hin, ?_⟩)
      have rl : r < 1000000 := by omega
      rw [ec, mD _ _ _ hv, fv_t rl]
      refine ek_if (fv_neg _) (fun z2 => take rl (by omega)) (fun z2 => ⟨hin, ?_⟩)
      exact pk_le (D (gr_F g p) i j) r (fun le => nm_r (nI_1 p) (skip le)) (fun lt => take rl lt) (fv_t (by omega)) rfl
  exact ⟨gr_P g + 1, K (gr_P g) 0 (by omega) _ _ l⟩
theorem ys_measure {post : SY → Prop} (W : gr_W g) (tx : xm_T g a_text) (mR : xm_R g a_right) (mF : xm_F g a_left) (mZ : ym_Z g a_size) (hr : f_measured ≠ 0 → ym_Far g a_far) (hpost : ∀ (f_measured f_more : Int32) (a_far : Nat → Int32), f_measured ≠ 0 → ym_Far g a_far → post (nI (gr_P g), nI (gr_L g), f_goal, f_extra, f_measured, f_known, f_more, f_sum, a_left, a_size, a_right, a_text, a_ops, a_constants, a_heights, a_many, a_chosen, a_firstEnd, a_secondEnd, a_values, a_nodes, a_far, a_productive, a_useful, a_covers)) : wpY_measure post (nI (gr_P g), nI (gr_L g), f_goal, f_extra, f_measured, f_known, f_more, f_sum, a_left, a_size, a_right, a_text, a_ops, a_constants, a_heights, a_many, a_chosen, a_firstEnd, a_secondEnd, a_values, a_nodes, a_far, a_productive, a_useful, a_covers) := by
  have hL := W.2.1
  have K64 : ∀ {J40 : Int32 → Int32 → Int32 → Int32 → Int32 → Int32 → Int32 → Int64 → (Nat → Int32) → (Nat → Int32) → (Nat → Int32) → (Nat → Int32) → (Nat → Int32) → (Nat → Int32) → (Nat → Int32) → (Nat → Int64) → (Nat → Int32) → (Nat → Int32) → (Nat → Int32) → (Nat → Int64) → (Nat → Int64) → (Nat → Int32) → (Nat → Int32) → (Nat → Int32) → (Nat → Int32) → Prop} {J54 : Int32 → Int32 → Int32 → Int32 → Int32 → Int32 → Int32 → Int32 → Int64 → (Nat → Int32) → (Nat → Int32) → (Nat → Int32) → (Nat → Int32) → (Nat → Int32) → (Nat → Int32) → (Nat → Int32) → (Nat → Int64) → (Nat → Int32) → (Nat → Int32) → (Nat → Int32) → (Nat → Int64) → (Nat → Int64) → (Nat → Int32) → (Nat → Int32) → (Nat → Int32) → (Nat → Int32) → Prop} (m0 i : Nat), i ≤ gr_L g → (∀ (f_more : Int32) (a_far : Nat → Int32), yv_P g m0 (yd_dn (i + 1) (i + 1) 0) f_more a_far → J54 (nI (i + 1)) (nI (gr_P g)) (nI (gr_L g)) f_goal f_extra 1 f_known f_more f_sum a_left a_size a_right a_text a_ops a_constants a_heights a_many a_chosen a_firstEnd a_secondEnd a_values a_nodes a_far a_productive a_useful a_covers) → ∀ d j, j + d = gr_L g + 1 → i ≤ j → ∀ (f_more : Int32) (a_far : Nat → Int32), yv_P g m0 (yd_dn i j 0) f_more a_far → wY_measure_64 post J40 J54 (nI i) (d + 1) (nI j) (nI (gr_P g)) (nI (gr_L g)) f_goal f_extra 1 f_known f_more f_sum a_left a_size a_right a_text a_ops a_constants a_heights a_many a_chosen a_firstEnd a_secondEnd a_values a_nodes a_far a_productive a_useful a_covers := by
    intro J40 J54 m0 i hi hJ d
    induction d with
    | zero =>
      intro j hj hij f_more a_far l
      refine br_t (nI_lt (by omega) (by omega)) (nm_r (nI_1 i) (hJ _ _ (yv_P_dn l (fun n' i' j' _ h1 h2 q => ?_))))
      unfold yd_dn at *; omega
    | succ d ih =>
      intro j hj hij f_more a_far l
      refine br_f (nI_nlt (by omega) (by omega)) (ys_measureSpan (g := g) W hij (by omega) tx mR mF mZ l (fun f_more a_far l' => nm_r (nI_1 j) (ih (j + 1) (by omega) (by omega) _ _ (yv_P_dn l' (fun n' i' j' _ h1 h2 q => ?_)))))
      unfold yd_dn at *; omega
  have K54 : ∀ {J40 : Int32 → Int32 → Int32 → Int32 → Int32 → Int32 → Int32 → Int64 → (Nat → Int32) → (Nat → Int32) → (Nat → Int32) → (Nat → Int32) → (Nat → Int32) → (Nat → Int32) → (Nat → Int32) → (Nat → Int64) → (Nat → Int32) → (Nat → Int32) → (Nat → Int32) → (Nat → Int64) → (Nat → Int64) → (Nat → Int32) → (Nat → Int32) → (Nat → Int32) → (Nat → Int32) → Prop} (m0 : Nat), (∀ (f_more : Int32) (a_far : Nat → Int32), yv_P g m0 (fun _ _ _ => True) f_more a_far → J40 (nI (gr_P g)) (nI (gr_L g)) f_goal f_extra 1 f_known f_more f_sum a_left a_size a_right a_text a_ops a_constants a_heights a_many a_chosen a_firstEnd a_secondEnd a_values a_nodes a_far a_productive a_useful a_covers) → ∀ d i, i + d = gr_L g + 1 → ∀ (f_more : Int32) (a_far : Nat → Int32), yv_P g m0 (yd_dn i i 0) f_more a_far → wY_measure_54 post J40 (d + 1) (nI i) (nI (gr_P g)) (nI (gr_L g)) f_goal f_extra 1 f_known f_more f_sum a_left a_size a_right a_text a_ops a_constants a_heights a_many a_chosen a_firstEnd a_secondEnd a_values a_nodes a_far a_productive a_useful a_covers := by
    intro J40 m0 hJ d
    induction d with
    | zero =>
      intro i hi f_more a_far l
      refine br_t (nI_lt (by omega) (by omega)) (hJ _ _ (yv_P_dn l (fun n' i' j' _ h1 h2 q => ?_)))
      unfold yd_dn at *; omega
    | succ d ih =>
      intro i hi f_more a_far l
      exact br_f (nI_nlt (by omega) (by omega)) ⟨d + 1 + 1, K64 m0 i (by omega) (fun f_more a_far l' => ih (i + 1) (by omega) _ _ l') (d + 1) i (by omega) (Nat.le_refl _) _ _ l⟩
  have F : ∀ n (a_far : Nat → Int32) D, ym_far g a_far D → yv_I g D → pd_Y g D → wY_measure_40 post (n + 1) (nI (gr_P g)) (nI (gr_L g)) f_goal f_extra 1 f_known 0 f_sum a_left a_size a_right a_text a_ops a_constants a_heights a_many a_chosen a_firstEnd a_secondEnd a_values a_nodes a_far a_productive a_useful a_covers := by
    intro n a_far D mD I Y
    have S : pd_S g D := pd_SY_S W ⟨Y, I.2.1⟩
    exact br_t rfl (hpost _ _ _ (by decide) (fun n i j hv => by rw [mD n i j hv, pd_D_e W S hv]))
  have K40 : ∀ d (a_far : Nat → Int32) D, ym_far g a_far D → yv_I g D → pd_w D ≤ d → wY_measure_40 post (d + 1 + 1) (nI (gr_P g)) (nI (gr_L g)) f_goal f_extra 1 f_known 1 f_sum a_left a_size a_right a_text a_ops a_constants a_heights a_many a_chosen a_firstEnd a_secondEnd a_values a_nodes a_far a_productive a_useful a_covers := by
    intro d
    induction d with
    | zero =>
      intro a_far D mD I mu
      refine br_f (by decide) ⟨gr_L g + 1 + 1, K54 (pd_w D) (fun f_more a_far l => ?_) (gr_L g + 1) 0 (by omega) 0 a_far ⟨D, mD, I, Or.inl ⟨rfl, Nat.le_refl _, fun p i j _ _ _ q => by unfold yd_dn at q; omega⟩⟩⟩
      obtain ⟨D', mD', I', ⟨rfl, mu', h3⟩ | ⟨rfl, mu'⟩⟩ := l
      · exact F _ _ D' mD' I' ⟨I'.1, fun p i u v j hp h1 h2 h4 hj y2 y1 => h3 p i j hp (by omega) hj trivial u v h1 h2 h4 ⟨y2, y1⟩⟩
      · omega
    | succ d ih =>
      intro a_far D mD I mu
      refine br_f (by decide) ⟨gr_L g + 1 + 1, K54 (pd_w D) (fun f_more a_far l => ?_) (gr_L g + 1) 0 (by omega) 0 a_far ⟨D, mD, I, Or.inl ⟨rfl, Nat.le_refl _, fun p i j _ _ _ q => by unfold yd_dn at q; omega⟩⟩⟩
      obtain ⟨D', mD', I', ⟨rfl, mu', h3⟩ | ⟨rfl, mu'⟩⟩ := l
      · exact F _ _ D' mD' I' ⟨I'.1, fun p i u v j hp h1 h2 h4 hj y2 y1 => h3 p i j hp (by omega) hj trivial u v h1 h2 h4 ⟨y2, y1⟩⟩
      · exact ih _ D' mD' I' (by omega)
  have K15 : ∀ d x, x + d = 980 → ∀ (a_far : Nat → Int32), (∀ y, y < x → a_far y = -1) → wY_measure_15 post (nI (gr_P g)) (nI (gr_L g)) f_goal f_extra 1 f_known f_more f_sum (d + 1) (nI x) a_left a_size a_right a_text a_ops a_constants a_heights a_many a_chosen a_firstEnd a_secondEnd a_values a_nodes a_far a_productive a_useful a_covers := by
    intro d
    induction d with
    | zero =>
      intro x hx a_far hz
      have e : x = 980 := by omega
      subst e
      exact br_t (nI_le (a := 980) (b := 980) (by decide) (by decide)) ⟨_, K40 (pd_w (fun _ _ _ => 1000000)) _ (fun _ _ _ => 1000000) (fun n i j hv => hz _ (cy_lt W hv)) ⟨fun _ _ _ _ => Nat.le_refl _, fun D' y => y.1, fun n i j hv h => absurd h (Nat.lt_irrefl _)⟩ (Nat.le_refl _)⟩
    | succ d ih =>
      intro x hx a_far hz
      refine br_f (nI_ge (b := 980) (by omega) (by decide)) ⟨vp_in_nI (by omega) (by decide), nm_r (e' := upd a_far x (-1)) (by rw [nI_clamp (by omega)]) (nm_r (nI_1 x) (ih (x + 1) (by omega) _ (fun y hy => ?_)))⟩
      by_cases c : y = x
      · rw [c, pk_us]
      · rw [pk_un c]; exact hz y (by omega)
  exact br_c (fun _ => ⟨980 + 1, K15 980 0 rfl _ (fun y hy => absurd hy (by omega))⟩) (fun z => hpost _ _ _ z (hr z))
end
