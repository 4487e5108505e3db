/-! the component: distances -/
section
variable {g : gr_G} {f_chartReady f_countsReady f_distancesReady f_followsReady f_filled : Int32} {a_lefts a_rights a_ops a_constants a_text a_heights a_chosen a_firstEnds a_secondEnds a_order a_counts a_distances a_follows a_sizes : Nat → Int32} {a_values a_operands : Nat → Int64} {a_productive a_used : Nat → Int32}
theorem xs_hasToken {post : Int32 → Prop} {s i j : Nat} {s' : Int32} (es : s' = sy_m s) (ok : pu_ok s) (W : gr_W g) (tx : xm_T g a_text) (hij : i ≤ j) (hj : j ≤ gr_L g) (ht : pd_tk g s i j → post 1) (hf : ¬ pd_tk g s i j → post 0) : wpX_hasToken post (nI (gr_P g), nI (gr_L g), f_chartReady, f_countsReady, f_distancesReady, f_followsReady, f_filled, a_lefts, a_rights, a_ops, a_constants, a_text, a_heights, a_chosen, a_firstEnds, a_secondEnds, a_order, a_counts, a_distances, a_follows, a_sizes, a_values, a_operands, a_productive, a_used) s' (nI i) (nI j) := by
  subst es
  have hL := W.2.1
  have K : ∀ d k, k + d = j → i ≤ k → (∀ q, i ≤ q → q < k → gr_T g q ≠ s) → wX_hasToken_3 post (sy_m s) (nI j) (nI (gr_P g)) (nI (gr_L g)) f_chartReady f_countsReady f_distancesReady f_followsReady f_filled a_lefts a_rights a_ops a_constants a_text a_heights a_chosen a_firstEnds a_secondEnds a_order a_counts a_distances a_follows a_sizes a_values a_operands a_productive a_used (d + 1) (nI k) := by
    intro d
    induction d with
    | zero => intro k hk hik hist; exact br_t (nI_le (by omega) (by omega)) (hf (fun ⟨q, h1, h2, h3⟩ => hist q h1 (by omega) h3))
    | succ d ih =>
      intro k hk hik hist
      refine br_f (nI_ge (by omega) (by omega)) ⟨vp_in_nI (by omega) (by decide), ek_if (d := gr_T g k = s) (by rw [nI_clamp (by omega), tx k (by omega)]; exact sy_eq ok (W.2.2.2.2.2 k (by omega))) (fun e => ht ⟨k, hik, by omega, e⟩) (fun e => nm_r (nI_1 k) (ih (k + 1) (by omega) (by omega) (fun q h1 h2 => ?_)))⟩
      by_cases c : q = k
      · rw [c]; exact e
      · exact hist q h1 (by omega)
  exact ⟨j - i + 1, K (j - i) i (by omega) (Nat.le_refl _) (fun q h1 h2 => by omega)⟩
def xm_D (g : gr_G) (a : Nat → Int32) (D : pu_C) : Prop := ∀ n i j, pu_V g n i j → a (cx n i j) = nI (D n i j)
theorem xs_dop {post : Int32 → Prop} {D : pu_C} {s i j : Nat} {s' i' j' : Int32} (es : s' = sy_m s) (ei : i' = nI i) (ej : j' = nI j) (ok : pu_ok s) (hij : i ≤ j) (hj : j ≤ gr_L g) (W : gr_W g) (tx : xm_T g a_text) (mD : xm_D g a_distances D) (h : post (nI (pd_aw g D s i j))) : wpX_distanceOfPart post (nI (gr_P g), nI (gr_L g), f_chartReady, f_countsReady, f_distancesReady, f_followsReady, f_filled, a_lefts, a_rights, a_ops, a_constants, a_text, a_heights, a_chosen, a_firstEnds, a_secondEnds, a_order, a_counts, a_distances, a_follows, a_sizes, a_values, a_operands, a_productive, a_used) s' i' j' := by
  subst ei ej
  have hL := W.2.1
  have sb : nI j - nI i = nI (j - i) := pk_sub hij
  by_cases c : pu_nt s
  · have c' := c
    unfold pu_nt at c'
    have hv := xb_ntV ok c hij hj
    have hl := cx_lt W hv
    refine br_f (by rw [es, sy_lt ok]; omega) (xb_cell (s - 10) i j (by rw [es]; exact sy_nt c) rfl rfl ⟨vp_in_nI hl (by decide), ?_⟩)
    rw [nI_clamp (by omega), mD _ _ _ hv]
    rw [pd_aw_n c] at h; exact h
  · have c' : s < 10 ∨ s = 99 := by unfold pu_nt at c; unfold pu_ok at ok; omega
    refine br_t (by rw [es, sy_lt ok]; exact c') (ek_if (d := s = 99) (by rw [es]; exact sy_e1 ok) (fun e => ?_) (fun e => ?_))
    · rw [pd_aw_a e] at h; rw [sb]; exact h
    · have c2 : s < 10 := by omega
      refine pk_eq i j (fun z => ?_) (fun z => ?_)
      · rw [pd_aw_t1 c2 z] at h; exact h
      · refine xs_hasToken (g := g) es ok W tx hij hj (fun t => br_f (by decide) ?_) (fun t => br_t rfl ?_)
        · rw [pd_aw_t2 c2 z t] at h
          obtain ⟨q, hq⟩ : ∃ q, j - i = q + 1 := ⟨j - i - 1, by omega⟩
          rw [sb, hq, nI_pred]
          rw [hq] at h; exact h
        · rw [pd_aw_t3 c2 z t] at h; rw [sb]; exact h
theorem pd_aw_le {g : gr_G} {D : pu_C} (b : ∀ n i j, pu_V g n i j → D n i j ≤ 1000000) {s i j : Nat} (W : gr_W g) (ok : pu_ok s) (hij : i ≤ j) (hj : j ≤ gr_L g) : pd_aw g D s i j ≤ 1000000 := by
  have hL := W.2.1
  by_cases c : pu_nt s
  · rw [pd_aw_n c]; exact b _ _ _ (xb_ntV ok c hij hj)
  · unfold pu_nt at c
    unfold pu_ok at ok
    unfold pd_aw
    by_cases c1 : s = 99
    · rw [if_pos c1]; omega
    · rw [if_neg c1, if_pos (by omega)]; split
      · omega
      · split <;> omega
def xd_r (g : gr_G) (D : pu_C) (p i j a b r : Nat) : Prop := r ≤ 1000000 ∧ (∀ u v, i ≤ u → u ≤ v → v ≤ j → (u < a ∨ (u = a ∧ v < b)) → r ≤ pd_sm g D p i u v j) ∧ (r = 1000000 ∨ ∃ u v, i ≤ u ∧ u ≤ v ∧ v ≤ j ∧ r = pd_sm g D p i u v j)
theorem xs_dod34 {post : Int32 → Prop} {J7 : Int32 → Int32 → Prop} {D : pu_C} {p i j a : Nat} (W : gr_W g) (hp : p < gr_P g) (hia : i ≤ a) (haj : a ≤ j) (hj : j ≤ gr_L g) (tx : xm_T g a_text) (mR : xm_R g a_rights) (mD : xm_D g a_distances D) (hb : ∀ n i j, pu_V g n i j → D n i j ≤ 1000000)
    (hJ : ∀ r, xd_r g D p i j (a + 1) 0 r → J7 (nI r) (nI (a + 1))) :
    ∀ d b r, b + d = j + 1 → a ≤ b → xd_r g D p i j a b r → wX_distanceOfDivisions_34 post J7 (nI p) (nI i) (nI j) (nI a) (nI (pd_aw g D (gr_R g (3 * p)) i a)) (nI (gr_P g)) (nI (gr_L g)) f_chartReady f_countsReady f_distancesReady f_followsReady f_filled a_lefts a_rights a_ops a_constants a_text a_heights a_chosen a_firstEnds a_secondEnds a_order a_counts a_distances a_follows a_sizes a_values a_operands a_productive a_used (d + 1) (nI r) (nI b) := by
  have hL := W.2.1
  have hP := W.1
  have b0 := pd_aw_le hb W (pu_okR0 W hp) hia (show a ≤ gr_L g by omega)
  intro d
  induction d with
  | zero =>
    intro b r hbd hab I
    refine br_t (nI_lt (by omega) (by omega)) (nm_r (nI_1 a) (hJ r ⟨I.1, fun u v h1 h2 h3 h4 => I.2.1 u v h1 h2 h3 (by omega), I.2.2⟩))
  | succ d ih =>
    intro b r hbd hab I
    have I1 := I.1
    refine br_f (nI_nlt (by omega) (by omega)) (pk_le r (pd_aw g D (gr_R g (3 * p)) i a) (fun l => nm_r (nI_1 a) (hJ r ⟨I.1, fun u v h1 h2 h3 h4 => ?_, I.2.2⟩)) (fun l => ⟨xb_i1 (by omega), ?_⟩))
    · by_cases c : u = a
      · rw [c]; unfold pd_sm; omega
      · exact I.2.1 u v h1 h2 h3 (by omega)
    · have b1 := pd_aw_le hb W (pu_okR W hp (m := 1) (by decide)) hab (show b ≤ gr_L g by omega)
      have b2 := pd_aw_le hb W (pu_okR W hp (m := 2) (by decide)) (show b ≤ j by omega) hj
      refine xs_dop (g := g) (D := D) (xm_R1 W mR hp) rfl rfl (pu_okR W hp (by decide)) hab (by omega) W tx mD ⟨xb_i2 (by omega), ?_⟩
      refine xs_dop (g := g) (D := D) (xm_R2 W mR hp) rfl rfl (pu_okR W hp (by decide)) (by omega) hj W tx mD (nm_r (e' := nI (pd_sm g D p i a b j)) (by rw [nI_add, nI_add]; rfl) ?_)
      have bs : pd_sm g D p i a b j ≤ 3000000 := by unfold pd_sm; omega
      refine pk_le r (pd_sm g D p i a b j) (fun l2 => nm_r (nI_1 b) (ih (b + 1) r (by omega) (by omega) ⟨I.1, fun u v h1 h2 h3 h4 => ?_, I.2.2⟩)) (fun l2 => nm_r (nI_1 b) (ih (b + 1) _ (by omega) (by omega) ⟨by omega, fun u v h1 h2 h3 h4 => ?_, Or.inr ⟨a, b, hia, hab, by omega, rfl⟩⟩))
      · by_cases c : u = a ∧ v = b
        · rw [c.1, c.2]; exact l2
        · exact I.2.1 u v h1 h2 h3 (by omega)
      · by_cases c : u = a ∧ v = b
        · rw [c.1, c.2]; exact Nat.le_refl _
        · have := I.2.1 u v h1 h2 h3 (by omega); omega
theorem xs_dod {post : Int32 → Prop} {D : pu_C} {p i j : Nat} (W : gr_W g) (hp : p < gr_P g) (hij : i ≤ j) (hj : j ≤ gr_L g) (tx : xm_T g a_text) (mR : xm_R g a_rights) (mD : xm_D g a_distances D) (hb : ∀ n i j, pu_V g n i j → D n i j ≤ 1000000)
    (h : ∀ r, r ≤ 1000000 → (∀ u v, i ≤ u → u ≤ v → v ≤ j → r ≤ pd_sm g D p i u v j) → (r = 1000000 ∨ ∃ u v, i ≤ u ∧ u ≤ v ∧ v ≤ j ∧ r = pd_sm g D p i u v j) → post (nI r)) : wpX_distanceOfDivisions post (nI (gr_P g), nI (gr_L g), f_chartReady, f_countsReady, f_distancesReady, f_followsReady, f_filled, a_lefts, a_rights, a_ops, a_constants, a_text, a_heights, a_chosen, a_firstEnds, a_secondEnds, a_order, a_counts, a_distances, a_follows, a_sizes, a_values, a_operands, a_productive, a_used) (nI p) (nI i) (nI j) := by
  have hL := W.2.1
  have hP := W.1
  have K7 : ∀ d a r, a + d = j + 1 → i ≤ a → xd_r g D p i j a 0 r → wX_distanceOfDivisions_7 post (nI p) (nI i) (nI j) (nI (gr_P g)) (nI (gr_L g)) f_chartReady f_countsReady f_distancesReady f_followsReady f_filled a_lefts a_rights a_ops a_constants a_text a_heights a_chosen a_firstEnds a_secondEnds a_order a_counts a_distances a_follows a_sizes a_values a_operands a_productive a_used (d + 1) (nI r) (nI a) := by
    intro d
    induction d with
    | zero =>
      intro a r ha hia I
      exact br_t (nI_lt (by omega) (by omega)) (h r I.1 (fun u v h1 h2 h3 => I.2.1 u v h1 h2 h3 (by omega)) I.2.2)
    | succ d ih =>
      intro a r ha hia I
      refine br_f (nI_nlt (by omega) (by omega)) ⟨xb_i0 (by omega), ?_⟩
      refine xs_dop (g := g) (D := D) (xm_R0 W mR hp) rfl rfl (pu_okR0 W hp) hia (by omega) W tx mD ⟨j + 1 - a + 1, ?_⟩
      exact xs_dod34 (g := g) W hp hia (by omega) hj tx mR mD hb (fun r' I' => ih (a + 1) r' (by omega) (by omega) I') (j + 1 - a) a r (by omega) (Nat.le_refl _) ⟨I.1, fun u v h1 h2 h3 h4 => I.2.1 u v h1 h2 h3 (by omega), I.2.2⟩
  exact ⟨j + 1 - i + 1, K7 (j + 1 - i) i 1000000 (by omega) (Nat.le_refl _) ⟨Nat.le_refl _, fun u v h1 h2 h3 h4 => by omega, Or.inl rfl⟩⟩
/-- a pass, the triples of dn being done -/
def xd_P (g : gr_G) (D0 : pu_C) (dn : Nat → Nat → Nat → Prop) (x1 : Int32) (a : Nat → Int32) : Prop := ∃ D, xm_D g a D ∧ pd_I g D ∧ pd_le g D D0 ∧ (∀ p i j, p < gr_P g → i ≤ j → j ≤ gr_L g → dn p i j → pd_dn g D0 D p i j) ∧ (x1 = 1 ∨ (x1 = 0 ∧ ∀ p i j, p < gr_P g → i ≤ j → j ≤ gr_L g → dn p i j → ∀ u v, i ≤ u → u ≤ v → v ≤ j → D (gr_F g p) i j ≤ pd_sm g D p i u v j))
theorem xd_P_dn {g : gr_G} {D0 : pu_C} {dn dn' : Nat → Nat → Nat → Prop} {x1 : Int32} {a : Nat → Int32} (h : xd_P g D0 dn x1 a) (l : ∀ p i j, i ≤ j → j ≤ gr_L g → dn' p i j → dn p i j) : xd_P g D0 dn' x1 a := by
  obtain ⟨D, h1, h2, h3, h4, h5⟩ := h
  refine ⟨D, h1, h2, h3, fun p i j a b c d => h4 p i j a b c (l p i j b c d), ?_⟩
  obtain h5 | ⟨e, h5⟩ := h5
  · exact Or.inl h5
  · exact Or.inr ⟨e, fun p i j a b c d => h5 p i j a b c (l p i j b c d)⟩
theorem pd_A_sm {g : gr_G} {D0 D : pu_C} (W : gr_W g) (I : pd_I g D) (M : pd_le g D D0) {p i u v j : Nat} (hp : p < gr_P g) (h1 : i ≤ u) (h2 : u ≤ v) (h3 : v ≤ j) (hj : j ≤ gr_L g) (A : pu_c3 g (fun n i j => D0 n i j = pd_D g n i j) p i u v j) : pd_sm g D p i u v j = pd_sm g (pd_D g) p i u v j := by
  have lo : pd_le g (pd_D g) D := I.2 _ (pd_D_s W).1
  have Q : ∀ {s x y : Nat}, pu_ok s → x ≤ y → y ≤ gr_L g → pu_cd (fun n i j => D0 n i j = pd_D g n i j) s x y → pd_aw g D s x y = pd_aw g (pd_D g) s x y := by
    intro s x y ok hxy hy c
    by_cases nt : pu_nt s
    · have hv := xb_ntV ok nt hxy hy
      have a := M _ _ _ hv
      have b := lo _ _ _ hv
      have e : D0 (s - 10) x y = pd_D g (s - 10) x y := c nt
      rw [pd_aw_n nt, pd_aw_n nt]; omega
    · unfold pu_nt at nt
      unfold pu_ok at ok
      unfold pd_aw
      by_cases c1 : s = 99
      · rw [if_pos c1, if_pos c1]
      · have c2 : s < 10 := by omega
        rw [if_neg c1, if_neg c1, if_pos c2, if_pos c2]
  unfold pd_sm
  rw [Q (pu_okR0 W hp) h1 (by omega) A.1, Q (pu_okR W hp (m := 1) (by decide)) h2 (by omega) A.2.1, Q (pu_okR W hp (m := 2) (by decide)) h3 hj A.2.2]
theorem xs_cn25 {post : Int32 → SX → Prop} {J4 J14 : Int32 → Int32 → (Nat → Int32) → (Nat → Int32) → (Nat → Int32) → (Nat → Int32) → (Nat → Int32) → (Nat → Int32) → (Nat → Int32) → (Nat → Int32) → (Nat → Int32) → (Nat → Int32) → (Nat → Int32) → (Nat → Int32) → (Nat → Int32) → (Nat → Int32) → (Nat → Int64) → (Nat → Int64) → (Nat → Int32) → (Nat → Int32) → Prop} {D0 : pu_C} {p i : Nat} (W : gr_W g) (hp : p < gr_P g) (tx : xm_T g a_text) (mR : xm_R g a_rights) (mF : xm_F g a_lefts)
    (hJ : ∀ (x1 : Int32) (a_distances : Nat → Int32), xd_P g D0 (xm_dn p (i + 1) (i + 1)) x1 a_distances → J14 x1 (nI (i + 1)) a_lefts a_rights a_ops a_constants a_text a_heights a_chosen a_firstEnds a_secondEnds a_order a_counts a_distances a_follows a_sizes a_values a_operands a_productive a_used) :
    ∀ d j, j + d = gr_L g + 1 → i ≤ j → ∀ (x1 : Int32) (a_distances : Nat → Int32), xd_P g D0 (xm_dn p i j) x1 a_distances → wX_comeNearer_25 post J4 J14 (nI p) (nI i) (nI (gr_P g)) (nI (gr_L g)) f_chartReady f_countsReady f_distancesReady f_followsReady f_filled (d + 1) x1 (nI j) a_lefts a_rights a_ops a_constants a_text a_heights a_chosen a_firstEnds a_secondEnds a_order a_counts a_distances a_follows a_sizes a_values a_operands a_productive a_used := by
  have hL := W.2.1
  have hP := W.1
  intro d
  induction d with
  | zero =>
    intro j hj hij x1 a_distances I
    refine br_t (nI_lt (by omega) (by omega)) (nm_r (nI_1 i) (hJ x1 _ (xd_P_dn I (fun p' i' j' h1 h2 h3 => ?_))))
    unfold xm_dn at *; omega
  | succ d ih =>
    intro j hj hij x1 a_distances I
    have hv : pu_V g (gr_F g p) i j := ⟨W.2.2.1 p hp, hij, by omega⟩
    have hl := cx_lt W hv
    have hin : vp_in (nI (cx (gr_F g p) i j)) 605 := vp_in_nI hl (by decide)
    have ec : (nI (cx (gr_F g p) i j)).toNatClampNeg = cx (gr_F g p) i j := nI_clamp (by omega)
    obtain ⟨D, mD, PI, M, A, fl⟩ := I
    refine br_f (nI_nlt (by omega) (by omega)) ⟨vp_in_nI (by omega) (by decide), xb_cell (gr_F g p) i j (xm_Fp W mF hp) rfl rfl ?_⟩
    refine xs_dod (g := g) (D := D) W hp hij (by omega) tx mR mD PI.1 (fun r r1 r2 r3 => ⟨hin, ?_⟩)
    have dl := PI.1 _ _ _ hv
    refine pk_le (D (gr_F g p) i j) r (fun l => nm_r (nI_1 j) (ih (j + 1) (by omega) (by omega) x1 _ ⟨D, mD, PI, M, fun p' i' j' q1 q2 q3 q4 => ?_, ?_⟩)) (fun l => ⟨hin, nm_r (e' := upd a_distances (cx (gr_F g p) i j) (nI r)) (by rw [ec]) (nm_r (nI_1 j) (ih (j + 1) (by omega) (by omega) 1 _ ⟨up3 D (gr_F g p) i j r, xm_H_up W mD hv r, ?_, ?_, fun p' i' j' q1 q2 q3 q4 => ?_, Or.inl rfl⟩))⟩) (by rw [ec]; exact mD _ _ _ hv) rfl
    · by_cases z : p' = p ∧ i' = i ∧ j' = j
      · obtain ⟨rfl, rfl, rfl⟩ := z
        intro u v h1 h2 h3 c3
        have := r2 u v h1 h2 h3
        rw [pd_A_sm W PI M hp h1 h2 h3 (by omega) c3] at this
        omega
      · exact A p' i' j' q1 q2 q3 (by unfold xm_dn at *; omega)
    · obtain h | ⟨h, cl⟩ := fl
      · exact Or.inl h
      · refine Or.inr ⟨h, fun p' i' j' q1 q2 q3 q4 u v h1 h2 h3 => ?_⟩
        by_cases z : p' = p ∧ i' = i ∧ j' = j
        · obtain ⟨rfl, rfl, rfl⟩ := z
          have := r2 u v h1 h2 h3
          omega
        · exact cl p' i' j' q1 q2 q3 (by unfold xm_dn at *; omega) u v h1 h2 h3
    · refine ⟨fun n' i' j' hv' => ?_, fun D' x n' i' j' hv' => ?_⟩
      · by_cases z : n' = gr_F g p ∧ i' = i ∧ j' = j
        · obtain ⟨rfl, rfl, rfl⟩ := z
          rw [up3_s]; exact r1
        · rw [up3_n z]; exact PI.1 _ _ _ hv'
      · by_cases z : n' = gr_F g p ∧ i' = i ∧ j' = j
        · obtain ⟨rfl, rfl, rfl⟩ := z
          rw [up3_s]
          obtain e | ⟨u, v, h1, h2, h3, e⟩ := r3
          · rw [e]; exact x.1 _ _ _ hv'
          · rw [e]
            exact Nat.le_trans (x.2 p i' u v j' hp h1 h2 h3 (by omega)) (pd_sm_mono W (PI.2 D' x) hp h1 h2 h3 (by omega))
        · rw [up3_n z]; exact PI.2 D' x _ _ _ hv'
    · intro n' i' j' hv'
      by_cases z : n' = gr_F g p ∧ i' = i ∧ j' = j
      · obtain ⟨rfl, rfl, rfl⟩ := z
        rw [up3_s]; have := M _ _ _ hv'; omega
      · rw [up3_n z]; exact M _ _ _ hv'
    · have low : pd_le g (up3 D (gr_F g p) i j r) D := by
        intro n' i' j' hv'
        by_cases z : n' = gr_F g p ∧ i' = i ∧ j' = j
        · obtain ⟨rfl, rfl, rfl⟩ := z
          rw [up3_s]; omega
        · rw [up3_n z]; exact Nat.le_refl _
      intro u v h1 h2 h3 c3
      have hF' := W.2.2.1 p' q1
      by_cases z : p' = p ∧ i' = i ∧ j' = j
      · obtain ⟨rfl, rfl, rfl⟩ := z
        have := r2 u v h1 h2 h3
        rw [pd_A_sm W PI M hp h1 h2 h3 (by omega) c3] at this
        rw [up3_s]; exact this
      · have a1 := A p' i' j' q1 q2 q3 (by unfold xm_dn at *; omega) u v h1 h2 h3 c3
        have a2 := low _ _ _ ⟨hF', q2, q3⟩
        omega
theorem xs_comeNearer {post : Int32 → SX → Prop} {D0 : pu_C} (W : gr_W g) (tx : xm_T g a_text) (mR : xm_R g a_rights) (mF : xm_F g a_lefts) (I0 : xd_P g D0 (xm_dn 0 0 0) 0 a_distances)
    (hpost : ∀ (x1 : Int32) (a_distances : Nat → Int32), xd_P g D0 (xm_dn (gr_P g) 0 0) x1 a_distances → post x1 (nI (gr_P g), nI (gr_L g), f_chartReady, f_countsReady, f_distancesReady, f_followsReady, f_filled, a_lefts, a_rights, a_ops, a_constants, a_text, a_heights, a_chosen, a_firstEnds, a_secondEnds, a_order, a_counts, a_distances, a_follows, a_sizes, a_values, a_operands, a_productive, a_used)) : wpX_comeNearer post (nI (gr_P g), nI (gr_L g), f_chartReady, f_countsReady, f_distancesReady, f_followsReady, f_filled, a_lefts, a_rights, a_ops, a_constants, a_text, a_heights, a_chosen, a_firstEnds, a_secondEnds, a_order, a_counts, a_distances, a_follows, a_sizes, a_values, a_operands, a_productive, a_used) := by
  have hL := W.2.1
  have hP := W.1
  have K14 : ∀ (n4 p : Nat), p < gr_P g → (∀ (x1 : Int32) (a_distances : Nat → Int32), xd_P g D0 (xm_dn (p + 1) 0 0) x1 a_distances → wX_comeNearer_4 post (nI (gr_P g)) (nI (gr_L g)) f_chartReady f_countsReady f_distancesReady f_followsReady f_filled n4 x1 (nI (p + 1)) a_lefts a_rights a_ops a_constants a_text a_heights a_chosen a_firstEnds a_secondEnds a_order a_counts a_distances a_follows a_sizes a_values a_operands a_productive a_used) → ∀ d i, i + d = gr_L g + 1 → ∀ (x1 : Int32) (a_distances : Nat → Int32), xd_P g D0 (xm_dn p i i) x1 a_distances → wX_comeNearer_14 post (wX_comeNearer_4 post (nI (gr_P g)) (nI (gr_L g)) f_chartReady f_countsReady f_distancesReady f_followsReady f_filled n4) (nI p) (nI (gr_P g)) (nI (gr_L g)) f_chartReady f_countsReady f_distancesReady f_followsReady f_filled (d + 1) x1 (nI i) a_lefts a_rights a_ops a_constants a_text a_heights a_chosen a_firstEnds a_secondEnds a_order a_counts a_distances a_follows a_sizes a_values a_operands a_productive a_used := by
    intro n4 p hp hJ d
    induction d with
    | zero =>
      intro i hi x1 a_distances I
      refine br_t (nI_lt (by omega) (by omega)) (nm_r (nI_1 p) (hJ x1 _ (xd_P_dn I (fun p' i' j' h1 h2 h3 => ?_))))
      unfold xm_dn at *; omega
    | succ d ih =>
      intro i hi x1 a_distances I
      refine br_f (nI_nlt (by omega) (by omega)) ⟨d + 1 + 1, ?_⟩
      exact xs_cn25 (g := g) W hp tx mR mF (fun x1 a l => ih (i + 1) (by omega) x1 a l) (d + 1) i (by omega) (by omega) x1 _ I
  have K4 : ∀ d p, p + d = gr_P g → ∀ (x1 : Int32) (a_distances : Nat → Int32), xd_P g D0 (xm_dn p 0 0) x1 a_distances → wX_comeNearer_4 post (nI (gr_P g)) (nI (gr_L g)) f_chartReady f_countsReady f_distancesReady f_followsReady f_filled (d + 1) x1 (nI p) a_lefts a_rights a_ops a_constants a_text a_heights a_chosen a_firstEnds a_secondEnds a_order a_counts a_distances a_follows a_sizes a_values a_operands a_productive a_used := by
    intro d
    induction d with
    | zero =>
      intro p hp x1 a_distances I
      have e : p = gr_P g := by omega
      subst e
      have nr : narrow .boolean (.int x1) = .int x1 := by
        obtain ⟨D, _, _, _, _, h | ⟨h, _⟩⟩ := I
        · rw [h]; rfl
        · rw [h]; rfl
      exact br_t (nI_le (Nat.le_refl _) (by omega)) ⟨nr, hpost x1 _ I⟩
    | succ d ih =>
      intro p hp x1 a_distances I
      refine br_f (nI_ge (by omega) (by omega)) ⟨gr_L g + 1 + 1, ?_⟩
      exact K14 (d + 1) p (by omega) (fun x1 a l => ih (p + 1) (by omega) x1 a l) (gr_L g + 1) 0 (by omega) x1 _ I
  exact ⟨gr_P g + 1, K4 (gr_P g) 0 (by omega) 0 _ I0⟩
def xm_Dist (g : gr_G) (a : Nat → Int32) : Prop := xm_D g a (pd_D g)
theorem xs_needDistances {post : SX → Prop} (W : gr_W g) (tx : xm_T g a_text) (mR : xm_R g a_rights) (mF : xm_F g a_lefts) (hr : f_distancesReady ≠ 0 → xm_Dist g a_distances)
    (hpost : ∀ (f_distancesReady : Int32) (a_distances : Nat → Int32), f_distancesReady ≠ 0 → xm_Dist g a_distances → post (nI (gr_P g), nI (gr_L g), f_chartReady, f_countsReady, f_distancesReady, f_followsReady, f_filled, a_lefts, a_rights, a_ops, a_constants, a_text, a_heights, a_chosen, a_firstEnds, a_secondEnds, a_order, a_counts, a_distances, a_follows, a_sizes, a_values, a_operands, a_productive, a_used)) : wpX_needDistances post (nI (gr_P g), nI (gr_L g), f_chartReady, f_countsReady, f_distancesReady, f_followsReady, f_filled, a_lefts, a_rights, a_ops, a_constants, a_text, a_heights, a_chosen, a_firstEnds, a_secondEnds, a_order, a_counts, a_distances, a_follows, a_sizes, a_values, a_operands, a_productive, a_used) := by
  have fin : ∀ (a_distances : Nat → Int32) D, xm_D g a_distances D → (∀ n i j, pu_V g n i j → D n i j = pd_D g n i j) → post (nI (gr_P g), nI (gr_L g), f_chartReady, f_countsReady, 1, f_followsReady, f_filled, a_lefts, a_rights, a_ops, a_constants, a_text, a_heights, a_chosen, a_firstEnds, a_secondEnds, a_order, a_counts, a_distances, a_follows, a_sizes, a_values, a_operands, a_productive, a_used) := fun a D mD e => hpost 1 a (by decide) (fun n i j hv => by rw [mD n i j hv, e n i j hv])
  have K35 : ∀ d r, r + d = 606 → ∀ (x1 : Int32) (a_distances : Nat → Int32), (∃ D, xm_D g a_distances D ∧ pd_I g D ∧ pd_mu g D ≤ 605 - r ∧ (x1 = 1 ∨ (x1 = 0 ∧ pd_X g D))) → wX_needDistances_35 post (d + 1) x1 (nI r) (nI (gr_P g)) (nI (gr_L g)) f_chartReady f_countsReady f_distancesReady f_followsReady f_filled a_lefts a_rights a_ops a_constants a_text a_heights a_chosen a_firstEnds a_secondEnds a_order a_counts a_distances a_follows a_sizes a_values a_operands a_productive a_used := by
    intro d
    induction d with
    | zero =>
      intro r hr x1 a_distances I
      obtain ⟨D, mD, PI, mu, _⟩ := I
      have e : r = 606 := by omega
      subst e
      exact br_t (nI_lt (a := 605) (by decide) (by decide)) (fin _ D mD (fun n i j hv => pd_mu_0 W (by omega) hv))
    | succ d ih =>
      intro r hr x1 a_distances I
      obtain ⟨D, mD, PI, mu, fl⟩ := I
      refine br_f (nI_nlt (a := 605) (by omega) (by decide)) ?_
      obtain rfl | ⟨rfl, x⟩ := fl
      · refine br_f (by decide) ?_
        refine xs_comeNearer (g := g) (D0 := D) W tx mR mF ⟨D, mD, PI, fun _ _ _ _ => Nat.le_refl _, fun p i j _ _ _ h => by unfold xm_dn at h; omega, Or.inr ⟨rfl, fun p i j _ _ _ h => by unfold xm_dn at h; omega⟩⟩ (fun x1 a I' => nm_r (nI_1 r) (ih (r + 1) (by omega) x1 a ?_))
        obtain ⟨D1, mD1, PI1, M1, A1, fl1⟩ := I'
        refine ⟨D1, mD1, PI1, ?_, ?_⟩
        · have := pd_round W PI PI1 M1 (fun p i j h1 h2 h3 => A1 p i j h1 h2 h3 (Or.inl h1))
          obtain z | z := this
          · have : pd_mu g D1 ≤ pd_mu g D := by
              refine pu_cnt_mono (fun x hx h => ?_)
              have h := of_decide_eq_true h
              have hv : pu_V g (x / 121) (x / 11 % 11) (x % 11) := ⟨by omega, h.1, h.2.1⟩
              have a1 := M1 _ _ _ hv
              have a2 := PI1.2 _ (pd_D_s W).1 _ _ _ hv
              exact decide_eq_true ⟨h.1, h.2.1, by omega⟩
            omega
          · omega
        · obtain h | ⟨h, cl⟩ := fl1
          · exact Or.inl h
          · exact Or.inr ⟨h, PI1.1, fun p i u v j hp h1 h2 h3 hj => cl p i j hp (by omega) hj (Or.inl hp) u v h1 h2 h3⟩
      · exact br_t rfl (fin _ D mD (fun n i j hv => pd_D_e W ⟨x, PI.2⟩ hv))
  have K10 : ∀ d x, x + d = 605 → ∀ (a_distances : Nat → Int32), (∀ y, y < x → a_distances y = 1000000) → wX_needDistances_10 post (nI (gr_P g)) (nI (gr_L g)) f_chartReady f_countsReady f_distancesReady f_followsReady f_filled (d + 1) (nI x) a_lefts a_rights a_ops a_constants a_text a_heights a_chosen a_firstEnds a_secondEnds a_order a_counts a_distances a_follows a_sizes a_values a_operands a_productive a_used := by
    intro d
    induction d with
    | zero =>
      intro x hx a_distances hz
      have e : x = 605 := by omega
      subst e
      exact br_t (nI_le (a := 605) (b := 605) (by decide) (by decide)) ⟨606 + 1, K35 606 0 (by decide) 1 _ ⟨fun _ _ _ => 1000000, fun n i j hv => hz _ (cx_lt W hv), ⟨fun _ _ _ _ => Nat.le_refl _, fun D' x n i j hv => x.1 n i j hv⟩, pu_cnt_le _ _, Or.inl rfl⟩⟩
    | succ d ih =>
      intro x hx a_distances hz
      refine br_f (nI_ge (b := 605) (by omega) (by decide)) ⟨vp_in_nI (by omega) (by decide), nm_r (e' := upd a_distances x 1000000) (by rw [nI_clamp (by omega)]) (nm_r (nI_1 x) (ih (x + 1) (by omega) _ (fun y hy => ?_)))⟩
      by_cases c : y = x
      · rw [c, pk_us]
      · rw [pk_un c]; exact hz y (by omega)
  exact br_c (fun _ => ⟨605 + 1, K10 605 0 rfl _ (fun y hy => absurd hy (by omega))⟩) (fun z => hpost _ _ z (hr z))
end
