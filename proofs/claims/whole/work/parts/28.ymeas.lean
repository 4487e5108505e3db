/-! the reference: distances -/
def fv (d : Nat) : Int32 := if d < 1000000 then nI d else -1
theorem fv_t {d : Nat} (h : d < 1000000) : fv d = nI d := if_pos h
theorem fv_f {d : Nat} (h : ¬ d < 1000000) : fv d = -1 := if_neg h
theorem fv_neg (d : Nat) : fv d < 0 ↔ 1000000 ≤ d := by
  by_cases h : d < 1000000
  · rw [fv_t h, show (0 : Int32) = nI 0 from rfl, nI_ltI (by omega) (by decide)]; omega
  · rw [fv_f h]; exact ⟨fun _ => by omega, fun _ => by decide⟩
def ym_far (g : gr_G) (a : Nat → Int32) (D : pu_C) : Prop := ∀ n i j, pu_V g n i j → a (cy n i j) = fv (D n i j)
def pw_c (D : pu_C) (i j : Nat) : Nat := pu_cnt (fun n => decide (D n i j < 1000000)) 5
/-- how large a distance can be that has been found -/
def pw_B (g : gr_G) (D : pu_C) : Prop := ∀ n i j, pu_V g n i j → D n i j < 1000000 → (i = j → D n i j ≤ 3 ^ pw_c D i j) ∧ (i < j → D n i j ≤ 10000 * (j - i) - 5000 + 486 * pw_c D i j)
theorem pw_c_le (D : pu_C) (i j : Nat) : pw_c D i j ≤ 5 := pu_cnt_le _ _
theorem pw_3 {c : Nat} (h : c ≤ 5) : 1 ≤ 3 ^ c ∧ 3 ^ c ≤ 243 := by
  have : c = 0 ∨ c = 1 ∨ c = 2 ∨ c = 3 ∨ c = 4 ∨ c = 5 := by omega
  obtain rfl | rfl | rfl | rfl | rfl | rfl := this <;> decide
section
variable {g : gr_G} {D : pu_C}
theorem pw_part (W : gr_W g) (B : pw_B g D) {s x y : Nat} (ok : pu_ok s) (hxy : x ≤ y) (hy : y ≤ gr_L g) (r : pd_aw g D s x y < 1000000) : (x = y → pd_aw g D s x y ≤ 3 ^ pw_c D x y) ∧ (x < y → pd_aw g D s x y ≤ 10000 * (y - x) - 5000 + 486 * pw_c D x y) := by
  have hL := W.2.1
  have p3 := pw_3 (pw_c_le D x y)
  by_cases nt : pu_nt s
  · rw [pd_aw_n nt] at *; exact B _ _ _ (xb_ntV ok nt hxy hy) r
  · unfold pu_nt at nt
    unfold pu_ok at ok
    by_cases c1 : s = 99
    · rw [pd_aw_a c1]
      refine ⟨fun e => by omega, fun l => by omega⟩
    · have c2 : s < 10 := by omega
      by_cases e : x = y
      · rw [pd_aw_t1 c2 e]; exact ⟨fun _ => p3.1, fun l => by omega⟩
      · by_cases t : pd_tk g s x y
        · rw [pd_aw_t2 c2 e t]; exact ⟨fun q => absurd q e, fun l => by omega⟩
        · rw [pd_aw_t3 c2 e t]; exact ⟨fun q => absurd q e, fun l => by omega⟩
theorem pw_le (W : gr_W g) (B : pw_B g D) {s x y : Nat} (ok : pu_ok s) (hxy : x ≤ y) (hy : y ≤ gr_L g) (r : pd_aw g D s x y < 1000000) : pd_aw g D s x y ≤ 100000 := by
  have hL := W.2.1
  have c5 := pw_c_le D x y
  have p3 := pw_3 c5
  have p := pw_part W B ok hxy hy r
  by_cases e : x = y
  · have := p.1 e; omega
  · have := p.2 (by omega); omega
/-- the sum of three parts -/
theorem pw_sum (W : gr_W g) (B : pw_B g D) {p i u v j : Nat} (hp : p < gr_P g) (h1 : i ≤ u) (h2 : u ≤ v) (h3 : v ≤ j) (hj : j ≤ gr_L g) (r0 : pd_aw g D (gr_R g (3 * p)) i u < 1000000) (r1 : pd_aw g D (gr_R g (3 * p + 1)) u v < 1000000) (r2 : pd_aw g D (gr_R g (3 * p + 2)) v j < 1000000) : (i = j → pd_sm g D p i u v j ≤ 3 * 3 ^ pw_c D i j) ∧ (i < j → pd_sm g D p i u v j ≤ 10000 * (j - i) - 5000 + 486 * (pw_c D i j + 1)) := by
  have hL := W.2.1
  have p0 := pw_part W B (pu_okR0 W hp) h1 (by omega) r0
  have p1 := pw_part W B (pu_okR W hp (m := 1) (by decide)) h2 (by omega) r1
  have p2 := pw_part W B (pu_okR W hp (m := 2) (by decide)) h3 hj r2
  unfold pd_sm
  generalize pd_aw g D (gr_R g (3 * p)) i u = a0 at *
  generalize pd_aw g D (gr_R g (3 * p + 1)) u v = a1 at *
  generalize pd_aw g D (gr_R g (3 * p + 2)) v j = a2 at *
  have q0 : i = u → a0 ≤ 243 := fun e => by have := p0.1 e; have := (pw_3 (pw_c_le D i u)).2; omega
  have q1 : u = v → a1 ≤ 243 := fun e => by have := p1.1 e; have := (pw_3 (pw_c_le D u v)).2; omega
  have q2 : v = j → a2 ≤ 243 := fun e => by have := p2.1 e; have := (pw_3 (pw_c_le D v j)).2; omega
  have c0 := pw_c_le D i u
  have c1 := pw_c_le D u v
  have c2 := pw_c_le D v j
  constructor
  · intro e
    have e1 : i = u := by omega
    have e2 : u = v := by omega
    have e3 : v = j := by omega
    subst e1 e2 e3
    have t0 := p0.1 rfl
    have t1 := p1.1 rfl
    have t2 := p2.1 rfl
    omega
  · intro l
    by_cases z0 : i = u
    · by_cases z1 : u = v
      · subst z0 z1
        have t0 := q0 rfl
        have t1 := q1 rfl
        have t2 := p2.2 l
        omega
      · by_cases z2 : v = j
        · subst z0 z2
          have t0 := q0 rfl
          have t1 := p1.2 l
          have t2 := q2 rfl
          omega
        · have t0 := q0 z0
          have t1 := p1.2 (by omega)
          have t2 := p2.2 (by omega)
          omega
    · by_cases z1 : u = v
      · by_cases z2 : v = j
        · subst z1 z2
          have t0 := p0.2 l
          have t1 := q1 rfl
          have t2 := q2 rfl
          omega
        · have t0 := p0.2 (by omega)
          have t1 := q1 z1
          have t2 := p2.2 (by omega)
          omega
      · by_cases z2 : v = j
        · have t0 := p0.2 (by omega)
          have t1 := p1.2 (by omega)
          have t2 := q2 z2
          omega
        · have t0 := p0.2 (by omega)
          have t1 := p1.2 (by omega)
          have t2 := p2.2 (by omega)
          omega
/-- a distance that is found or made less keeps the bound -/
theorem pw_up (W : gr_W g) (B : pw_B g D) {n i j r : Nat} (hv : pu_V g n i j) (lt : r < D n i j) (le : D n i j ≤ 1000000) (hr : (i = j → r ≤ 3 * 3 ^ pw_c D i j) ∧ (i < j → r ≤ 10000 * (j - i) - 5000 + 486 * (pw_c D i j + 1))) : pw_B g (up3 D n i j r) := by
  have cm : ∀ a b, pw_c D a b ≤ pw_c (up3 D n i j r) a b := by
    intro a b
    refine pu_cnt_mono (fun x hx h => ?_)
    have h := of_decide_eq_true h
    refine decide_eq_true ?_
    by_cases z : x = n ∧ a = i ∧ b = j
    · obtain ⟨rfl, rfl, rfl⟩ := z
      rw [up3_s]; omega
    · rw [up3_n z]; exact h
  have pm : ∀ a b, 3 ^ pw_c D a b ≤ 3 ^ pw_c (up3 D n i j r) a b := fun a b => Nat.pow_le_pow_right (by decide) (cm a b)
  intro n' i' j' hv' hlt
  by_cases z : n' = n ∧ i' = i ∧ j' = j
  · obtain ⟨rfl, rfl, rfl⟩ := z
    rw [up3_s]
    by_cases c : D n' i' j' < 1000000
    · have b := B _ _ _ hv' c
      have m1 := cm i' j'
      have m2 := pm i' j'
      exact ⟨fun e => by have := b.1 e; omega, fun l => by have := b.2 l; omega⟩
    · have m : pw_c D i' j' + 1 ≤ pw_c (up3 D n' i' j' r) i' j' := by
        refine pu_cnt_lt (x0 := n') (decide_eq_false c) (by rw [up3_s]; exact decide_eq_true (by omega)) (fun x hx h => ?_) hv'.1
        have h := of_decide_eq_true h
        by_cases w : x = n'
        · rw [w] at h; exact absurd h c
        · rw [up3_n (fun q => w q.1)]; exact decide_eq_true h
      have m3 : 3 * 3 ^ pw_c D i' j' ≤ 3 ^ pw_c (up3 D n' i' j' r) i' j' := by
        have : 3 ^ (pw_c D i' j' + 1) ≤ 3 ^ pw_c (up3 D n' i' j' r) i' j' := Nat.pow_le_pow_right (by decide) m
        rw [Nat.pow_succ] at this; omega
      exact ⟨fun e => by have := hr.1 e; omega, fun l => by have := hr.2 l; omega⟩
  · rw [up3_n z] at hlt ⊢
    have b := B _ _ _ hv' hlt
    have m1 := cm i' j'
    have m2 := pm i' j'
    exact ⟨fun e => by have := b.1 e; omega, fun l => by have := b.2 l; omega⟩
end
def pd_yv (g : gr_G) (p u v j : Nat) : Prop := (gr_R g (3 * p + 2) = 99 → v = j) ∧ (gr_R g (3 * p + 1) = 99 → u = j)
def yl_r (g : gr_G) (D : pu_C) (p i j : Nat) (dn : Nat → Nat → Prop) (r : Nat) : Prop := r ≤ 1000000 ∧ (∀ u v, i ≤ u → u ≤ v → v ≤ j → pd_yv g p u v j → dn u v → r ≤ pd_sm g D p i u v j) ∧ (r = 1000000 ∨ ∃ u v, i ≤ u ∧ u ≤ v ∧ v ≤ j ∧ pd_yv g p u v j ∧ r = pd_sm g D p i u v j ∧ pd_aw g D (gr_R g (3 * p)) i u < 1000000 ∧ pd_aw g D (gr_R g (3 * p + 1)) u v < 1000000 ∧ pd_aw g D (gr_R g (3 * p + 2)) v j < 1000000)
section
variable {g : gr_G} {f_goal f_extra f_measured f_known f_more : Int32} {f_sum : Int64} {a_left a_size a_right a_text a_ops a_constants a_heights : Nat → Int32} {a_many : Nat → Int64} {a_chosen a_firstEnd a_secondEnd : Nat → Int32} {a_values a_nodes : Nat → Int64} {a_far a_productive a_useful a_covers : Nat → Int32}
theorem ys_away {post : Int32 → Prop} {D : pu_C} {s i j : Nat} {s' i' j' : Int32} (es : s' = sy_m s) (ei : i' = nI i) (ej : j' = nI j) (ok : pu_ok s) (s99 : s ≠ 99) (hij : i ≤ j) (hj : j ≤ gr_L g) (W : gr_W g) (tx : xm_T g a_text) (mD : ym_far g a_far D) (h : post (fv (pd_aw g D s i j))) : wpY_away post (nI (gr_P g), nI (gr_L g), f_goal, f_extra, f_measured, f_known, f_more, f_sum, a_left, a_size, a_right, a_text, a_ops, a_constants, a_heights, a_many, a_chosen, a_firstEnd, a_secondEnd, a_values, a_nodes, a_far, a_productive, a_useful, a_covers) s' i' j' := by
  subst es ei ej
  have hL := W.2.1
  have sb : nI j - nI i = nI (j - i) := pk_sub hij
  refine ek_if (sy_lt ok) (fun c => ?_) (fun c => ?_)
  · have c2 : s < 10 := by omega
    have K : ∀ d k, k + d = j → i ≤ k → (∀ q, i ≤ q → q < k → gr_T g q ≠ s) → wY_away_26 post (sy_m s) (nI i) (nI j) (nI (gr_P g)) (nI (gr_L g)) f_goal f_extra f_measured f_known f_more f_sum a_left a_size a_right a_text a_ops a_constants a_heights a_many a_chosen a_firstEnd a_secondEnd a_values a_nodes a_far a_productive a_useful a_covers (d + 1) (nI k) := by
      intro d
      induction d with
      | zero =>
        intro k hk hik hist
        have nt : ¬ pd_tk g s i j := fun ⟨q, q1, q2, q3⟩ => hist q q1 (by omega) q3
        refine br_t (nI_le (by omega) (by omega)) (pk_eq i j (fun e => ?_) (fun e => ?_))
        · rw [pd_aw_t1 c2 e] at h; exact h
        · rw [pd_aw_t3 c2 e nt, fv_t (by omega)] at h; rw [sb]; exact h
      | succ d ih =>
        intro k hk hik hist
        refine br_f (nI_ge (by omega) (by omega)) ⟨vp_in_nI (by omega) (by decide), ek_if (d := gr_T g k = s) (by rw [nI_clamp (by omega), tx k (by omega)]; exact sy_eq ok (W.2.2.2.2.2 k (by omega))) (fun e => ?_) (fun e => nm_r (nI_1 k) (ih (k + 1) (by omega) (by omega) (fun q h1 h2 => ?_)))⟩
        · rw [pd_aw_t2 c2 (by omega) ⟨k, hik, by omega, e⟩, fv_t (by omega)] at h
          obtain ⟨q, hq⟩ : ∃ q, j - i = q + 1 := ⟨j - i - 1, by omega⟩
          rw [sb, hq, nI_pred]
          rw [hq] at h; exact h
        · by_cases c : q = k
          · rw [c]; exact e
          · exact hist q h1 (by omega)
    exact ⟨j - i + 1, K (j - i) i (by omega) (Nat.le_refl _) (fun q h1 h2 => by omega)⟩
  · have nt : pu_nt s := by unfold pu_nt; unfold pu_ok at ok; omega
    have hv := xb_ntV ok nt hij hj
    have hl := cy_lt W hv
    refine ys_cell (s - 10) i j (sy_nt nt) rfl rfl ⟨vp_in_nI hl (by decide), ?_⟩
    rw [nI_clamp (by omega), mD _ _ _ hv]
    rw [pd_aw_n nt] at h; exact h
theorem ys_least40 {post : Int32 → Prop} {J25 : Int32 → Int32 → Prop} {D : pu_C} {p i j u : Nat} (W : gr_W g) (hp : p < gr_P g) (k0 : 0 < pu_k g p) (hiu : i ≤ u) (huj : u ≤ j) (hj : j ≤ gr_L g) (tx : xm_T g a_text) (mR : xm_R g a_right) (mD : ym_far g a_far D) (B : pw_B g D)
    (hJ : ∀ r, yl_r g D p i j (yb_dn (u + 1) 0) r → J25 (fv r) (nI (u + 1))) :
    ∀ d v r, v + d = j + 1 → u ≤ v → yl_r g D p i j (yb_dn u v) r → wY_least_40 post J25 (nI p) (nI i) (nI j) (nI (pu_k g p)) (nI u) (nI (gr_P g)) (nI (gr_L g)) f_goal f_extra f_measured f_known f_more f_sum a_left a_size a_right a_text a_ops a_constants a_heights a_many a_chosen a_firstEnd a_secondEnd a_values a_nodes a_far a_productive a_useful a_covers (d + 1) (fv r) (nI v) := by
  have hL := W.2.1
  have hP := W.1
  have k3 := pu_k_le g p
  have ok0 := pu_okR0 W hp
  have ok1 := pu_okR W hp (m := 1) (by decide)
  have ok2 := pu_okR W hp (m := 2) (by decide)
  intro d
  induction d with
  | zero =>
    intro v r hvd huv I
    exact br_t (nI_lt (by omega) (by omega)) (nm_r (nI_1 u) (hJ r ⟨I.1, fun u' v' h1 h2 h3 h4 h5 => I.2.1 u' v' h1 h2 h3 h4 (by unfold yb_dn at *; omega), I.2.2⟩))
  | succ d ih =>
    intro v r hvd huv I
    have I1 := I.1
    have skip : (pd_yv g p u v j → r ≤ pd_sm g D p i u v j) → wY_least_40 post J25 (nI p) (nI i) (nI j) (nI (pu_k g p)) (nI u) (nI (gr_P g)) (nI (gr_L g)) f_goal f_extra f_measured f_known f_more f_sum a_left a_size a_right a_text a_ops a_constants a_heights a_many a_chosen a_firstEnd a_secondEnd a_values a_nodes a_far a_productive a_useful a_covers (d + 1) (fv r) (nI (v + 1)) := by
      intro sk
      refine ih (v + 1) r (by omega) (by omega) ⟨I.1, fun u' v' h1 h2 h3 h4 h5 => ?_, I.2.2⟩
      by_cases c : u' = u ∧ v' = v
      · rw [c.1, c.2] at h4 ⊢; exact sk h4
      · exact I.2.1 u' v' h1 h2 h3 h4 (by unfold yb_dn at *; omega)
    have take : pd_yv g p u v j → pd_aw g D (gr_R g (3 * p)) i u < 1000000 → pd_aw g D (gr_R g (3 * p + 1)) u v < 1000000 → pd_aw g D (gr_R g (3 * p + 2)) v j < 1000000 → pd_sm g D p i u v j < r → wY_least_40 post J25 (nI p) (nI i) (nI j) (nI (pu_k g p)) (nI u) (nI (gr_P g)) (nI (gr_L g)) f_goal f_extra f_measured f_known f_more f_sum a_left a_size a_right a_text a_ops a_constants a_heights a_many a_chosen a_firstEnd a_secondEnd a_values a_nodes a_far a_productive a_useful a_covers (d + 1) (fv (pd_sm g D p i u v j)) (nI (v + 1)) := by
      intro yv r0 r1 r2 lt
      refine ih (v + 1) _ (by omega) (by omega) ⟨by omega, fun u' v' h1 h2 h3 h4 h5 => ?_, Or.inr ⟨u, v, hiu, huv, by omega, yv, rfl, r0, r1, r2⟩⟩
      by_cases c : u' = u ∧ v' = v
      · rw [c.1, c.2]; exact Nat.le_refl _
      · have := I.2.1 u' v' h1 h2 h3 h4 (by unfold yb_dn at *; omega); omega
    have T147 : pd_yv g p u v j → ∀ a0 a1 a2 : Int32, a0 = fv (pd_aw g D (gr_R g (3 * p)) i u) → a1 = fv (pd_aw g D (gr_R g (3 * p + 1)) u v) → a2 = fv (pd_aw g D (gr_R g (3 * p + 2)) v j) → wY_least_147 post J25 (wY_least_40 post J25 (nI p) (nI i) (nI j) (nI (pu_k g p)) (nI u) (nI (gr_P g)) (nI (gr_L g)) f_goal f_extra f_measured f_known f_more f_sum a_left a_size a_right a_text a_ops a_constants a_heights a_many a_chosen a_firstEnd a_secondEnd a_values a_nodes a_far a_productive a_useful a_covers (d + 1)) (nI p) (nI i) (nI j) (nI (pu_k g p)) (fv r) (nI u) (nI v) a0 a1 a2 (nI (gr_P g)) (nI (gr_L g)) f_goal f_extra f_measured f_known f_more f_sum a_left a_size a_right a_text a_ops a_constants a_heights a_many a_chosen a_firstEnd a_secondEnd a_values a_nodes a_far a_productive a_useful a_covers := by
      intro yv a0 a1 a2 e0 e1 e2
      subst e0 e1 e2
      refine ek_if (fv_neg _) (fun z => nm_r (nI_1 v) (skip (fun _ => by unfold pd_sm; omega))) (fun z0 => ek_if (fv_neg _) (fun z => nm_r (nI_1 v) (skip (fun _ => by unfold pd_sm; omega))) (fun z1 => ek_if (fv_neg _) (fun z => nm_r (nI_1 v) (skip (fun _ => by unfold pd_sm; omega))) (fun z2 => ?_)))
      have b0 := pw_le W B ok0 hiu (by omega) (show pd_aw g D (gr_R g (3 * p)) i u < 1000000 by omega)
      have b1 := pw_le W B ok1 huv (by omega) (show pd_aw g D (gr_R g (3 * p + 1)) u v < 1000000 by omega)
      have b2 := pw_le W B ok2 (show v ≤ j by omega) hj (show pd_aw g D (gr_R g (3 * p + 2)) v j < 1000000 by omega)
      have sm : pd_sm g D p i u v j < 1000000 := by unfold pd_sm; omega
      have es : fv (pd_aw g D (gr_R g (3 * p)) i u) + fv (pd_aw g D (gr_R g (3 * p + 1)) u v) + fv (pd_aw g D (gr_R g (3 * p + 2)) v j) = nI (pd_sm g D p i u v j) := by
        rw [fv_t (by omega), fv_t (by omega), fv_t (by omega), nI_add, nI_add]; rfl
      have T182 : pd_sm g D p i u v j < r → wY_least_182 post J25 (wY_least_40 post J25 (nI p) (nI i) (nI j) (nI (pu_k g p)) (nI u) (nI (gr_P g)) (nI (gr_L g)) f_goal f_extra f_measured f_known f_more f_sum a_left a_size a_right a_text a_ops a_constants a_heights a_many a_chosen a_firstEnd a_secondEnd a_values a_nodes a_far a_productive a_useful a_covers (d + 1)) (nI p) (nI i) (nI j) (nI (pu_k g p)) (nI u) (nI v) (fv (pd_aw g D (gr_R g (3 * p)) i u)) (fv (pd_aw g D (gr_R g (3 * p + 1)) u v)) (fv (pd_aw g D (gr_R g (3 * p + 2)) v j)) (nI (gr_P g)) (nI (gr_L g)) f_goal f_extra f_measured f_known f_more f_sum a_left a_size a_right a_text a_ops a_constants a_heights a_many a_chosen a_firstEnd a_secondEnd a_values a_nodes a_far a_productive a_useful a_covers := by
        intro lt
        have t := take yv (by omega) (by omega) (by omega) lt
        rw [fv_t sm] at t
        exact nm_r es (nm_r (nI_1 v) t)
      refine ek_if (fv_neg r) (fun z => T182 (by omega)) (fun z => ?_)
      rw [es]
      exact pk_le r (pd_sm g D p i u v j) (fun l => nm_r (nI_1 v) (skip (fun _ => l))) (fun l => T182 l) (fv_t (by omega)) rfl
    have c := pu_k_c W hp
    have z0 : ∀ {s x : Nat}, s = 99 → (0 : Int32) = fv (pd_aw g D s x x) := fun e => by rw [pd_aw_a e, Nat.sub_self]; rfl
    have T118 : pd_yv g p u v j → ∀ a0 a1 : Int32, a0 = fv (pd_aw g D (gr_R g (3 * p)) i u) → a1 = fv (pd_aw g D (gr_R g (3 * p + 1)) u v) → wY_least_118 post J25 (wY_least_40 post J25 (nI p) (nI i) (nI j) (nI (pu_k g p)) (nI u) (nI (gr_P g)) (nI (gr_L g)) f_goal f_extra f_measured f_known f_more f_sum a_left a_size a_right a_text a_ops a_constants a_heights a_many a_chosen a_firstEnd a_secondEnd a_values a_nodes a_far a_productive a_useful a_covers (d + 1)) (nI p) (nI i) (nI j) (nI (pu_k g p)) (fv r) (nI u) (nI v) a0 a1 (nI (gr_P g)) (nI (gr_L g)) f_goal f_extra f_measured f_known f_more f_sum a_left a_size a_right a_text a_ops a_constants a_heights a_many a_chosen a_firstEnd a_secondEnd a_values a_nodes a_far a_productive a_useful a_covers := by
      intro yv a0 a1 e0 e1
      refine pk_le 3 (pu_k g p) (fun l => ⟨xb_i2 (by omega), ys_away (D := D) (xm_R2 W mR hp) rfl rfl ok2 (by omega) (by omega) hj W tx mD (T147 yv _ _ _ e0 e1 rfl)⟩) (fun l => T147 yv _ _ _ e0 e1 ?_)
      have r2 : gr_R g (3 * p + 2) = 99 := by omega
      rw [yv.1 r2]; exact z0 r2
    have T73 : pd_yv g p u v j → wY_least_73 post J25 (wY_least_40 post J25 (nI p) (nI i) (nI j) (nI (pu_k g p)) (nI u) (nI (gr_P g)) (nI (gr_L g)) f_goal f_extra f_measured f_known f_more f_sum a_left a_size a_right a_text a_ops a_constants a_heights a_many a_chosen a_firstEnd a_secondEnd a_values a_nodes a_far a_productive a_useful a_covers (d + 1)) (nI p) (nI i) (nI j) (nI (pu_k g p)) (fv r) (nI u) (nI v) (nI (gr_P g)) (nI (gr_L g)) f_goal f_extra f_measured f_known f_more f_sum a_left a_size a_right a_text a_ops a_constants a_heights a_many a_chosen a_firstEnd a_secondEnd a_values a_nodes a_far a_productive a_useful a_covers := by
      intro yv
      refine ⟨xb_i0 (by omega), ys_away (D := D) (xm_R0 W mR hp) rfl rfl ok0 (by omega) hiu (by omega) W tx mD (pk_le 2 (pu_k g p) (fun l => ⟨xb_i1 (by omega), ys_away (D := D) (xm_R1 W mR hp) rfl rfl ok1 (by omega) huv (by omega) W tx mD (T118 yv _ _ rfl rfl)⟩) (fun l => T118 yv _ _ rfl ?_))⟩
      have r1 : gr_R g (3 * p + 1) = 99 := by omega
      have e := yv.2 r1
      rw [show v = u by omega]; exact z0 r1
    have T58 : (gr_R g (3 * p + 2) = 99 → v = j) → wY_least_58 post J25 (wY_least_40 post J25 (nI p) (nI i) (nI j) (nI (pu_k g p)) (nI u) (nI (gr_P g)) (nI (gr_L g)) f_goal f_extra f_measured f_known f_more f_sum a_left a_size a_right a_text a_ops a_constants a_heights a_many a_chosen a_firstEnd a_secondEnd a_values a_nodes a_far a_productive a_useful a_covers (d + 1)) (nI p) (nI i) (nI j) (nI (pu_k g p)) (fv r) (nI u) (nI v) (nI (gr_P g)) (nI (gr_L g)) f_goal f_extra f_measured f_known f_more f_sum a_left a_size a_right a_text a_ops a_constants a_heights a_many a_chosen a_firstEnd a_secondEnd a_values a_nodes a_far a_productive a_useful a_covers := by
      intro y2
      exact pk_le 2 (pu_k g p) (fun l => T73 ⟨y2, fun q => by omega⟩) (fun l => pk_le j u (fun l2 => T73 ⟨y2, fun q => by omega⟩) (fun l2 => nm_r (nI_1 v) (skip (fun yv => by have := yv.2 (by omega); omega))))
    exact br_f (nI_nlt (by omega) (by omega)) (pk_le 3 (pu_k g p) (fun l => T58 (fun q => by omega)) (fun l => pk_lt v j (fun l2 => nm_r (nI_1 v) (skip (fun yv => by have := yv.1 (by omega); omega))) (fun l2 => T58 (fun q => by omega))))
theorem ys_least {post : Int32 → Prop} {D : pu_C} {p i j : Nat} (W : gr_W g) (hp : p < gr_P g) (hij : i ≤ j) (hj : j ≤ gr_L g) (tx : xm_T g a_text) (mR : xm_R g a_right) (mZ : ym_Z g a_size) (mD : ym_far g a_far D) (B : pw_B g D) (h : ∀ r, yl_r g D p i j (fun _ _ => True) r → post (fv r)) : wpY_least post (nI (gr_P g), nI (gr_L g), f_goal, f_extra, f_measured, f_known, f_more, f_sum, a_left, a_size, a_right, a_text, a_ops, a_constants, a_heights, a_many, a_chosen, a_firstEnd, a_secondEnd, a_values, a_nodes, a_far, a_productive, a_useful, a_covers) (nI p) (nI i) (nI j) := by
  have hL := W.2.1
  have hP := W.1
  have k3 := pu_k_le g p
  refine ⟨vp_in_nI (by omega) (by decide), nm_r (e' := nI (pu_k g p)) (by rw [nI_clamp (by omega)]; exact mZ p hp) (pk_eq (pu_k g p) 0 (fun e => nm_r (e' := nI (j - i)) (pk_sub hij) ⟨1, ?_⟩) (fun e => ⟨j + 1 - i + 1, ?_⟩))⟩
  · have c := pu_k_c W hp
    have r0 : gr_R g (3 * p) = 99 := by omega
    have r1 : gr_R g (3 * p + 1) = 99 := by omega
    have r2 : gr_R g (3 * p + 2) = 99 := by omega
    have sm : ∀ u v, i ≤ u → u ≤ v → v ≤ j → pd_sm g D p i u v j = j - i := by
      intro u v h1 h2 h3
      unfold pd_sm; rw [pd_aw_a r0, pd_aw_a r1, pd_aw_a r2]; omega
    refine br_f (nI_nlt (by omega) (by omega)) (br_t (by rw [e]; decide) ?_)
    have := h (j - i) ⟨by omega, fun u v h1 h2 h3 _ _ => by rw [sm u v h1 h2 h3]; exact Nat.le_refl _, Or.inr ⟨j, j, hij, Nat.le_refl _, Nat.le_refl _, ⟨fun _ => rfl, fun _ => rfl⟩, (sm j j hij (Nat.le_refl _) (Nat.le_refl _)).symm, by rw [pd_aw_a r0]; omega, by rw [pd_aw_a r1]; omega, by rw [pd_aw_a r2]; omega⟩⟩
    rw [fv_t (by omega)] at this
    exact this
  · have K25 : ∀ d u r, u + d = j + 1 → i ≤ u → yl_r g D p i j (yb_dn u 0) r → wY_least_25 post (nI p) (nI i) (nI j) (nI (pu_k g p)) (nI (gr_P g)) (nI (gr_L g)) f_goal f_extra f_measured f_known f_more f_sum a_left a_size a_right a_text a_ops a_constants a_heights a_many a_chosen a_firstEnd a_secondEnd a_values a_nodes a_far a_productive a_useful a_covers (d + 1) (fv r) (nI u) := by
      intro d
      induction d with
      | zero =>
        intro u r hu hiu I
        exact br_t (nI_lt (by omega) (by omega)) (h r ⟨I.1, fun u' v' h1 h2 h3 h4 _ => I.2.1 u' v' h1 h2 h3 h4 (by unfold yb_dn; omega), I.2.2⟩)
      | succ d ih =>
        intro u r hu hiu I
        refine br_f (nI_nlt (by omega) (by omega)) (br_f (nI_nle (by omega) (by omega)) ⟨j + 1 - u + 1, ?_⟩)
        exact ys_least40 (g := g) W hp (by omega) hiu (by omega) hj tx mR mD B (fun r' I' => ih (u + 1) r' (by omega) (by omega) I') (j + 1 - u) u r (by omega) (Nat.le_refl _) ⟨I.1, fun u' v' h1 h2 h3 h4 h5 => I.2.1 u' v' h1 h2 h3 h4 (by unfold yb_dn at *; omega), I.2.2⟩
    exact K25 (j + 1 - i) i 1000000 (by omega) (Nat.le_refl _) ⟨Nat.le_refl _, fun u v h1 h2 h3 _ d => by unfold yb_dn at d; omega, Or.inl rfl⟩
end
