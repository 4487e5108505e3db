/-! the reference: what is what, the chart -/
def ym_H (g : gr_G) (a : Nat → Int32) (H : pu_C) : Prop := ∀ n i j, pu_V g n i j → a (cy n i j) = nI (H n i j)
def ym_Z (g : gr_G) (a : Nat → Int32) : Prop := ∀ p, p < gr_P g → a p = nI (pu_k g p)
theorem pu_k_c {g : gr_G} {p : Nat} (W : gr_W g) (hp : p < gr_P g) : (pu_k g p = 0 ∧ gr_R g (3 * p) = 99 ∧ gr_R g (3 * p + 1) = 99 ∧ gr_R g (3 * p + 2) = 99) ∨ (pu_k g p = 1 ∧ gr_R g (3 * p) ≠ 99 ∧ gr_R g (3 * p + 1) = 99 ∧ gr_R g (3 * p + 2) = 99) ∨ (pu_k g p = 2 ∧ gr_R g (3 * p) ≠ 99 ∧ gr_R g (3 * p + 1) ≠ 99 ∧ gr_R g (3 * p + 2) = 99) ∨ (pu_k g p = 3 ∧ gr_R g (3 * p) ≠ 99 ∧ gr_R g (3 * p + 1) ≠ 99 ∧ gr_R g (3 * p + 2) ≠ 99) := by
  have gp := W.2.2.2.2.1 p hp
  unfold pu_k
  by_cases r0 : gr_R g (3 * p) = 99
  · have r1 := gp.1 r0
    exact Or.inl ⟨if_pos r0, r0, r1, gp.2 r1⟩
  · rw [if_neg r0]
    by_cases r1 : gr_R g (3 * p + 1) = 99
    · exact Or.inr (Or.inl ⟨if_pos r1, r0, r1, gp.2 r1⟩)
    · rw [if_neg r1]
      by_cases r2 : gr_R g (3 * p + 2) = 99
      · exact Or.inr (Or.inr (Or.inl ⟨if_pos r2, r0, r1, r2⟩))
      · exact Or.inr (Or.inr (Or.inr ⟨if_neg r2, r0, r1, r2⟩))
theorem cy_inj {g : gr_G} {n i j n' i' j' : Nat} (W : gr_W g) (a : pu_V g n i j) (b : pu_V g n' i' j') (e : cy n i j = cy n' i' j') : n = n' ∧ i = i' ∧ j = j' := by
  have hL := W.2.1
  unfold pu_V at a b
  exact cy_i e (by omega) (by omega) (by omega) (by omega)
theorem ym_H_up {g : gr_G} {hts : Nat → Int32} {H : pu_C} (W : gr_W g) (mH : ym_H g hts H) {n i j : Nat} (hv : pu_V g n i j) (h : Nat) : ym_H g (upd hts (cy n i j) (nI h)) (up3 H n i j h) := by
  intro a b c hv'
  by_cases z : a = n ∧ b = i ∧ c = j
  · obtain ⟨rfl, rfl, rfl⟩ := z
    rw [pk_us, up3_s]
  · rw [up3_n z, pk_un (fun e => z (cy_inj W hv' hv e))]
    exact mH a b c hv'
section
variable {g : gr_G} {f_productions f_length f_goal f_extra f_measured f_known f_more : Int32} {f_sum : Int64} {a_left a_size a_right a_text a_ops a_constants a_heights : Nat → Int32} {a_many : Nat → Int64} {a_chosen a_firstEnd a_secondEnd : Nat → Int32} {a_values a_nodes : Nat → Int64} {a_far a_productive a_useful a_covers : Nat → Int32}
theorem ys_tm {post : Int32 → Prop} {x : Int32} (ht : ∀ n, n < 6 → x = nI n → post 1) (hf : (∀ n, n < 6 → x ≠ nI n) → post 0) : wpY_terminal post (f_productions, f_length, f_goal, f_extra, f_measured, f_known, f_more, f_sum, a_left, a_size, a_right, a_text, a_ops, a_constants, a_heights, a_many, a_chosen, a_firstEnd, a_secondEnd, a_values, a_nodes, a_far, a_productive, a_useful, a_covers) x := by
  refine br_c (fun h => hf (fun n hn => xb_nlt (lo := 0) (by decide) h (by omega) (by omega))) (fun h => br_c (fun h2 => hf (fun n hn => xb_ngt (hi := 5) (by decide) h2 (by omega))) (fun h2 => ?_))
  obtain ⟨k, hk, rfl⟩ := nI_of h
  rw [show (5 : Int32) = nI 5 from rfl, nI_ltI (by decide) hk] at h2
  exact ht k (by omega) rfl
theorem ys_nt {post : Int32 → Prop} {x : Int32} (ht : ∀ n, n < 5 → x = nI (10 + n) → post 1) (hf : (∀ n, n < 5 → x ≠ nI (10 + n)) → post 0) : wpY_nonterminal post (f_productions, f_length, f_goal, f_extra, f_measured, f_known, f_more, f_sum, a_left, a_size, a_right, a_text, a_ops, a_constants, a_heights, a_many, a_chosen, a_firstEnd, a_secondEnd, a_values, a_nodes, a_far, a_productive, a_useful, a_covers) x := by
  refine br_c (fun h => hf (fun n hn => xb_nlt (lo := 10) (by decide) h (by omega) (by omega))) (fun h => br_c (fun h2 => hf (fun n hn => xb_ngt (hi := 14) (by decide) h2 (by omega))) (fun h2 => ?_))
  obtain ⟨k, k1, k2, e⟩ := xb_lit (n := 15) x 10 (by decide) h (fun z => h2 (by
    obtain ⟨q, hq, e⟩ : ∃ q, q < 2 ^ 31 ∧ x = nI q := nI_of (fun y => by
      rw [Int32.lt_iff_toInt_lt] at y
      rw [Int32.le_iff_toInt_le, nI_toInt (by decide)] at z
      rw [show (0 : Int32).toInt = 0 from rfl] at y
      omega)
    rw [e, nI_leI (by decide) hq] at z
    rw [e, show (14 : Int32) = nI 14 from rfl, nI_ltI (by decide) hq]; omega)) (by decide)
  exact ht (k - 10) (by omega) (by rw [e]; exact congrArg nI (by omega))
theorem ys_wrong {post : Int32 → Prop} {x : Int32} (ht : ∀ s, pu_ok s → x = sy_m s → post 0) (hf : (∀ s, pu_ok s → x ≠ sy_m s) → post 1) : wpY_wrong post (f_productions, f_length, f_goal, f_extra, f_measured, f_known, f_more, f_sum, a_left, a_size, a_right, a_text, a_ops, a_constants, a_heights, a_many, a_chosen, a_firstEnd, a_secondEnd, a_values, a_nodes, a_far, a_productive, a_useful, a_covers) x := by
  refine br_c (fun h => ht 99 (Or.inr (Or.inr rfl)) h) (fun h => ?_)
  refine ys_tm (fun n hn e => br_f (by decide) (ht n (Or.inl hn) (by rw [sy_n (by omega)]; exact e))) (fun h1 => br_t rfl ?_)
  refine ys_nt (fun n hn e => br_f (by decide) (ht (10 + n) (Or.inr (Or.inl ⟨by omega, by omega⟩)) (by rw [sy_n (by omega)]; exact e))) (fun h2 => br_t rfl (hf (fun s ok e => ?_)))
  by_cases c : s = 99
  · rw [c] at e; exact h e
  · rw [sy_n c] at e
    unfold pu_ok at ok
    by_cases c2 : s < 6
    · exact h1 s c2 e
    · exact h2 (s - 10) (by omega) (by rw [e]; exact congrArg nI (by omega))
theorem ys_cell {post : Int32 → Prop} {p0 p1 p2 : Int32} (n i j : Nat) (h0 : p0 = nI (10 + n)) (h1 : p1 = nI i) (h2 : p2 = nI j) (h : post (nI (cy n i j))) : wpY_cell post (f_productions, f_length, f_goal, f_extra, f_measured, f_known, f_more, f_sum, a_left, a_size, a_right, a_text, a_ops, a_constants, a_heights, a_many, a_chosen, a_firstEnd, a_secondEnd, a_values, a_nodes, a_far, a_productive, a_useful, a_covers) p0 p1 p2 := by
  subst h0 h1 h2
  have e : ((196 * (nI (10 + n) - 10)) + (14 * nI i)) + nI j = nI (cy n i j) := by
    rw [xb_10, show (196 : Int32) = nI 196 from rfl, show (14 : Int32) = nI 14 from rfl, pk_mul, pk_mul, nI_add, nI_add]; rfl
  unfold wpY_cell
  rw [e]; exact h
end
section
variable {g : gr_G} {f_goal f_extra f_measured f_known f_more : Int32} {f_sum : Int64} {a_left a_size a_right a_text a_ops a_constants a_heights : Nat → Int32} {a_many : Nat → Int64} {a_chosen a_firstEnd a_secondEnd : Nat → Int32} {a_values a_nodes : Nat → Int64} {a_far a_productive a_useful a_covers : Nat → Int32}
theorem ys_span {post : Int32 → Prop} {p0 p1 p2 : Int32} (W : gr_W g) (ht : ∀ n i j, pu_V g n i j → p0 = nI (10 + n) → p1 = nI i → p2 = nI j → post 1) (hf : (∀ n i j, pu_V g n i j → ¬ (p0 = nI (10 + n) ∧ p1 = nI i ∧ p2 = nI j)) → post 0) : wpY_span post (nI (gr_P g), nI (gr_L g), f_goal, f_extra, f_measured, f_known, f_more, f_sum, a_left, a_size, a_right, a_text, a_ops, a_constants, a_heights, a_many, a_chosen, a_firstEnd, a_secondEnd, a_values, a_nodes, a_far, a_productive, a_useful, a_covers) p0 p1 p2 := by
  have hL := W.2.1
  unfold wpY_span
  refine ys_nt (fun n hn en => br_f (by decide) ?_) (fun h => br_t rfl (hf (fun n i j hv q => h n hv.1 q.1)))
  refine br_c (fun h => hf (fun n i j hv q => xb_nlt (lo := 0) (k := i) (by decide) h (by have := hv.2; omega) (by omega) q.2.1)) (fun h => ?_)
  obtain ⟨i, hi, rfl⟩ := nI_of h
  refine br_c (fun h2 => hf (fun n i' j hv q => ?_)) (fun h2 => ?_)
  · have hv2 := hv.2
    have e1 := q.2.1
    rw [nI_eq hi (by omega)] at e1
    rw [q.2.2, nI_ltI (by omega) hi] at h2
    omega
  · obtain ⟨j, hj, rfl⟩ := nI_of (fun z : p2 < 0 => h2 (by
      rw [Int32.lt_iff_toInt_lt] at *
      rw [nI_toInt hi]
      rw [show (0 : Int32).toInt = 0 from rfl] at z
      omega))
    rw [nI_ltI hj hi] at h2
    refine pk_lt (gr_L g) j (fun l => hf (fun n' i' j' hv q => ?_)) (fun l => ht n i j ⟨hn, by omega, l⟩ en rfl rfl)
    have hv2 := hv.2
    have e2 := q.2.2
    rw [nI_eq hj (by omega)] at e2
    omega
theorem ys_stands {post : Int32 → Prop} {H : pu_C} {s i j h : Nat} {s' i' j' h' : Int32} (es : s' = sy_m s) (ei : i' = nI i) (ej : j' = nI j) (eh : h' = nI h) (ok : pu_ok s) (s99 : s ≠ 99) (hij : i ≤ j) (hj : j ≤ gr_L g) (W : gr_W g) (hh : h ≤ 1000) (tx : xm_T g a_text) (mH : ym_H g a_heights H) (hb : ∀ n i j, pu_V g n i j → H n i j ≤ 1000) (ht : pu_ps g H s i j h → post 1) (hf : ¬ pu_ps g H s i j h → post 0) : wpY_stands post (nI (gr_P g), nI (gr_L g), f_goal, f_extra, f_measured, f_known, f_more, f_sum, a_left, a_size, a_right, a_text, a_ops, a_constants, a_heights, a_many, a_chosen, a_firstEnd, a_secondEnd, a_values, a_nodes, a_far, a_productive, a_useful, a_covers) s' i' j' h' := by
  subst es ei ej eh
  have hL := W.2.1
  refine ek_if (sy_ge ok) (fun c => ?_) (fun c => ?_)
  · have hv := xb_ntV ok c hij hj
    have hl := cy_lt W hv
    have hb' := hb _ _ _ hv
    refine ys_cell (s - 10) i j (sy_nt c) rfl rfl ⟨vp_in_nI hl (by decide), nm_r (e' := nI (H (s - 10) i j)) (by rw [nI_clamp (by omega)]; exact mH _ _ _ hv) ?_⟩
    exact pk_le (H (s - 10) i j) 0 (fun z => hf (fun y => by have := (pu_ps_n c).mp y; omega)) (fun z => pk_le h (H (s - 10) i j) (fun z2 => hf (fun y => by have := (pu_ps_n c).mp y; omega)) (fun z2 => ht ((pu_ps_n c).mpr ⟨z, z2⟩)))
  · have st : s < 10 := by unfold pu_ok at ok; omega
    refine ek_if (d := j = i + 1) (by rw [nI_1, nI_eq (by omega) (by omega)]) (fun z => ⟨vp_in_nI (by omega) (by decide), ?_⟩) (fun z => hf (fun y => z ((pu_ps_t st).mp y).1))
    exact ek_if (d := gr_T g i = s) (by rw [nI_clamp (by omega), tx i (by omega)]; exact sy_eq ok (W.2.2.2.2.2 i (by omega))) (fun y => ht ((pu_ps_t st).mpr ⟨z, y⟩)) (fun y => hf (fun q => y ((pu_ps_t st).mp q).2))
theorem ys_fits {post : Int32 → Prop} {H : pu_C} {p i u v j h : Nat} (W : gr_W g) (hp : p < gr_P g) (hu : i ≤ u) (hv : u ≤ v) (hvj : v ≤ j) (hj : j ≤ gr_L g) (hh : h ≤ 1000) (tx : xm_T g a_text) (mR : xm_R g a_right) (mZ : ym_Z g a_size) (mH : ym_H g a_heights H) (hb : ∀ n i j, pu_V g n i j → H n i j ≤ 1000) (ht : pu_F g H p i u v j h → post 1) (hf : ¬ pu_F g H p i u v j h → post 0) : wpY_fits post (nI (gr_P g), nI (gr_L g), f_goal, f_extra, f_measured, f_known, f_more, f_sum, a_left, a_size, a_right, a_text, a_ops, a_constants, a_heights, a_many, a_chosen, a_firstEnd, a_secondEnd, a_values, a_nodes, a_far, a_productive, a_useful, a_covers) (nI p) (nI i) (nI u) (nI v) (nI j) (nI h) := by
  have hL := W.2.1
  have hP := W.1
  refine ⟨vp_in_nI (by omega) (by decide), nm_r (e' := nI (pu_k g p)) (by rw [nI_clamp (by omega)]; exact mZ p hp) ?_⟩
  have ok0 := pu_okR0 W hp
  have ok1 := pu_okR W hp (m := 1) (by decide)
  have ok2 := pu_okR W hp (m := 2) (by decide)
  have c := pu_k_c W hp
  have S0 : ∀ {post : Int32 → Prop}, gr_R g (3 * p) ≠ 99 → (pu_ps g H (gr_R g (3 * p)) i u h → post 1) → (¬ pu_ps g H (gr_R g (3 * p)) i u h → post 0) → wpY_stands post (nI (gr_P g), nI (gr_L g), f_goal, f_extra, f_measured, f_known, f_more, f_sum, a_left, a_size, a_right, a_text, a_ops, a_constants, a_heights, a_many, a_chosen, a_firstEnd, a_secondEnd, a_values, a_nodes, a_far, a_productive, a_useful, a_covers) (a_right (3 * nI p).toNatClampNeg) (nI i) (nI u) (nI h) := fun n99 a b => ys_stands (H := H) (xm_R0 W mR hp) rfl rfl rfl ok0 n99 hu (by omega) W hh tx mH hb a b
  have S1 : ∀ {post : Int32 → Prop}, gr_R g (3 * p + 1) ≠ 99 → (pu_ps g H (gr_R g (3 * p + 1)) u v h → post 1) → (¬ pu_ps g H (gr_R g (3 * p + 1)) u v h → post 0) → wpY_stands post (nI (gr_P g), nI (gr_L g), f_goal, f_extra, f_measured, f_known, f_more, f_sum, a_left, a_size, a_right, a_text, a_ops, a_constants, a_heights, a_many, a_chosen, a_firstEnd, a_secondEnd, a_values, a_nodes, a_far, a_productive, a_useful, a_covers) (a_right (3 * nI p + 1).toNatClampNeg) (nI u) (nI v) (nI h) := fun n99 a b => ys_stands (H := H) (xm_R1 W mR hp) rfl rfl rfl ok1 n99 hv (by omega) W hh tx mH hb a b
  have S2 : ∀ {post : Int32 → Prop}, gr_R g (3 * p + 2) ≠ 99 → (pu_ps g H (gr_R g (3 * p + 2)) v j h → post 1) → (¬ pu_ps g H (gr_R g (3 * p + 2)) v j h → post 0) → wpY_stands post (nI (gr_P g), nI (gr_L g), f_goal, f_extra, f_measured, f_known, f_more, f_sum, a_left, a_size, a_right, a_text, a_ops, a_constants, a_heights, a_many, a_chosen, a_firstEnd, a_secondEnd, a_values, a_nodes, a_far, a_productive, a_useful, a_covers) (a_right (3 * nI p + 2).toNatClampNeg) (nI v) (nI j) (nI h) := fun n99 a b => ys_stands (H := H) (xm_R2 W mR hp) rfl rfl rfl ok2 n99 hvj hj W hh tx mH hb a b
  obtain ⟨ek, r0, r1, r2⟩ | ⟨ek, r0, r1, r2⟩ | ⟨ek, r0, r1, r2⟩ | ⟨ek, r0, r1, r2⟩ := c
  · rw [ek]
    have F : pu_F g H p i u v j h ↔ (i = u ∧ u = v ∧ v = j) := by
      unfold pu_F; rw [pu_ps_a r0, pu_ps_a r1, pu_ps_a r2]
    refine br_f (by decide) (pk_eq v j (fun e => br_f (by decide) (pk_eq u j (fun e2 => br_f (by decide) (pk_eq i j (fun e3 => br_t (by decide) (br_t (by decide) (br_t (by decide) (ht (F.mpr ⟨by omega, by omega, e⟩))))) (fun e3 => hf (fun z => by have := F.mp z; omega)))) (fun e2 => hf (fun z => by have := F.mp z; omega)))) (fun e => hf (fun z => e (F.mp z).2.2)))
  · rw [ek]
    have F : pu_F g H p i u v j h ↔ (pu_ps g H (gr_R g (3 * p)) i u h ∧ u = v ∧ v = j) := by
      unfold pu_F; rw [pu_ps_a r1, pu_ps_a r2]
    refine br_f (by decide) (pk_eq v j (fun e => br_f (by decide) (pk_eq u j (fun e2 => br_t (by decide) (br_f (by decide) ⟨xb_i0 (by omega), S0 r0 (fun f0 => br_f (by decide) (br_t (by decide) (br_t (by decide) (ht (F.mpr ⟨f0, by omega, e⟩))))) (fun f0 => br_t rfl (hf (fun z => f0 (F.mp z).1)))⟩)) (fun e2 => hf (fun z => by have := F.mp z; omega)))) (fun e => hf (fun z => e (F.mp z).2.2)))
  · rw [ek]
    have F : pu_F g H p i u v j h ↔ (pu_ps g H (gr_R g (3 * p)) i u h ∧ pu_ps g H (gr_R g (3 * p + 1)) u v h ∧ v = j) := by
      unfold pu_F; rw [pu_ps_a r2]
    refine br_f (by decide) (pk_eq v j (fun e => br_t (by decide) (br_t (by decide) (br_f (by decide) ⟨xb_i0 (by omega), S0 r0 (fun f0 => br_f (by decide) (br_f (by decide) ⟨xb_i1 (by omega), S1 r1 (fun f1 => br_f (by decide) (br_t (by decide) (ht (F.mpr ⟨f0, f1, e⟩)))) (fun f1 => br_t rfl (hf (fun z => f1 (F.mp z).2.1)))⟩)) (fun f0 => br_t rfl (hf (fun z => f0 (F.mp z).1)))⟩))) (fun e => hf (fun z => e (F.mp z).2.2)))
  · rw [ek]
    refine br_t (by decide) (br_t (by decide) (br_t (by decide) (br_f (by decide) ⟨xb_i0 (by omega), S0 r0 (fun f0 => br_f (by decide) (br_f (by decide) ⟨xb_i1 (by omega), S1 r1 (fun f1 => br_f (by decide) (br_f (by decide) ⟨xb_i2 (by omega), S2 r2 (fun f2 => br_f (by decide) (ht ⟨f0, f1, f2⟩)) (fun f2 => br_t rfl (hf (fun z => f2 z.2.2)))⟩)) (fun f1 => br_t rfl (hf (fun z => f1 z.2.1)))⟩)) (fun f0 => br_t rfl (hf (fun z => f0 z.1)))⟩)))
theorem ys_fitsSome {post : Int32 → Prop} {H : pu_C} {p i j h : Nat} (W : gr_W g) (hp : p < gr_P g) (hij : i ≤ j) (hj : j ≤ gr_L g) (hh : h ≤ 1000) (tx : xm_T g a_text) (mR : xm_R g a_right) (mZ : ym_Z g a_size) (mH : ym_H g a_heights H) (hb : ∀ n i j, pu_V g n i j → H n i j ≤ 1000) (ht : ∀ u v, i ≤ u → u ≤ v → v ≤ j → pu_F g H p i u v j h → post 1) (hf : (∀ u v, i ≤ u → u ≤ v → v ≤ j → ¬ pu_F g H p i u v j h) → post 0) : wpY_fitsSome post (nI (gr_P g), nI (gr_L g), f_goal, f_extra, f_measured, f_known, f_more, f_sum, a_left, a_size, a_right, a_text, a_ops, a_constants, a_heights, a_many, a_chosen, a_firstEnd, a_secondEnd, a_values, a_nodes, a_far, a_productive, a_useful, a_covers) (nI p) (nI i) (nI j) (nI h) := by
  have hL := W.2.1
  have K13 : ∀ {J3 : Int32 → Prop} (u : Nat), i ≤ u → u ≤ j → ((∀ v, u ≤ v → v ≤ j → ¬ pu_F g H p i u v j h) → J3 (nI (u + 1))) → ∀ d v, v + d = j + 1 → u ≤ v → (∀ v', u ≤ v' → v' < v → ¬ pu_F g H p i u v' j h) → wY_fitsSome_13 post J3 (nI p) (nI i) (nI j) (nI h) (nI u) (nI (gr_P g)) (nI (gr_L g)) f_goal f_extra f_measured f_known f_more f_sum a_left a_size a_right a_text a_ops a_constants a_heights a_many a_chosen a_firstEnd a_secondEnd a_values a_nodes a_far a_productive a_useful a_covers (d + 1) (nI v) := by
    intro J3 u hiu huj hJ d
    induction d with
    | zero =>
      intro v hv huv hist
      exact br_t (nI_lt (by omega) (by omega)) (nm_r (nI_1 u) (hJ (fun v' h1 h2 => hist v' h1 (by omega))))
    | succ d ih =>
      intro v hv huv hist
      refine br_f (nI_nlt (by omega) (by omega)) (ys_fits W hp hiu huv (by omega) hj hh tx mR mZ mH hb (fun f => br_f (by decide) (ht u v hiu huv (by omega) f)) (fun f => br_t rfl (nm_r (nI_1 v) (ih (v + 1) (by omega) (by omega) (fun v' h1 h2 => ?_)))))
      by_cases c : v' = v
      · rw [c]; exact f
      · exact hist v' h1 (by omega)
  have K3 : ∀ d u, u + d = j + 1 → i ≤ u → (∀ u' v, i ≤ u' → u' < u → u' ≤ v → v ≤ j → ¬ pu_F g H p i u' v j h) → wY_fitsSome_3 post (nI p) (nI i) (nI j) (nI h) (nI (gr_P g)) (nI (gr_L g)) f_goal f_extra f_measured f_known f_more f_sum a_left a_size a_right a_text a_ops a_constants a_heights a_many a_chosen a_firstEnd a_secondEnd a_values a_nodes a_far a_productive a_useful a_covers (d + 1) (nI u) := by
    intro d
    induction d with
    | zero =>
      intro u hu hiu hist
      exact br_t (nI_lt (by omega) (by omega)) (hf (fun u' v h1 h2 h3 => hist u' v h1 (by omega) h2 h3))
    | succ d ih =>
      intro u hu hiu hist
      refine br_f (nI_nlt (by omega) (by omega)) ⟨j + 1 - u + 1, K13 u hiu (by omega) (fun hn => ih (u + 1) (by omega) (by omega) (fun u' v h1 h2 h3 h4 => ?_)) (j + 1 - u) u (by omega) (Nat.le_refl _) (fun v' h1 h2 => by omega)⟩
      by_cases c : u' = u
      · rw [c]; rw [c] at h3; exact hn v h3 h4
      · exact hist u' v h1 (by omega) h3 h4
  exact ⟨j + 1 - i + 1, K3 (j + 1 - i) i (by omega) (Nat.le_refl _) (fun u' v h1 h2 => by omega)⟩
theorem ys_hasTree {post : Int32 → Prop} {H : pu_C} {n i j h : Nat} (W : gr_W g) (hv : pu_V g n i j) (h0 : 0 < h) (hh : h ≤ 1000) (tx : xm_T g a_text) (mR : xm_R g a_right) (mF : xm_F g a_left) (mZ : ym_Z g a_size) (mH : ym_H g a_heights H) (hb : ∀ n i j, pu_V g n i j → H n i j ≤ 1000) (ht : pu_HT g H n i j h → post 1) (hf : ¬ pu_HT g H n i j h → post 0) : wpY_hasTree post (nI (gr_P g), nI (gr_L g), f_goal, f_extra, f_measured, f_known, f_more, f_sum, a_left, a_size, a_right, a_text, a_ops, a_constants, a_heights, a_many, a_chosen, a_firstEnd, a_secondEnd, a_values, a_nodes, a_far, a_productive, a_useful, a_covers) (nI (10 + n)) (nI i) (nI j) (nI h) := by
  have hP := W.1
  have hn5 := hv.1
  have K3 : ∀ d p, p + d = gr_P g → (∀ q u v, q < p → gr_F g q = n → i ≤ u → u ≤ v → v ≤ j → ¬ pu_F g H q i u v j h) → wY_hasTree_3 post (nI (10 + n)) (nI i) (nI j) (nI h) (nI (gr_P g)) (nI (gr_L g)) f_goal f_extra f_measured f_known f_more f_sum a_left a_size a_right a_text a_ops a_constants a_heights a_many a_chosen a_firstEnd a_secondEnd a_values a_nodes a_far a_productive a_useful a_covers (d + 1) (nI p) := by
    intro d
    induction d with
    | zero =>
      intro p hp hist
      refine br_t (nI_le (by omega) (by omega)) (hf (fun z => ?_))
      obtain ⟨_, q, u, v, hq, hn, h1, h2, h3, f⟩ := z
      exact hist q u v (by omega) hn h1 h2 h3 f
    | succ d ih =>
      intro p hp hist
      have hp' : p < gr_P g := by omega
      have hF := W.2.2.1 p hp'
      refine br_f (nI_ge (by omega) (by omega)) ⟨vp_in_nI (by omega) (by decide), ?_⟩
      refine ek_if (d := gr_F g p = n) (by rw [xm_Fp W mF hp', nI_eq (by omega) (by omega)]; omega) (fun c => ?_) (fun c => nm_r (nI_1 p) (ih (p + 1) (by omega) (fun q u v hq hn h1 h2 h3 => ?_)))
      · refine ys_fitsSome W hp' hv.2.1 hv.2.2 hh tx mR mZ mH hb (fun u v h1 h2 h3 f => br_f (by decide) (ht ⟨h0, p, u, v, hp', c, h1, h2, h3, f⟩)) (fun nf => br_t rfl (nm_r (nI_1 p) (ih (p + 1) (by omega) (fun q u v hq hn h1 h2 h3 => ?_))))
        by_cases z : q = p
        · rw [z]; exact nf u v h1 h2 h3
        · exact hist q u v (by omega) hn h1 h2 h3
      · by_cases z : q = p
        · rw [z] at hn; exact absurd hn c
        · exact hist q u v (by omega) hn h1 h2 h3
  exact ⟨gr_P g + 1, K3 (gr_P g) 0 (by omega) (fun q u v hq => by omega)⟩
end
