/-! numbers -/
def sy_m (s : Nat) : Int32 := if s = 99 then (-1) else nI s
def cx (n i j : Nat) : Nat := 121 * n + 11 * i + j
def cy (n i j : Nat) : Nat := 196 * n + 14 * i + j
theorem xb_m1T {a : Nat} (h : a < 2 ^ 30) : (nI a + (-1)).toInt = (a : Int) - 1 := by
  have e : nI a + (-1) = nI a - nI 1 := by
    rw [Int32.sub_eq_add_neg]; rfl
  rw [e, pk_sub_toInt h (by decide)]; rfl
theorem xb_m1lt {a b : Nat} (ha : a < 2 ^ 30) (hb : b < 2 ^ 30) : nI a + (-1) < nI b ↔ a ≤ b := by
  rw [Int32.lt_iff_toInt_lt, xb_m1T ha, nI_toInt (by omega)]; omega
theorem xb_neg1 (n : Nat) (h : n < 2 ^ 31) : ¬ nI n = -1 := by
  intro e
  have := congrArg Int32.toInt e
  rw [nI_toInt h, show ((-1 : Int32)).toInt = -1 from by decide] at this
  omega
theorem sy_99 : sy_m 99 = -1 := rfl
theorem sy_n {s : Nat} (h : s ≠ 99) : sy_m s = nI s := if_neg h
theorem sy_e1 {s : Nat} (ok : pu_ok s) : sy_m s = -1 ↔ s = 99 := by
  constructor
  · intro e
    by_cases h : s = 99
    · exact h
    · rw [sy_n h] at e
      exact absurd e (xb_neg1 s (by unfold pu_ok at ok; omega))
  · intro e; rw [e]; rfl
theorem sy_ge {s : Nat} (ok : pu_ok s) : 10 ≤ sy_m s ↔ (10 ≤ s ∧ s < 99) := by
  by_cases h : s = 99
  · subst h; rw [sy_99]; constructor
    · intro z; exact absurd z (by decide)
    · intro z; omega
  · rw [sy_n h, show (10 : Int32) = nI 10 from rfl, nI_leI (by decide) (by unfold pu_ok at ok; omega)]
    unfold pu_ok at ok; omega
theorem sy_lt {s : Nat} (ok : pu_ok s) : sy_m s < 10 ↔ (s < 10 ∨ s = 99) := by
  by_cases h : s = 99
  · subst h; rw [sy_99]; constructor
    · intro z; exact Or.inr rfl
    · intro z; decide
  · rw [sy_n h, show (10 : Int32) = nI 10 from rfl, nI_ltI (by unfold pu_ok at ok; omega) (by decide)]
    omega
theorem sy_eq {s t : Nat} (ok : pu_ok s) (ht : t < 6) : nI t = sy_m s ↔ t = s := by
  by_cases h : s = 99
  · subst h; rw [sy_99]; constructor
    · intro z; exact absurd z (xb_neg1 t (by omega))
    · intro z; omega
  · rw [sy_n h, nI_eq (by omega) (by unfold pu_ok at ok; omega)]
theorem sy_nt {s : Nat} (h : 10 ≤ s ∧ s < 99) : sy_m s = nI (10 + (s - 10)) := by
  rw [sy_n (by omega), show 10 + (s - 10) = s by omega]
theorem xb_10 (n : Nat) : nI (10 + n) - 10 = nI n := by
  rw [show (10 : Int32) = nI 10 from rfl, pk_sub (by omega), show 10 + n - 10 = n by omega]
theorem cx_i {n i j n' i' j' : Nat} (h : cx n i j = cx n' i' j') (hi : i ≤ 10) (hj : j ≤ 10) (hi' : i' ≤ 10) (hj' : j' ≤ 10) : n = n' ∧ i = i' ∧ j = j' := by
  unfold cx at h; omega
theorem cy_i {n i j n' i' j' : Nat} (h : cy n i j = cy n' i' j') (hi : i ≤ 10) (hj : j ≤ 10) (hi' : i' ≤ 10) (hj' : j' ≤ 10) : n = n' ∧ i = i' ∧ j = j' := by
  unfold cy at h; omega
theorem xb_r0 {p : Nat} (h : p < 12) : (3 * nI p).toNatClampNeg = 3 * p := by
  rw [show (3 : Int32) = nI 3 from rfl, pk_mul, nI_clamp (by omega)]
theorem xb_r {p m : Nat} (h : p < 12) (hm : m < 3) : (3 * nI p + nI m).toNatClampNeg = 3 * p + m := by
  rw [show (3 : Int32) = nI 3 from rfl, pk_mul, nI_add, nI_clamp (by omega)]
theorem xb_r1 {p : Nat} (h : p < 12) : (3 * nI p + 1).toNatClampNeg = 3 * p + 1 := xb_r h (by decide)
theorem xb_r2 {p : Nat} (h : p < 12) : (3 * nI p + 2).toNatClampNeg = 3 * p + 2 := xb_r h (by decide)
theorem xb_i0 {p : Nat} (h : p < 12) : vp_in (3 * nI p) 36 := by
  rw [show (3 : Int32) = nI 3 from rfl, pk_mul]; exact vp_in_nI (by omega) (by decide)
theorem xb_i {p m : Nat} (h : p < 12) (hm : m < 3) : vp_in (3 * nI p + nI m) 36 := by
  rw [show (3 : Int32) = nI 3 from rfl, pk_mul, nI_add]; exact vp_in_nI (by omega) (by decide)
theorem xb_i1 {p : Nat} (h : p < 12) : vp_in (3 * nI p + 1) 36 := xb_i h (show 1 < 3 by decide)
theorem xb_i2 {p : Nat} (h : p < 12) : vp_in (3 * nI p + 2) 36 := xb_i h (show 2 < 3 by decide)
theorem xb_cell {post : Int32 → Prop} {p0 p1 p2 : Int32} (n i j : Nat) (h0 : p0 = nI (10 + n)) (h1 : p1 = nI i) (h2 : p2 = nI j) (h : post (nI (cx n i j))) : wpX_cell post p0 p1 p2 := by
  subst h0 h1 h2
  have e : (((nI (10 + n) - 10) * 121) + (nI i * 11)) + nI j = nI (cx n i j) := by
    rw [xb_10, show (121 : Int32) = nI 121 from rfl, show (11 : Int32) = nI 11 from rfl, pk_mul, pk_mul, nI_add, nI_add]
    exact congrArg nI (by unfold cx; omega)
  unfold wpX_cell
  rw [e]; exact h
/-! what the arrays hold -/
def xm_T (g : gr_G) (a : Nat → Int32) : Prop := ∀ i, i < gr_L g → a i = nI (gr_T g i)
def xm_R (g : gr_G) (a : Nat → Int32) : Prop := ∀ k, k < 3 * gr_P g → a k = sy_m (gr_R g k)
def xm_F (g : gr_G) (a : Nat → Int32) : Prop := ∀ p, p < gr_P g → a p = nI (10 + gr_F g p)
def xm_H (g : gr_G) (a : Nat → Int32) (H : pu_C) : Prop := ∀ n i j, pu_V g n i j → a (cx n i j) = nI (H n i j)
theorem xm_R0 {g : gr_G} {a : Nat → Int32} (W : gr_W g) (h : xm_R g a) {p : Nat} (hp : p < gr_P g) : a (3 * nI p).toNatClampNeg = sy_m (gr_R g (3 * p)) := by
  rw [xb_r0 (by have := W.1; omega)]; exact h _ (by omega)
theorem xm_R1 {g : gr_G} {a : Nat → Int32} (W : gr_W g) (h : xm_R g a) {p : Nat} (hp : p < gr_P g) : a (3 * nI p + 1).toNatClampNeg = sy_m (gr_R g (3 * p + 1)) := by
  rw [xb_r1 (by have := W.1; omega)]; exact h _ (by omega)
theorem xm_R2 {g : gr_G} {a : Nat → Int32} (W : gr_W g) (h : xm_R g a) {p : Nat} (hp : p < gr_P g) : a (3 * nI p + 2).toNatClampNeg = sy_m (gr_R g (3 * p + 2)) := by
  rw [xb_r2 (by have := W.1; omega)]; exact h _ (by omega)
theorem xm_Rm {g : gr_G} {a : Nat → Int32} (W : gr_W g) (h : xm_R g a) {p m : Nat} (hp : p < gr_P g) (hm : m < 3) : a (3 * nI p + nI m).toNatClampNeg = sy_m (gr_R g (3 * p + m)) := by
  rw [xb_r (by have := W.1; omega) hm]; exact h _ (by omega)
theorem xm_Fp {g : gr_G} {a : Nat → Int32} (W : gr_W g) (h : xm_F g a) {p : Nat} (hp : p < gr_P g) : a (nI p).toNatClampNeg = nI (10 + gr_F g p) := by
  rw [nI_clamp (by have := W.1; omega)]; exact h _ hp
theorem pu_ps_a {g : gr_G} {H : pu_C} {s i j h : Nat} (c : s = 99) : pu_ps g H s i j h ↔ i = j := by
  unfold pu_ps; rw [if_pos c]
theorem pu_ps_t {g : gr_G} {H : pu_C} {s i j h : Nat} (c : s < 10) : pu_ps g H s i j h ↔ (j = i + 1 ∧ gr_T g i = s) := by
  unfold pu_ps; rw [if_neg (by omega), if_pos c]
theorem pu_ps_n {g : gr_G} {H : pu_C} {s i j h : Nat} (c : 10 ≤ s ∧ s < 99) : pu_ps g H s i j h ↔ (0 < H (s - 10) i j ∧ H (s - 10) i j < h) := by
  unfold pu_ps; rw [if_neg (by omega), if_neg (by omega)]
theorem cx_lt {g : gr_G} {n i j : Nat} (W : gr_W g) (hv : pu_V g n i j) : cx n i j < 605 := by
  have := W.2.1; unfold pu_V at hv; unfold cx; omega
theorem cy_lt {g : gr_G} {n i j : Nat} (W : gr_W g) (hv : pu_V g n i j) : cy n i j < 980 := by
  have := W.2.1; unfold pu_V at hv; unfold cy; omega
theorem xb_ntV {g : gr_G} {s i j : Nat} (ok : pu_ok s) (c : 10 ≤ s ∧ s < 99) (hij : i ≤ j) (hj : j ≤ gr_L g) : pu_V g (s - 10) i j := ⟨by unfold pu_ok at ok; omega, hij, hj⟩
section
variable {g : gr_G} {f_productions f_length f_chartReady f_countsReady f_distancesReady f_followsReady f_filled : Int32} {a_lefts a_rights a_ops a_constants a_text a_heights a_chosen a_firstEnds a_secondEnds a_order a_counts a_distances a_follows a_sizes : Nat → Int32} {a_values a_operands : Nat → Int64} {a_productive a_used : Nat → Int32}
theorem xs_treeless {post : Int32 → Prop} {H : pu_C} {s i j : Nat} (h : Nat) {s' i' j' : Int32} (es : s' = sy_m s) (ei : i' = nI i) (ej : j' = nI j) (ok : pu_ok s) (c : ¬ (10 ≤ s ∧ s < 99)) (hij : i ≤ j) (hj : j ≤ gr_L g) (W : gr_W g) (tx : xm_T g a_text) (ht : pu_ps g H s i j h → post 1) (hf : ¬ pu_ps g H s i j h → post 0) : wpX_fitsTreeless post (f_productions, f_length, f_chartReady, f_countsReady, f_distancesReady, f_followsReady, f_filled, a_lefts, a_rights, a_ops, a_constants, a_text, a_heights, a_chosen, a_firstEnds, a_secondEnds, a_order, a_counts, a_distances, a_follows, a_sizes, a_values, a_operands, a_productive, a_used) s' i' j' := by
  subst es ei ej
  have hL := W.2.1
  refine ek_if (sy_e1 ok) (fun e => ?_) (fun e => ?_)
  · exact pk_eq i j (fun z => ht ((pu_ps_a e).mpr z)) (fun z => hf (fun y => z ((pu_ps_a e).mp y)))
  · have st : s < 10 := by unfold pu_ok at ok; omega
    refine ek_if (d := j = i + 1) (by rw [nI_1, nI_eq (by omega) (by omega)]) (fun z => ⟨pk_in i 10 (by omega), ?_⟩) (fun z => hf (fun y => z ((pu_ps_t st).mp y).1))
    refine ek_if (d := gr_T g i = s) (by rw [pk_cl i, tx i (by omega)]; exact sy_eq ok (W.2.2.2.2.2 i (by omega))) (fun y => ht ((pu_ps_t st).mpr ⟨z, y⟩)) (fun y => hf (fun q => y ((pu_ps_t st).mp q).2))
theorem xs_fits {post : Int32 → Prop} {H : pu_C} {s i j h : Nat} {s' i' j' h' : Int32} (es : s' = sy_m s) (ei : i' = nI i) (ej : j' = nI j) (eh : h' = nI h) (ok : pu_ok s) (hij : i ≤ j) (hj : j ≤ gr_L g) (W : gr_W g) (hh : h ≤ 1000) (tx : xm_T g a_text) (mH : xm_H g a_heights H) (hb : ∀ n i j, pu_V g n i j → H n i j ≤ 1000) (ht : pu_ps g H s i j h → post 1) (hf : ¬ pu_ps g H s i j h → post 0) : wpX_fits post (f_productions, f_length, f_chartReady, f_countsReady, f_distancesReady, f_followsReady, f_filled, a_lefts, a_rights, a_ops, a_constants, a_text, a_heights, a_chosen, a_firstEnds, a_secondEnds, a_order, a_counts, a_distances, a_follows, a_sizes, a_values, a_operands, a_productive, a_used) s' i' j' h' := by
  subst es ei ej eh
  refine ek_if (sy_ge ok) (fun c => ?_) (fun c => ?_)
  · have hv := xb_ntV ok c hij hj
    have hl := cx_lt W hv
    have hb' := hb _ _ _ hv
    refine xb_cell (s - 10) i j (sy_nt c) rfl rfl ⟨pk_in (cx (s - 10) i j) 605 hl, nm_r (e' := nI (H (s - 10) i j)) (by rw [pk_cl (cx (s - 10) i j)]; exact mH _ _ _ hv) ?_⟩
    exact pk_le (H (s - 10) i j) 0 (fun z => hf (fun y => by have := (pu_ps_n c).mp y; omega)) (fun z => pk_le h (H (s - 10) i j) (fun z2 => hf (fun y => by have := (pu_ps_n c).mp y; omega)) (fun z2 => ht ((pu_ps_n c).mpr ⟨z, z2⟩)))
  · exact xs_treeless (post := fun r => narrow .boolean (.int r) = .int r ∧ post r) h rfl rfl rfl ok c hij hj W tx (fun z => ⟨rfl, ht z⟩) (fun z => ⟨rfl, hf z⟩)
end
