/-! the reference: values and sizes of the chosen tree -/
theorem ev_fold_s (f : Int64 → Int64 → Int64) (x : Nat → Int64) : ∀ d a s, ev_fold f x (d + 1) a s = f (ev_fold f x d a s) (x (a + d)) := by
  intro d
  induction d with
  | zero => intro a s; rfl
  | succ d ih =>
    intro a s
    have e := ih (a + 1) (f s (x a))
    rw [show a + 1 + d = a + (d + 1) by omega] at e
    exact e
theorem ev_add (x : Nat → Int64) : ∀ d a s t, ev_fold (fun s y => s + y) x d a (s + t) = s + ev_fold (fun s y => s + y) x d a t := by
  intro d
  induction d with
  | zero => intro a s t; rfl
  | succ d ih =>
    intro a s t
    rw [ev_fold_s, ev_fold_s, ih, Int64.add_assoc]
theorem ev_mul (x : Nat → Int64) : ∀ d a s t, ev_fold (fun s y => s * y) x d a (s * t) = s * ev_fold (fun s y => s * y) x d a t := by
  intro d
  induction d with
  | zero => intro a s t; rfl
  | succ d ih =>
    intro a s t
    rw [ev_fold_s, ev_fold_s, ih, Int64.mul_assoc]
theorem ev_dg (x : Nat → Int64) (d a : Nat) (s : Int64) : ev_fold (fun s y => s * 10 + y) x d a s = ev_fold (fun s y => 10 * s + y) x d a s := by
  have : (fun (s y : Int64) => s * 10 + y) = (fun s y => 10 * s + y) := by
    funext s y; rw [Int64.mul_comm]
  rw [this]
theorem ev_tail (x : Nat → Int64) (k : Nat) : ev_fold (fun s y => s + y) x (k + 1) 0 0 - x 0 = ev_fold (fun s y => s + y) x k 1 0 := by
  have e : ev_fold (fun s y => s + y) x (k + 1) 0 0 = x 0 + ev_fold (fun s y => s + y) x k 1 0 := by
    rw [← ev_add]
    show ev_fold (fun s y => s + y) x k (0 + 1) (0 + x 0) = _
    rw [Int64.add_comm 0 (x 0)]
  rw [e]
  generalize ev_fold (fun s y => s + y) x k 1 0 = z
  rw [Int64.add_comm, Int64.add_sub_cancel]
def pu_c2 (x : Nat) : Nat := if x < 2000000000 then x else 2000000000
theorem pu_c2_le (x : Nat) : pu_c2 x ≤ 2000000000 := by unfold pu_c2; split <;> omega
theorem pu_c2_add (a b : Nat) : pu_c2 (pu_c2 a + pu_c2 b) = pu_c2 (a + b) := by unfold pu_c2; (repeat' split) <;> omega
theorem pu_sum_k {g : gr_G} {n i j : Nat} (W : gr_W g) (X : pu_CHX g) (hv : pu_V g n i j) (h0 : 0 < pu_HH g n i j) : 1 + pu_sum (pu_pz g (pu_SZ g) n i j) (pu_k g (pu_cp g n i j)) = pu_SZ g n i j := by
  have hp : pu_cp g n i j < gr_P g := (pu_part W X hv h0 (m := 0) (by decide)).1
  rw [pu_SZ_eq W X hv h0]
  have z : ∀ m, pu_s g n i j m = 99 → pu_pz g (pu_SZ g) n i j m = 0 := fun m e => pu_pz_f (fun q => by unfold pu_nt at q; omega)
  obtain ⟨ek, r0, r1, r2⟩ | ⟨ek, r0, r1, r2⟩ | ⟨ek, r0, r1, r2⟩ | ⟨ek, r0, r1, r2⟩ := pu_k_c W hp
  · rw [ek, z 0 r0, z 1 r1, z 2 r2]; rfl
  · rw [ek, z 1 r1, z 2 r2]
    show 1 + (0 + pu_pz g (pu_SZ g) n i j 0) = _
    omega
  · rw [ek, z 2 r2]
    show 1 + (0 + pu_pz g (pu_SZ g) n i j 0 + pu_pz g (pu_SZ g) n i j 1) = _
    omega
  · rw [ek]
    show 1 + (0 + pu_pz g (pu_SZ g) n i j 0 + pu_pz g (pu_SZ g) n i j 1 + pu_pz g (pu_SZ g) n i j 2) = _
    omega
section
variable {g : gr_G} {f_goal f_extra f_measured f_known f_more : Int32} {f_sum : Int64} {a_left a_size a_right a_text a_ops a_constants a_heights : Nat → Int32} {a_many : Nat → Int64} {a_chosen a_firstEnd a_secondEnd : Nat → Int32} {a_values a_nodes : Nat → Int64} {a_far a_productive a_useful a_covers : Nat → Int32}
theorem ys_pb {post : Int32 → Prop} {n i j m : Nat} (W : gr_W g) (hv : pu_V g n i j) (hm : m < 3) (e2 : a_firstEnd (cy n i j) = nI (pu_ch g n i j).2.1) (e3 : a_secondEnd (cy n i j) = nI (pu_ch g n i j).2.2) (h : post (nI (pu_b g n i j m))) : wpY_partBegin post (nI (gr_P g), nI (gr_L g), f_goal, f_extra, f_measured, f_known, f_more, f_sum, a_left, a_size, a_right, a_text, a_ops, a_constants, a_heights, a_many, a_chosen, a_firstEnd, a_secondEnd, a_values, a_nodes, a_far, a_productive, a_useful, a_covers) (nI (cy n i j)) (nI i) (nI m) := by
  have hl := cy_lt W hv
  have hin : vp_in (nI (cy n i j)) 980 := vp_in_nI hl (by decide)
  have ec : (nI (cy n i j)).toNatClampNeg = cy n i j := nI_clamp (by omega)
  have hmm : m = 0 ∨ m = 1 ∨ m = 2 := by omega
  obtain rfl | rfl | rfl := hmm
  · exact br_t rfl h
  · refine br_f (by decide) (br_t rfl ⟨hin, ?_⟩)
    rw [ec, e2]; exact h
  · refine br_f (by decide) (br_f (by decide) ⟨hin, ?_⟩)
    rw [ec, e3]; exact h
theorem ys_pe {post : Int32 → Prop} {n i j m : Nat} (W : gr_W g) (hv : pu_V g n i j) (hm : m < 3) (e2 : a_firstEnd (cy n i j) = nI (pu_ch g n i j).2.1) (e3 : a_secondEnd (cy n i j) = nI (pu_ch g n i j).2.2) (h : post (nI (pu_e g n i j m))) : wpY_partEnd post (nI (gr_P g), nI (gr_L g), f_goal, f_extra, f_measured, f_known, f_more, f_sum, a_left, a_size, a_right, a_text, a_ops, a_constants, a_heights, a_many, a_chosen, a_firstEnd, a_secondEnd, a_values, a_nodes, a_far, a_productive, a_useful, a_covers) (nI (cy n i j)) (nI j) (nI m) := by
  have hl := cy_lt W hv
  have hin : vp_in (nI (cy n i j)) 980 := vp_in_nI hl (by decide)
  have ec : (nI (cy n i j)).toNatClampNeg = cy n i j := nI_clamp (by omega)
  have hmm : m = 0 ∨ m = 1 ∨ m = 2 := by omega
  obtain rfl | rfl | rfl := hmm
  · refine br_t rfl ⟨hin, ?_⟩
    rw [ec, e2]; exact h
  · refine br_f (by decide) (br_t rfl ⟨hin, ?_⟩)
    rw [ec, e3]; exact h
  · exact br_f (by decide) (br_f (by decide) h)
/-- behind the loop: the action -/
theorem ys_evEnd {post : SY → Prop} {c p k o : Nat} {cst x5 x7 x9 x11 x13 x15 : Int64} {x17 : Int32} {x : Nat → Int64} (hc : c < 980) (hp : p < 12) (hk : k ≤ 3) (ez : a_size p = nI k) (ec : (a_constants p).toInt64 = cst) (eo : a_ops p = nI o) (ho : o < 8)
    (h5 : x5 = ev_fold (fun s y => s + y) x k 0 0) (h7 : x7 = ev_fold (fun s y => s * y) x k 0 1) (h9 : x9 = ev_fold (fun s y => s * 10 + y) x k 0 cst) (h11 : x11 = ev_fold ev_gr x k 0 cst) (h13 : 0 < k → x13 = x 0) (h15 : 0 < k → x15 = x (k - 1))
    (hpost : post (nI (gr_P g), nI (gr_L g), f_goal, f_extra, f_measured, f_known, f_more, f_sum, a_left, a_size, a_right, a_text, a_ops, a_constants, a_heights, a_many, a_chosen, a_firstEnd, a_secondEnd, vp_updL a_values c (if x17 = 0 then ev_act (nI o) cst k x else ev_N), a_nodes, a_far, a_productive, a_useful, a_covers)) :
    vp_in (nI p) 12 ∧ (∀ x18_10, x18_10 = (a_constants (nI p).toNatClampNeg).toInt64 → (vp_in (nI p) 12 ∧ (∀ x20_12, x20_12 = a_ops (nI p).toNatClampNeg → (((x20_12 = 1 → (∀ x18_36, x18_36 = x18_10 + x5 → (wY_evaluate_298 post (nI c) (nI p) x5 x7 x9 x11 x13 x15 x17 x18_36 x20_12 (nI (gr_P g)) (nI (gr_L g)) f_goal f_extra f_measured f_known f_more f_sum a_left a_size a_right a_text a_ops a_constants a_heights a_many a_chosen a_firstEnd a_secondEnd a_values a_nodes a_far a_productive a_useful a_covers))) ∧ (¬ x20_12 = 1 → (wY_evaluate_298 post (nI c) (nI p) x5 x7 x9 x11 x13 x15 x17 x18_10 x20_12 (nI (gr_P g)) (nI (gr_L g)) f_goal f_extra f_measured f_known f_more f_sum a_left a_size a_right a_text a_ops a_constants a_heights a_many a_chosen a_firstEnd a_secondEnd a_values a_nodes a_far a_productive a_useful a_covers))))))) := by
  have hinp : vp_in (nI p) 12 := vp_in_nI hp (by decide)
  have hin : vp_in (nI c) 980 := vp_in_nI hc (by decide)
  have ecl : (nI p).toNatClampNeg = p := nI_clamp (by omega)
  have ecc : (nI c).toNatClampNeg = c := nI_clamp (by omega)
  have ezz : a_size (nI p).toNatClampNeg = nI k := by rw [ecl]; exact ez
  have T447 : ∀ v : Int64, v = ev_act (nI o) cst k x → wY_evaluate_447 post (nI c) x17 v (nI (gr_P g)) (nI (gr_L g)) f_goal f_extra f_measured f_known f_more f_sum a_left a_size a_right a_text a_ops a_constants a_heights a_many a_chosen a_firstEnd a_secondEnd a_values a_nodes a_far a_productive a_useful a_covers := by
    intro v hvv
    refine br_c (fun z => ⟨hin, nm_r (e' := vp_updL a_values c (if x17 = 0 then ev_act (nI o) cst k x else ev_N)) (by rw [ecc, if_pos z, hvv]) hpost⟩) (fun z => ⟨hin, nm_r (e' := vp_updL a_values c (if x17 = 0 then ev_act (nI o) cst k x else ev_N)) (by rw [ecc, if_neg z]; rfl) hpost⟩)
  have cs : o = 0 ∨ o = 1 ∨ o = 2 ∨ o = 3 ∨ o = 4 ∨ o = 5 ∨ o = 6 ∨ o = 7 := by omega
  refine ⟨hinp, nm_r (e' := cst) (by rw [ecl]; exact ec) ⟨hinp, nm_r (e' := nI o) (by rw [ecl]; exact eo) ?_⟩⟩
  unfold ev_act at T447
  obtain rfl | rfl | rfl | rfl | rfl | rfl | rfl | rfl := cs
  · rw [if_neg (by decide), if_neg (by decide), if_neg (by decide), if_neg (by decide), if_neg (by decide), if_neg (by decide), if_neg (by decide)] at T447
    exact br_f (by decide) (br_f (by decide) (br_f (by decide) (br_f (by decide) (br_f (by decide) (br_f (by decide) (br_f (by decide) (T447 cst rfl)))))))
  · rw [if_pos (by decide)] at T447
    exact br_t (by decide) (nm_e (br_f (by decide) (br_f (by decide) (br_f (by decide) (br_f (by decide) (br_f (by decide) (br_f (by decide) (T447 _ (by rw [h5])))))))))
  · rw [if_neg (by decide), if_pos (by decide)] at T447
    refine br_f (by decide) (br_t (by decide) (nm_e (br_f (by decide) (br_f (by decide) (br_f (by decide) (br_f (by decide) (br_f (by decide) (T447 _ ?_))))))))
    rw [h7, ← ev_mul, Int64.mul_one]
  · rw [if_neg (by decide), if_neg (by decide), if_pos (by decide)] at T447
    refine br_f (by decide) (br_f (by decide) (br_t (by decide) ⟨hinp, pk_eq k 0 (fun e => ?_) (fun e => ?_) ezz rfl⟩))
    · rw [if_pos e] at T447
      exact br_f (by decide) (br_f (by decide) (br_f (by decide) (br_f (by decide) (T447 _ rfl))))
    · rw [if_neg e] at T447
      refine br_f (by decide) (br_f (by decide) (br_f (by decide) (br_f (by decide) (T447 _ ?_))))
      obtain ⟨q, rfl⟩ : ∃ q, k = q + 1 := ⟨k - 1, by omega⟩
      rw [h13 (by omega), h5, ev_tail]; rfl
  · rw [if_neg (by decide), if_neg (by decide), if_neg (by decide), if_pos (by decide)] at T447
    exact br_f (by decide) (br_f (by decide) (br_f (by decide) (br_t (by decide) (br_f (by decide) (br_f (by decide) (br_f (by decide) (T447 _ (by rw [h9, ev_dg]))))))))
  · rw [if_neg (by decide), if_neg (by decide), if_neg (by decide), if_neg (by decide), if_pos (by decide)] at T447
    exact br_f (by decide) (br_f (by decide) (br_f (by decide) (br_f (by decide) (br_t (by decide) (br_f (by decide) (br_f (by decide) (T447 _ h11)))))))
  · rw [if_neg (by decide), if_neg (by decide), if_neg (by decide), if_neg (by decide), if_neg (by decide), if_pos (by decide)] at T447
    refine br_f (by decide) (br_f (by decide) (br_f (by decide) (br_f (by decide) (br_f (by decide) (br_t (by decide) ⟨hinp, pk_le k 0 (fun e => ?_) (fun e => ?_) ezz rfl⟩)))))
    · rw [if_pos (by omega)] at T447
      exact br_f (by decide) (T447 _ rfl)
    · obtain ⟨q, rfl⟩ : ∃ q, k = q + 1 := ⟨k - 1, by omega⟩
      rw [if_neg (by omega)] at T447
      refine nm_r (e' := cst + ev_fold (fun s y => s + y) x q 1 0) (by rw [h13 (by omega), h5, ev_tail]) (br_c (fun z => br_f (by decide) (T447 _ ?_)) (fun z => ⟨z, br_f (by decide) (T447 _ ?_)⟩))
      · rw [show q + 1 - 1 = q from rfl, if_pos z]; rfl
      · rw [show q + 1 - 1 = q from rfl, if_neg z, h13 (by omega)]
  · rw [if_neg (by decide), if_neg (by decide), if_neg (by decide), if_neg (by decide), if_neg (by decide), if_neg (by decide), if_pos (by decide)] at T447
    refine br_f (by decide) (br_f (by decide) (br_f (by decide) (br_f (by decide) (br_f (by decide) (br_f (by decide) (br_t (by decide) ⟨hinp, pk_le k 0 (fun e => ?_) (fun e => ?_) ezz rfl⟩))))))
    · rw [if_pos (by omega)] at T447
      exact T447 _ rfl
    · rw [if_neg (by omega)] at T447
      refine br_c (fun z => T447 _ ?_) (fun z => T447 _ ?_)
      · rw [h13 (by omega)] at z ⊢; rw [if_pos z]
      · rw [h13 (by omega)] at z
        rw [if_neg z, h15 (by omega)]
theorem ys_evaluate {post : SY → Prop} {n i j o : Nat} (W : gr_W g) (X : pu_CHX g) (hv : pu_V g n i j) (h0 : 0 < pu_HH g n i j) (mR : xm_R g a_right) (mZ : ym_Z g a_size) (e2 : a_firstEnd (cy n i j) = nI (pu_ch g n i j).2.1) (e3 : a_secondEnd (cy n i j) = nI (pu_ch g n i j).2.2) (eo : a_ops (pu_cp g n i j) = nI o) (ho : o < 8)
    (mV : ∀ m, m < 3 → pu_nt (pu_s g n i j m) → a_values (cy (pu_s g n i j m - 10) (pu_b g n i j m) (pu_e g n i j m)) = pu_VL g a_ops a_constants (pu_s g n i j m - 10) (pu_b g n i j m) (pu_e g n i j m))
    (mN : ∀ m, m < 3 → pu_nt (pu_s g n i j m) → a_nodes (cy (pu_s g n i j m - 10) (pu_b g n i j m) (pu_e g n i j m)) = lN (pu_c2 (pu_SZ g (pu_s g n i j m - 10) (pu_b g n i j m) (pu_e g n i j m))))
    (hpost : ∀ (vals nds : Nat → Int64), (∀ x, x ≠ cy n i j → vals x = a_values x ∧ nds x = a_nodes x) → vals (cy n i j) = pu_VL g a_ops a_constants n i j → nds (cy n i j) = lN (pu_c2 (pu_SZ g n i j)) → post (nI (gr_P g), nI (gr_L g), f_goal, f_extra, f_measured, f_known, f_more, f_sum, a_left, a_size, a_right, a_text, a_ops, a_constants, a_heights, a_many, a_chosen, a_firstEnd, a_secondEnd, vals, nds, a_far, a_productive, a_useful, a_covers)) : wpY_evaluate post (nI (gr_P g), nI (gr_L g), f_goal, f_extra, f_measured, f_known, f_more, f_sum, a_left, a_size, a_right, a_text, a_ops, a_constants, a_heights, a_many, a_chosen, a_firstEnd, a_secondEnd, a_values, a_nodes, a_far, a_productive, a_useful, a_covers) (nI (cy n i j)) (nI i) (nI j) (nI (pu_cp g n i j)) := by
  have hP := W.1
  have hp : pu_cp g n i j < gr_P g := (pu_part W X hv h0 (m := 0) (by decide)).1
  have hl := cy_lt W hv
  have hin : vp_in (nI (cy n i j)) 980 := vp_in_nI hl (by decide)
  have ec : (nI (cy n i j)).toNatClampNeg = cy n i j := nI_clamp (by omega)
  have hinp : vp_in (nI (pu_cp g n i j)) 12 := vp_in_nI (by omega) (by decide)
  have ecp : (nI (pu_cp g n i j)).toNatClampNeg = pu_cp g n i j := nI_clamp (by omega)
  have k3 := pu_k_le g (pu_cp g n i j)
  have eV := pu_VL_eq (ops := a_ops) (cs := a_constants) W X hv h0
  rw [eo] at eV
  generalize ex : pu_pv g (pu_VL g a_ops a_constants) n i j = x at eV
  have K45 : ∀ d m, m + d = pu_k g (pu_cp g n i j) → ∀ (x5 x7 x9 x11 x13 x15 : Int64) (x17 : Int32) (nds : Nat → Int64), x5 = ev_fold (fun s y => s + y) x m 0 0 → x7 = ev_fold (fun s y => s * y) x m 0 1 → x9 = ev_fold (fun s y => s * 10 + y) x m 0 (a_constants (pu_cp g n i j)).toInt64 → x11 = ev_fold ev_gr x m 0 (a_constants (pu_cp g n i j)).toInt64 → (0 < m → x13 = x 0) → (0 < m → x15 = x (m - 1)) → ((x17 = 0 ∧ ∀ q, q < m → x q ≠ ev_N) ∨ (x17 = 1 ∧ ∃ q, q < m ∧ x q = ev_N)) → (∀ y, y ≠ cy n i j → nds y = a_nodes y) → nds (cy n i j) = lN (pu_c2 (1 + pu_sum (pu_pz g (pu_SZ g) n i j) m)) → wY_evaluate_45 post (nI (cy n i j)) (nI i) (nI j) (nI (pu_cp g n i j)) (nI (gr_P g)) (nI (gr_L g)) f_goal f_extra f_measured f_known f_more f_sum (d + 1) x5 x7 x9 x11 x13 x15 x17 (nI m) a_left a_size a_right a_text a_ops a_constants a_heights a_many a_chosen a_firstEnd a_secondEnd a_values nds a_far a_productive a_useful a_covers := by
    intro d
    induction d with
    | zero =>
      intro m hm x5 x7 x9 x11 x13 x15 x17 nds h5 h7 h9 h11 h13 h15 h17 hy hn
      have e : m = pu_k g (pu_cp g n i j) := by omega
      subst e
      refine ⟨hinp, br_t (by rw [ecp, mZ _ hp]; exact nI_le (Nat.le_refl _) (by omega)) (ys_evEnd (x := x) hl (by omega) k3 (mZ _ hp) rfl eo ho h5 h7 h9 h11 h13 h15 (hpost _ _ (fun y hyy => ⟨pk_uLn hyy, hy y hyy⟩) ?_ ?_))⟩
      · rw [pk_uLs, eV]
        obtain ⟨rfl, q⟩ | ⟨rfl, q⟩ := h17
        · rw [if_pos rfl, ev_v_f (fun ⟨r, hr, z⟩ => q r hr z)]
        · rw [if_neg (by decide), ev_v_t q]
      · rw [hn, pu_sum_k W X hv h0]
    | succ d ih =>
      intro m hm x5 x7 x9 x11 x13 x15 x17 nds h5 h7 h9 h11 h13 h15 h17 hy hn
      have hm3 : m < 3 := by omega
      obtain ⟨_, ok, hbe, heL, hpt⟩ := pu_part W X hv h0 hm3
      have s99 : pu_s g n i j m ≠ 99 := fun z => by have := pu_k_a (p := pu_cp g n i j) hm3 z; omega
      -- the end of one turn
      have T190 : ∀ (nds : Nat → Int64), (∀ y, y ≠ cy n i j → nds y = a_nodes y) → nds (cy n i j) = lN (pu_c2 (1 + pu_sum (pu_pz g (pu_SZ g) n i j) (m + 1))) → wY_evaluate_190 post (wY_evaluate_45 post (nI (cy n i j)) (nI i) (nI j) (nI (pu_cp g n i j)) (nI (gr_P g)) (nI (gr_L g)) f_goal f_extra f_measured f_known f_more f_sum (d + 1)) (nI (cy n i j)) (nI i) (nI j) (nI (pu_cp g n i j)) x5 x7 x9 x11 x13 (x m) x17 (nI m) (nI (gr_P g)) (nI (gr_L g)) f_goal f_extra f_measured f_known f_more f_sum a_left a_size a_right a_text a_ops a_constants a_heights a_many a_chosen a_firstEnd a_secondEnd a_values nds a_far a_productive a_useful a_covers := by
        intro nds hy hn
        have T218 : ∀ (x13' : Int64) (x17' : Int32), x13' = x 0 → ((x17' = 0 ∧ ∀ q, q < m + 1 → x q ≠ ev_N) ∨ (x17' = 1 ∧ ∃ q, q < m + 1 ∧ x q = ev_N)) → wY_evaluate_218 post (wY_evaluate_45 post (nI (cy n i j)) (nI i) (nI j) (nI (pu_cp g n i j)) (nI (gr_P g)) (nI (gr_L g)) f_goal f_extra f_measured f_known f_more f_sum (d + 1)) (nI (cy n i j)) (nI i) (nI j) (nI (pu_cp g n i j)) x5 x7 x9 x11 x13' (x m) x17' (nI m) (nI (gr_P g)) (nI (gr_L g)) f_goal f_extra f_measured f_known f_more f_sum a_left a_size a_right a_text a_ops a_constants a_heights a_many a_chosen a_firstEnd a_secondEnd a_values nds a_far a_productive a_useful a_covers := by
          intro x13' x17' q13 q17
          have go : ∀ x11', x11' = ev_fold ev_gr x (m + 1) 0 (a_constants (pu_cp g n i j)).toInt64 → wY_evaluate_45 post (nI (cy n i j)) (nI i) (nI j) (nI (pu_cp g n i j)) (nI (gr_P g)) (nI (gr_L g)) f_goal f_extra f_measured f_known f_more f_sum (d + 1) (x5 + x m) (x7 * x m) (x9 * 10 + x m) x11' x13' (x m) x17' (nI (m + 1)) a_left a_size a_right a_text a_ops a_constants a_heights a_many a_chosen a_firstEnd a_secondEnd a_values nds a_far a_productive a_useful a_covers := by
            intro x11' q11
            refine ih (m + 1) (by omega) _ _ _ _ _ _ _ nds ?_ ?_ ?_ q11 (fun _ => q13) (fun _ => rfl) q17 hy hn
            · rw [ev_fold_s, h5, Nat.zero_add]
            · rw [ev_fold_s, h7, Nat.zero_add]
            · rw [ev_fold_s, h9, Nat.zero_add]
          refine nm_e (nm_e (nm_e (br_c (fun z => nm_r (nI_1 m) (go _ ?_)) (fun z => nm_r (nI_1 m) (go _ ?_)))))
          · rw [ev_fold_s, ← h11, Nat.zero_add]; unfold ev_gr; rw [if_pos z]
          · rw [ev_fold_s, ← h11, Nat.zero_add]; unfold ev_gr; rw [if_neg z]
        have T206 : ∀ z0 : Int32, ((z0 = 0 ∧ x m ≠ ev_N) ∨ (z0 = 1 ∧ x m = ev_N)) → wY_evaluate_206 post (wY_evaluate_45 post (nI (cy n i j)) (nI i) (nI j) (nI (pu_cp g n i j)) (nI (gr_P g)) (nI (gr_L g)) f_goal f_extra f_measured f_known f_more f_sum (d + 1)) (nI (cy n i j)) (nI i) (nI j) (nI (pu_cp g n i j)) x5 x7 x9 x11 x13 (x m) (nI m) z0 x17 (nI (gr_P g)) (nI (gr_L g)) f_goal f_extra f_measured f_known f_more f_sum a_left a_size a_right a_text a_ops a_constants a_heights a_many a_chosen a_firstEnd a_secondEnd a_values nds a_far a_productive a_useful a_covers := by
          intro z0 hz
          have q17 : ((x17 ||| z0 = 0 ∧ ∀ q, q < m + 1 → x q ≠ ev_N) ∨ (x17 ||| z0 = 1 ∧ ∃ q, q < m + 1 ∧ x q = ev_N)) := by
            obtain ⟨rfl, q⟩ | ⟨rfl, q, hq, e⟩ := h17
            · obtain ⟨rfl, w⟩ | ⟨rfl, w⟩ := hz
              · refine Or.inl ⟨by decide, fun r hr => ?_⟩
                by_cases c : r = m
                · rw [c]; exact w
                · exact q r (by omega)
              · exact Or.inr ⟨by decide, m, by omega, w⟩
            · obtain ⟨rfl, w⟩ | ⟨rfl, w⟩ := hz
              · exact Or.inr ⟨by decide, q, by omega, e⟩
              · exact Or.inr ⟨by decide, q, by omega, e⟩
          refine nm_e (pk_eq m 0 (fun e => T218 _ _ (by rw [e]) q17) (fun e => T218 _ _ (h13 (by omega)) q17))
        exact br_c (fun z => T206 1 (Or.inr ⟨rfl, z⟩)) (fun z => T206 0 (Or.inl ⟨rfl, z⟩))
      refine ⟨hinp, br_f (by rw [ecp, mZ _ hp]; exact nI_ge (by omega) (by omega)) ⟨xb_i (by omega) hm3, nm_r (e' := sy_m (pu_s g n i j m)) (xm_Rm W mR hp hm3) ?_⟩⟩
      refine ys_pb W hv hm3 e2 e3 (ys_pe W hv hm3 e2 e3 ?_)
      have ps : pu_sum (pu_pz g (pu_SZ g) n i j) (m + 1) = pu_sum (pu_pz g (pu_SZ g) n i j) m + pu_pz g (pu_SZ g) n i j m := rfl
      by_cases nt : pu_nt (pu_s g n i j m)
      · obtain ⟨v', h0', hlt⟩ := hpt nt
        have hl' := cy_lt W v'
        have ecd : (nI (cy (pu_s g n i j m - 10) (pu_b g n i j m) (pu_e g n i j m))).toNatClampNeg = cy (pu_s g n i j m - 10) (pu_b g n i j m) (pu_e g n i j m) := nI_clamp (by omega)
        have ind : vp_in (nI (cy (pu_s g n i j m - 10) (pu_b g n i j m) (pu_e g n i j m))) 980 := vp_in_nI hl' (by decide)
        have ne : cy (pu_s g n i j m - 10) (pu_b g n i j m) (pu_e g n i j m) ≠ cy n i j := fun e => by
          obtain ⟨a1, a2, a3⟩ := cy_inj W v' hv e
          rw [a1, a2, a3] at hlt; omega
        have exm : x m = pu_VL g a_ops a_constants (pu_s g n i j m - 10) (pu_b g n i j m) (pu_e g n i j m) := by rw [← ex]; exact pu_pv_t hm3 nt
        refine br_t ((sy_ge ok).mpr nt) (ys_cell (pu_s g n i j m - 10) (pu_b g n i j m) (pu_e g n i j m) (sy_nt nt) rfl rfl (br_t ((sy_ge ok).mpr nt) ⟨ind, ?_⟩))
        rw [ecd, mV m hm3 nt, ← exm]
        refine br_f (fun z => by have := (sy_lt ok).mp z; unfold pu_nt at nt; omega) ⟨hin, ind, ?_⟩
        rw [ec, ecd, hn, hy _ ne, mN m hm3 nt, lN_add]
        have l1 := pu_c2_le (1 + pu_sum (pu_pz g (pu_SZ g) n i j) m)
        have l2 := pu_c2_le (pu_SZ g (pu_s g n i j m - 10) (pu_b g n i j m) (pu_e g n i j m))
        have ev : pu_c2 (1 + pu_sum (pu_pz g (pu_SZ g) n i j) (m + 1)) = pu_c2 (pu_c2 (1 + pu_sum (pu_pz g (pu_SZ g) n i j) m) + pu_c2 (pu_SZ g (pu_s g n i j m - 10) (pu_b g n i j m) (pu_e g n i j m))) := by
          rw [pu_c2_add, ps, pu_pz_t nt, Nat.add_assoc]
        have T189 : ∀ z : Int64, z = lN (pu_c2 (1 + pu_sum (pu_pz g (pu_SZ g) n i j) (m + 1))) → wY_evaluate_189 post (wY_evaluate_45 post (nI (cy n i j)) (nI i) (nI j) (nI (pu_cp g n i j)) (nI (gr_P g)) (nI (gr_L g)) f_goal f_extra f_measured f_known f_more f_sum (d + 1)) (nI (cy n i j)) (nI i) (nI j) (nI (pu_cp g n i j)) x5 x7 x9 x11 x13 (x m) x17 (nI m) z (nI (cy n i j)) (nI (gr_P g)) (nI (gr_L g)) f_goal f_extra f_measured f_known f_more f_sum a_left a_size a_right a_text a_ops a_constants a_heights a_many a_chosen a_firstEnd a_secondEnd a_values nds a_far a_productive a_useful a_covers := by
          intro z hz
          exact ⟨hin, nm_r (e' := vp_updL nds (cy n i j) z) (by rw [ec]) (T190 _ (fun y hyy => by rw [pk_uLn hyy]; exact hy y hyy) (by rw [pk_uLs]; exact hz))⟩
        refine ek_if (d := 2000000000 ≤ pu_c2 (1 + pu_sum (pu_pz g (pu_SZ g) n i j) m) + pu_c2 (pu_SZ g (pu_s g n i j m - 10) (pu_b g n i j m) (pu_e g n i j m))) (pk_lLE (a := 2000000000) (by decide) (by omega)) (fun z => T189 _ ?_) (fun z => ⟨hin, ind, T189 _ ?_⟩)
        · rw [ev]
          have : pu_c2 (pu_c2 (1 + pu_sum (pu_pz g (pu_SZ g) n i j) m) + pu_c2 (pu_SZ g (pu_s g n i j m - 10) (pu_b g n i j m) (pu_e g n i j m))) = 2000000000 := if_neg (by omega)
          rw [this]; rfl
        · rw [ev]
          have : pu_c2 (pu_c2 (1 + pu_sum (pu_pz g (pu_SZ g) n i j) m) + pu_c2 (pu_SZ g (pu_s g n i j m - 10) (pu_b g n i j m) (pu_e g n i j m))) = pu_c2 (1 + pu_sum (pu_pz g (pu_SZ g) n i j) m) + pu_c2 (pu_SZ g (pu_s g n i j m - 10) (pu_b g n i j m) (pu_e g n i j m)) := if_pos (by omega)
          rw [this]
      · have lt : sy_m (pu_s g n i j m) < 10 := (sy_lt ok).mpr (by unfold pu_nt at nt; unfold pu_ok at ok; omega)
        have nge : ¬ 10 ≤ sy_m (pu_s g n i j m) := fun z => nt ((sy_ge ok).mp z)
        have exm : x m = (sy_m (pu_s g n i j m)).toInt64 := by rw [← ex]; exact pu_pv_f (fun q => nt q.2)
        refine br_f nge (br_f nge (br_t lt ?_))
        rw [← exm]
        refine T190 nds hy ?_
        rw [hn, ps, pu_pz_f nt]; rfl
  refine ⟨hinp, nm_r (e' := (a_constants (pu_cp g n i j)).toInt64) (by rw [ecp]) ⟨hinp, nm_r (e' := (a_constants (pu_cp g n i j)).toInt64) (by rw [ecp]) ⟨hin, nm_r (e' := vp_updL a_nodes (cy n i j) 1) (by rw [ec]) ⟨pu_k g (pu_cp g n i j) + 1, K45 (pu_k g (pu_cp g n i j)) 0 (by omega) _ _ _ _ _ _ _ _ rfl rfl rfl rfl (fun q => by omega) (fun q => by omega) (Or.inl ⟨rfl, fun q hq => by omega⟩) (fun y hyy => pk_uLn hyy) pk_uLs⟩⟩⟩⟩
end
