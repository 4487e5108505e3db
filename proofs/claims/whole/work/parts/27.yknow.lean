/-! the reference: all that it knows -/
theorem pu_lev {g : gr_G} (W : gr_W g) (S : pu_HS g (pu_HH g)) {n i j k : Nat} (hv : pu_V g n i j) (e : pu_HH g n i j = k + 1) (hk : 0 < k) : ∃ n' i' j', pu_V g n' i' j' ∧ pu_HH g n' i' j' = k := by
  apply Classical.byContradiction
  intro z
  obtain ⟨⟨_, p, u, v, hp, hn, a, b, c, F⟩, no⟩ := (S n i j hv).2.1 k e
  have hL := hv.2.2
  have Q : ∀ {s x y : Nat}, pu_ok s → x ≤ y → y ≤ gr_L g → pu_ps g (pu_HH g) s x y (k + 1) → pu_ps g (pu_HH g) s x y k := by
    intro s x y ok hxy hy f
    by_cases nt : pu_nt s
    · have q := (pu_ps_n nt).mp f
      have hv' := xb_ntV ok nt hxy hy
      refine (pu_ps_n nt).mpr ⟨q.1, ?_⟩
      by_cases w : pu_HH g (s - 10) x y = k
      · exact absurd ⟨_, _, _, hv', w⟩ z
      · omega
    · unfold pu_nt at nt
      unfold pu_ok at ok
      by_cases c1 : s = 99
      · exact (pu_ps_a c1).mpr ((pu_ps_a c1).mp f)
      · exact (pu_ps_t (by omega)).mpr ((pu_ps_t (by omega)).mp f)
  exact no ⟨hk, p, u, v, hp, hn, a, b, c, Q (pu_okR0 W hp) a (by omega) F.1, Q (pu_okR W hp (by decide)) b (by omega) F.2.1, Q (pu_okR W hp (by decide)) c hL F.2.2⟩
theorem pu_cont {g : gr_G} (W : gr_W g) (S : pu_HS g (pu_HH g)) {h : Nat} (h0 : 0 < h) : ∀ d n i j, pu_V g n i j → pu_HH g n i j = h + d → ∃ n' i' j', pu_V g n' i' j' ∧ pu_HH g n' i' j' = h := by
  intro d
  induction d with
  | zero => intro n i j hv e; exact ⟨n, i, j, hv, e⟩
  | succ d ih =>
    intro n i j hv e
    obtain ⟨n', i', j', hv', e'⟩ := pu_lev W S (k := h + d) hv e (by omega)
    exact ih n' i' j' hv' e'
def yk_D (g : gr_G) (ops cs : Nat → Int32) (n i j : Nat) (ch fe se : Nat → Int32) (vals nds : Nat → Int64) : Prop := ch (cy n i j) = nI (pu_ch g n i j).1 ∧ fe (cy n i j) = nI (pu_ch g n i j).2.1 ∧ se (cy n i j) = nI (pu_ch g n i j).2.2 ∧ vals (cy n i j) = pu_VL g ops cs n i j ∧ nds (cy n i j) = lN (pu_c2 (pu_SZ g n i j))
def yk_P (g : gr_G) (ops cs : Nat → Int32) (dn : Nat → Nat → Prop) (ch fe se : Nat → Int32) (vals nds : Nat → Int64) : Prop := ∀ n i j, pu_V g n i j → 0 < pu_HH g n i j → dn (pu_HH g n i j) (cy n i j) → yk_D g ops cs n i j ch fe se vals nds
def yk_dn (h x : Nat) : Nat → Nat → Prop := fun k y => k < h ∨ (k = h ∧ y < x)
def ym_Known (g : gr_G) (ops cs hts : Nat → Int32) (many : Nat → Int64) (ch fe se : Nat → Int32) (vals nds : Nat → Int64) : Prop := ym_Chart g hts ∧ ym_Cts g many ∧ yk_P g ops cs (fun _ _ => True) ch fe se vals nds
section
variable {g : gr_G} {f_goal f_extra f_measured f_known f_more : Int32} {f_sum : Int64} {a_left a_size a_right a_text a_ops a_constants a_heights : Nat → Int32} {a_many : Nat → Int64} {a_chosen a_firstEnd a_secondEnd : Nat → Int32} {a_values a_nodes : Nat → Int64} {a_far a_productive a_useful a_covers : Nat → Int32}
theorem ys_choose {post : SY → Prop} {n i j : Nat} (W : gr_W g) (tx : xm_T g a_text) (mR : xm_R g a_right) (mF : xm_F g a_left) (mZ : ym_Z g a_size) (mO : ∀ p, p < gr_P g → ∃ o, o < 8 ∧ a_ops p = nI o) (C : ym_Chart g a_heights) (hv : pu_V g n i j) (h0 : 0 < pu_HH g n i j) (P : yk_P g a_ops a_constants (yk_dn (pu_HH g n i j) 0) a_chosen a_firstEnd a_secondEnd a_values a_nodes)
    (hpost : ∀ (ch fe se : Nat → Int32) (vals nds : Nat → Int64), (∀ x, x ≠ cy n i j → ch x = a_chosen x ∧ fe x = a_firstEnd x ∧ se x = a_secondEnd x ∧ vals x = a_values x ∧ nds x = a_nodes x) → yk_D g a_ops a_constants n i j ch fe se vals nds → post (nI (gr_P g), nI (gr_L g), f_goal, f_extra, f_measured, f_known, 1, f_sum, a_left, a_size, a_right, a_text, a_ops, a_constants, a_heights, a_many, ch, fe, se, vals, nds, a_far, a_productive, a_useful, a_covers)) : wpY_choose post (nI (gr_P g), nI (gr_L g), f_goal, f_extra, f_measured, f_known, f_more, f_sum, a_left, a_size, a_right, a_text, a_ops, a_constants, a_heights, a_many, a_chosen, a_firstEnd, a_secondEnd, a_values, a_nodes, a_far, a_productive, a_useful, a_covers) (nI (cy n i j)) (nI (pu_HH g n i j)) := by
  have hL := W.2.1
  have hP := W.1
  have S := C.1
  have X := pu_CHX_of W S
  have hl := cy_lt W hv
  have hin : vp_in (nI (cy n i j)) 980 := vp_in_nI hl (by decide)
  have ec : (nI (cy n i j)).toNatClampNeg = cy n i j := nI_clamp (by omega)
  have hb : ∀ n i j, pu_V g n i j → pu_HH g n i j ≤ 1000 := fun n i j hv => by have := (S n i j hv).2.2; omega
  have hbc := hb _ _ _ hv
  have hn5 := hv.1
  have K33 : ∀ p, p ≤ gr_P g → ∀ (f_more : Int32) (ch fe se : Nat → Int32), yb_C g (pu_HH g) n i j (pu_HH g n i j) (cy n i j) p a_chosen a_firstEnd a_secondEnd ch fe se → wY_choose_33 post (nI (cy n i j)) (nI (pu_HH g n i j)) (nI (10 + n)) (nI i) (nI j) (p + 1) (nI p + (-1)) (nI (gr_P g)) (nI (gr_L g)) f_goal f_extra f_measured f_known f_more f_sum a_left a_size a_right a_text a_ops a_constants a_heights a_many ch fe se a_values a_nodes a_far a_productive a_useful a_covers := by
    intro p
    induction p with
    | zero =>
      intro hp f_more ch fe se Cc
      obtain ⟨e1, e2, e3⟩ := yb_end W S hv h0 Cc
      have hcp : pu_cp g n i j < gr_P g := (pu_part W X hv h0 (m := 0) (by decide)).1
      obtain ⟨o, ho, eo⟩ := mO _ hcp
      refine br_t ((xb_m1lt (b := 0) (by decide) (by decide)).mpr (Nat.le_refl _)) ⟨hin, ?_⟩
      rw [ec, e1]
      refine ys_evaluate (g := g) (o := o) W X hv h0 mR mZ e2 e3 eo ho (fun m hm nt => ?_) (fun m hm nt => ?_) (fun vals nds hx hvv hnn => hpost ch fe se vals nds (fun x hxx => ⟨(Cc.1 x hxx).1, (Cc.1 x hxx).2.1, (Cc.1 x hxx).2.2, (hx x hxx).1, (hx x hxx).2⟩) ⟨e1, e2, e3, hvv, hnn⟩)
      · obtain ⟨v', h0', hlt⟩ := (pu_part W X hv h0 hm).2.2.2.2 nt
        exact (P _ _ _ v' h0' (Or.inl hlt)).2.2.2.1
      · obtain ⟨v', h0', hlt⟩ := (pu_part W X hv h0 hm).2.2.2.2 nt
        exact (P _ _ _ v' h0' (Or.inl hlt)).2.2.2.2
    | succ p ih =>
      intro hp f_more ch fe se Cc
      have hp' : p < gr_P g := by omega
      have hF := W.2.2.1 p hp'
      refine br_f (fun z => by have := (xb_m1lt (b := 0) (by omega) (by decide)).mp z; omega) ?_
      rw [pk_m1]
      refine ⟨vp_in_nI (by omega) (by decide), ek_if (d := gr_F g p = n) (by rw [xm_Fp W mF hp', nI_eq (by omega) (by omega)]; omega) (fun c => ?_) (fun c => nm_e (ih (by omega) _ _ _ _ (yb_skip c Cc)))⟩
      exact ys_chooseBy (g := g) (H := pu_HH g) W hp' hv hbc tx mR mZ C.2.1 hb (fun ch' fe' se' l => nm_e (ih (by omega) _ _ _ _ (yb_step hp' c Cc l)))
  have d1 : nI (cy n i j) / 196 + 10 = nI (10 + n) := by
    rw [show (196 : Int32) = nI 196 from rfl, pk_div (by omega) (by decide) (by decide), (cy_dec W hv).1, show (10 : Int32) = nI 10 from rfl, nI_add]
    exact congrArg nI (by omega)
  have d2 : (nI (cy n i j) - nI (cy n i j) / 196 * 196) / 14 = nI i := by
    rw [show (196 : Int32) = nI 196 from rfl, pk_rem (by omega) (by decide) (by decide), show (14 : Int32) = nI 14 from rfl, pk_div (by omega) (by decide) (by decide), (cy_dec W hv).2.1]
  have d3 : nI (cy n i j) - nI (cy n i j) / 14 * 14 = nI j := by
    rw [show (14 : Int32) = nI 14 from rfl, pk_rem (by omega) (by decide) (by decide), (cy_dec W hv).2.2]
  refine ⟨by decide, nm_r d1 ⟨by decide, by decide, nm_r d2 ⟨by decide, nm_r d3 (nm_r (e' := nI (gr_P g) + (-1)) (Int32.sub_eq_add_neg _ _) ⟨gr_P g + 1, K33 (gr_P g) (Nat.le_refl _) _ _ _ _ ⟨fun x _ => ⟨rfl, rfl, rfl⟩, Or.inl (fun q h1 h2 => by omega)⟩⟩)⟩⟩⟩
theorem ys_know {post : SY → Prop} {Q : Prop} (W : gr_W g) (tx : xm_T g a_text) (mR : xm_R g a_right) (mF : xm_F g a_left) (mZ : ym_Z g a_size) (mO : ∀ p, p < gr_P g → ∃ o, o < 8 ∧ a_ops p = nI o) (hr : f_known ≠ 0 → ym_Known g a_ops a_constants a_heights a_many a_chosen a_firstEnd a_secondEnd a_values a_nodes ∧ (f_measured ≠ 0 → Q))
    (hpost : ∀ (f_measured f_known f_more : Int32) (f_sum : Int64) (a_heights : Nat → Int32) (a_many : Nat → Int64) (a_chosen a_firstEnd a_secondEnd : Nat → Int32) (a_values a_nodes : Nat → Int64), f_known ≠ 0 → ym_Known g a_ops a_constants a_heights a_many a_chosen a_firstEnd a_secondEnd a_values a_nodes → (f_measured ≠ 0 → Q) → post (nI (gr_P g), nI (gr_L g), f_goal, f_extra, f_measured, f_known, f_more, f_sum, a_left, a_size, a_right, a_text, a_ops, a_constants, a_heights, a_many, a_chosen, a_firstEnd, a_secondEnd, a_values, a_nodes, a_far, a_productive, a_useful, a_covers)) : wpY_know post (nI (gr_P g), nI (gr_L g), f_goal, f_extra, f_measured, f_known, f_more, f_sum, a_left, a_size, a_right, a_text, a_ops, a_constants, a_heights, a_many, a_chosen, a_firstEnd, a_secondEnd, a_values, a_nodes, a_far, a_productive, a_useful, a_covers) := by
  have K37 : ∀ (n23 : Nat) (f_sum : Int64) (a_heights : Nat → Int32) (a_many : Nat → Int64) (h : Nat), ym_Chart g a_heights → 0 < h → h ≤ 606 → (∀ (f_more : Int32) (a_chosen a_firstEnd a_secondEnd : Nat → Int32) (a_values a_nodes : Nat → Int64), yk_P g a_ops a_constants (yk_dn (h + 1) 0) a_chosen a_firstEnd a_secondEnd a_values a_nodes → ((f_more = 0 ∧ ∀ n i j, pu_V g n i j → pu_HH g n i j ≠ h) ∨ (f_more = 1 ∧ ∃ n i j, pu_V g n i j ∧ pu_HH g n i j = h)) → wY_know_23 post n23 (nI (h + 1)) (nI (gr_P g)) (nI (gr_L g)) f_goal f_extra f_measured f_known f_more f_sum a_left a_size a_right a_text a_ops a_constants a_heights a_many a_chosen a_firstEnd a_secondEnd a_values a_nodes a_far a_productive a_useful a_covers) → ∀ d x, x + d = 980 → ∀ (f_more : Int32) (a_chosen a_firstEnd a_secondEnd : Nat → Int32) (a_values a_nodes : Nat → Int64), yk_P g a_ops a_constants (yk_dn h x) a_chosen a_firstEnd a_secondEnd a_values a_nodes → ((f_more = 0 ∧ ∀ n i j, pu_V g n i j → cy n i j < x → pu_HH g n i j ≠ h) ∨ (f_more = 1 ∧ ∃ n i j, pu_V g n i j ∧ pu_HH g n i j = h)) → wY_know_37 post (wY_know_23 post n23) (nI h) (d + 1) (nI x) (nI (gr_P g)) (nI (gr_L g)) f_goal f_extra f_measured f_known f_more f_sum a_left a_size a_right a_text a_ops a_constants a_heights a_many a_chosen a_firstEnd a_secondEnd a_values a_nodes a_far a_productive a_useful a_covers := by
    intro n23 f_sum a_heights a_many h C h0 h6 hJ d
    induction d with
    | zero =>
      intro x hx f_more a_chosen a_firstEnd a_secondEnd a_values a_nodes P fl
      refine br_t (nI_le (a := 980) (by omega) (by omega)) (nm_r (nI_1 h) (hJ _ _ _ _ _ _ (fun n i j hv z q => P n i j hv z ?_) ?_))
      · have := cy_lt W hv
        unfold yk_dn at *; omega
      · obtain ⟨e, q⟩ | q := fl
        · exact Or.inl ⟨e, fun n i j hv => q n i j hv (by have := cy_lt W hv; omega)⟩
        · exact Or.inr q
    | succ d ih =>
      intro x hx f_more a_chosen a_firstEnd a_secondEnd a_values a_nodes P fl
      refine br_f (nI_ge (b := 980) (by omega) (by decide)) ⟨vp_in_nI (by omega) (by decide), ?_⟩
      rw [nI_clamp (by omega)]
      have skip : (∀ n i j, pu_V g n i j → cy n i j = x → pu_HH g n i j ≠ h) → wY_know_37 post (wY_know_23 post n23) (nI h) (d + 1) (nI (x + 1)) (nI (gr_P g)) (nI (gr_L g)) f_goal f_extra f_measured f_known f_more f_sum a_left a_size a_right a_text a_ops a_constants a_heights a_many a_chosen a_firstEnd a_secondEnd a_values a_nodes a_far a_productive a_useful a_covers := by
        intro sk
        refine ih (x + 1) (by omega) _ _ _ _ _ _ (fun n i j hv z q => P n i j hv z ?_) ?_
        · have := sk n i j hv
          unfold yk_dn at *; omega
        · obtain ⟨e, q⟩ | q := fl
          · refine Or.inl ⟨e, fun n i j hv hlt => ?_⟩
            by_cases c : cy n i j = x
            · exact sk n i j hv c
            · exact q n i j hv (by omega)
          · exact Or.inr q
      by_cases hv : pu_V g (x / 196) (x % 196 / 14) (x % 14)
      · have ex : x = cy (x / 196) (x % 196 / 14) (x % 14) := (cy_enc x).symm
        have eH : a_heights x = nI (pu_HH g (x / 196) (x % 196 / 14) (x % 14)) := by
          have := C.2.1 _ _ _ hv
          rw [← ex] at this; exact this
        have hb := (C.1 _ _ _ hv).2.2
        refine pk_eq (pu_HH g (x / 196) (x % 196 / 14) (x % 14)) h (fun e => ?_) (fun e => nm_r (nI_1 x) (skip (fun n i j hv' e' => ?_))) eH rfl
        · have Z := ys_choose (g := g) (f_goal := f_goal) (f_extra := f_extra) (f_measured := f_measured) (f_known := f_known) (f_more := f_more) (f_sum := f_sum) (a_left := a_left) (a_size := a_size) (a_right := a_right) (a_text := a_text) (a_ops := a_ops) (a_constants := a_constants) (a_heights := a_heights) (a_many := a_many) (a_chosen := a_chosen) (a_firstEnd := a_firstEnd) (a_secondEnd := a_secondEnd) (a_values := a_values) (a_nodes := a_nodes) (a_far := a_far) (a_productive := a_productive) (a_useful := a_useful) (a_covers := a_covers) (post := fun u => match u with | (f_productions, f_length, f_goal, f_extra, f_measured, f_known, f_more, f_sum, a_left, a_size, a_right, a_text, a_ops, a_constants, a_heights, a_many, a_chosen, a_firstEnd, a_secondEnd, a_values, a_nodes, a_far, a_productive, a_useful, a_covers) => ∀ x2_86 : Int32, x2_86 = nI x + 1 → wY_know_37 post (wY_know_23 post n23) (nI h) (d + 1) x2_86 f_productions f_length f_goal f_extra f_measured f_known f_more f_sum a_left a_size a_right a_text a_ops a_constants a_heights a_many a_chosen a_firstEnd a_secondEnd a_values a_nodes a_far a_productive a_useful a_covers) W tx mR mF mZ mO C hv (by omega) (fun n' i' j' hv' z q => P n' i' j' hv' z (by unfold yk_dn at *; omega)) (fun ch fe se vals nds hxx D => nm_r (nI_1 x) (ih (x + 1) (by omega) 1 _ _ _ _ _ (fun n' i' j' hv' z q => ?_) (Or.inr ⟨rfl, _, _, _, hv, e⟩)))
          · rw [← ex, e] at Z
            exact Z
          · by_cases c : cy n' i' j' = cy (x / 196) (x % 196 / 14) (x % 14)
            · obtain ⟨rfl, rfl, rfl⟩ := cy_inj W hv' hv c
              exact D
            · obtain ⟨a1, a2, a3, a4, a5⟩ := hxx _ c
              obtain ⟨b1, b2, b3, b4, b5⟩ := P n' i' j' hv' z (by rw [← ex] at c; unfold yk_dn at *; omega)
              exact ⟨a1.trans b1, a2.trans b2, a3.trans b3, a4.trans b4, a5.trans b5⟩
        · rw [ex] at e'
          obtain ⟨rfl, rfl, rfl⟩ := cy_inj W hv' hv e'
          exact e
      · have z0 := C.2.2 x (by omega) hv
        refine br_f (by rw [z0]; exact fun z => nI_ne0 h0 (by omega) z.symm) (nm_r (nI_1 x) (skip (fun n i j hv' e' => ?_)))
        obtain ⟨q1, q2, q3⟩ := cy_dec W hv'
        rw [e'] at q1 q2 q3
        rw [q1, q2, q3] at hv
        exact absurd hv' hv
  have K23 : ∀ (f_sum : Int64) (a_heights : Nat → Int32) (a_many : Nat → Int64), ym_Chart g a_heights → ym_Cts g a_many → ∀ d h, h + d = 607 → 0 < h → ∀ (f_more : Int32) (a_chosen a_firstEnd a_secondEnd : Nat → Int32) (a_values a_nodes : Nat → Int64), ((f_more = 0 ∧ yk_P g a_ops a_constants (fun _ _ => True) a_chosen a_firstEnd a_secondEnd a_values a_nodes) ∨ (f_more = 1 ∧ h ≤ 606 ∧ yk_P g a_ops a_constants (yk_dn h 0) a_chosen a_firstEnd a_secondEnd a_values a_nodes)) → wY_know_23 post (d + 1) (nI h) (nI (gr_P g)) (nI (gr_L g)) f_goal f_extra f_measured f_known f_more f_sum a_left a_size a_right a_text a_ops a_constants a_heights a_many a_chosen a_firstEnd a_secondEnd a_values a_nodes a_far a_productive a_useful a_covers := by
    intro f_sum a_heights a_many C M d
    induction d with
    | zero =>
      intro h hd h0 f_more a_chosen a_firstEnd a_secondEnd a_values a_nodes I
      obtain ⟨rfl, P⟩ | ⟨_, h6, _⟩ := I
      · exact br_t rfl (hpost _ _ _ _ _ _ _ _ _ _ _ (by decide) ⟨C, M, P⟩ (fun z => absurd rfl z))
      · omega
    | succ d ih =>
      intro h hd h0 f_more a_chosen a_firstEnd a_secondEnd a_values a_nodes I
      obtain ⟨rfl, P⟩ | ⟨rfl, h6, P⟩ := I
      · exact br_t rfl (hpost _ _ _ _ _ _ _ _ _ _ _ (by decide) ⟨C, M, P⟩ (fun z => absurd rfl z))
      · refine br_f (by decide) ⟨980 + 1, K37 (d + 1) f_sum a_heights a_many h C h0 h6 (fun f_more a1 a2 a3 a4 a5 P' fl => ih (h + 1) (by omega) (by omega) _ _ _ _ _ _ ?_) 980 0 rfl 0 _ _ _ _ _ P (Or.inl ⟨rfl, fun n i j hv q => by omega⟩)⟩
        obtain ⟨rfl, no⟩ | ⟨rfl, n, i, j, hv, e⟩ := fl
        · refine Or.inl ⟨rfl, fun n i j hv z _ => P' n i j hv z (Or.inl ?_)⟩
          by_cases c : pu_HH g n i j < h + 1
          · exact c
          · obtain ⟨n', i', j', hv', e'⟩ := pu_cont W C.1 h0 (pu_HH g n i j - h) n i j hv (by omega)
            exact absurd e' (no n' i' j' hv')
        · have := (C.1 n i j hv).2.2
          exact Or.inr ⟨rfl, by omega, P'⟩
  refine br_c (fun _ => ?_) (fun z => hpost _ _ _ _ _ _ _ _ _ _ _ z (hr z).1 (hr z).2)
  refine ys_derive (g := g) W tx mR mF mZ (fun f1 a1 C => ys_count (g := g) W tx mR mF mZ C (fun f2 s2 a2 M => ⟨606 + 1, K23 _ _ _ C M 606 1 (by decide) (by decide) 1 _ _ _ _ _ (Or.inr ⟨rfl, by decide, fun n i j hv z q => by unfold yk_dn at q; omega⟩)⟩))
end
