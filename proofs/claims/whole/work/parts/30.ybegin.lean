/-! the reference: productive, used, beginnings -/
def yB (a : Nat → Int32) : Prop := ∀ x, x < 70 → a x = 0 ∨ a x = 1
def yc_S (K : Nat) (a : Nat → Int32) : pf_S := fun n i => n < 5 ∧ i ≤ K ∧ a (14 * n + i) ≠ 0
def yc_tok (g : gr_G) (K t : Nat) (extra : Int32) : Prop := (extra = nI t ∧ t < 6) ∨ (extra = -1 ∧ K < gr_L g ∧ t = gr_T g K)
theorem pf_fp_99 {K t i s : Nat} {S : pf_S} (h : s = 99) : ¬ pf_fp K t S s i := by
  intro z
  obtain z | z := z
  · omega
  · have := z.1; unfold pu_nt at this; omega
theorem pf_yl_99 {Q : Nat → Prop} {s : Nat} (h : s = 99) : pf_yl Q s := fun nt => by unfold pu_nt at nt; omega
section
variable {g : gr_G} {f_goal f_extra f_measured f_known f_more : Int32} {f_sum : Int64} {a_left a_size a_right a_text a_ops a_constants a_heights : Nat → Int32} {a_many : Nat → Int64} {a_chosen a_firstEnd a_secondEnd : Nat → Int32} {a_values a_nodes : Nat → Int64} {a_far a_productive a_useful a_covers : Nat → Int32}
theorem ys_yields {post : Int32 → Prop} {s : Nat} {s' : Int32} (es : s' = sy_m s) (ok : pu_ok s) (ht : pf_yl (mk_q a_productive) s → post 1) (hf : ¬ pf_yl (mk_q a_productive) s → post 0) : wpY_yields post (nI (gr_P g), nI (gr_L g), f_goal, f_extra, f_measured, f_known, f_more, f_sum, a_left, a_size, a_right, a_text, a_ops, a_constants, a_heights, a_many, a_chosen, a_firstEnd, a_secondEnd, a_values, a_nodes, a_far, a_productive, a_useful, a_covers) s' := by
  subst es
  refine ek_if (sy_lt ok) (fun c => ht (fun nt => by unfold pu_nt at nt; omega)) (fun c => ?_)
  have nt : pu_nt s := by unfold pu_nt; unfold pu_ok at ok; omega
  have h5 : s - 10 < 5 := by unfold pu_ok at ok; unfold pu_nt at nt; omega
  rw [sy_nt nt, xb_10]
  refine ⟨vp_in_nI h5 (by decide), ?_⟩
  rw [nI_clamp (by omega)]
  exact br_c (fun z => hf (fun y => y nt z)) (fun z => ht (fun _ => z))
theorem ys_allYield {post : Int32 → Prop} {p k : Nat} (W : gr_W g) (hp : p < gr_P g) (hk : k ≤ 3) (mR : xm_R g a_right) (mZ : ym_Z g a_size) (ht : (∀ m, k ≤ m → m < 3 → pf_yl (mk_q a_productive) (gr_R g (3 * p + m))) → post 1) (hf : ¬ (∀ m, k ≤ m → m < 3 → pf_yl (mk_q a_productive) (gr_R g (3 * p + m))) → post 0) : wpY_allYield post (nI (gr_P g), nI (gr_L g), f_goal, f_extra, f_measured, f_known, f_more, f_sum, a_left, a_size, a_right, a_text, a_ops, a_constants, a_heights, a_many, a_chosen, a_firstEnd, a_secondEnd, a_values, a_nodes, a_far, a_productive, a_useful, a_covers) (nI p) (nI k) := by
  have hP := W.1
  have k3 := pu_k_le g p
  have ez : a_size (nI p).toNatClampNeg = nI (pu_k g p) := by rw [nI_clamp (by omega)]; exact mZ p hp
  have hin : vp_in (nI p) 12 := vp_in_nI (by omega) (by decide)
  have K : ∀ d m, m + d = 3 → k ≤ m → (∀ q, k ≤ q → q < m → pf_yl (mk_q a_productive) (gr_R g (3 * p + q))) → wY_allYield_2 post (nI p) (nI (gr_P g)) (nI (gr_L g)) f_goal f_extra f_measured f_known f_more f_sum a_left a_size a_right a_text a_ops a_constants a_heights a_many a_chosen a_firstEnd a_secondEnd a_values a_nodes a_far a_productive a_useful a_covers (d + 1) (nI m) := by
    intro d
    induction d with
    | zero =>
      intro m hm hkm hist
      exact ⟨hin, br_t (by rw [ez]; exact nI_le (by omega) (by omega)) (ht (fun q h1 h2 => hist q h1 (by omega)))⟩
    | succ d ih =>
      intro m hm hkm hist
      have hm3 : m < 3 := by omega
      refine ⟨hin, pk_le (pu_k g p) m (fun l => ht (fun q h1 h2 => ?_)) (fun l => ⟨xb_i (by omega) hm3, ?_⟩) ez rfl⟩
      · by_cases c : q < m
        · exact hist q h1 c
        · refine pf_yl_99 ?_
          by_cases z : gr_R g (3 * p + q) = 99
          · exact z
          · have cc := pu_k_c W hp
            have : q = 0 ∨ q = 1 ∨ q = 2 := by omega
            obtain rfl | rfl | rfl := this
            · have z' : gr_R g (3 * p) ≠ 99 := z
              omega
            · omega
            · omega
      · refine ys_yields (xm_Rm W mR hp hm3) (pu_okR W hp hm3) (fun y => br_f (by decide) (nm_r (nI_1 m) (ih (m + 1) (by omega) (by omega) (fun q h1 h2 => ?_)))) (fun y => br_t rfl (hf (fun a => y (a m hkm hm3))))
        · by_cases c : q = m
          · rw [c]; exact y
          · exact hist q h1 (by omega)
  exact ⟨3 - k + 1, K (3 - k) k (by omega) (Nat.le_refl _) (fun q h1 h2 => by omega)⟩
theorem ys_findProd {post : SY → Prop} (W : gr_W g) (mR : xm_R g a_right) (mF : xm_F g a_left) (mZ : ym_Z g a_size) (hpost : ∀ (a_productive : Nat → Int32), xm_Pr g a_productive → post (nI (gr_P g), nI (gr_L g), f_goal, f_extra, f_measured, f_known, f_more, f_sum, a_left, a_size, a_right, a_text, a_ops, a_constants, a_heights, a_many, a_chosen, a_firstEnd, a_secondEnd, a_values, a_nodes, a_far, a_productive, a_useful, a_covers)) : wpY_findProductive post (nI (gr_P g), nI (gr_L g), f_goal, f_extra, f_measured, f_known, f_more, f_sum, a_left, a_size, a_right, a_text, a_ops, a_constants, a_heights, a_many, a_chosen, a_firstEnd, a_secondEnd, a_values, a_nodes, a_far, a_productive, a_useful, a_covers) := by
  have hP := W.1
  have AP : ∀ {p : Nat} {a : Nat → Int32}, (∀ m, 0 ≤ m → m < 3 → pf_yl (mk_q a) (gr_R g (3 * p + m))) ↔ pf_ap g (mk_q a) p := ⟨fun h m hm => h m (Nat.zero_le _) hm, fun h m _ hm => h m hm⟩
  have K29 : ∀ (n22 r : Nat) (a0 : Nat → Int32), (∀ (a_productive : Nat → Int32), pr_I g a0 (gr_P g) a_productive → wY_findProductive_22 post (nI (gr_P g)) (nI (gr_L g)) f_goal f_extra f_measured f_known f_more f_sum n22 (nI (r + 1)) a_left a_size a_right a_text a_ops a_constants a_heights a_many a_chosen a_firstEnd a_secondEnd a_values a_nodes a_far a_productive a_useful a_covers) → ∀ d p, p + d = gr_P g → ∀ (a_productive : Nat → Int32), pr_I g a0 p a_productive → wY_findProductive_29 post (wY_findProductive_22 post (nI (gr_P g)) (nI (gr_L g)) f_goal f_extra f_measured f_known f_more f_sum n22) (nI r) (nI (gr_P g)) (nI (gr_L g)) f_goal f_extra f_measured f_known f_more f_sum (d + 1) (nI p) a_left a_size a_right a_text a_ops a_constants a_heights a_many a_chosen a_firstEnd a_secondEnd a_values a_nodes a_far a_productive a_useful a_covers := by
    intro n22 r a0 hJ d
    induction d with
    | zero =>
      intro p hp a_productive I
      have e : p = gr_P g := by omega
      subst e
      exact br_t (nI_le (Nat.le_refl _) (by omega)) (nm_r (nI_1 r) (hJ _ I))
    | succ d ih =>
      intro p hp a_productive I
      have hp' : p < gr_P g := by omega
      have hF := W.2.2.1 p hp'
      have st := pr_in W hp' I
      refine br_f (nI_ge (by omega) (by omega)) (ys_allYield (g := g) (k := 0) W hp' (by decide) mR mZ (fun ap => br_f (by decide) ⟨vp_in_nI (by omega) (by decide), ?_⟩) (fun ap => br_t rfl (nm_r (nI_1 p) (ih (p + 1) (by omega) _ (st.2 (fun q => ap (AP.mpr q)))))))
      rw [xm_Fp W mF hp', xb_10]
      exact ⟨vp_in_nI hF (by decide), nm_r (e' := upd a_productive (gr_F g p) 1) (by rw [nI_clamp (by omega)]; rfl) (nm_r (nI_1 p) (ih (p + 1) (by omega) _ (st.1 (AP.mp ap))))⟩
  have K22 : ∀ d r, r + d = 5 → ∀ (a_productive : Nat → Int32), pr_O g r a_productive → wY_findProductive_22 post (nI (gr_P g)) (nI (gr_L g)) f_goal f_extra f_measured f_known f_more f_sum (d + 1) (nI r) a_left a_size a_right a_text a_ops a_constants a_heights a_many a_chosen a_firstEnd a_secondEnd a_values a_nodes a_far a_productive a_useful a_covers := by
    intro d
    induction d with
    | zero =>
      intro r hr a_productive I
      have e : r = 5 := by omega
      subst e
      exact br_t (nI_le (a := 5) (b := 5) (by decide) (by decide)) (hpost _ (pr_end I))
    | succ d ih =>
      intro r hr a_productive I
      refine br_f (nI_ge (b := 5) (by omega) (by decide)) ⟨gr_P g + 1, ?_⟩
      exact K29 (d + 1) r a_productive (fun a I' => ih (r + 1) (by omega) a (pr_step W I I')) (gr_P g) 0 (by omega) a_productive ⟨I.1, I.2.1, fun _ _ z => z, fun p' hp' => by omega⟩
  have K2 : ∀ d x, x + d = 5 → ∀ (a_productive : Nat → Int32), (∀ y, y < x → a_productive y = 0) → wY_findProductive_2 post (nI (gr_P g)) (nI (gr_L g)) f_goal f_extra f_measured f_known f_more f_sum (d + 1) (nI x) a_left a_size a_right a_text a_ops a_constants a_heights a_many a_chosen a_firstEnd a_secondEnd a_values a_nodes a_far a_productive a_useful a_covers := by
    intro d
    induction d with
    | zero =>
      intro x hx a_productive hz
      have e : x = 5 := by omega
      subst e
      exact br_t (nI_le (a := 5) (b := 5) (by decide) (by decide)) ⟨5 + 1, K22 5 0 rfl _ ⟨fun n hn => Or.inl (hz n hn), fun n hn z => absurd (hz n hn) z, Or.inl (Nat.zero_le _)⟩⟩
    | succ d ih =>
      intro x hx a_productive hz
      refine br_f (nI_ge (b := 5) (by omega) (by decide)) ⟨vp_in_nI (by omega) (by decide), nm_r (e' := upd a_productive x 0) (by rw [nI_clamp (by omega)]; rfl) (nm_r (nI_1 x) (ih (x + 1) (by omega) _ (fun y hy => ?_)))⟩
      by_cases c : y = x
      · rw [c, pk_us]
      · rw [pk_un c]; exact hz y (by omega)
  exact ⟨5 + 1, K2 5 0 rfl _ (fun y hy => absurd hy (by omega))⟩
theorem ys_covered {post : Int32 → Prop} {K t s i : Nat} {s' i' : Int32} (es : s' = sy_m s) (ei : i' = nI i) (eg : f_goal = nI (K + 1)) (ok : pu_ok s) (s99 : s ≠ 99) (hi : i ≤ K) (hK : K ≤ gr_L g) (W : gr_W g) (tx : xm_T g a_text) (tk : yc_tok g K t f_extra) (B : yB a_covers) (ht : pf_fp K t (yc_S K a_covers) s i → post 1) (hf : ¬ pf_fp K t (yc_S K a_covers) s i → post 0) : wpY_covered post (nI (gr_P g), nI (gr_L g), f_goal, f_extra, f_measured, f_known, f_more, f_sum, a_left, a_size, a_right, a_text, a_ops, a_constants, a_heights, a_many, a_chosen, a_firstEnd, a_secondEnd, a_values, a_nodes, a_far, a_productive, a_useful, a_covers) s' i' := by
  subst es ei eg
  have hL := W.2.1
  refine br_f (fun e => by rw [nI_eq (by omega) (by omega)] at e; omega) (ek_if (sy_lt ok) (fun c => ?_) (fun c => ?_))
  · have c2 : s < 10 := by omega
    have F : pf_fp K t (yc_S K a_covers) s i ↔ (s = t ∧ i = K) := by
      constructor
      · intro z
        obtain z | z := z
        · exact z.2
        · have := z.1; unfold pu_nt at this; omega
      · exact fun z => Or.inl ⟨c2, z⟩
    refine ek_if (d := i = K) (by rw [nI_1, nI_eq (by omega) (by omega)]; omega) (fun e => ?_) (fun e => hf (fun z => e (F.mp z).2))
    obtain ⟨ex, t6⟩ | ⟨ex, kl, et⟩ := tk
    · refine br_t (by rw [ex]; exact nI_le (a := 0) (by omega) (by omega)) (ek_if (d := t = s) (by rw [ex]; exact sy_eq ok t6) (fun q => ht (F.mpr ⟨q.symm, e⟩)) (fun q => hf (fun z => q (F.mp z).1.symm)))
    · refine br_f (by rw [ex]; decide) ⟨vp_in_nI (by omega) (by decide), ek_if (d := t = s) ?_ (fun q => ht (F.mpr ⟨q.symm, e⟩)) (fun q => hf (fun z => q (F.mp z).1.symm))⟩
      rw [nI_clamp (by omega), e, tx K kl, et]
      exact sy_eq ok (W.2.2.2.2.2 K kl)
  · have nt : pu_nt s := by unfold pu_nt; unfold pu_ok at ok; omega
    have h5 : s - 10 < 5 := by unfold pu_ok at ok; unfold pu_nt at nt; omega
    have F : pf_fp K t (yc_S K a_covers) s i ↔ a_covers (14 * (s - 10) + i) ≠ 0 := by
      constructor
      · intro z
        obtain z | z := z
        · unfold pu_nt at nt; omega
        · exact z.2.2.2
      · exact fun z => Or.inr ⟨nt, h5, hi, z⟩
    have e : (14 * (sy_m s - 10)) + nI i = nI (14 * (s - 10) + i) := by
      rw [sy_nt nt, xb_10, show (14 : Int32) = nI 14 from rfl, pk_mul, nI_add]
    rw [e]
    refine ⟨vp_in_nI (by omega) (by decide), ?_⟩
    rw [nI_clamp (by omega)]
    obtain z | z := B (14 * (s - 10) + i) (by omega)
    · rw [z]; exact ⟨rfl, hf (fun q => (F.mp q) z)⟩
    · rw [z]; exact ⟨rfl, ht (F.mpr (by rw [z]; decide))⟩
theorem mk_yl {a : Nat → Int32} {s : Nat} (ok : pu_ok s) (Pr : xm_Pr g a) : pf_yl (mk_q a) s ↔ pf_yl (pf_PR g) s := by
  constructor
  · intro h nt
    have h5 : s - 10 < 5 := by unfold pu_ok at ok; unfold pu_nt at nt; omega
    obtain ⟨_, q⟩ | ⟨e, _⟩ := Pr _ h5
    · exact q
    · exact absurd e (h nt)
  · intro h nt
    have h5 : s - 10 < 5 := by unfold pu_ok at ok; unfold pu_nt at nt; omega
    obtain ⟨e, _⟩ | ⟨_, q⟩ := Pr _ h5
    · show a _ ≠ 0
      rw [e]; decide
    · exact absurd (h nt) q
theorem ys_covering {post : Int32 → Prop} {K t p i : Nat} (eg : f_goal = nI (K + 1)) (hp : p < gr_P g) (hi : i ≤ K) (hK : K ≤ gr_L g) (W : gr_W g) (tx : xm_T g a_text) (mR : xm_R g a_right) (mZ : ym_Z g a_size) (C : ym_Chart g a_heights) (Pr : xm_Pr g a_productive) (tk : yc_tok g K t f_extra) (B : yB a_covers) (ht : pf_yo g K t (yc_S K a_covers) p i → post 1) (hf : ¬ pf_yo g K t (yc_S K a_covers) p i → post 0) : wpY_covering post (nI (gr_P g), nI (gr_L g), f_goal, f_extra, f_measured, f_known, f_more, f_sum, a_left, a_size, a_right, a_text, a_ops, a_constants, a_heights, a_many, a_chosen, a_firstEnd, a_secondEnd, a_values, a_nodes, a_far, a_productive, a_useful, a_covers) (nI p) (nI i) := by
  have hL := W.2.1
  have hP := W.1
  have k3 := pu_k_le g p
  have kc := pu_k_c W hp
  have ok0 := pu_okR0 W hp
  have ok1 := pu_okR W hp (m := 1) (by decide)
  have ok2 := pu_okR W hp (m := 2) (by decide)
  have hbH : ∀ n i j, pu_V g n i j → pu_HH g n i j ≤ 1000 := fun n i j hv => by have := (C.1 n i j hv).2.2; omega
  have K124 : ∀ {J69 : Int32 → Prop} (u : Nat), i ≤ u → u ≤ K → pf_ps g (gr_R g (3 * p)) i u → ((∀ v, u ≤ v → v ≤ K → ¬ (pf_ps g (gr_R g (3 * p + 1)) u v ∧ pf_fp K t (yc_S K a_covers) (gr_R g (3 * p + 2)) v)) → J69 (nI (u + 1))) → ∀ d v, v + d = K + 1 → u ≤ v → (∀ v', u ≤ v' → v' < v → ¬ (pf_ps g (gr_R g (3 * p + 1)) u v' ∧ pf_fp K t (yc_S K a_covers) (gr_R g (3 * p + 2)) v')) → wY_covering_124 post J69 (nI p) (nI i) (sy_m (gr_R g (3 * p))) (sy_m (gr_R g (3 * p + 1))) (sy_m (gr_R g (3 * p + 2))) (nI (pu_k g p)) (nI u) (nI (gr_P g)) (nI (gr_L g)) f_goal f_extra f_measured f_known f_more f_sum a_left a_size a_right a_text a_ops a_constants a_heights a_many a_chosen a_firstEnd a_secondEnd a_values a_nodes a_far a_productive a_useful a_covers (d + 1) (nI v) := by
    intro J69 u hiu huK f0 hJ d
    induction d with
    | zero =>
      intro v hv huv hist
      exact br_t (by rw [eg]; exact nI_le (by omega) (by omega)) (nm_r (nI_1 u) (hJ (fun v' h1 h2 => hist v' h1 (by omega))))
    | succ d ih =>
      intro v hv huv hist
      refine br_f (by rw [eg]; exact nI_ge (by omega) (by omega)) (pk_le (pu_k g p) 2 (fun l => nm_r (nI_1 u) (hJ (fun v' h1 h2 z => pf_fp_99 (by omega) z.2))) (fun l => ?_))
      have nx : ¬ (pf_ps g (gr_R g (3 * p + 1)) u v ∧ pf_fp K t (yc_S K a_covers) (gr_R g (3 * p + 2)) v) → wY_covering_124 post J69 (nI p) (nI i) (sy_m (gr_R g (3 * p))) (sy_m (gr_R g (3 * p + 1))) (sy_m (gr_R g (3 * p + 2))) (nI (pu_k g p)) (nI u) (nI (gr_P g)) (nI (gr_L g)) f_goal f_extra f_measured f_known f_more f_sum a_left a_size a_right a_text a_ops a_constants a_heights a_many a_chosen a_firstEnd a_secondEnd a_values a_nodes a_far a_productive a_useful a_covers (d + 1) (nI (v + 1)) := fun n => ih (v + 1) (by omega) (by omega) (fun v' h1 h2 => by
        by_cases c : v' = v
        · rw [c]; exact n
        · exact hist v' h1 (by omega))
      refine ys_stands (g := g) (H := pu_HH g) (h := 1000) rfl rfl rfl rfl ok1 (by omega) huv (by omega) W (by decide) tx C.2.1 hbH (fun f1 => br_f (by decide) ?_) (fun f1 => br_t rfl (nm_r (nI_1 v) (nx (fun z => f1 z.1))))
      refine ys_covered (g := g) rfl rfl eg ok2 (by omega) (by omega) hK W tx tk B (fun f2 => br_f (by decide) (ht (Or.inr (Or.inr ⟨u, v, hiu, huv, by omega, f0, f1, f2⟩)))) (fun f2 => br_t rfl (nm_r (nI_1 v) (nx (fun z => f2 z.2))))
  have K69 : ¬ (pf_fp K t (yc_S K a_covers) (gr_R g (3 * p)) i ∧ pf_yl (pf_PR g) (gr_R g (3 * p + 1)) ∧ pf_yl (pf_PR g) (gr_R g (3 * p + 2))) → ∀ d u, u + d = K + 1 → i ≤ u → (∀ u', i ≤ u' → u' < u → pf_ps g (gr_R g (3 * p)) i u' → ¬ (pf_fp K t (yc_S K a_covers) (gr_R g (3 * p + 1)) u' ∧ pf_yl (pf_PR g) (gr_R g (3 * p + 2))) ∧ ∀ v, u' ≤ v → v ≤ K → ¬ (pf_ps g (gr_R g (3 * p + 1)) u' v ∧ pf_fp K t (yc_S K a_covers) (gr_R g (3 * p + 2)) v)) → wY_covering_69 post (nI p) (nI i) (sy_m (gr_R g (3 * p))) (sy_m (gr_R g (3 * p + 1))) (sy_m (gr_R g (3 * p + 2))) (nI (pu_k g p)) (nI (gr_P g)) (nI (gr_L g)) f_goal f_extra f_measured f_known f_more f_sum a_left a_size a_right a_text a_ops a_constants a_heights a_many a_chosen a_firstEnd a_secondEnd a_values a_nodes a_far a_productive a_useful a_covers (d + 1) (nI u) := by
    intro n0 d
    have no : (∀ u', i ≤ u' → u' ≤ K → pf_ps g (gr_R g (3 * p)) i u' → ¬ (pf_fp K t (yc_S K a_covers) (gr_R g (3 * p + 1)) u' ∧ pf_yl (pf_PR g) (gr_R g (3 * p + 2))) ∧ ∀ v, u' ≤ v → v ≤ K → ¬ (pf_ps g (gr_R g (3 * p + 1)) u' v ∧ pf_fp K t (yc_S K a_covers) (gr_R g (3 * p + 2)) v)) → post 0 := by
      intro h
      refine hf (fun z => ?_)
      obtain z | ⟨u, h1, h2, f0, z⟩ | ⟨u, v, h1, h2, h3, f0, f1, z⟩ := z
      · exact n0 z
      · exact (h u h1 h2 f0).1 z
      · exact (h u h1 (by omega) f0).2 v h2 h3 ⟨f1, z⟩
    induction d with
    | zero =>
      intro u hu hiu hist
      exact br_t (by rw [eg]; exact nI_le (by omega) (by omega)) (no (fun u' h1 h2 f0 => hist u' h1 (by omega) f0))
    | succ d ih =>
      intro u hu hiu hist
      refine br_f (by rw [eg]; exact nI_ge (by omega) (by omega)) (pk_le (pu_k g p) 1 (fun l => no (fun u' h1 h2 f0 => ⟨fun z => pf_fp_99 (by omega) z.1, fun v h3 h4 z => pf_fp_99 (by omega) z.2⟩)) (fun l => ?_))
      have nx : (pf_ps g (gr_R g (3 * p)) i u → ¬ (pf_fp K t (yc_S K a_covers) (gr_R g (3 * p + 1)) u ∧ pf_yl (pf_PR g) (gr_R g (3 * p + 2))) ∧ ∀ v, u ≤ v → v ≤ K → ¬ (pf_ps g (gr_R g (3 * p + 1)) u v ∧ pf_fp K t (yc_S K a_covers) (gr_R g (3 * p + 2)) v)) → wY_covering_69 post (nI p) (nI i) (sy_m (gr_R g (3 * p))) (sy_m (gr_R g (3 * p + 1))) (sy_m (gr_R g (3 * p + 2))) (nI (pu_k g p)) (nI (gr_P g)) (nI (gr_L g)) f_goal f_extra f_measured f_known f_more f_sum a_left a_size a_right a_text a_ops a_constants a_heights a_many a_chosen a_firstEnd a_secondEnd a_values a_nodes a_far a_productive a_useful a_covers (d + 1) (nI (u + 1)) := fun n => ih (u + 1) (by omega) (by omega) (fun u' h1 h2 => by
        by_cases c : u' = u
        · rw [c]; exact n
        · exact hist u' h1 (by omega))
      refine ys_stands (g := g) (H := pu_HH g) (h := 1000) rfl rfl rfl rfl ok0 (by omega) hiu (by omega) W (by decide) tx C.2.1 hbH (fun f0 => br_f (by decide) ?_) (fun f0 => br_t rfl (nm_r (nI_1 u) (nx (fun z => absurd z f0))))
      have go : ¬ (pf_fp K t (yc_S K a_covers) (gr_R g (3 * p + 1)) u ∧ pf_yl (pf_PR g) (gr_R g (3 * p + 2))) → ∃ n124, wY_covering_124 post (wY_covering_69 post (nI p) (nI i) (sy_m (gr_R g (3 * p))) (sy_m (gr_R g (3 * p + 1))) (sy_m (gr_R g (3 * p + 2))) (nI (pu_k g p)) (nI (gr_P g)) (nI (gr_L g)) f_goal f_extra f_measured f_known f_more f_sum a_left a_size a_right a_text a_ops a_constants a_heights a_many a_chosen a_firstEnd a_secondEnd a_values a_nodes a_far a_productive a_useful a_covers (d + 1)) (nI p) (nI i) (sy_m (gr_R g (3 * p))) (sy_m (gr_R g (3 * p + 1))) (sy_m (gr_R g (3 * p + 2))) (nI (pu_k g p)) (nI u) (nI (gr_P g)) (nI (gr_L g)) f_goal f_extra f_measured f_known f_more f_sum a_left a_size a_right a_text a_ops a_constants a_heights a_many a_chosen a_firstEnd a_secondEnd a_values a_nodes a_far a_productive a_useful a_covers n124 (nI u) := fun n1 =>
        ⟨_, K124 u hiu (by omega) f0 (fun n2 => nx (fun _ => ⟨n1, n2⟩)) (K + 1 - u) u (by omega) (Nat.le_refl _) (fun v' h1 h2 => by omega)⟩
      refine ys_covered (g := g) rfl rfl eg ok1 (by omega) (by omega) hK W tx tk B (fun f1 => br_f (by decide) ?_) (fun f1 => br_t rfl (go (fun z => f1 z.1)))
      refine ys_allYield (g := g) (k := 2) W hp (by decide) mR mZ (fun y => br_f (by decide) (ht (Or.inr (Or.inl ⟨u, hiu, by omega, f0, f1, (mk_yl ok2 Pr).mp (y 2 (Nat.le_refl _) (by decide))⟩)))) (fun y => br_t rfl (go (fun z => y (fun m h1 h2 => ?_))))
      have : m = 2 := by omega
      subst this
      exact (mk_yl ok2 Pr).mpr z.2
  refine ⟨xb_i0 (by omega), nm_r (xm_R0 W mR hp) ⟨xb_i1 (by omega), nm_r (xm_R1 W mR hp) ⟨xb_i2 (by omega), nm_r (xm_R2 W mR hp) ⟨vp_in_nI (by omega) (by decide), nm_r (e' := nI (pu_k g p)) (by rw [nI_clamp (by omega)]; exact mZ p hp) ?_⟩⟩⟩⟩
  have go : ¬ (pf_fp K t (yc_S K a_covers) (gr_R g (3 * p)) i ∧ pf_yl (pf_PR g) (gr_R g (3 * p + 1)) ∧ pf_yl (pf_PR g) (gr_R g (3 * p + 2))) → ∃ n69, wY_covering_69 post (nI p) (nI i) (sy_m (gr_R g (3 * p))) (sy_m (gr_R g (3 * p + 1))) (sy_m (gr_R g (3 * p + 2))) (nI (pu_k g p)) (nI (gr_P g)) (nI (gr_L g)) f_goal f_extra f_measured f_known f_more f_sum a_left a_size a_right a_text a_ops a_constants a_heights a_many a_chosen a_firstEnd a_secondEnd a_values a_nodes a_far a_productive a_useful a_covers n69 (nI i) := fun n0 => ⟨_, K69 n0 (K + 1 - i) i (by omega) (Nat.le_refl _) (fun u' h1 h2 => by omega)⟩
  refine pk_le (pu_k g p) 0 (fun l => go (fun z => pf_fp_99 (by omega) z.1)) (fun l => ?_)
  refine ys_covered (g := g) rfl rfl eg ok0 (by omega) hi hK W tx tk B (fun f0 => br_f (by decide) ?_) (fun f0 => br_t rfl (go (fun z => f0 z.1)))
  refine ys_allYield (g := g) (k := 1) W hp (by decide) mR mZ (fun y => br_f (by decide) (ht (Or.inl ⟨f0, (mk_yl ok1 Pr).mp (y 1 (Nat.le_refl _) (by decide)), (mk_yl ok2 Pr).mp (y 2 (by decide) (by decide))⟩))) (fun y => br_t rfl (go (fun z => y (fun m h1 h2 => ?_))))
  have : m = 1 ∨ m = 2 := by omega
  obtain rfl | rfl := this
  · exact (mk_yl ok1 Pr).mpr z.2.1
  · exact (mk_yl ok2 Pr).mpr z.2.2
end
