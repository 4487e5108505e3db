/-! the chart of the component: rounds -/
def up3 (H : pu_C) (n i j h : Nat) : pu_C := fun a b c => if a = n ∧ b = i ∧ c = j then h else H a b c
theorem up3_s {H : pu_C} {n i j h : Nat} : up3 H n i j h n i j = h := if_pos ⟨rfl, rfl, rfl⟩
theorem up3_n {H : pu_C} {n i j h a b c : Nat} (z : ¬ (a = n ∧ b = i ∧ c = j)) : up3 H n i j h a b c = H a b c := if_neg z
theorem xm_H_up {g : gr_G} {hts : Nat → Int32} {H : pu_C} (W : gr_W g) (mH : xm_H g hts H) {n i j : Nat} (hv : pu_V g n i j) (h : Nat) : xm_H g (upd hts (cx n i j) (nI h)) (up3 H n i j h) := by
  intro a b c hv'
  have hL := W.2.1
  unfold pu_V at hv hv'
  by_cases z : a = n ∧ b = i ∧ c = j
  · obtain ⟨rfl, rfl, rfl⟩ := z
    rw [pk_us, up3_s]
  · rw [up3_n z, pk_un (fun e => z (cx_i e (by omega) (by omega) (by omega) (by omega)))]
    exact mH a b c hv'
def xm_O (g : gr_G) (H : pu_C) (ord : Nat → Int32) (fl : Nat) : Prop := (∀ k, k < fl → ∃ n i j, pu_V g n i j ∧ ord k = nI (cx n i j) ∧ 0 < H n i j) ∧ (∀ k k' n i j n' i' j', k ≤ k' → k' < fl → pu_V g n i j → pu_V g n' i' j' → ord k = nI (cx n i j) → ord k' = nI (cx n' i' j') → H n i j ≤ H n' i' j') ∧ (∀ n i j, pu_V g n i j → 0 < H n i j → ∃ k, k < fl ∧ ord k = nI (cx n i j))
def xm_K (g : gr_G) (H : pu_C) (hts ch fe se ord : Nat → Int32) (fl : Nat) : Prop := xm_H g hts H ∧ fl = pu_cnt (fun x => decide (hts x ≠ 0)) 605 ∧ (∀ n i j, pu_V g n i j → 0 < H n i j → ∃ p u v, ch (cx n i j) = nI p ∧ fe (cx n i j) = nI u ∧ se (cx n i j) = nI v ∧ pu_Ch g H n i j p u v) ∧ xm_O g H ord fl
def xm_I (g : gr_G) (H : pu_C) (m : Nat) (dn : Nat → Nat → Nat → Prop) : Prop := (∀ n i j, pu_V g n i j → H n i j ≤ m + 1) ∧ (∀ n i j, pu_V g n i j → ∀ k, H n i j = k + 1 → pu_HT g H n i j (k + 1) ∧ ¬ pu_HT g H n i j k) ∧ (∀ n i j, pu_V g n i j → H n i j = 0 → ¬ pu_HT g H n i j m) ∧ (∀ p i j, p < gr_P g → i ≤ j → j ≤ gr_L g → dn p i j → H (gr_F g p) i j = 0 → ∀ u v, i ≤ u → u ≤ v → v ≤ j → ¬ pu_F g H p i u v j (m + 1))
def xm_dn (p i j : Nat) : Nat → Nat → Nat → Prop := fun p' i' j' => p' < p ∨ (p' = p ∧ (i' < i ∨ (i' = i ∧ j' < j)))
def xm_L (g : gr_G) (m B : Nat) (dn : Nat → Nat → Nat → Prop) (hts ch fe se ord : Nat → Int32) (fl : Nat) : Prop := ∃ H, xm_K g H hts ch fe se ord fl ∧ xm_I g H m dn ∧ B ≤ fl ∧ (fl ≤ B → ∀ n i j, pu_V g n i j → H n i j ≤ m)
theorem cx_inj {g : gr_G} {n i j n' i' j' : Nat} (W : gr_W g) (a : pu_V g n i j) (b : pu_V g n' i' j') (e : nI (cx n i j) = nI (cx n' i' j')) : n = n' ∧ i = i' ∧ j = j' := by
  have h1 := cx_lt W a
  have h2 := cx_lt W b
  have hL := W.2.1
  rw [nI_eq (by omega) (by omega)] at e
  unfold pu_V at a b
  exact cx_i e (by omega) (by omega) (by omega) (by omega)
theorem xm_Oc {g : gr_G} {H : pu_C} {ord : Nat → Int32} {fl : Nat} (W : gr_W g) (O : xm_O g H ord fl) {k n i j : Nat} (hk : k < fl) (hv : pu_V g n i j) (e : ord k = nI (cx n i j)) : 0 < H n i j := by
  obtain ⟨n', i', j', hv', e', h0⟩ := O.1 k hk
  obtain ⟨rfl, rfl, rfl⟩ := cx_inj W hv hv' (e.symm.trans e')
  exact h0
theorem xm_fill {g : gr_G} {H : pu_C} {hts ch fe se ord : Nat → Int32} {fl m p i j u v : Nat} {dn : Nat → Nat → Nat → Prop} (W : gr_W g) (K : xm_K g H hts ch fe se ord fl) (I : xm_I g H m dn) (hp : p < gr_P g) (hij : i ≤ j) (hj : j ≤ gr_L g) (hm : m < 605) (h0 : H (gr_F g p) i j = 0) (hu : i ≤ u) (huv : u ≤ v) (hvj : v ≤ j) (f : pu_F g H p i u v j (m + 1)) (lex : ∀ u' v', i ≤ u' → u' ≤ v' → v' ≤ j → (u < u' ∨ (u = u' ∧ v < v')) → ¬ pu_F g H p i u' v' j (m + 1)) (D : ∀ p', p' < p → dn p' i j) :
    xm_K g (up3 H (gr_F g p) i j (m + 1)) (upd hts (cx (gr_F g p) i j) (nI (m + 1))) (upd ch (cx (gr_F g p) i j) (nI p)) (upd fe (cx (gr_F g p) i j) (nI u)) (upd se (cx (gr_F g p) i j) (nI v)) (upd ord fl (nI (cx (gr_F g p) i j))) (fl + 1) ∧ xm_I g (up3 H (gr_F g p) i j (m + 1)) m dn ∧ up3 H (gr_F g p) i j (m + 1) (gr_F g p) i j ≠ 0 := by
  have hL := W.2.1
  have hv : pu_V g (gr_F g p) i j := ⟨W.2.2.1 p hp, hij, hj⟩
  have hlt := cx_lt W hv
  have A : pu_ag g H (up3 H (gr_F g p) i j (m + 1)) (m + 1) := by
    intro n' i' j' hv' k k0 k1
    by_cases z : n' = gr_F g p ∧ i' = i ∧ j' = j
    · obtain ⟨rfl, rfl, rfl⟩ := z
      rw [up3_s, h0]; omega
    · rw [up3_n z]
  obtain ⟨mH, efl, ch1, O⟩ := K
  obtain ⟨I1, I2, I3, I4⟩ := I
  have I1' : ∀ n i' j', pu_V g n i' j' → up3 H (gr_F g p) i j (m + 1) n i' j' ≤ m + 1 := by
    intro n' i' j' hv'
    by_cases z : n' = gr_F g p ∧ i' = i ∧ j' = j
    · obtain ⟨rfl, rfl, rfl⟩ := z
      rw [up3_s]; omega
    · rw [up3_n z]; exact I1 _ _ _ hv'
  refine ⟨⟨xm_H_up W mH hv (m + 1), ?_, ?_, ?_, ?_, ?_⟩, ⟨I1', ?_, ?_, ?_⟩, ?_⟩
  · have c1 : hts (cx (gr_F g p) i j) = 0 := by rw [mH _ _ _ hv, h0]; rfl
    rw [efl]
    refine (pu_cnt_add1 (x0 := cx (gr_F g p) i j) ?_ ?_ (fun x _ hx => ?_) hlt).symm
    · rw [c1]; rfl
    · rw [pk_us]; exact decide_eq_true (nI_ne0 (by omega) (by omega))
    · rw [pk_un hx]
  · intro n' i' j' hv' hpos
    by_cases z : n' = gr_F g p ∧ i' = i ∧ j' = j
    · obtain ⟨rfl, rfl, rfl⟩ := z
      refine ⟨p, u, v, pk_us, pk_us, pk_us, hp, rfl, hu, huv, hvj, ?_, ?_, ?_⟩
      · rw [up3_s]; exact pu_F_im W A hp hu huv hvj hj f
      · intro p' u' v' q1 q2 q3 q4 q5 q6
        rw [up3_s] at q6
        exact I4 p' i' j' (by omega) hij hj (D p' q1) (by rw [q2]; exact h0) u' v' q3 q4 q5 (pu_F_im W (pu_ag_sy A) (by omega) q3 q4 q5 hj q6)
      · intro u' v' q3 q4 q5 q7 q6
        rw [up3_s] at q6
        exact lex u' v' q3 q4 q5 q7 (pu_F_im W (pu_ag_sy A) hp q3 q4 q5 hj q6)
    · rw [up3_n z] at hpos
      obtain ⟨p', u', v', e1, e2, e3, c⟩ := ch1 n' i' j' hv' hpos
      have ne : cx n' i' j' ≠ cx (gr_F g p) i j := fun e => z (cx_inj W hv' hv (congrArg nI e))
      refine ⟨p', u', v', by rw [pk_un ne]; exact e1, by rw [pk_un ne]; exact e2, by rw [pk_un ne]; exact e3, ?_⟩
      exact pu_Ch_ag W hv'.2.2 (by rw [up3_n z]) (pu_ag_le A (I1 _ _ _ hv')) c
  · intro k hk
    by_cases z : k = fl
    · rw [z]
      exact ⟨gr_F g p, i, j, hv, pk_us, by rw [up3_s]; omega⟩
    · obtain ⟨n', i', j', hv', e', h0'⟩ := O.1 k (by omega)
      refine ⟨n', i', j', hv', by rw [pk_un z]; exact e', ?_⟩
      rw [up3_n (fun q => by obtain ⟨rfl, rfl, rfl⟩ := q; omega)]; exact h0'
  · intro k k' n1 i1 j1 n2 i2 j2 hkk hk' v1 v2 e1 e2
    by_cases z : k' = fl
    · rw [z, pk_us] at e2
      obtain ⟨rfl, rfl, rfl⟩ := cx_inj W hv v2 e2
      rw [up3_s]; exact I1' _ _ _ v1
    · rw [pk_un (by omega)] at e1 e2
      have q1 := xm_Oc W O (by omega) v1 e1
      have q2 := xm_Oc W O (by omega) v2 e2
      rw [up3_n (fun q => by obtain ⟨rfl, rfl, rfl⟩ := q; omega), up3_n (fun q => by obtain ⟨rfl, rfl, rfl⟩ := q; omega)]
      exact O.2.1 k k' _ _ _ _ _ _ hkk (by omega) v1 v2 e1 e2
  · intro n' i' j' hv' hpos
    by_cases z : n' = gr_F g p ∧ i' = i ∧ j' = j
    · obtain ⟨rfl, rfl, rfl⟩ := z
      exact ⟨fl, by omega, pk_us⟩
    · rw [up3_n z] at hpos
      obtain ⟨k, hk, e⟩ := O.2.2 n' i' j' hv' hpos
      exact ⟨k, by omega, by rw [pk_un (by omega)]; exact e⟩
  · intro n' i' j' hv' k ek
    by_cases z : n' = gr_F g p ∧ i' = i ∧ j' = j
    · obtain ⟨rfl, rfl, rfl⟩ := z
      rw [up3_s] at ek
      have : k = m := by omega
      subst this
      refine ⟨⟨by omega, p, u, v, hp, rfl, hu, huv, hvj, pu_F_im W A hp hu huv hvj hj f⟩, fun z => I3 _ _ _ hv h0 (pu_HT_im W (pu_ag_sy (pu_ag_le A (by omega))) hj z)⟩
    · rw [up3_n z] at ek
      have b := I1 _ _ _ hv'
      have a := I2 _ _ _ hv' k ek
      exact ⟨pu_HT_im W (pu_ag_le A (by omega)) hv'.2.2 a.1, fun z => a.2 (pu_HT_im W (pu_ag_sy (pu_ag_le A (by omega))) hv'.2.2 z)⟩
  · intro n' i' j' hv' e0
    have e1 : H n' i' j' = 0 := by
      by_cases z : n' = gr_F g p ∧ i' = i ∧ j' = j
      · obtain ⟨rfl, rfl, rfl⟩ := z; exact h0
      · rw [up3_n z] at e0; exact e0
    exact fun z => I3 _ _ _ hv' e1 (pu_HT_im W (pu_ag_sy (pu_ag_le A (by omega))) hv'.2.2 z)
  · intro p' i' j' h1 h2 h3 h4 h5 u' v' q1 q2 q3 q4
    have e1 : H (gr_F g p') i' j' = 0 := by
      by_cases z : gr_F g p' = gr_F g p ∧ i' = i ∧ j' = j
      · rw [z.1, z.2.1, z.2.2]; exact h0
      · rw [up3_n z] at h5; exact h5
    exact I4 p' i' j' h1 h2 h3 h4 e1 u' v' q1 q2 q3 (pu_F_im W (pu_ag_sy A) h1 q1 q2 q3 h3 q4)
  · rw [up3_s]; omega
theorem xm_L_dn {g : gr_G} {m B : Nat} {dn dn' : Nat → Nat → Nat → Prop} {hts ch fe se ord : Nat → Int32} {fl : Nat} (l : xm_L g m B dn hts ch fe se ord fl) (h : ∀ p i j, i ≤ j → j ≤ gr_L g → dn' p i j → dn p i j) : xm_L g m B dn' hts ch fe se ord fl := by
  obtain ⟨H, K, ⟨I1, I2, I3, I4⟩, b, c⟩ := l
  exact ⟨H, K, ⟨I1, I2, I3, fun p i j h1 h2 h3 h4 => I4 p i j h1 h2 h3 (h p i j h2 h3 h4)⟩, b, c⟩
section
variable {g : gr_G} {f_chartReady f_countsReady f_distancesReady f_followsReady f_filled : Int32} {a_lefts a_rights a_ops a_constants a_text a_heights a_chosen a_firstEnds a_secondEnds a_order a_counts a_distances a_follows a_sizes : Nat → Int32} {a_values a_operands : Nat → Int64} {a_productive a_used : Nat → Int32}
theorem xs_fh31 {post : Int32 → SX → Prop} {J7 J18 : Int32 → Int32 → Int32 → Int32 → Int32 → Int32 → Int32 → Int32 → (Nat → Int32) → (Nat → Int32) → (Nat → Int32) → (Nat → Int32) → (Nat → Int32) → (Nat → Int32) → (Nat → Int32) → (Nat → Int32) → (Nat → Int32) → (Nat → Int32) → (Nat → Int32) → (Nat → Int32) → (Nat → Int32) → (Nat → Int32) → (Nat → Int64) → (Nat → Int64) → (Nat → Int32) → (Nat → Int32) → Prop} {m B p i : Nat} (W : gr_W g) (hp : p < gr_P g) (hm : m < 605) (tx : xm_T g a_text) (mR : xm_R g a_rights) (mF : xm_F g a_lefts)
    (hJ : ∀ (fl : Nat) (a_heights a_chosen a_firstEnds a_secondEnds a_order : Nat → Int32), xm_L g m B (xm_dn p (i + 1) (i + 1)) a_heights a_chosen a_firstEnds a_secondEnds a_order fl → J18 (nI (i + 1)) (nI (gr_P g)) (nI (gr_L g)) f_chartReady f_countsReady f_distancesReady f_followsReady (nI fl) a_lefts a_rights a_ops a_constants a_text a_heights a_chosen a_firstEnds a_secondEnds a_order a_counts a_distances a_follows a_sizes a_values a_operands a_productive a_used) :
    ∀ d j, j + d = gr_L g + 1 → i ≤ j → ∀ (fl : Nat) (a_heights a_chosen a_firstEnds a_secondEnds a_order : Nat → Int32), xm_L g m B (xm_dn p i j) a_heights a_chosen a_firstEnds a_secondEnds a_order fl → wX_fillHeight_31 post J7 J18 (nI (m + 1)) (nI B) (nI p) (nI i) (d + 1) (nI j) (nI (gr_P g)) (nI (gr_L g)) f_chartReady f_countsReady f_distancesReady f_followsReady (nI fl) a_lefts a_rights a_ops a_constants a_text a_heights a_chosen a_firstEnds a_secondEnds a_order a_counts a_distances a_follows a_sizes a_values a_operands a_productive a_used := by
  have hL := W.2.1
  have hP := W.1
  intro d
  induction d with
  | zero =>
    intro j hj hij fl a_heights a_chosen a_firstEnds a_secondEnds a_order l
    refine br_t (nI_lt (by omega) (by omega)) (nm_r (nI_1 i) (hJ fl _ _ _ _ _ (xm_L_dn l (fun p' i' j' h1 h2 h3 => ?_))))
    unfold xm_dn at *; omega
  | succ d ih =>
    intro j hj hij fl a_heights a_chosen a_firstEnds a_secondEnds a_order l
    have hv : pu_V g (gr_F g p) i j := ⟨W.2.2.1 p hp, hij, by omega⟩
    have hl := cx_lt W hv
    refine br_f (nI_nlt (by omega) (by omega)) ⟨pk_in p 12 (by omega), xb_cell (gr_F g p) i j (xm_Fp W mF hp) rfl rfl ⟨pk_in (cx (gr_F g p) i j) 605 hl, ?_⟩⟩
    obtain ⟨H, K, I, b, c⟩ := l
    have hb : ∀ n i j, pu_V g n i j → H n i j ≤ 1000 := fun n i j h => by have := I.1 n i j h; omega
    have hbc := hb _ _ _ hv
    refine pk_eq (H (gr_F g p) i j) 0 (fun e => ?_) (fun e => ?_) (by rw [nI_clamp (by omega)]; exact K.1 _ _ _ hv)
    · have hfl : fl < 605 := by
        rw [K.2.1]
        refine pu_cnt_free hl ?_
        rw [K.1 _ _ _ hv, e]; rfl
      refine xs_choose (g := g) (H := H) (fl := fl) W hp hij (by omega) (by omega) tx mR mF K.1 hb rfl hfl (fun hn => ?_) (fun u v h1 h2 h3 h4 h5 => ?_)
      · refine nm_r (nI_1 j) (ih (j + 1) (by omega) (by omega) fl _ _ _ _ _ ⟨H, K, ⟨I.1, I.2.1, I.2.2.1, fun p' i' j' q1 q2 q3 q4 q5 => ?_⟩, b, c⟩)
        by_cases z : p' = p ∧ i' = i ∧ j' = j
        · obtain ⟨rfl, rfl, rfl⟩ := z; exact hn
        · exact I.2.2.2 p' i' j' q1 q2 q3 (by unfold xm_dn at *; omega) q5
      · obtain ⟨K', I', ne⟩ := xm_fill W K I hp hij (by omega) hm e h1 h2 h3 h4 h5 (fun p' hp' => Or.inl hp')
        refine nm_r (nI_1 j) (ih (j + 1) (by omega) (by omega) (fl + 1) _ _ _ _ _ ⟨_, K', ⟨I'.1, I'.2.1, I'.2.2.1, fun p' i' j' q1 q2 q3 q4 q5 => ?_⟩, by omega, fun q => by omega⟩)
        by_cases z : p' = p ∧ i' = i ∧ j' = j
        · obtain ⟨rfl, rfl, rfl⟩ := z; exact absurd q5 ne
        · exact I'.2.2.2 p' i' j' q1 q2 q3 (by unfold xm_dn at *; omega) q5
    · refine nm_r (nI_1 j) (ih (j + 1) (by omega) (by omega) fl _ _ _ _ _ ⟨H, K, ⟨I.1, I.2.1, I.2.2.1, fun p' i' j' q1 q2 q3 q4 q5 => ?_⟩, b, c⟩)
      by_cases z : p' = p ∧ i' = i ∧ j' = j
      · obtain ⟨rfl, rfl, rfl⟩ := z; exact absurd q5 e
      · exact I.2.2.2 p' i' j' q1 q2 q3 (by unfold xm_dn at *; omega) q5
theorem xs_fillHeight {post : Int32 → SX → Prop} {m B : Nat} (W : gr_W g) (hm : m < 605) (tx : xm_T g a_text) (mR : xm_R g a_rights) (mF : xm_F g a_lefts) (l0 : xm_L g m B (xm_dn 0 0 0) a_heights a_chosen a_firstEnds a_secondEnds a_order B)
    (hpost : ∀ (fl : Nat) (a_heights a_chosen a_firstEnds a_secondEnds a_order : Nat → Int32), xm_L g m B (xm_dn (gr_P g) 0 0) a_heights a_chosen a_firstEnds a_secondEnds a_order fl → (fl ≤ B → post 0 (nI (gr_P g), nI (gr_L g), f_chartReady, f_countsReady, f_distancesReady, f_followsReady, nI fl, a_lefts, a_rights, a_ops, a_constants, a_text, a_heights, a_chosen, a_firstEnds, a_secondEnds, a_order, a_counts, a_distances, a_follows, a_sizes, a_values, a_operands, a_productive, a_used)) ∧ (B < fl → post 1 (nI (gr_P g), nI (gr_L g), f_chartReady, f_countsReady, f_distancesReady, f_followsReady, nI fl, a_lefts, a_rights, a_ops, a_constants, a_text, a_heights, a_chosen, a_firstEnds, a_secondEnds, a_order, a_counts, a_distances, a_follows, a_sizes, a_values, a_operands, a_productive, a_used))) : wpX_fillHeight post (nI (gr_P g), nI (gr_L g), f_chartReady, f_countsReady, f_distancesReady, f_followsReady, nI B, a_lefts, a_rights, a_ops, a_constants, a_text, a_heights, a_chosen, a_firstEnds, a_secondEnds, a_order, a_counts, a_distances, a_follows, a_sizes, a_values, a_operands, a_productive, a_used) (nI (m + 1)) := by
  have hL := W.2.1
  have hP := W.1
  have flb : ∀ {dn fl} {a_heights a_chosen a_firstEnds a_secondEnds a_order : Nat → Int32}, xm_L g m B dn a_heights a_chosen a_firstEnds a_secondEnds a_order fl → fl ≤ 605 ∧ B ≤ fl := by
    intro dn fl a1 a2 a3 a4 a5 l
    obtain ⟨H, K, I, b, c⟩ := l
    exact ⟨by rw [K.2.1]; exact pu_cnt_le _ _, b⟩
  have K18 : ∀ (n7 p : Nat), p < gr_P g → (∀ (fl : Nat) (a_heights a_chosen a_firstEnds a_secondEnds a_order : Nat → Int32), xm_L g m B (xm_dn (p + 1) 0 0) a_heights a_chosen a_firstEnds a_secondEnds a_order fl → wX_fillHeight_7 post (nI (m + 1)) (nI B) n7 (nI (p + 1)) (nI (gr_P g)) (nI (gr_L g)) f_chartReady f_countsReady f_distancesReady f_followsReady (nI fl) a_lefts a_rights a_ops a_constants a_text a_heights a_chosen a_firstEnds a_secondEnds a_order a_counts a_distances a_follows a_sizes a_values a_operands a_productive a_used) → ∀ d i, i + d = gr_L g + 1 → ∀ (fl : Nat) (a_heights a_chosen a_firstEnds a_secondEnds a_order : Nat → Int32), xm_L g m B (xm_dn p i i) a_heights a_chosen a_firstEnds a_secondEnds a_order fl → wX_fillHeight_18 post (wX_fillHeight_7 post (nI (m + 1)) (nI B) n7) (nI (m + 1)) (nI B) (nI p) (d + 1) (nI i) (nI (gr_P g)) (nI (gr_L g)) f_chartReady f_countsReady f_distancesReady f_followsReady (nI fl) a_lefts a_rights a_ops a_constants a_text a_heights a_chosen a_firstEnds a_secondEnds a_order a_counts a_distances a_follows a_sizes a_values a_operands a_productive a_used := by
    intro n7 p hp hJ d
    induction d with
    | zero =>
      intro i hi fl a_heights a_chosen a_firstEnds a_secondEnds a_order l
      refine br_t (nI_lt (by omega) (by omega)) (nm_r (nI_1 p) (hJ fl _ _ _ _ _ (xm_L_dn l (fun p' i' j' h1 h2 h3 => ?_))))
      unfold xm_dn at *; omega
    | succ d ih =>
      intro i hi fl a_heights a_chosen a_firstEnds a_secondEnds a_order l
      refine br_f (nI_nlt (by omega) (by omega)) ⟨d + 1 + 1, ?_⟩
      exact xs_fh31 (g := g) W hp hm tx mR mF (fun fl a1 a2 a3 a4 a5 l' => ih (i + 1) (by omega) fl a1 a2 a3 a4 a5 l') (d + 1) i (by omega) (by omega) fl _ _ _ _ _ l
  have K7 : ∀ d p, p + d = gr_P g → ∀ (fl : Nat) (a_heights a_chosen a_firstEnds a_secondEnds a_order : Nat → Int32), xm_L g m B (xm_dn p 0 0) a_heights a_chosen a_firstEnds a_secondEnds a_order fl → wX_fillHeight_7 post (nI (m + 1)) (nI B) (d + 1) (nI p) (nI (gr_P g)) (nI (gr_L g)) f_chartReady f_countsReady f_distancesReady f_followsReady (nI fl) a_lefts a_rights a_ops a_constants a_text a_heights a_chosen a_firstEnds a_secondEnds a_order a_counts a_distances a_follows a_sizes a_values a_operands a_productive a_used := by
    intro d
    induction d with
    | zero =>
      intro p hp fl a_heights a_chosen a_firstEnds a_secondEnds a_order l
      have e : p = gr_P g := by omega
      subst e
      have fb := flb l
      have h := hpost fl _ _ _ _ _ l
      exact br_t (nI_le (by omega) (by omega)) (pk_le fl B h.1 h.2)
    | succ d ih =>
      intro p hp fl a_heights a_chosen a_firstEnds a_secondEnds a_order l
      refine br_f (nI_ge (by omega) (by omega)) ⟨gr_L g + 1 + 1, ?_⟩
      exact K18 (d + 1) p (by omega) (fun fl a1 a2 a3 a4 a5 l' => ih (p + 1) (by omega) fl a1 a2 a3 a4 a5 l') (gr_L g + 1) 0 (by omega) fl _ _ _ _ _ l
  exact ⟨gr_P g + 1, K7 (gr_P g) 0 (by omega) B _ _ _ _ _ l0⟩
end
