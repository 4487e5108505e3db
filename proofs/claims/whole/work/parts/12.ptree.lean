/-! the chosen tree: sizes, nodes, values; pure -/
noncomputable def pu_cp (g : gr_G) (n i j : Nat) : Nat := (pu_ch g n i j).1
noncomputable def pu_s (g : gr_G) (n i j m : Nat) : Nat := gr_R g (3 * (pu_ch g n i j).1 + m)
noncomputable def pu_b (g : gr_G) (n i j m : Nat) : Nat := if m = 0 then i else if m = 1 then (pu_ch g n i j).2.1 else (pu_ch g n i j).2.2
noncomputable def pu_e (g : gr_G) (n i j m : Nat) : Nat := if m = 0 then (pu_ch g n i j).2.1 else if m = 1 then (pu_ch g n i j).2.2 else j
def pu_nt (s : Nat) : Prop := 10 ≤ s ∧ s < 99
def pu_CHX (g : gr_G) : Prop := ∀ n i j, pu_V g n i j → 0 < pu_HH g n i j → pu_Ch g (pu_HH g) n i j (pu_ch g n i j).1 (pu_ch g n i j).2.1 (pu_ch g n i j).2.2
theorem pu_part {g : gr_G} (W : gr_W g) (X : pu_CHX g) {n i j m : Nat} (hv : pu_V g n i j) (h0 : 0 < pu_HH g n i j) (hm : m < 3) : pu_cp g n i j < gr_P g ∧ pu_ok (pu_s g n i j m) ∧ pu_b g n i j m ≤ pu_e g n i j m ∧ pu_e g n i j m ≤ gr_L g ∧ (pu_nt (pu_s g n i j m) → pu_V g (pu_s g n i j m - 10) (pu_b g n i j m) (pu_e g n i j m) ∧ 0 < pu_HH g (pu_s g n i j m - 10) (pu_b g n i j m) (pu_e g n i j m) ∧ pu_HH g (pu_s g n i j m - 10) (pu_b g n i j m) (pu_e g n i j m) < pu_HH g n i j) := by
  obtain ⟨c1, c2, c3, c4, c5, c6, _, _⟩ := X n i j hv h0
  have hj := hv.2.2
  have ok : pu_ok (pu_s g n i j m) := pu_okR W c1 hm
  have b : pu_b g n i j m ≤ pu_e g n i j m ∧ pu_e g n i j m ≤ gr_L g := by
    unfold pu_b pu_e
    by_cases m0 : m = 0
    · rw [if_pos m0, if_pos m0]; omega
    · rw [if_neg m0, if_neg m0]
      by_cases m1 : m = 1
      · rw [if_pos m1, if_pos m1]; omega
      · rw [if_neg m1, if_neg m1]; omega
  refine ⟨c1, ok, b.1, b.2, fun nt => ⟨xb_ntV ok nt b.1 b.2, ?_⟩⟩
  have f : pu_ps g (pu_HH g) (pu_s g n i j m) (pu_b g n i j m) (pu_e g n i j m) (pu_HH g n i j) := by
    have : m = 0 ∨ m = 1 ∨ m = 2 := by omega
    obtain rfl | rfl | rfl := this
    · exact c6.1
    · exact c6.2.1
    · exact c6.2.2
  exact (pu_ps_n nt).mp f
noncomputable def pu_pz (g : gr_G) (z : pu_C) (n i j m : Nat) : Nat := @ite _ (pu_nt (pu_s g n i j m)) (Classical.propDecidable _) (z (pu_s g n i j m - 10) (pu_b g n i j m) (pu_e g n i j m)) 0
theorem pu_pz_t {g : gr_G} {z : pu_C} {n i j m : Nat} (h : pu_nt (pu_s g n i j m)) : pu_pz g z n i j m = z (pu_s g n i j m - 10) (pu_b g n i j m) (pu_e g n i j m) := if_pos h
theorem pu_pz_f {g : gr_G} {z : pu_C} {n i j m : Nat} (h : ¬ pu_nt (pu_s g n i j m)) : pu_pz g z n i j m = 0 := if_neg h
noncomputable def pu_szf (g : gr_G) : Nat → pu_C
  | 0 => fun _ _ _ => 0
  | f + 1 => fun n i j => 1 + pu_pz g (pu_szf g f) n i j 0 + pu_pz g (pu_szf g f) n i j 1 + pu_pz g (pu_szf g f) n i j 2
noncomputable def pu_SZ (g : gr_G) : pu_C := fun n i j => pu_szf g (pu_HH g n i j) n i j
theorem pu_szf_st {g : gr_G} (W : gr_W g) (X : pu_CHX g) : ∀ f n i j, pu_V g n i j → 0 < pu_HH g n i j → pu_HH g n i j ≤ f → pu_szf g f n i j = pu_SZ g n i j := by
  intro f
  induction f using Nat.strongRecOn with
  | _ f ih =>
    intro n i j hv h0 hf
    obtain ⟨h, eh⟩ : ∃ h, pu_HH g n i j = h + 1 := ⟨pu_HH g n i j - 1, by omega⟩
    obtain ⟨f0, rfl⟩ : ∃ f0, f = f0 + 1 := ⟨f - 1, by omega⟩
    have Q : ∀ m, m < 3 → pu_pz g (pu_szf g f0) n i j m = pu_pz g (pu_szf g h) n i j m := by
      intro m hm
      by_cases c : pu_nt (pu_s g n i j m)
      · obtain ⟨v', h0', hl⟩ := (pu_part W X hv h0 hm).2.2.2.2 c
        rw [pu_pz_t c, pu_pz_t c, ih f0 (by omega) _ _ _ v' h0' (by omega), ih h (by omega) _ _ _ v' h0' (by omega)]
      · rw [pu_pz_f c, pu_pz_f c]
    unfold pu_SZ
    rw [eh]
    show 1 + pu_pz g (pu_szf g f0) n i j 0 + pu_pz g (pu_szf g f0) n i j 1 + pu_pz g (pu_szf g f0) n i j 2 = 1 + pu_pz g (pu_szf g h) n i j 0 + pu_pz g (pu_szf g h) n i j 1 + pu_pz g (pu_szf g h) n i j 2
    rw [Q 0 (by decide), Q 1 (by decide), Q 2 (by decide)]
theorem pu_SZ_eq {g : gr_G} (W : gr_W g) (X : pu_CHX g) {n i j : Nat} (hv : pu_V g n i j) (h0 : 0 < pu_HH g n i j) : pu_SZ g n i j = 1 + pu_pz g (pu_SZ g) n i j 0 + pu_pz g (pu_SZ g) n i j 1 + pu_pz g (pu_SZ g) n i j 2 := by
  obtain ⟨h, eh⟩ : ∃ h, pu_HH g n i j = h + 1 := ⟨pu_HH g n i j - 1, by omega⟩
  have Q : ∀ m, m < 3 → pu_pz g (pu_szf g h) n i j m = pu_pz g (pu_SZ g) n i j m := by
    intro m hm
    by_cases c : pu_nt (pu_s g n i j m)
    · obtain ⟨v', h0', hl⟩ := (pu_part W X hv h0 hm).2.2.2.2 c
      rw [pu_pz_t c, pu_pz_t c, pu_szf_st W X h _ _ _ v' h0' (by omega)]
    · rw [pu_pz_f c, pu_pz_f c]
  have : pu_SZ g n i j = pu_szf g (h + 1) n i j := by unfold pu_SZ; rw [eh]
  rw [this]
  show 1 + pu_pz g (pu_szf g h) n i j 0 + pu_pz g (pu_szf g h) n i j 1 + pu_pz g (pu_szf g h) n i j 2 = _
  rw [Q 0 (by decide), Q 1 (by decide), Q 2 (by decide)]
theorem pu_SZ_pos {g : gr_G} (W : gr_W g) (X : pu_CHX g) {n i j : Nat} (hv : pu_V g n i j) (h0 : 0 < pu_HH g n i j) : 0 < pu_SZ g n i j := by rw [pu_SZ_eq W X hv h0]; omega
theorem pu_SZ_pt {g : gr_G} (W : gr_W g) (X : pu_CHX g) {n i j m : Nat} (hv : pu_V g n i j) (h0 : 0 < pu_HH g n i j) (hm : m < 3) : pu_pz g (pu_SZ g) n i j m < pu_SZ g n i j := by
  rw [pu_SZ_eq W X hv h0]
  have : m = 0 ∨ m = 1 ∨ m = 2 := by omega
  obtain rfl | rfl | rfl := this <;> omega
/-! nodes -/
abbrev pu_N4 : Type := Nat × Nat × Nat × Nat
noncomputable def pu_sl (g : gr_G) (n i j : Nat) : Nat → Nat → pu_N4
  | 0, k => (n, i, j, k)
  | d + 1, k => @ite _ (pu_nt (pu_s g n i j (2 - d))) (Classical.propDecidable _) (if k < pu_SZ g (pu_s g n i j (2 - d) - 10) (pu_b g n i j (2 - d)) (pu_e g n i j (2 - d)) then (pu_s g n i j (2 - d) - 10, pu_b g n i j (2 - d), pu_e g n i j (2 - d), k) else pu_sl g n i j d (k - pu_SZ g (pu_s g n i j (2 - d) - 10) (pu_b g n i j (2 - d)) (pu_e g n i j (2 - d)))) (pu_sl g n i j d k)
noncomputable def pu_nd (g : gr_G) : Nat → Nat → Nat → Nat → Nat → Nat × Nat × Nat
  | 0, n, i, j, _ => (n, i, j)
  | f + 1, n, i, j, k => if k = 0 then (n, i, j) else pu_nd g f (pu_sl g n i j 3 (k - 1)).1 (pu_sl g n i j 3 (k - 1)).2.1 (pu_sl g n i j 3 (k - 1)).2.2.1 (pu_sl g n i j 3 (k - 1)).2.2.2
noncomputable def pu_ND (g : gr_G) (n i j k : Nat) : Nat × Nat × Nat := pu_nd g (pu_HH g n i j) n i j k
theorem pu_sl_t {g : gr_G} {n i j d k : Nat} (c : pu_nt (pu_s g n i j (2 - d))) (l : k < pu_SZ g (pu_s g n i j (2 - d) - 10) (pu_b g n i j (2 - d)) (pu_e g n i j (2 - d))) : pu_sl g n i j (d + 1) k = (pu_s g n i j (2 - d) - 10, pu_b g n i j (2 - d), pu_e g n i j (2 - d), k) := (if_pos c).trans (if_pos l)
theorem pu_sl_m {g : gr_G} {n i j d k : Nat} (c : pu_nt (pu_s g n i j (2 - d))) (l : ¬ k < pu_SZ g (pu_s g n i j (2 - d) - 10) (pu_b g n i j (2 - d)) (pu_e g n i j (2 - d))) : pu_sl g n i j (d + 1) k = pu_sl g n i j d (k - pu_SZ g (pu_s g n i j (2 - d) - 10) (pu_b g n i j (2 - d)) (pu_e g n i j (2 - d))) := (if_pos c).trans (if_neg l)
theorem pu_sl_f {g : gr_G} {n i j d k : Nat} (c : ¬ pu_nt (pu_s g n i j (2 - d))) : pu_sl g n i j (d + 1) k = pu_sl g n i j d k := if_neg c
def pu_lft (f : Nat → Nat) : Nat → Nat
  | 0 => 0
  | d + 1 => f (2 - d) + pu_lft f d
theorem pu_sl_ok {g : gr_G} {n i j : Nat} : ∀ d k, d ≤ 3 → k < pu_lft (pu_pz g (pu_SZ g) n i j) d → ∃ m, m < 3 ∧ pu_nt (pu_s g n i j m) ∧ ∃ k', k' ≤ k ∧ k' < pu_SZ g (pu_s g n i j m - 10) (pu_b g n i j m) (pu_e g n i j m) ∧ pu_sl g n i j d k = (pu_s g n i j m - 10, pu_b g n i j m, pu_e g n i j m, k') := by
  intro d
  induction d with
  | zero => intro k _ h; exact absurd h (Nat.not_lt_zero _)
  | succ d ih =>
    intro k hd h
    by_cases c : pu_nt (pu_s g n i j (2 - d))
    · have h' : k < pu_pz g (pu_SZ g) n i j (2 - d) + pu_lft (pu_pz g (pu_SZ g) n i j) d := h
      rw [pu_pz_t c] at h'
      by_cases l : k < pu_SZ g (pu_s g n i j (2 - d) - 10) (pu_b g n i j (2 - d)) (pu_e g n i j (2 - d))
      · exact ⟨2 - d, by omega, c, k, Nat.le_refl _, l, pu_sl_t c l⟩
      · obtain ⟨m, hm, c', k', hk, l', e⟩ := ih (k - pu_SZ g (pu_s g n i j (2 - d) - 10) (pu_b g n i j (2 - d)) (pu_e g n i j (2 - d))) (by omega) (by omega)
        exact ⟨m, hm, c', k', by omega, l', (pu_sl_m c l).trans e⟩
    · have h' : k < pu_pz g (pu_SZ g) n i j (2 - d) + pu_lft (pu_pz g (pu_SZ g) n i j) d := h
      rw [pu_pz_f c] at h'
      obtain ⟨m, hm, c', k', hk, l', e⟩ := ih k (by omega) (by omega)
      exact ⟨m, hm, c', k', hk, l', (pu_sl_f c).trans e⟩
theorem pu_lft3 {g : gr_G} (W : gr_W g) (X : pu_CHX g) {n i j k : Nat} (hv : pu_V g n i j) (h0 : 0 < pu_HH g n i j) (hk : 0 < k) (l : k < pu_SZ g n i j) : k - 1 < pu_lft (pu_pz g (pu_SZ g) n i j) 3 := by
  rw [pu_SZ_eq W X hv h0] at l
  show k - 1 < pu_pz g (pu_SZ g) n i j 0 + (pu_pz g (pu_SZ g) n i j 1 + (pu_pz g (pu_SZ g) n i j 2 + 0))
  omega
theorem pu_nd_st {g : gr_G} (W : gr_W g) (X : pu_CHX g) : ∀ f n i j k, pu_V g n i j → 0 < pu_HH g n i j → pu_HH g n i j ≤ f → k < pu_SZ g n i j → pu_nd g f n i j k = pu_ND g n i j k := by
  intro f
  induction f using Nat.strongRecOn with
  | _ f ih =>
    intro n i j k hv h0 hf hk
    obtain ⟨h, eh⟩ : ∃ h, pu_HH g n i j = h + 1 := ⟨pu_HH g n i j - 1, by omega⟩
    obtain ⟨f0, rfl⟩ : ∃ f0, f = f0 + 1 := ⟨f - 1, by omega⟩
    unfold pu_ND
    rw [eh]
    unfold pu_nd
    by_cases k0 : k = 0
    · rw [if_pos k0, if_pos k0]
    · rw [if_neg k0, if_neg k0]
      obtain ⟨m, hm, c, k', hk', l, e⟩ := pu_sl_ok 3 (k - 1) (by decide) (pu_lft3 W X hv h0 (by omega) hk)
      obtain ⟨v', h0', hl⟩ := (pu_part W X hv h0 hm).2.2.2.2 c
      rw [e]
      show pu_nd g f0 (pu_s g n i j m - 10) (pu_b g n i j m) (pu_e g n i j m) k' = pu_nd g h (pu_s g n i j m - 10) (pu_b g n i j m) (pu_e g n i j m) k'
      rw [ih f0 (by omega) _ _ _ _ v' h0' (by omega) l, ih h (by omega) _ _ _ _ v' h0' (by omega) l]
theorem pu_ND_0 {g : gr_G} {n i j : Nat} : pu_ND g n i j 0 = (n, i, j) := by
  unfold pu_ND
  cases pu_HH g n i j with
  | zero => rfl
  | succ h => rfl
theorem pu_ND_s {g : gr_G} (W : gr_W g) (X : pu_CHX g) {n i j k : Nat} (hv : pu_V g n i j) (h0 : 0 < pu_HH g n i j) (hk : 0 < k) (l : k < pu_SZ g n i j) : ∃ m, m < 3 ∧ pu_nt (pu_s g n i j m) ∧ ∃ k', k' < k ∧ k' < pu_SZ g (pu_s g n i j m - 10) (pu_b g n i j m) (pu_e g n i j m) ∧ pu_sl g n i j 3 (k - 1) = (pu_s g n i j m - 10, pu_b g n i j m, pu_e g n i j m, k') ∧ pu_ND g n i j k = pu_ND g (pu_s g n i j m - 10) (pu_b g n i j m) (pu_e g n i j m) k' := by
  obtain ⟨m, hm, c, k', hk', l', e⟩ := pu_sl_ok 3 (k - 1) (by decide) (pu_lft3 W X hv h0 hk l)
  obtain ⟨v', h0', hl⟩ := (pu_part W X hv h0 hm).2.2.2.2 c
  refine ⟨m, hm, c, k', by omega, l', e, ?_⟩
  obtain ⟨h, eh⟩ : ∃ h, pu_HH g n i j = h + 1 := ⟨pu_HH g n i j - 1, by omega⟩
  have : pu_ND g n i j k = pu_nd g (h + 1) n i j k := by unfold pu_ND; rw [eh]
  rw [this]
  unfold pu_nd
  rw [if_neg (by omega), e]
  exact pu_nd_st W X h (pu_s g n i j m - 10) (pu_b g n i j m) (pu_e g n i j m) k' v' h0' (by omega) l'
/-! values -/
def ev_fold (f : Int64 → Int64 → Int64) (x : Nat → Int64) : Nat → Nat → Int64 → Int64
  | 0, _, s => s
  | d + 1, m, s => ev_fold f x d (m + 1) (f s (x m))
def ev_N : Int64 := -9223372036854775808
def ev_gr (s y : Int64) : Int64 := if y ≤ s then s else y
def ev_act (op : Int32) (c : Int64) (k : Nat) (x : Nat → Int64) : Int64 :=
  if op = 1 then c + ev_fold (fun s y => s + y) x k 0 0
  else if op = 2 then ev_fold (fun s y => s * y) x k 0 c
  else if op = 3 then (if k = 0 then -c else x 0 - c - ev_fold (fun s y => s + y) x (k - 1) 1 0)
  else if op = 4 then ev_fold (fun s y => 10 * s + y) x k 0 c
  else if op = 5 then ev_fold ev_gr x k 0 c
  else if op = 6 then (if k = 0 then c else if c + ev_fold (fun s y => s + y) x (k - 1) 1 0 = 0 then ev_N else x 0 / (c + ev_fold (fun s y => s + y) x (k - 1) 1 0))
  else if op = 7 then (if k = 0 then c else if x 0 ≤ c then x 0 else x (k - 1))
  else c
def ev_bad (k : Nat) (x : Nat → Int64) : Prop := ∃ m, m < k ∧ x m = ev_N
noncomputable def ev_v (op : Int32) (c : Int64) (k : Nat) (x : Nat → Int64) : Int64 := @ite _ (ev_bad k x) (Classical.propDecidable _) ev_N (ev_act op c k x)
def pu_k (g : gr_G) (p : Nat) : Nat := if gr_R g (3 * p) = 99 then 0 else if gr_R g (3 * p + 1) = 99 then 1 else if gr_R g (3 * p + 2) = 99 then 2 else 3
abbrev pu_C6 : Type := Nat → Nat → Nat → Int64
noncomputable def pu_pv (g : gr_G) (z : pu_C6) (n i j m : Nat) : Int64 := @ite _ (m < 3 ∧ pu_nt (pu_s g n i j m)) (Classical.propDecidable _) (z (pu_s g n i j m - 10) (pu_b g n i j m) (pu_e g n i j m)) (sy_m (pu_s g n i j m)).toInt64
theorem pu_pv_t {g : gr_G} {z : pu_C6} {n i j m : Nat} (hm : m < 3) (h : pu_nt (pu_s g n i j m)) : pu_pv g z n i j m = z (pu_s g n i j m - 10) (pu_b g n i j m) (pu_e g n i j m) := if_pos ⟨hm, h⟩
theorem pu_pv_f {g : gr_G} {z : pu_C6} {n i j m : Nat} (h : ¬ (m < 3 ∧ pu_nt (pu_s g n i j m))) : pu_pv g z n i j m = (sy_m (pu_s g n i j m)).toInt64 := if_neg h
noncomputable def pu_vlf (g : gr_G) (ops cs : Nat → Int32) : Nat → pu_C6
  | 0 => fun _ _ _ => ev_N
  | f + 1 => fun n i j => ev_v (ops (pu_cp g n i j)) (cs (pu_cp g n i j)).toInt64 (pu_k g (pu_cp g n i j)) (pu_pv g (pu_vlf g ops cs f) n i j)
noncomputable def pu_VL (g : gr_G) (ops cs : Nat → Int32) : pu_C6 := fun n i j => pu_vlf g ops cs (pu_HH g n i j) n i j
theorem pu_vlf_st {g : gr_G} {ops cs : Nat → Int32} (W : gr_W g) (X : pu_CHX g) : ∀ f n i j, pu_V g n i j → 0 < pu_HH g n i j → pu_HH g n i j ≤ f → pu_vlf g ops cs f n i j = pu_VL g ops cs n i j := by
  intro f
  induction f using Nat.strongRecOn with
  | _ f ih =>
    intro n i j hv h0 hf
    obtain ⟨h, eh⟩ : ∃ h, pu_HH g n i j = h + 1 := ⟨pu_HH g n i j - 1, by omega⟩
    obtain ⟨f0, rfl⟩ : ∃ f0, f = f0 + 1 := ⟨f - 1, by omega⟩
    have Q : pu_pv g (pu_vlf g ops cs f0) n i j = pu_pv g (pu_vlf g ops cs h) n i j := by
      funext m
      by_cases c : m < 3 ∧ pu_nt (pu_s g n i j m)
      · obtain ⟨v', h0', hl⟩ := (pu_part W X hv h0 c.1).2.2.2.2 c.2
        rw [pu_pv_t c.1 c.2, pu_pv_t c.1 c.2, ih f0 (by omega) _ _ _ v' h0' (by omega), ih h (by omega) _ _ _ v' h0' (by omega)]
      · rw [pu_pv_f c, pu_pv_f c]
    unfold pu_VL
    rw [eh]
    unfold pu_vlf
    rw [Q]
theorem pu_VL_eq {g : gr_G} {ops cs : Nat → Int32} (W : gr_W g) (X : pu_CHX g) {n i j : Nat} (hv : pu_V g n i j) (h0 : 0 < pu_HH g n i j) : pu_VL g ops cs n i j = ev_v (ops (pu_cp g n i j)) (cs (pu_cp g n i j)).toInt64 (pu_k g (pu_cp g n i j)) (pu_pv g (pu_VL g ops cs) n i j) := by
  obtain ⟨h, eh⟩ : ∃ h, pu_HH g n i j = h + 1 := ⟨pu_HH g n i j - 1, by omega⟩
  have Q : pu_pv g (pu_vlf g ops cs h) n i j = pu_pv g (pu_VL g ops cs) n i j := by
    funext m
    by_cases c : m < 3 ∧ pu_nt (pu_s g n i j m)
    · obtain ⟨v', h0', hl⟩ := (pu_part W X hv h0 c.1).2.2.2.2 c.2
      rw [pu_pv_t c.1 c.2, pu_pv_t c.1 c.2, pu_vlf_st W X h _ _ _ v' h0' (by omega)]
    · rw [pu_pv_f c, pu_pv_f c]
  have : pu_VL g ops cs n i j = pu_vlf g ops cs (h + 1) n i j := by unfold pu_VL; rw [eh]
  rw [this, ← Q]; rfl
theorem pu_VL_0 {g : gr_G} {ops cs : Nat → Int32} {n i j : Nat} (h0 : pu_HH g n i j = 0) : pu_VL g ops cs n i j = ev_N := by
  unfold pu_VL; rw [h0]; rfl
