/-! counting, sums -/
def pu_cnt (f : Nat → Bool) : Nat → Nat
  | 0 => 0
  | n + 1 => pu_cnt f n + (if f n = true then 1 else 0)
theorem pu_cnt_le (f : Nat → Bool) : ∀ n, pu_cnt f n ≤ n
  | 0 => Nat.le_refl 0
  | n + 1 => by have := pu_cnt_le f n; unfold pu_cnt; split <;> omega
theorem pu_cnt_mono {f h : Nat → Bool} : ∀ {n : Nat}, (∀ x, x < n → f x = true → h x = true) → pu_cnt f n ≤ pu_cnt h n
  | 0, _ => Nat.le_refl 0
  | n + 1, H => by
    have a := pu_cnt_mono (f := f) (h := h) (n := n) (fun x hx => H x (by omega))
    have b := H n (by omega)
    unfold pu_cnt
    by_cases c : f n = true
    · rw [if_pos c, if_pos (b c)]; omega
    · rw [if_neg c]; split <;> omega
theorem pu_cnt_lt {f h : Nat → Bool} {x0 : Nat} (hf : f x0 = false) (hh : h x0 = true) : ∀ {n : Nat}, (∀ x, x < n → f x = true → h x = true) → x0 < n → pu_cnt f n < pu_cnt h n
  | 0, _, hx => absurd hx (Nat.not_lt_zero _)
  | n + 1, H, hx => by
    have b := H n (by omega)
    by_cases e : x0 = n
    · have a := pu_cnt_mono (f := f) (h := h) (n := n) (fun x hx => H x (by omega))
      unfold pu_cnt
      rw [e] at hf hh
      rw [hf, if_neg (by decide), if_pos hh]; omega
    · have a := pu_cnt_lt hf hh (n := n) (fun x hx => H x (by omega)) (by omega)
      unfold pu_cnt
      by_cases c : f n = true
      · rw [if_pos c, if_pos (b c)]; omega
      · rw [if_neg c]; split <;> omega
theorem pu_cnt_free {f : Nat → Bool} {n x : Nat} (hx : x < n) (h : f x = false) : pu_cnt f n < n :=
  Nat.lt_of_lt_of_le (pu_cnt_lt (h := fun _ => true) h rfl (fun _ _ _ => rfl) hx) (pu_cnt_le _ _)
theorem pu_cnt_full {f : Nat → Bool} {n x : Nat} (h : n ≤ pu_cnt f n) (hx : x < n) : f x = true := by
  by_cases c : f x = true
  · exact c
  · have := pu_cnt_free hx (Bool.eq_false_iff.mpr c); omega
theorem pu_cnt_zero {f : Nat → Bool} {n x : Nat} (h : pu_cnt f n = 0) (hx : x < n) : f x = false := by
  by_cases c : f x = true
  · have := pu_cnt_lt (f := fun _ => false) (h := f) (x0 := x) rfl c (n := n) (fun _ _ z => absurd z (by decide)) hx; omega
  · exact Bool.eq_false_iff.mpr c
theorem pu_cnt_add1 {f h : Nat → Bool} {x0 : Nat} (hf : f x0 = false) (hh : h x0 = true) : ∀ {n : Nat}, (∀ x, x < n → x ≠ x0 → f x = h x) → x0 < n → pu_cnt h n = pu_cnt f n + 1
  | 0, _, hx => absurd hx (Nat.not_lt_zero _)
  | n + 1, H, hx => by
    by_cases e : x0 = n
    · have a := pu_cnt_mono (f := f) (h := h) (n := n) (fun x hx z => by rw [← H x (by omega) (by omega)]; exact z)
      have b := pu_cnt_mono (f := h) (h := f) (n := n) (fun x hx z => by rw [H x (by omega) (by omega)]; exact z)
      unfold pu_cnt
      rw [e] at hf hh
      rw [hf, hh]; simp; omega
    · have a := pu_cnt_add1 hf hh (n := n) (fun x hx => H x (by omega)) (by omega)
      unfold pu_cnt
      rw [H n (by omega) (by omega), a]; omega
def pu_sum (f : Nat → Nat) : Nat → Nat
  | 0 => 0
  | n + 1 => pu_sum f n + f n
theorem pu_sum_congr {f h : Nat → Nat} : ∀ {n : Nat}, (∀ x, x < n → f x = h x) → pu_sum f n = pu_sum h n
  | 0, _ => rfl
  | n + 1, H => by
    unfold pu_sum
    rw [pu_sum_congr (fun x hx => H x (by omega)), H n (by omega)]
theorem pu_sum_zero {f : Nat → Nat} : ∀ {n : Nat}, (∀ x, x < n → f x = 0) → pu_sum f n = 0
  | 0, _ => rfl
  | n + 1, H => by
    unfold pu_sum
    rw [pu_sum_zero (fun x hx => H x (by omega)), H n (by omega)]
theorem pu_sum_lt {f h : Nat → Nat} {x0 : Nat} (hf : f x0 < h x0) : ∀ {n : Nat}, (∀ x, x < n → f x ≤ h x) → x0 < n → pu_sum f n < pu_sum h n
  | 0, _, hx => absurd hx (Nat.not_lt_zero _)
  | n + 1, H, hx => by
    have b := H n (by omega)
    unfold pu_sum
    by_cases e : x0 = n
    · have : ∀ m, m ≤ n → pu_sum f m ≤ pu_sum h m := by
        intro m
        induction m with
        | zero => intro _; exact Nat.le_refl 0
        | succ m ih => intro hm; have := H m (by omega); have := ih (by omega); unfold pu_sum; omega
      have := this n (Nat.le_refl n)
      rw [e] at hf; omega
    · have a := pu_sum_lt hf (n := n) (fun x hx => H x (by omega)) (by omega)
      omega
/-! the grammar and the text -/
abbrev gr_G : Type := Nat × Nat × (Nat → Nat) × (Nat → Nat) × (Nat → Nat)
def gr_P (g : gr_G) : Nat := g.1
def gr_L (g : gr_G) : Nat := g.2.1
def gr_F (g : gr_G) : Nat → Nat := g.2.2.1
def gr_R (g : gr_G) : Nat → Nat := g.2.2.2.1
def gr_T (g : gr_G) : Nat → Nat := g.2.2.2.2
def pu_ok (s : Nat) : Prop := s < 6 ∨ (10 ≤ s ∧ s < 15) ∨ s = 99
def gr_W (g : gr_G) : Prop := gr_P g ≤ 12 ∧ gr_L g ≤ 10 ∧ (∀ p, p < gr_P g → gr_F g p < 5) ∧ (∀ k, k < 3 * gr_P g → pu_ok (gr_R g k)) ∧ (∀ p, p < gr_P g → (gr_R g (3 * p) = 99 → gr_R g (3 * p + 1) = 99) ∧ (gr_R g (3 * p + 1) = 99 → gr_R g (3 * p + 2) = 99)) ∧ (∀ i, i < gr_L g → gr_T g i < 6)
abbrev pu_C : Type := Nat → Nat → Nat → Nat
def pu_V (g : gr_G) (n i j : Nat) : Prop := n < 5 ∧ i ≤ j ∧ j ≤ gr_L g
def pu_ps (g : gr_G) (H : pu_C) (s i j h : Nat) : Prop := if s = 99 then i = j else if s < 10 then (j = i + 1 ∧ gr_T g i = s) else (0 < H (s - 10) i j ∧ H (s - 10) i j < h)
def pu_F (g : gr_G) (H : pu_C) (p i u v j h : Nat) : Prop := pu_ps g H (gr_R g (3 * p)) i u h ∧ pu_ps g H (gr_R g (3 * p + 1)) u v h ∧ pu_ps g H (gr_R g (3 * p + 2)) v j h
def pu_HT (g : gr_G) (H : pu_C) (n i j h : Nat) : Prop := 0 < h ∧ ∃ p u v, p < gr_P g ∧ gr_F g p = n ∧ i ≤ u ∧ u ≤ v ∧ v ≤ j ∧ pu_F g H p i u v j h
def pu_HS (g : gr_G) (H : pu_C) : Prop := ∀ n i j, pu_V g n i j → (H n i j = 0 → ∀ h, ¬ pu_HT g H n i j h) ∧ (∀ h, H n i j = h + 1 → pu_HT g H n i j (h + 1) ∧ ¬ pu_HT g H n i j h) ∧ H n i j ≤ 605
def pu_ag (g : gr_G) (H H' : pu_C) (h : Nat) : Prop := ∀ n i j, pu_V g n i j → ∀ k, 0 < k → k < h → (H n i j = k ↔ H' n i j = k)
section
variable {g : gr_G} {H H' : pu_C}
theorem pu_ag_eq (e : ∀ n i j, pu_V g n i j → H n i j = H' n i j) (h : Nat) : pu_ag g H H' h := fun n i j hv k _ _ => by rw [e n i j hv]
theorem pu_ag_sy {h : Nat} (A : pu_ag g H H' h) : pu_ag g H' H h := fun n i j hv k a b => (A n i j hv k a b).symm
theorem pu_ag_le {h h' : Nat} (A : pu_ag g H H' h) (l : h' ≤ h) : pu_ag g H H' h' := fun n i j hv k a b => A n i j hv k a (by omega)
theorem pu_ps_im {h s i j : Nat} (A : pu_ag g H H' h) (hs : pu_ok s) (hij : i ≤ j) (hj : j ≤ gr_L g) (p : pu_ps g H s i j h) : pu_ps g H' s i j h := by
  unfold pu_ps at *
  by_cases h99 : s = 99
  · rw [if_pos h99] at *; exact p
  · rw [if_neg h99] at *
    by_cases h10 : s < 10
    · rw [if_pos h10] at *; exact p
    · rw [if_neg h10] at *
      have hv : pu_V g (s - 10) i j := ⟨by unfold pu_ok at hs; omega, hij, hj⟩
      have := (A _ _ _ hv _ p.1 p.2).mp rfl
      rw [this]; exact p
theorem pu_okR (W : gr_W g) {p m : Nat} (hp : p < gr_P g) (hm : m < 3) : pu_ok (gr_R g (3 * p + m)) := W.2.2.2.1 _ (by omega)
theorem pu_okR0 (W : gr_W g) {p : Nat} (hp : p < gr_P g) : pu_ok (gr_R g (3 * p)) := W.2.2.2.1 _ (by omega)
theorem pu_F_im (W : gr_W g) {h p i u v j : Nat} (A : pu_ag g H H' h) (hp : p < gr_P g) (hu : i ≤ u) (hv : u ≤ v) (hj : v ≤ j) (hL : j ≤ gr_L g) (f : pu_F g H p i u v j h) : pu_F g H' p i u v j h :=
  ⟨pu_ps_im A (pu_okR0 W hp) hu (by omega) f.1, pu_ps_im A (pu_okR W hp (by decide)) hv (by omega) f.2.1, pu_ps_im A (pu_okR W hp (by decide)) hj hL f.2.2⟩
theorem pu_HT_im (W : gr_W g) {h n i j : Nat} (A : pu_ag g H H' h) (hL : j ≤ gr_L g) (f : pu_HT g H n i j h) : pu_HT g H' n i j h := by
  obtain ⟨h0, p, u, v, hp, hn, a, b, c, f⟩ := f
  exact ⟨h0, p, u, v, hp, hn, a, b, c, pu_F_im W A hp a b c hL f⟩
theorem pu_ps_mono {h h' s i j : Nat} (l : h ≤ h') (p : pu_ps g H s i j h) : pu_ps g H s i j h' := by
  unfold pu_ps at *
  by_cases h99 : s = 99
  · rw [if_pos h99] at *; exact p
  · rw [if_neg h99] at *
    by_cases h10 : s < 10
    · rw [if_pos h10] at *; exact p
    · rw [if_neg h10] at *; omega
theorem pu_F_mono {h h' p i u v j : Nat} (l : h ≤ h') (f : pu_F g H p i u v j h) : pu_F g H p i u v j h' := ⟨pu_ps_mono l f.1, pu_ps_mono l f.2.1, pu_ps_mono l f.2.2⟩
theorem pu_HT_mono {h h' n i j : Nat} (l : h ≤ h') (f : pu_HT g H n i j h) : pu_HT g H n i j h' := by
  obtain ⟨h0, p, u, v, hp, hn, a, b, c, f⟩ := f
  exact ⟨by omega, p, u, v, hp, hn, a, b, c, pu_F_mono l f⟩
theorem pu_HS_1 (W : gr_W g) (S : pu_HS g H) (S' : pu_HS g H') {m : Nat} (A : pu_ag g H H' (m + 1)) {n i j : Nat} (hv : pu_V g n i j) (e : H n i j = m + 1) : H' n i j = m + 1 := by
  have hL := hv.2.2
  have a := (S n i j hv).2.1 m e
  have a1 := pu_HT_im W A hL a.1
  have a2 : ¬ pu_HT g H' n i j m := fun z => a.2 (pu_HT_im W (pu_ag_sy (pu_ag_le A (Nat.le_succ m))) hL z)
  have b := S' n i j hv
  cases hc : H' n i j with
  | zero => exact absurd a1 (b.1 hc _)
  | succ k =>
    have c := b.2.1 k hc
    by_cases h1 : k < m
    · exact absurd (pu_HT_mono h1 c.1) a2
    · by_cases h2 : m < k
      · exact absurd (pu_HT_mono h2 a1) c.2
      · omega
theorem pu_HS_ag (W : gr_W g) (S : pu_HS g H) (S' : pu_HS g H') : ∀ h, pu_ag g H H' h := by
  intro h
  induction h with
  | zero => exact fun n i j hv k a b => absurd b (Nat.not_lt_zero _)
  | succ h ih =>
    intro n i j hv k a b
    by_cases c : k < h
    · exact ih n i j hv k a c
    · obtain ⟨m, rfl⟩ : ∃ m, h = m + 1 := ⟨h - 1, by omega⟩
      have e : k = m + 1 := by omega
      rw [e]
      exact ⟨fun z => pu_HS_1 W S S' ih hv z, fun z => pu_HS_1 W S' S (pu_ag_sy ih) hv z⟩
theorem pu_HS_eq (W : gr_W g) (S : pu_HS g H) (S' : pu_HS g H') {n i j : Nat} (hv : pu_V g n i j) : H n i j = H' n i j := by
  by_cases c : H n i j = 0
  · by_cases d : H' n i j = 0
    · omega
    · exact (pu_HS_ag W S S' (H' n i j + 1) n i j hv (H' n i j) (by omega) (by omega)).mpr rfl
  · exact ((pu_HS_ag W S S' (H n i j + 1) n i j hv (H n i j) (by omega) (by omega)).mp rfl).symm
end
noncomputable def pu_HH (g : gr_G) : pu_C := Classical.epsilon (pu_HS g)
theorem pu_HH_s {g : gr_G} {H : pu_C} (S : pu_HS g H) : pu_HS g (pu_HH g) := Classical.epsilon_spec (p := pu_HS g) ⟨H, S⟩
theorem pu_HH_e {g : gr_G} {H : pu_C} (W : gr_W g) (S : pu_HS g H) {n i j : Nat} (hv : pu_V g n i j) : H n i j = pu_HH g n i j := pu_HS_eq W S (pu_HH_s S) hv
/-! the chosen tree -/
def pu_Ch (g : gr_G) (H : pu_C) (n i j p u v : Nat) : Prop := p < gr_P g ∧ gr_F g p = n ∧ i ≤ u ∧ u ≤ v ∧ v ≤ j ∧ pu_F g H p i u v j (H n i j) ∧ (∀ p' u' v', p' < p → gr_F g p' = n → i ≤ u' → u' ≤ v' → v' ≤ j → ¬ pu_F g H p' i u' v' j (H n i j)) ∧ (∀ u' v', i ≤ u' → u' ≤ v' → v' ≤ j → (u < u' ∨ (u = u' ∧ v < v')) → ¬ pu_F g H p i u' v' j (H n i j))
theorem pu_Ch_u {g : gr_G} {H : pu_C} {n i j p u v p' u' v' : Nat} (a : pu_Ch g H n i j p u v) (b : pu_Ch g H n i j p' u' v') : p = p' ∧ u = u' ∧ v = v' := by
  obtain ⟨a1, a2, a3, a4, a5, a6, a7, a8⟩ := a
  obtain ⟨b1, b2, b3, b4, b5, b6, b7, b8⟩ := b
  have e : p = p' := by
    by_cases h : p < p'
    · exact absurd a6 (b7 p u v h a2 a3 a4 a5)
    · by_cases h' : p' < p
      · exact absurd b6 (a7 p' u' v' h' b2 b3 b4 b5)
      · omega
  subst e
  by_cases h : u < u' ∨ (u = u' ∧ v < v')
  · exact absurd b6 (a8 u' v' b3 b4 b5 h)
  · by_cases h' : u' < u ∨ (u' = u ∧ v' < v)
    · exact absurd a6 (b8 u v a3 a4 a5 h')
    · omega
theorem pu_Ch_ag {g : gr_G} {H H' : pu_C} (W : gr_W g) {n i j p u v : Nat} (hj : j ≤ gr_L g) (e : H n i j = H' n i j) (A : pu_ag g H H' (H n i j)) (a : pu_Ch g H n i j p u v) : pu_Ch g H' n i j p u v := by
  obtain ⟨a1, a2, a3, a4, a5, a6, a7, a8⟩ := a
  refine ⟨a1, a2, a3, a4, a5, ?_, ?_, ?_⟩
  · rw [← e]; exact pu_F_im W A a1 a3 a4 a5 hj a6
  · intro p' u' v' h1 h2 h3 h4 h5 h6
    rw [← e] at h6
    exact a7 p' u' v' h1 h2 h3 h4 h5 (pu_F_im W (pu_ag_sy A) (by omega) h3 h4 h5 hj h6)
  · intro u' v' h3 h4 h5 h7 h6
    rw [← e] at h6
    exact a8 u' v' h3 h4 h5 h7 (pu_F_im W (pu_ag_sy A) a1 h3 h4 h5 hj h6)
noncomputable def pu_ch (g : gr_G) (n i j : Nat) : Nat × Nat × Nat := Classical.epsilon (fun x => pu_Ch g (pu_HH g) n i j x.1 x.2.1 x.2.2)
theorem pu_ch_s {g : gr_G} {n i j p u v : Nat} (a : pu_Ch g (pu_HH g) n i j p u v) : pu_ch g n i j = (p, u, v) := by
  have s := Classical.epsilon_spec (p := fun x : Nat × Nat × Nat => pu_Ch g (pu_HH g) n i j x.1 x.2.1 x.2.2) ⟨(p, u, v), a⟩
  have e := pu_Ch_u s a
  exact Prod.ext e.1 (Prod.ext e.2.1 e.2.2)
