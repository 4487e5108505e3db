/-! how many trees: pure -/
def pu_cap (x : Nat) : Nat := if x < 1000000000 then x else 1000000000
theorem pu_cap_le (x : Nat) : pu_cap x ≤ 1000000000 := by unfold pu_cap; split <;> omega
theorem pu_cap_add (a b : Nat) : pu_cap (pu_cap a + b) = pu_cap (a + b) := by unfold pu_cap; (repeat' split) <;> omega
theorem pu_cap_add2 (a b : Nat) : pu_cap (pu_cap a + pu_cap b) = pu_cap (a + b) := by
  rw [pu_cap_add, Nat.add_comm, pu_cap_add, Nat.add_comm]
theorem pu_cap_pos {a : Nat} (h : 0 < a) : 0 < pu_cap a := by unfold pu_cap; split <;> omega
def pu_pt (f : pu_C) (s i j : Nat) : Nat := if 10 ≤ s ∧ s < 99 then f (s - 10) i j else 1
def pu_tm (g : gr_G) (f : pu_C) (p i u v j : Nat) : Nat := pu_cap (pu_cap (pu_pt f (gr_R g (3 * p)) i u * pu_pt f (gr_R g (3 * p + 1)) u v) * pu_pt f (gr_R g (3 * p + 2)) v j)
def pu_G (g : gr_G) (p i u v j : Nat) : Prop := pu_F g (pu_HH g) p i u v j 1000
noncomputable def pu_tF (g : gr_G) (f : pu_C) (p i u v j : Nat) : Nat := @ite _ (pu_G g p i u v j) (Classical.propDecidable _) (pu_tm g f p i u v j) 0
theorem pu_tF_t {g : gr_G} {f : pu_C} {p i u v j : Nat} (h : pu_G g p i u v j) : pu_tF g f p i u v j = pu_tm g f p i u v j := if_pos h
theorem pu_tF_f {g : gr_G} {f : pu_C} {p i u v j : Nat} (h : ¬ pu_G g p i u v j) : pu_tF g f p i u v j = 0 := if_neg h
noncomputable def pu_s1 (g : gr_G) (f : pu_C) (p i u j : Nat) : Nat → Nat := pu_sum (fun v => if u ≤ v then pu_tF g f p i u v j else 0)
noncomputable def pu_s2 (g : gr_G) (f : pu_C) (p i j : Nat) : Nat → Nat := pu_sum (fun u => if i ≤ u then pu_s1 g f p i u j (j + 1) else 0)
noncomputable def pu_s3 (g : gr_G) (f : pu_C) (n i j : Nat) : Nat → Nat := pu_sum (fun p => if gr_F g p = n then pu_s2 g f p i j (j + 1) else 0)
def pu_cd (S : Nat → Nat → Nat → Prop) (s i j : Nat) : Prop := 10 ≤ s ∧ s < 99 → S (s - 10) i j
def pu_c3 (g : gr_G) (S : Nat → Nat → Nat → Prop) (p i u v j : Nat) : Prop := pu_cd S (gr_R g (3 * p)) i u ∧ pu_cd S (gr_R g (3 * p + 1)) u v ∧ pu_cd S (gr_R g (3 * p + 2)) v j
def pu_al (g : gr_G) (S : Nat → Nat → Nat → Prop) (n i j : Nat) : Prop := ∀ p u v, p < gr_P g → gr_F g p = n → i ≤ u → u ≤ v → v ≤ j → pu_G g p i u v j → pu_c3 g S p i u v j
def pu_ps' (f : pu_C) : Nat → Nat → Nat → Prop := fun n i j => 0 < f n i j
def pu_ccl (g : gr_G) (S : Nat → Nat → Nat → Prop) : Prop := ∀ n i j, pu_V g n i j → 0 < pu_HH g n i j → pu_al g S n i j → S n i j
/-- what holds at any time -/
def pu_CI (g : gr_G) (f : pu_C) : Prop := (∀ n i j, pu_V g n i j → pu_HH g n i j = 0 → f n i j = 0) ∧ (∀ n i j, pu_V g n i j → 0 < f n i j → pu_al g (pu_ps' f) n i j ∧ f n i j = pu_cap (pu_s3 g f n i j (gr_P g))) ∧ (∀ S, pu_ccl g S → ∀ n i j, pu_V g n i j → 0 < f n i j → S n i j)
def pu_CS (g : gr_G) (f : pu_C) : Prop := pu_CI g f ∧ pu_ccl g (pu_ps' f)
theorem pu_sum_ge {f : Nat → Nat} {x : Nat} : ∀ {n : Nat}, x < n → f x ≤ pu_sum f n
  | 0, h => absurd h (Nat.not_lt_zero _)
  | n + 1, h => by
    unfold pu_sum
    by_cases c : x = n
    · rw [c]; omega
    · have := pu_sum_ge (f := f) (x := x) (n := n) (by omega); omega
section
variable {g : gr_G} {f f' : pu_C}
theorem pu_pt_pos {s i j : Nat} : 0 < pu_pt f s i j ↔ pu_cd (pu_ps' f) s i j := by
  unfold pu_pt pu_cd pu_ps'
  by_cases c : 10 ≤ s ∧ s < 99
  · rw [if_pos c]; exact ⟨fun h _ => h, fun h => h c⟩
  · rw [if_neg c]; exact ⟨fun h z => absurd z c, fun h => by omega⟩
theorem pu_tm_pos {p i u v j : Nat} (h : pu_c3 g (pu_ps' f) p i u v j) : 0 < pu_tm g f p i u v j :=
  pu_cap_pos (Nat.mul_pos (pu_cap_pos (Nat.mul_pos (pu_pt_pos.mpr h.1) (pu_pt_pos.mpr h.2.1))) (pu_pt_pos.mpr h.2.2))
theorem pu_s3_pos {n i j p u v : Nat} (hp : p < gr_P g) (hn : gr_F g p = n) (h1 : i ≤ u) (h2 : u ≤ v) (h3 : v ≤ j) (G : pu_G g p i u v j) (h : pu_c3 g (pu_ps' f) p i u v j) : 0 < pu_s3 g f n i j (gr_P g) := by
  have a1 : 0 < pu_s1 g f p i u j (j + 1) := by
    refine Nat.lt_of_lt_of_le ?_ (pu_sum_ge (x := v) (by omega))
    show 0 < if u ≤ v then pu_tF g f p i u v j else 0
    rw [if_pos h2, pu_tF_t G]; exact pu_tm_pos h
  have a2 : 0 < pu_s2 g f p i j (j + 1) := by
    refine Nat.lt_of_lt_of_le ?_ (pu_sum_ge (x := u) (by omega))
    show 0 < if i ≤ u then pu_s1 g f p i u j (j + 1) else 0
    rw [if_pos h1]; exact a1
  refine Nat.lt_of_lt_of_le ?_ (pu_sum_ge (x := p) hp)
  show 0 < if gr_F g p = n then pu_s2 g f p i j (j + 1) else 0
  rw [if_pos hn]; exact a2
def pu_ex (g : gr_G) (f f' : pu_C) : Prop := ∀ n i j, pu_V g n i j → 0 < f n i j → f' n i j = f n i j
theorem pu_cd_ex (E : pu_ex g f f') {s i j : Nat} (ok : pu_ok s) (hij : i ≤ j) (hj : j ≤ gr_L g) (h : pu_cd (pu_ps' f) s i j) : pu_cd (pu_ps' f') s i j ∧ pu_pt f' s i j = pu_pt f s i j := by
  by_cases c : 10 ≤ s ∧ s < 99
  · have := E _ _ _ (xb_ntV ok c hij hj) (h c)
    have h' : 0 < f (s - 10) i j := h c
    refine ⟨fun _ => ?_, ?_⟩
    · show 0 < f' (s - 10) i j
      omega
    · unfold pu_pt; rw [if_pos c, if_pos c]; exact this
  · exact ⟨fun z => absurd z c, by unfold pu_pt; rw [if_neg c, if_neg c]⟩
theorem pu_c3_ex (W : gr_W g) (E : pu_ex g f f') {p i u v j : Nat} (hp : p < gr_P g) (h1 : i ≤ u) (h2 : u ≤ v) (h3 : v ≤ j) (hj : j ≤ gr_L g) (h : pu_c3 g (pu_ps' f) p i u v j) : pu_c3 g (pu_ps' f') p i u v j ∧ pu_tm g f' p i u v j = pu_tm g f p i u v j := by
  have a := pu_cd_ex E (pu_okR0 W hp) h1 (by omega) h.1
  have b := pu_cd_ex E (pu_okR W hp (by decide)) h2 (by omega) h.2.1
  have c := pu_cd_ex E (pu_okR W hp (by decide)) h3 (by omega) h.2.2
  refine ⟨⟨a.1, b.1, c.1⟩, ?_⟩
  unfold pu_tm; rw [a.2, b.2, c.2]
theorem pu_al_ex (W : gr_W g) (E : pu_ex g f f') {n i j : Nat} (hj : j ≤ gr_L g) (h : pu_al g (pu_ps' f) n i j) : pu_al g (pu_ps' f') n i j ∧ pu_s3 g f' n i j (gr_P g) = pu_s3 g f n i j (gr_P g) := by
  refine ⟨fun p u v hp hn h1 h2 h3 G => (pu_c3_ex W E hp h1 h2 h3 hj (h p u v hp hn h1 h2 h3 G)).1, ?_⟩
  refine pu_sum_congr (fun p hp => ?_)
  by_cases hn : gr_F g p = n
  · rw [if_pos hn, if_pos hn]
    refine pu_sum_congr (fun u hu => ?_)
    by_cases h1 : i ≤ u
    · rw [if_pos h1, if_pos h1]
      refine pu_sum_congr (fun v hv => ?_)
      by_cases h2 : u ≤ v
      · rw [if_pos h2, if_pos h2]
        by_cases G : pu_G g p i u v j
        · rw [pu_tF_t G, pu_tF_t G]
          exact (pu_c3_ex W E hp h1 h2 (by omega) hj (h p u v hp hn h1 h2 (by omega) G)).2
        · rw [pu_tF_f G, pu_tF_f G]
      · rw [if_neg h2, if_neg h2]
    · rw [if_neg h1, if_neg h1]
  · rw [if_neg hn, if_neg hn]
theorem pu_CS_1 (W : gr_W g) (a : pu_CS g f) (b : pu_CS g f') {n i j : Nat} (hv : pu_V g n i j) (h : 0 < f n i j) : f n i j = f' n i j := by
  refine (a.1.2.2 (fun n i j => pu_V g n i j → (0 < f n i j ∧ f n i j = f' n i j)) ?_ n i j hv h hv).2
  intro n i j hv h0 al hv'
  have E : pu_ex g (fun n i j => if f n i j = f' n i j then f n i j else 0) f := by
    intro n i j _ h
    by_cases c : f n i j = f' n i j
    · exact (if_pos c).symm
    · have h2 : 0 < if f n i j = f' n i j then f n i j else 0 := h
      rw [if_neg c] at h2; omega
  have E' : pu_ex g (fun n i j => if f n i j = f' n i j then f n i j else 0) f' := by
    intro n i j _ h
    by_cases c : f n i j = f' n i j
    · exact (c.symm.trans (if_pos c).symm)
    · have h2 : 0 < if f n i j = f' n i j then f n i j else 0 := h
      rw [if_neg c] at h2; omega
  have al2 : pu_al g (pu_ps' (fun n i j => if f n i j = f' n i j then f n i j else 0)) n i j := by
    intro p u v hp hn h1 h2 h3 G
    have z := al p u v hp hn h1 h2 h3 G
    have hL := hv.2.2
    have Q : ∀ {s x y : Nat}, pu_ok s → x ≤ y → y ≤ gr_L g → pu_cd (fun n i j => pu_V g n i j → (0 < f n i j ∧ f n i j = f' n i j)) s x y → pu_cd (pu_ps' (fun n i j => if f n i j = f' n i j then f n i j else 0)) s x y := by
      intro s x y ok hxy hy d c
      have e := d c (xb_ntV ok c hxy hy)
      show 0 < if f (s - 10) x y = f' (s - 10) x y then f (s - 10) x y else 0
      rw [if_pos e.2]; exact e.1
    exact ⟨Q (pu_okR0 W hp) h1 (by omega) z.1, Q (pu_okR W hp (by decide)) h2 (by omega) z.2.1, Q (pu_okR W hp (by decide)) h3 (by omega) z.2.2⟩
  have q := pu_al_ex W E hv.2.2 al2
  have q' := pu_al_ex W E' hv.2.2 al2
  have p1 : 0 < f n i j := a.2 n i j hv h0 q.1
  have p2 : 0 < f' n i j := b.2 n i j hv h0 q'.1
  refine ⟨p1, ?_⟩
  rw [(a.1.2.1 n i j hv p1).2, (b.1.2.1 n i j hv p2).2, q.2, q'.2]
theorem pu_CS_eq (W : gr_W g) (a : pu_CS g f) (b : pu_CS g f') {n i j : Nat} (hv : pu_V g n i j) : f n i j = f' n i j := by
  by_cases h : 0 < f n i j
  · exact pu_CS_1 W a b hv h
  · by_cases h' : 0 < f' n i j
    · exact (pu_CS_1 W b a hv h').symm
    · omega
/-- one more cell is counted -/
theorem pu_CI_up (W : gr_W g) (I : pu_CI g f) {n i j : Nat} (hv : pu_V g n i j) (h0 : 0 < pu_HH g n i j) (f0 : f n i j = 0) (al : pu_al g (pu_ps' f) n i j) : pu_CI g (up3 f n i j (pu_cap (pu_s3 g f n i j (gr_P g)))) ∧ pu_ex g f (up3 f n i j (pu_cap (pu_s3 g f n i j (gr_P g)))) := by
  have E : pu_ex g f (up3 f n i j (pu_cap (pu_s3 g f n i j (gr_P g)))) := by
    intro a b c _ h
    exact up3_n (fun z => by obtain ⟨rfl, rfl, rfl⟩ := z; omega)
  refine ⟨⟨fun a b c hv' e => ?_, fun a b c hv' h => ?_, fun S cl a b c hv' h => ?_⟩, E⟩
  · rw [up3_n (fun z => by obtain ⟨rfl, rfl, rfl⟩ := z; omega)]; exact I.1 a b c hv' e
  · by_cases z : a = n ∧ b = i ∧ c = j
    · obtain ⟨rfl, rfl, rfl⟩ := z
      have q := pu_al_ex W E hv'.2.2 al
      rw [q.2]
      exact ⟨q.1, up3_s⟩
    · rw [up3_n z] at h
      have w := I.2.1 a b c hv' h
      have q := pu_al_ex W E hv'.2.2 w.1
      rw [q.2, up3_n z]
      exact ⟨q.1, w.2⟩
  · by_cases z : a = n ∧ b = i ∧ c = j
    · obtain ⟨rfl, rfl, rfl⟩ := z
      refine cl _ _ _ hv' h0 (fun p u v hp hn h1 h2 h3 G => ?_)
      have w := al p u v hp hn h1 h2 h3 G
      have hL := hv'.2.2
      have Q : ∀ {s x y : Nat}, pu_ok s → x ≤ y → y ≤ gr_L g → pu_cd (pu_ps' f) s x y → pu_cd S s x y := fun ok h1 h2 d cc => I.2.2 S cl _ _ _ (xb_ntV ok cc h1 h2) (d cc)
      exact ⟨Q (pu_okR0 W hp) h1 (by omega) w.1, Q (pu_okR W hp (by decide)) h2 (by omega) w.2.1, Q (pu_okR W hp (by decide)) h3 (by omega) w.2.2⟩
    · rw [up3_n z] at h
      exact I.2.2 S cl a b c hv' h
theorem pu_tree (W : gr_W g) (S : pu_HS g (pu_HH g)) {n i j : Nat} (hv : pu_V g n i j) (h0 : 0 < pu_HH g n i j) : ∃ p u v, p < gr_P g ∧ gr_F g p = n ∧ i ≤ u ∧ u ≤ v ∧ v ≤ j ∧ pu_G g p i u v j := by
  obtain ⟨h, e⟩ : ∃ h, pu_HH g n i j = h + 1 := ⟨pu_HH g n i j - 1, by omega⟩
  obtain ⟨_, p, u, v, hp, hn, a, b, c, F⟩ := ((S n i j hv).2.1 h e).1
  have := (S n i j hv).2.2
  exact ⟨p, u, v, hp, hn, a, b, c, pu_F_mono (by omega) F⟩
end
noncomputable def pu_CC (g : gr_G) : pu_C := Classical.epsilon (pu_CS g)
theorem pu_CC_s {g : gr_G} {f : pu_C} (S : pu_CS g f) : pu_CS g (pu_CC g) := Classical.epsilon_spec (p := pu_CS g) ⟨f, S⟩
theorem pu_CC_e {g : gr_G} {f : pu_C} (W : gr_W g) (S : pu_CS g f) {n i j : Nat} (hv : pu_V g n i j) : f n i j = pu_CC g n i j := pu_CS_eq W S (pu_CC_s S) hv
