/-- a set by its bits, below k -/
def ad_mk (p : Nat → Bool) : Nat → Nat
  | 0 => 0
  | k + 1 => if p k = true then ad_mk p k ||| 2 ^ k else ad_mk p k
theorem ad_mk_tb (p : Nat → Bool) (k i : Nat) : (ad_mk p k).testBit i = true ↔ i < k ∧ p i = true := by
  induction k with
  | zero => simp [ad_mk]
  | succ k ih =>
    unfold ad_mk
    by_cases h : p k = true
    · rw [if_pos h, Nat.testBit_or, Bool.or_eq_true, ih, Nat.testBit_two_pow, decide_eq_true_eq]
      constructor
      · rintro (⟨a, b⟩ | rfl)
        · exact ⟨by omega, b⟩
        · exact ⟨by omega, h⟩
      · rintro ⟨a, b⟩
        by_cases e : k = i
        · exact Or.inr e
        · exact Or.inl ⟨by omega, b⟩
    · rw [if_neg h, ih]
      constructor
      · rintro ⟨a, b⟩; exact ⟨by omega, b⟩
      · rintro ⟨a, b⟩
        by_cases e : i = k
        · rw [e] at b; exact absurd b h
        · exact ⟨by omega, b⟩
theorem ad_mk_lt (p : Nat → Bool) {k : Nat} (hk : k ≤ 8) : ad_mk p k < 256 := by
  apply ad_lt
  intro i hi
  cases h : (ad_mk p k).testBit i
  · rfl
  · have := (ad_mk_tb p k i).mp h; omega
/-- what a set attacks, by its first k members -/
def ad_ht (A : Nat → Nat) (s : Nat) : Nat → Nat
  | 0 => 0
  | k + 1 => if s.testBit k = true then ad_ht A s k ||| A k else ad_ht A s k
theorem ad_ht_tb (A : Nat → Nat) (s k i : Nat) : (ad_ht A s k).testBit i = true ↔ ∃ a, a < k ∧ s.testBit a = true ∧ (A a).testBit i = true := by
  induction k with
  | zero => simp [ad_ht]
  | succ k ih =>
    unfold ad_ht
    by_cases h : s.testBit k = true
    · rw [if_pos h, Nat.testBit_or, Bool.or_eq_true, ih]
      constructor
      · rintro (⟨a, b, c, d⟩ | d)
        · exact ⟨a, by omega, c, d⟩
        · exact ⟨k, by omega, h, d⟩
      · rintro ⟨a, b, c, d⟩
        by_cases e : a = k
        · rw [e] at d; exact Or.inr d
        · exact Or.inl ⟨a, by omega, c, d⟩
    · rw [if_neg h, ih]
      constructor
      · rintro ⟨a, b, c, d⟩; exact ⟨a, by omega, c, d⟩
      · rintro ⟨a, b, c, d⟩
        by_cases e : a = k
        · rw [e] at c; exact absurd c h
        · exact ⟨a, by omega, c, d⟩
theorem ad_ht_lt {A : Nat → Nat} (hA : ∀ a, A a < 256) (s k : Nat) : ad_ht A s k < 256 := by
  apply ad_lt
  intro i hi
  cases h : (ad_ht A s k).testBit i
  · rfl
  · obtain ⟨a, _, _, d⟩ := (ad_ht_tb A s k i).mp h
    have := ad_b8 (hA a) d
    omega
def ad_H (A : Nat → Nat) (s : Nat) : Nat := ad_ht A s 8
theorem ad_H_tb (A : Nat → Nat) (s i : Nat) : (ad_H A s).testBit i = true ↔ ∃ a, a < 8 ∧ s.testBit a = true ∧ (A a).testBit i = true := ad_ht_tb A s 8 i
theorem ad_H_lt {A : Nat → Nat} (hA : ∀ a, A a < 256) (s : Nat) : ad_H A s < 256 := ad_ht_lt hA s 8
theorem ad_H_mono (A : Nat → Nat) {s t : Nat} (h : ad_sub s t) : ad_sub (ad_H A s) (ad_H A t) := by
  intro i hi
  obtain ⟨a, b, c, d⟩ := (ad_H_tb A s i).mp hi
  exact (ad_H_tb A t i).mpr ⟨a, b, h a c, d⟩
/-- the attackers -/
def ad_B (A : Nat → Nat) (b : Nat) : Nat := ad_mk (fun a => (A a).testBit b) 8
theorem ad_B_tb (A : Nat → Nat) (b a : Nat) : (ad_B A b).testBit a = true ↔ a < 8 ∧ (A a).testBit b = true := ad_mk_tb _ 8 a
theorem ad_B_lt (A : Nat → Nat) (b : Nat) : ad_B A b < 256 := ad_mk_lt _ (by decide)
/-- the targets as the component makes them -/
theorem ad_tgt {A : Nat → Nat} (hA : ∀ a, A a < 256) {s : Nat} : ad_mk (fun a => decide (¬ (ad_B A a &&& s = 0))) 8 = ad_H A s := by
  apply ad_ext
  intro i
  rw [ad_mk_tb, ad_H_tb, decide_eq_true_eq]
  constructor
  · rintro ⟨_, h⟩
    obtain ⟨a, ha⟩ := ad_nz h
    rw [Nat.testBit_and, Bool.and_eq_true, ad_B_tb] at ha
    exact ⟨a, ha.1.1, ha.2, ha.1.2⟩
  · rintro ⟨a, h8, ha, hi⟩
    refine ⟨ad_b8 (hA a) hi, fun z => ?_⟩
    exact ad_and0.mp z a ((ad_B_tb A i a).mpr ⟨h8, hi⟩) ha
def ad_D (T : Nat) (A : Nat → Nat) (s : Nat) : Nat := ad_mk (fun a => T.testBit a && decide (ad_df (ad_B A a) (ad_H A s) = 0)) 8
theorem ad_D_lt (T : Nat) (A : Nat → Nat) (s : Nat) : ad_D T A s < 256 := ad_mk_lt _ (by decide)
theorem ad_D_tb (T : Nat) (A : Nat → Nat) (s i : Nat) : (ad_D T A s).testBit i = true ↔ i < 8 ∧ T.testBit i = true ∧ ad_sub (ad_B A i) (ad_H A s) := by
  unfold ad_D
  rw [ad_mk_tb, Bool.and_eq_true, decide_eq_true_eq, ad_sub_df (ad_B_lt A i)]
theorem ad_D_mono (T : Nat) (A : Nat → Nat) {s t : Nat} (h : ad_sub s t) : ad_sub (ad_D T A s) (ad_D T A t) := by
  intro i hi
  obtain ⟨a, b, c⟩ := (ad_D_tb T A s i).mp hi
  exact (ad_D_tb T A t i).mpr ⟨a, b, ad_subT c (ad_H_mono A h)⟩
/-- a count of bits -/
def ad_cn (p : Nat → Bool) : Nat → Nat
  | 0 => 0
  | k + 1 => ad_cn p k + (p k).toNat
theorem ad_cn_le (p : Nat → Bool) (k : Nat) : ad_cn p k ≤ k := by
  induction k with
  | zero => exact Nat.le_refl 0
  | succ k ih => unfold ad_cn; have := Bool.toNat_le (p k); omega
theorem ad_cn_mono {p q : Nat → Bool} {k : Nat} (h : ∀ i, i < k → p i = true → q i = true) : ad_cn p k ≤ ad_cn q k := by
  induction k with
  | zero => exact Nat.le_refl 0
  | succ k ih =>
    unfold ad_cn
    have a := ih (fun i hi => h i (by omega))
    have b : (p k).toNat ≤ (q k).toNat := by
      cases hp : p k
      · exact Nat.zero_le _
      · rw [h k (by omega) hp]; exact Nat.le_refl _
    omega
theorem ad_cn_lt {p q : Nat → Bool} {k i : Nat} (h : ∀ i, i < k → p i = true → q i = true) (hi : i < k) (hp : p i = false) (hq : q i = true) : ad_cn p k < ad_cn q k := by
  induction k with
  | zero => omega
  | succ k ih =>
    unfold ad_cn
    by_cases e : i = k
    · subst e
      have a := ad_cn_mono (p := p) (q := q) (k := i) (fun j hj => h j (by omega))
      rw [hp, hq]
      show ad_cn p i + 0 < ad_cn q i + 1
      omega
    · have a := ih (fun i hi => h i (by omega)) (by omega)
      have b : (p k).toNat ≤ (q k).toNat := by
        cases hp : p k
        · exact Nat.zero_le _
        · rw [h k (by omega) hp]; exact Nat.le_refl _
      omega
theorem ad_cn_add {p q r : Nat → Bool} {k : Nat} (h : ∀ i, i < k → (p i).toNat + (q i).toNat = (r i).toNat) : ad_cn p k + ad_cn q k = ad_cn r k := by
  induction k with
  | zero => rfl
  | succ k ih =>
    unfold ad_cn
    have a := ih (fun i hi => h i (by omega))
    have b := h k (by omega)
    omega
def ad_pc (s : Nat) : Nat := ad_cn (fun i => s.testBit i) 8
theorem ad_pc_le (s : Nat) : ad_pc s ≤ 8 := ad_cn_le _ 8
theorem ad_pc_mono {s t : Nat} (h : ad_sub s t) : ad_pc s ≤ ad_pc t := ad_cn_mono (fun i _ => h i)
theorem ad_pc_lt {s t : Nat} (ht : t < 256) (h : ad_sub s t) (n : s ≠ t) : ad_pc s < ad_pc t := by
  have : ∃ i, t.testBit i = true ∧ ¬ s.testBit i = true := by
    apply Classical.byContradiction
    intro hn
    apply n
    apply ad_subA h
    intro i hi
    apply Classical.byContradiction
    intro hs
    exact hn ⟨i, hi, hs⟩
  obtain ⟨i, a, b⟩ := this
  exact ad_cn_lt (i := i) (fun j _ => h j) (ad_b8 ht a) (by simpa using b) a
theorem ad_pc_pos {s : Nat} (hs : s < 256) (n : s ≠ 0) : 1 ≤ ad_pc s := by
  have := ad_pc_lt (s := 0) hs (ad_sub0 s) (Ne.symm n)
  omega
theorem ad_pc_df {s c : Nat} (hs : s < 256) (h : ad_sub c s) : ad_pc c + ad_pc (ad_df s c) = ad_pc s := by
  apply ad_cn_add
  intro i _
  rw [ad_df_tb hs]
  cases hc : c.testBit i
  · cases s.testBit i <;> rfl
  · rw [h i hc]; rfl
/-- the closure -/
def ad_F (A : Nat → Nat) (w x : Nat) : Nat := x ||| (ad_H A x &&& w)
def ad_fw (A : Nat → Nat) (w : Nat) : Nat → Nat → Nat
  | 0, x => x
  | k + 1, x => ad_fw A w k (ad_F A w x)
theorem ad_F_tb (A : Nat → Nat) (w x i : Nat) : (ad_F A w x).testBit i = true ↔ x.testBit i = true ∨ ((∃ a, a < 8 ∧ x.testBit a = true ∧ (A a).testBit i = true) ∧ w.testBit i = true) := by
  unfold ad_F
  rw [Nat.testBit_or, Nat.testBit_and, Bool.or_eq_true, Bool.and_eq_true, ad_H_tb]
theorem ad_F_lt {A : Nat → Nat} (hA : ∀ a, A a < 256) {w x : Nat} (hx : x < 256) : ad_F A w x < 256 := ad_orlt hx (ad_andlt (ad_H_lt hA x))
theorem ad_fw_s (A : Nat → Nat) (w : Nat) : ∀ k x, ad_fw A w (k + 1) x = ad_F A w (ad_fw A w k x)
  | 0, _ => rfl
  | k + 1, x => by
    show ad_fw A w (k + 1) (ad_F A w x) = _
    rw [ad_fw_s A w k]
    rfl
theorem ad_fw_lt {A : Nat → Nat} (hA : ∀ a, A a < 256) (w : Nat) : ∀ k x, x < 256 → ad_fw A w k x < 256
  | 0, _, h => h
  | k + 1, x, h => ad_fw_lt hA w k _ (ad_F_lt hA h)
theorem ad_fw_st {A : Nat → Nat} (hA : ∀ a, A a < 256) (w x : Nat) (hx : x < 256) : ∀ k, ad_F A w (ad_fw A w k x) = ad_fw A w k x ∨ k + ad_pc x ≤ ad_pc (ad_fw A w k x) := by
  intro k
  induction k with
  | zero => right; show 0 + ad_pc x ≤ ad_pc x; omega
  | succ k ih =>
    rw [ad_fw_s]
    rcases ih with h | h
    · left; rw [h, h]
    · by_cases e : ad_F A w (ad_fw A w k x) = ad_fw A w k x
      · left; rw [e, e]
      · right
        have hl := ad_F_lt hA (w := w) (ad_fw_lt hA w k x hx)
        have := ad_pc_lt (s := ad_fw A w k x) hl (fun i hi => (ad_F_tb A w _ i).mpr (Or.inl hi)) (Ne.symm e)
        omega
theorem ad_pc_2 {a : Nat} (h : a < 8) : 1 ≤ ad_pc (2 ^ a) := ad_pc_pos (ad_2lt h) (by have := Nat.two_pow_pos a; omega)
theorem ad_full8 {s : Nat} (hs : s < 256) (h : 8 ≤ ad_pc s) : s = 255 := by
  apply Classical.byContradiction
  intro n
  have := ad_pc_lt (s := s) (t := 255) (by decide) (ad_sub255 hs) n
  have := ad_pc_le 255
  omega
theorem ad_fix {A : Nat → Nat} (hA : ∀ a, A a < 256) (w : Nat) {a : Nat} (ha : a < 8) : ad_F A w (ad_fw A w 7 (2 ^ a)) = ad_fw A w 7 (2 ^ a) := by
  rcases ad_fw_st hA w (2 ^ a) (ad_2lt ha) 7 with h | h
  · exact h
  · have := ad_pc_2 ha
    have e := ad_full8 (ad_fw_lt hA w 7 _ (ad_2lt ha)) (by omega)
    rw [e]
    apply ad_subA
    · exact ad_sub255 (ad_F_lt hA (by decide))
    · exact fun i hi => (ad_F_tb A w _ i).mpr (Or.inl hi)
/-- b is reached from a within w -/
def ad_R (A : Nat → Nat) (w a b : Nat) : Prop := (ad_fw A w 7 (2 ^ a)).testBit b = true
theorem ad_R8 {A : Nat → Nat} (hA : ∀ a, A a < 256) (w : Nat) {a : Nat} (ha : a < 8) : ad_fw A w 8 (2 ^ a) = ad_fw A w 7 (2 ^ a) := by
  rw [ad_fw_s, ad_fix hA w ha]
theorem ad_R_lt {A : Nat → Nat} (hA : ∀ a, A a < 256) {w a b : Nat} (ha : a < 8) (h : ad_R A w a b) : b < 8 := ad_b8 (ad_fw_lt hA w 7 _ (ad_2lt ha)) h
theorem ad_fw_min {A : Nat → Nat} {w : Nat} (C : Nat → Prop) (hC : ∀ x y, C x → (A x).testBit y = true → w.testBit y = true → C y) : ∀ k z, (∀ i, z.testBit i = true → C i) → ∀ i, (ad_fw A w k z).testBit i = true → C i
  | 0, _, h => h
  | k + 1, z, h => ad_fw_min C hC k (ad_F A w z) (fun i hi => by
      rcases (ad_F_tb A w z i).mp hi with h1 | ⟨⟨a, _, h2, h3⟩, h4⟩
      · exact h i h1
      · exact hC a i (h a h2) h3 h4)
theorem ad_R_min {A : Nat → Nat} {w a : Nat} (C : Nat → Prop) (h0 : C a) (hC : ∀ x y, C x → (A x).testBit y = true → w.testBit y = true → C y) {b : Nat} (h : ad_R A w a b) : C b :=
  ad_fw_min C hC 7 (2 ^ a) (fun i hi => by
    rw [Nat.testBit_two_pow, decide_eq_true_eq] at hi
    rw [← hi]; exact h0) b h
theorem ad_fw_in (A : Nat → Nat) (w : Nat) : ∀ k z i, z.testBit i = true → (ad_fw A w k z).testBit i = true
  | 0, _, _, h => h
  | k + 1, z, i, h => ad_fw_in A w k (ad_F A w z) i ((ad_F_tb A w z i).mpr (Or.inl h))
theorem ad_R_refl (A : Nat → Nat) (w a : Nat) : ad_R A w a a := ad_fw_in A w 7 (2 ^ a) a (by rw [Nat.testBit_two_pow]; exact decide_eq_true rfl)
theorem ad_R_step {A : Nat → Nat} (hA : ∀ a, A a < 256) {w a b c : Nat} (ha : a < 8) (h : ad_R A w a b) (e : (A b).testBit c = true) (hc : w.testBit c = true) : ad_R A w a c := by
  unfold ad_R
  rw [← ad_fix hA w ha]
  exact (ad_F_tb A w _ c).mpr (Or.inr ⟨⟨b, ad_R_lt hA ha h, h, e⟩, hc⟩)
theorem ad_R_trans {A : Nat → Nat} (hA : ∀ a, A a < 256) {w a b c : Nat} (ha : a < 8) (h : ad_R A w a b) (k : ad_R A w b c) : ad_R A w a c :=
  ad_R_min (fun x => ad_R A w a x) h (fun _ _ hx e hw => ad_R_step hA ha hx e hw) k
theorem ad_R_w {A : Nat → Nat} {w a b : Nat} (ha : w.testBit a = true) (h : ad_R A w a b) : w.testBit b = true :=
  ad_R_min (fun x => w.testBit x = true) ha (fun _ _ _ _ hw => hw) h
theorem ad_R_du {A : Nat → Nat} (hA : ∀ a, A a < 256) {w a b : Nat} (hw : w < 256) (ha : w.testBit a = true) (hb : w.testBit b = true) : ad_R A w b a ↔ ad_R (ad_B A) w a b := by
  constructor
  · intro h
    have := ad_R_min (fun x => w.testBit x = true ∧ ad_R (ad_B A) w x b) ⟨hb, ad_R_refl _ _ _⟩ (fun x y hx e hy => ⟨hy, by
      refine ad_R_trans (ad_B_lt A) (ad_b8 hw hy) ?_ hx.2
      exact ad_R_step (ad_B_lt A) (ad_b8 hw hy) (ad_R_refl _ _ _) ((ad_B_tb A y x).mpr ⟨ad_b8 hw hx.1, e⟩) hx.1⟩) h
    exact this.2
  · intro h
    have := ad_R_min (fun x => w.testBit x = true ∧ ad_R A w x a) ⟨ha, ad_R_refl _ _ _⟩ (fun x y hx e hy => ⟨hy, by
      refine ad_R_trans hA (ad_b8 hw hy) ?_ hx.2
      exact ad_R_step hA (ad_b8 hw hy) (ad_R_refl _ _ _) ((ad_B_tb A x y).mp e).2 hx.1⟩) h
    exact this.2
/-- the component of a within w -/
def ad_cc (A : Nat → Nat) (w a : Nat) : Nat := ad_fw A w 7 (2 ^ a) &&& ad_fw (ad_B A) w 7 (2 ^ a)
theorem ad_cc_lt {A : Nat → Nat} (hA : ∀ a, A a < 256) (w : Nat) {a : Nat} (ha : a < 8) : ad_cc A w a < 256 := ad_andlt (ad_fw_lt hA w 7 _ (ad_2lt ha))
theorem ad_cc_tb {A : Nat → Nat} (hA : ∀ a, A a < 256) {w a : Nat} (hw : w < 256) (ha : w.testBit a = true) (b : Nat) : (ad_cc A w a).testBit b = true ↔ ad_R A w a b ∧ ad_R A w b a := by
  unfold ad_cc
  rw [Nat.testBit_and, Bool.and_eq_true]
  constructor
  · rintro ⟨h, k⟩; exact ⟨h, (ad_R_du hA hw ha (ad_R_w ha h)).mpr k⟩
  · rintro ⟨h, k⟩; exact ⟨h, (ad_R_du hA hw ha (ad_R_w ha h)).mp k⟩
/-- the circle as the reference makes it -/
theorem ad_cir {A : Nat → Nat} (hA : ∀ a, A a < 256) {w a : Nat} (hw : w < 256) (ha : w.testBit a = true) : ad_mk (fun b => (ad_fw A w 8 (2 ^ a)).testBit b && (ad_fw A w 8 (2 ^ b)).testBit a) 8 = ad_cc A w a := by
  apply ad_ext
  intro b
  rw [ad_mk_tb, ad_cc_tb hA hw ha, Bool.and_eq_true, ad_R8 hA w (ad_b8 hw ha)]
  constructor
  · rintro ⟨h8, h, k⟩
    rw [ad_R8 hA w h8] at k
    exact ⟨h, k⟩
  · rintro ⟨h, k⟩
    have h8 := ad_R_lt hA (ad_b8 hw ha) h
    refine ⟨h8, h, ?_⟩
    rw [ad_R8 hA w h8]
    exact k
theorem ad_cc_w {A : Nat → Nat} (hA : ∀ a, A a < 256) {w a : Nat} (hw : w < 256) (ha : w.testBit a = true) : ad_sub (ad_cc A w a) w :=
  fun b hb => ad_R_w ha ((ad_cc_tb hA hw ha b).mp hb).1
theorem ad_cc_self {A : Nat → Nat} (hA : ∀ a, A a < 256) {w a : Nat} (hw : w < 256) (ha : w.testBit a = true) : (ad_cc A w a).testBit a = true :=
  (ad_cc_tb hA hw ha a).mpr ⟨ad_R_refl _ _ _, ad_R_refl _ _ _⟩
theorem ad_cc_eq {A : Nat → Nat} (hA : ∀ a, A a < 256) {w a x : Nat} (hw : w < 256) (ha : w.testBit a = true) (hx : (ad_cc A w a).testBit x = true) : ad_cc A w x = ad_cc A w a := by
  have hxw := ad_cc_w hA hw ha x hx
  obtain ⟨h1, h2⟩ := (ad_cc_tb hA hw ha x).mp hx
  apply ad_ext
  intro y
  rw [ad_cc_tb hA hw hxw, ad_cc_tb hA hw ha]
  constructor
  · rintro ⟨p, q⟩
    have hy := ad_R_w hxw p
    exact ⟨ad_R_trans hA (ad_b8 hw ha) h1 p, ad_R_trans hA (ad_b8 hw hy) q h2⟩
  · rintro ⟨p, q⟩
    have hy := ad_R_w ha p
    exact ⟨ad_R_trans hA (ad_b8 hw hxw) h2 p, ad_R_trans hA (ad_b8 hw hy) q h1⟩
