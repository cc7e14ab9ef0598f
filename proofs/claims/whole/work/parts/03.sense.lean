/-! the senses, as properties of a graph (T: who is there, A: whom each attacks) -/
def ad_free (T : Nat) (A : Nat → Nat) (s : Nat) : Prop := ad_sub s T ∧ ad_H A s &&& s = 0
def ad_adm (T : Nat) (A : Nat → Nat) (s : Nat) : Prop := ad_free T A s ∧ ad_sub s (ad_D T A s)
def ad_comp (T : Nat) (A : Nat → Nat) (s : Nat) : Prop := ad_free T A s ∧ s = ad_D T A s
def ad_stab (T : Nat) (A : Nat → Nat) (s : Nat) : Prop := ad_free T A s ∧ s ||| ad_H A s = T
/-- within all sets of a sense -/
def ad_wi (T : Nat) (Q : Nat → Prop) (s : Nat) : Prop := ad_sub s T ∧ ∀ t, t < 256 → Q t → ad_sub s t
/-- c is what all sets of a sense share -/
def ad_com (T : Nat) (Q : Nat → Prop) (c : Nat) : Prop := ∀ i, c.testBit i = true ↔ (T.testBit i = true ∧ ∀ s, s < 256 → Q s → s.testBit i = true)
def ad_gr (Q L : Nat → Prop) (s : Nat) : Prop := Q s ∧ L s ∧ ∀ t, t < 256 → Q t → L t → ad_sub s t → t = s
def ad_wide (A : Nat → Nat) (Q : Nat → Prop) (s : Nat) : Prop := Q s ∧ ∀ t, t < 256 → Q t → ad_sub (s ||| ad_H A s) (t ||| ad_H A t) → t ||| ad_H A t = s ||| ad_H A s
theorem ad_com_wi {T : Nat} {Q : Nat → Prop} {c : Nat} (h : ad_com T Q c) (s : Nat) : ad_sub s c ↔ ad_wi T Q s := by
  constructor
  · intro k
    exact ⟨fun i hi => ((h i).mp (k i hi)).1, fun t ht q i hi => ((h i).mp (k i hi)).2 t ht q⟩
  · rintro ⟨a, b⟩ i hi
    exact (h i).mpr ⟨a i hi, fun t ht q => b t ht q i hi⟩
theorem ad_com_eq {T : Nat} {Q : Nat → Prop} {c d : Nat} (h : ad_com T Q c) (k : ad_com T Q d) : c = d := ad_ext fun i => (h i).trans (k i).symm
theorem ad_gr_L {Q L M : Nat → Prop} (e : ∀ s, s < 256 → (Q s → (L s ↔ M s))) {s : Nat} (hs : s < 256) : ad_gr Q L s ↔ ad_gr Q M s := by
  constructor
  · rintro ⟨a, b, c⟩
    exact ⟨a, (e s hs a).mp b, fun t ht q l => c t ht q ((e t ht q).mpr l)⟩
  · rintro ⟨a, b, c⟩
    exact ⟨a, (e s hs a).mpr b, fun t ht q l => c t ht q ((e t ht q).mp l)⟩
theorem ad_comp_X {T : Nat} {A : Nat → Nat} (s : Nat) : ad_comp T A s ↔ ad_adm T A s ∧ ad_sub (ad_D T A s) s := by
  constructor
  · rintro ⟨a, b⟩
    refine ⟨⟨a, ?_⟩, ?_⟩
    · rw [← b]; exact ad_subR s
    · rw [← b]; exact ad_subR s
  · rintro ⟨⟨a, b⟩, c⟩
    exact ⟨a, ad_subA b c⟩
/-- the twelve senses but the last -/
def ad_P3 (T : Nat) (A : Nat → Nat) (s : Nat) : Prop := ad_comp T A s ∧ ad_wi T (ad_comp T A) s
def ad_P4 (T : Nat) (A : Nat → Nat) (s : Nat) : Prop := ad_gr (ad_adm T A) (fun _ => True) s
def ad_P6 (T : Nat) (A : Nat → Nat) (s : Nat) : Prop := ad_wide A (ad_comp T A) s
def ad_P7 (T : Nat) (A : Nat → Nat) (s : Nat) : Prop := ad_wide A (ad_free T A) s
def ad_P8 (T : Nat) (A : Nat → Nat) (s : Nat) : Prop := ad_gr (ad_free T A) (fun _ => True) s
def ad_P9 (T : Nat) (A : Nat → Nat) (s : Nat) : Prop := ad_gr (ad_adm T A) (ad_wi T (ad_P4 T A)) s
def ad_P10 (T : Nat) (A : Nat → Nat) (s : Nat) : Prop := ad_gr (ad_adm T A) (ad_wi T (ad_P6 T A)) s
theorem ad_P3_Y {T : Nat} {A : Nat → Nat} {s c : Nat} (hs : s < 256) (h : ad_com T (ad_comp T A) c) : ad_P3 T A s ↔ ad_comp T A s ∧ s = c := by
  constructor
  · rintro ⟨a, b⟩
    refine ⟨a, ad_subA ((ad_com_wi h s).mpr b) fun i hi => ((h i).mp hi).2 s hs a⟩
  · rintro ⟨a, b⟩
    refine ⟨a, (ad_com_wi h s).mp ?_⟩
    rw [b]; exact ad_subR c
/-! the last sense: a work list -/
/-- the lowest member -/
def ad_fi (w : Nat) : Nat := if w.testBit 0 = true then 0 else if w.testBit 1 = true then 1 else if w.testBit 2 = true then 2 else if w.testBit 3 = true then 3 else if w.testBit 4 = true then 4 else if w.testBit 5 = true then 5 else if w.testBit 6 = true then 6 else if w.testBit 7 = true then 7 else 0
theorem ad_fi_eq {w a : Nat} (h8 : a < 8) (ha : w.testBit a = true) (hl : ∀ b, b < a → ¬ w.testBit b = true) : ad_fi w = a := by
  have e : a = 0 ∨ a = 1 ∨ a = 2 ∨ a = 3 ∨ a = 4 ∨ a = 5 ∨ a = 6 ∨ a = 7 := by omega
  rcases e with rfl | rfl | rfl | rfl | rfl | rfl | rfl | rfl <;> unfold ad_fi
  · rw [if_pos ha]
  · rw [if_neg (hl 0 (by decide)), if_pos ha]
  · rw [if_neg (hl 0 (by decide)), if_neg (hl 1 (by decide)), if_pos ha]
  · rw [if_neg (hl 0 (by decide)), if_neg (hl 1 (by decide)), if_neg (hl 2 (by decide)), if_pos ha]
  · rw [if_neg (hl 0 (by decide)), if_neg (hl 1 (by decide)), if_neg (hl 2 (by decide)), if_neg (hl 3 (by decide)), if_pos ha]
  · rw [if_neg (hl 0 (by decide)), if_neg (hl 1 (by decide)), if_neg (hl 2 (by decide)), if_neg (hl 3 (by decide)), if_neg (hl 4 (by decide)), if_pos ha]
  · rw [if_neg (hl 0 (by decide)), if_neg (hl 1 (by decide)), if_neg (hl 2 (by decide)), if_neg (hl 3 (by decide)), if_neg (hl 4 (by decide)), if_neg (hl 5 (by decide)), if_pos ha]
  · rw [if_neg (hl 0 (by decide)), if_neg (hl 1 (by decide)), if_neg (hl 2 (by decide)), if_neg (hl 3 (by decide)), if_neg (hl 4 (by decide)), if_neg (hl 5 (by decide)), if_neg (hl 6 (by decide)), if_pos ha]
theorem ad_lo : ∀ k w : Nat, w.testBit k = true → ∃ a, a ≤ k ∧ w.testBit a = true ∧ ∀ b, b < a → ¬ w.testBit b = true := by
  intro k
  induction k using Nat.strongRecOn with
  | ind k ih =>
    intro w h
    by_cases e : ∃ j, j < k ∧ w.testBit j = true
    · obtain ⟨j, hj, hb⟩ := e
      obtain ⟨a, h1, h2, h3⟩ := ih j hj w hb
      exact ⟨a, by omega, h2, h3⟩
    · exact ⟨k, Nat.le_refl k, h, fun b hb z => e ⟨b, hb, z⟩⟩
theorem ad_fi_tb {w : Nat} (hw : w < 256) (n : w ≠ 0) : w.testBit (ad_fi w) = true ∧ ad_fi w < 8 ∧ ∀ b, b < ad_fi w → ¬ w.testBit b = true := by
  obtain ⟨i, hi⟩ := ad_nz n
  obtain ⟨a, h1, h2, h3⟩ := ad_lo i w hi
  have h8 := ad_b8 hw h2
  rw [ad_fi_eq h8 h2 h3]
  exact ⟨h2, h8, h3⟩
/-- the part of a component that is looked at -/
def ad_pa (A : Nat → Nat) (s w c : Nat) : Nat := ad_df c (ad_H A (ad_df (s &&& w) c))
/-- the parts are laid onto a list, from argument 8 - d on -/
def ad_pt (A : Nat → Nat) (s w : Nat) : Nat → Nat → List Nat → List Nat
  | 0, _, l => l
  | d + 1, r, l => if r.testBit (7 - d) = true then ad_pt A s w d (ad_df r (ad_cc A w (7 - d))) (if ad_pa A s w (ad_cc A w (7 - d)) = 0 then l else ad_pa A s w (ad_cc A w (7 - d)) :: l) else ad_pt A s w d r l
def ad_full (A : Nat → Nat) (s w : Nat) : Prop := ad_H A (s &&& w) &&& (s &&& w) = 0 ∧ ∀ a, a < 8 → w.testBit a = true → ¬ (s &&& w).testBit a = true → ¬ (ad_H A (s &&& w ||| 2 ^ a) &&& (s &&& w ||| 2 ^ a) = 0)
def ad_run (A : Nat → Nat) (s : Nat) : Nat → List Nat → Prop
  | 0, _ => True
  | _ + 1, [] => True
  | k + 1, w :: l => if ad_cc A w (ad_fi w) = w then ad_full A s w ∧ ad_run A s k l else ad_run A s k (ad_pt A s w 8 w l)
def ad_P11 (T : Nat) (A : Nat → Nat) (s : Nat) : Prop := ad_free T A s ∧ ad_run A s 16 (if T = 0 then [] else [T])
/-- sizes -/
def ad_g (w : Nat) : Nat := 2 * ad_pc w - 1
def ad_ps : List Nat → Nat
  | [] => 0
  | w :: l => ad_pc w + ad_ps l
def ad_ph : List Nat → Nat
  | [] => 0
  | w :: l => ad_g w + ad_ph l
/-- all on the list are sets of some that are there -/
def ad_ok (T : Nat) : List Nat → Prop
  | [] => True
  | w :: l => (w < 256 ∧ w ≠ 0 ∧ ad_sub w T) ∧ ad_ok T l
theorem ad_ok_len {T : Nat} : ∀ l, ad_ok T l → l.length ≤ ad_ps l
  | [], _ => Nat.le_refl 0
  | w :: l, h => by
    have a := ad_ok_len l h.2
    have b := ad_pc_pos h.1.1 h.1.2.1
    show l.length + 1 ≤ ad_pc w + ad_ps l
    omega
theorem ad_pa_lt {A : Nat → Nat} (hA : ∀ a, A a < 256) (s w : Nat) {a : Nat} (ha : a < 8) : ad_pa A s w (ad_cc A w a) < 256 := ad_df_lt (ad_cc_lt hA w ha)
theorem ad_pa_sub {A : Nat → Nat} {s w c : Nat} (hc : c < 256) : ad_sub (ad_pa A s w c) c := by
  intro i hi
  unfold ad_pa at hi
  rw [ad_df_tb hc, Bool.and_eq_true] at hi
  exact hi.1
/-- what is left are whole components -/
def ad_cl (A : Nat → Nat) (w r : Nat) : Prop := r < 256 ∧ ad_sub r w ∧ ∀ x, r.testBit x = true → ad_sub (ad_cc A w x) r
theorem ad_cl_w {A : Nat → Nat} (hA : ∀ a, A a < 256) {w : Nat} (hw : w < 256) : ad_cl A w w := ⟨hw, ad_subR w, fun _ hx => ad_cc_w hA hw hx⟩
theorem ad_cl_df {A : Nat → Nat} (hA : ∀ a, A a < 256) {w r a : Nat} (hw : w < 256) (h : ad_cl A w r) (ha : r.testBit a = true) : ad_cl A w (ad_df r (ad_cc A w a)) := by
  obtain ⟨h1, h2, h3⟩ := h
  refine ⟨ad_df_lt h1, fun i hi => ?_, fun x hx y hy => ?_⟩
  · rw [ad_df_tb h1, Bool.and_eq_true] at hi; exact h2 i hi.1
  · rw [ad_df_tb h1, Bool.and_eq_true] at hx ⊢
    refine ⟨h3 x hx.1 y hy, ?_⟩
    cases hb : (ad_cc A w a).testBit y
    · rfl
    · have e1 := ad_cc_eq hA hw (h2 a ha) hb
      have e2 := ad_cc_eq hA hw (h2 x hx.1) hy
      have e3 := ad_cc_self hA hw (h2 x hx.1)
      rw [← e2, e1] at e3
      rw [e3] at hx
      exact absurd hx.2 (by decide)
theorem ad_g_step {A : Nat → Nat} (hA : ∀ a, A a < 256) {w r a s : Nat} (hw : w < 256) (h : ad_cl A w r) (ha : r.testBit a = true) : ad_g (ad_cc A w a) + ad_g (ad_df r (ad_cc A w a)) ≤ ad_g r ∧ (ad_cc A w a ≠ r → ad_g (ad_cc A w a) + ad_g (ad_df r (ad_cc A w a)) + 1 ≤ ad_g r) ∧ ad_g (ad_pa A s w (ad_cc A w a)) ≤ ad_g (ad_cc A w a) ∧ ad_pc (ad_pa A s w (ad_cc A w a)) + ad_pc (ad_df r (ad_cc A w a)) ≤ ad_pc r := by
  have h8 := ad_b8 h.1 ha
  have hc := ad_cc_lt hA w h8
  have e := ad_pc_df h.1 (h.2.2 a ha)
  have p1 := ad_pc_mono (ad_pa_sub (A := A) (s := s) (w := w) hc)
  have p2 : 1 ≤ ad_pc (ad_cc A w a) := ad_pc_pos hc (fun z => by
    have := ad_cc_self hA hw (h.2.1 a ha)
    rw [z, Nat.zero_testBit] at this
    exact absurd this (by decide))
  unfold ad_g
  refine ⟨by omega, fun n => ?_, by omega, by omega⟩
  have := ad_pc_lt h.1 (h.2.2 a ha) n
  omega
theorem ad_pt_ph {A : Nat → Nat} (hA : ∀ a, A a < 256) {s w : Nat} (hw : w < 256) : ∀ d r l, d ≤ 8 → ad_cl A w r → (∀ b, b < 8 - d → ¬ r.testBit b = true) → ad_ph (ad_pt A s w d r l) ≤ ad_ph l + ad_g r ∧ ((∃ x, r.testBit x = true ∧ ad_cc A w x ≠ r) → ad_ph (ad_pt A s w d r l) + 1 ≤ ad_ph l + ad_g r) := by
  intro d
  induction d with
  | zero =>
    intro r l _ hr hl
    refine ⟨Nat.le_add_right _ _, ?_⟩
    rintro ⟨x, hx, _⟩
    exact absurd hx (hl x (ad_b8 hr.1 hx))
  | succ d ih =>
    intro r l hd hr hl
    unfold ad_pt
    by_cases hb : r.testBit (7 - d) = true
    · rw [if_pos hb]
      obtain ⟨g1, g2, g3, _⟩ := ad_g_step hA (s := s) hw hr hb
      have hr' := ad_cl_df hA hw hr hb
      have hself := ad_cc_self hA hw (hr.2.1 _ hb)
      have k := (ih (ad_df r (ad_cc A w (7 - d))) (if ad_pa A s w (ad_cc A w (7 - d)) = 0 then l else ad_pa A s w (ad_cc A w (7 - d)) :: l) (by omega) hr' (fun b hbd z => by
        rw [ad_df_tb hr.1, Bool.and_eq_true] at z
        by_cases e : b = 7 - d
        · rw [e, hself] at z; exact absurd z.2 (by decide)
        · exact hl b (by omega) z.1)).1
      have k2 : ad_ph (if ad_pa A s w (ad_cc A w (7 - d)) = 0 then l else ad_pa A s w (ad_cc A w (7 - d)) :: l) ≤ ad_ph l + ad_g (ad_cc A w (7 - d)) := by
        by_cases z : ad_pa A s w (ad_cc A w (7 - d)) = 0
        · rw [if_pos z]; omega
        · rw [if_neg z]; show ad_g _ + ad_ph l ≤ _; omega
      refine ⟨by omega, ?_⟩
      rintro ⟨x, hx, hn⟩
      by_cases e : ad_cc A w (7 - d) = r
      · exfalso
        apply hn
        rw [ad_cc_eq hA hw (hr.2.1 _ hb) (x := x) (by rw [e]; exact hx), e]
      · have := g2 e
        omega
    · rw [if_neg hb]
      exact ih r l (by omega) hr (fun b hbd => by
        by_cases e : b = 7 - d
        · rw [e]; exact hb
        · exact hl b (by omega))
theorem ad_pt_1 {A : Nat → Nat} (hA : ∀ a, A a < 256) {T s w r a : Nat} {l : List Nat} (hw : w < 256) (hT : ad_sub w T) (hr : ad_cl A w r) (ha : r.testBit a = true) (hl : ad_ok T l) : ad_ok T (if ad_pa A s w (ad_cc A w a) = 0 then l else ad_pa A s w (ad_cc A w a) :: l) ∧ ad_ps (if ad_pa A s w (ad_cc A w a) = 0 then l else ad_pa A s w (ad_cc A w a) :: l) + ad_pc (ad_df r (ad_cc A w a)) ≤ ad_ps l + ad_pc r := by
  obtain ⟨_, _, _, g4⟩ := ad_g_step hA (s := s) hw hr ha
  have h8 := ad_b8 hr.1 ha
  by_cases z : ad_pa A s w (ad_cc A w a) = 0
  · rw [if_pos z]
    refine ⟨hl, by omega⟩
  · rw [if_neg z]
    refine ⟨⟨⟨ad_pa_lt hA s w h8, z, ad_subT (ad_pa_sub (ad_cc_lt hA w h8)) (ad_subT (hr.2.2 a ha) (ad_subT hr.2.1 hT))⟩, hl⟩, ?_⟩
    show ad_pc _ + ad_ps l + _ ≤ _
    omega
theorem ad_pt_ok {A : Nat → Nat} (hA : ∀ a, A a < 256) {T s w : Nat} (hw : w < 256) (hT : ad_sub w T) : ∀ d r l, ad_cl A w r → ad_ok T l → ad_ok T (ad_pt A s w d r l) ∧ ad_ps (ad_pt A s w d r l) ≤ ad_ps l + ad_pc r := by
  intro d
  induction d with
  | zero =>
    intro r l _ hl
    exact ⟨hl, Nat.le_add_right _ _⟩
  | succ d ih =>
    intro r l hr hl
    unfold ad_pt
    by_cases hb : r.testBit (7 - d) = true
    · rw [if_pos hb]
      obtain ⟨k1, k2⟩ := ad_pt_1 hA (s := s) hw hT hr hb hl
      obtain ⟨j1, j2⟩ := ih _ _ (ad_cl_df hA hw hr hb) k1
      exact ⟨j1, by omega⟩
    · rw [if_neg hb]
      exact ih r l hr hl
theorem ad_free_sub {T : Nat} {A : Nat → Nat} {s t : Nat} (h : ad_free T A t) (k : ad_sub s t) : ad_free T A s := by
  refine ⟨ad_subT k h.1, ad_and0.mpr fun i a b => ?_⟩
  exact ad_and0.mp h.2 i (ad_H_mono A k i a) (k i b)
theorem ad_or2_tb (s a i : Nat) : (s ||| 2 ^ a).testBit i = true ↔ s.testBit i = true ∨ a = i := by
  rw [Nat.testBit_or, Bool.or_eq_true, Nat.testBit_two_pow, decide_eq_true_eq]
theorem ad_full_X {T : Nat} {A : Nat → Nat} {s w : Nat} (hw : w < 256) (hT : ad_sub w T) : ad_gr (ad_free T A) (fun t => ad_sub t w) (s &&& w) ↔ ad_full A s w := by
  constructor
  · rintro ⟨h1, h2, h3⟩
    refine ⟨h1.2, fun a ha hwa hn z => ?_⟩
    have hs : ad_sub (s &&& w ||| 2 ^ a) w := by
      intro i hi
      rcases (ad_or2_tb _ _ _).mp hi with h | h
      · exact h2 i h
      · rw [← h]; exact hwa
    have := h3 (s &&& w ||| 2 ^ a) (ad_orlt (Nat.lt_of_le_of_lt Nat.and_le_right hw) (ad_2lt ha)) ⟨ad_subT hs hT, z⟩ hs (fun i hi => (ad_or2_tb _ _ _).mpr (Or.inl hi))
    apply hn
    rw [← this]
    exact (ad_or2_tb _ _ _).mpr (Or.inr rfl)
  · rintro ⟨h1, h2⟩
    refine ⟨⟨ad_subT (ad_subAnd s w) hT, h1⟩, ad_subAnd s w, fun t ht q l k => ?_⟩
    apply Classical.byContradiction
    intro n
    have : ∃ i, t.testBit i = true ∧ ¬ (s &&& w).testBit i = true := by
      apply Classical.byContradiction
      intro hn
      apply n
      apply ad_subA _ k
      intro i hi
      apply Classical.byContradiction
      intro hs
      exact hn ⟨i, hi, hs⟩
    obtain ⟨i, hi, hn⟩ := this
    have hsub : ad_sub (s &&& w ||| 2 ^ i) t := by
      intro j hj
      rcases (ad_or2_tb _ _ _).mp hj with h | h
      · exact k j h
      · rw [← h]; exact hi
    exact h2 i (ad_b8 ht hi) (l i hi) hn (ad_free_sub q hsub).2
/-- sums -/
def ad_sm (f : Nat → Nat) : Nat → Nat
  | 0 => 0
  | k + 1 => ad_sm f k + f k
theorem ad_sm_eq {f g : Nat → Nat} {k : Nat} (h : ∀ i, i < k → f i = g i) : ad_sm f k = ad_sm g k := by
  induction k with
  | zero => rfl
  | succ k ih => unfold ad_sm; rw [ih (fun i hi => h i (by omega)), h k (by omega)]
theorem ad_sm_0 (k : Nat) : ad_sm (fun _ => 0) k = 0 := by
  induction k with
  | zero => rfl
  | succ k ih => unfold ad_sm; rw [ih]
theorem ad_sm_add (f g : Nat → Nat) (k : Nat) : ad_sm (fun i => f i + g i) k = ad_sm f k + ad_sm g k := by
  induction k with
  | zero => rfl
  | succ k ih => unfold ad_sm; rw [ih]; omega
theorem ad_sm_swap (f : Nat → Nat → Nat) (m n : Nat) : ad_sm (fun i => ad_sm (fun j => f i j) n) m = ad_sm (fun j => ad_sm (fun i => f i j) m) n := by
  induction m with
  | zero => exact (ad_sm_0 n).symm
  | succ m ih =>
    show ad_sm (fun i => ad_sm (fun j => f i j) n) m + ad_sm (fun j => f m j) n = ad_sm (fun j => ad_sm (fun i => f i j) m + f m j) n
    rw [ih, ad_sm_add]
theorem ad_sm_off (f : Nat → Nat) (m : Nat) : ∀ k, ad_sm f (m + k) = ad_sm f m + ad_sm (fun j => f (m + j)) k
  | 0 => rfl
  | k + 1 => by
    show ad_sm f (m + k) + f (m + k) = ad_sm f m + (ad_sm (fun j => f (m + j)) k + f (m + k))
    rw [ad_sm_off f m k]; omega
theorem ad_sm_64 (f : Nat → Nat → Nat) : ∀ m, ad_sm (fun k => f (k / 8) (k % 8)) (8 * m) = ad_sm (fun i => ad_sm (fun j => f i j) 8) m
  | 0 => rfl
  | m + 1 => by
    show ad_sm (fun k => f (k / 8) (k % 8)) (8 * m + 8) = ad_sm (fun i => ad_sm (fun j => f i j) 8) m + ad_sm (fun j => f m j) 8
    rw [ad_sm_off, ad_sm_64 f m]
    congr 1
    apply ad_sm_eq
    intro j hj
    rw [show (8 * m + j) / 8 = m from by omega, show (8 * m + j) % 8 = j from by omega]
theorem ad_sm_cn (p : Nat → Bool) (k : Nat) : ad_cn p k = ad_sm (fun i => (p i).toNat) k := by
  induction k with
  | zero => rfl
  | succ k ih => unfold ad_cn ad_sm; rw [ih]
theorem ad_eff (A : Nat → Nat) {s : Nat} (hs : s < 256) : ad_sm (fun a => if s.testBit a = true then ad_pc (ad_B A a &&& s) else 0) 8 = ad_cn (fun k => s.testBit (k / 8) && s.testBit (k % 8) && (A (k / 8)).testBit (k % 8)) 64 := by
  rw [ad_sm_cn]
  have e := ad_sm_64 (fun i j => (s.testBit i && s.testBit j && (A i).testBit j).toNat) 8
  refine Eq.trans ?_ e.symm
  rw [ad_sm_swap]
  apply ad_sm_eq
  intro a _
  try dsimp only
  by_cases h : s.testBit a = true
  · rw [if_pos h]
    unfold ad_pc
    rw [ad_sm_cn]
    apply ad_sm_eq
    intro i hi
    try dsimp only
    congr 1
    apply Bool.eq_iff_iff.mpr
    rw [Nat.testBit_and, Bool.and_eq_true, ad_B_tb, h, Bool.and_eq_true, Bool.and_eq_true]
    exact ⟨fun z => ⟨⟨z.2, rfl⟩, z.1.2⟩, fun z => ⟨⟨hi, z.2⟩, z.1.1⟩⟩
  · rw [if_neg h]
    have : ∀ i, i < 8 → (s.testBit i && s.testBit a && (A i).testBit a).toNat = 0 := by
      intro i _
      rw [Bool.not_eq_true] at h
      rw [h, Bool.and_false, Bool.false_and]; rfl
    rw [ad_sm_eq this, ad_sm_0]
