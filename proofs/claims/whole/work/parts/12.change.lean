/-! put and attack -/
section
variable {th fr : Int32} {aO tg so de he wa : Nat → Int32} {ty kn wt : Int32} {ac fa wb : Nat → Int32} {T : Nat} {A : Nat → Nat}
/-- a row is cleared, then a column, up to i -/
def ad_m1 (M : Nat → Nat) (a j : Nat) : Nat := if j = a then 0 else M j
theorem ad_m1_lt {M : Nat → Nat} (hM : ∀ j, M j < 256) (a j : Nat) : ad_m1 M a j < 256 := by
  unfold ad_m1
  by_cases e : j = a
  · rw [if_pos e]; decide
  · rw [if_neg e]; exact hM j
def ad_Cl (M : Nat → Nat) (a i : Nat) (x : Nat → Int32) : Prop := ∀ j, j < 8 → x j = nI (if j < i then ad_df (ad_m1 M a j) (2 ^ a) else ad_m1 M a j)
theorem ad_Cl0 {M : Nat → Nat} {a : Nat} {x : Nat → Int32} (h : ∀ j, j < 8 → x j = nI (M j)) : ad_Cl M a 0 (upd x a 0) := by
  intro j hj
  rw [if_neg (by omega)]
  unfold ad_m1
  by_cases e : j = a
  · rw [if_pos e, e, pk_us]; rfl
  · rw [if_neg e, pk_un e]; exact h j hj
theorem ad_Cls {M : Nat → Nat} {a i : Nat} {x : Nat → Int32} (hM : ∀ j, M j < 256) (h : ad_Cl M a i x) (ha : a < 8) (hi : i < 8) : ad_Cl M a (i + 1) (upd x i (x i &&& (((1 : Int32) <<< (nI a &&& 31)) ^^^ (-1)))) := by
  intro j hj
  by_cases e : j = i
  · have k := h i hi
    rw [if_neg (by omega)] at k
    rw [e, pk_us, k, if_pos (Nat.lt_succ_self i), ad_one (by omega), ad_not (ad_m1_lt hM a i)]
  · rw [pk_un e, h j hj]
    by_cases q : j < i
    · rw [if_pos q, if_pos (show j < i + 1 from by omega)]
    · rw [if_neg q, if_neg (show ¬ j < i + 1 from by omega)]
theorem ad_cl9X {post : SX → Prop} {M : Nat → Nat} (hM : ∀ j, M j < 256) {a : Nat} (ha : a < 8) (h : ∀ aO, ad_Cl M a 8 aO → post (th, fr, aO, tg, so, de, he, wa)) : ∀ d i n aO, i + d = 8 → d < n → ad_Cl M a i aO → wX_clearAttacks_9 post (nI a) th fr n (nI i) aO tg so de he wa := by
  intro d
  induction d with
  | zero =>
    intro i n aO hi hn hC
    obtain ⟨n, rfl⟩ := ad_s hn
    obtain rfl : i = 8 := by omega
    exact br_t (by decide) (h aO hC)
  | succ d ih =>
    intro i n aO hi hn hC
    obtain ⟨n, rfl⟩ := ad_s hn
    have h8 : i < 8 := by omega
    refine br_f (nI_ge h8 (by decide)) ⟨pk_in i 8 h8, pk_in i 8 h8, nm_e (nm_r (nI_1 i) ?_)⟩
    rw [ad_c (by omega)]
    exact ih (i + 1) n _ (by omega) (by omega) (ad_Cls hM hC ha h8)
theorem ad_clX {post : SX → Prop} {M : Nat → Nat} (hM : ∀ j, M j < 256) {a : Nat} (ha : a < 8) (hx : ∀ j, j < 8 → aO j = nI (M j)) (h : ∀ aO, ad_Cl M a 8 aO → post (th, fr, aO, tg, so, de, he, wa)) : wpX_clearAttacks post (th, fr, aO, tg, so, de, he, wa) (nI a) := by
  unfold wpX_clearAttacks
  refine ⟨pk_in a 8 ha, nm_e ⟨9, ?_⟩⟩
  rw [ad_c (by omega)]
  exact ad_cl9X hM ha h 8 0 9 _ rfl (by decide) (ad_Cl0 hx)
theorem ad_pu59Y {post : Int32 → SY → Prop} {M : Nat → Nat} (hM : ∀ j, M j < 256) {a : Nat} (ha : a < 8) (h : ∀ ac, ad_Cl M a 8 ac → post 1 (ty, kn, wt, ac, fa, wb)) : ∀ d i n ac, i + d = 8 → d < n → ad_Cl M a i ac → wY_put_59 post (nI a) ty kn wt n (nI i) ac fa wb := by
  intro d
  induction d with
  | zero =>
    intro i n ac hi hn hC
    obtain ⟨n, rfl⟩ := ad_s hn
    obtain rfl : i = 8 := by omega
    exact br_t (by decide) (h ac hC)
  | succ d ih =>
    intro i n ac hi hn hC
    obtain ⟨n, rfl⟩ := ad_s hn
    have h8 : i < 8 := by omega
    refine br_f (nI_ge h8 (by decide)) ⟨pk_in i 8 h8, pk_in i 8 h8, nm_e (nm_r (nI_1 i) ?_)⟩
    rw [ad_c (by omega)]
    exact ih (i + 1) n _ (by omega) (by omega) (ad_Cls hM hC ha h8)
theorem ad_pu28Y {post : Int32 → SY → Prop} (hA : ∀ a, A a < 256) (hG : ad_GA A ac) {a : Nat} (ha : a < 8) {z0 z1 : Int32} (h0 : z1 = z0 → post 0 (nI T, kn, wt, ac, fa, wb)) (h1 : ¬ z1 = z0 → ∀ ac, ad_Cl A a 8 ac → post 1 (nI (T ^^^ 2 ^ a), 0, wt, ac, fa, wb)) : wY_put_28 post (nI a) z0 z1 (nI T) kn wt ac fa wb := by
  unfold wY_put_28
  refine br_c h0 (fun z => nm_r (e' := nI (T ^^^ 2 ^ a)) (by rw [ad_one (by omega), nx_xor]) ⟨pk_in a 8 ha, nm_e ⟨9, ?_⟩⟩)
  rw [ad_c (by omega)]
  exact ad_pu59Y hA ha (h1 z) 8 0 9 _ rfl (by decide) (ad_Cl0 hG)
/-- the graph without what a attacks and what attacks a -/
def ad_A1 (A : Nat → Nat) (a : Nat) (j : Nat) : Nat := ad_df (ad_m1 A a j) (2 ^ a)
theorem ad_A1_lt (hA : ∀ a, A a < 256) (a j : Nat) : ad_A1 A a j < 256 := ad_df_lt (ad_m1_lt hA a j)
theorem ad_A1_tb {A : Nat → Nat} (hA : ∀ a, A a < 256) (a j i : Nat) : (ad_A1 A a j).testBit i = true ↔ j ≠ a ∧ (A j).testBit i = true ∧ i ≠ a := by
  unfold ad_A1
  rw [ad_df_tb (ad_m1_lt hA a j), Nat.testBit_two_pow, Bool.and_eq_true, Bool.not_eq_true', decide_eq_false_iff_not]
  unfold ad_m1
  by_cases e : j = a
  · rw [if_pos e, Nat.zero_testBit]
    exact ⟨fun h => absurd h.1 (by decide), fun h => absurd e h.1⟩
  · rw [if_neg e]
    exact ⟨fun h => ⟨e, h.1, fun q => h.2 q.symm⟩, fun h => ⟨h.2.1, fun q => h.2.2 q.symm⟩⟩
theorem ad_A1_GA {x : Nat → Int32} {a : Nat} (h : ad_Cl A a 8 x) : ad_GA (ad_A1 A a) x := fun j hj => by
  rw [h j hj, if_pos hj]; rfl
theorem ad_A1_GO {x : Nat → Int32} {a : Nat} (hA : ∀ a, A a < 256) (h : ad_Cl (ad_B A) a 8 x) : ad_GO (ad_A1 A a) x := fun j hj => by
  rw [h j hj, if_pos hj]
  congr 1
  apply ad_ext
  intro i
  have e := ad_A1_tb (ad_B_lt A) a j i
  unfold ad_A1 at e
  rw [e, ad_B_tb, ad_B_tb, ad_A1_tb hA]
  exact ⟨fun q => ⟨q.2.1.1, q.2.2, q.2.1.2, q.1⟩, fun q => ⟨q.2.2.2, ⟨q.1, q.2.2.1⟩, q.2.1⟩⟩
/-- the graph with one attack turned -/
def ad_A2 (A : Nat → Nat) (a b : Nat) (j : Nat) : Nat := if j = a then A a ^^^ 2 ^ b else A j
theorem ad_A2_lt (hA : ∀ a, A a < 256) {a b : Nat} (hb : b < 8) (j : Nat) : ad_A2 A a b j < 256 := by
  unfold ad_A2
  by_cases e : j = a
  · rw [if_pos e]; exact Nat.xor_lt_two_pow (n := 8) (hA a) (ad_2lt hb)
  · rw [if_neg e]; exact hA j
theorem ad_A2_GA {a b : Nat} (hb : b < 8) (h : ad_GA A ac) (ha : a < 8) : ad_GA (ad_A2 A a b) (upd ac a (ac a ^^^ ((1 : Int32) <<< (nI b &&& 31)))) := by
  intro j hj
  unfold ad_A2
  by_cases e : j = a
  · rw [if_pos e, e, pk_us, h a ha, ad_one (by omega), nx_xor]
  · rw [if_neg e, pk_un e]; exact h j hj
theorem ad_xor_tb (x b i : Nat) : (x ^^^ 2 ^ b).testBit i = true ↔ (i ≠ b ∧ x.testBit i = true) ∨ (i = b ∧ ¬ x.testBit i = true) := by
  rw [Nat.testBit_xor, Nat.testBit_two_pow]
  by_cases e : i = b
  · rw [decide_eq_true e.symm]
    cases x.testBit i <;> simp [e]
  · rw [decide_eq_false (fun q => e q.symm)]
    cases x.testBit i <;> simp [e]
theorem ad_A2_GO {a b : Nat} (ha : a < 8) (hb : b < 8) (h : ad_GO A aO) : ad_GO (ad_A2 A a b) (upd aO b (aO b ^^^ ((1 : Int32) <<< (nI a &&& 31)))) := by
  intro j hj
  by_cases e : j = b
  · rw [e, pk_us, h b hb, ad_one (by omega), nx_xor]
    congr 1
    apply ad_ext
    intro i
    rw [ad_xor_tb, ad_B_tb, ad_B_tb]
    unfold ad_A2
    by_cases q : i = a
    · rw [if_pos q, ad_xor_tb, q]
      constructor
      · rintro (z | z)
        · exact absurd rfl z.1
        · exact ⟨ha, Or.inr ⟨rfl, fun y => z.2 ⟨ha, y⟩⟩⟩
      · rintro ⟨_, z | z⟩
        · exact absurd rfl z.1
        · exact Or.inr ⟨rfl, fun y => z.2 y.2⟩
    · rw [if_neg q]
      constructor
      · rintro (z | z)
        · exact z.2
        · exact absurd z.1 q
      · intro z; exact Or.inl ⟨q, z⟩
  · rw [pk_un e, h j hj]
    congr 1
    apply ad_ext
    intro i
    rw [ad_B_tb, ad_B_tb]
    unfold ad_A2
    by_cases q : i = a
    · rw [if_pos q, ad_xor_tb, q]
      constructor
      · rintro ⟨z, y⟩; exact ⟨z, Or.inl ⟨e, y⟩⟩
      · rintro ⟨z, y | y⟩
        · exact ⟨z, y.2⟩
        · exact absurd y.1 e
    · rw [if_neg q]
end
/-- the relation: one graph, which both sides keep, and tables that are its senses where they are said to be -/
def ad_Rl (u : SX) (v : SY) : Prop := ∃ (T : Nat) (A : Nat → Nat) (fr : Int32) (aO tg so de he wa : Nat → Int32) (kn wt : Int32) (ac fa wb : Nat → Int32), T < 256 ∧ (∀ a, A a < 256) ∧ u = (nI T, fr, aO, tg, so, de, he, wa) ∧ v = (nI T, kn, wt, ac, fa, wb) ∧ ad_GO A aO ∧ ad_GA A ac ∧ ad_FX T A fr tg so de he ∧ ad_FY T A kn fa
theorem ad_Rli {T : Nat} {A : Nat → Nat} {fr : Int32} {aO tg so de he wa : Nat → Int32} {kn wt : Int32} {ac fa wb : Nat → Int32} (hT : T < 256) (hA : ∀ a, A a < 256) (hO : ad_GO A aO) (hG : ad_GA A ac) (hX : ad_FX T A fr tg so de he) (hY : ad_FY T A kn fa) : ad_Rl (nI T, fr, aO, tg, so, de, he, wa) (nI T, kn, wt, ac, fa, wb) :=
  ⟨T, A, fr, aO, tg, so, de, he, wa, kn, wt, ac, fa, wb, hT, hA, rfl, rfl, hO, hG, hX, hY⟩
theorem ad_nar {x : Int32} {p : Prop} (h : ad_Tb x p) : narrow .boolean (.int x) = .int x := by
  rcases h with ⟨rfl, _⟩ | ⟨rfl, _⟩ <;> rfl
theorem ad_ef0 {T s : Nat} {A : Nat → Nat} (e : s = 0) (t : T = 0) : ad_pc (ad_df (ad_df T s) (ad_H A s)) + ad_sm (ad_f1 A s) 8 = 0 := by
  subst e t
  have h1 : ad_df 0 0 = 0 := by decide
  have h2 : ad_df 0 (ad_H A 0) = 0 := by unfold ad_df; exact Nat.zero_and _
  have h3 : ad_sm (ad_f1 A 0) 8 = 0 := by
    rw [ad_sm_eq (g := fun _ => 0) (fun i _ => by unfold ad_f1; rw [Nat.zero_testBit]; rfl), ad_sm_0]
  rw [h1, h2, h3]
  decide
