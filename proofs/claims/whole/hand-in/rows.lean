section
theorem pk_us {f : Nat → Int32} {k : Nat} {x : Int32} : upd f k x k = x := if_pos rfl
theorem pk_un {f : Nat → Int32} {k j : Nat} {x : Int32} (h : j ≠ k) : upd f k x j = f j := if_neg h
theorem pk_sub {a b : Nat} (h : b ≤ a) : nI a - nI b = nI (a - b) := by
  obtain ⟨c, rfl⟩ : ∃ c, a = c + b := ⟨a - b, by omega⟩
  rw [← nI_add, Int32.add_sub_cancel, Nat.add_sub_cancel]
theorem pk_m1 (n : Nat) : nI (n + 1) + (-1) = nI n := by
  rw [← nI_1, Int32.add_assoc, show (1 : Int32) + (-1) = 0 from rfl, Int32.add_zero]
theorem pk_mul (a b : Nat) : nI a * nI b = nI (a * b) := (Int32.ofNat_mul a b).symm
theorem pk_div {a d : Nat} (ha : a < 2 ^ 31) (h0 : 0 < d) (hd : d < 2 ^ 31) : nI a / nI d = nI (a / d) := by
  apply Int32.toInt_inj.mp
  rw [lg_idiv_nonneg (by rw [nI_toInt ha]; omega) (by rw [nI_toInt hd]; omega), nI_toInt ha, nI_toInt hd, nI_toInt (Nat.lt_of_le_of_lt (Nat.div_le_self a d) ha)]
  first | rfl | exact (Int.natCast_ediv _ _).symm
theorem pk_rem {a d : Nat} (ha : a < 2 ^ 31) (h0 : 0 < d) (hd : d < 2 ^ 31) : nI a - nI a / nI d * nI d = nI (a % d) := by
  rw [pk_div ha h0 hd, pk_mul, pk_sub (Nat.div_mul_le_self a d)]
  exact congrArg nI (by have := Nat.div_add_mod' a d; omega)
theorem pk_ix (x : Int32) {n : Nat} (hn : n < 2 ^ 31) : x < 0 ∨ nI n ≤ x ∨ ∃ j : Nat, j < n ∧ x = nI j := by
  by_cases h : x < 0
  · exact Or.inl h
  · obtain ⟨j, hj, rfl⟩ := nI_of h
    by_cases h2 : j < n
    · exact Or.inr (Or.inr ⟨j, h2, rfl⟩)
    · exact Or.inr (Or.inl (nI_le (by omega) hj))
theorem pk_le {x y : Int32} {A B : Prop} (a b : Nat) (f : a ≤ b → A) (g : b < a → B) (hx : x = nI a := by rfl) (hy : y = nI b := by rfl) (ha : a < 2 ^ 31 := by omega) (hb : b < 2 ^ 31 := by omega) : (x ≤ y → A) ∧ (¬ x ≤ y → B) := by
  subst hx hy
  rw [nI_leI ha hb]
  exact ⟨f, fun z => g (by omega)⟩
theorem pk_lt {x y : Int32} {A B : Prop} (a b : Nat) (f : a < b → A) (g : b ≤ a → B) (hx : x = nI a := by rfl) (hy : y = nI b := by rfl) (ha : a < 2 ^ 31 := by omega) (hb : b < 2 ^ 31 := by omega) : (x < y → A) ∧ (¬ x < y → B) := by
  subst hx hy
  rw [nI_ltI ha hb]
  exact ⟨f, fun z => g (by omega)⟩
theorem pk_eq {x y : Int32} {A B : Prop} (a b : Nat) (f : a = b → A) (g : a ≠ b → B) (hx : x = nI a := by rfl) (hy : y = nI b := by rfl) (ha : a < 2 ^ 31 := by omega) (hb : b < 2 ^ 31 := by omega) : (x = y → A) ∧ (¬ x = y → B) := by
  subst hx hy
  rw [nI_eq ha hb]
  exact ⟨f, g⟩
theorem pk_in {x : Int32} (n N : Nat) (h : n < N) (hx : x = nI n := by rfl) (hN : N < 2 ^ 31 := by omega) : vp_in x N := by
  subst hx
  exact vp_in_nI h hN
theorem pk_cl {x : Int32} (n : Nat) (hx : x = nI n := by rfl) (h : n < 2 ^ 31 := by omega) : x.toNatClampNeg = n := by
  subst hx
  exact nI_clamp h
theorem pk_tn {n : Nat} (h : n < 2 ^ 32) : (nI n).toBitVec.toNat = n := Nat.mod_eq_of_lt h
theorem pk_shl (a s : Int32) (k : Nat) (hs : (s.toBitVec.smod 32).toNat = k) : (a <<< s).toBitVec.toNat = a.toBitVec.toNat * 2 ^ k % 2 ^ 32 := by
  show (a.toBitVec <<< (s.toBitVec.smod 32).toNat).toNat = _
  rw [hs, BitVec.toNat_shiftLeft, Nat.shiftLeft_eq]
theorem pk_shlN {n : Nat} (s : Int32) (k : Nat) (hs : (s.toBitVec.smod 32).toNat = k) (h : n * 2 ^ k < 2 ^ 32) : nI n <<< s = nI (n * 2 ^ k) := by
  apply Int32.toBitVec_inj.mp
  apply BitVec.eq_of_toNat_eq
  have hn : n < 2 ^ 32 := Nat.lt_of_le_of_lt (Nat.le_mul_of_pos_right n (Nat.two_pow_pos k)) h
  rw [pk_shl _ _ k hs, pk_tn hn, pk_tn h, Nat.mod_eq_of_lt h]
theorem pk_shr (a s : Int32) (k : Nat) (hs : (s.toBitVec.smod 32).toNat = k) : (a >>> s).toInt = a.toInt >>> k := by
  show (a.toBitVec.sshiftRight (s.toBitVec.smod 32).toNat).toInt = _
  rw [hs, BitVec.toInt_sshiftRight]
  rfl
theorem pk_shrN {n : Nat} (h : n < 2 ^ 31) (s : Int32) (k : Nat) (hs : (s.toBitVec.smod 32).toNat = k) : nI n >>> s = nI (n / 2 ^ k) := by
  apply Int32.toInt_inj.mp
  have h2 : n / 2 ^ k ≤ n := Nat.div_le_self _ _
  rw [pk_shr _ _ k hs, nI_toInt h, nI_toInt (by omega), Int.shiftRight_eq_div_pow]
  rfl
theorem s_l : ∀ n, n < 32 → ((nI n &&& 31).toBitVec.smod 32).toNat = n := by decide +kernel
theorem nx_and (a b : Nat) : nI a &&& nI b = nI (a &&& b) := by
  apply Int32.toBitVec_inj.1
  show BitVec.ofNat 32 a &&& BitVec.ofNat 32 b = BitVec.ofNat 32 (a &&& b)
  apply BitVec.eq_of_getLsbD_eq
  intro i hi
  simp [hi]
theorem nx_xor (a b : Nat) : nI a ^^^ nI b = nI (a ^^^ b) := by
  apply Int32.toBitVec_inj.1
  show BitVec.ofNat 32 a ^^^ BitVec.ofNat 32 b = BitVec.ofNat 32 (a ^^^ b)
  apply BitVec.eq_of_getLsbD_eq
  intro i hi
  simp [hi]
theorem ad_or (a b : Nat) : nI a ||| nI b = nI (a ||| b) := by
  apply Int32.toBitVec_inj.1
  show BitVec.ofNat 32 a ||| BitVec.ofNat 32 b = BitVec.ofNat 32 (a ||| b)
  apply BitVec.eq_of_getLsbD_eq
  intro i hi
  simp [hi]
theorem ad_one {i : Nat} (hi : i < 31) : (1 : Int32) <<< (nI i &&& 31) = nI (2 ^ i) := by
  have h := pk_shlN (n := 1) (nI i &&& 31) i (s_l i (by omega)) (by rw [Nat.one_mul]; exact Nat.pow_lt_pow_right (by decide) (by omega))
  rw [Nat.one_mul] at h
  exact h
theorem ad_bv {m i : Nat} (hm : m < 2 ^ 31) (hi : i < 32) : ((nI m >>> (nI i &&& 31)) &&& 1) = nI (m.testBit i).toNat := by
  rw [pk_shrN hm _ i (s_l i hi)]
  show nI (m / 2 ^ i) &&& nI 1 = _
  rw [nx_and, Nat.and_one_is_mod, Nat.testBit_eq_decide_div_mod_eq]
  congr 1
  rcases Nat.mod_two_eq_zero_or_one (m / 2 ^ i) with h | h <;> simp [h]
theorem ad_tb {m i : Nat} (hm : m < 2 ^ 31) (hi : i < 32) : ((nI m >>> (nI i &&& 31)) &&& 1) = 1 ↔ m.testBit i = true := by
  rw [ad_bv hm hi]
  cases m.testBit i
  · exact ⟨fun h => absurd h (by decide), fun h => absurd h (by decide)⟩
  · exact ⟨fun _ => rfl, fun _ => rfl⟩
theorem ad_hi {a i : Nat} (ha : a < 256) (hi : 8 ≤ i) : a.testBit i = false :=
  Nat.testBit_lt_two_pow (Nat.lt_of_lt_of_le ha (Nat.pow_le_pow_right (n := 2) (by decide) hi))
theorem ad_b8 {a i : Nat} (ha : a < 256) (h : a.testBit i = true) : i < 8 := by
  rcases Nat.lt_or_ge i 8 with z | z
  · exact z
  · rw [ad_hi ha z] at h; exact absurd h (by decide)
theorem ad_lt {a : Nat} (h : ∀ i, 8 ≤ i → a.testBit i = false) : a < 256 := Nat.lt_pow_two_of_testBit (n := 8) a (fun i hi => h i hi)
theorem ad_ext {a b : Nat} (h : ∀ i, a.testBit i = true ↔ b.testBit i = true) : a = b :=
  Nat.eq_of_testBit_eq (fun i => Bool.eq_iff_iff.mpr (h i))
theorem ad_z {a : Nat} : a = 0 ↔ ∀ i, a.testBit i = false := by
  constructor
  · intro h i; rw [h, Nat.zero_testBit]
  · intro h; exact Nat.eq_of_testBit_eq (fun i => by rw [h i, Nat.zero_testBit])
theorem ad_nz {a : Nat} (h : a ≠ 0) : ∃ i, a.testBit i = true := by
  apply Classical.byContradiction
  intro hn
  exact h (ad_z.mpr fun i => by
    cases hb : a.testBit i
    · rfl
    · exact absurd ⟨i, hb⟩ hn)
theorem ad_255 (i : Nat) : (255 : Nat).testBit i = decide (i < 8) := Nat.testBit_two_pow_sub_one 8 i
def ad_df (a b : Nat) : Nat := a &&& (b ^^^ 255)
theorem ad_df_tb {a b i : Nat} (ha : a < 256) : (ad_df a b).testBit i = (a.testBit i && !b.testBit i) := by
  unfold ad_df
  rw [Nat.testBit_and, Nat.testBit_xor, ad_255]
  rcases Nat.lt_or_ge i 8 with h | h
  · rw [decide_eq_true h]; cases a.testBit i <;> cases b.testBit i <;> rfl
  · rw [ad_hi ha h]; rfl
theorem ad_df_lt {a b : Nat} (ha : a < 256) : ad_df a b < 256 := Nat.lt_of_le_of_lt Nat.and_le_left ha
theorem ad_not {a b : Nat} (ha : a < 256) : nI a &&& (nI b ^^^ (-1)) = nI (ad_df a b) := by
  show nI a &&& (nI b ^^^ nI 4294967295) = _
  rw [nx_xor, nx_and]
  congr 1
  apply Nat.eq_of_testBit_eq
  intro i
  rw [ad_df_tb ha, Nat.testBit_and, Nat.testBit_xor, show (4294967295 : Nat) = 2 ^ 32 - 1 from rfl, Nat.testBit_two_pow_sub_one]
  rcases Nat.lt_or_ge i 8 with h | h
  · rw [decide_eq_true (by omega)]; cases a.testBit i <;> cases b.testBit i <;> rfl
  · rw [ad_hi ha h]; rfl
def ad_sub (s t : Nat) : Prop := ∀ i, s.testBit i = true → t.testBit i = true
theorem ad_sub_df {s t : Nat} (hs : s < 256) : ad_df s t = 0 ↔ ad_sub s t := by
  rw [ad_z]
  constructor
  · intro h i hi
    have := h i
    rw [ad_df_tb hs, hi] at this
    cases hb : t.testBit i
    · rw [hb] at this; exact absurd this (by decide)
    · rfl
  · intro h i
    rw [ad_df_tb hs]
    cases hb : s.testBit i
    · rfl
    · rw [h i hb]; rfl
theorem ad_subI {s t : Nat} (hs : s < 256) : (nI s &&& (nI t ^^^ (-1))) = 0 ↔ ad_sub s t := by
  have := ad_df_lt (b := t) hs
  rw [ad_not hs, ← nI_0, nI_eq (by omega) (by omega), ad_sub_df hs]
theorem ad_subR (s : Nat) : ad_sub s s := fun _ h => h
theorem ad_subT {a b c : Nat} (h : ad_sub a b) (k : ad_sub b c) : ad_sub a c := fun i z => k i (h i z)
theorem ad_subA {a b : Nat} (h : ad_sub a b) (k : ad_sub b a) : a = b := ad_ext fun i => ⟨h i, k i⟩
theorem ad_sub0 (t : Nat) : ad_sub 0 t := fun i h => by rw [Nat.zero_testBit] at h; exact absurd h (by decide)
theorem ad_sub255 {s : Nat} (h : s < 256) : ad_sub s 255 := fun i hi => by
  rw [ad_255]; exact decide_eq_true (ad_b8 h hi)
theorem ad_subLe {s t : Nat} (h : ad_sub s t) : s ≤ t := by
  have e : s = s &&& t := ad_ext fun i => by
    rw [Nat.testBit_and, Bool.and_eq_true]
    exact ⟨fun z => ⟨z, h i z⟩, fun z => z.1⟩
  rw [e]; exact Nat.and_le_right
theorem ad_subAnd (s t : Nat) : ad_sub (s &&& t) t := fun i h => by
  rw [Nat.testBit_and, Bool.and_eq_true] at h; exact h.2
theorem ad_subAndL (s t : Nat) : ad_sub (s &&& t) s := fun i h => by
  rw [Nat.testBit_and, Bool.and_eq_true] at h; exact h.1
theorem ad_and0 {a b : Nat} : a &&& b = 0 ↔ ∀ i, a.testBit i = true → b.testBit i = true → False := by
  rw [ad_z]
  constructor
  · intro h i ha hb
    have := h i
    rw [Nat.testBit_and, ha, hb] at this
    exact absurd this (by decide)
  · intro h i
    rw [Nat.testBit_and]
    cases ha : a.testBit i
    · rfl
    · cases hb : b.testBit i
      · rfl
      · exact (h i ha hb).elim
theorem ad_andI {a b : Nat} (ha : a < 256) : (nI a &&& nI b) = 0 ↔ a &&& b = 0 := by
  have : a &&& b ≤ a := Nat.and_le_left
  rw [nx_and, ← nI_0, nI_eq (by omega) (by omega)]
theorem ad_orlt {a b : Nat} (ha : a < 256) (hb : b < 256) : a ||| b < 256 := Nat.or_lt_two_pow (n := 8) ha hb
theorem ad_andlt {a b : Nat} (ha : a < 256) : a &&& b < 256 := Nat.lt_of_le_of_lt Nat.and_le_left ha
theorem ad_2lt {i : Nat} (h : i < 8) : 2 ^ i < 256 := Nat.pow_lt_pow_right (a := 2) (m := i) (n := 8) (by decide) h
def ad_Tb (x : Int32) (p : Prop) : Prop := (x = 1 ∧ p) ∨ (x = 0 ∧ ¬ p)
theorem ad_Tb1 {p : Prop} (h : p) : ad_Tb 1 p := Or.inl ⟨rfl, h⟩
theorem ad_Tb0 {p : Prop} (h : ¬ p) : ad_Tb 0 p := Or.inr ⟨rfl, h⟩
theorem ad_TbN {x : Int32} {p : Prop} (h : ad_Tb x p) : x = 0 ↔ ¬ p := by
  rcases h with ⟨rfl, h⟩ | ⟨rfl, h⟩
  · exact ⟨fun z => absurd z (by decide), fun z => absurd h z⟩
  · exact ⟨fun _ => h, fun _ => rfl⟩
theorem ad_TbU {x y : Int32} {p : Prop} (h : ad_Tb x p) (k : ad_Tb y p) : x = y := by
  rcases h with ⟨rfl, h⟩ | ⟨rfl, h⟩ <;> rcases k with ⟨rfl, k⟩ | ⟨rfl, k⟩
  · rfl
  · exact absurd h k
  · exact absurd k h
  · rfl
theorem ad_TbI {x : Int32} {p q : Prop} (h : ad_Tb x p) (e : p ↔ q) : ad_Tb x q := by
  rcases h with ⟨rfl, h⟩ | ⟨rfl, h⟩
  · exact Or.inl ⟨rfl, e.mp h⟩
  · exact Or.inr ⟨rfl, fun z => h (e.mpr z)⟩
theorem ad_n0 : vp_nar .boolean 0 = 0 := rfl
theorem ad_n1 : vp_nar .boolean 1 = 1 := rfl
theorem ad_nT {x : Int32} {p : Prop} (h : ad_Tb x p) : vp_nar .boolean x = x := by
  rcases h with ⟨rfl, h⟩ | ⟨rfl, h⟩
  · exact ad_n1
  · exact ad_n0
theorem ad_ixX {σ i : Nat} : nI σ * 256 + nI i = nI (256 * σ + i) := by
  show nI σ * nI 256 + nI i = _
  rw [pk_mul, nI_add, Nat.mul_comm]
theorem ad_ixY {σ i : Nat} : 256 * nI σ + nI i = nI (256 * σ + i) := by
  show nI 256 * nI σ + nI i = _
  rw [pk_mul, nI_add]
/-- a block of a table speaks of a property -/
def ad_Tab (a : Nat → Int32) (σ : Nat) (P : Nat → Prop) : Prop := ∀ s, s < 256 → ad_Tb (a (256 * σ + s)) (P s)
/-- a table stays but for one block -/
def ad_Fr (a b : Nat → Int32) (τ : Nat) : Prop := ∀ i, (i < 256 * τ ∨ 256 * τ + 256 ≤ i) → b i = a i
theorem ad_TabF {a b : Nat → Int32} {σ τ : Nat} {P : Nat → Prop} (h : ad_Tab a σ P) (f : ad_Fr a b τ) (n : σ ≠ τ) : ad_Tab b σ P := by
  intro s hs
  rw [f (256 * σ + s) (by omega)]
  exact h s hs
end
section
/-- a set by its bits, below k -/
def ad_mk (p : Nat → Bool) : Nat → Nat
  | 0 => 0
  | k + 1 => if p k = true then ad_mk p k ||| 2 ^ k else ad_mk p k
theorem ad_mk_tb (p : Nat → Bool) (k i : Nat) : (ad_mk p k).testBit i = true ↔ i < k ∧ p i = true := by
  induction k with
  | zero => simp [ad_mk]
  | succ k ih =>
    unfold ad_mk
    by_cases h : p k = true
    · rw [if_pos h, Nat.testBit_or, Bool.or_eq_true, ih, Nat.testBit_two_pow, decide_eq_true_eq]
      constructor
      · rintro (⟨a, b⟩ | rfl)
        · exact ⟨by omega, b⟩
        · exact ⟨by omega, h⟩
      · rintro ⟨a, b⟩
        by_cases e : k = i
        · exact Or.inr e
        · exact Or.inl ⟨by omega, b⟩
    · rw [if_neg h, ih]
      constructor
      · rintro ⟨a, b⟩; exact ⟨by omega, b⟩
      · rintro ⟨a, b⟩
        by_cases e : i = k
        · rw [e] at b; exact absurd b h
        · exact ⟨by omega, b⟩
theorem ad_mk_lt (p : Nat → Bool) {k : Nat} (hk : k ≤ 8) : ad_mk p k < 256 := by
  apply ad_lt
  intro i hi
  cases h : (ad_mk p k).testBit i
  · rfl
  · have := (ad_mk_tb p k i).mp h; omega
/-- what a set attacks, by its first k members -/
def ad_ht (A : Nat → Nat) (s : Nat) : Nat → Nat
  | 0 => 0
  | k + 1 => if s.testBit k = true then ad_ht A s k ||| A k else ad_ht A s k
theorem ad_ht_tb (A : Nat → Nat) (s k i : Nat) : (ad_ht A s k).testBit i = true ↔ ∃ a, a < k ∧ s.testBit a = true ∧ (A a).testBit i = true := by
  induction k with
  | zero => simp [ad_ht]
  | succ k ih =>
    unfold ad_ht
    by_cases h : s.testBit k = true
    · rw [if_pos h, Nat.testBit_or, Bool.or_eq_true, ih]
      constructor
      · rintro (⟨a, b, c, d⟩ | d)
        · exact ⟨a, by omega, c, d⟩
        · exact ⟨k, by omega, h, d⟩
      · rintro ⟨a, b, c, d⟩
        by_cases e : a = k
        · rw [e] at d; exact Or.inr d
        · exact Or.inl ⟨a, by omega, c, d⟩
    · rw [if_neg h, ih]
      constructor
      · rintro ⟨a, b, c, d⟩; exact ⟨a, by omega, c, d⟩
      · rintro ⟨a, b, c, d⟩
        by_cases e : a = k
        · rw [e] at c; exact absurd c h
        · exact ⟨a, by omega, c, d⟩
theorem ad_ht_lt {A : Nat → Nat} (hA : ∀ a, A a < 256) (s k : Nat) : ad_ht A s k < 256 := by
  apply ad_lt
  intro i hi
  cases h : (ad_ht A s k).testBit i
  · rfl
  · obtain ⟨a, _, _, d⟩ := (ad_ht_tb A s k i).mp h
    have := ad_b8 (hA a) d
    omega
def ad_H (A : Nat → Nat) (s : Nat) : Nat := ad_ht A s 8
theorem ad_H_tb (A : Nat → Nat) (s i : Nat) : (ad_H A s).testBit i = true ↔ ∃ a, a < 8 ∧ s.testBit a = true ∧ (A a).testBit i = true := ad_ht_tb A s 8 i
theorem ad_H_lt {A : Nat → Nat} (hA : ∀ a, A a < 256) (s : Nat) : ad_H A s < 256 := ad_ht_lt hA s 8
theorem ad_H_mono (A : Nat → Nat) {s t : Nat} (h : ad_sub s t) : ad_sub (ad_H A s) (ad_H A t) := by
  intro i hi
  obtain ⟨a, b, c, d⟩ := (ad_H_tb A s i).mp hi
  exact (ad_H_tb A t i).mpr ⟨a, b, h a c, d⟩
/-- the attackers -/
def ad_B (A : Nat → Nat) (b : Nat) : Nat := ad_mk (fun a => (A a).testBit b) 8
theorem ad_B_tb (A : Nat → Nat) (b a : Nat) : (ad_B A b).testBit a = true ↔ a < 8 ∧ (A a).testBit b = true := ad_mk_tb _ 8 a
theorem ad_B_lt (A : Nat → Nat) (b : Nat) : ad_B A b < 256 := ad_mk_lt _ (by decide)
/-- the targets as the component makes them -/
theorem ad_tgt {A : Nat → Nat} (hA : ∀ a, A a < 256) {s : Nat} : ad_mk (fun a => decide (¬ (ad_B A a &&& s = 0))) 8 = ad_H A s := by
  apply ad_ext
  intro i
  rw [ad_mk_tb, ad_H_tb, decide_eq_true_eq]
  constructor
  · rintro ⟨_, h⟩
    obtain ⟨a, ha⟩ := ad_nz h
    rw [Nat.testBit_and, Bool.and_eq_true, ad_B_tb] at ha
    exact ⟨a, ha.1.1, ha.2, ha.1.2⟩
  · rintro ⟨a, h8, ha, hi⟩
    refine ⟨ad_b8 (hA a) hi, fun z => ?_⟩
    exact ad_and0.mp z a ((ad_B_tb A i a).mpr ⟨h8, hi⟩) ha
def ad_D (T : Nat) (A : Nat → Nat) (s : Nat) : Nat := ad_mk (fun a => T.testBit a && decide (ad_df (ad_B A a) (ad_H A s) = 0)) 8
theorem ad_D_lt (T : Nat) (A : Nat → Nat) (s : Nat) : ad_D T A s < 256 := ad_mk_lt _ (by decide)
theorem ad_D_tb (T : Nat) (A : Nat → Nat) (s i : Nat) : (ad_D T A s).testBit i = true ↔ i < 8 ∧ T.testBit i = true ∧ ad_sub (ad_B A i) (ad_H A s) := by
  unfold ad_D
  rw [ad_mk_tb, Bool.and_eq_true, decide_eq_true_eq, ad_sub_df (ad_B_lt A i)]
theorem ad_D_mono (T : Nat) (A : Nat → Nat) {s t : Nat} (h : ad_sub s t) : ad_sub (ad_D T A s) (ad_D T A t) := by
  intro i hi
  obtain ⟨a, b, c⟩ := (ad_D_tb T A s i).mp hi
  exact (ad_D_tb T A t i).mpr ⟨a, b, ad_subT c (ad_H_mono A h)⟩
/-- a count of bits -/
def ad_cn (p : Nat → Bool) : Nat → Nat
  | 0 => 0
  | k + 1 => ad_cn p k + (p k).toNat
theorem ad_cn_le (p : Nat → Bool) (k : Nat) : ad_cn p k ≤ k := by
  induction k with
  | zero => exact Nat.le_refl 0
  | succ k ih => unfold ad_cn; have := Bool.toNat_le (p k); omega
theorem ad_cn_mono {p q : Nat → Bool} {k : Nat} (h : ∀ i, i < k → p i = true → q i = true) : ad_cn p k ≤ ad_cn q k := by
  induction k with
  | zero => exact Nat.le_refl 0
  | succ k ih =>
    unfold ad_cn
    have a := ih (fun i hi => h i (by omega))
    have b : (p k).toNat ≤ (q k).toNat := by
      cases hp : p k
      · exact Nat.zero_le _
      · rw [h k (by omega) hp]; exact Nat.le_refl _
    omega
theorem ad_cn_lt {p q : Nat → Bool} {k i : Nat} (h : ∀ i, i < k → p i = true → q i = true) (hi : i < k) (hp : p i = false) (hq : q i = true) : ad_cn p k < ad_cn q k := by
  induction k with
  | zero => omega
  | succ k ih =>
    unfold ad_cn
    by_cases e : i = k
    · subst e
      have a := ad_cn_mono (p := p) (q := q) (k := i) (fun j hj => h j (by omega))
      rw [hp, hq]
      show ad_cn p i + 0 < ad_cn q i + 1
      omega
    · have a := ih (fun i hi => h i (by omega)) (by omega)
      have b : (p k).toNat ≤ (q k).toNat := by
        cases hp : p k
        · exact Nat.zero_le _
        · rw [h k (by omega) hp]; exact Nat.le_refl _
      omega
theorem ad_cn_add {p q r : Nat → Bool} {k : Nat} (h : ∀ i, i < k → (p i).toNat + (q i).toNat = (r i).toNat) : ad_cn p k + ad_cn q k = ad_cn r k := by
  induction k with
  | zero => rfl
  | succ k ih =>
    unfold ad_cn
    have a := ih (fun i hi => h i (by omega))
    have b := h k (by omega)
    omega
def ad_pc (s : Nat) : Nat := ad_cn (fun i => s.testBit i) 8
theorem ad_pc_le (s : Nat) : ad_pc s ≤ 8 := ad_cn_le _ 8
theorem ad_pc_mono {s t : Nat} (h : ad_sub s t) : ad_pc s ≤ ad_pc t := ad_cn_mono (fun i _ => h i)
theorem ad_pc_lt {s t : Nat} (ht : t < 256) (h : ad_sub s t) (n : s ≠ t) : ad_pc s < ad_pc t := by
  have : ∃ i, t.testBit i = true ∧ ¬ s.testBit i = true := by
    apply Classical.byContradiction
    intro hn
    apply n
    apply ad_subA h
    intro i hi
    apply Classical.byContradiction
    intro hs
    exact hn ⟨i, hi, hs⟩
  obtain ⟨i, a, b⟩ := this
  exact ad_cn_lt (i := i) (fun j _ => h j) (ad_b8 ht a) (by simpa using b) a
theorem ad_pc_pos {s : Nat} (hs : s < 256) (n : s ≠ 0) : 1 ≤ ad_pc s := by
  have := ad_pc_lt (s := 0) hs (ad_sub0 s) (Ne.symm n)
  omega
theorem ad_pc_df {s c : Nat} (hs : s < 256) (h : ad_sub c s) : ad_pc c + ad_pc (ad_df s c) = ad_pc s := by
  apply ad_cn_add
  intro i _
  rw [ad_df_tb hs]
  cases hc : c.testBit i
  · cases s.testBit i <;> rfl
  · rw [h i hc]; rfl
/-- the closure -/
def ad_F (A : Nat → Nat) (w x : Nat) : Nat := x ||| (ad_H A x &&& w)
def ad_fw (A : Nat → Nat) (w : Nat) : Nat → Nat → Nat
  | 0, x => x
  | k + 1, x => ad_fw A w k (ad_F A w x)
theorem ad_F_tb (A : Nat → Nat) (w x i : Nat) : (ad_F A w x).testBit i = true ↔ x.testBit i = true ∨ ((∃ a, a < 8 ∧ x.testBit a = true ∧ (A a).testBit i = true) ∧ w.testBit i = true) := by
  unfold ad_F
  rw [Nat.testBit_or, Nat.testBit_and, Bool.or_eq_true, Bool.and_eq_true, ad_H_tb]
theorem ad_F_lt {A : Nat → Nat} (hA : ∀ a, A a < 256) {w x : Nat} (hx : x < 256) : ad_F A w x < 256 := ad_orlt hx (ad_andlt (ad_H_lt hA x))
theorem ad_fw_s (A : Nat → Nat) (w : Nat) : ∀ k x, ad_fw A w (k + 1) x = ad_F A w (ad_fw A w k x)
  | 0, _ => rfl
  | k + 1, x => by
    show ad_fw A w (k + 1) (ad_F A w x) = _
    rw [ad_fw_s A w k]
    rfl
theorem ad_fw_lt {A : Nat → Nat} (hA : ∀ a, A a < 256) (w : Nat) : ∀ k x, x < 256 → ad_fw A w k x < 256
  | 0, _, h => h
  | k + 1, x, h => ad_fw_lt hA w k _ (ad_F_lt hA h)
theorem ad_fw_st {A : Nat → Nat} (hA : ∀ a, A a < 256) (w x : Nat) (hx : x < 256) : ∀ k, ad_F A w (ad_fw A w k x) = ad_fw A w k x ∨ k + ad_pc x ≤ ad_pc (ad_fw A w k x) := by
  intro k
  induction k with
  | zero => right; show 0 + ad_pc x ≤ ad_pc x; omega
  | succ k ih =>
    rw [ad_fw_s]
    rcases ih with h | h
    · left; rw [h, h]
    · by_cases e : ad_F A w (ad_fw A w k x) = ad_fw A w k x
      · left; rw [e, e]
      · right
        have hl := ad_F_lt hA (w := w) (ad_fw_lt hA w k x hx)
        have := ad_pc_lt (s := ad_fw A w k x) hl (fun i hi => (ad_F_tb A w _ i).mpr (Or.inl hi)) (Ne.symm e)
        omega
theorem ad_pc_2 {a : Nat} (h : a < 8) : 1 ≤ ad_pc (2 ^ a) := ad_pc_pos (ad_2lt h) (by have := Nat.two_pow_pos a; omega)
theorem ad_full8 {s : Nat} (hs : s < 256) (h : 8 ≤ ad_pc s) : s = 255 := by
  apply Classical.byContradiction
  intro n
  have := ad_pc_lt (s := s) (t := 255) (by decide) (ad_sub255 hs) n
  have := ad_pc_le 255
  omega
theorem ad_fix {A : Nat → Nat} (hA : ∀ a, A a < 256) (w : Nat) {a : Nat} (ha : a < 8) : ad_F A w (ad_fw A w 7 (2 ^ a)) = ad_fw A w 7 (2 ^ a) := by
  rcases ad_fw_st hA w (2 ^ a) (ad_2lt ha) 7 with h | h
  · exact h
  · have := ad_pc_2 ha
    have e := ad_full8 (ad_fw_lt hA w 7 _ (ad_2lt ha)) (by omega)
    rw [e]
    apply ad_subA
    · exact ad_sub255 (ad_F_lt hA (by decide))
    · exact fun i hi => (ad_F_tb A w _ i).mpr (Or.inl hi)
/-- b is reached from a within w -/
def ad_R (A : Nat → Nat) (w a b : Nat) : Prop := (ad_fw A w 7 (2 ^ a)).testBit b = true
theorem ad_R8 {A : Nat → Nat} (hA : ∀ a, A a < 256) (w : Nat) {a : Nat} (ha : a < 8) : ad_fw A w 8 (2 ^ a) = ad_fw A w 7 (2 ^ a) := by
  rw [ad_fw_s, ad_fix hA w ha]
theorem ad_R_lt {A : Nat → Nat} (hA : ∀ a, A a < 256) {w a b : Nat} (ha : a < 8) (h : ad_R A w a b) : b < 8 := ad_b8 (ad_fw_lt hA w 7 _ (ad_2lt ha)) h
theorem ad_fw_min {A : Nat → Nat} {w : Nat} (C : Nat → Prop) (hC : ∀ x y, C x → (A x).testBit y = true → w.testBit y = true → C y) : ∀ k z, (∀ i, z.testBit i = true → C i) → ∀ i, (ad_fw A w k z).testBit i = true → C i
  | 0, _, h => h
  | k + 1, z, h => ad_fw_min C hC k (ad_F A w z) (fun i hi => by
      rcases (ad_F_tb A w z i).mp hi with h1 | ⟨⟨a, _, h2, h3⟩, h4⟩
      · exact h i h1
      · exact hC a i (h a h2) h3 h4)
theorem ad_R_min {A : Nat → Nat} {w a : Nat} (C : Nat → Prop) (h0 : C a) (hC : ∀ x y, C x → (A x).testBit y = true → w.testBit y = true → C y) {b : Nat} (h : ad_R A w a b) : C b :=
  ad_fw_min C hC 7 (2 ^ a) (fun i hi => by
    rw [Nat.testBit_two_pow, decide_eq_true_eq] at hi
    rw [← hi]; exact h0) b h
theorem ad_fw_in (A : Nat → Nat) (w : Nat) : ∀ k z i, z.testBit i = true → (ad_fw A w k z).testBit i = true
  | 0, _, _, h => h
  | k + 1, z, i, h => ad_fw_in A w k (ad_F A w z) i ((ad_F_tb A w z i).mpr (Or.inl h))
theorem ad_R_refl (A : Nat → Nat) (w a : Nat) : ad_R A w a a := ad_fw_in A w 7 (2 ^ a) a (by rw [Nat.testBit_two_pow]; exact decide_eq_true rfl)
theorem ad_R_step {A : Nat → Nat} (hA : ∀ a, A a < 256) {w a b c : Nat} (ha : a < 8) (h : ad_R A w a b) (e : (A b).testBit c = true) (hc : w.testBit c = true) : ad_R A w a c := by
  unfold ad_R
  rw [← ad_fix hA w ha]
  exact (ad_F_tb A w _ c).mpr (Or.inr ⟨⟨b, ad_R_lt hA ha h, h, e⟩, hc⟩)
theorem ad_R_trans {A : Nat → Nat} (hA : ∀ a, A a < 256) {w a b c : Nat} (ha : a < 8) (h : ad_R A w a b) (k : ad_R A w b c) : ad_R A w a c :=
  ad_R_min (fun x => ad_R A w a x) h (fun _ _ hx e hw => ad_R_step hA ha hx e hw) k
theorem ad_R_w {A : Nat → Nat} {w a b : Nat} (ha : w.testBit a = true) (h : ad_R A w a b) : w.testBit b = true :=
  ad_R_min (fun x => w.testBit x = true) ha (fun _ _ _ _ hw => hw) h
theorem ad_R_du {A : Nat → Nat} (hA : ∀ a, A a < 256) {w a b : Nat} (hw : w < 256) (ha : w.testBit a = true) (hb : w.testBit b = true) : ad_R A w b a ↔ ad_R (ad_B A) w a b := by
  constructor
  · intro h
    have := ad_R_min (fun x => w.testBit x = true ∧ ad_R (ad_B A) w x b) ⟨hb, ad_R_refl _ _ _⟩ (fun x y hx e hy => ⟨hy, by
      refine ad_R_trans (ad_B_lt A) (ad_b8 hw hy) ?_ hx.2
      exact ad_R_step (ad_B_lt A) (ad_b8 hw hy) (ad_R_refl _ _ _) ((ad_B_tb A y x).mpr ⟨ad_b8 hw hx.1, e⟩) hx.1⟩) h
    exact this.2
  · intro h
    have := ad_R_min (fun x => w.testBit x = true ∧ ad_R A w x a) ⟨ha, ad_R_refl _ _ _⟩ (fun x y hx e hy => ⟨hy, by
      refine ad_R_trans hA (ad_b8 hw hy) ?_ hx.2
      exact ad_R_step hA (ad_b8 hw hy) (ad_R_refl _ _ _) ((ad_B_tb A x y).mp e).2 hx.1⟩) h
    exact this.2
/-- the component of a within w -/
def ad_cc (A : Nat → Nat) (w a : Nat) : Nat := ad_fw A w 7 (2 ^ a) &&& ad_fw (ad_B A) w 7 (2 ^ a)
theorem ad_cc_lt {A : Nat → Nat} (hA : ∀ a, A a < 256) (w : Nat) {a : Nat} (ha : a < 8) : ad_cc A w a < 256 := ad_andlt (ad_fw_lt hA w 7 _ (ad_2lt ha))
theorem ad_cc_tb {A : Nat → Nat} (hA : ∀ a, A a < 256) {w a : Nat} (hw : w < 256) (ha : w.testBit a = true) (b : Nat) : (ad_cc A w a).testBit b = true ↔ ad_R A w a b ∧ ad_R A w b a := by
  unfold ad_cc
  rw [Nat.testBit_and, Bool.and_eq_true]
  constructor
  · rintro ⟨h, k⟩; exact ⟨h, (ad_R_du hA hw ha (ad_R_w ha h)).mpr k⟩
  · rintro ⟨h, k⟩; exact ⟨h, (ad_R_du hA hw ha (ad_R_w ha h)).mp k⟩
/-- the circle as the reference makes it -/
theorem ad_cir {A : Nat → Nat} (hA : ∀ a, A a < 256) {w a : Nat} (hw : w < 256) (ha : w.testBit a = true) : ad_mk (fun b => (ad_fw A w 8 (2 ^ a)).testBit b && (ad_fw A w 8 (2 ^ b)).testBit a) 8 = ad_cc A w a := by
  apply ad_ext
  intro b
  rw [ad_mk_tb, ad_cc_tb hA hw ha, Bool.and_eq_true, ad_R8 hA w (ad_b8 hw ha)]
  constructor
  · rintro ⟨h8, h, k⟩
    rw [ad_R8 hA w h8] at k
    exact ⟨h, k⟩
  · rintro ⟨h, k⟩
    have h8 := ad_R_lt hA (ad_b8 hw ha) h
    refine ⟨h8, h, ?_⟩
    rw [ad_R8 hA w h8]
    exact k
theorem ad_cc_w {A : Nat → Nat} (hA : ∀ a, A a < 256) {w a : Nat} (hw : w < 256) (ha : w.testBit a = true) : ad_sub (ad_cc A w a) w :=
  fun b hb => ad_R_w ha ((ad_cc_tb hA hw ha b).mp hb).1
theorem ad_cc_self {A : Nat → Nat} (hA : ∀ a, A a < 256) {w a : Nat} (hw : w < 256) (ha : w.testBit a = true) : (ad_cc A w a).testBit a = true :=
  (ad_cc_tb hA hw ha a).mpr ⟨ad_R_refl _ _ _, ad_R_refl _ _ _⟩
theorem ad_cc_eq {A : Nat → Nat} (hA : ∀ a, A a < 256) {w a x : Nat} (hw : w < 256) (ha : w.testBit a = true) (hx : (ad_cc A w a).testBit x = true) : ad_cc A w x = ad_cc A w a := by
  have hxw := ad_cc_w hA hw ha x hx
  obtain ⟨h1, h2⟩ := (ad_cc_tb hA hw ha x).mp hx
  apply ad_ext
  intro y
  rw [ad_cc_tb hA hw hxw, ad_cc_tb hA hw ha]
  constructor
  · rintro ⟨p, q⟩
    have hy := ad_R_w hxw p
    exact ⟨ad_R_trans hA (ad_b8 hw ha) h1 p, ad_R_trans hA (ad_b8 hw hy) q h2⟩
  · rintro ⟨p, q⟩
    have hy := ad_R_w ha p
    exact ⟨ad_R_trans hA (ad_b8 hw hxw) h2 p, ad_R_trans hA (ad_b8 hw hy) q h1⟩
end
section
/-! the senses, as properties of a graph (T: who is there, A: whom each attacks) -/
def ad_free (T : Nat) (A : Nat → Nat) (s : Nat) : Prop := ad_sub s T ∧ ad_H A s &&& s = 0
def ad_adm (T : Nat) (A : Nat → Nat) (s : Nat) : Prop := ad_free T A s ∧ ad_sub s (ad_D T A s)
def ad_comp (T : Nat) (A : Nat → Nat) (s : Nat) : Prop := ad_free T A s ∧ s = ad_D T A s
def ad_stab (T : Nat) (A : Nat → Nat) (s : Nat) : Prop := ad_free T A s ∧ s ||| ad_H A s = T
/-- within all sets of a sense -/
def ad_wi (T : Nat) (Q : Nat → Prop) (s : Nat) : Prop := ad_sub s T ∧ ∀ t, t < 256 → Q t → ad_sub s t
/-- c is what all sets of a sense share -/
def ad_com (T : Nat) (Q : Nat → Prop) (c : Nat) : Prop := ∀ i, c.testBit i = true ↔ (T.testBit i = true ∧ ∀ s, s < 256 → Q s → s.testBit i = true)
def ad_gr (Q L : Nat → Prop) (s : Nat) : Prop := Q s ∧ L s ∧ ∀ t, t < 256 → Q t → L t → ad_sub s t → t = s
def ad_wide (A : Nat → Nat) (Q : Nat → Prop) (s : Nat) : Prop := Q s ∧ ∀ t, t < 256 → Q t → ad_sub (s ||| ad_H A s) (t ||| ad_H A t) → t ||| ad_H A t = s ||| ad_H A s
theorem ad_com_wi {T : Nat} {Q : Nat → Prop} {c : Nat} (h : ad_com T Q c) (s : Nat) : ad_sub s c ↔ ad_wi T Q s := by
  constructor
  · intro k
    exact ⟨fun i hi => ((h i).mp (k i hi)).1, fun t ht q i hi => ((h i).mp (k i hi)).2 t ht q⟩
  · rintro ⟨a, b⟩ i hi
    exact (h i).mpr ⟨a i hi, fun t ht q => b t ht q i hi⟩
theorem ad_com_eq {T : Nat} {Q : Nat → Prop} {c d : Nat} (h : ad_com T Q c) (k : ad_com T Q d) : c = d := ad_ext fun i => (h i).trans (k i).symm
theorem ad_gr_L {Q L M : Nat → Prop} (e : ∀ s, s < 256 → (Q s → (L s ↔ M s))) {s : Nat} (hs : s < 256) : ad_gr Q L s ↔ ad_gr Q M s := by
  constructor
  · rintro ⟨a, b, c⟩
    exact ⟨a, (e s hs a).mp b, fun t ht q l => c t ht q ((e t ht q).mpr l)⟩
  · rintro ⟨a, b, c⟩
    exact ⟨a, (e s hs a).mpr b, fun t ht q l => c t ht q ((e t ht q).mp l)⟩
theorem ad_comp_X {T : Nat} {A : Nat → Nat} (s : Nat) : ad_comp T A s ↔ ad_adm T A s ∧ ad_sub (ad_D T A s) s := by
  constructor
  · rintro ⟨a, b⟩
    refine ⟨⟨a, ?_⟩, ?_⟩
    · rw [← b]; exact ad_subR s
    · rw [← b]; exact ad_subR s
  · rintro ⟨⟨a, b⟩, c⟩
    exact ⟨a, ad_subA b c⟩
/-- the twelve senses but the last -/
def ad_P3 (T : Nat) (A : Nat → Nat) (s : Nat) : Prop := ad_comp T A s ∧ ad_wi T (ad_comp T A) s
def ad_P4 (T : Nat) (A : Nat → Nat) (s : Nat) : Prop := ad_gr (ad_adm T A) (fun _ => True) s
def ad_P6 (T : Nat) (A : Nat → Nat) (s : Nat) : Prop := ad_wide A (ad_comp T A) s
def ad_P7 (T : Nat) (A : Nat → Nat) (s : Nat) : Prop := ad_wide A (ad_free T A) s
def ad_P8 (T : Nat) (A : Nat → Nat) (s : Nat) : Prop := ad_gr (ad_free T A) (fun _ => True) s
def ad_P9 (T : Nat) (A : Nat → Nat) (s : Nat) : Prop := ad_gr (ad_adm T A) (ad_wi T (ad_P4 T A)) s
def ad_P10 (T : Nat) (A : Nat → Nat) (s : Nat) : Prop := ad_gr (ad_adm T A) (ad_wi T (ad_P6 T A)) s
theorem ad_P3_Y {T : Nat} {A : Nat → Nat} {s c : Nat} (hs : s < 256) (h : ad_com T (ad_comp T A) c) : ad_P3 T A s ↔ ad_comp T A s ∧ s = c := by
  constructor
  · rintro ⟨a, b⟩
    refine ⟨a, ad_subA ((ad_com_wi h s).mpr b) fun i hi => ((h i).mp hi).2 s hs a⟩
  · rintro ⟨a, b⟩
    refine ⟨a, (ad_com_wi h s).mp ?_⟩
    rw [b]; exact ad_subR c
/-! the last sense: a work list -/
/-- the lowest member -/
def ad_fi (w : Nat) : Nat := if w.testBit 0 = true then 0 else if w.testBit 1 = true then 1 else if w.testBit 2 = true then 2 else if w.testBit 3 = true then 3 else if w.testBit 4 = true then 4 else if w.testBit 5 = true then 5 else if w.testBit 6 = true then 6 else if w.testBit 7 = true then 7 else 0
theorem ad_fi_eq {w a : Nat} (h8 : a < 8) (ha : w.testBit a = true) (hl : ∀ b, b < a → ¬ w.testBit b = true) : ad_fi w = a := by
  have e : a = 0 ∨ a = 1 ∨ a = 2 ∨ a = 3 ∨ a = 4 ∨ a = 5 ∨ a = 6 ∨ a = 7 := by omega
  rcases e with rfl | rfl | rfl | rfl | rfl | rfl | rfl | rfl <;> unfold ad_fi
  · rw [if_pos ha]
  · rw [if_neg (hl 0 (by decide)), if_pos ha]
  · rw [if_neg (hl 0 (by decide)), if_neg (hl 1 (by decide)), if_pos ha]
  · rw [if_neg (hl 0 (by decide)), if_neg (hl 1 (by decide)), if_neg (hl 2 (by decide)), if_pos ha]
  · rw [if_neg (hl 0 (by decide)), if_neg (hl 1 (by decide)), if_neg (hl 2 (by decide)), if_neg (hl 3 (by decide)), if_pos ha]
  · rw [if_neg (hl 0 (by decide)), if_neg (hl 1 (by decide)), if_neg (hl 2 (by decide)), if_neg (hl 3 (by decide)), if_neg (hl 4 (by decide)), if_pos ha]
  · rw [if_neg (hl 0 (by decide)), if_neg (hl 1 (by decide)), if_neg (hl 2 (by decide)), if_neg (hl 3 (by decide)), if_neg (hl 4 (by decide)), if_neg (hl 5 (by decide)), if_pos ha]
  · rw [if_neg (hl 0 (by decide)), if_neg (hl 1 (by decide)), if_neg (hl 2 (by decide)), if_neg (hl 3 (by decide)), if_neg (hl 4 (by decide)), if_neg (hl 5 (by decide)), if_neg (hl 6 (by decide)), if_pos ha]
theorem ad_lo : ∀ k w : Nat, w.testBit k = true → ∃ a, a ≤ k ∧ w.testBit a = true ∧ ∀ b, b < a → ¬ w.testBit b = true := by
  intro k
  induction k using Nat.strongRecOn with
  | ind k ih =>
    intro w h
    by_cases e : ∃ j, j < k ∧ w.testBit j = true
    · obtain ⟨j, hj, hb⟩ := e
      obtain ⟨a, h1, h2, h3⟩ := ih j hj w hb
      exact ⟨a, by omega, h2, h3⟩
    · exact ⟨k, Nat.le_refl k, h, fun b hb z => e ⟨b, hb, z⟩⟩
theorem ad_fi_tb {w : Nat} (hw : w < 256) (n : w ≠ 0) : w.testBit (ad_fi w) = true ∧ ad_fi w < 8 ∧ ∀ b, b < ad_fi w → ¬ w.testBit b = true := by
  obtain ⟨i, hi⟩ := ad_nz n
  obtain ⟨a, h1, h2, h3⟩ := ad_lo i w hi
  have h8 := ad_b8 hw h2
  rw [ad_fi_eq h8 h2 h3]
  exact ⟨h2, h8, h3⟩
/-- the part of a component that is looked at -/
def ad_pa (A : Nat → Nat) (s w c : Nat) : Nat := ad_df c (ad_H A (ad_df (s &&& w) c))
/-- the parts are laid onto a list, from argument 8 - d on -/
def ad_pt (A : Nat → Nat) (s w : Nat) : Nat → Nat → List Nat → List Nat
  | 0, _, l => l
  | d + 1, r, l => if r.testBit (7 - d) = true then ad_pt A s w d (ad_df r (ad_cc A w (7 - d))) (if ad_pa A s w (ad_cc A w (7 - d)) = 0 then l else ad_pa A s w (ad_cc A w (7 - d)) :: l) else ad_pt A s w d r l
def ad_full (A : Nat → Nat) (s w : Nat) : Prop := ad_H A (s &&& w) &&& (s &&& w) = 0 ∧ ∀ a, a < 8 → w.testBit a = true → ¬ (s &&& w).testBit a = true → ¬ (ad_H A (s &&& w ||| 2 ^ a) &&& (s &&& w ||| 2 ^ a) = 0)
def ad_run (A : Nat → Nat) (s : Nat) : Nat → List Nat → Prop
  | 0, _ => True
  | _ + 1, [] => True
  | k + 1, w :: l => if ad_cc A w (ad_fi w) = w then ad_full A s w ∧ ad_run A s k l else ad_run A s k (ad_pt A s w 8 w l)
def ad_P11 (T : Nat) (A : Nat → Nat) (s : Nat) : Prop := ad_free T A s ∧ ad_run A s 16 (if T = 0 then [] else [T])
/-- sizes -/
def ad_g (w : Nat) : Nat := 2 * ad_pc w - 1
def ad_ps : List Nat → Nat
  | [] => 0
  | w :: l => ad_pc w + ad_ps l
def ad_ph : List Nat → Nat
  | [] => 0
  | w :: l => ad_g w + ad_ph l
/-- all on the list are sets of some that are there -/
def ad_ok (T : Nat) : List Nat → Prop
  | [] => True
  | w :: l => (w < 256 ∧ w ≠ 0 ∧ ad_sub w T) ∧ ad_ok T l
theorem ad_ok_len {T : Nat} : ∀ l, ad_ok T l → l.length ≤ ad_ps l
  | [], _ => Nat.le_refl 0
  | w :: l, h => by
    have a := ad_ok_len l h.2
    have b := ad_pc_pos h.1.1 h.1.2.1
    show l.length + 1 ≤ ad_pc w + ad_ps l
    omega
theorem ad_pa_lt {A : Nat → Nat} (hA : ∀ a, A a < 256) (s w : Nat) {a : Nat} (ha : a < 8) : ad_pa A s w (ad_cc A w a) < 256 := ad_df_lt (ad_cc_lt hA w ha)
theorem ad_pa_sub {A : Nat → Nat} {s w c : Nat} (hc : c < 256) : ad_sub (ad_pa A s w c) c := by
  intro i hi
  unfold ad_pa at hi
  rw [ad_df_tb hc, Bool.and_eq_true] at hi
  exact hi.1
/-- what is left are whole components -/
def ad_cl (A : Nat → Nat) (w r : Nat) : Prop := r < 256 ∧ ad_sub r w ∧ ∀ x, r.testBit x = true → ad_sub (ad_cc A w x) r
theorem ad_cl_w {A : Nat → Nat} (hA : ∀ a, A a < 256) {w : Nat} (hw : w < 256) : ad_cl A w w := ⟨hw, ad_subR w, fun _ hx => ad_cc_w hA hw hx⟩
theorem ad_cl_df {A : Nat → Nat} (hA : ∀ a, A a < 256) {w r a : Nat} (hw : w < 256) (h : ad_cl A w r) (ha : r.testBit a = true) : ad_cl A w (ad_df r (ad_cc A w a)) := by
  obtain ⟨h1, h2, h3⟩ := h
  refine ⟨ad_df_lt h1, fun i hi => ?_, fun x hx y hy => ?_⟩
  · rw [ad_df_tb h1, Bool.and_eq_true] at hi; exact h2 i hi.1
  · rw [ad_df_tb h1, Bool.and_eq_true] at hx ⊢
    refine ⟨h3 x hx.1 y hy, ?_⟩
    cases hb : (ad_cc A w a).testBit y
    · rfl
    · have e1 := ad_cc_eq hA hw (h2 a ha) hb
      have e2 := ad_cc_eq hA hw (h2 x hx.1) hy
      have e3 := ad_cc_self hA hw (h2 x hx.1)
      rw [← e2, e1] at e3
      rw [e3] at hx
      exact absurd hx.2 (by decide)
theorem ad_g_step {A : Nat → Nat} (hA : ∀ a, A a < 256) {w r a s : Nat} (hw : w < 256) (h : ad_cl A w r) (ha : r.testBit a = true) : ad_g (ad_cc A w a) + ad_g (ad_df r (ad_cc A w a)) ≤ ad_g r ∧ (ad_cc A w a ≠ r → ad_g (ad_cc A w a) + ad_g (ad_df r (ad_cc A w a)) + 1 ≤ ad_g r) ∧ ad_g (ad_pa A s w (ad_cc A w a)) ≤ ad_g (ad_cc A w a) ∧ ad_pc (ad_pa A s w (ad_cc A w a)) + ad_pc (ad_df r (ad_cc A w a)) ≤ ad_pc r := by
  have h8 := ad_b8 h.1 ha
  have hc := ad_cc_lt hA w h8
  have e := ad_pc_df h.1 (h.2.2 a ha)
  have p1 := ad_pc_mono (ad_pa_sub (A := A) (s := s) (w := w) hc)
  have p2 : 1 ≤ ad_pc (ad_cc A w a) := ad_pc_pos hc (fun z => by
    have := ad_cc_self hA hw (h.2.1 a ha)
    rw [z, Nat.zero_testBit] at this
    exact absurd this (by decide))
  unfold ad_g
  refine ⟨by omega, fun n => ?_, by omega, by omega⟩
  have := ad_pc_lt h.1 (h.2.2 a ha) n
  omega
theorem ad_pt_ph {A : Nat → Nat} (hA : ∀ a, A a < 256) {s w : Nat} (hw : w < 256) : ∀ d r l, d ≤ 8 → ad_cl A w r → (∀ b, b < 8 - d → ¬ r.testBit b = true) → ad_ph (ad_pt A s w d r l) ≤ ad_ph l + ad_g r ∧ ((∃ x, r.testBit x = true ∧ ad_cc A w x ≠ r) → ad_ph (ad_pt A s w d r l) + 1 ≤ ad_ph l + ad_g r) := by
  intro d
  induction d with
  | zero =>
    intro r l _ hr hl
    refine ⟨Nat.le_add_right _ _, ?_⟩
    rintro ⟨x, hx, _⟩
    exact absurd hx (hl x (ad_b8 hr.1 hx))
  | succ d ih =>
    intro r l hd hr hl
    unfold ad_pt
    by_cases hb : r.testBit (7 - d) = true
    · rw [if_pos hb]
      obtain ⟨g1, g2, g3, _⟩ := ad_g_step hA (s := s) hw hr hb
      have hr' := ad_cl_df hA hw hr hb
      have hself := ad_cc_self hA hw (hr.2.1 _ hb)
      have k := (ih (ad_df r (ad_cc A w (7 - d))) (if ad_pa A s w (ad_cc A w (7 - d)) = 0 then l else ad_pa A s w (ad_cc A w (7 - d)) :: l) (by omega) hr' (fun b hbd z => by
        rw [ad_df_tb hr.1, Bool.and_eq_true] at z
        by_cases e : b = 7 - d
        · rw [e, hself] at z; exact absurd z.2 (by decide)
        · exact hl b (by omega) z.1)).1
      have k2 : ad_ph (if ad_pa A s w (ad_cc A w (7 - d)) = 0 then l else ad_pa A s w (ad_cc A w (7 - d)) :: l) ≤ ad_ph l + ad_g (ad_cc A w (7 - d)) := by
        by_cases z : ad_pa A s w (ad_cc A w (7 - d)) = 0
        · rw [if_pos z]; omega
        · rw [if_neg z]; show ad_g _ + ad_ph l ≤ _; omega
      refine ⟨by omega, ?_⟩
      rintro ⟨x, hx, hn⟩
      by_cases e : ad_cc A w (7 - d) = r
      · exfalso
        apply hn
        rw [ad_cc_eq hA hw (hr.2.1 _ hb) (x := x) (by rw [e]; exact hx), e]
      · have := g2 e
        omega
    · rw [if_neg hb]
      exact ih r l (by omega) hr (fun b hbd => by
        by_cases e : b = 7 - d
        · rw [e]; exact hb
        · exact hl b (by omega))
theorem ad_pt_1 {A : Nat → Nat} (hA : ∀ a, A a < 256) {T s w r a : Nat} {l : List Nat} (hw : w < 256) (hT : ad_sub w T) (hr : ad_cl A w r) (ha : r.testBit a = true) (hl : ad_ok T l) : ad_ok T (if ad_pa A s w (ad_cc A w a) = 0 then l else ad_pa A s w (ad_cc A w a) :: l) ∧ ad_ps (if ad_pa A s w (ad_cc A w a) = 0 then l else ad_pa A s w (ad_cc A w a) :: l) + ad_pc (ad_df r (ad_cc A w a)) ≤ ad_ps l + ad_pc r := by
  obtain ⟨_, _, _, g4⟩ := ad_g_step hA (s := s) hw hr ha
  have h8 := ad_b8 hr.1 ha
  by_cases z : ad_pa A s w (ad_cc A w a) = 0
  · rw [if_pos z]
    refine ⟨hl, by omega⟩
  · rw [if_neg z]
    refine ⟨⟨⟨ad_pa_lt hA s w h8, z, ad_subT (ad_pa_sub (ad_cc_lt hA w h8)) (ad_subT (hr.2.2 a ha) (ad_subT hr.2.1 hT))⟩, hl⟩, ?_⟩
    show ad_pc _ + ad_ps l + _ ≤ _
    omega
theorem ad_pt_ok {A : Nat → Nat} (hA : ∀ a, A a < 256) {T s w : Nat} (hw : w < 256) (hT : ad_sub w T) : ∀ d r l, ad_cl A w r → ad_ok T l → ad_ok T (ad_pt A s w d r l) ∧ ad_ps (ad_pt A s w d r l) ≤ ad_ps l + ad_pc r := by
  intro d
  induction d with
  | zero =>
    intro r l _ hl
    exact ⟨hl, Nat.le_add_right _ _⟩
  | succ d ih =>
    intro r l hr hl
    unfold ad_pt
    by_cases hb : r.testBit (7 - d) = true
    · rw [if_pos hb]
      obtain ⟨k1, k2⟩ := ad_pt_1 hA (s := s) hw hT hr hb hl
      obtain ⟨j1, j2⟩ := ih _ _ (ad_cl_df hA hw hr hb) k1
      exact ⟨j1, by omega⟩
    · rw [if_neg hb]
      exact ih r l hr hl
theorem ad_free_sub {T : Nat} {A : Nat → Nat} {s t : Nat} (h : ad_free T A t) (k : ad_sub s t) : ad_free T A s := by
  refine ⟨ad_subT k h.1, ad_and0.mpr fun i a b => ?_⟩
  exact ad_and0.mp h.2 i (ad_H_mono A k i a) (k i b)
theorem ad_or2_tb (s a i : Nat) : (s ||| 2 ^ a).testBit i = true ↔ s.testBit i = true ∨ a = i := by
  rw [Nat.testBit_or, Bool.or_eq_true, Nat.testBit_two_pow, decide_eq_true_eq]
theorem ad_full_X {T : Nat} {A : Nat → Nat} {s w : Nat} (hw : w < 256) (hT : ad_sub w T) : ad_gr (ad_free T A) (fun t => ad_sub t w) (s &&& w) ↔ ad_full A s w := by
  constructor
  · rintro ⟨h1, h2, h3⟩
    refine ⟨h1.2, fun a ha hwa hn z => ?_⟩
    have hs : ad_sub (s &&& w ||| 2 ^ a) w := by
      intro i hi
      rcases (ad_or2_tb _ _ _).mp hi with h | h
      · exact h2 i h
      · rw [← h]; exact hwa
    have := h3 (s &&& w ||| 2 ^ a) (ad_orlt (Nat.lt_of_le_of_lt Nat.and_le_right hw) (ad_2lt ha)) ⟨ad_subT hs hT, z⟩ hs (fun i hi => (ad_or2_tb _ _ _).mpr (Or.inl hi))
    apply hn
    rw [← this]
    exact (ad_or2_tb _ _ _).mpr (Or.inr rfl)
  · rintro ⟨h1, h2⟩
    refine ⟨⟨ad_subT (ad_subAnd s w) hT, h1⟩, ad_subAnd s w, fun t ht q l k => ?_⟩
    apply Classical.byContradiction
    intro n
    have : ∃ i, t.testBit i = true ∧ ¬ (s &&& w).testBit i = true := by
      apply Classical.byContradiction
      intro hn
      apply n
      apply ad_subA _ k
      intro i hi
      apply Classical.byContradiction
      intro hs
      exact hn ⟨i, hi, hs⟩
    obtain ⟨i, hi, hn⟩ := this
    have hsub : ad_sub (s &&& w ||| 2 ^ i) t := by
      intro j hj
      rcases (ad_or2_tb _ _ _).mp hj with h | h
      · exact k j h
      · rw [← h]; exact hi
    exact h2 i (ad_b8 ht hi) (l i hi) hn (ad_free_sub q hsub).2
/-- sums -/
def ad_sm (f : Nat → Nat) : Nat → Nat
  | 0 => 0
  | k + 1 => ad_sm f k + f k
theorem ad_sm_eq {f g : Nat → Nat} {k : Nat} (h : ∀ i, i < k → f i = g i) : ad_sm f k = ad_sm g k := by
  induction k with
  | zero => rfl
  | succ k ih => unfold ad_sm; rw [ih (fun i hi => h i (by omega)), h k (by omega)]
theorem ad_sm_0 (k : Nat) : ad_sm (fun _ => 0) k = 0 := by
  induction k with
  | zero => rfl
  | succ k ih => unfold ad_sm; rw [ih]
theorem ad_sm_add (f g : Nat → Nat) (k : Nat) : ad_sm (fun i => f i + g i) k = ad_sm f k + ad_sm g k := by
  induction k with
  | zero => rfl
  | succ k ih => unfold ad_sm; rw [ih]; omega
theorem ad_sm_swap (f : Nat → Nat → Nat) (m n : Nat) : ad_sm (fun i => ad_sm (fun j => f i j) n) m = ad_sm (fun j => ad_sm (fun i => f i j) m) n := by
  induction m with
  | zero => exact (ad_sm_0 n).symm
  | succ m ih =>
    show ad_sm (fun i => ad_sm (fun j => f i j) n) m + ad_sm (fun j => f m j) n = ad_sm (fun j => ad_sm (fun i => f i j) m + f m j) n
    rw [ih, ad_sm_add]
theorem ad_sm_off (f : Nat → Nat) (m : Nat) : ∀ k, ad_sm f (m + k) = ad_sm f m + ad_sm (fun j => f (m + j)) k
  | 0 => rfl
  | k + 1 => by
    show ad_sm f (m + k) + f (m + k) = ad_sm f m + (ad_sm (fun j => f (m + j)) k + f (m + k))
    rw [ad_sm_off f m k]; omega
theorem ad_sm_64 (f : Nat → Nat → Nat) : ∀ m, ad_sm (fun k => f (k / 8) (k % 8)) (8 * m) = ad_sm (fun i => ad_sm (fun j => f i j) 8) m
  | 0 => rfl
  | m + 1 => by
    show ad_sm (fun k => f (k / 8) (k % 8)) (8 * m + 8) = ad_sm (fun i => ad_sm (fun j => f i j) 8) m + ad_sm (fun j => f m j) 8
    rw [ad_sm_off, ad_sm_64 f m]
    congr 1
    apply ad_sm_eq
    intro j hj
    rw [show (8 * m + j) / 8 = m from by omega, show (8 * m + j) % 8 = j from by omega]
theorem ad_sm_cn (p : Nat → Bool) (k : Nat) : ad_cn p k = ad_sm (fun i => (p i).toNat) k := by
  induction k with
  | zero => rfl
  | succ k ih => unfold ad_cn ad_sm; rw [ih]
theorem ad_eff (A : Nat → Nat) {s : Nat} (hs : s < 256) : ad_sm (fun a => if s.testBit a = true then ad_pc (ad_B A a &&& s) else 0) 8 = ad_cn (fun k => s.testBit (k / 8) && s.testBit (k % 8) && (A (k / 8)).testBit (k % 8)) 64 := by
  rw [ad_sm_cn]
  have e := ad_sm_64 (fun i j => (s.testBit i && s.testBit j && (A i).testBit j).toNat) 8
  refine Eq.trans ?_ e.symm
  rw [ad_sm_swap]
  apply ad_sm_eq
  intro a _
  try dsimp only
  by_cases h : s.testBit a = true
  · rw [if_pos h]
    unfold ad_pc
    rw [ad_sm_cn]
    apply ad_sm_eq
    intro i hi
    try dsimp only
    congr 1
    apply Bool.eq_iff_iff.mpr
    rw [Nat.testBit_and, Bool.and_eq_true, ad_B_tb, h, Bool.and_eq_true, Bool.and_eq_true]
    exact ⟨fun z => ⟨⟨z.2, rfl⟩, z.1.2⟩, fun z => ⟨⟨hi, z.2⟩, z.1.1⟩⟩
  · rw [if_neg h]
    have : ∀ i, i < 8 → (s.testBit i && s.testBit a && (A i).testBit a).toNat = 0 := by
      intro i _
      rw [Bool.not_eq_true] at h
      rw [h, Bool.and_false, Bool.false_and]; rfl
    rw [ad_sm_eq this, ad_sm_0]
end
section
/-! the component's small methods -/
theorem ad_c {i : Nat} (h : i < 4096) : (nI i).toNatClampNeg = i := nI_clamp (by omega)
theorem ad_s {n d : Nat} (h : d < n) : ∃ m, n = m + 1 := ⟨n - 1, by omega⟩
def ad_th (T : Nat) (p : Int32) : Prop := ∃ a, a < 8 ∧ p = nI a ∧ T.testBit a = true
def ad_st (T : Nat) (p : Int32) : Prop := ∃ s, s < 256 ∧ p = nI s ∧ ad_sub s T
def ad_se (p : Int32) : Prop := ∃ σ, σ < 12 ∧ p = nI σ
theorem ad_inj {a b : Nat} (ha : a < 4096) (hb : b < 4096) (h : nI a = nI b) : a = b := (nI_eq (by omega) (by omega)).mp h
theorem ad_th_i {T a : Nat} (ha : a < 8) : ad_th T (nI a) ↔ T.testBit a = true := by
  constructor
  · rintro ⟨b, hb, e, h⟩
    rw [ad_inj (by omega) (by omega) e]; exact h
  · intro h; exact ⟨a, ha, rfl, h⟩
theorem ad_st_i {T s : Nat} (hs : s < 256) : ad_st T (nI s) ↔ ad_sub s T := by
  constructor
  · rintro ⟨b, hb, e, h⟩
    rw [ad_inj (by omega) (by omega) e]; exact h
  · intro h; exact ⟨s, hs, rfl, h⟩
theorem ad_has {post : Int32 → Prop} {m i : Nat} (hm : m < 256) (hi : i < 8) (h1 : m.testBit i = true → post 1) (h0 : ¬ m.testBit i = true → post 0) : wpX_has post (nI m) (nI i) := by
  unfold wpX_has
  rw [ad_tb (by omega) (by omega)]
  exact ⟨h1, h0⟩
theorem ad_hasB {A B : Prop} {m i : Nat} (hm : m < 256) (hi : i < 8) (h1 : m.testBit i = true → B) (h0 : ¬ m.testBit i = true → A) : wpX_has (fun r => (r = 0 → A) ∧ (¬ r = 0 → B)) (nI m) (nI i) :=
  ad_has hm hi (fun h => br_f (by decide) (h1 h)) (fun h => br_t rfl (h0 h))
section
variable {fr : Int32} {aO tg so de he wa : Nat → Int32} {T : Nat} {A : Nat → Nat}
theorem ad_isThX {post : Int32 → Prop} (hT : T < 256) {p : Int32} (h1 : ad_th T p → post 1) (h0 : ¬ ad_th T p → post 0) : wpX_isThere post (nI T, fr, aO, tg, so, de, he, wa) p := by
  unfold wpX_isThere
  dsimp only
  rcases pk_ix p (n := 8) (by decide) with h | h | ⟨a, ha, rfl⟩
  · refine br_t h (h0 ?_)
    rintro ⟨a, ha, rfl, _⟩
    exact nI_pos (by omega) h
  · by_cases hz : p < 0
    · refine br_t hz (h0 ?_)
      rintro ⟨a, ha, rfl, _⟩
      exact nI_pos (by omega) hz
    · refine br_f hz (br_t h (h0 ?_))
      rintro ⟨a, ha, rfl, _⟩
      exact nI_ge ha (by omega) h
  · refine br_f (nI_pos (by omega)) (br_f (nI_ge ha (by decide)) (ad_hasB hT ha (fun h => h1 ⟨a, ha, rfl, h⟩) (fun h => h0 ?_)))
    rw [ad_th_i ha]; exact h
theorem ad_isSetX {post : Int32 → Prop} {p : Int32} (h1 : ad_st T p → post 1) (h0 : ¬ ad_st T p → post 0) : wpX_isSet post (nI T, fr, aO, tg, so, de, he, wa) p := by
  unfold wpX_isSet
  dsimp only
  rcases pk_ix p (n := 256) (by decide) with h | h | ⟨a, ha, rfl⟩
  · refine br_t h (h0 ?_)
    rintro ⟨a, ha, rfl, _⟩
    exact nI_pos (by omega) h
  · by_cases hz : p < 0
    · refine br_t hz (h0 ?_)
      rintro ⟨a, ha, rfl, _⟩
      exact nI_pos (by omega) hz
    · refine br_f hz (br_t h (h0 ?_))
      rintro ⟨a, ha, rfl, _⟩
      exact nI_ge ha (by omega) h
  · refine br_f (nI_pos (by omega)) (br_f (nI_ge ha (by decide)) ?_)
    rw [ad_subI ha]
    refine ⟨fun h => h1 ⟨a, ha, rfl, h⟩, fun h => h0 ?_⟩
    rw [ad_st_i ha]; exact h
theorem ad_isSenX {post : Int32 → Prop} {p : Int32} (h1 : ad_se p → post 1) (h0 : ¬ ad_se p → post 0) : wpX_isSense post p := by
  unfold wpX_isSense
  rcases pk_ix p (n := 12) (by decide) with h | h | ⟨a, ha, rfl⟩
  · refine br_t h (h0 ?_)
    rintro ⟨a, ha, rfl⟩
    exact nI_pos (by omega) h
  · by_cases hz : p < 0
    · refine br_t hz (h0 ?_)
      rintro ⟨a, ha, rfl⟩
      exact nI_pos (by omega) hz
    · refine br_f hz (br_t h (h0 ?_))
      rintro ⟨a, ha, rfl⟩
      exact nI_ge ha (by omega) h
  · exact br_f (nI_pos (by omega)) (br_f (nI_ge ha (by decide)) (h1 ⟨a, ha, rfl⟩))
/-- the attackers as the component keeps them -/
def ad_GO (A : Nat → Nat) (aO : Nat → Int32) : Prop := ∀ b, b < 8 → aO b = nI (ad_B A b)
def ad_p1 (A : Nat → Nat) (s : Nat) (a : Nat) : Bool := decide (¬ (ad_B A a &&& s = 0))
def ad_p2 (T : Nat) (A : Nat → Nat) (s : Nat) (a : Nat) : Bool := T.testBit a && decide (ad_df (ad_B A a) (ad_H A s) = 0)
theorem ad_ft64 {post : SX → Prop} {x3 : Int32} (hT : T < 256) (hA : ∀ a, A a < 256) (hO : ad_GO A aO) {s : Nat} (hs : s < 256) (h : post (nI T, fr, aO, upd tg s (nI (ad_H A s)), upd so s x3, upd de s (nI (ad_D T A s)), he, wa)) : ∀ d i n, i + d = 8 → d < n → wX_fillTables_64 post (nI s) (nI (ad_H A s)) x3 (nI T) fr aO tg so de he wa n (nI (ad_mk (ad_p2 T A s) i)) (nI i) := by
  intro d
  induction d with
  | zero =>
    intro i n hi hn
    obtain ⟨n, rfl⟩ := ad_s hn
    obtain rfl : i = 8 := by omega
    refine br_t (by decide) ⟨pk_in s 256 hs, nm_e ⟨pk_in s 256 hs, nm_e ⟨pk_in s 256 hs, nm_e ?_⟩⟩⟩
    rw [ad_c (by omega)]
    exact h
  | succ d ih =>
    intro i n hi hn
    obtain ⟨n, rfl⟩ := ad_s hn
    have h8 : i < 8 := by omega
    have k := ih (i + 1) n (by omega) (by omega)
    refine br_f (nI_ge h8 (by decide)) (ad_hasB hT h8 (fun hb => ⟨pk_in i 8 h8, ?_⟩) (fun hb => nm_r (nI_1 i) ?_))
    · rw [ad_c (by omega), hO i h8, ad_subI (ad_B_lt A i)]
      refine br_c (fun z => nm_r (by rw [ad_one (by omega), ad_or]) (nm_r (nI_1 i) ?_)) (fun z => nm_r (nI_1 i) ?_)
      · have e : ad_mk (ad_p2 T A s) (i + 1) = ad_mk (ad_p2 T A s) i ||| 2 ^ i := if_pos (by unfold ad_p2; rw [hb, Bool.true_and, decide_eq_true_eq, ad_sub_df (ad_B_lt A i)]; exact z)
        rw [← e]; exact k
      · have e : ad_mk (ad_p2 T A s) (i + 1) = ad_mk (ad_p2 T A s) i := if_neg (by unfold ad_p2; rw [hb, Bool.true_and, decide_eq_true_eq, ad_sub_df (ad_B_lt A i)]; exact z)
        rw [← e]; exact k
    · have e : ad_mk (ad_p2 T A s) (i + 1) = ad_mk (ad_p2 T A s) i := if_neg (by unfold ad_p2; rw [Bool.and_eq_true]; exact fun z => hb z.1)
      rw [← e]; exact k
theorem ad_ft7 {post : SX → Prop} (hO : ad_GO A aO) {s : Nat} (hs : s < 256) (h : ∃ n, wX_fillTables_64 post (nI s) (nI (ad_mk (ad_p1 A s) 8)) (nI (ad_ht (ad_B A) s 8)) (nI T) fr aO tg so de he wa n 0 0) : ∀ d i n, i + d = 8 → d < n → wX_fillTables_7 post (nI s) (nI T) fr aO tg so de he wa n (nI (ad_mk (ad_p1 A s) i)) (nI (ad_ht (ad_B A) s i)) (nI i) := by
  intro d
  induction d with
  | zero =>
    intro i n hi hn
    obtain ⟨n, rfl⟩ := ad_s hn
    obtain rfl : i = 8 := by omega
    exact br_t (by decide) h
  | succ d ih =>
    intro i n hi hn
    obtain ⟨n, rfl⟩ := ad_s hn
    have h8 : i < 8 := by omega
    have k := ih (i + 1) n (by omega) (by omega)
    have e : ∀ y, y = nI (ad_mk (ad_p1 A s) (i + 1)) → wX_fillTables_33 post (wX_fillTables_7 post (nI s) (nI T) fr aO tg so de he wa n) (nI s) y (nI (ad_ht (ad_B A) s i)) (nI i) (nI T) fr aO tg so de he wa := by
      intro y hy
      subst hy
      unfold wX_fillTables_33
      refine ad_hasB hs h8 (fun hb => ⟨pk_in i 8 h8, ?_⟩) (fun hb => nm_r (nI_1 i) ?_)
      · rw [ad_c (by omega), hO i h8]
        refine nm_r (ad_or _ _) (nm_r (nI_1 i) ?_)
        have e : ad_ht (ad_B A) s (i + 1) = ad_ht (ad_B A) s i ||| ad_B A i := if_pos hb
        rw [← e]; exact k
      · have e : ad_ht (ad_B A) s (i + 1) = ad_ht (ad_B A) s i := if_neg hb
        rw [← e]; exact k
    refine br_f (nI_ge h8 (by decide)) ⟨pk_in i 8 h8, ?_⟩
    rw [ad_c (by omega), hO i h8, ad_andI (ad_B_lt A i)]
    refine br_c (fun z => e _ ?_) (fun z => nm_r (by rw [ad_one (by omega), ad_or]) (e _ ?_))
    · have e : ad_mk (ad_p1 A s) (i + 1) = ad_mk (ad_p1 A s) i := if_neg (by unfold ad_p1; rw [decide_eq_true_eq]; exact fun y => y z)
      rw [← e]
    · have e : ad_mk (ad_p1 A s) (i + 1) = ad_mk (ad_p1 A s) i ||| 2 ^ i := if_pos (by unfold ad_p1; rw [decide_eq_true_eq]; exact z)
      rw [← e]
theorem ad_ft {post : SX → Prop} (hT : T < 256) (hA : ∀ a, A a < 256) (hO : ad_GO A aO) {s : Nat} (hs : s < 256) (h : post (nI T, fr, aO, upd tg s (nI (ad_H A s)), upd so s (nI (ad_H (ad_B A) s)), upd de s (nI (ad_D T A s)), he, wa)) : wpX_fillTables post (nI T, fr, aO, tg, so, de, he, wa) (nI s) := by
  unfold wpX_fillTables
  refine ⟨9, ad_ft7 hO hs ⟨9, ?_⟩ 8 0 9 rfl (by decide)⟩
  have e : ad_mk (ad_p1 A s) 8 = ad_H A s := ad_tgt hA
  rw [e]
  exact ad_ft64 hT hA hO hs h 8 0 9 rfl (by decide)
/-- the plain senses -/
theorem ad_ps99 {post : SX → Prop} {s : Nat} (hT : T < 256) (hA : ∀ a, A a < 256) (hs : s < 256) (ht : tg s = nI (ad_H A s)) {x2 z0 : Int32} (hx : ad_Tb x2 (ad_free T A s)) (hz : vp_nar .boolean z0 = z0) (h : ∀ v, ad_Tb v (ad_stab T A s) → post (nI T, fr, aO, tg, so, de, upd (upd he (512 + s) z0) (1280 + s) v, wa)) : wX_fillPlainSenses_99 post (nI s) x2 z0 (512 + nI s) (nI T) fr aO tg so de he wa := by
  unfold wX_fillPlainSenses_99
  have e5 : (512 : Int32) + nI s = nI (512 + s) := nI_add 512 s
  have e12 : (1280 : Int32) + nI s = nI (1280 + s) := nI_add 1280 s
  rw [e5, e12, ad_c (by omega), ad_c (by omega), ad_c (by omega), ht, hz]
  refine ⟨pk_in (512 + s) 3072 (by omega), nm_e ?_⟩
  rw [ad_TbN hx, ad_n0, ad_n1, ad_or, nI_eq (by have := ad_orlt hs (ad_H_lt hA s); omega) (by omega)]
  refine br_c (fun z => ⟨pk_in (1280 + s) 3072 (by omega), nm_e (h 0 (ad_Tb0 fun y => z y.1))⟩) (fun z => ⟨pk_in s 256 hs, br_c (fun y => ⟨pk_in (1280 + s) 3072 (by omega), nm_e (h 1 (ad_Tb1 ⟨Classical.byContradiction z, y⟩))⟩) (fun y => ⟨pk_in (1280 + s) 3072 (by omega), nm_e (h 0 (ad_Tb0 fun q => y q.2))⟩)⟩)
theorem ad_ps47 {post : SX → Prop} {s : Nat} (hT : T < 256) (hA : ∀ a, A a < 256) (hs : s < 256) (ht : tg s = nI (ad_H A s)) (hd : de s = nI (ad_D T A s)) {x2 z0 : Int32} (hx : ad_Tb x2 (ad_free T A s)) (hz : ad_Tb z0 (ad_adm T A s)) (h : ∀ v2 v5, ad_Tb v2 (ad_comp T A s) → ad_Tb v5 (ad_stab T A s) → post (nI T, fr, aO, tg, so, de, upd (upd (upd (upd he s x2) (256 + s) z0) (512 + s) v2) (1280 + s) v5, wa)) : wX_fillPlainSenses_47 post (nI s) x2 z0 (nI T) fr aO tg so de he wa := by
  unfold wX_fillPlainSenses_47
  have e0 : (0 : Int32) + nI s = nI s := (nI_add 0 s).trans (by rw [Nat.zero_add])
  have e2 : (256 : Int32) + nI s = nI (256 + s) := nI_add 256 s
  rw [e0, e2, ad_c (by omega), ad_c (by omega), hd, ad_nT hx, ad_nT hz]
  refine ⟨pk_in s 3072 (by omega), nm_e ⟨pk_in (256 + s) 3072 (by omega), nm_e ?_⟩⟩
  rw [ad_TbN hz, ad_subI (ad_D_lt T A s)]
  refine br_c (fun z => ?_) (fun z => ⟨pk_in s 256 hs, br_c (fun y => ?_) (fun y => ?_)⟩)
  · exact ad_ps99 hT hA hs ht hx ad_n0 (fun v hv => h 0 v (ad_Tb0 fun q => z ((ad_comp_X s).mp q).1) hv)
  · exact ad_ps99 hT hA hs ht hx ad_n1 (fun v hv => h 1 v (ad_Tb1 ((ad_comp_X s).mpr ⟨Classical.byContradiction z, y⟩)) hv)
  · exact ad_ps99 hT hA hs ht hx ad_n0 (fun v hv => h 0 v (ad_Tb0 fun q => y ((ad_comp_X s).mp q).2) hv)
theorem ad_ps24 {post : SX → Prop} {s : Nat} (hT : T < 256) (hA : ∀ a, A a < 256) (hs : s < 256) (ht : tg s = nI (ad_H A s)) (hd : de s = nI (ad_D T A s)) {z0 : Int32} (hx : ad_Tb z0 (ad_free T A s)) (h : ∀ v1 v2 v5, ad_Tb v1 (ad_adm T A s) → ad_Tb v2 (ad_comp T A s) → ad_Tb v5 (ad_stab T A s) → post (nI T, fr, aO, tg, so, de, upd (upd (upd (upd he s z0) (256 + s) v1) (512 + s) v2) (1280 + s) v5, wa)) : wX_fillPlainSenses_24 post (nI s) z0 (nI T) fr aO tg so de he wa := by
  unfold wX_fillPlainSenses_24
  rw [ad_c (by omega), hd, ad_TbN hx, ad_subI hs]
  refine br_c (fun z => ?_) (fun z => ⟨pk_in s 256 hs, br_c (fun y => ?_) (fun y => ?_)⟩)
  · exact ad_ps47 hT hA hs ht hd hx (ad_Tb0 fun q => z q.1) (fun v2 v5 => h 0 v2 v5 (ad_Tb0 fun q => z q.1))
  · exact ad_ps47 hT hA hs ht hd hx (ad_Tb1 ⟨Classical.byContradiction z, y⟩) (fun v2 v5 => h 1 v2 v5 (ad_Tb1 ⟨Classical.byContradiction z, y⟩))
  · exact ad_ps47 hT hA hs ht hd hx (ad_Tb0 fun q => y q.2) (fun v2 v5 => h 0 v2 v5 (ad_Tb0 fun q => y q.2))
theorem ad_psX {post : SX → Prop} {s : Nat} (hT : T < 256) (hA : ∀ a, A a < 256) (hs : s < 256) (ht : tg s = nI (ad_H A s)) (hd : de s = nI (ad_D T A s)) (h : ∀ v0 v1 v2 v5, ad_Tb v0 (ad_free T A s) → ad_Tb v1 (ad_adm T A s) → ad_Tb v2 (ad_comp T A s) → ad_Tb v5 (ad_stab T A s) → post (nI T, fr, aO, tg, so, de, upd (upd (upd (upd he s v0) (256 + s) v1) (512 + s) v2) (1280 + s) v5, wa)) : wpX_fillPlainSenses post (nI T, fr, aO, tg, so, de, he, wa) (nI s) := by
  unfold wpX_fillPlainSenses
  dsimp only
  refine ad_isSetX (fun z => br_f (by decide) ?_) (fun z => br_t rfl ?_)
  · rw [ad_st_i hs] at z
    rw [ad_c (by omega), ht, ad_andI hs]
    refine ⟨pk_in s 256 hs, br_c (fun y => ?_) (fun y => ?_)⟩
    · have q : ad_free T A s := ⟨z, by rw [Nat.and_comm]; exact y⟩
      exact ad_ps24 hT hA hs ht hd (ad_Tb1 q) (fun v1 v2 v5 => h 1 v1 v2 v5 (ad_Tb1 q))
    · have q : ¬ ad_free T A s := fun q => y (by rw [Nat.and_comm]; exact q.2)
      exact ad_ps24 hT hA hs ht hd (ad_Tb0 q) (fun v1 v2 v5 => h 0 v1 v2 v5 (ad_Tb0 q))
  · rw [ad_st_i hs] at z
    have q : ¬ ad_free T A s := fun q => z q.1
    exact ad_ps24 hT hA hs ht hd (ad_Tb0 q) (fun v1 v2 v5 => h 0 v1 v2 v5 (ad_Tb0 q))
end
end
section
/-! the component's fillings -/
section
variable {fr : Int32} {aO tg so de he wa : Nat → Int32} {T : Nat} {A : Nat → Nat} {Q : Nat → Prop} {σ : Nat}
theorem ad_com7X {post : Int32 → Prop} (hσ : σ < 12) (hQ : ad_Tab he σ Q) (h : ∀ c, c < 256 → ad_com T Q c → post (nI c)) : ∀ d i n c, i + d = 256 → d < n → c < 256 → (∀ j, c.testBit j = true ↔ (T.testBit j = true ∧ ∀ s, s < i → Q s → s.testBit j = true)) → wX_common_7 post (nI σ) (nI T) fr aO tg so de he wa n (nI c) (nI i) := by
  intro d
  induction d with
  | zero =>
    intro i n c hi hn hc hj
    obtain ⟨n, rfl⟩ := ad_s hn
    obtain rfl : i = 256 := by omega
    exact br_t (by decide) (h c hc hj)
  | succ d ih =>
    intro i n c hi hn hc hj
    obtain ⟨n, rfl⟩ := ad_s hn
    have h8 : i < 256 := by omega
    refine br_f (nI_ge h8 (by decide)) ?_
    rw [ad_ixX, ad_c (by omega), ad_TbN (hQ i h8)]
    refine ⟨pk_in (256 * σ + i) 3072 (by omega), br_c (fun z => nm_r (nI_1 i) (ih (i + 1) n c (by omega) (by omega) hc fun j => ?_)) (fun z => nm_r (nx_and c i) (nm_r (nI_1 i) (ih (i + 1) n (c &&& i) (by omega) (by omega) (ad_andlt hc) fun j => ?_)))⟩
    · rw [hj j]
      refine and_congr_right fun _ => ⟨fun y s hs q => ?_, fun y s hs q => y s (by omega) q⟩
      by_cases e : s = i
      · rw [e] at q; exact absurd q z
      · exact y s (by omega) q
    · rw [Nat.testBit_and, Bool.and_eq_true, hj j]
      constructor
      · rintro ⟨⟨a, b⟩, c⟩
        refine ⟨a, fun s hs q => ?_⟩
        by_cases e : s = i
        · rw [e]; exact c
        · exact b s (by omega) q
      · rintro ⟨a, b⟩
        exact ⟨⟨a, fun s hs q => b s (by omega) q⟩, b i (by omega) (Classical.byContradiction z)⟩
theorem ad_comX {post : Int32 → Prop} (hT : T < 256) (hσ : σ < 12) (hQ : ad_Tab he σ Q) (h : ∀ c, c < 256 → ad_com T Q c → post (nI c)) : wpX_common post (nI T, fr, aO, tg, so, de, he, wa) (nI σ) := by
  unfold wpX_common
  exact ⟨257, ad_com7X hσ hQ h 256 0 257 T rfl (by decide) hT fun j => ⟨fun z => ⟨z, fun s hs => absurd hs (by omega)⟩, fun z => z.1⟩⟩
theorem ad_wiX {post : Int32 → Prop} {th : Int32} (hσ : σ < 12) (hQ : ad_Tab he σ Q) {s l : Nat} (hs : s < 256) (h1 : Q s → ad_sub s l → post 1) (h0 : ¬ (Q s ∧ ad_sub s l) → post 0) : wpX_isWithin post (th, fr, aO, tg, so, de, he, wa) (nI σ) (nI s) (nI l) := by
  unfold wpX_isWithin
  dsimp only
  rw [ad_ixX, ad_c (by omega), ad_TbN (hQ s hs), ad_subI hs]
  exact ⟨pk_in (256 * σ + s) 3072 (by omega), br_c (fun z => h0 fun y => z y.1) (fun z => br_c (fun y => h1 (Classical.byContradiction z) y) (fun y => h0 fun q => y q.2))⟩
theorem ad_gr17X {post : Int32 → Prop} {th : Int32} (hσ : σ < 12) (hQ : ad_Tab he σ Q) {s l : Nat} (hs : s < 256) (hq : Q s) (hl : ad_sub s l) (h1 : ad_gr Q (fun t => ad_sub t l) s → post 1) (h0 : ¬ ad_gr Q (fun t => ad_sub t l) s → post 0) : ∀ d i n, i + d = 256 → d < n → s < i → (∀ t, t < i → Q t → ad_sub t l → ad_sub s t → t = s) → wX_isGreatest_17 post (nI σ) (nI s) (nI l) th fr aO tg so de he wa n (nI i) := by
  intro d
  induction d with
  | zero =>
    intro i n hi hn _ hj
    obtain ⟨n, rfl⟩ := ad_s hn
    obtain rfl : i = 256 := by omega
    exact br_t (by decide) (h1 ⟨hq, hl, hj⟩)
  | succ d ih =>
    intro i n hi hn hsi hj
    obtain ⟨n, rfl⟩ := ad_s hn
    have h8 : i < 256 := by omega
    have k : (Q i → ad_sub i l → ad_sub s i → False) → wX_isGreatest_17 post (nI σ) (nI s) (nI l) th fr aO tg so de he wa n (nI (i + 1)) := fun z => ih (i + 1) n (by omega) (by omega) (by omega) fun t ht q y w => by
      by_cases e : t = i
      · rw [e] at q y w; exact (z q y w).elim
      · exact hj t (by omega) q y w
    refine br_f (nI_ge h8 (by decide)) ?_
    rw [ad_subI hs]
    refine br_c (fun z => ad_wiX hσ hQ h8 (fun a b => br_f (by decide) (h0 fun g => ?_)) (fun a => br_t rfl (nm_r (nI_1 i) (k fun q y _ => a ⟨q, y⟩)))) (fun z => nm_r (nI_1 i) (k fun _ _ w => z w))
    have := g.2.2 i h8 a b z
    omega
theorem ad_grX {post : Int32 → Prop} {th : Int32} (hσ : σ < 12) (hQ : ad_Tab he σ Q) {s l : Nat} (hs : s < 256) (h1 : ad_gr Q (fun t => ad_sub t l) s → post 1) (h0 : ¬ ad_gr Q (fun t => ad_sub t l) s → post 0) : wpX_isGreatest post (th, fr, aO, tg, so, de, he, wa) (nI σ) (nI s) (nI l) := by
  unfold wpX_isGreatest
  dsimp only
  refine ad_wiX hσ hQ hs (fun a b => br_f (by decide) (nm_r (nI_1 s) ⟨257, ?_⟩)) (fun a => br_t rfl (h0 fun g => a ⟨g.1, g.2.1⟩))
  refine ad_gr17X hσ hQ hs a b h1 h0 (255 - s) (s + 1) 257 (by omega) (by omega) (by omega) fun t ht _ _ w => ?_
  have := ad_subLe w
  omega
/-- a filling goes over a block -/
def ad_Up (a b : Nat → Int32) (τ i : Nat) (P : Nat → Prop) : Prop := ad_Fr a b τ ∧ ∀ s, s < i → ad_Tb (b (256 * τ + s)) (P s)
theorem ad_Up0 {a : Nat → Int32} {τ : Nat} {P : Nat → Prop} : ad_Up a a τ 0 P := ⟨fun _ _ => rfl, fun _ h => absurd h (by omega)⟩
theorem ad_UpS {a b : Nat → Int32} {τ i : Nat} {P : Nat → Prop} (h : ad_Up a b τ i P) (hi : i < 256) {v : Int32} (hv : ad_Tb v (P i)) : ad_Up a (upd b (256 * τ + i) v) τ (i + 1) P := by
  refine ⟨fun j hj => ?_, fun s hs => ?_⟩
  · rw [pk_un (by omega)]; exact h.1 j hj
  · by_cases e : s = i
    · rw [e, pk_us]; exact hv
    · rw [pk_un (by omega)]; exact h.2 s (by omega)
theorem ad_fg3X {post : SX → Prop} {th : Int32} {τ l : Nat} (hσ : σ < 12) (hτ : τ < 12) (hn : σ ≠ τ) {he0 : Nat → Int32} (hQ : ad_Tab he0 σ Q) (h : ∀ he, ad_Up he0 he τ 256 (ad_gr Q fun t => ad_sub t l) → post (th, fr, aO, tg, so, de, he, wa)) : ∀ d i n he, i + d = 256 → d < n → ad_Up he0 he τ i (ad_gr Q fun t => ad_sub t l) → wX_fillGreatest_3 post (nI σ) (nI τ) (nI l) th fr n (nI i) aO tg so de he wa := by
  intro d
  induction d with
  | zero =>
    intro i n he hi hn hu
    obtain ⟨n, rfl⟩ := ad_s hn
    obtain rfl : i = 256 := by omega
    exact br_t (by decide) (h he hu)
  | succ d ih =>
    intro i n he hi hn' hu
    obtain ⟨n, rfl⟩ := ad_s hn'
    have h8 : i < 256 := by omega
    have k : ∀ v, ad_Tb v (ad_gr Q (fun t => ad_sub t l) i) → wX_fillGreatest_3 post (nI σ) (nI τ) (nI l) th fr n (nI (i + 1)) aO tg so de (upd he (256 * τ + i) v) wa := fun v hv => ih (i + 1) n _ (by omega) (by omega) (ad_UpS hu h8 hv)
    refine br_f (nI_ge h8 (by decide)) ?_
    rw [ad_ixX, ad_c (by omega)]
    exact ad_grX hσ (ad_TabF hQ hu.1 hn) h8 (fun g => ⟨pk_in (256 * τ + i) 3072 (by omega), nm_e (nm_r (nI_1 i) (k 1 (ad_Tb1 g)))⟩) (fun g => ⟨pk_in (256 * τ + i) 3072 (by omega), nm_e (nm_r (nI_1 i) (k 0 (ad_Tb0 g)))⟩)
theorem ad_fgX {post : SX → Prop} {th : Int32} {τ l : Nat} (hσ : σ < 12) (hτ : τ < 12) (hn : σ ≠ τ) (hQ : ad_Tab he σ Q) (h : ∀ he', ad_Fr he he' τ → ad_Tab he' τ (ad_gr Q fun t => ad_sub t l) → post (th, fr, aO, tg, so, de, he', wa)) : wpX_fillGreatest post (th, fr, aO, tg, so, de, he, wa) (nI σ) (nI τ) (nI l) := by
  unfold wpX_fillGreatest
  exact ⟨257, ad_fg3X hσ hτ hn hQ (fun he' hu => h he' hu.1 hu.2) 256 0 257 he rfl (by decide) ad_Up0⟩
theorem ad_fd8X {post : SX → Prop} {th : Int32} {c : Nat} {he0 : Nat → Int32} (hQ : ad_Tab he0 2 Q) (h : ∀ he, ad_Up he0 he 3 256 (fun s => Q s ∧ ad_sub s c) → post (th, fr, aO, tg, so, de, he, wa)) : ∀ d i n he, i + d = 256 → d < n → ad_Up he0 he 3 i (fun s => Q s ∧ ad_sub s c) → wX_fillGrounded_8 post (nI c) th fr n (nI i) aO tg so de he wa := by
  intro d
  induction d with
  | zero =>
    intro i n he hi hn hu
    obtain ⟨n, rfl⟩ := ad_s hn
    obtain rfl : i = 256 := by omega
    exact br_t (by decide) (h he hu)
  | succ d ih =>
    intro i n he hi hn' hu
    obtain ⟨n, rfl⟩ := ad_s hn'
    have h8 : i < 256 := by omega
    have k : ∀ v, ad_Tb v (Q i ∧ ad_sub i c) → wX_fillGrounded_8 post (nI c) th fr n (nI (i + 1)) aO tg so de (upd he (768 + i) v) wa := fun v hv => ih (i + 1) n _ (by omega) (by omega) (ad_UpS hu h8 hv)
    refine br_f (nI_ge h8 (by decide)) ?_
    have e : (768 : Int32) + nI i = nI (768 + i) := nI_add 768 i
    rw [e, ad_c (by omega)]
    exact ad_wiX (σ := 2) (by decide) (ad_TabF hQ hu.1 (by decide)) h8 (fun g g' => ⟨pk_in (768 + i) 3072 (by omega), nm_e (nm_r (nI_1 i) (k 1 (ad_Tb1 ⟨g, g'⟩)))⟩) (fun g => ⟨pk_in (768 + i) 3072 (by omega), nm_e (nm_r (nI_1 i) (k 0 (ad_Tb0 g)))⟩)
theorem ad_fdX {post : SX → Prop} (hT : T < 256) (hQ : ad_Tab he 2 Q) (h : ∀ he', ad_Fr he he' 3 → ad_Tab he' 3 (fun s => Q s ∧ ad_wi T Q s) → post (nI T, fr, aO, tg, so, de, he', wa)) : wpX_fillGrounded post (nI T, fr, aO, tg, so, de, he, wa) := by
  unfold wpX_fillGrounded
  refine ad_comX (σ := 2) hT (by decide) hQ fun c hc hcom => ⟨257, ad_fd8X hQ (fun he' hu => h he' hu.1 fun s hs => ad_TbI (hu.2 s hs) ?_) 256 0 257 he rfl (by decide) ad_Up0⟩
  exact and_congr_right fun _ => ad_com_wi hcom s
def ad_TX (T : Nat) (A : Nat → Nat) (tg so de : Nat → Int32) : Prop := ∀ s, s < 256 → tg s = nI (ad_H A s) ∧ so s = nI (ad_H (ad_B A) s) ∧ de s = nI (ad_D T A s)
theorem ad_wd12X {post : Int32 → Prop} {th : Int32} (hA : ∀ a, A a < 256) (hX : ad_TX T A tg so de) (hσ : σ < 12) (hQ : ad_Tab he σ Q) {s : Nat} (hs : s < 256) (hq : Q s) (h1 : ad_wide A Q s → post 1) (h0 : ¬ ad_wide A Q s → post 0) : ∀ d i n, i + d = 256 → d < n → (∀ t, t < i → Q t → ad_sub (s ||| ad_H A s) (t ||| ad_H A t) → t ||| ad_H A t = s ||| ad_H A s) → wX_isWidest_12 post (nI σ) (nI (s ||| ad_H A s)) th fr aO tg so de he wa n (nI i) := by
  intro d
  induction d with
  | zero =>
    intro i n hi hn hj
    obtain ⟨n, rfl⟩ := ad_s hn
    obtain rfl : i = 256 := by omega
    exact br_t (by decide) (h1 ⟨hq, hj⟩)
  | succ d ih =>
    intro i n hi hn hj
    obtain ⟨n, rfl⟩ := ad_s hn
    have h8 : i < 256 := by omega
    have hm := ad_orlt hs (ad_H_lt hA s)
    have hmi := ad_orlt h8 (ad_H_lt hA i)
    have k : (Q i → ad_sub (s ||| ad_H A s) (i ||| ad_H A i) → i ||| ad_H A i = s ||| ad_H A s) → wX_isWidest_12 post (nI σ) (nI (s ||| ad_H A s)) th fr aO tg so de he wa n (nI (i + 1)) := fun z => ih (i + 1) n (by omega) (by omega) fun t ht q y => by
      by_cases e : t = i
      · rw [e] at q y ⊢; exact z q y
      · exact hj t (by omega) q y
    refine br_f (nI_ge h8 (by decide)) ⟨pk_in i 256 h8, nm_r (by rw [ad_c (by omega), (hX i h8).1, ad_or]) ?_⟩
    rw [ad_ixX, ad_c (by omega), ad_TbN (hQ i h8), nI_eq (by omega) (by omega), ad_subI hm]
    refine ⟨pk_in (256 * σ + i) 3072 (by omega), br_c (fun z => nm_r (nI_1 i) (k fun q => absurd q z)) (fun z => br_c (fun y => nm_r (nI_1 i) (k fun _ _ => y)) (fun y => br_c (fun w => h0 fun g => y (g.2 i h8 (Classical.byContradiction z) w)) (fun w => nm_r (nI_1 i) (k fun _ w' => absurd w' w))))⟩
theorem ad_wdX {post : Int32 → Prop} {th : Int32} (hA : ∀ a, A a < 256) (hX : ad_TX T A tg so de) (hσ : σ < 12) (hQ : ad_Tab he σ Q) {s : Nat} (hs : s < 256) (hq : Q s) (h1 : ad_wide A Q s → post 1) (h0 : ¬ ad_wide A Q s → post 0) : wpX_isWidest post (th, fr, aO, tg, so, de, he, wa) (nI σ) (nI s) := by
  unfold wpX_isWidest
  dsimp only
  exact ⟨pk_in s 256 hs, nm_r (by rw [ad_c (by omega), (hX s hs).1, ad_or]) ⟨257, ad_wd12X hA hX hσ hQ hs hq h1 h0 256 0 257 rfl (by decide) fun t ht => absurd ht (by omega)⟩⟩
theorem ad_fw2X {post : SX → Prop} {th : Int32} {τ : Nat} (hA : ∀ a, A a < 256) (hX : ad_TX T A tg so de) (hσ : σ < 12) (hτ : τ < 12) (hn : σ ≠ τ) {he0 : Nat → Int32} (hQ : ad_Tab he0 σ Q) (h : ∀ he, ad_Up he0 he τ 256 (ad_wide A Q) → post (th, fr, aO, tg, so, de, he, wa)) : ∀ d i n he, i + d = 256 → d < n → ad_Up he0 he τ i (ad_wide A Q) → wX_fillWidest_2 post (nI σ) (nI τ) th fr n (nI i) aO tg so de he wa := by
  intro d
  induction d with
  | zero =>
    intro i n he hi hn hu
    obtain ⟨n, rfl⟩ := ad_s hn
    obtain rfl : i = 256 := by omega
    exact br_t (by decide) (h he hu)
  | succ d ih =>
    intro i n he hi hn' hu
    obtain ⟨n, rfl⟩ := ad_s hn'
    have h8 : i < 256 := by omega
    have k : ∀ v, ad_Tb v (ad_wide A Q i) → wX_fillWidest_2 post (nI σ) (nI τ) th fr n (nI (i + 1)) aO tg so de (upd he (256 * τ + i) v) wa := fun v hv => ih (i + 1) n _ (by omega) (by omega) (ad_UpS hu h8 hv)
    have hQ' := ad_TabF hQ hu.1 hn
    refine br_f (nI_ge h8 (by decide)) ?_
    rw [ad_ixX, ad_ixX, ad_c (by omega), ad_c (by omega), ad_TbN (hQ' i h8)]
    refine ⟨pk_in (256 * σ + i) 3072 (by omega), br_c (fun z => ⟨pk_in (256 * τ + i) 3072 (by omega), nm_e (nm_r (nI_1 i) (k 0 (ad_Tb0 fun g => z g.1)))⟩) (fun z => ad_wdX hA hX hσ hQ' h8 (Classical.byContradiction z) (fun g => br_f (by decide) ⟨pk_in (256 * τ + i) 3072 (by omega), nm_e (nm_r (nI_1 i) (k 1 (ad_Tb1 g)))⟩) (fun g => br_t rfl ⟨pk_in (256 * τ + i) 3072 (by omega), nm_e (nm_r (nI_1 i) (k 0 (ad_Tb0 g)))⟩))⟩
theorem ad_fwX {post : SX → Prop} {th : Int32} {τ : Nat} (hA : ∀ a, A a < 256) (hX : ad_TX T A tg so de) (hσ : σ < 12) (hτ : τ < 12) (hn : σ ≠ τ) (hQ : ad_Tab he σ Q) (h : ∀ he', ad_Fr he he' τ → ad_Tab he' τ (ad_wide A Q) → post (th, fr, aO, tg, so, de, he', wa)) : wpX_fillWidest post (th, fr, aO, tg, so, de, he, wa) (nI σ) (nI τ) := by
  unfold wpX_fillWidest
  exact ⟨257, ad_fw2X hA hX hσ hτ hn hQ (fun he' hu => h he' hu.1 hu.2) 256 0 257 he rfl (by decide) ad_Up0⟩
end
end
section
/-! the component's last sense -/
/-- the list lies in the array, its head on top -/
def ad_stk (W : Nat → Int32) : List Nat → Prop
  | [] => True
  | w :: l => W l.length = nI w ∧ ad_stk W l
theorem ad_stk_u {W : Nat → Int32} {v : Int32} {k : Nat} : ∀ l : List Nat, l.length ≤ k → ad_stk W l → ad_stk (upd W k v) l
  | [], _, _ => trivial
  | w :: l, hk, h => by
    have hk' : l.length + 1 ≤ k := hk
    exact ⟨by rw [pk_un (by omega)]; exact h.1, ad_stk_u l (by omega) h.2⟩
theorem ad_stk_p {W : Nat → Int32} {w : Nat} {l : List Nat} (h : ad_stk W l) : ad_stk (upd W l.length (nI w)) (w :: l) := ⟨pk_us, ad_stk_u l (Nat.le_refl _) h⟩
section
variable {fr th : Int32} {aO tg so de he wa : Nat → Int32} {T : Nat} {A : Nat → Nat} {Q : Nat → Prop} {σ : Nat}
theorem ad_cp12X {post : Int32 → Prop} (hA : ∀ a, A a < 256) (hX : ad_TX T A tg so de) {w a : Nat} (ha : a < 8) (h : post (nI (ad_cc A w a))) : ∀ d k n, k + d = 7 → d < n → wX_component_12 post (nI w) th fr aO tg so de he wa n (nI (ad_fw A w k (2 ^ a))) (nI (ad_fw (ad_B A) w k (2 ^ a))) (nI (k + 1)) := by
  intro d
  induction d with
  | zero =>
    intro k n hk hn
    obtain ⟨n, rfl⟩ := ad_s hn
    obtain rfl : k = 7 := by omega
    refine br_t (by decide) ?_
    rw [nx_and]
    exact h
  | succ d ih =>
    intro k n hk hn
    obtain ⟨n, rfl⟩ := ad_s hn
    have h1 := ad_fw_lt hA w k _ (ad_2lt ha)
    have h2 := ad_fw_lt (ad_B_lt A) w k _ (ad_2lt ha)
    have j := ih (k + 1) n (by omega) (by omega)
    rw [ad_fw_s, ad_fw_s] at j
    refine br_f (nI_ge (show k + 1 < 8 from by omega) (by decide)) ⟨pk_in _ 256 h1, nm_r (e' := nI (ad_F A w (ad_fw A w k (2 ^ a)))) ?_ ⟨pk_in _ 256 h2, nm_r (e' := nI (ad_F (ad_B A) w (ad_fw (ad_B A) w k (2 ^ a)))) ?_ (nm_r (nI_1 (k + 1)) j)⟩⟩
    · rw [ad_c (by omega), (hX _ h1).1, nx_and, ad_or]; rfl
    · rw [ad_c (by omega), (hX _ h2).2.1, nx_and, ad_or]; rfl
theorem ad_cpX {post : Int32 → Prop} (hA : ∀ a, A a < 256) (hX : ad_TX T A tg so de) {w a : Nat} (ha : a < 8) (h : post (nI (ad_cc A w a))) : wpX_component post (th, fr, aO, tg, so, de, he, wa) (nI a) (nI w) := by
  unfold wpX_component
  exact nm_r (ad_one (by omega)) (nm_r (ad_one (by omega)) ⟨8, ad_cp12X hA hX ha h 7 0 8 rfl (by decide)⟩)
theorem ad_jo2X {post : Int32 → Prop} (hA : ∀ a, A a < 256) (hX : ad_TX T A tg so de) {w : Nat} (hw : w < 256) (hz : w ≠ 0) (h1 : ad_cc A w (ad_fi w) = w → post 1) (h0 : ¬ ad_cc A w (ad_fi w) = w → post 0) : ∀ d i n, i + d = 8 → d < n → (∀ b, b < i → ¬ w.testBit b = true) → wX_isJoined_2 post (nI w) th fr aO tg so de he wa n (nI i) := by
  intro d
  induction d with
  | zero =>
    intro i n hi hn hl
    obtain ⟨i', hb⟩ := ad_nz hz
    exact absurd hb (hl i' (by have := ad_b8 hw hb; omega))
  | succ d ih =>
    intro i n hi hn hl
    obtain ⟨n, rfl⟩ := ad_s hn
    have h8 : i < 8 := by omega
    refine br_f (nI_ge h8 (by decide)) (ad_hasB hw h8 (fun hb => ad_cpX hA hX h8 ?_) (fun hb => nm_r (nI_1 i) (ih (i + 1) n (by omega) (by omega) fun b hbi => ?_)))
    · have e := ad_fi_eq h8 hb hl
      rw [e] at h1 h0
      have := ad_cc_lt hA w h8
      rw [nI_eq (by omega) (by omega)]
      exact ⟨h1, h0⟩
    · by_cases e : b = i
      · rw [e]; exact hb
      · exact hl b (by omega)
theorem ad_joX {post : Int32 → Prop} (hA : ∀ a, A a < 256) (hX : ad_TX T A tg so de) {w : Nat} (hw : w < 256) (hz : w ≠ 0) (h1 : ad_cc A w (ad_fi w) = w → post 1) (h0 : ¬ ad_cc A w (ad_fi w) = w → post 0) : wpX_isJoined post (th, fr, aO, tg, so, de, he, wa) (nI w) := by
  unfold wpX_isJoined
  exact ⟨9, ad_jo2X hA hX hw hz h1 h0 8 0 9 rfl (by decide) fun b hb => absurd hb (by omega)⟩
theorem ad_ap9X {post : Int32 → SX → Prop} (hA : ∀ a, A a < 256) (hX : ad_TX T A tg so de) {s w : Nat} (hs : s < 256) (hw : w < 256) (hwT : ad_sub w T) {L : List Nat} (h : ∀ wa, ad_stk wa L → post (nI L.length) (th, fr, aO, tg, so, de, he, wa)) : ∀ d i n r l wa, i + d = 8 → d < n → ad_cl A w r → ad_ok T l → ad_ps l + ad_pc r ≤ 8 → ad_stk wa l → ad_pt A s w d r l = L → wX_addParts_9 post (nI s) (nI w) th fr n (nI l.length) (nI r) (nI i) aO tg so de he wa := by
  intro d
  induction d with
  | zero =>
    intro i n r l wa hi hn hr hl hp hk e
    obtain ⟨n, rfl⟩ := ad_s hn
    obtain rfl : i = 8 := by omega
    subst e
    exact br_t (by decide) (h wa hk)
  | succ d ih =>
    intro i n r l wa hi hn hr hl hp hk e
    obtain ⟨n, rfl⟩ := ad_s hn
    have h8 : i < 8 := by omega
    have hi7 : 7 - d = i := by omega
    unfold ad_pt at e
    rw [hi7] at e
    have hsw : s &&& w < 256 := ad_andlt hs
    have hc := ad_cc_lt hA w h8
    have hd := ad_df_lt (b := ad_cc A w i) hsw
    refine br_f (nI_ge h8 (by decide)) (ad_hasB hr.1 h8 (fun hb => ad_cpX hA hX h8 (nm_r (ad_not hr.1) ?_)) (fun hb => nm_r (nI_1 i) ?_))
    · rw [if_pos hb] at e
      obtain ⟨k1, k2⟩ := ad_pt_1 hA (s := s) hw hwT hr hb hl
      have hr' := ad_cl_df hA hw hr hb
      rw [nx_and, ad_not hsw]
      refine ⟨pk_in _ 256 hd, nm_r (e' := nI (ad_pa A s w (ad_cc A w i))) ?_ ?_⟩
      · rw [ad_c (by omega), (hX _ hd).1, ad_not hc]; rfl
      · have hp8 := ad_pa_lt hA s w h8
        refine pk_eq (ad_pa A s w (ad_cc A w i)) 0 (fun z => nm_r (nI_1 i) ?_) (fun z => ?_)
        · rw [if_pos z] at k1 k2 e
          exact ih (i + 1) n _ l wa (by omega) (by omega) hr' k1 (by omega) hk e
        · rw [if_neg z] at k1 k2 e
          have hlen := ad_ok_len _ k1
          have hlen' : l.length + 1 ≤ 8 := by
            have e1 : (ad_pa A s w (ad_cc A w i) :: l).length = l.length + 1 := rfl
            omega
          refine br_f (nI_ge (show l.length < 8 from by omega) (by decide)) ⟨pk_in l.length 8 (by omega), nm_e (nm_r (nI_1 l.length) (nm_r (nI_1 i) ?_))⟩
          rw [ad_c (by omega)]
          exact ih (i + 1) n _ (ad_pa A s w (ad_cc A w i) :: l) _ (by omega) (by omega) hr' k1 (by omega) (ad_stk_p hk) e
    · rw [if_neg hb] at e
      exact ih (i + 1) n r l wa (by omega) (by omega) hr hl hp hk e
theorem ad_apX {post : Int32 → SX → Prop} (hA : ∀ a, A a < 256) (hX : ad_TX T A tg so de) {s w : Nat} (hs : s < 256) (hw : w < 256) (hwT : ad_sub w T) {l : List Nat} (hl : ad_ok T l) (hp : ad_ps l + ad_pc w ≤ 8) (hk : ad_stk wa l) (h : ∀ wa, ad_stk wa (ad_pt A s w 8 w l) → post (nI (ad_pt A s w 8 w l).length) (th, fr, aO, tg, so, de, he, wa)) : wpX_addParts post (th, fr, aO, tg, so, de, he, wa) (nI s) (nI w) (nI l.length) := by
  unfold wpX_addParts
  exact ⟨9, ad_ap9X hA hX hs hw hwT h 8 0 9 w l wa rfl (by decide) (ad_cl_w hA hw) hl hp hk rfl⟩
theorem ad_ex1 {A : Nat → Nat} (hA : ∀ a, A a < 256) {w : Nat} (hw : w < 256) (hz : w ≠ 0) (h : ¬ ad_cc A w (ad_fi w) = w) : ∃ x, w.testBit x = true ∧ ad_cc A w x ≠ w := ⟨ad_fi w, (ad_fi_tb hw hz).1, h⟩
theorem ad_si25X {post : Int32 → SX → Prop} (hA : ∀ a, A a < 256) (hX : ad_TX T A tg so de) (hF : ad_Tab he 0 (ad_free T A)) {s : Nat} (hs : s < 256) : ∀ k i n l wa, i + k < 256 → k < n → ad_ph l ≤ k → ad_ok T l → ad_ps l ≤ 8 → ad_stk wa l → (∀ wa, ad_run A s k l → post 1 (th, fr, aO, tg, so, de, he, wa)) → (∀ wa, ¬ ad_run A s k l → post 0 (th, fr, aO, tg, so, de, he, wa)) → wX_isSoInAll_25 post (nI s) n (nI l.length) (nI i) th fr aO tg so de he wa := by
  intro k
  induction k with
  | zero =>
    intro i n l wa hi hn hph hl hp hk h1 h0
    obtain ⟨n, rfl⟩ := ad_s hn
    cases l with
    | nil => exact br_f (nI_ge (show i < 256 from by omega) (by decide)) (br_t (by decide) (h1 wa trivial))
    | cons w l =>
      have := ad_pc_pos hl.1.1 hl.1.2.1
      have e : ad_ph (w :: l) = 2 * ad_pc w - 1 + ad_ph l := rfl
      omega
  | succ k ih =>
    intro i n l wa hi hn hph hl hp hk h1 h0
    obtain ⟨n, rfl⟩ := ad_s hn
    cases l with
    | nil => exact br_f (nI_ge (show i < 256 from by omega) (by decide)) (br_t (by decide) (h1 wa trivial))
    | cons w l =>
      obtain ⟨⟨hw, hz, hwT⟩, hl'⟩ := hl
      have hpw := ad_pc_pos hw hz
      have e1 : ad_ph (w :: l) = 2 * ad_pc w - 1 + ad_ph l := rfl
      have e2 : ad_ps (w :: l) = ad_pc w + ad_ps l := rfl
      have hlen := ad_ok_len l hl'
      have el : nI (w :: l).length = nI (l.length + 1) := rfl
      refine br_f (nI_ge (show i < 256 from by omega) (by decide)) (br_f (by rw [el]; exact nI_nle (by omega) (by omega)) (nm_r (pk_m1 l.length) ⟨pk_in l.length 8 (by omega), nm_r (e' := nI w) (by rw [ad_c (by omega)]; exact hk.1) ?_⟩))
      refine ad_joX hA hX hw hz (fun hj => br_f (by decide) ?_) (fun hj => br_t rfl ?_)
      · have hr : ad_run A s (k + 1) (w :: l) ↔ ad_full A s w ∧ ad_run A s k l := by
          show (if ad_cc A w (ad_fi w) = w then ad_full A s w ∧ ad_run A s k l else ad_run A s k (ad_pt A s w 8 w l)) ↔ _
          rw [if_pos hj]
        rw [nx_and]
        refine ad_grX (σ := 0) (by decide) hF (ad_andlt hs) (fun g => br_f (by decide) (nm_r (nI_1 i) ?_)) (fun g => br_t rfl (h0 wa fun z => g ((ad_full_X hw hwT).mpr (hr.mp z).1)))
        have hf := (ad_full_X hw hwT).mp g
        exact ih (i + 1) n l wa (by omega) (by omega) (by omega) hl' (by omega) hk.2 (fun wa z => h1 wa (hr.mpr ⟨hf, z⟩)) (fun wa z => h0 wa fun y => z (hr.mp y).2)
      · have hr : ad_run A s (k + 1) (w :: l) ↔ ad_run A s k (ad_pt A s w 8 w l) := by
          show (if ad_cc A w (ad_fi w) = w then ad_full A s w ∧ ad_run A s k l else ad_run A s k (ad_pt A s w 8 w l)) ↔ _
          rw [if_neg hj]
        have p1 := (ad_pt_ph hA (s := s) hw 8 w l (by omega) (ad_cl_w hA hw) (fun b hb => absurd hb (by omega))).2 (ad_ex1 hA hw hz hj)
        have p2 := ad_pt_ok hA (s := s) hw hwT 8 w l (ad_cl_w hA hw) hl'
        have e3 : ad_g w = 2 * ad_pc w - 1 := rfl
        refine ad_apX hA hX hs hw hwT hl' (by omega) hk.2 (fun wa' hk' => nm_r (nI_1 i) ?_)
        exact ih (i + 1) n _ wa' (by omega) (by omega) (by omega) p2.1 (by omega) hk' (fun wa z => h1 wa (hr.mpr z)) (fun wa z => h0 wa fun y => z (hr.mp y))
theorem ad_siX {post : Int32 → SX → Prop} (hT : T < 256) (hA : ∀ a, A a < 256) (hX : ad_TX T A tg so de) (hF : ad_Tab he 0 (ad_free T A)) {s : Nat} (hs : s < 256) (h1 : ∀ wa, ad_run A s 16 (if T = 0 then [] else [T]) → post 1 (nI T, fr, aO, tg, so, de, he, wa)) (h0 : ∀ wa, ¬ ad_run A s 16 (if T = 0 then [] else [T]) → post 0 (nI T, fr, aO, tg, so, de, he, wa)) : wpX_isSoInAll post (nI T, fr, aO, tg, so, de, he, wa) (nI s) := by
  unfold wpX_isSoInAll
  dsimp only
  refine nm_e (pk_eq T 0 (fun z => ?_) (fun z => ?_))
  · rw [if_pos z] at h1 h0
    exact ⟨17, ad_si25X hA hX hF hs 16 0 17 [] _ (by decide) (by decide) (Nat.zero_le _) trivial (Nat.zero_le _) trivial h1 h0⟩
  · rw [if_neg z] at h1 h0
    have hp := ad_pc_le T
    refine ⟨17, ad_si25X hA hX hF hs 16 0 17 [T] _ (by decide) (by decide) ?_ ⟨⟨hT, z, ad_subR T⟩, trivial⟩ ?_ ⟨pk_us, trivial⟩ h1 h0⟩
    · show 2 * ad_pc T - 1 + 0 ≤ 16; omega
    · show ad_pc T + 0 ≤ 8; omega
theorem ad_fp2X {post : SX → Prop} (hT : T < 256) (hA : ∀ a, A a < 256) (hX : ad_TX T A tg so de) {he0 : Nat → Int32} (hF : ad_Tab he0 0 (ad_free T A)) (h : ∀ he wa, ad_Up he0 he 11 256 (ad_P11 T A) → post (nI T, fr, aO, tg, so, de, he, wa)) : ∀ d i n he wa, i + d = 256 → d < n → ad_Up he0 he 11 i (ad_P11 T A) → wX_fillParted_2 post n (nI i) (nI T) fr aO tg so de he wa := by
  intro d
  induction d with
  | zero =>
    intro i n he wa hi hn hu
    obtain ⟨n, rfl⟩ := ad_s hn
    obtain rfl : i = 256 := by omega
    exact br_t (by decide) (h he wa hu)
  | succ d ih =>
    intro i n he wa hi hn' hu
    obtain ⟨n, rfl⟩ := ad_s hn'
    have h8 : i < 256 := by omega
    have k : ∀ v wa, ad_Tb v (ad_P11 T A i) → wX_fillParted_2 post n (nI (i + 1)) (nI T) fr aO tg so de (upd he (2816 + i) v) wa := fun v wa hv => ih (i + 1) n _ wa (by omega) (by omega) (ad_UpS hu h8 hv)
    have hQ' := ad_TabF hF hu.1 (by decide)
    refine br_f (nI_ge h8 (by decide)) ?_
    have e0 : (0 : Int32) + nI i = nI (256 * 0 + i) := nI_add 0 i
    have e : (2816 : Int32) + nI i = nI (2816 + i) := nI_add 2816 i
    rw [e0, e, ad_c (by omega), ad_c (by omega), ad_TbN (hQ' i h8)]
    refine ⟨pk_in (256 * 0 + i) 3072 (by omega), br_c (fun z => ⟨pk_in (2816 + i) 3072 (by omega), nm_e (nm_r (nI_1 i) (k 0 wa (ad_Tb0 fun g => z g.1)))⟩) (fun z => ad_siX hT hA hX hQ' h8 (fun wa g => br_f (by decide) ⟨pk_in (2816 + i) 3072 (by omega), nm_e (nm_r (nI_1 i) (k 1 wa (ad_Tb1 ⟨Classical.byContradiction z, g⟩)))⟩) (fun wa g => br_t rfl ⟨pk_in (2816 + i) 3072 (by omega), nm_e (nm_r (nI_1 i) (k 0 wa (ad_Tb0 fun y => g y.2)))⟩))⟩
theorem ad_fpX {post : SX → Prop} (hT : T < 256) (hA : ∀ a, A a < 256) (hX : ad_TX T A tg so de) (hF : ad_Tab he 0 (ad_free T A)) (h : ∀ he' wa, ad_Fr he he' 11 → ad_Tab he' 11 (ad_P11 T A) → post (nI T, fr, aO, tg, so, de, he', wa)) : wpX_fillParted post (nI T, fr, aO, tg, so, de, he, wa) := by
  unfold wpX_fillParted
  exact ⟨257, ad_fp2X hT hA hX hF (fun he' wa hu => h he' wa hu.1 hu.2) 256 0 257 he wa rfl (by decide) ad_Up0⟩
end
end
section
/-! the component's refresh -/
def ad_Pf (T : Nat) (A : Nat → Nat) (σ : Nat) : Nat → Prop :=
  if σ = 0 then ad_free T A else if σ = 1 then ad_adm T A else if σ = 2 then ad_comp T A else if σ = 3 then ad_P3 T A else if σ = 4 then ad_P4 T A else if σ = 5 then ad_stab T A else if σ = 6 then ad_P6 T A else if σ = 7 then ad_P7 T A else if σ = 8 then ad_P8 T A else if σ = 9 then ad_P9 T A else if σ = 10 then ad_P10 T A else ad_P11 T A
def ad_All (T : Nat) (A : Nat → Nat) (a : Nat → Int32) : Prop := ∀ σ, σ < 12 → ad_Tab a σ (ad_Pf T A σ)
theorem ad_All_i {T : Nat} {A : Nat → Nat} {a : Nat → Int32} (h0 : ad_Tab a 0 (ad_free T A)) (h1 : ad_Tab a 1 (ad_adm T A)) (h2 : ad_Tab a 2 (ad_comp T A)) (h3 : ad_Tab a 3 (ad_P3 T A)) (h4 : ad_Tab a 4 (ad_P4 T A)) (h5 : ad_Tab a 5 (ad_stab T A)) (h6 : ad_Tab a 6 (ad_P6 T A)) (h7 : ad_Tab a 7 (ad_P7 T A)) (h8 : ad_Tab a 8 (ad_P8 T A)) (h9 : ad_Tab a 9 (ad_P9 T A)) (h10 : ad_Tab a 10 (ad_P10 T A)) (h11 : ad_Tab a 11 (ad_P11 T A)) : ad_All T A a := by
  intro σ hσ
  have e : σ = 0 ∨ σ = 1 ∨ σ = 2 ∨ σ = 3 ∨ σ = 4 ∨ σ = 5 ∨ σ = 6 ∨ σ = 7 ∨ σ = 8 ∨ σ = 9 ∨ σ = 10 ∨ σ = 11 := by omega
  rcases e with rfl | rfl | rfl | rfl | rfl | rfl | rfl | rfl | rfl | rfl | rfl | rfl
  · exact h0
  · exact h1
  · exact h2
  · exact h3
  · exact h4
  · exact h5
  · exact h6
  · exact h7
  · exact h8
  · exact h9
  · exact h10
  · exact h11
theorem ad_TabI {a : Nat → Int32} {σ : Nat} {P P' : Nat → Prop} (h : ad_Tab a σ P) (e : ∀ s, s < 256 → (P s ↔ P' s)) : ad_Tab a σ P' := fun s hs => ad_TbI (h s hs) (e s hs)
theorem ad_e4 {T : Nat} {A : Nat → Nat} {l : Nat} (hl : ad_sub T l) : ∀ s, s < 256 → (ad_gr (ad_adm T A) (fun t => ad_sub t l) s ↔ ad_P4 T A s) :=
  fun _ hs => ad_gr_L (fun _ _ q => iff_of_true (ad_subT q.1.1 hl) trivial) hs
theorem ad_e8 {T : Nat} {A : Nat → Nat} {l : Nat} (hl : ad_sub T l) : ∀ s, s < 256 → (ad_gr (ad_free T A) (fun t => ad_sub t l) s ↔ ad_P8 T A s) :=
  fun _ hs => ad_gr_L (fun _ _ q => iff_of_true (ad_subT q.1 hl) trivial) hs
theorem ad_e9 {T : Nat} {A : Nat → Nat} {c : Nat} (hc : ad_com T (ad_P4 T A) c) : ∀ s, s < 256 → (ad_gr (ad_adm T A) (fun t => ad_sub t c) s ↔ ad_P9 T A s) :=
  fun _ hs => ad_gr_L (fun s _ _ => ad_com_wi hc s) hs
theorem ad_e10 {T : Nat} {A : Nat → Nat} {c : Nat} (hc : ad_com T (ad_P6 T A) c) : ∀ s, s < 256 → (ad_gr (ad_adm T A) (fun t => ad_sub t c) s ↔ ad_P10 T A s) :=
  fun _ hs => ad_gr_L (fun s _ _ => ad_com_wi hc s) hs
/-- the first loop has come to i -/
def ad_I10 (T : Nat) (A : Nat → Nat) (i : Nat) (tg so de he : Nat → Int32) : Prop := (∀ s, s < i → tg s = nI (ad_H A s) ∧ so s = nI (ad_H (ad_B A) s) ∧ de s = nI (ad_D T A s)) ∧ ∀ s, s < i → ad_Tb (he s) (ad_free T A s) ∧ ad_Tb (he (256 + s)) (ad_adm T A s) ∧ ad_Tb (he (512 + s)) (ad_comp T A s) ∧ ad_Tb (he (1280 + s)) (ad_stab T A s)
theorem ad_I10s {T : Nat} {A : Nat → Nat} {i : Nat} {tg so de he : Nat → Int32} (h : ad_I10 T A i tg so de he) (hi : i < 256) {v0 v1 v2 v5 : Int32} (h0 : ad_Tb v0 (ad_free T A i)) (h1 : ad_Tb v1 (ad_adm T A i)) (h2 : ad_Tb v2 (ad_comp T A i)) (h5 : ad_Tb v5 (ad_stab T A i)) : ad_I10 T A (i + 1) (upd tg i (nI (ad_H A i))) (upd so i (nI (ad_H (ad_B A) i))) (upd de i (nI (ad_D T A i))) (upd (upd (upd (upd he i v0) (256 + i) v1) (512 + i) v2) (1280 + i) v5) := by
  refine ⟨fun s hs => ?_, fun s hs => ?_⟩
  · by_cases e : s = i
    · rw [e, pk_us, pk_us, pk_us]; exact ⟨rfl, rfl, rfl⟩
    · rw [pk_un e, pk_un e, pk_un e]; exact h.1 s (by omega)
  · by_cases e : s = i
    · rw [e]
      refine ⟨?_, ?_, ?_, ?_⟩
      · rw [pk_un (by omega), pk_un (by omega), pk_un (by omega), pk_us]; exact h0
      · rw [pk_un (by omega), pk_un (by omega), pk_us]; exact h1
      · rw [pk_un (by omega), pk_us]; exact h2
      · rw [pk_us]; exact h5
    · obtain ⟨k0, k1, k2, k5⟩ := h.2 s (by omega)
      refine ⟨?_, ?_, ?_, ?_⟩
      · rw [pk_un (by omega), pk_un (by omega), pk_un (by omega), pk_un (by omega)]; exact k0
      · rw [pk_un (by omega), pk_un (by omega), pk_un (by omega), pk_un (by omega)]; exact k1
      · rw [pk_un (by omega), pk_un (by omega), pk_un (by omega), pk_un (by omega)]; exact k2
      · rw [pk_un (by omega), pk_un (by omega), pk_un (by omega), pk_un (by omega)]; exact k5
theorem ad_I10t {T : Nat} {A : Nat → Nat} {tg so de he : Nat → Int32} (h : ad_I10 T A 256 tg so de he) : ad_Tab he 0 (ad_free T A) ∧ ad_Tab he 1 (ad_adm T A) ∧ ad_Tab he 2 (ad_comp T A) ∧ ad_Tab he 5 (ad_stab T A) := by
  refine ⟨fun s hs => ?_, fun s hs => ?_, fun s hs => ?_, fun s hs => ?_⟩
  · have := (h.2 s hs).1
    rw [show 256 * 0 + s = s from by omega]; exact this
  · exact (h.2 s hs).2.1
  · exact (h.2 s hs).2.2.1
  · exact (h.2 s hs).2.2.2
section
variable {fr th : Int32} {aO tg so de he wa : Nat → Int32} {T : Nat} {A : Nat → Nat} {Q : Nat → Prop} {σ : Nat}
theorem ad_rf10X {post : SX → Prop} (hT : T < 256) (hA : ∀ a, A a < 256) (hO : ad_GO A aO) (h : ∀ tg so de he wa, ad_TX T A tg so de → ad_All T A he → post (nI T, 1, aO, tg, so, de, he, wa)) : ∀ d i n tg so de he wa, i + d = 256 → d < n → ad_I10 T A i tg so de he → wX_refresh_10 post n (nI i) (nI T) fr aO tg so de he wa := by
  intro d
  induction d with
  | zero =>
    intro i n tg so de he wa hi hn hI
    obtain ⟨n, rfl⟩ := ad_s hn
    obtain rfl : i = 256 := by omega
    obtain ⟨k0, k1, k2, k5⟩ := ad_I10t hI
    have hX : ad_TX T A tg so de := hI.1
    refine br_t (by decide) ?_
    refine ad_fdX hT k2 fun ha fa k3 => ?_
    replace k0 := ad_TabF k0 fa (by decide)
    replace k1 := ad_TabF k1 fa (by decide)
    replace k2 := ad_TabF k2 fa (by decide)
    replace k5 := ad_TabF k5 fa (by decide)
    dsimp only
    refine ad_fgX (σ := 1) (τ := 4) (l := T) (by decide) (by decide) (by decide) k1 fun hb fb k4 => ?_
    replace k0 := ad_TabF k0 fb (by decide)
    replace k1 := ad_TabF k1 fb (by decide)
    replace k2 := ad_TabF k2 fb (by decide)
    replace k3 := ad_TabF k3 fb (by decide)
    replace k5 := ad_TabF k5 fb (by decide)
    replace k4 := ad_TabI k4 (ad_e4 (ad_subR T))
    dsimp only
    refine ad_fwX (σ := 2) (τ := 6) hA hX (by decide) (by decide) (by decide) k2 fun hc fc k6 => ?_
    replace k0 := ad_TabF k0 fc (by decide)
    replace k1 := ad_TabF k1 fc (by decide)
    replace k2 := ad_TabF k2 fc (by decide)
    replace k3 := ad_TabF k3 fc (by decide)
    replace k4 := ad_TabF k4 fc (by decide)
    replace k5 := ad_TabF k5 fc (by decide)
    dsimp only
    refine ad_fwX (σ := 0) (τ := 7) hA hX (by decide) (by decide) (by decide) k0 fun hd fd k7 => ?_
    replace k0 := ad_TabF k0 fd (by decide)
    replace k1 := ad_TabF k1 fd (by decide)
    replace k2 := ad_TabF k2 fd (by decide)
    replace k3 := ad_TabF k3 fd (by decide)
    replace k4 := ad_TabF k4 fd (by decide)
    replace k5 := ad_TabF k5 fd (by decide)
    replace k6 := ad_TabF k6 fd (by decide)
    dsimp only
    refine ad_fgX (σ := 0) (τ := 8) (l := T) (by decide) (by decide) (by decide) k0 fun hf ff k8 => ?_
    replace k0 := ad_TabF k0 ff (by decide)
    replace k1 := ad_TabF k1 ff (by decide)
    replace k2 := ad_TabF k2 ff (by decide)
    replace k3 := ad_TabF k3 ff (by decide)
    replace k4 := ad_TabF k4 ff (by decide)
    replace k5 := ad_TabF k5 ff (by decide)
    replace k6 := ad_TabF k6 ff (by decide)
    replace k7 := ad_TabF k7 ff (by decide)
    replace k8 := ad_TabI k8 (ad_e8 (ad_subR T))
    dsimp only
    refine ad_comX (σ := 4) hT (by decide) k4 fun c hc8 hcom => ?_
    refine ad_fgX (σ := 1) (τ := 9) (l := c) (by decide) (by decide) (by decide) k1 fun hg fg k9 => ?_
    replace k0 := ad_TabF k0 fg (by decide)
    replace k1 := ad_TabF k1 fg (by decide)
    replace k2 := ad_TabF k2 fg (by decide)
    replace k3 := ad_TabF k3 fg (by decide)
    replace k4 := ad_TabF k4 fg (by decide)
    replace k5 := ad_TabF k5 fg (by decide)
    replace k6 := ad_TabF k6 fg (by decide)
    replace k7 := ad_TabF k7 fg (by decide)
    replace k8 := ad_TabF k8 fg (by decide)
    replace k9 := ad_TabI k9 (ad_e9 hcom)
    dsimp only
    refine ad_comX (σ := 6) hT (by decide) k6 fun c' hc8' hcom' => ?_
    refine ad_fgX (σ := 1) (τ := 10) (l := c') (by decide) (by decide) (by decide) k1 fun hh fh k10 => ?_
    replace k0 := ad_TabF k0 fh (by decide)
    replace k1 := ad_TabF k1 fh (by decide)
    replace k2 := ad_TabF k2 fh (by decide)
    replace k3 := ad_TabF k3 fh (by decide)
    replace k4 := ad_TabF k4 fh (by decide)
    replace k5 := ad_TabF k5 fh (by decide)
    replace k6 := ad_TabF k6 fh (by decide)
    replace k7 := ad_TabF k7 fh (by decide)
    replace k8 := ad_TabF k8 fh (by decide)
    replace k9 := ad_TabF k9 fh (by decide)
    replace k10 := ad_TabI k10 (ad_e10 hcom')
    dsimp only
    refine ad_fpX hT hA hX k0 fun hi' wa' fi k11 => ?_
    exact h tg so de hi' wa' hX (ad_All_i (ad_TabF k0 fi (by decide)) (ad_TabF k1 fi (by decide)) (ad_TabF k2 fi (by decide)) (ad_TabF k3 fi (by decide)) (ad_TabF k4 fi (by decide)) (ad_TabF k5 fi (by decide)) (ad_TabF k6 fi (by decide)) (ad_TabF k7 fi (by decide)) (ad_TabF k8 fi (by decide)) (ad_TabF k9 fi (by decide)) (ad_TabF k10 fi (by decide)) k11)
  | succ d ih =>
    intro i n tg so de he wa hi hn hI
    obtain ⟨n, rfl⟩ := ad_s hn
    have h8 : i < 256 := by omega
    refine br_f (nI_ge h8 (by decide)) (ad_ft hT hA hO h8 ?_)
    dsimp only
    refine ad_psX hT hA h8 pk_us pk_us fun v0 v1 v2 v5 h0 h1 h2 h5 => ?_
    exact nm_r (nI_1 i) (ih (i + 1) n _ _ _ _ wa (by omega) (by omega) (ad_I10s hI h8 h0 h1 h2 h5))
/-- the component's tables, where they are fresh -/
def ad_FX (T : Nat) (A : Nat → Nat) (fr : Int32) (tg so de he : Nat → Int32) : Prop := fr = 0 ∨ (fr = 1 ∧ ad_TX T A tg so de ∧ ad_All T A he)
theorem ad_rfX {post : SX → Prop} (hT : T < 256) (hA : ∀ a, A a < 256) (hO : ad_GO A aO) (hF : ad_FX T A fr tg so de he) (h : ∀ tg so de he wa, ad_TX T A tg so de → ad_All T A he → post (nI T, 1, aO, tg, so, de, he, wa)) : wpX_refresh post (nI T, fr, aO, tg, so, de, he, wa) := by
  unfold wpX_refresh
  dsimp only
  rcases hF with rfl | ⟨rfl, hX, hAll⟩
  · exact br_t rfl ⟨257, ad_rf10X hT hA hO h 256 0 257 tg so de he wa rfl (by decide) ⟨fun s hs => absurd hs (by omega), fun s hs => absurd hs (by omega)⟩⟩
  · exact br_f (by decide) (h tg so de he wa hX hAll)
end
end
section
/-! the reference's small methods -/
section
variable {kn wt : Int32} {ac fa wb : Nat → Int32} {T : Nat} {A : Nat → Nat} {Q : Nat → Prop} {σ : Nat}
theorem ad_isThY {post : Int32 → Prop} (hT : T < 256) {p : Int32} (h1 : ad_th T p → post 1) (h0 : ¬ ad_th T p → post 0) : wpY_isThere post (nI T, kn, wt, ac, fa, wb) p := by
  unfold wpY_isThere
  dsimp only
  by_cases hz : p < 0
  · refine br_t hz (h0 ?_)
    rintro ⟨a, ha, rfl, _⟩
    exact nI_pos (by omega) hz
  · obtain ⟨j, hj, rfl⟩ := nI_of hz
    refine br_f hz (pk_lt 7 j (fun h => h0 ?_) (fun h => ?_))
    · rintro ⟨a, ha, e, _⟩
      have := (nI_eq hj (by omega)).mp e
      omega
    · rw [ad_tb (by omega) (by omega)]
      refine ⟨fun z => h1 ⟨j, by omega, rfl, z⟩, fun z => h0 ?_⟩
      rw [ad_th_i (by omega)]; exact z
theorem ad_isSetY {post : Int32 → Prop} {p : Int32} (h1 : ad_st T p → post 1) (h0 : ¬ ad_st T p → post 0) : wpY_isSet post (nI T, kn, wt, ac, fa, wb) p := by
  unfold wpY_isSet
  dsimp only
  by_cases hz : p < 0
  · refine br_t hz (h0 ?_)
    rintro ⟨a, ha, rfl, _⟩
    exact nI_pos (by omega) hz
  · obtain ⟨j, hj, rfl⟩ := nI_of hz
    refine br_f hz (pk_lt 255 j (fun h => h0 ?_) (fun h => ?_))
    · rintro ⟨a, ha, e, _⟩
      have := (nI_eq hj (by omega)).mp e
      omega
    · rw [ad_subI (by omega)]
      refine ⟨fun z => h1 ⟨j, by omega, rfl, z⟩, fun z => h0 ?_⟩
      rw [ad_st_i (by omega)]; exact z
theorem ad_isSenY {post : Int32 → Prop} {u : SY} {p : Int32} (h1 : ad_se p → post 1) (h0 : ¬ ad_se p → post 0) : wpY_isSense post u p := by
  obtain ⟨t, kn, wt, ac, fa, wb⟩ := u
  unfold wpY_isSense
  dsimp only
  by_cases hz : p < 0
  · refine br_t hz (h0 ?_)
    rintro ⟨a, ha, rfl⟩
    exact nI_pos (by omega) hz
  · obtain ⟨j, hj, rfl⟩ := nI_of hz
    refine br_f hz (pk_lt 11 j (fun h => h0 ?_) (fun h => h1 ⟨j, by omega, rfl⟩))
    rintro ⟨a, ha, e⟩
    have := (nI_eq hj (by omega)).mp e
    omega
/-- the attacks as the reference keeps them -/
def ad_GA (A : Nat → Nat) (ac : Nat → Int32) : Prop := ∀ a, a < 8 → ac a = nI (A a)
theorem ad_at14Y {post : Int32 → Prop} (hA : ∀ a, A a < 256) (hG : ad_GA A ac) {a : Nat} (ha : a < 8) (h : post (nI (ad_B A a))) : ∀ d i n, i + d = 8 → d < n → wY_attackers_14 post (nI a) (nI T) kn wt ac fa wb n (nI (ad_mk (fun b => (A b).testBit a) i)) (nI i) := by
  intro d
  induction d with
  | zero =>
    intro i n hi hn
    obtain ⟨n, rfl⟩ := ad_s hn
    obtain rfl : i = 8 := by omega
    exact br_t (by decide) h
  | succ d ih =>
    intro i n hi hn
    obtain ⟨n, rfl⟩ := ad_s hn
    have h8 : i < 8 := by omega
    have k := ih (i + 1) n (by omega) (by omega)
    refine br_f (nI_ge h8 (by decide)) ⟨pk_in i 8 h8, ?_⟩
    rw [ad_c (by omega), hG i h8, ad_tb (by have := hA i; omega) (by omega)]
    refine br_c (fun z => nm_r (by rw [ad_one (by omega), ad_or]) (nm_r (nI_1 i) ?_)) (fun z => nm_r (nI_1 i) ?_)
    · have e : ad_mk (fun b => (A b).testBit a) (i + 1) = ad_mk (fun b => (A b).testBit a) i ||| 2 ^ i := if_pos z
      rw [← e]; exact k
    · have e : ad_mk (fun b => (A b).testBit a) (i + 1) = ad_mk (fun b => (A b).testBit a) i := if_neg z
      rw [← e]; exact k
theorem ad_atY {post : Int32 → Prop} (hT : T < 256) (hA : ∀ a, A a < 256) (hG : ad_GA A ac) {p : Int32} (h1 : ∀ a, a < 8 → p = nI a → T.testBit a = true → post (nI (ad_B A a))) (h0 : ¬ ad_th T p → post (-1)) : wpY_attackers post (nI T, kn, wt, ac, fa, wb) p := by
  unfold wpY_attackers
  dsimp only
  refine ad_isThY hT (fun z => br_f (by decide) ?_) (fun z => br_t rfl (h0 z))
  obtain ⟨a, ha, rfl, hb⟩ := z
  exact ⟨9, ad_at14Y hA hG ha (h1 a ha rfl hb) 8 0 9 rfl (by decide)⟩
theorem ad_hi4Y {post : Int32 → Prop} (hG : ad_GA A ac) {s : Nat} (hs : s < 256) (h : post (nI (ad_H A s))) : ∀ d i n, i + d = 8 → d < n → wY_hit_4 post (nI s) (nI T) kn wt ac fa wb n (nI (ad_ht A s i)) (nI i) := by
  intro d
  induction d with
  | zero =>
    intro i n hi hn
    obtain ⟨n, rfl⟩ := ad_s hn
    obtain rfl : i = 8 := by omega
    exact br_t (by decide) h
  | succ d ih =>
    intro i n hi hn
    obtain ⟨n, rfl⟩ := ad_s hn
    have h8 : i < 8 := by omega
    have k := ih (i + 1) n (by omega) (by omega)
    refine br_f (nI_ge h8 (by decide)) ?_
    rw [ad_tb (by omega) (by omega)]
    refine br_c (fun z => ⟨pk_in i 8 h8, nm_r (by rw [ad_c (by omega), hG i h8, ad_or]) (nm_r (nI_1 i) ?_)⟩) (fun z => nm_r (nI_1 i) ?_)
    · have e : ad_ht A s (i + 1) = ad_ht A s i ||| A i := if_pos z
      rw [← e]; exact k
    · have e : ad_ht A s (i + 1) = ad_ht A s i := if_neg z
      rw [← e]; exact k
theorem ad_hiY {post : Int32 → Prop} (hG : ad_GA A ac) {s : Nat} (hs : s < 256) (h : post (nI (ad_H A s))) : wpY_hit post (nI T, kn, wt, ac, fa, wb) (nI s) := by
  unfold wpY_hit
  exact ⟨9, ad_hi4Y hG hs h 8 0 9 rfl (by decide)⟩
theorem ad_de11Y {post : Int32 → Prop} (hT : T < 256) (hA : ∀ a, A a < 256) (hG : ad_GA A ac) {s : Nat} (h : post (nI (ad_D T A s))) : ∀ d i n, i + d = 8 → d < n → wY_defended_11 post (nI (ad_H A s)) (nI T) kn wt ac fa wb n (nI (ad_mk (ad_p2 T A s) i)) (nI i) := by
  intro d
  induction d with
  | zero =>
    intro i n hi hn
    obtain ⟨n, rfl⟩ := ad_s hn
    obtain rfl : i = 8 := by omega
    exact br_t (by decide) h
  | succ d ih =>
    intro i n hi hn
    obtain ⟨n, rfl⟩ := ad_s hn
    have h8 : i < 8 := by omega
    have k := ih (i + 1) n (by omega) (by omega)
    refine br_f (nI_ge h8 (by decide)) (ad_isThY hT (fun z => br_f (by decide) ?_) (fun z => br_t rfl (nm_r (nI_1 i) ?_)))
    · refine ad_atY hT hA hG (fun a ha e hb => ?_) (fun y => absurd z y)
      obtain rfl := ad_inj (by omega) (by omega) e
      rw [ad_subI (ad_B_lt A i)]
      refine br_c (fun z => nm_r (by rw [ad_one (by omega), ad_or]) (nm_r (nI_1 i) ?_)) (fun z => nm_r (nI_1 i) ?_)
      · have e : ad_mk (ad_p2 T A s) (i + 1) = ad_mk (ad_p2 T A s) i ||| 2 ^ i := if_pos (by unfold ad_p2; rw [hb, Bool.true_and, decide_eq_true_eq, ad_sub_df (ad_B_lt A i)]; exact z)
        rw [← e]; exact k
      · have e : ad_mk (ad_p2 T A s) (i + 1) = ad_mk (ad_p2 T A s) i := if_neg (by unfold ad_p2; rw [hb, Bool.true_and, decide_eq_true_eq, ad_sub_df (ad_B_lt A i)]; exact z)
        rw [← e]; exact k
    · rw [ad_th_i h8] at z
      have e : ad_mk (ad_p2 T A s) (i + 1) = ad_mk (ad_p2 T A s) i := if_neg (by unfold ad_p2; rw [Bool.and_eq_true]; exact fun y => z y.1)
      rw [← e]; exact k
theorem ad_deY {post : Int32 → Prop} (hT : T < 256) (hA : ∀ a, A a < 256) (hG : ad_GA A ac) {s : Nat} (hs : s < 256) (h : post (nI (ad_D T A s))) : wpY_defended post (nI T, kn, wt, ac, fa, wb) (nI s) := by
  unfold wpY_defended
  dsimp only
  exact ad_hiY hG hs ⟨9, ad_de11Y hT hA hG h 8 0 9 rfl (by decide)⟩
theorem ad_gr20Y {post : Int32 → Prop} (hA : ∀ a, A a < 256) (hG : ad_GA A ac) (hσ : σ < 12) (hQ : ad_Tab fa σ Q) {s : Nat} (hs : s < 256) (hq : Q s) (h1 : ad_wide A Q s → post 1) (h0 : ¬ ad_wide A Q s → post 0) : ∀ d i n, i + d = 256 → d < n → (∀ t, t < i → Q t → ad_sub (s ||| ad_H A s) (t ||| ad_H A t) → t ||| ad_H A t = s ||| ad_H A s) → wY_isGreatest_20 post (nI σ) 1 (nI (s ||| ad_H A s)) (nI T) kn wt ac fa wb n (nI i) := by
  intro d
  induction d with
  | zero =>
    intro i n hi hn hj
    obtain ⟨n, rfl⟩ := ad_s hn
    obtain rfl : i = 256 := by omega
    exact br_t (by decide) (h1 ⟨hq, hj⟩)
  | succ d ih =>
    intro i n hi hn hj
    obtain ⟨n, rfl⟩ := ad_s hn
    have h8 : i < 256 := by omega
    have hm := ad_orlt hs (ad_H_lt hA s)
    have hmi := ad_orlt h8 (ad_H_lt hA i)
    have k : (Q i → ad_sub (s ||| ad_H A s) (i ||| ad_H A i) → i ||| ad_H A i = s ||| ad_H A s) → wY_isGreatest_20 post (nI σ) 1 (nI (s ||| ad_H A s)) (nI T) kn wt ac fa wb n (nI (i + 1)) := fun z => ih (i + 1) n (by omega) (by omega) fun t ht q y => by
      by_cases e : t = i
      · rw [e] at q y ⊢; exact z q y
      · exact hj t (by omega) q y
    refine br_f (nI_ge h8 (by decide)) (br_f (by decide) (ad_hiY hG h8 ?_))
    unfold wY_isGreatest_46
    rw [ad_or, ad_ixY, ad_c (by omega), ad_TbN (hQ i h8), nI_eq (by omega) (by omega), ad_subI hm]
    refine ⟨pk_in (256 * σ + i) 3072 (by omega), br_c (fun z => nm_r (nI_1 i) (k fun q => absurd q z)) (fun z => br_c (fun y => nm_r (nI_1 i) (k fun _ _ => y)) (fun y => br_c (fun w => h0 fun g => y (g.2 i h8 (Classical.byContradiction z) w)) (fun w => nm_r (nI_1 i) (k fun _ w' => absurd w' w))))⟩
theorem ad_grY {post : Int32 → Prop} (hA : ∀ a, A a < 256) (hG : ad_GA A ac) (hσ : σ < 12) (hQ : ad_Tab fa σ Q) {s : Nat} (hs : s < 256) (hq : Q s) (h1 : ad_wide A Q s → post 1) (h0 : ¬ ad_wide A Q s → post 0) : wpY_isGreatest post (nI T, kn, wt, ac, fa, wb) (nI σ) (nI s) 1 := by
  unfold wpY_isGreatest
  dsimp only
  refine br_f (by decide) (ad_hiY hG hs (nm_r (ad_or _ _) ⟨257, ?_⟩))
  exact ad_gr20Y hA hG hσ hQ hs hq h1 h0 256 0 257 rfl (by decide) fun t ht => absurd ht (by omega)
theorem ad_com7Y {post : Int32 → Prop} (hσ : σ < 12) (hQ : ad_Tab fa σ Q) (h : ∀ c, c < 256 → ad_com T Q c → post (nI c)) : ∀ d i n c, i + d = 256 → d < n → c < 256 → (∀ j, c.testBit j = true ↔ (T.testBit j = true ∧ ∀ s, s < i → Q s → s.testBit j = true)) → wY_common_7 post (nI σ) (nI T) kn wt ac fa wb n (nI c) (nI i) := by
  intro d
  induction d with
  | zero =>
    intro i n c hi hn hc hj
    obtain ⟨n, rfl⟩ := ad_s hn
    obtain rfl : i = 256 := by omega
    exact br_t (by decide) (h c hc hj)
  | succ d ih =>
    intro i n c hi hn hc hj
    obtain ⟨n, rfl⟩ := ad_s hn
    have h8 : i < 256 := by omega
    refine br_f (nI_ge h8 (by decide)) ?_
    rw [ad_ixY, ad_c (by omega), ad_TbN (hQ i h8)]
    refine ⟨pk_in (256 * σ + i) 3072 (by omega), br_c (fun z => nm_r (nI_1 i) (ih (i + 1) n c (by omega) (by omega) hc fun j => ?_)) (fun z => nm_r (nx_and c i) (nm_r (nI_1 i) (ih (i + 1) n (c &&& i) (by omega) (by omega) (ad_andlt hc) fun j => ?_)))⟩
    · rw [hj j]
      refine and_congr_right fun _ => ⟨fun y s hs q => ?_, fun y s hs q => y s (by omega) q⟩
      by_cases e : s = i
      · rw [e] at q; exact absurd q z
      · exact y s (by omega) q
    · rw [Nat.testBit_and, Bool.and_eq_true, hj j]
      constructor
      · rintro ⟨⟨a, b⟩, c⟩
        refine ⟨a, fun s hs q => ?_⟩
        by_cases e : s = i
        · rw [e]; exact c
        · exact b s (by omega) q
      · rintro ⟨a, b⟩
        exact ⟨⟨a, fun s hs q => b s (by omega) q⟩, b i (by omega) (Classical.byContradiction z)⟩
theorem ad_comY {post : Int32 → Prop} (hT : T < 256) (hσ : σ < 12) (hQ : ad_Tab fa σ Q) (h : ∀ c, c < 256 → ad_com T Q c → post (nI c)) : wpY_common post (nI T, kn, wt, ac, fa, wb) (nI σ) := by
  unfold wpY_common
  exact ⟨257, ad_com7Y hσ hQ h 256 0 257 T rfl (by decide) hT fun j => ⟨fun z => ⟨z, fun s hs => absurd hs (by omega)⟩, fun z => z.1⟩⟩
/-- keepGreatest -/
theorem ad_kg46Y {post : SY → Prop} {J3 : Int32 → (Nat → Int32) → (Nat → Int32) → (Nat → Int32) → Prop} {th : Int32} {τ l s : Nat} (hσ : σ < 12) (hτ : τ < 12) (hQ : ad_Tab fa σ Q) (hs : s < 256) (hq : Q s) (hl : ad_sub s l) (k : ∀ v, ad_Tb v (ad_gr Q (fun t => ad_sub t l) s) → J3 (nI (s + 1)) ac (upd fa (256 * τ + s) v) wb) : ∀ d i n, i + d = 256 → d < n → (∀ t, t < i → Q t → ad_sub t l → ad_sub s t → t = s) → wY_keepGreatest_46 post J3 (nI σ) (nI τ) (nI l) (nI s) th kn wt ac fa wb (n + 1) 1 (nI i) := by
  have k110 : ∀ v, ad_Tb v (ad_gr Q (fun t => ad_sub t l) s) → wY_keepGreatest_110 post J3 (nI σ) (nI τ) (nI l) (nI s) v th kn wt ac fa wb := by
    intro v hv
    unfold wY_keepGreatest_110
    rw [ad_ixY, ad_c (by omega), ad_nT hv]
    exact ⟨pk_in (256 * τ + s) 3072 (by omega), nm_e (nm_r (nI_1 s) (k v hv))⟩
  intro d
  induction d with
  | zero =>
    intro i n hi hn hj
    obtain rfl : i = 256 := by omega
    exact br_t (by decide) (k110 1 (ad_Tb1 ⟨hq, hl, hj⟩))
  | succ d ih =>
    intro i n hi hn hj
    obtain ⟨n, rfl⟩ := ad_s hn
    have h8 : i < 256 := by omega
    have k' : (Q i → ad_sub i l → ad_sub s i → i = s) → wY_keepGreatest_46 post J3 (nI σ) (nI τ) (nI l) (nI s) th kn wt ac fa wb (n + 1) 1 (nI (i + 1)) := fun z => ih (i + 1) n (by omega) (by omega) fun t ht q y w => by
      by_cases e : t = i
      · rw [e] at q y w ⊢; exact z q y w
      · exact hj t (by omega) q y w
    refine br_f (nI_ge h8 (by decide)) (br_f (by decide) ?_)
    rw [ad_ixY, ad_c (by omega), ad_TbN (hQ i h8), ad_subI h8, ad_subI hs, nI_eq (by omega) (by omega)]
    refine ⟨pk_in (256 * σ + i) 3072 (by omega), br_c (fun z => nm_r (nI_1 i) (k' fun q => absurd q z)) (fun z => br_c (fun y => br_c (fun w => nm_r (nI_1 i) (k' fun _ _ _ => w)) (fun w => br_c (fun x => nm_r (nI_1 i) ?_) (fun x => nm_r (nI_1 i) (k' fun _ _ x' => absurd x' x)))) (fun y => nm_r (nI_1 i) (k' fun _ y' => absurd y' y)))⟩
    have f : wY_keepGreatest_110 post J3 (nI σ) (nI τ) (nI l) (nI s) 0 th kn wt ac fa wb := k110 0 (ad_Tb0 fun g => w (g.2.2 i h8 (Classical.byContradiction z) y x))
    exact br_c (fun _ => f) (fun _ => br_t rfl f)
theorem ad_kg3Y {post : SY → Prop} {τ l : Nat} (hσ : σ < 12) (hτ : τ < 12) (hn : σ ≠ τ) {fa0 : Nat → Int32} (hQ : ad_Tab fa0 σ Q) (h : ∀ fa, ad_Up fa0 fa τ 256 (ad_gr Q fun t => ad_sub t l) → post (nI T, kn, wt, ac, fa, wb)) : ∀ d i n fa, i + d = 256 → d < n → ad_Up fa0 fa τ i (ad_gr Q fun t => ad_sub t l) → wY_keepGreatest_3 post (nI σ) (nI τ) (nI l) (nI T) kn wt n (nI i) ac fa wb := by
  intro d
  induction d with
  | zero =>
    intro i n fa hi hn hu
    obtain ⟨n, rfl⟩ := ad_s hn
    obtain rfl : i = 256 := by omega
    exact br_t (by decide) (h fa hu)
  | succ d ih =>
    intro i n fa hi hn' hu
    obtain ⟨n, rfl⟩ := ad_s hn'
    have h8 : i < 256 := by omega
    have hQ' := ad_TabF hQ hu.1 hn
    have k : ∀ v, ad_Tb v (ad_gr Q (fun t => ad_sub t l) i) → wY_keepGreatest_3 post (nI σ) (nI τ) (nI l) (nI T) kn wt n (nI (i + 1)) ac (upd fa (256 * τ + i) v) wb := fun v hv => ih (i + 1) n _ (by omega) (by omega) (ad_UpS hu h8 hv)
    have f : ¬ (Q i ∧ ad_sub i l) → ∃ n46, wY_keepGreatest_46 post (wY_keepGreatest_3 post (nI σ) (nI τ) (nI l) (nI T) kn wt n) (nI σ) (nI τ) (nI l) (nI i) (nI T) kn wt ac fa wb n46 0 0 := by
      intro z
      have hv : ad_Tb 0 (ad_gr Q (fun t => ad_sub t l) i) := ad_Tb0 fun g => z ⟨g.1, g.2.1⟩
      refine ⟨1, br_f (by decide) (br_t rfl ?_)⟩
      unfold wY_keepGreatest_110
      rw [ad_ixY, ad_c (by omega), ad_nT hv]
      exact ⟨pk_in (256 * τ + i) 3072 (by omega), nm_e (nm_r (nI_1 i) (k 0 hv))⟩
    refine br_f (nI_ge h8 (by decide)) ?_
    rw [ad_ixY, ad_c (by omega), ad_TbN (hQ' i h8), ad_subI h8]
    refine ⟨pk_in (256 * σ + i) 3072 (by omega), br_c (fun z => f fun y => z y.1) (fun z => br_c (fun y => ⟨258, ?_⟩) (fun y => f fun w => y w.2))⟩
    exact ad_kg46Y hσ hτ hQ' h8 (Classical.byContradiction z) y k 256 0 257 rfl (by decide) fun t ht => absurd ht (by omega)
theorem ad_kgY {post : SY → Prop} {τ l : Nat} (hσ : σ < 12) (hτ : τ < 12) (hn : σ ≠ τ) (hQ : ad_Tab fa σ Q) (h : ∀ fa', ad_Fr fa fa' τ → ad_Tab fa' τ (ad_gr Q fun t => ad_sub t l) → post (nI T, kn, wt, ac, fa', wb)) : wpY_keepGreatest post (nI T, kn, wt, ac, fa, wb) (nI σ) (nI τ) (nI l) := by
  unfold wpY_keepGreatest
  exact ⟨257, ad_kg3Y hσ hτ hn hQ (fun fa' hu => h fa' hu.1 hu.2) 256 0 257 fa rfl (by decide) ad_Up0⟩
end
end
section
/-! the reference's last sense -/
def ad_dn : Nat → Int32
  | 0 => -1
  | m + 1 => nI m
theorem ad_dn_s : ∀ m, nI m + (-1) = ad_dn m
  | 0 => by decide
  | m + 1 => pk_m1 m
section
variable {kn wt : Int32} {ac fa wb : Nat → Int32} {T : Nat} {A : Nat → Nat} {Q : Nat → Prop} {σ : Nat}
theorem ad_ct7Y {post : Int32 → Prop} (hA : ∀ a, A a < 256) (hG : ad_GA A ac) {w a : Nat} (ha : a < 8) (h : post (nI (ad_fw A w 8 (2 ^ a)))) : ∀ d k n, k + d = 8 → d < n → wY_comeTo_7 post (nI w) (nI T) kn wt ac fa wb n (nI (ad_fw A w k (2 ^ a))) (nI k) := by
  intro d
  induction d with
  | zero =>
    intro k n hk hn
    obtain ⟨n, rfl⟩ := ad_s hn
    obtain rfl : k = 8 := by omega
    exact br_t (by decide) h
  | succ d ih =>
    intro k n hk hn
    obtain ⟨n, rfl⟩ := ad_s hn
    have h1 := ad_fw_lt hA w k _ (ad_2lt ha)
    have j := ih (k + 1) n (by omega) (by omega)
    rw [ad_fw_s] at j
    refine br_f (nI_ge (show k < 8 from by omega) (by decide)) (ad_hiY hG h1 (nm_r (e' := nI (ad_F A w (ad_fw A w k (2 ^ a)))) ?_ (nm_r (nI_1 k) j)))
    rw [nx_and, ad_or]; rfl
theorem ad_ctY {post : Int32 → Prop} (hA : ∀ a, A a < 256) (hG : ad_GA A ac) {w a : Nat} (ha : a < 8) (h : post (nI (ad_fw A w 8 (2 ^ a)))) : wpY_comeTo post (nI T, kn, wt, ac, fa, wb) (nI a) (nI w) := by
  unfold wpY_comeTo
  exact nm_r (ad_one (by omega)) ⟨9, ad_ct7Y hA hG ha h 8 0 9 rfl (by decide)⟩
def ad_p3 (A : Nat → Nat) (w a : Nat) (b : Nat) : Bool := (ad_fw A w 8 (2 ^ a)).testBit b && (ad_fw A w 8 (2 ^ b)).testBit a
theorem ad_ci13Y {post : Int32 → Prop} (hA : ∀ a, A a < 256) (hG : ad_GA A ac) {w a : Nat} (ha : a < 8) (h : post (nI (ad_mk (ad_p3 A w a) 8))) : ∀ d i n, i + d = 8 → d < n → wY_circle_13 post (nI a) (nI w) (nI (ad_fw A w 8 (2 ^ a))) (nI T) kn wt ac fa wb n (nI (ad_mk (ad_p3 A w a) i)) (nI i) := by
  intro d
  induction d with
  | zero =>
    intro i n hi hn
    obtain ⟨n, rfl⟩ := ad_s hn
    obtain rfl : i = 8 := by omega
    exact br_t (by decide) h
  | succ d ih =>
    intro i n hi hn
    obtain ⟨n, rfl⟩ := ad_s hn
    have h8 : i < 8 := by omega
    have k := ih (i + 1) n (by omega) (by omega)
    have l1 := ad_fw_lt hA w 8 _ (ad_2lt ha)
    have l2 := ad_fw_lt hA w 8 _ (ad_2lt h8)
    refine br_f (nI_ge h8 (by decide)) ?_
    rw [ad_tb (by omega) (by omega)]
    refine br_c (fun z => ad_ctY hA hG h8 ?_) (fun z => nm_r (nI_1 i) ?_)
    · rw [ad_tb (by omega) (by omega)]
      refine br_c (fun y => nm_r (by rw [ad_one (by omega), ad_or]) (nm_r (nI_1 i) ?_)) (fun y => nm_r (nI_1 i) ?_)
      · have e : ad_mk (ad_p3 A w a) (i + 1) = ad_mk (ad_p3 A w a) i ||| 2 ^ i := if_pos (by unfold ad_p3; rw [z, y]; rfl)
        rw [← e]; exact k
      · have e : ad_mk (ad_p3 A w a) (i + 1) = ad_mk (ad_p3 A w a) i := if_neg (by unfold ad_p3; rw [Bool.and_eq_true]; exact fun q => y q.2)
        rw [← e]; exact k
    · have e : ad_mk (ad_p3 A w a) (i + 1) = ad_mk (ad_p3 A w a) i := if_neg (by unfold ad_p3; rw [Bool.and_eq_true]; exact fun q => z q.1)
      rw [← e]; exact k
theorem ad_ciY {post : Int32 → Prop} (hA : ∀ a, A a < 256) (hG : ad_GA A ac) {w a : Nat} (hw : w < 256) (ha : w.testBit a = true) (h : post (nI (ad_cc A w a))) : wpY_circle post (nI T, kn, wt, ac, fa, wb) (nI a) (nI w) := by
  unfold wpY_circle
  have h8 := ad_b8 hw ha
  refine ad_ctY hA hG h8 ⟨9, ad_ci13Y hA hG h8 ?_ 8 0 9 rfl (by decide)⟩
  have e : ad_mk (ad_p3 A w a) 8 = ad_cc A w a := ad_cir hA hw ha
  rw [e]; exact h
theorem ad_fu19Y {post : Int32 → Prop} (hA : ∀ a, A a < 256) (hG : ad_GA A ac) {s w : Nat} (hs : s < 256) (hw : w < 256) (hf : ad_H A (s &&& w) &&& (s &&& w) = 0) (h1 : ad_full A s w → post 1) (h0 : ¬ ad_full A s w → post 0) : ∀ d i n, i + d = 8 → d < n → (∀ a, a < i → w.testBit a = true → ¬ (s &&& w).testBit a = true → ¬ (ad_H A (s &&& w ||| 2 ^ a) &&& (s &&& w ||| 2 ^ a) = 0)) → wY_isFull_19 post (nI w) (nI (s &&& w)) (nI T) kn wt ac fa wb n (nI i) := by
  intro d
  induction d with
  | zero =>
    intro i n hi hn hj
    obtain ⟨n, rfl⟩ := ad_s hn
    obtain rfl : i = 8 := by omega
    exact br_t (by decide) (h1 ⟨hf, hj⟩)
  | succ d ih =>
    intro i n hi hn hj
    obtain ⟨n, rfl⟩ := ad_s hn
    have h8 : i < 8 := by omega
    have ho : s &&& w < 256 := ad_andlt hs
    have hm := ad_orlt ho (ad_2lt h8)
    have k : (w.testBit i = true → ¬ (s &&& w).testBit i = true → ¬ (ad_H A (s &&& w ||| 2 ^ i) &&& (s &&& w ||| 2 ^ i) = 0)) → wY_isFull_19 post (nI w) (nI (s &&& w)) (nI T) kn wt ac fa wb n (nI (i + 1)) := fun z => ih (i + 1) n (by omega) (by omega) fun a ha x y => by
      by_cases e : a = i
      · rw [e] at x y ⊢; exact z x y
      · exact hj a (by omega) x y
    refine br_f (nI_ge h8 (by decide)) (nm_r (e' := nI (s &&& w ||| 2 ^ i)) (by rw [ad_one (by omega), ad_or]) ?_)
    rw [ad_tb (by omega) (by omega), nI_eq (by omega) (by omega)]
    refine br_c (fun x => br_c (fun y => nm_r (nI_1 i) (k fun _ y' => absurd ?_ y')) (fun y => ad_hiY hG hm ?_)) (fun x => nm_r (nI_1 i) (k fun x' => absurd x' x))
    · rw [← y]; exact (ad_or2_tb _ _ _).mpr (Or.inr rfl)
    · rw [ad_andI (ad_H_lt hA _)]
      refine br_c (fun z => h0 fun g => g.2 i h8 x (fun y' => y ?_) z) (fun z => nm_r (nI_1 i) (k fun _ _ => z))
      apply ad_ext
      intro j
      rw [ad_or2_tb]
      constructor
      · rintro (q | rfl)
        · exact q
        · exact y'
      · intro q; exact Or.inl q
theorem ad_fuY {post : Int32 → Prop} (hA : ∀ a, A a < 256) (hG : ad_GA A ac) {s w : Nat} (hs : s < 256) (hw : w < 256) (h1 : ad_full A s w → post 1) (h0 : ¬ ad_full A s w → post 0) : wpY_isFull post (nI T, kn, wt, ac, fa, wb) (nI s) (nI w) := by
  unfold wpY_isFull
  dsimp only
  refine nm_r (nx_and s w) (ad_hiY hG (ad_andlt hs) ?_)
  rw [ad_andI (ad_H_lt hA _)]
  exact br_c (fun z => ⟨9, ad_fu19Y hA hG hs hw z h1 h0 8 0 9 rfl (by decide) fun a ha => absurd ha (by omega)⟩) (fun z => h0 fun g => z g.1)
theorem ad_puY {post : SY → Prop} {p : Nat} {l : List Nat} (hp : p < 256) (hl : l.length < 16) (hk : ad_stk wb l) (h : ∀ wb, ad_stk wb (if p = 0 then l else p :: l) → post (nI T, kn, nI (if p = 0 then l else p :: l).length, ac, fa, wb)) : wpY_push post (nI T, kn, nI l.length, ac, fa, wb) (nI p) := by
  unfold wpY_push
  dsimp only
  refine pk_eq p 0 (fun z => ?_) (fun z => ?_)
  · rw [if_pos z] at h
    exact h wb hk
  · rw [if_neg z] at h
    refine ⟨pk_in l.length 16 hl, nm_e (nm_r (nI_1 l.length) ?_)⟩
    rw [ad_c (by omega)]
    exact h _ (ad_stk_p hk)
theorem ad_pa5Y {post : SY → Prop} (hA : ∀ a, A a < 256) (hG : ad_GA A ac) {s w : Nat} (hs : s < 256) (hw : w < 256) (hwT : ad_sub w T) {L : List Nat} (h : ∀ wb, ad_stk wb L → post (nI T, kn, nI L.length, ac, fa, wb)) : ∀ d i n r l wb, i + d = 8 → d < n → ad_cl A w r → ad_ok T l → ad_ps l + ad_pc r ≤ 8 → ad_stk wb l → ad_pt A s w d r l = L → wY_part_5 post (nI s) (nI w) n (nI r) (nI i) (nI T) kn (nI l.length) ac fa wb := by
  intro d
  induction d with
  | zero =>
    intro i n r l wb hi hn hr hl hp hk e
    obtain ⟨n, rfl⟩ := ad_s hn
    obtain rfl : i = 8 := by omega
    subst e
    exact br_t (by decide) (h wb hk)
  | succ d ih =>
    intro i n r l wb hi hn hr hl hp hk e
    obtain ⟨n, rfl⟩ := ad_s hn
    have h8 : i < 8 := by omega
    have hi7 : 7 - d = i := by omega
    unfold ad_pt at e
    rw [hi7] at e
    have hsw : s &&& w < 256 := ad_andlt hs
    have hc := ad_cc_lt hA w h8
    have hd := ad_df_lt (b := ad_cc A w i) hsw
    have hr1 := hr.1
    refine br_f (nI_ge h8 (by decide)) ?_
    rw [ad_tb (by omega) (by omega)]
    refine br_c (fun hb => ad_ciY hA hG hw (hr.2.1 i hb) ?_) (fun hb => nm_r (nI_1 i) ?_)
    · rw [if_pos hb] at e
      obtain ⟨k1, k2⟩ := ad_pt_1 hA (s := s) hw hwT hr hb hl
      have hr' := ad_cl_df hA hw hr hb
      rw [nx_and, ad_not hsw]
      refine ad_hiY hG hd ?_
      rw [ad_not hc]
      have hlen := ad_ok_len _ hl
      refine ad_puY (p := ad_pa A s w (ad_cc A w i)) (ad_pa_lt hA s w h8) (by omega) hk fun wb' hk' => ?_
      exact nm_r (ad_not hr.1) (nm_r (nI_1 i) (ih (i + 1) n _ _ wb' (by omega) (by omega) hr' k1 (by omega) hk' e))
    · rw [if_neg hb] at e
      exact ih (i + 1) n r l wb (by omega) (by omega) hr hl hp hk e
theorem ad_paY {post : SY → Prop} (hA : ∀ a, A a < 256) (hG : ad_GA A ac) {s w : Nat} (hs : s < 256) (hw : w < 256) (hwT : ad_sub w T) {l : List Nat} (hl : ad_ok T l) (hp : ad_ps l + ad_pc w ≤ 8) (hk : ad_stk wb l) (h : ∀ wb, ad_stk wb (ad_pt A s w 8 w l) → post (nI T, kn, nI (ad_pt A s w 8 w l).length, ac, fa, wb)) : wpY_part post (nI T, kn, nI l.length, ac, fa, wb) (nI s) (nI w) := by
  unfold wpY_part
  exact ⟨9, ad_pa5Y hA hG hs hw hwT h 8 0 9 w l wb rfl (by decide) (ad_cl_w hA hw) hl hp hk rfl⟩
theorem ad_el55Y {post : Int32 → SY → Prop} {J15 : Int32 → Int32 → Int32 → Int32 → (Nat → Int32) → (Nat → Int32) → (Nat → Int32) → Prop} (hA : ∀ a, A a < 256) (hG : ad_GA A ac) {s w i : Nat} (hs : s < 256) (hw : w < 256) (hz : w ≠ 0) (hwT : ad_sub w T) {l : List Nat} (hl : ad_ok T l) (hp : ad_ps l + ad_pc w ≤ 8) (hk : ad_stk wb l) (ha : ad_cc A w (ad_fi w) = w → ¬ ad_full A s w → post 0 (nI T, kn, nI l.length, ac, fa, wb)) (hb : ad_cc A w (ad_fi w) = w → ad_full A s w → J15 (nI (i + 1)) (nI T) kn (nI l.length) ac fa wb) (hc : ¬ ad_cc A w (ad_fi w) = w → ∀ wb, ad_stk wb (ad_pt A s w 8 w l) → J15 (nI (i + 1)) (nI T) kn (nI (ad_pt A s w 8 w l).length) ac fa wb) : ∀ m n f, m ≤ 8 → m < n → (∀ b, m ≤ b → w.testBit b = true → w.testBit f = true ∧ ∀ c, m ≤ c → c < f → ¬ w.testBit c = true) → wY_isEleventh_55 post J15 (nI s) (nI i) (nI w) (nI T) kn (nI l.length) ac fa wb n (nI f) (ad_dn m) := by
  intro m
  induction m with
  | zero =>
    intro n f _ hn hj
    obtain ⟨n, rfl⟩ := ad_s hn
    obtain ⟨b, hbit⟩ := ad_nz hz
    obtain ⟨q1, q2⟩ := hj b (Nat.zero_le b) hbit
    have e : ad_fi w = f := ad_fi_eq (ad_b8 hw q1) q1 (fun c hcf => q2 c (Nat.zero_le c) hcf)
    rw [e] at ha hb hc
    have hcc := ad_cc_lt hA w (ad_b8 hw q1)
    refine br_t (by decide) (ad_ciY hA hG hw q1 (pk_eq (ad_cc A w f) w (fun z => ad_fuY hA hG hs hw (fun g => br_f (by decide) (nm_r (nI_1 i) (hb z g))) (fun g => br_t rfl (ha z g))) (fun z => ?_)))
    exact ad_paY hA hG hs hw hwT hl hp hk fun wb' hk' => nm_r (nI_1 i) (hc z wb' hk')
  | succ m ih =>
    intro n f hm hn hj
    obtain ⟨n, rfl⟩ := ad_s hn
    have e : ad_dn (m + 1) = nI m := rfl
    rw [e]
    refine br_f (nI_pos (by omega)) ?_
    rw [ad_tb (by omega) (by omega)]
    refine br_c (fun z => nm_r (ad_dn_s m) (ih n m (by omega) (by omega) fun b _ _ => ⟨z, fun c h1 h2 => absurd h1 (by omega)⟩)) (fun z => nm_r (ad_dn_s m) (ih n f (by omega) (by omega) fun b h1 h2 => ?_))
    have hbm : m + 1 ≤ b := by
      by_cases q : b = m
      · rw [q] at h2; exact absurd h2 z
      · omega
    obtain ⟨q1, q2⟩ := hj b hbm h2
    refine ⟨q1, fun c h3 h4 => ?_⟩
    by_cases q : c = m
    · rw [q]; exact z
    · exact q2 c (by omega) h4
theorem ad_el15Y {post : Int32 → SY → Prop} (hA : ∀ a, A a < 256) (hG : ad_GA A ac) {s : Nat} (hs : s < 256) : ∀ k i n l wb, i + k < 64 → k < n → ad_ph l ≤ k → ad_ok T l → ad_ps l ≤ 8 → ad_stk wb l → (∀ wt wb, ad_run A s k l → post 1 (nI T, kn, wt, ac, fa, wb)) → (∀ wt wb, ¬ ad_run A s k l → post 0 (nI T, kn, wt, ac, fa, wb)) → wY_isEleventh_15 post (nI s) n (nI i) (nI T) kn (nI l.length) ac fa wb := by
  intro k
  induction k with
  | zero =>
    intro i n l wb hi hn hph hl hp hk h1 h0
    obtain ⟨n, rfl⟩ := ad_s hn
    cases l with
    | nil => exact br_f (nI_ge (show i < 64 from by omega) (by decide)) (br_t (by decide) (h1 _ wb trivial))
    | cons w l =>
      have := ad_pc_pos hl.1.1 hl.1.2.1
      have e : ad_ph (w :: l) = 2 * ad_pc w - 1 + ad_ph l := rfl
      omega
  | succ k ih =>
    intro i n l wb hi hn hph hl hp hk h1 h0
    obtain ⟨n, rfl⟩ := ad_s hn
    cases l with
    | nil => exact br_f (nI_ge (show i < 64 from by omega) (by decide)) (br_t (by decide) (h1 _ wb trivial))
    | cons w l =>
      obtain ⟨⟨hw, hz, hwT⟩, hl'⟩ := hl
      have hpw := ad_pc_pos hw hz
      have e1 : ad_ph (w :: l) = 2 * ad_pc w - 1 + ad_ph l := rfl
      have e2 : ad_ps (w :: l) = ad_pc w + ad_ps l := rfl
      have hlen := ad_ok_len l hl'
      have el : nI (w :: l).length = nI (l.length + 1) := rfl
      refine br_f (nI_ge (show i < 64 from by omega) (by decide)) (br_f (by rw [el]; exact nI_nle (by omega) (by omega)) (nm_r (nI_pred l.length) ⟨pk_in l.length 16 (by omega), nm_r (e' := nI w) (by rw [ad_c (by omega)]; exact hk.1) ⟨9, ?_⟩⟩))
      refine ad_el55Y hA hG hs hw hz hwT hl' (by omega) hk.2 (fun hj hf => h0 _ _ ?_) (fun hj hf => ?_) (fun hj wb' hk' => ?_) 8 9 0 (by decide) (by decide) (fun b h8 hb => absurd (ad_b8 hw hb) (by omega))
      · show ¬ (if ad_cc A w (ad_fi w) = w then ad_full A s w ∧ ad_run A s k l else ad_run A s k (ad_pt A s w 8 w l))
        rw [if_pos hj]
        exact fun z => hf z.1
      · have hr : ad_run A s (k + 1) (w :: l) ↔ ad_full A s w ∧ ad_run A s k l := by
          show (if ad_cc A w (ad_fi w) = w then ad_full A s w ∧ ad_run A s k l else ad_run A s k (ad_pt A s w 8 w l)) ↔ _
          rw [if_pos hj]
        exact ih (i + 1) n l wb (by omega) (by omega) (by omega) hl' (by omega) hk.2 (fun wt wb z => h1 wt wb (hr.mpr ⟨hf, z⟩)) (fun wt wb z => h0 wt wb fun y => z (hr.mp y).2)
      · have hr : ad_run A s (k + 1) (w :: l) ↔ ad_run A s k (ad_pt A s w 8 w l) := by
          show (if ad_cc A w (ad_fi w) = w then ad_full A s w ∧ ad_run A s k l else ad_run A s k (ad_pt A s w 8 w l)) ↔ _
          rw [if_neg hj]
        have p1 := (ad_pt_ph hA (s := s) hw 8 w l (by omega) (ad_cl_w hA hw) (fun b hb => absurd hb (by omega))).2 (ad_ex1 hA hw hz hj)
        have p2 := ad_pt_ok hA (s := s) hw hwT 8 w l (ad_cl_w hA hw) hl'
        have e3 : ad_g w = 2 * ad_pc w - 1 := rfl
        exact ih (i + 1) n _ wb' (by omega) (by omega) (by omega) p2.1 (by omega) hk' (fun wt wb z => h1 wt wb (hr.mpr z)) (fun wt wb z => h0 wt wb fun y => z (hr.mp y))
theorem ad_elY {post : Int32 → SY → Prop} (hT : T < 256) (hA : ∀ a, A a < 256) (hG : ad_GA A ac) {s : Nat} (hs : s < 256) (h1 : ∀ wt wb, ad_run A s 16 (if T = 0 then [] else [T]) → post 1 (nI T, kn, wt, ac, fa, wb)) (h0 : ∀ wt wb, ¬ ad_run A s 16 (if T = 0 then [] else [T]) → post 0 (nI T, kn, wt, ac, fa, wb)) : wpY_isEleventh post (nI T, kn, wt, ac, fa, wb) (nI s) := by
  unfold wpY_isEleventh
  dsimp only
  refine ad_puY (l := []) hT (by decide) trivial fun wb' hk' => ⟨17, ?_⟩
  have hp := ad_pc_le T
  refine ad_el15Y hA hG hs 16 0 17 _ _ (by decide) (by decide) ?_ ?_ ?_ hk' h1 h0
  · by_cases z : T = 0
    · rw [if_pos z]; exact Nat.zero_le _
    · rw [if_neg z]; show 2 * ad_pc T - 1 + 0 ≤ 16; omega
  · by_cases z : T = 0
    · rw [if_pos z]; exact trivial
    · rw [if_neg z]; exact ⟨⟨hT, z, ad_subR T⟩, trivial⟩
  · by_cases z : T = 0
    · rw [if_pos z]; exact Nat.zero_le _
    · rw [if_neg z]; show ad_pc T + 0 ≤ 8; omega
end
end
section
/-! the reference's workOut -/
section
variable {kn wt : Int32} {ac fa wb : Nat → Int32} {T : Nat} {A : Nat → Nat} {Q : Nat → Prop} {i : Nat} {post : SY → Prop} {J15 : Int32 → Int32 → Int32 → Int32 → (Nat → Int32) → (Nat → Int32) → (Nat → Int32) → Prop}
theorem ad_w160 (hT : T < 256) (hA : ∀ a, A a < 256) (hG : ad_GA A ac) (hi : i < 256) {x4 z0 : Int32} (hx : ad_Tb x4 (ad_free T A i)) (hz : vp_nar .boolean z0 = z0) (k : ∀ v wt wb, ad_Tb v (ad_P11 T A i) → J15 (nI (i + 1)) (nI T) kn wt ac (upd (upd fa (1280 + i) z0) (2816 + i) v) wb) : wY_workOut_160 post J15 (nI i) x4 z0 (1280 + nI i) (nI T) kn wt ac fa wb := by
  unfold wY_workOut_160
  have e1 : (1280 : Int32) + nI i = nI (1280 + i) := nI_add 1280 i
  have e2 : (2816 : Int32) + nI i = nI (2816 + i) := nI_add 2816 i
  rw [e1, e2, ad_c (by omega), ad_c (by omega), hz, ad_n0, ad_n1]
  refine ⟨pk_in (1280 + i) 3072 (by omega), nm_e ?_⟩
  rw [ad_TbN hx]
  refine br_c (fun z => ⟨pk_in (2816 + i) 3072 (by omega), nm_e (nm_r (nI_1 i) (k 0 wt wb (ad_Tb0 fun g => z g.1)))⟩) (fun z => ad_elY hT hA hG hi (fun wt wb g => br_f (by decide) ⟨pk_in (2816 + i) 3072 (by omega), nm_e (nm_r (nI_1 i) (k 1 wt wb (ad_Tb1 ⟨Classical.byContradiction z, g⟩)))⟩) (fun wt wb g => br_t rfl ⟨pk_in (2816 + i) 3072 (by omega), nm_e (nm_r (nI_1 i) (k 0 wt wb (ad_Tb0 fun y => g y.2)))⟩))
theorem ad_w126 (hT : T < 256) (hA : ∀ a, A a < 256) (hG : ad_GA A ac) (hi : i < 256) {x4 z0 : Int32} (hx : ad_Tb x4 (ad_free T A i)) (hz : vp_nar .boolean z0 = z0) (k : ∀ v5 v wt wb, ad_Tb v5 (ad_stab T A i) → ad_Tb v (ad_P11 T A i) → J15 (nI (i + 1)) (nI T) kn wt ac (upd (upd (upd fa (512 + i) z0) (1280 + i) v5) (2816 + i) v) wb) : wY_workOut_126 post J15 (nI i) x4 z0 (512 + nI i) (nI T) kn wt ac fa wb := by
  unfold wY_workOut_126
  have e1 : (512 : Int32) + nI i = nI (512 + i) := nI_add 512 i
  rw [e1, ad_c (by omega), hz]
  refine ⟨pk_in (512 + i) 3072 (by omega), nm_e ?_⟩
  rw [ad_TbN hx]
  have hm := ad_orlt hi (ad_H_lt hA i)
  refine br_c (fun z => ?_) (fun z => ad_hiY hG hi ?_)
  · exact ad_w160 hT hA hG hi hx ad_n0 (fun v wt wb hv => k 0 v wt wb (ad_Tb0 fun g => z g.1) hv)
  · rw [ad_or, nI_eq (by omega) (by omega)]
    refine br_c (fun y => ?_) (fun y => ?_)
    · exact ad_w160 hT hA hG hi hx ad_n1 (fun v wt wb hv => k 1 v wt wb (ad_Tb1 ⟨Classical.byContradiction z, y⟩) hv)
    · exact ad_w160 hT hA hG hi hx ad_n0 (fun v wt wb hv => k 0 v wt wb (ad_Tb0 fun g => y g.2) hv)
theorem ad_w101 (hT : T < 256) (hA : ∀ a, A a < 256) (hG : ad_GA A ac) (hi : i < 256) {x4 z0 : Int32} (hx : ad_Tb x4 (ad_free T A i)) (hz : vp_nar .boolean z0 = z0) (k : ∀ v2 v5 v wt wb, ad_Tb v2 (ad_comp T A i) → ad_Tb v5 (ad_stab T A i) → ad_Tb v (ad_P11 T A i) → J15 (nI (i + 1)) (nI T) kn wt ac (upd (upd (upd (upd fa (256 + i) z0) (512 + i) v2) (1280 + i) v5) (2816 + i) v) wb) : wY_workOut_101 post J15 (nI i) (nI (ad_D T A i)) x4 z0 (256 + nI i) (nI T) kn wt ac fa wb := by
  unfold wY_workOut_101
  have e1 : (256 : Int32) + nI i = nI (256 + i) := nI_add 256 i
  rw [e1, ad_c (by omega), hz]
  refine ⟨pk_in (256 + i) 3072 (by omega), nm_e ?_⟩
  have hd := ad_D_lt T A i
  rw [ad_TbN hx, nI_eq (by omega) (by omega)]
  refine br_c (fun z => ?_) (fun z => br_c (fun y => ?_) (fun y => ?_))
  · exact ad_w126 hT hA hG hi hx ad_n0 (fun v5 v wt wb => k 0 v5 v wt wb (ad_Tb0 fun g => z g.1))
  · exact ad_w126 hT hA hG hi hx ad_n1 (fun v5 v wt wb => k 1 v5 v wt wb (ad_Tb1 ⟨Classical.byContradiction z, y⟩))
  · exact ad_w126 hT hA hG hi hx ad_n0 (fun v5 v wt wb => k 0 v5 v wt wb (ad_Tb0 fun g => y g.2))
theorem ad_w64 (hT : T < 256) (hA : ∀ a, A a < 256) (hG : ad_GA A ac) (hi : i < 256) {z0 : Int32} (hx : ad_Tb z0 (ad_free T A i)) (k : ∀ v1 v2 v5 v wt wb, ad_Tb v1 (ad_adm T A i) → ad_Tb v2 (ad_comp T A i) → ad_Tb v5 (ad_stab T A i) → ad_Tb v (ad_P11 T A i) → J15 (nI (i + 1)) (nI T) kn wt ac (upd (upd (upd (upd (upd fa i z0) (256 + i) v1) (512 + i) v2) (1280 + i) v5) (2816 + i) v) wb) : wY_workOut_64 post J15 (nI i) (nI (ad_D T A i)) z0 (nI T) kn wt ac fa wb := by
  unfold wY_workOut_64
  rw [ad_c (by omega), ad_nT hx]
  refine ⟨pk_in i 3072 (by omega), nm_e ?_⟩
  rw [ad_TbN hx, ad_subI hi]
  refine br_c (fun z => ?_) (fun z => br_c (fun y => ?_) (fun y => ?_))
  · exact ad_w101 hT hA hG hi hx ad_n0 (fun v2 v5 v wt wb => k 0 v2 v5 v wt wb (ad_Tb0 fun g => z g.1))
  · exact ad_w101 hT hA hG hi hx ad_n1 (fun v2 v5 v wt wb => k 1 v2 v5 v wt wb (ad_Tb1 ⟨Classical.byContradiction z, y⟩))
  · exact ad_w101 hT hA hG hi hx ad_n0 (fun v2 v5 v wt wb => k 0 v2 v5 v wt wb (ad_Tb0 fun g => y g.2))
/-- the first loop has come to i -/
def ad_I15 (T : Nat) (A : Nat → Nat) (i : Nat) (fa : Nat → Int32) : Prop := ∀ s, s < i → ad_Tb (fa s) (ad_free T A s) ∧ ad_Tb (fa (256 + s)) (ad_adm T A s) ∧ ad_Tb (fa (512 + s)) (ad_comp T A s) ∧ ad_Tb (fa (1280 + s)) (ad_stab T A s) ∧ ad_Tb (fa (2816 + s)) (ad_P11 T A s)
theorem ad_I15s (h : ad_I15 T A i fa) (hi : i < 256) {v0 v1 v2 v5 v : Int32} (h0 : ad_Tb v0 (ad_free T A i)) (h1 : ad_Tb v1 (ad_adm T A i)) (h2 : ad_Tb v2 (ad_comp T A i)) (h5 : ad_Tb v5 (ad_stab T A i)) (h11 : ad_Tb v (ad_P11 T A i)) : ad_I15 T A (i + 1) (upd (upd (upd (upd (upd fa i v0) (256 + i) v1) (512 + i) v2) (1280 + i) v5) (2816 + i) v) := by
  intro s hs
  by_cases e : s = i
  · rw [e]
    refine ⟨?_, ?_, ?_, ?_, ?_⟩
    · rw [pk_un (by omega), pk_un (by omega), pk_un (by omega), pk_un (by omega), pk_us]; exact h0
    · rw [pk_un (by omega), pk_un (by omega), pk_un (by omega), pk_us]; exact h1
    · rw [pk_un (by omega), pk_un (by omega), pk_us]; exact h2
    · rw [pk_un (by omega), pk_us]; exact h5
    · rw [pk_us]; exact h11
  · obtain ⟨k0, k1, k2, k5, k11⟩ := h s (by omega)
    refine ⟨?_, ?_, ?_, ?_, ?_⟩
    · rw [pk_un (by omega), pk_un (by omega), pk_un (by omega), pk_un (by omega), pk_un (by omega)]; exact k0
    · rw [pk_un (by omega), pk_un (by omega), pk_un (by omega), pk_un (by omega), pk_un (by omega)]; exact k1
    · rw [pk_un (by omega), pk_un (by omega), pk_un (by omega), pk_un (by omega), pk_un (by omega)]; exact k2
    · rw [pk_un (by omega), pk_un (by omega), pk_un (by omega), pk_un (by omega), pk_un (by omega)]; exact k5
    · rw [pk_un (by omega), pk_un (by omega), pk_un (by omega), pk_un (by omega), pk_un (by omega)]; exact k11
theorem ad_I15t (h : ad_I15 T A 256 fa) : ad_Tab fa 0 (ad_free T A) ∧ ad_Tab fa 1 (ad_adm T A) ∧ ad_Tab fa 2 (ad_comp T A) ∧ ad_Tab fa 5 (ad_stab T A) ∧ ad_Tab fa 11 (ad_P11 T A) := by
  refine ⟨fun s hs => ?_, fun s hs => ?_, fun s hs => ?_, fun s hs => ?_, fun s hs => ?_⟩
  · have := (h s hs).1
    rw [show 256 * 0 + s = s from by omega]; exact this
  · exact (h s hs).2.1
  · exact (h s hs).2.2.1
  · exact (h s hs).2.2.2.1
  · exact (h s hs).2.2.2.2
/-- the second loop has come to i -/
def ad_I203 (T : Nat) (A : Nat → Nat) (i : Nat) (fa0 fa : Nat → Int32) : Prop := (∀ j, (j < 768 ∨ (1024 ≤ j ∧ j < 1536) ∨ 2048 ≤ j) → fa j = fa0 j) ∧ ∀ s, s < i → ad_Tb (fa (768 + s)) (ad_P3 T A s) ∧ ad_Tb (fa (1536 + s)) (ad_P6 T A s) ∧ ad_Tb (fa (1792 + s)) (ad_P7 T A s)
theorem ad_I203s {fa0 : Nat → Int32} (h : ad_I203 T A i fa0 fa) (hi : i < 256) {v3 v6 v7 : Int32} (h3 : ad_Tb v3 (ad_P3 T A i)) (h6 : ad_Tb v6 (ad_P6 T A i)) (h7 : ad_Tb v7 (ad_P7 T A i)) : ad_I203 T A (i + 1) fa0 (upd (upd (upd fa (768 + i) v3) (1536 + i) v6) (1792 + i) v7) := by
  refine ⟨fun j hj => ?_, fun s hs => ?_⟩
  · rw [pk_un (by omega), pk_un (by omega), pk_un (by omega)]; exact h.1 j hj
  · by_cases e : s = i
    · rw [e]
      refine ⟨?_, ?_, ?_⟩
      · rw [pk_un (by omega), pk_un (by omega), pk_us]; exact h3
      · rw [pk_un (by omega), pk_us]; exact h6
      · rw [pk_us]; exact h7
    · obtain ⟨k3, k6, k7⟩ := h.2 s (by omega)
      refine ⟨?_, ?_, ?_⟩
      · rw [pk_un (by omega), pk_un (by omega), pk_un (by omega)]; exact k3
      · rw [pk_un (by omega), pk_un (by omega), pk_un (by omega)]; exact k6
      · rw [pk_un (by omega), pk_un (by omega), pk_un (by omega)]; exact k7
theorem ad_TabU {a : Nat → Int32} {σ k : Nat} {v : Int32} {P : Nat → Prop} (h : ad_Tab a σ P) (hk : k < 256 * σ ∨ 256 * σ + 256 ≤ k) : ad_Tab (upd a k v) σ P := fun s hs => by
  rw [pk_un (by omega)]; exact h s hs
theorem ad_w280 {J203 : Int32 → (Nat → Int32) → (Nat → Int32) → (Nat → Int32) → Prop} {x1 : Int32} (hA : ∀ a, A a < 256) (hG : ad_GA A ac) (hi : i < 256) (hF : ad_Tab fa 0 (ad_free T A)) {z0 : Int32} (hz : vp_nar .boolean z0 = z0) (k : ∀ v, ad_Tb v (ad_P7 T A i) → J203 (nI (i + 1)) ac (upd (upd fa (1536 + i) z0) (1792 + i) v) wb) : wY_workOut_280 post J203 x1 (nI i) z0 (1536 + nI i) (nI T) kn wt ac fa wb := by
  unfold wY_workOut_280
  have e1 : (1536 : Int32) + nI i = nI (1536 + i) := nI_add 1536 i
  have e2 : (1792 : Int32) + nI i = nI (1792 + i) := nI_add 1792 i
  have hF' : ad_Tab (upd fa (1536 + i) z0) 0 (ad_free T A) := ad_TabU hF (by omega)
  have hb := hF' i hi
  rw [show 256 * 0 + i = i from by omega] at hb
  rw [e1, e2, ad_c (by omega), ad_c (by omega), ad_c (by omega), hz, ad_n0, ad_n1]
  refine ⟨pk_in (1536 + i) 3072 (by omega), nm_e ⟨pk_in i 3072 (by omega), ?_⟩⟩
  rw [ad_TbN hb]
  exact br_c (fun z => ⟨pk_in (1792 + i) 3072 (by omega), nm_e (nm_r (nI_1 i) (k 0 (ad_Tb0 fun g => z g.1)))⟩) (fun z => ad_grY (σ := 0) hA hG (by decide) hF' hi (Classical.byContradiction z) (fun g => br_f (by decide) ⟨pk_in (1792 + i) 3072 (by omega), nm_e (nm_r (nI_1 i) (k 1 (ad_Tb1 g)))⟩) (fun g => br_t rfl ⟨pk_in (1792 + i) 3072 (by omega), nm_e (nm_r (nI_1 i) (k 0 (ad_Tb0 g)))⟩))
theorem ad_w242 {J203 : Int32 → (Nat → Int32) → (Nat → Int32) → (Nat → Int32) → Prop} {x1 : Int32} (hA : ∀ a, A a < 256) (hG : ad_GA A ac) (hi : i < 256) (hF : ad_Tab fa 0 (ad_free T A)) (hC : ad_Tab fa 2 (ad_comp T A)) {z0 : Int32} (hz : vp_nar .boolean z0 = z0) (k : ∀ v6 v, ad_Tb v6 (ad_P6 T A i) → ad_Tb v (ad_P7 T A i) → J203 (nI (i + 1)) ac (upd (upd (upd fa (768 + i) z0) (1536 + i) v6) (1792 + i) v) wb) : wY_workOut_242 post J203 x1 (nI i) z0 (768 + nI i) (nI T) kn wt ac fa wb := by
  unfold wY_workOut_242
  have e1 : (768 : Int32) + nI i = nI (768 + i) := nI_add 768 i
  have e2 : (512 : Int32) + nI i = nI (512 + i) := nI_add 512 i
  have hF' : ad_Tab (upd fa (768 + i) z0) 0 (ad_free T A) := ad_TabU hF (by omega)
  have hC' : ad_Tab (upd fa (768 + i) z0) 2 (ad_comp T A) := ad_TabU hC (by omega)
  have hb : ad_Tb (upd fa (768 + i) z0 (512 + i)) (ad_comp T A i) := hC' i hi
  rw [e1, e2, ad_c (by omega), ad_c (by omega), hz]
  refine ⟨pk_in (768 + i) 3072 (by omega), nm_e ⟨pk_in (512 + i) 3072 (by omega), ?_⟩⟩
  rw [ad_TbN hb]
  refine br_c (fun z => ?_) (fun z => ad_grY (σ := 2) hA hG (by decide) hC' hi (Classical.byContradiction z) (fun g => br_f (by decide) ?_) (fun g => br_t rfl ?_))
  · exact ad_w280 hA hG hi hF' ad_n0 (fun v hv => k 0 v (ad_Tb0 fun g => z g.1) hv)
  · exact ad_w280 hA hG hi hF' ad_n1 (fun v hv => k 1 v (ad_Tb1 g) hv)
  · exact ad_w280 hA hG hi hF' ad_n0 (fun v hv => k 0 v (ad_Tb0 g) hv)
theorem ad_w203 (hT : T < 256) (hA : ∀ a, A a < 256) (hG : ad_GA A ac) {c : Nat} (hc : c < 256) (hcom : ad_com T (ad_comp T A) c) {fa0 : Nat → Int32} (hI : ad_I15 T A 256 fa0) (h : ∀ fa, ad_All T A fa → post (nI T, kn, wt, ac, fa, wb)) : ∀ d i n fa, i + d = 256 → d < n → ad_I203 T A i fa0 fa → wY_workOut_203 post (nI c) (nI T) kn wt n (nI i) ac fa wb := by
  obtain ⟨a0, a1, a2, a5, a11⟩ := ad_I15t hI
  intro d
  induction d with
  | zero =>
    intro i n fa hi hn hJ
    obtain ⟨n, rfl⟩ := ad_s hn
    obtain rfl : i = 256 := by omega
    have k0 : ad_Tab fa 0 (ad_free T A) := fun s hs => by rw [hJ.1 _ (by omega)]; exact a0 s hs
    have k1 : ad_Tab fa 1 (ad_adm T A) := fun s hs => by rw [hJ.1 _ (by omega)]; exact a1 s hs
    have k2 : ad_Tab fa 2 (ad_comp T A) := fun s hs => by rw [hJ.1 _ (by omega)]; exact a2 s hs
    have k5 : ad_Tab fa 5 (ad_stab T A) := fun s hs => by rw [hJ.1 _ (by omega)]; exact a5 s hs
    have k11 : ad_Tab fa 11 (ad_P11 T A) := fun s hs => by rw [hJ.1 _ (by omega)]; exact a11 s hs
    have k3 : ad_Tab fa 3 (ad_P3 T A) := fun s hs => (hJ.2 s hs).1
    have k6 : ad_Tab fa 6 (ad_P6 T A) := fun s hs => (hJ.2 s hs).2.1
    have k7 : ad_Tab fa 7 (ad_P7 T A) := fun s hs => (hJ.2 s hs).2.2
    refine br_t (by decide) ?_
    refine ad_kgY (σ := 1) (τ := 4) (l := 255) (by decide) (by decide) (by decide) k1 fun fb ff k4 => ?_
    replace k0 := ad_TabF k0 ff (by decide)
    replace k1 := ad_TabF k1 ff (by decide)
    replace k2 := ad_TabF k2 ff (by decide)
    replace k3 := ad_TabF k3 ff (by decide)
    replace k5 := ad_TabF k5 ff (by decide)
    replace k6 := ad_TabF k6 ff (by decide)
    replace k7 := ad_TabF k7 ff (by decide)
    replace k11 := ad_TabF k11 ff (by decide)
    replace k4 := ad_TabI k4 (ad_e4 (ad_sub255 hT))
    dsimp only
    refine ad_kgY (σ := 0) (τ := 8) (l := 255) (by decide) (by decide) (by decide) k0 fun fd fe k8 => ?_
    replace k0 := ad_TabF k0 fe (by decide)
    replace k1 := ad_TabF k1 fe (by decide)
    replace k2 := ad_TabF k2 fe (by decide)
    replace k3 := ad_TabF k3 fe (by decide)
    replace k4 := ad_TabF k4 fe (by decide)
    replace k5 := ad_TabF k5 fe (by decide)
    replace k6 := ad_TabF k6 fe (by decide)
    replace k7 := ad_TabF k7 fe (by decide)
    replace k11 := ad_TabF k11 fe (by decide)
    replace k8 := ad_TabI k8 (ad_e8 (ad_sub255 hT))
    dsimp only
    refine ad_comY (σ := 4) hT (by decide) k4 fun c1 hc1 hcom1 => ?_
    refine ad_comY (σ := 6) hT (by decide) k6 fun c2 hc2 hcom2 => ?_
    refine ad_kgY (σ := 1) (τ := 9) (l := c1) (by decide) (by decide) (by decide) k1 fun fg fh k9 => ?_
    replace k0 := ad_TabF k0 fh (by decide)
    replace k1 := ad_TabF k1 fh (by decide)
    replace k2 := ad_TabF k2 fh (by decide)
    replace k3 := ad_TabF k3 fh (by decide)
    replace k4 := ad_TabF k4 fh (by decide)
    replace k5 := ad_TabF k5 fh (by decide)
    replace k6 := ad_TabF k6 fh (by decide)
    replace k7 := ad_TabF k7 fh (by decide)
    replace k8 := ad_TabF k8 fh (by decide)
    replace k11 := ad_TabF k11 fh (by decide)
    replace k9 := ad_TabI k9 (ad_e9 hcom1)
    dsimp only
    refine ad_kgY (σ := 1) (τ := 10) (l := c2) (by decide) (by decide) (by decide) k1 fun fj fk k10 => ?_
    replace k10 := ad_TabI k10 (ad_e10 hcom2)
    exact h fj (ad_All_i (ad_TabF k0 fk (by decide)) (ad_TabF k1 fk (by decide)) (ad_TabF k2 fk (by decide)) (ad_TabF k3 fk (by decide)) (ad_TabF k4 fk (by decide)) (ad_TabF k5 fk (by decide)) (ad_TabF k6 fk (by decide)) (ad_TabF k7 fk (by decide)) (ad_TabF k8 fk (by decide)) (ad_TabF k9 fk (by decide)) k10 (ad_TabF k11 fk (by decide)))
  | succ d ih =>
    intro i n fa hi hn hJ
    obtain ⟨n, rfl⟩ := ad_s hn
    have h8 : i < 256 := by omega
    have k0 : ad_Tab fa 0 (ad_free T A) := fun s hs => by rw [hJ.1 _ (by omega)]; exact a0 s hs
    have k2 : ad_Tab fa 2 (ad_comp T A) := fun s hs => by rw [hJ.1 _ (by omega)]; exact a2 s hs
    have hb : ad_Tb (fa (512 + i)) (ad_comp T A i) := k2 i h8
    have e2 : (512 : Int32) + nI i = nI (512 + i) := nI_add 512 i
    have k : ∀ v3 v6 v7, ad_Tb v3 (ad_P3 T A i) → ad_Tb v6 (ad_P6 T A i) → ad_Tb v7 (ad_P7 T A i) → wY_workOut_203 post (nI c) (nI T) kn wt n (nI (i + 1)) ac (upd (upd (upd fa (768 + i) v3) (1536 + i) v6) (1792 + i) v7) wb := fun v3 v6 v7 h3 h6 h7 => ih (i + 1) n _ (by omega) (by omega) (ad_I203s hJ h8 h3 h6 h7)
    refine br_f (nI_ge h8 (by decide)) ?_
    rw [e2, ad_c (by omega), ad_TbN hb, nI_eq (by omega) (by omega)]
    refine ⟨pk_in (512 + i) 3072 (by omega), br_c (fun z => ?_) (fun z => br_c (fun y => ?_) (fun y => ?_))⟩
    · exact ad_w242 hA hG h8 k0 k2 ad_n0 (fun v6 v => k 0 v6 v (ad_Tb0 fun g => z g.1))
    · exact ad_w242 hA hG h8 k0 k2 ad_n1 (fun v6 v => k 1 v6 v (ad_Tb1 ((ad_P3_Y h8 hcom).mpr ⟨Classical.byContradiction z, y⟩)))
    · exact ad_w242 hA hG h8 k0 k2 ad_n0 (fun v6 v => k 0 v6 v (ad_Tb0 fun g => y ((ad_P3_Y h8 hcom).mp g).2))
theorem ad_w15 (hT : T < 256) (hA : ∀ a, A a < 256) (hG : ad_GA A ac) (h : ∀ wt fa wb, ad_All T A fa → post (nI T, kn, wt, ac, fa, wb)) : ∀ d i n wt fa wb, i + d = 256 → d < n → ad_I15 T A i fa → wY_workOut_15 post n (nI i) (nI T) kn wt ac fa wb := by
  intro d
  induction d with
  | zero =>
    intro i n wt fa wb hi hn hI
    obtain ⟨n, rfl⟩ := ad_s hn
    obtain rfl : i = 256 := by omega
    refine br_t (by decide) (ad_comY (σ := 2) hT (by decide) (ad_I15t hI).2.2.1 fun c hc hcom => ⟨257, ?_⟩)
    exact ad_w203 hT hA hG hc hcom hI (fun fa => h wt fa wb) 256 0 257 fa rfl (by decide) ⟨fun _ _ => rfl, fun s hs => absurd hs (by omega)⟩
  | succ d ih =>
    intro i n wt fa wb hi hn hI
    obtain ⟨n, rfl⟩ := ad_s hn
    have h8 : i < 256 := by omega
    have k64 : ∀ z0, ad_Tb z0 (ad_free T A i) → wY_workOut_64 post (wY_workOut_15 post n) (nI i) (nI (ad_D T A i)) z0 (nI T) kn wt ac fa wb := fun z0 hz => ad_w64 hT hA hG h8 hz (fun v1 v2 v5 v wt wb h1 h2 h5 h11 => ih (i + 1) n wt _ wb (by omega) (by omega) (ad_I15s hI h8 hz h1 h2 h5 h11))
    refine br_f (nI_ge h8 (by decide)) (ad_deY hT hA hG h8 ?_)
    rw [ad_subI h8]
    refine br_c (fun z => br_f (by decide) (ad_hiY hG h8 ?_)) (fun z => br_t rfl (k64 0 (ad_Tb0 fun g => z g.1)))
    rw [ad_andI (ad_H_lt hA i)]
    exact br_c (fun y => k64 1 (ad_Tb1 ⟨z, y⟩)) (fun y => k64 0 (ad_Tb0 fun g => y g.2))
/-- the reference's table, where it is known -/
def ad_FY (T : Nat) (A : Nat → Nat) (kn : Int32) (fa : Nat → Int32) : Prop := kn = 0 ∨ (kn = 1 ∧ ad_All T A fa)
theorem ad_woY (hT : T < 256) (hA : ∀ a, A a < 256) (hG : ad_GA A ac) (hF : ad_FY T A kn fa) (h : ∀ wt fa wb, ad_All T A fa → post (nI T, 1, wt, ac, fa, wb)) : wpY_workOut post (nI T, kn, wt, ac, fa, wb) := by
  unfold wpY_workOut
  dsimp only
  rcases hF with rfl | ⟨rfl, hAll⟩
  · exact br_t rfl ⟨257, ad_w15 hT hA hG h 256 0 257 wt fa wb rfl (by decide) fun s hs => absurd hs (by omega)⟩
  · exact br_f (by decide) (h wt fa wb hAll)
end
end
section
/-! the loops of the methods, both sides in step -/
section
variable {th fr : Int32} {aO tg so de he wa : Nat → Int32} {ty kn wt : Int32} {ac fa wb : Nat → Int32} {T : Nat} {A : Nat → Nat} {σ ρ : Nat}
/-- the two tables are alike in a sense -/
def ad_Al (he fa : Nat → Int32) (σ : Nat) : Prop := ∀ s, s < 256 → he (256 * σ + s) = fa (256 * σ + s)
theorem ad_Al_i (hx : ad_All T A he) (hy : ad_All T A fa) (hσ : σ < 12) : ad_Al he fa σ := fun s hs => ad_TbU (hx σ hσ s hs) (hy σ hσ s hs)
theorem ad_cnL (hσ : σ < 12) : ∀ d i x, i + d = 256 → ∃ r, (∀ (post : Int32 → SX → Prop) n, d < n → post r (th, fr, aO, tg, so, de, he, wa) → wX_count_17 post (nI σ) th fr aO tg so de he wa n x (nI i)) ∧ (∀ (ty kn wt : Int32) (ac fa wb : Nat → Int32), ad_Al he fa σ → ∀ (post : Int32 → SY → Prop) n, d < n → post r (ty, kn, wt, ac, fa, wb) → wY_count_18 post (nI σ) ty kn wt ac fa wb n x (nI i)) := by
  intro d
  induction d with
  | zero =>
    intro i x hi
    obtain rfl : i = 256 := by omega
    refine ⟨x, fun post n hn h => ?_, fun ty kn wt ac fa wb hl post n hn h => ?_⟩
    · obtain ⟨n, rfl⟩ := ad_s hn
      exact br_t (by decide) h
    · obtain ⟨n, rfl⟩ := ad_s hn
      exact br_t (by decide) h
  | succ d ih =>
    intro i x hi
    have h8 : i < 256 := by omega
    have hin : vp_in (nI (256 * σ + i)) 3072 := pk_in (256 * σ + i) 3072 (by omega)
    by_cases z : he (256 * σ + i) = 0
    · obtain ⟨r, hX, hY⟩ := ih (i + 1) x (by omega)
      refine ⟨r, fun post n hn h => ?_, fun ty kn wt ac fa wb hl post n hn h => ?_⟩
      · obtain ⟨n, rfl⟩ := ad_s hn
        refine br_f (nI_ge h8 (by decide)) ?_
        rw [ad_ixX, ad_c (by omega)]
        exact ⟨hin, br_t z (nm_r (nI_1 i) (hX post n (by omega) h))⟩
      · obtain ⟨n, rfl⟩ := ad_s hn
        refine br_f (nI_ge h8 (by decide)) ?_
        rw [ad_ixY, ad_c (by omega), ← hl i h8]
        exact ⟨hin, br_t z (nm_r (nI_1 i) (hY ty kn wt ac fa wb hl post n (by omega) h))⟩
    · obtain ⟨r, hX, hY⟩ := ih (i + 1) (x + 1) (by omega)
      refine ⟨r, fun post n hn h => ?_, fun ty kn wt ac fa wb hl post n hn h => ?_⟩
      · obtain ⟨n, rfl⟩ := ad_s hn
        refine br_f (nI_ge h8 (by decide)) ?_
        rw [ad_ixX, ad_c (by omega)]
        exact ⟨hin, br_f z (nm_e (nm_r (nI_1 i) (hX post n (by omega) h)))⟩
      · obtain ⟨n, rfl⟩ := ad_s hn
        refine br_f (nI_ge h8 (by decide)) ?_
        rw [ad_ixY, ad_c (by omega), ← hl i h8]
        exact ⟨hin, br_f z (nm_e (nm_r (nI_1 i) (hY ty kn wt ac fa wb hl post n (by omega) h)))⟩
theorem ad_soL (hσ : σ < 12) : ∀ d i x, i + d = 256 → ∃ r, (∀ (post : Int32 → SX → Prop) n, d < n → post r (th, fr, aO, tg, so, de, he, wa) → wX_some_17 post (nI σ) th fr aO tg so de he wa n x (nI i)) ∧ (∀ (ty kn wt : Int32) (ac fa wb : Nat → Int32), ad_Al he fa σ → ∀ (post : Int32 → SY → Prop) n, d < n → post r (ty, kn, wt, ac, fa, wb) → wY_some_18 post (nI σ) ty kn wt ac fa wb n x (nI i)) := by
  intro d
  induction d with
  | zero =>
    intro i x hi
    obtain rfl : i = 256 := by omega
    refine ⟨x, fun post n hn h => ?_, fun ty kn wt ac fa wb hl post n hn h => ?_⟩
    · obtain ⟨n, rfl⟩ := ad_s hn
      exact br_t (by decide) h
    · obtain ⟨n, rfl⟩ := ad_s hn
      exact br_t (by decide) h
  | succ d ih =>
    intro i x hi
    have h8 : i < 256 := by omega
    have hin : vp_in (nI (256 * σ + i)) 3072 := pk_in (256 * σ + i) 3072 (by omega)
    by_cases z : he (256 * σ + i) = 0
    · obtain ⟨r, hX, hY⟩ := ih (i + 1) x (by omega)
      refine ⟨r, fun post n hn h => ?_, fun ty kn wt ac fa wb hl post n hn h => ?_⟩
      · obtain ⟨n, rfl⟩ := ad_s hn
        refine br_f (nI_ge h8 (by decide)) ?_
        rw [ad_ixX, ad_c (by omega)]
        exact ⟨hin, br_t z (nm_r (nI_1 i) (hX post n (by omega) h))⟩
      · obtain ⟨n, rfl⟩ := ad_s hn
        refine br_f (nI_ge h8 (by decide)) ?_
        rw [ad_ixY, ad_c (by omega), ← hl i h8]
        exact ⟨hin, br_t z (nm_r (nI_1 i) (hY ty kn wt ac fa wb hl post n (by omega) h))⟩
    · obtain ⟨r, hX, hY⟩ := ih (i + 1) (x ||| nI i) (by omega)
      refine ⟨r, fun post n hn h => ?_, fun ty kn wt ac fa wb hl post n hn h => ?_⟩
      · obtain ⟨n, rfl⟩ := ad_s hn
        refine br_f (nI_ge h8 (by decide)) ?_
        rw [ad_ixX, ad_c (by omega)]
        exact ⟨hin, br_f z (nm_e (nm_r (nI_1 i) (hX post n (by omega) h)))⟩
      · obtain ⟨n, rfl⟩ := ad_s hn
        refine br_f (nI_ge h8 (by decide)) ?_
        rw [ad_ixY, ad_c (by omega), ← hl i h8]
        exact ⟨hin, br_f z (nm_e (nm_r (nI_1 i) (hY ty kn wt ac fa wb hl post n (by omega) h)))⟩
theorem ad_seL {p : Int32} (hσ : σ < 12) : ∀ d i x, i + d = 256 → ∃ r, (∀ (post : Int32 → SX → Prop) n, d < n → post r (th, fr, aO, tg, so, de, he, wa) → wX_set_18 post (nI σ) p th fr aO tg so de he wa n x (nI i)) ∧ (∀ (ty kn wt : Int32) (ac fa wb : Nat → Int32), ad_Al he fa σ → ∀ (post : Int32 → SY → Prop) n, d < n → post r (ty, kn, wt, ac, fa, wb) → wY_set_19 post (nI σ) p ty kn wt ac fa wb n x (nI i)) := by
  intro d
  induction d with
  | zero =>
    intro i x hi
    obtain rfl : i = 256 := by omega
    refine ⟨-2, fun post n hn h => ?_, fun ty kn wt ac fa wb hl post n hn h => ?_⟩
    · obtain ⟨n, rfl⟩ := ad_s hn
      exact br_t (by decide) h
    · obtain ⟨n, rfl⟩ := ad_s hn
      exact br_t (by decide) h
  | succ d ih =>
    intro i x hi
    have h8 : i < 256 := by omega
    have hin : vp_in (nI (256 * σ + i)) 3072 := pk_in (256 * σ + i) 3072 (by omega)
    by_cases z : he (256 * σ + i) = 0
    · obtain ⟨r, hX, hY⟩ := ih (i + 1) x (by omega)
      refine ⟨r, fun post n hn h => ?_, fun ty kn wt ac fa wb hl post n hn h => ?_⟩
      · obtain ⟨n, rfl⟩ := ad_s hn
        refine br_f (nI_ge h8 (by decide)) ?_
        rw [ad_ixX, ad_c (by omega)]
        exact ⟨hin, br_t z (nm_r (nI_1 i) (hX post n (by omega) h))⟩
      · obtain ⟨n, rfl⟩ := ad_s hn
        refine br_f (nI_ge h8 (by decide)) ?_
        rw [ad_ixY, ad_c (by omega), ← hl i h8]
        exact ⟨hin, br_t z (nm_r (nI_1 i) (hY ty kn wt ac fa wb hl post n (by omega) h))⟩
    · by_cases y : x = p
      · refine ⟨nI i, fun post n hn h => ?_, fun ty kn wt ac fa wb hl post n hn h => ?_⟩
        · obtain ⟨n, rfl⟩ := ad_s hn
          refine br_f (nI_ge h8 (by decide)) ?_
          rw [ad_ixX, ad_c (by omega)]
          exact ⟨hin, br_f z (br_t y h)⟩
        · obtain ⟨n, rfl⟩ := ad_s hn
          refine br_f (nI_ge h8 (by decide)) ?_
          rw [ad_ixY, ad_c (by omega), ← hl i h8]
          exact ⟨hin, br_f z (br_t y h)⟩
      · obtain ⟨r, hX, hY⟩ := ih (i + 1) (x + 1) (by omega)
        refine ⟨r, fun post n hn h => ?_, fun ty kn wt ac fa wb hl post n hn h => ?_⟩
        · obtain ⟨n, rfl⟩ := ad_s hn
          refine br_f (nI_ge h8 (by decide)) ?_
          rw [ad_ixX, ad_c (by omega)]
          exact ⟨hin, br_f z (br_f y (nm_e (nm_r (nI_1 i) (hX post n (by omega) h))))⟩
        · obtain ⟨n, rfl⟩ := ad_s hn
          refine br_f (nI_ge h8 (by decide)) ?_
          rw [ad_ixY, ad_c (by omega), ← hl i h8]
          exact ⟨hin, br_f z (br_f y (nm_e (nm_r (nI_1 i) (hY ty kn wt ac fa wb hl post n (by omega) h))))⟩
theorem ad_agL (hσ : σ < 12) (hρ : ρ < 12) : ∀ d i, i + d = 256 → ∃ r, (∀ (post : Int32 → SX → Prop) n, d < n → post r (th, fr, aO, tg, so, de, he, wa) → wX_agree_22 post (nI σ) (nI ρ) th fr aO tg so de he wa n (nI i)) ∧ (∀ (ty kn wt : Int32) (ac fa wb : Nat → Int32), ad_Al he fa σ → ad_Al he fa ρ → ∀ (post : Int32 → SY → Prop) n, d < n → post r (ty, kn, wt, ac, fa, wb) → wY_agree_24 post (nI σ) (nI ρ) ty kn wt ac fa wb n (nI i)) := by
  intro d
  induction d with
  | zero =>
    intro i hi
    obtain rfl : i = 256 := by omega
    refine ⟨1, fun post n hn h => ?_, fun ty kn wt ac fa wb hl hm post n hn h => ?_⟩
    · obtain ⟨n, rfl⟩ := ad_s hn
      exact br_t (by decide) h
    · obtain ⟨n, rfl⟩ := ad_s hn
      exact br_t (by decide) h
  | succ d ih =>
    intro i hi
    have h8 : i < 256 := by omega
    have hin : vp_in (nI (256 * σ + i)) 3072 := pk_in (256 * σ + i) 3072 (by omega)
    have hjn : vp_in (nI (256 * ρ + i)) 3072 := pk_in (256 * ρ + i) 3072 (by omega)
    by_cases z : he (256 * σ + i) = he (256 * ρ + i)
    · obtain ⟨r, hX, hY⟩ := ih (i + 1) (by omega)
      refine ⟨r, fun post n hn h => ?_, fun ty kn wt ac fa wb hl hm post n hn h => ?_⟩
      · obtain ⟨n, rfl⟩ := ad_s hn
        refine br_f (nI_ge h8 (by decide)) ?_
        rw [ad_ixX (σ := σ), ad_ixX (σ := ρ), ad_c (i := 256 * σ + i) (by omega), ad_c (i := 256 * ρ + i) (by omega)]
        exact ⟨hin, hjn, br_t z (nm_r (nI_1 i) (hX post n (by omega) h))⟩
      · obtain ⟨n, rfl⟩ := ad_s hn
        refine br_f (nI_ge h8 (by decide)) ?_
        rw [ad_ixY (σ := σ), ad_ixY (σ := ρ), ad_c (i := 256 * σ + i) (by omega), ad_c (i := 256 * ρ + i) (by omega), ← hl i h8, ← hm i h8]
        exact ⟨hin, hjn, br_t z (nm_r (nI_1 i) (hY ty kn wt ac fa wb hl hm post n (by omega) h))⟩
    · refine ⟨0, fun post n hn h => ?_, fun ty kn wt ac fa wb hl hm post n hn h => ?_⟩
      · obtain ⟨n, rfl⟩ := ad_s hn
        refine br_f (nI_ge h8 (by decide)) ?_
        rw [ad_ixX (σ := σ), ad_ixX (σ := ρ), ad_c (i := 256 * σ + i) (by omega), ad_c (i := 256 * ρ + i) (by omega)]
        exact ⟨hin, hjn, br_f z h⟩
      · obtain ⟨n, rfl⟩ := ad_s hn
        refine br_f (nI_ge h8 (by decide)) ?_
        rw [ad_ixY (σ := σ), ad_ixY (σ := ρ), ad_c (i := 256 * σ + i) (by omega), ad_c (i := 256 * ρ + i) (by omega), ← hl i h8, ← hm i h8]
        exact ⟨hin, hjn, br_f z h⟩
theorem ad_roL (hT : T < 256) (hA : ∀ a, A a < 256) (hX : ad_TX T A tg so de) (hG : ad_GA A ac) {a : Nat} (ha : a < 8) : ∀ d k z, k + d = 9 → z < 256 → ad_sub z (ad_D T A z) → ∃ r, (∀ (post : Int32 → SX → Prop) n, d < n → post r (th, fr, aO, tg, so, de, he, wa) → wX_round_18 post (nI a) th fr aO tg so de he wa n (nI z) (nI k)) ∧ (∀ (post : Int32 → Prop) n, d < n → post r → wY_round_14 post (nI a) (nI T) kn wt ac fa wb n (nI z) (nI k)) := by
  intro d
  induction d with
  | zero =>
    intro k z hk hz hs
    obtain rfl : k = 9 := by omega
    refine ⟨-2, fun post n hn h => ?_, fun post n hn h => ?_⟩
    · obtain ⟨n, rfl⟩ := ad_s hn
      exact br_t (by decide) h
    · obtain ⟨n, rfl⟩ := ad_s hn
      exact br_t (by decide) h
  | succ d ih =>
    intro k z hk hz hs
    have h8 : k ≤ 8 := by omega
    have hd := ad_D_lt T A z
    have e : z ||| ad_D T A z = ad_D T A z := ad_ext fun i => by
      rw [Nat.testBit_or, Bool.or_eq_true]
      exact ⟨fun q => q.elim (hs i) id, Or.inr⟩
    by_cases y : (ad_D T A z).testBit a = true
    · refine ⟨nI k, fun post n hn h => ?_, fun post n hn h => ?_⟩
      · obtain ⟨n, rfl⟩ := ad_s hn
        refine br_f (nI_nlt h8 (by decide)) ⟨pk_in z 256 hz, nm_r (e' := nI (ad_D T A z)) (by rw [ad_c (by omega), (hX z hz).2.2, ad_or, e]) (ad_hasB hd ha (fun _ => h) (fun q => absurd y q))⟩
      · obtain ⟨n, rfl⟩ := ad_s hn
        refine br_f (nI_nlt h8 (by decide)) (ad_deY hT hA hG hz ?_)
        rw [ad_tb (by omega) (by omega)]
        exact br_t y h
    · obtain ⟨r, h1, h2⟩ := ih (k + 1) (ad_D T A z) (by omega) hd (ad_D_mono T A hs)
      refine ⟨r, fun post n hn h => ?_, fun post n hn h => ?_⟩
      · obtain ⟨n, rfl⟩ := ad_s hn
        refine br_f (nI_nlt h8 (by decide)) ⟨pk_in z 256 hz, nm_r (e' := nI (ad_D T A z)) (by rw [ad_c (by omega), (hX z hz).2.2, ad_or, e]) (ad_hasB hd ha (fun q => absurd q y) (fun _ => nm_r (nI_1 k) (h1 post n (by omega) h)))⟩
      · obtain ⟨n, rfl⟩ := ad_s hn
        refine br_f (nI_nlt h8 (by decide)) (ad_deY hT hA hG hz ?_)
        rw [ad_tb (by omega) (by omega)]
        exact br_f y (nm_r (nI_1 k) (h2 post n (by omega) h))
/-! effort -/
theorem ad_cn_s (p : Nat → Bool) (k : Nat) : ad_cn p (k + 1) = ad_cn p k + (p k).toNat := rfl
theorem ad_sm_s (f : Nat → Nat) (k : Nat) : ad_sm f (k + 1) = ad_sm f k + f k := rfl
theorem ad_sz4 {post : Int32 → Prop} {m : Nat} (hm : m < 256) (h : post (nI (ad_pc m))) : ∀ d i n, i + d = 8 → d < n → wX_size_4 post (nI m) n (nI (ad_cn (fun i => m.testBit i) i)) (nI i) := by
  intro d
  induction d with
  | zero =>
    intro i n hi hn
    obtain ⟨n, rfl⟩ := ad_s hn
    obtain rfl : i = 8 := by omega
    exact br_t (by decide) h
  | succ d ih =>
    intro i n hi hn
    obtain ⟨n, rfl⟩ := ad_s hn
    have h8 : i < 8 := by omega
    exact br_f (nI_ge h8 (by decide)) (nm_r (e' := nI (ad_cn (fun i => m.testBit i) (i + 1))) (by rw [ad_bv (by omega) (by omega), nI_add]; rfl) (nm_r (nI_1 i) (ih (i + 1) n (by omega) (by omega))))
theorem ad_sz {post : Int32 → Prop} {m : Nat} (hm : m < 256) (h : post (nI (ad_pc m))) : wpX_size post (nI m) := ⟨9, ad_sz4 hm h 8 0 9 rfl (by decide)⟩
def ad_f1 (A : Nat → Nat) (s : Nat) (a : Nat) : Nat := if s.testBit a = true then ad_pc (ad_B A a &&& s) else 0
theorem ad_ef54 {post : Int32 → SX → Prop} {s c : Nat} (hO : ad_GO A aO) (hs : s < 256) (h : post (nI (c + ad_sm (ad_f1 A s) 8)) (th, fr, aO, tg, so, de, he, wa)) : ∀ d i n, i + d = 8 → d < n → wX_effort_54 post (nI s) th fr aO tg so de he wa n (nI (c + ad_sm (ad_f1 A s) i)) (nI i) := by
  intro d
  induction d with
  | zero =>
    intro i n hi hn
    obtain ⟨n, rfl⟩ := ad_s hn
    obtain rfl : i = 8 := by omega
    exact br_t (by decide) h
  | succ d ih =>
    intro i n hi hn
    obtain ⟨n, rfl⟩ := ad_s hn
    have h8 : i < 8 := by omega
    have k := ih (i + 1) n (by omega) (by omega)
    rw [ad_sm_s] at k
    refine br_f (nI_ge h8 (by decide)) (ad_hasB hs h8 (fun hb => ⟨pk_in i 8 h8, ?_⟩) (fun hb => nm_r (nI_1 i) ?_))
    · rw [ad_c (by omega), hO i h8, nx_and]
      refine ad_sz (ad_andlt (ad_B_lt A i)) (nm_r (e' := nI (c + (ad_sm (ad_f1 A s) i + ad_f1 A s i))) ?_ (nm_r (nI_1 i) k))
      rw [nI_add, Nat.add_assoc]
      unfold ad_f1
      rw [if_pos hb]
    · have e : ad_f1 A s i = 0 := if_neg hb
      rw [e, Nat.add_zero] at k
      exact k
theorem ad_ef24 {post : Int32 → SX → Prop} {s : Nat} (hT : T < 256) (hA : ∀ a, A a < 256) (hO : ad_GO A aO) (hF : ad_FX T A fr tg so de he) (hs : s < 256) (h : ∀ tg so de he wa, ad_TX T A tg so de → ad_All T A he → post (nI (ad_pc (ad_df (ad_df T s) (ad_H A s)) + ad_sm (ad_f1 A s) 8)) (nI T, 1, aO, tg, so, de, he, wa)) : wX_effort_24 post (nI s) (nI T) fr aO tg so de he wa := by
  unfold wX_effort_24
  refine ad_rfX hT hA hO hF fun tg so de he wa hX hAll => ?_
  dsimp only
  refine ⟨pk_in s 256 hs, nm_r (e' := nI (ad_df (ad_df T s) (ad_H A s))) ?_ ?_⟩
  · rw [ad_c (by omega), (hX s hs).1, ad_not hT, ad_not (ad_df_lt hT)]
  · exact ad_sz (ad_df_lt (ad_df_lt hT)) ⟨9, ad_ef54 hO hs (h tg so de he wa hX hAll) 8 0 9 rfl (by decide)⟩
theorem ad_and11 (x y : Int32) : (x &&& y) &&& 1 = (x &&& 1) &&& (y &&& 1) := by
  have e : (1 : Int32) = 1 &&& 1 := by decide
  have h : (x &&& 1) &&& (y &&& 1) = (x &&& y) &&& (1 &&& 1) := by ac_rfl
  rw [h, ← e]
def ad_p4 (A : Nat → Nat) (s : Nat) (k : Nat) : Bool := s.testBit (k / 8) && s.testBit (k % 8) && (A (k / 8)).testBit (k % 8)
theorem ad_ef79 {post : Int32 → Prop} {s c : Nat} (hA : ∀ a, A a < 256) (hG : ad_GA A ac) (hs : s < 256) (h : post (nI (c + ad_cn (ad_p4 A s) 64))) : ∀ d i n, i + d = 64 → d < n → wY_effort_79 post (nI s) ty kn wt ac fa wb n (nI (c + ad_cn (ad_p4 A s) i)) (nI i) := by
  intro d
  induction d with
  | zero =>
    intro i n hi hn
    obtain ⟨n, rfl⟩ := ad_s hn
    obtain rfl : i = 64 := by omega
    exact br_t (by decide) h
  | succ d ih =>
    intro i n hi hn
    obtain ⟨n, rfl⟩ := ad_s hn
    have h8 : i < 64 := by omega
    have k := ih (i + 1) n (by omega) (by omega)
    rw [ad_cn_s] at k
    have e1 : nI i / 8 = nI (i / 8) := pk_div (d := 8) (by omega) (by decide) (by decide)
    have e2 : nI i - nI i / 8 * 8 = nI (i % 8) := pk_rem (d := 8) (by omega) (by decide) (by decide)
    have hn8 : ¬ (8 : Int32) = 0 := by decide
    have hA8 := hA (i / 8)
    refine br_f (nI_ge h8 (by decide)) ?_
    rw [e2, e1, ad_c (by omega), hG (i / 8) (by omega), ad_tb (m := A (i / 8)) (by omega) (by omega)]
    have hc : (((nI s >>> (nI (i / 8) &&& 31)) &&& (nI s >>> (nI (i % 8) &&& 31))) &&& 1) = 1 ↔ (s.testBit (i / 8) && s.testBit (i % 8)) = true := by
      rw [ad_and11, ad_bv (by omega) (by omega), ad_bv (by omega) (by omega)]
      cases s.testBit (i / 8) <;> cases s.testBit (i % 8) <;> decide
    rw [hc]
    have kn1 : ¬ ad_p4 A s i = true → wY_effort_79 post (nI s) ty kn wt ac fa wb n (nI (c + ad_cn (ad_p4 A s) i)) (nI (i + 1)) := fun z => by
      rw [Bool.not_eq_true] at z
      rw [z] at k
      exact k
    have ky : ad_p4 A s i = true → wY_effort_79 post (nI s) ty kn wt ac fa wb n (nI (c + ad_cn (ad_p4 A s) i + 1)) (nI (i + 1)) := fun z => by
      rw [z] at k
      exact k
    refine ⟨hn8, hn8, br_c (fun z => ⟨hn8, pk_in (i / 8) 8 (by omega), hn8, br_c (fun y => nm_r (nI_1 _) (nm_r (nI_1 i) (ky ?_))) (fun y => nm_r (nI_1 i) (kn1 ?_))⟩) (fun z => nm_r (nI_1 i) (kn1 ?_))⟩
    · unfold ad_p4; rw [z, y]; rfl
    · unfold ad_p4; rw [Bool.and_eq_true]; exact fun q => y q.2
    · unfold ad_p4; rw [Bool.and_eq_true]; exact fun q => z q.1
theorem ad_ef39 {post : Int32 → Prop} {s : Nat} (hT : T < 256) (hs : s < 256) (h : ∃ n, wY_effort_79 post (nI s) (nI T) kn wt ac fa wb n (nI (ad_pc (ad_df (ad_df T s) (ad_H A s)))) 0) : ∀ d i n, i + d = 8 → d < n → wY_effort_39 post (nI s) (nI (ad_H A s)) (nI T) kn wt ac fa wb n (nI (ad_cn (fun i => (ad_df (ad_df T s) (ad_H A s)).testBit i) i)) (nI i) := by
  intro d
  induction d with
  | zero =>
    intro i n hi hn
    obtain ⟨n, rfl⟩ := ad_s hn
    obtain rfl : i = 8 := by omega
    exact br_t (by decide) h
  | succ d ih =>
    intro i n hi hn
    obtain ⟨n, rfl⟩ := ad_s hn
    have h8 : i < 8 := by omega
    have k := ih (i + 1) n (by omega) (by omega)
    rw [ad_cn_s] at k
    have hm : ad_df (ad_df T s) (ad_H A s) < 256 := ad_df_lt (ad_df_lt hT)
    refine br_f (nI_ge h8 (by decide)) ?_
    rw [ad_not hT, ad_not (ad_df_lt hT), ad_tb (by omega) (by omega)]
    refine br_c (fun z => nm_r (nI_1 _) (nm_r (nI_1 i) ?_)) (fun z => nm_r (nI_1 i) ?_)
    · rw [z] at k; exact k
    · rw [Bool.not_eq_true] at z
      rw [z] at k; exact k
end
end
section
/-! put and attack -/
section
variable {th fr : Int32} {aO tg so de he wa : Nat → Int32} {ty kn wt : Int32} {ac fa wb : Nat → Int32} {T : Nat} {A : Nat → Nat}
/-- a row is cleared, then a column, up to i -/
def ad_m1 (M : Nat → Nat) (a j : Nat) : Nat := if j = a then 0 else M j
theorem ad_m1_lt {M : Nat → Nat} (hM : ∀ j, M j < 256) (a j : Nat) : ad_m1 M a j < 256 := by
  unfold ad_m1
  by_cases e : j = a
  · rw [if_pos e]; decide
  · rw [if_neg e]; exact hM j
def ad_Cl (M : Nat → Nat) (a i : Nat) (x : Nat → Int32) : Prop := ∀ j, j < 8 → x j = nI (if j < i then ad_df (ad_m1 M a j) (2 ^ a) else ad_m1 M a j)
theorem ad_Cl0 {M : Nat → Nat} {a : Nat} {x : Nat → Int32} (h : ∀ j, j < 8 → x j = nI (M j)) : ad_Cl M a 0 (upd x a 0) := by
  intro j hj
  rw [if_neg (by omega)]
  unfold ad_m1
  by_cases e : j = a
  · rw [if_pos e, e, pk_us]; rfl
  · rw [if_neg e, pk_un e]; exact h j hj
theorem ad_Cls {M : Nat → Nat} {a i : Nat} {x : Nat → Int32} (hM : ∀ j, M j < 256) (h : ad_Cl M a i x) (ha : a < 8) (hi : i < 8) : ad_Cl M a (i + 1) (upd x i (x i &&& (((1 : Int32) <<< (nI a &&& 31)) ^^^ (-1)))) := by
  intro j hj
  by_cases e : j = i
  · have k := h i hi
    rw [if_neg (by omega)] at k
    rw [e, pk_us, k, if_pos (Nat.lt_succ_self i), ad_one (by omega), ad_not (ad_m1_lt hM a i)]
  · rw [pk_un e, h j hj]
    by_cases q : j < i
    · rw [if_pos q, if_pos (show j < i + 1 from by omega)]
    · rw [if_neg q, if_neg (show ¬ j < i + 1 from by omega)]
theorem ad_cl9X {post : SX → Prop} {M : Nat → Nat} (hM : ∀ j, M j < 256) {a : Nat} (ha : a < 8) (h : ∀ aO, ad_Cl M a 8 aO → post (th, fr, aO, tg, so, de, he, wa)) : ∀ d i n aO, i + d = 8 → d < n → ad_Cl M a i aO → wX_clearAttacks_9 post (nI a) th fr n (nI i) aO tg so de he wa := by
  intro d
  induction d with
  | zero =>
    intro i n aO hi hn hC
    obtain ⟨n, rfl⟩ := ad_s hn
    obtain rfl : i = 8 := by omega
    exact br_t (by decide) (h aO hC)
  | succ d ih =>
    intro i n aO hi hn hC
    obtain ⟨n, rfl⟩ := ad_s hn
    have h8 : i < 8 := by omega
    refine br_f (nI_ge h8 (by decide)) ⟨pk_in i 8 h8, pk_in i 8 h8, nm_e (nm_r (nI_1 i) ?_)⟩
    rw [ad_c (by omega)]
    exact ih (i + 1) n _ (by omega) (by omega) (ad_Cls hM hC ha h8)
theorem ad_clX {post : SX → Prop} {M : Nat → Nat} (hM : ∀ j, M j < 256) {a : Nat} (ha : a < 8) (hx : ∀ j, j < 8 → aO j = nI (M j)) (h : ∀ aO, ad_Cl M a 8 aO → post (th, fr, aO, tg, so, de, he, wa)) : wpX_clearAttacks post (th, fr, aO, tg, so, de, he, wa) (nI a) := by
  unfold wpX_clearAttacks
  refine ⟨pk_in a 8 ha, nm_e ⟨9, ?_⟩⟩
  rw [ad_c (by omega)]
  exact ad_cl9X hM ha h 8 0 9 _ rfl (by decide) (ad_Cl0 hx)
theorem ad_pu59Y {post : Int32 → SY → Prop} {M : Nat → Nat} (hM : ∀ j, M j < 256) {a : Nat} (ha : a < 8) (h : ∀ ac, ad_Cl M a 8 ac → post 1 (ty, kn, wt, ac, fa, wb)) : ∀ d i n ac, i + d = 8 → d < n → ad_Cl M a i ac → wY_put_59 post (nI a) ty kn wt n (nI i) ac fa wb := by
  intro d
  induction d with
  | zero =>
    intro i n ac hi hn hC
    obtain ⟨n, rfl⟩ := ad_s hn
    obtain rfl : i = 8 := by omega
    exact br_t (by decide) (h ac hC)
  | succ d ih =>
    intro i n ac hi hn hC
    obtain ⟨n, rfl⟩ := ad_s hn
    have h8 : i < 8 := by omega
    refine br_f (nI_ge h8 (by decide)) ⟨pk_in i 8 h8, pk_in i 8 h8, nm_e (nm_r (nI_1 i) ?_)⟩
    rw [ad_c (by omega)]
    exact ih (i + 1) n _ (by omega) (by omega) (ad_Cls hM hC ha h8)
theorem ad_pu28Y {post : Int32 → SY → Prop} (hA : ∀ a, A a < 256) (hG : ad_GA A ac) {a : Nat} (ha : a < 8) {z0 z1 : Int32} (h0 : z1 = z0 → post 0 (nI T, kn, wt, ac, fa, wb)) (h1 : ¬ z1 = z0 → ∀ ac, ad_Cl A a 8 ac → post 1 (nI (T ^^^ 2 ^ a), 0, wt, ac, fa, wb)) : wY_put_28 post (nI a) z0 z1 (nI T) kn wt ac fa wb := by
  unfold wY_put_28
  refine br_c h0 (fun z => nm_r (e' := nI (T ^^^ 2 ^ a)) (by rw [ad_one (by omega), nx_xor]) ⟨pk_in a 8 ha, nm_e ⟨9, ?_⟩⟩)
  rw [ad_c (by omega)]
  exact ad_pu59Y hA ha (h1 z) 8 0 9 _ rfl (by decide) (ad_Cl0 hG)
/-- the graph without what a attacks and what attacks a -/
def ad_A1 (A : Nat → Nat) (a : Nat) (j : Nat) : Nat := ad_df (ad_m1 A a j) (2 ^ a)
theorem ad_A1_lt (hA : ∀ a, A a < 256) (a j : Nat) : ad_A1 A a j < 256 := ad_df_lt (ad_m1_lt hA a j)
theorem ad_A1_tb {A : Nat → Nat} (hA : ∀ a, A a < 256) (a j i : Nat) : (ad_A1 A a j).testBit i = true ↔ j ≠ a ∧ (A j).testBit i = true ∧ i ≠ a := by
  unfold ad_A1
  rw [ad_df_tb (ad_m1_lt hA a j), Nat.testBit_two_pow, Bool.and_eq_true, Bool.not_eq_true', decide_eq_false_iff_not]
  unfold ad_m1
  by_cases e : j = a
  · rw [if_pos e, Nat.zero_testBit]
    exact ⟨fun h => absurd h.1 (by decide), fun h => absurd e h.1⟩
  · rw [if_neg e]
    exact ⟨fun h => ⟨e, h.1, fun q => h.2 q.symm⟩, fun h => ⟨h.2.1, fun q => h.2.2 q.symm⟩⟩
theorem ad_A1_GA {x : Nat → Int32} {a : Nat} (h : ad_Cl A a 8 x) : ad_GA (ad_A1 A a) x := fun j hj => by
  rw [h j hj, if_pos hj]; rfl
theorem ad_A1_GO {x : Nat → Int32} {a : Nat} (hA : ∀ a, A a < 256) (h : ad_Cl (ad_B A) a 8 x) : ad_GO (ad_A1 A a) x := fun j hj => by
  rw [h j hj, if_pos hj]
  congr 1
  apply ad_ext
  intro i
  have e := ad_A1_tb (ad_B_lt A) a j i
  unfold ad_A1 at e
  rw [e, ad_B_tb, ad_B_tb, ad_A1_tb hA]
  exact ⟨fun q => ⟨q.2.1.1, q.2.2, q.2.1.2, q.1⟩, fun q => ⟨q.2.2.2, ⟨q.1, q.2.2.1⟩, q.2.1⟩⟩
/-- the graph with one attack turned -/
def ad_A2 (A : Nat → Nat) (a b : Nat) (j : Nat) : Nat := if j = a then A a ^^^ 2 ^ b else A j
theorem ad_A2_lt (hA : ∀ a, A a < 256) {a b : Nat} (hb : b < 8) (j : Nat) : ad_A2 A a b j < 256 := by
  unfold ad_A2
  by_cases e : j = a
  · rw [if_pos e]; exact Nat.xor_lt_two_pow (n := 8) (hA a) (ad_2lt hb)
  · rw [if_neg e]; exact hA j
theorem ad_A2_GA {a b : Nat} (hb : b < 8) (h : ad_GA A ac) (ha : a < 8) : ad_GA (ad_A2 A a b) (upd ac a (ac a ^^^ ((1 : Int32) <<< (nI b &&& 31)))) := by
  intro j hj
  unfold ad_A2
  by_cases e : j = a
  · rw [if_pos e, e, pk_us, h a ha, ad_one (by omega), nx_xor]
  · rw [if_neg e, pk_un e]; exact h j hj
theorem ad_xor_tb (x b i : Nat) : (x ^^^ 2 ^ b).testBit i = true ↔ (i ≠ b ∧ x.testBit i = true) ∨ (i = b ∧ ¬ x.testBit i = true) := by
  rw [Nat.testBit_xor, Nat.testBit_two_pow]
  by_cases e : i = b
  · rw [decide_eq_true e.symm]
    cases x.testBit i <;> simp [e]
  · rw [decide_eq_false (fun q => e q.symm)]
    cases x.testBit i <;> simp [e]
theorem ad_A2_GO {a b : Nat} (ha : a < 8) (hb : b < 8) (h : ad_GO A aO) : ad_GO (ad_A2 A a b) (upd aO b (aO b ^^^ ((1 : Int32) <<< (nI a &&& 31)))) := by
  intro j hj
  by_cases e : j = b
  · rw [e, pk_us, h b hb, ad_one (by omega), nx_xor]
    congr 1
    apply ad_ext
    intro i
    rw [ad_xor_tb, ad_B_tb, ad_B_tb]
    unfold ad_A2
    by_cases q : i = a
    · rw [if_pos q, ad_xor_tb, q]
      constructor
      · rintro (z | z)
        · exact absurd rfl z.1
        · exact ⟨ha, Or.inr ⟨rfl, fun y => z.2 ⟨ha, y⟩⟩⟩
      · rintro ⟨_, z | z⟩
        · exact absurd rfl z.1
        · exact Or.inr ⟨rfl, fun y => z.2 y.2⟩
    · rw [if_neg q]
      constructor
      · rintro (z | z)
        · exact z.2
        · exact absurd z.1 q
      · intro z; exact Or.inl ⟨q, z⟩
  · rw [pk_un e, h j hj]
    congr 1
    apply ad_ext
    intro i
    rw [ad_B_tb, ad_B_tb]
    unfold ad_A2
    by_cases q : i = a
    · rw [if_pos q, ad_xor_tb, q]
      constructor
      · rintro ⟨z, y⟩; exact ⟨z, Or.inl ⟨e, y⟩⟩
      · rintro ⟨z, y | y⟩
        · exact ⟨z, y.2⟩
        · exact absurd y.1 e
    · rw [if_neg q]
end
/-- the relation: one graph, which both sides keep, and tables that are its senses where they are said to be -/
def ad_Rl (u : SX) (v : SY) : Prop := ∃ (T : Nat) (A : Nat → Nat) (fr : Int32) (aO tg so de he wa : Nat → Int32) (kn wt : Int32) (ac fa wb : Nat → Int32), T < 256 ∧ (∀ a, A a < 256) ∧ u = (nI T, fr, aO, tg, so, de, he, wa) ∧ v = (nI T, kn, wt, ac, fa, wb) ∧ ad_GO A aO ∧ ad_GA A ac ∧ ad_FX T A fr tg so de he ∧ ad_FY T A kn fa
theorem ad_Rli {T : Nat} {A : Nat → Nat} {fr : Int32} {aO tg so de he wa : Nat → Int32} {kn wt : Int32} {ac fa wb : Nat → Int32} (hT : T < 256) (hA : ∀ a, A a < 256) (hO : ad_GO A aO) (hG : ad_GA A ac) (hX : ad_FX T A fr tg so de he) (hY : ad_FY T A kn fa) : ad_Rl (nI T, fr, aO, tg, so, de, he, wa) (nI T, kn, wt, ac, fa, wb) :=
  ⟨T, A, fr, aO, tg, so, de, he, wa, kn, wt, ac, fa, wb, hT, hA, rfl, rfl, hO, hG, hX, hY⟩
theorem ad_nar {x : Int32} {p : Prop} (h : ad_Tb x p) : narrow .boolean (.int x) = .int x := by
  rcases h with ⟨rfl, _⟩ | ⟨rfl, _⟩ <;> rfl
theorem ad_ef0 {T s : Nat} {A : Nat → Nat} (e : s = 0) (t : T = 0) : ad_pc (ad_df (ad_df T s) (ad_H A s)) + ad_sm (ad_f1 A s) 8 = 0 := by
  subst e t
  have h1 : ad_df 0 0 = 0 := by decide
  have h2 : ad_df 0 (ad_H A 0) = 0 := by unfold ad_df; exact Nat.zero_and _
  have h3 : ad_sm (ad_f1 A 0) 8 = 0 := by
    rw [ad_sm_eq (g := fun _ => 0) (fun i _ => by unfold ad_f1; rw [Nat.zero_testBit]; rfl), ad_sm_0]
  rw [h1, h2, h3]
  decide
end
section
/-! what is owed -/
def i_Rel (k : Nat) (u : SX) (v : SY) : Prop := ad_Rl u v
theorem i_up {k : Nat} {u : SX} {v : SY} (h : i_Rel k u v) : i_Rel (k + 4) u v := h
theorem i_vc0 : wpX_init (fun u => wpY_init (fun v => i_Rel 0 u v)) := by
  have hB : ∀ b, ad_B (fun _ => 0) b = 0 := fun b => ad_z.mpr fun i => by
    rw [← Bool.not_eq_true, ad_B_tb, Nat.zero_testBit]
    exact fun z => absurd z.2 (by decide)
  exact ad_Rli (T := 0) (A := fun _ => 0) (by decide) (fun _ => by decide) (fun b _ => by rw [hB b]; rfl) (fun _ _ => rfl) (Or.inl rfl) (Or.inl rfl)
theorem i_vc_put {k : Nat} {u : SX} {v : SY} (I : i_Rel k u v) (hk : k + 4 ≤ 2048) (v1 : Int32) (v2 : Int32) : wpX_put (fun r u' => wpY_put (fun r' v' => r' = r ∧ i_Rel (k + 4) u' v') v v1 (lw_bz v2)) u v1 (lw_bz v2) := by
  obtain ⟨T, A, fr, aO, tg, so, de, he, wa, kn, wt, ac, fa, wb, hT, hA, rfl, rfl, hO, hG, hX, hY⟩ := id I
  unfold wpX_put wpY_put
  dsimp only
  by_cases hz : v1 < 0
  · exact br_t hz (br_t hz ⟨rfl, I⟩)
  · obtain ⟨a, ha, rfl⟩ := nI_of hz
    refine br_f hz (pk_le 8 a (fun h => br_f hz (pk_lt 7 a (fun _ => ⟨rfl, I⟩) (fun q => absurd q (by omega)))) (fun h => ?_))
    have hx2 := Nat.xor_lt_two_pow (n := 8) hT (ad_2lt h)
    have hfin : ∀ (aO' ac' : Nat → Int32), ad_Cl (ad_B A) a 8 aO' → ad_Cl A a 8 ac' → ad_Rl (nI (T ^^^ 2 ^ a), 0, aO', tg, so, de, he, wa) (nI (T ^^^ 2 ^ a), 0, wt, ac', fa, wb) := fun aO' ac' h1 h2 => ad_Rli hx2 (ad_A1_lt hA a) (ad_A1_GO hA h1) (ad_A1_GA h2) (Or.inl rfl) (Or.inl rfl)
    have e : nI T ^^^ ((1 : Int32) <<< (nI a &&& 31)) = nI (T ^^^ 2 ^ a) := by rw [ad_one (by omega), nx_xor]
    refine ad_isThX hT (fun z => ?_) (fun z => ?_)
    · rw [ad_th_i h] at z
      refine br_c (fun y => br_f hz (pk_lt 7 a (fun q => absurd h (by omega)) (fun _ => ?_))) (fun y => nm_r e (ad_clX (ad_B_lt A) h hO fun aO' hC => br_f hz (pk_lt 7 a (fun q => absurd h (by omega)) (fun _ => ?_))))
      · rw [ad_tb (by omega) (by omega)]
        exact br_t z (br_t y.symm ⟨rfl, I⟩)
      · rw [ad_tb (by omega) (by omega)]
        exact br_t z (ad_pu28Y hA hG h (fun q => absurd q.symm y) (fun _ ac' hC' => ⟨rfl, hfin _ _ hC hC'⟩))
    · rw [ad_th_i h] at z
      refine br_c (fun y => br_f hz (pk_lt 7 a (fun q => absurd h (by omega)) (fun _ => ?_))) (fun y => nm_r e (ad_clX (ad_B_lt A) h hO fun aO' hC => br_f hz (pk_lt 7 a (fun q => absurd h (by omega)) (fun _ => ?_))))
      · rw [ad_tb (by omega) (by omega)]
        exact br_f z (br_t y.symm ⟨rfl, I⟩)
      · rw [ad_tb (by omega) (by omega)]
        exact br_f z (ad_pu28Y hA hG h (fun q => absurd q.symm y) (fun _ ac' hC' => ⟨rfl, hfin _ _ hC hC'⟩))
theorem i_vc_attack {k : Nat} {u : SX} {v : SY} (I : i_Rel k u v) (hk : k + 4 ≤ 2048) (v1 : Int32) (v2 : Int32) (v3 : Int32) : wpX_attack (fun r u' => wpY_attack (fun r' v' => r' = r ∧ i_Rel (k + 4) u' v') v v1 v2 (lw_bz v3)) u v1 v2 (lw_bz v3) := by
  obtain ⟨T, A, fr, aO, tg, so, de, he, wa, kn, wt, ac, fa, wb, hT, hA, rfl, rfl, hO, hG, hX, hY⟩ := id I
  unfold wpX_attack wpY_attack
  dsimp only
  refine ad_isThX hT (fun z => br_f (by decide) ?_) (fun z => br_t rfl (ad_isThY hT (fun q => absurd q z) (fun _ => br_t rfl ⟨rfl, I⟩)))
  refine ad_isThX hT (fun y => br_f (by decide) ?_) (fun y => br_t rfl (ad_isThY hT (fun _ => br_f (by decide) (ad_isThY hT (fun q => absurd q y) (fun _ => br_t rfl ⟨rfl, I⟩))) (fun q => absurd z q)))
  obtain ⟨a, ha, rfl, hTa⟩ := id z
  obtain ⟨b, hb, rfl, hTb⟩ := id y
  have hAa := hA a
  have hBb := ad_B_lt A b
  have hfin : ad_Rl (nI T, 0, upd aO b (nI (ad_B A b) ^^^ ((1 : Int32) <<< (nI a &&& 31))), tg, so, de, he, wa) (nI T, 0, wt, upd ac a (nI (A a) ^^^ ((1 : Int32) <<< (nI b &&& 31))), fa, wb) := by
    rw [← hO b hb, ← hG a ha]
    exact ad_Rli hT (ad_A2_lt hA hb) (ad_A2_GO ha hb hO) (ad_A2_GA hb hG ha) (Or.inl rfl) (Or.inl rfl)
  refine ⟨pk_in b 8 hb, ?_⟩
  rw [ad_c (i := b) (by omega), hO b hb]
  refine ad_has hBb ha (fun q => ?_) (fun q => ?_)
  · have q' := ((ad_B_tb A b a).mp q).2
    refine br_c (fun w => ad_isThY hT (fun _ => br_f (by decide) (ad_isThY hT (fun _ => br_f (by decide) ⟨pk_in a 8 ha, ?_⟩) (fun q => absurd y q))) (fun q => absurd z q)) (fun w => ⟨pk_in b 8 hb, pk_in b 8 hb, nm_e (ad_isThY hT (fun _ => br_f (by decide) (ad_isThY hT (fun _ => br_f (by decide) ⟨pk_in a 8 ha, ?_⟩) (fun q => absurd y q))) (fun q => absurd z q))⟩)
    · rw [ad_c (i := a) (by omega), hG a ha, ad_tb (by omega) (by omega)]
      exact br_t q' (br_t w.symm ⟨rfl, I⟩)
    · rw [ad_c (i := a) (by omega), hG a ha, ad_tb (by omega) (by omega)]
      refine br_t q' (br_f (fun x => w x.symm) ⟨pk_in a 8 ha, pk_in a 8 ha, nm_e ⟨rfl, ?_⟩⟩)
      rw [ad_c (i := a) (by omega), hG a ha]
      exact hfin
  · have q' : ¬ (A a).testBit b = true := fun x => q ((ad_B_tb A b a).mpr ⟨ha, x⟩)
    refine br_c (fun w => ad_isThY hT (fun _ => br_f (by decide) (ad_isThY hT (fun _ => br_f (by decide) ⟨pk_in a 8 ha, ?_⟩) (fun q => absurd y q))) (fun q => absurd z q)) (fun w => ⟨pk_in b 8 hb, pk_in b 8 hb, nm_e (ad_isThY hT (fun _ => br_f (by decide) (ad_isThY hT (fun _ => br_f (by decide) ⟨pk_in a 8 ha, ?_⟩) (fun q => absurd y q))) (fun q => absurd z q))⟩)
    · rw [ad_c (i := a) (by omega), hG a ha, ad_tb (by omega) (by omega)]
      exact br_f q' (br_t w.symm ⟨rfl, I⟩)
    · rw [ad_c (i := a) (by omega), hG a ha, ad_tb (by omega) (by omega)]
      refine br_f q' (br_f (fun x => w x.symm) ⟨pk_in a 8 ha, pk_in a 8 ha, nm_e ⟨rfl, ?_⟩⟩)
      rw [ad_c (i := a) (by omega), hG a ha]
      exact hfin
theorem i_vc_attackers {k : Nat} {u : SX} {v : SY} (I : i_Rel k u v) (hk : k + 4 ≤ 2048) (v1 : Int32) : wpX_attackers (fun r => wpY_attackers (fun r' => r' = r ∧ i_Rel (k + 4) u v) v v1) u v1 := by
  obtain ⟨T, A, fr, aO, tg, so, de, he, wa, kn, wt, ac, fa, wb, hT, hA, rfl, rfl, hO, hG, hX, hY⟩ := id I
  unfold wpX_attackers
  dsimp only
  refine ad_isThX hT (fun z => br_f (by decide) ?_) (fun z => br_t rfl (ad_atY hT hA hG (fun a ha e hb => absurd ⟨a, ha, e, hb⟩ z) (fun _ => ⟨rfl, I⟩)))
  obtain ⟨a, ha, rfl, hTa⟩ := id z
  refine ⟨pk_in a 8 ha, ad_atY hT hA hG (fun b hb e _ => ⟨?_, I⟩) (fun q => absurd z q)⟩
  rw [ad_c (by omega), hO a ha, ad_inj (by omega) (by omega) e]
theorem i_vc_count {k : Nat} {u : SX} {v : SY} (I : i_Rel k u v) (hk : k + 4 ≤ 2048) (v1 : Int32) : wpX_count (fun r u' => wpY_count (fun r' v' => r' = r ∧ i_Rel (k + 4) u' v') v v1) u v1 := by
  obtain ⟨T, A, fr, aO, tg, so, de, he, wa, kn, wt, ac, fa, wb, hT, hA, rfl, rfl, hO, hG, hX, hY⟩ := id I
  unfold wpX_count wpY_count
  dsimp only
  refine ad_isSenX (fun z => br_f (by decide) ?_) (fun z => br_t rfl (ad_isSenY (fun q => absurd q z) (fun _ => br_t rfl ⟨rfl, I⟩)))
  obtain ⟨σ, hσ, rfl⟩ := id z
  refine ad_rfX hT hA hO hX fun tg so de he wa hTX hAX => ?_
  dsimp only
  obtain ⟨r, h1, h2⟩ := ad_cnL (th := nI T) (fr := 1) (aO := aO) (tg := tg) (so := so) (de := de) (he := he) (wa := wa) hσ 256 0 0 rfl
  refine ⟨257, h1 _ 257 (by decide) ?_⟩
  refine ad_isSenY (fun _ => br_f (by decide) ?_) (fun q => absurd z q)
  refine ad_woY hT hA hG hY fun wt fa wb hAY => ?_
  dsimp only
  exact ⟨257, h2 _ _ _ _ _ _ (ad_Al_i hAX hAY hσ) _ 257 (by decide) ⟨rfl, ad_Rli hT hA hO hG (Or.inr ⟨rfl, hTX, hAX⟩) (Or.inr ⟨rfl, hAY⟩)⟩⟩
theorem i_vc_is {k : Nat} {u : SX} {v : SY} (I : i_Rel k u v) (hk : k + 4 ≤ 2048) (v1 : Int32) (v2 : Int32) : wpX_is (fun r u' => wpY_is (fun r' v' => r' = r ∧ i_Rel (k + 4) u' v') v v1 v2) u v1 v2 := by
  obtain ⟨T, A, fr, aO, tg, so, de, he, wa, kn, wt, ac, fa, wb, hT, hA, rfl, rfl, hO, hG, hX, hY⟩ := id I
  unfold wpX_is wpY_is
  dsimp only
  refine ad_isSenX (fun z => br_f (by decide) ?_) (fun z => br_t rfl (ad_isSenY (fun q => absurd q z) (fun _ => br_t rfl ⟨rfl, I⟩)))
  refine ad_isSetX (fun y => br_f (by decide) ?_) (fun y => br_t rfl (ad_isSenY (fun _ => br_f (by decide) (ad_isSetY (fun q => absurd q y) (fun _ => br_t rfl ⟨rfl, I⟩))) (fun q => absurd z q)))
  obtain ⟨σ, hσ, rfl⟩ := id z
  obtain ⟨s, hs, rfl, hsT⟩ := id y
  refine ad_rfX hT hA hO hX fun tg so de he wa hTX hAX => ?_
  dsimp only
  have hb := hAX σ hσ s hs
  have hin : vp_in (nI (256 * σ + s)) 3072 := pk_in (256 * σ + s) 3072 (by omega)
  rw [ad_ixX, ad_c (by omega)]
  refine ⟨hin, ad_nar hb, ?_⟩
  refine ad_isSenY (fun _ => br_f (by decide) ?_) (fun q => absurd z q)
  refine ad_isSetY (fun _ => br_f (by decide) ?_) (fun q => absurd y q)
  refine ad_woY hT hA hG hY fun wt fa wb hAY => ?_
  dsimp only
  have hb' := hAY σ hσ s hs
  rw [ad_ixY, ad_c (by omega)]
  exact ⟨hin, ad_nar hb', ad_TbU hb' hb, ad_Rli hT hA hO hG (Or.inr ⟨rfl, hTX, hAX⟩) (Or.inr ⟨rfl, hAY⟩)⟩
theorem i_vc_set {k : Nat} {u : SX} {v : SY} (I : i_Rel k u v) (hk : k + 4 ≤ 2048) (v1 : Int32) (v2 : Int32) : wpX_set (fun r u' => wpY_set (fun r' v' => r' = r ∧ i_Rel (k + 4) u' v') v v1 v2) u v1 v2 := by
  obtain ⟨T, A, fr, aO, tg, so, de, he, wa, kn, wt, ac, fa, wb, hT, hA, rfl, rfl, hO, hG, hX, hY⟩ := id I
  unfold wpX_set wpY_set
  dsimp only
  refine ad_isSenX (fun z => br_f (by decide) ?_) (fun z => br_t rfl (ad_isSenY (fun q => absurd q z) (fun _ => br_t rfl ⟨rfl, I⟩)))
  obtain ⟨σ, hσ, rfl⟩ := id z
  refine ad_rfX hT hA hO hX fun tg so de he wa hTX hAX => ?_
  dsimp only
  obtain ⟨r, h1, h2⟩ := ad_seL (th := nI T) (fr := 1) (aO := aO) (tg := tg) (so := so) (de := de) (he := he) (wa := wa) (p := v2) hσ 256 0 0 rfl
  refine ⟨257, h1 _ 257 (by decide) ?_⟩
  refine ad_isSenY (fun _ => br_f (by decide) ?_) (fun q => absurd z q)
  refine ad_woY hT hA hG hY fun wt fa wb hAY => ?_
  dsimp only
  exact ⟨257, h2 _ _ _ _ _ _ (ad_Al_i hAX hAY hσ) _ 257 (by decide) ⟨rfl, ad_Rli hT hA hO hG (Or.inr ⟨rfl, hTX, hAX⟩) (Or.inr ⟨rfl, hAY⟩)⟩⟩
theorem i_vc_some {k : Nat} {u : SX} {v : SY} (I : i_Rel k u v) (hk : k + 4 ≤ 2048) (v1 : Int32) : wpX_some (fun r u' => wpY_some (fun r' v' => r' = r ∧ i_Rel (k + 4) u' v') v v1) u v1 := by
  obtain ⟨T, A, fr, aO, tg, so, de, he, wa, kn, wt, ac, fa, wb, hT, hA, rfl, rfl, hO, hG, hX, hY⟩ := id I
  unfold wpX_some wpY_some
  dsimp only
  refine ad_isSenX (fun z => br_f (by decide) ?_) (fun z => br_t rfl (ad_isSenY (fun q => absurd q z) (fun _ => br_t rfl ⟨rfl, I⟩)))
  obtain ⟨σ, hσ, rfl⟩ := id z
  refine ad_rfX hT hA hO hX fun tg so de he wa hTX hAX => ?_
  dsimp only
  obtain ⟨r, h1, h2⟩ := ad_soL (th := nI T) (fr := 1) (aO := aO) (tg := tg) (so := so) (de := de) (he := he) (wa := wa) hσ 256 0 0 rfl
  refine ⟨257, h1 _ 257 (by decide) ?_⟩
  refine ad_isSenY (fun _ => br_f (by decide) ?_) (fun q => absurd z q)
  refine ad_woY hT hA hG hY fun wt fa wb hAY => ?_
  dsimp only
  exact ⟨257, h2 _ _ _ _ _ _ (ad_Al_i hAX hAY hσ) _ 257 (by decide) ⟨rfl, ad_Rli hT hA hO hG (Or.inr ⟨rfl, hTX, hAX⟩) (Or.inr ⟨rfl, hAY⟩)⟩⟩
theorem i_vc_every {k : Nat} {u : SX} {v : SY} (I : i_Rel k u v) (hk : k + 4 ≤ 2048) (v1 : Int32) : wpX_every (fun r u' => wpY_every (fun r' v' => r' = r ∧ i_Rel (k + 4) u' v') v v1) u v1 := by
  obtain ⟨T, A, fr, aO, tg, so, de, he, wa, kn, wt, ac, fa, wb, hT, hA, rfl, rfl, hO, hG, hX, hY⟩ := id I
  unfold wpX_every wpY_every
  dsimp only
  refine ad_isSenX (fun z => br_f (by decide) ?_) (fun z => br_t rfl (ad_isSenY (fun q => absurd q z) (fun _ => br_t rfl ⟨rfl, I⟩)))
  obtain ⟨σ, hσ, rfl⟩ := id z
  refine ad_rfX hT hA hO hX fun tg so de he wa hTX hAX => ?_
  dsimp only
  refine ad_comX hT hσ (hAX σ hσ) fun c hc hcom => ?_
  refine ad_isSenY (fun _ => br_f (by decide) ?_) (fun q => absurd z q)
  refine ad_woY hT hA hG hY fun wt fa wb hAY => ?_
  dsimp only
  refine ad_comY hT hσ (hAY σ hσ) fun c' hc' hcom' => ⟨?_, ad_Rli hT hA hO hG (Or.inr ⟨rfl, hTX, hAX⟩) (Or.inr ⟨rfl, hAY⟩)⟩
  rw [ad_com_eq hcom' hcom]
theorem i_vc_round {k : Nat} {u : SX} {v : SY} (I : i_Rel k u v) (hk : k + 4 ≤ 2048) (v1 : Int32) : wpX_round (fun r u' => wpY_round (fun r' => r' = r ∧ i_Rel (k + 4) u' v) v v1) u v1 := by
  obtain ⟨T, A, fr, aO, tg, so, de, he, wa, kn, wt, ac, fa, wb, hT, hA, rfl, rfl, hO, hG, hX, hY⟩ := id I
  unfold wpX_round wpY_round
  dsimp only
  refine ad_isThX hT (fun z => br_f (by decide) ?_) (fun z => br_t rfl (ad_isThY hT (fun q => absurd q z) (fun _ => br_t rfl ⟨rfl, I⟩)))
  obtain ⟨a, ha, rfl, hTa⟩ := id z
  refine ad_rfX hT hA hO hX fun tg so de he wa hTX hAX => ?_
  dsimp only
  obtain ⟨r, h1, h2⟩ := ad_roL (th := nI T) (fr := 1) (aO := aO) (he := he) (wa := wa) (kn := kn) (wt := wt) (fa := fa) (wb := wb) hT hA hTX hG ha 8 1 0 rfl (by decide) (ad_sub0 _)
  refine ⟨9, h1 _ 9 (by decide) ?_⟩
  refine ad_isThY hT (fun _ => br_f (by decide) ?_) (fun q => absurd z q)
  exact ⟨9, h2 _ 9 (by decide) ⟨rfl, ad_Rli hT hA hO hG (Or.inr ⟨rfl, hTX, hAX⟩) hY⟩⟩
theorem i_vc_weak {k : Nat} {u : SX} {v : SY} (I : i_Rel k u v) (hk : k + 4 ≤ 2048) (v1 : Int32) : wpX_weak (fun r u' => wpY_weak (fun r' => r' = r ∧ i_Rel (k + 4) u' v) v v1) u v1 := by
  obtain ⟨T, A, fr, aO, tg, so, de, he, wa, kn, wt, ac, fa, wb, hT, hA, rfl, rfl, hO, hG, hX, hY⟩ := id I
  unfold wpX_weak wpY_weak
  dsimp only
  refine ad_isSetX (fun z => br_f (by decide) ?_) (fun z => br_t rfl (ad_isSetY (fun q => absurd q z) (fun _ => br_t rfl ⟨rfl, I⟩)))
  obtain ⟨s, hs, rfl, hsT⟩ := id z
  refine ad_rfX hT hA hO hX fun tg so de he wa hTX hAX => ?_
  dsimp only
  rw [ad_c (by omega), (hTX s hs).1, (hTX s hs).2.2]
  refine ⟨pk_in s 256 hs, pk_in s 256 hs, ?_⟩
  refine ad_isSetY (fun _ => br_f (by decide) ?_) (fun q => absurd z q)
  refine ad_deY hT hA hG hs (ad_hiY hG hs ⟨?_, ad_Rli hT hA hO hG (Or.inr ⟨rfl, hTX, hAX⟩) hY⟩)
  rw [Int32.or_comm]
theorem i_vc_agree {k : Nat} {u : SX} {v : SY} (I : i_Rel k u v) (hk : k + 4 ≤ 2048) (v1 : Int32) (v2 : Int32) : wpX_agree (fun r u' => wpY_agree (fun r' v' => r' = r ∧ i_Rel (k + 4) u' v') v v1 v2) u v1 v2 := by
  obtain ⟨T, A, fr, aO, tg, so, de, he, wa, kn, wt, ac, fa, wb, hT, hA, rfl, rfl, hO, hG, hX, hY⟩ := id I
  unfold wpX_agree wpY_agree
  dsimp only
  refine ad_isSenX (fun z => br_f (by decide) ?_) (fun z => br_t rfl (ad_isSenY (fun q => absurd q z) (fun _ => br_t rfl ⟨rfl, I⟩)))
  refine ad_isSenX (fun y => br_f (by decide) ?_) (fun y => br_t rfl (ad_isSenY (fun _ => br_f (by decide) (ad_isSenY (fun q => absurd q y) (fun _ => br_t rfl ⟨rfl, I⟩))) (fun q => absurd z q)))
  obtain ⟨σ, hσ, rfl⟩ := id z
  obtain ⟨ρ, hρ, rfl⟩ := id y
  refine ad_rfX hT hA hO hX fun tg so de he wa hTX hAX => ?_
  dsimp only
  obtain ⟨r, h1, h2⟩ := ad_agL (th := nI T) (fr := 1) (aO := aO) (tg := tg) (so := so) (de := de) (he := he) (wa := wa) hσ hρ 256 0 rfl
  refine ⟨257, h1 _ 257 (by decide) ?_⟩
  refine ad_isSenY (fun _ => br_f (by decide) ?_) (fun q => absurd z q)
  refine ad_isSenY (fun _ => br_f (by decide) ?_) (fun q => absurd y q)
  refine ad_woY hT hA hG hY fun wt fa wb hAY => ?_
  dsimp only
  exact ⟨257, h2 _ _ _ _ _ _ (ad_Al_i hAX hAY hσ) (ad_Al_i hAX hAY hρ) _ 257 (by decide) ⟨rfl, ad_Rli hT hA hO hG (Or.inr ⟨rfl, hTX, hAX⟩) (Or.inr ⟨rfl, hAY⟩)⟩⟩
theorem i_vc_effort {k : Nat} {u : SX} {v : SY} (I : i_Rel k u v) (hk : k + 4 ≤ 2048) (v1 : Int32) : wpX_effort (fun r u' => wpY_effort (fun r' => r' = r ∧ i_Rel (k + 4) u' v) v v1) u v1 := by
  obtain ⟨T, A, fr, aO, tg, so, de, he, wa, kn, wt, ac, fa, wb, hT, hA, rfl, rfl, hO, hG, hX, hY⟩ := id I
  unfold wpX_effort wpY_effort
  dsimp only
  refine ad_isSetX (fun z => br_f (by decide) ?_) (fun z => br_t rfl (ad_isSetY (fun q => absurd q z) (fun _ => br_t rfl ⟨rfl, I⟩)))
  obtain ⟨s, hs, rfl, hsT⟩ := id z
  refine pk_eq s 0 (fun e => pk_eq T 0 (fun t => ?_) (fun t => ?_)) (fun e => ?_)
  · refine ad_ef24 hT hA hO hX hs fun tg so de he wa hTX hAX => ?_
    refine ad_isSetY (fun _ => br_f (by decide) (pk_eq s 0 (fun _ => pk_eq T 0 (fun _ => ⟨?_, ad_Rli hT hA hO hG (Or.inr ⟨rfl, hTX, hAX⟩) hY⟩) (fun q => absurd t q)) (fun q => absurd e q))) (fun q => absurd z q)
    rw [ad_ef0 e t]; rfl
  · refine ad_isSetY (fun _ => br_f (by decide) (pk_eq s 0 (fun _ => pk_eq T 0 (fun q => absurd q t) (fun _ => ⟨rfl, I⟩)) (fun q => absurd e q))) (fun q => absurd z q)
  · refine ad_ef24 hT hA hO hX hs fun tg so de he wa hTX hAX => ?_
    refine ad_isSetY (fun _ => br_f (by decide) (pk_eq s 0 (fun q => absurd q e) (fun _ => ad_hiY hG hs ⟨9, ?_⟩))) (fun q => absurd z q)
    refine ad_ef39 hT hs ⟨65, ?_⟩ 8 0 9 rfl (by decide)
    refine ad_ef79 hA hG hs ⟨?_, ad_Rli hT hA hO hG (Or.inr ⟨rfl, hTX, hAX⟩) hY⟩ 64 0 65 rfl (by decide)
    exact congrArg (fun x => nI (ad_pc (ad_df (ad_df T s) (ad_H A s)) + x)) (ad_eff A hs).symm
end
