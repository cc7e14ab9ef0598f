theorem pk_us {f : Nat → Int32} {k : Nat} {x : Int32} : upd f k x k = x := if_pos rfl
theorem pk_un {f : Nat → Int32} {k j : Nat} {x : Int32} (h : j ≠ k) : upd f k x j = f j := if_neg h
theorem pk_sub {a b : Nat} (h : b ≤ a) : nI a - nI b = nI (a - b) := by
  obtain ⟨c, rfl⟩ : ∃ c, a = c + b := ⟨a - b, by omega⟩
  rw [← nI_add, Int32.add_sub_cancel, Nat.add_sub_cancel]
theorem pk_m1 (n : Nat) : nI (n + 1) + (-1) = nI n := by
  rw [← nI_1, Int32.add_assoc, show (1 : Int32) + (-1) = 0 from rfl, Int32.add_zero]
theorem pk_mul (a b : Nat) : nI a * nI b = nI (a * b) := (Int32.ofNat_mul a b).symm
theorem pk_div {a d : Nat} (ha : a < 2 ^ 31) (h0 : 0 < d) (hd : d < 2 ^ 31) : nI a / nI d = nI (a / d) := by
  apply Int32.toInt_inj.mp
  rw [lg_idiv_nonneg (by rw [nI_toInt ha]; omega) (by rw [nI_toInt hd]; omega), nI_toInt ha, nI_toInt hd, nI_toInt (Nat.lt_of_le_of_lt (Nat.div_le_self a d) ha)]
  first | rfl | exact (Int.natCast_ediv _ _).symm
theorem pk_rem {a d : Nat} (ha : a < 2 ^ 31) (h0 : 0 < d) (hd : d < 2 ^ 31) : nI a - nI a / nI d * nI d = nI (a % d) := by
  rw [pk_div ha h0 hd, pk_mul, pk_sub (Nat.div_mul_le_self a d)]
  exact congrArg nI (by have := Nat.div_add_mod' a d; omega)
theorem pk_ix (x : Int32) {n : Nat} (hn : n < 2 ^ 31) : x < 0 ∨ nI n ≤ x ∨ ∃ j : Nat, j < n ∧ x = nI j := by
  by_cases h : x < 0
  · exact Or.inl h
  · obtain ⟨j, hj, rfl⟩ := nI_of h
    by_cases h2 : j < n
    · exact Or.inr (Or.inr ⟨j, h2, rfl⟩)
    · exact Or.inr (Or.inl (nI_le (by omega) hj))
theorem pk_le {x y : Int32} {A B : Prop} (a b : Nat) (f : a ≤ b → A) (g : b < a → B) (hx : x = nI a := by rfl) (hy : y = nI b := by rfl) (ha : a < 2 ^ 31 := by omega) (hb : b < 2 ^ 31 := by omega) : (x ≤ y → A) ∧ (¬ x ≤ y → B) := by
  subst hx hy
  rw [nI_leI ha hb]
  exact ⟨f, fun z => g (by omega)⟩
theorem pk_lt {x y : Int32} {A B : Prop} (a b : Nat) (f : a < b → A) (g : b ≤ a → B) (hx : x = nI a := by rfl) (hy : y = nI b := by rfl) (ha : a < 2 ^ 31 := by omega) (hb : b < 2 ^ 31 := by omega) : (x < y → A) ∧ (¬ x < y → B) := by
  subst hx hy
  rw [nI_ltI ha hb]
  exact ⟨f, fun z => g (by omega)⟩
theorem pk_eq {x y : Int32} {A B : Prop} (a b : Nat) (f : a = b → A) (g : a ≠ b → B) (hx : x = nI a := by rfl) (hy : y = nI b := by rfl) (ha : a < 2 ^ 31 := by omega) (hb : b < 2 ^ 31 := by omega) : (x = y → A) ∧ (¬ x = y → B) := by
  subst hx hy
  rw [nI_eq ha hb]
  exact ⟨f, g⟩
theorem pk_in {x : Int32} (n N : Nat) (h : n < N) (hx : x = nI n := by rfl) (hN : N < 2 ^ 31 := by omega) : vp_in x N := by
  subst hx
  exact vp_in_nI h hN
theorem pk_cl {x : Int32} (n : Nat) (hx : x = nI n := by rfl) (h : n < 2 ^ 31 := by omega) : x.toNatClampNeg = n := by
  subst hx
  exact nI_clamp h
theorem pk_tn {n : Nat} (h : n < 2 ^ 32) : (nI n).toBitVec.toNat = n := Nat.mod_eq_of_lt h
theorem pk_shl (a s : Int32) (k : Nat) (hs : (s.toBitVec.smod 32).toNat = k) : (a <<< s).toBitVec.toNat = a.toBitVec.toNat * 2 ^ k % 2 ^ 32 := by
  show (a.toBitVec <<< (s.toBitVec.smod 32).toNat).toNat = _
  rw [hs, BitVec.toNat_shiftLeft, Nat.shiftLeft_eq]
theorem pk_shlN {n : Nat} (s : Int32) (k : Nat) (hs : (s.toBitVec.smod 32).toNat = k) (h : n * 2 ^ k < 2 ^ 32) : nI n <<< s = nI (n * 2 ^ k) := by
  apply Int32.toBitVec_inj.mp
  apply BitVec.eq_of_toNat_eq
  have hn : n < 2 ^ 32 := Nat.lt_of_le_of_lt (Nat.le_mul_of_pos_right n (Nat.two_pow_pos k)) h
  rw [pk_shl _ _ k hs, pk_tn hn, pk_tn h, Nat.mod_eq_of_lt h]
theorem pk_shr (a s : Int32) (k : Nat) (hs : (s.toBitVec.smod 32).toNat = k) : (a >>> s).toInt = a.toInt >>> k := by
  show (a.toBitVec.sshiftRight (s.toBitVec.smod 32).toNat).toInt = _
  rw [hs, BitVec.toInt_sshiftRight]
  rfl
theorem pk_shrN {n : Nat} (h : n < 2 ^ 31) (s : Int32) (k : Nat) (hs : (s.toBitVec.smod 32).toNat = k) : nI n >>> s = nI (n / 2 ^ k) := by
  apply Int32.toInt_inj.mp
  have h2 : n / 2 ^ k ≤ n := Nat.div_le_self _ _
  rw [pk_shr _ _ k hs, nI_toInt h, nI_toInt (by omega), Int.shiftRight_eq_div_pow]
  rfl
theorem s_l : ∀ n, n < 32 → ((nI n &&& 31).toBitVec.smod 32).toNat = n := by decide +kernel
theorem nx_and (a b : Nat) : nI a &&& nI b = nI (a &&& b) := by
  apply Int32.toBitVec_inj.1
  show BitVec.ofNat 32 a &&& BitVec.ofNat 32 b = BitVec.ofNat 32 (a &&& b)
  apply BitVec.eq_of_getLsbD_eq
  intro i hi
  simp [hi]
theorem nx_xor (a b : Nat) : nI a ^^^ nI b = nI (a ^^^ b) := by
  apply Int32.toBitVec_inj.1
  show BitVec.ofNat 32 a ^^^ BitVec.ofNat 32 b = BitVec.ofNat 32 (a ^^^ b)
  apply BitVec.eq_of_getLsbD_eq
  intro i hi
  simp [hi]
theorem ad_or (a b : Nat) : nI a ||| nI b = nI (a ||| b) := by
  apply Int32.toBitVec_inj.1
  show BitVec.ofNat 32 a ||| BitVec.ofNat 32 b = BitVec.ofNat 32 (a ||| b)
  apply BitVec.eq_of_getLsbD_eq
  intro i hi
  simp [hi]
theorem ad_one {i : Nat} (hi : i < 31) : (1 : Int32) <<< (nI i &&& 31) = nI (2 ^ i) := by
  have h := pk_shlN (n := 1) (nI i &&& 31) i (s_l i (by omega)) (by rw [Nat.one_mul]; exact Nat.pow_lt_pow_right (by decide) (by omega))
  rw [Nat.one_mul] at h
  exact h
theorem ad_bv {m i : Nat} (hm : m < 2 ^ 31) (hi : i < 32) : ((nI m >>> (nI i &&& 31)) &&& 1) = nI (m.testBit i).toNat := by
  rw [pk_shrN hm _ i (s_l i hi)]
  show nI (m / 2 ^ i) &&& nI 1 = _
  rw [nx_and, Nat.and_one_is_mod, Nat.testBit_eq_decide_div_mod_eq]
  congr 1
  rcases Nat.mod_two_eq_zero_or_one (m / 2 ^ i) with h | h <;> simp [h]
theorem ad_tb {m i : Nat} (hm : m < 2 ^ 31) (hi : i < 32) : ((nI m >>> (nI i &&& 31)) &&& 1) = 1 ↔ m.testBit i = true := by
  rw [ad_bv hm hi]
  cases m.testBit i
  · exact ⟨fun h => absurd h (by decide), fun h => absurd h (by decide)⟩
  · exact ⟨fun _ => rfl, fun _ => rfl⟩
theorem ad_hi {a i : Nat} (ha : a < 256) (hi : 8 ≤ i) : a.testBit i = false :=
  Nat.testBit_lt_two_pow (Nat.lt_of_lt_of_le ha (Nat.pow_le_pow_right (n := 2) (by decide) hi))
theorem ad_b8 {a i : Nat} (ha : a < 256) (h : a.testBit i = true) : i < 8 := by
  rcases Nat.lt_or_ge i 8 with z | z
  · exact z
  · rw [ad_hi ha z] at h; exact absurd h (by decide)
theorem ad_lt {a : Nat} (h : ∀ i, 8 ≤ i → a.testBit i = false) : a < 256 := Nat.lt_pow_two_of_testBit (n := 8) a (fun i hi => h i hi)
theorem ad_ext {a b : Nat} (h : ∀ i, a.testBit i = true ↔ b.testBit i = true) : a = b :=
  Nat.eq_of_testBit_eq (fun i => Bool.eq_iff_iff.mpr (h i))
theorem ad_z {a : Nat} : a = 0 ↔ ∀ i, a.testBit i = false := by
  constructor
  · intro h i; rw [h, Nat.zero_testBit]
  · intro h; exact Nat.eq_of_testBit_eq (fun i => by rw [h i, Nat.zero_testBit])
theorem ad_nz {a : Nat} (h : a ≠ 0) : ∃ i, a.testBit i = true := by
  apply Classical.byContradiction
  intro hn
  exact h (ad_z.mpr fun i => by
    cases hb : a.testBit i
    · rfl
    · exact absurd ⟨i, hb⟩ hn)
theorem ad_255 (i : Nat) : (255 : Nat).testBit i = decide (i < 8) := Nat.testBit_two_pow_sub_one 8 i
def ad_df (a b : Nat) : Nat := a &&& (b ^^^ 255)
theorem ad_df_tb {a b i : Nat} (ha : a < 256) : (ad_df a b).testBit i = (a.testBit i && !b.testBit i) := by
  unfold ad_df
  rw [Nat.testBit_and, Nat.testBit_xor, ad_255]
  rcases Nat.lt_or_ge i 8 with h | h
  · rw [decide_eq_true h]; cases a.testBit i <;> cases b.testBit i <;> rfl
  · rw [ad_hi ha h]; rfl
theorem ad_df_lt {a b : Nat} (ha : a < 256) : ad_df a b < 256 := Nat.lt_of_le_of_lt Nat.and_le_left ha
theorem ad_not {a b : Nat} (ha : a < 256) : nI a &&& (nI b ^^^ (-1)) = nI (ad_df a b) := by
  show nI a &&& (nI b ^^^ nI 4294967295) = _
  rw [nx_xor, nx_and]
  congr 1
  apply Nat.eq_of_testBit_eq
  intro i
  rw [ad_df_tb ha, Nat.testBit_and, Nat.testBit_xor, show (4294967295 : Nat) = 2 ^ 32 - 1 from rfl, Nat.testBit_two_pow_sub_one]
  rcases Nat.lt_or_ge i 8 with h | h
  · rw [decide_eq_true (by omega)]; cases a.testBit i <;> cases b.testBit i <;> rfl
  · rw [ad_hi ha h]; rfl
def ad_sub (s t : Nat) : Prop := ∀ i, s.testBit i = true → t.testBit i = true
theorem ad_sub_df {s t : Nat} (hs : s < 256) : ad_df s t = 0 ↔ ad_sub s t := by
  rw [ad_z]
  constructor
  · intro h i hi
    have := h i
    rw [ad_df_tb hs, hi] at this
    cases hb : t.testBit i
    · rw [hb] at this; exact absurd this (by decide)
    · rfl
  · intro h i
    rw [ad_df_tb hs]
    cases hb : s.testBit i
    · rfl
    · rw [h i hb]; rfl
theorem ad_subI {s t : Nat} (hs : s < 256) : (nI s &&& (nI t ^^^ (-1))) = 0 ↔ ad_sub s t := by
  have := ad_df_lt (b := t) hs
  rw [ad_not hs, ← nI_0, nI_eq (by omega) (by omega), ad_sub_df hs]
theorem ad_subR (s : Nat) : ad_sub s s := fun _ h => h
theorem ad_subT {a b c : Nat} (h : ad_sub a b) (k : ad_sub b c) : ad_sub a c := fun i z => k i (h i z)
theorem ad_subA {a b : Nat} (h : ad_sub a b) (k : ad_sub b a) : a = b := ad_ext fun i => ⟨h i, k i⟩
theorem ad_sub0 (t : Nat) : ad_sub 0 t := fun i h => by rw [Nat.zero_testBit] at h; exact absurd h (by decide)
theorem ad_sub255 {s : Nat} (h : s < 256) : ad_sub s 255 := fun i hi => by
  rw [ad_255]; exact decide_eq_true (ad_b8 h hi)
theorem ad_subLe {s t : Nat} (h : ad_sub s t) : s ≤ t := by
  have e : s = s &&& t := ad_ext fun i => by
    rw [Nat.testBit_and, Bool.and_eq_true]
    exact ⟨fun z => ⟨z, h i z⟩, fun z => z.1⟩
  rw [e]; exact Nat.and_le_right
theorem ad_subAnd (s t : Nat) : ad_sub (s &&& t) t := fun i h => by
  rw [Nat.testBit_and, Bool.and_eq_true] at h; exact h.2
theorem ad_subAndL (s t : Nat) : ad_sub (s &&& t) s := fun i h => by
  rw [Nat.testBit_and, Bool.and_eq_true] at h; exact h.1
theorem ad_and0 {a b : Nat} : a &&& b = 0 ↔ ∀ i, a.testBit i = true → b.testBit i = true → False := by
  rw [ad_z]
  constructor
  · intro h i ha hb
    have := h i
    rw [Nat.testBit_and, ha, hb] at this
    exact absurd this (by decide)
  · intro h i
    rw [Nat.testBit_and]
    cases ha : a.testBit i
    · rfl
    · cases hb : b.testBit i
      · rfl
      · exact (h i ha hb).elim
theorem ad_andI {a b : Nat} (ha : a < 256) : (nI a &&& nI b) = 0 ↔ a &&& b = 0 := by
  have : a &&& b ≤ a := Nat.and_le_left
  rw [nx_and, ← nI_0, nI_eq (by omega) (by omega)]
theorem ad_orlt {a b : Nat} (ha : a < 256) (hb : b < 256) : a ||| b < 256 := Nat.or_lt_two_pow (n := 8) ha hb
theorem ad_andlt {a b : Nat} (ha : a < 256) : a &&& b < 256 := Nat.lt_of_le_of_lt Nat.and_le_left ha
theorem ad_2lt {i : Nat} (h : i < 8) : 2 ^ i < 256 := Nat.pow_lt_pow_right (a := 2) (m := i) (n := 8) (by decide) h
def ad_Tb (x : Int32) (p : Prop) : Prop := (x = 1 ∧ p) ∨ (x = 0 ∧ ¬ p)
theorem ad_Tb1 {p : Prop} (h : p) : ad_Tb 1 p := Or.inl ⟨rfl, h⟩
theorem ad_Tb0 {p : Prop} (h : ¬ p) : ad_Tb 0 p := Or.inr ⟨rfl, h⟩
theorem ad_TbN {x : Int32} {p : Prop} (h : ad_Tb x p) : x = 0 ↔ ¬ p := by
  rcases h with ⟨rfl, h⟩ | ⟨rfl, h⟩
  · exact ⟨fun z => absurd z (by decide), fun z => absurd h z⟩
  · exact ⟨fun _ => h, fun _ => rfl⟩
theorem ad_TbU {x y : Int32} {p : Prop} (h : ad_Tb x p) (k : ad_Tb y p) : x = y := by
  rcases h with ⟨rfl, h⟩ | ⟨rfl, h⟩ <;> rcases k with ⟨rfl, k⟩ | ⟨rfl, k⟩
  · rfl
  · exact absurd h k
  · exact absurd k h
  · rfl
theorem ad_TbI {x : Int32} {p q : Prop} (h : ad_Tb x p) (e : p ↔ q) : ad_Tb x q := by
  rcases h with ⟨rfl, h⟩ | ⟨rfl, h⟩
  · exact Or.inl ⟨rfl, e.mp h⟩
  · exact Or.inr ⟨rfl, fun z => h (e.mpr z)⟩
theorem ad_n0 : vp_nar .boolean 0 = 0 := rfl
theorem ad_n1 : vp_nar .boolean 1 = 1 := rfl
theorem ad_nT {x : Int32} {p : Prop} (h : ad_Tb x p) : vp_nar .boolean x = x := by
  rcases h with ⟨rfl, h⟩ | ⟨rfl, h⟩
  · exact ad_n1
  · exact ad_n0
theorem ad_ixX {σ i : Nat} : nI σ * 256 + nI i = nI (256 * σ + i) := by
  show nI σ * nI 256 + nI i = _
  rw [pk_mul, nI_add, Nat.mul_comm]
theorem ad_ixY {σ i : Nat} : 256 * nI σ + nI i = nI (256 * σ + i) := by
  show nI 256 * nI σ + nI i = _
  rw [pk_mul, nI_add]
/-- a block of a table speaks of a property -/
def ad_Tab (a : Nat → Int32) (σ : Nat) (P : Nat → Prop) : Prop := ∀ s, s < 256 → ad_Tb (a (256 * σ + s)) (P s)
/-- a table stays but for one block -/
def ad_Fr (a b : Nat → Int32) (τ : Nat) : Prop := ∀ i, (i < 256 * τ ∨ 256 * τ + 256 ≤ i) → b i = a i
theorem ad_TabF {a b : Nat → Int32} {σ τ : Nat} {P : Nat → Prop} (h : ad_Tab a σ P) (f : ad_Fr a b τ) (n : σ ≠ τ) : ad_Tab b σ P := by
  intro s hs
  rw [f (256 * σ + s) (by omega)]
  exact h s hs
