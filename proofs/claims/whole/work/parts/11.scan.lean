/-! the loops of the methods, both sides in step -/
section
variable {th fr : Int32} {aO tg so de he wa : Nat → Int32} {ty kn wt : Int32} {ac fa wb : Nat → Int32} {T : Nat} {A : Nat → Nat} {σ ρ : Nat}
/-- the two tables are alike in a sense -/
def ad_Al (he fa : Nat → Int32) (σ : Nat) : Prop := ∀ s, s < 256 → he (256 * σ + s) = fa (256 * σ + s)
theorem ad_Al_i (hx : ad_All T A he) (hy : ad_All T A fa) (hσ : σ < 12) : ad_Al he fa σ := fun s hs => ad_TbU (hx σ hσ s hs) (hy σ hσ s hs)
theorem ad_cnL (hσ : σ < 12) : ∀ d i x, i + d = 256 → ∃ r, (∀ (post : Int32 → SX → Prop) n, d < n → post r (th, fr, aO, tg, so, de, he, wa) → wX_count_17 post (nI σ) th fr aO tg so de he wa n x (nI i)) ∧ (∀ (ty kn wt : Int32) (ac fa wb : Nat → Int32), ad_Al he fa σ → ∀ (post : Int32 → SY → Prop) n, d < n → post r (ty, kn, wt, ac, fa, wb) → wY_count_18 post (nI σ) ty kn wt ac fa wb n x (nI i)) := by
  intro d
  induction d with
  | zero =>
    intro i x hi
    obtain rfl : i = 256 := by omega
    refine ⟨x, fun post n hn h => ?_, fun ty kn wt ac fa wb hl post n hn h => ?_⟩
    · obtain ⟨n, rfl⟩ := ad_s hn
      exact br_t (by decide) h
    · obtain ⟨n, rfl⟩ := ad_s hn
      exact br_t (by decide) h
  | succ d ih =>
    intro i x hi
    have h8 : i < 256 := by omega
    have hin : vp_in (nI (256 * σ + i)) 3072 := pk_in (256 * σ + i) 3072 (by omega)
    by_cases z : he (256 * σ + i) = 0
    · obtain ⟨r, hX, hY⟩ := ih (i + 1) x (by omega)
      refine ⟨r, fun post n hn h => ?_, fun ty kn wt ac fa wb hl post n hn h => ?_⟩
      · obtain ⟨n, rfl⟩ := ad_s hn
        refine br_f (nI_ge h8 (by decide)) ?_
        rw [ad_ixX, ad_c (by omega)]
        exact ⟨hin, br_t z (nm_r (nI_1 i) (hX post n (by omega) h))⟩
      · obtain ⟨n, rfl⟩ := ad_s hn
        refine br_f (nI_ge h8 (by decide)) ?_
        rw [ad_ixY, ad_c (by omega), ← hl i h8]
        exact ⟨hin, br_t z (nm_r (nI_1 i) (hY ty kn wt ac fa wb hl post n (by omega) h))⟩
    · obtain ⟨r, hX, hY⟩ := ih (i + 1) (x + 1) (by omega)
      refine ⟨r, fun post n hn h => ?_, fun ty kn wt ac fa wb hl post n hn h => ?_⟩
      · obtain ⟨n, rfl⟩ := ad_s hn
        refine br_f (nI_ge h8 (by decide)) ?_
        rw [ad_ixX, ad_c (by omega)]
        exact ⟨hin, br_f z (nm_e (nm_r (nI_1 i) (hX post n (by omega) h)))⟩
      · obtain ⟨n, rfl⟩ := ad_s hn
        refine br_f (nI_ge h8 (by decide)) ?_
        rw [ad_ixY, ad_c (by omega), ← hl i h8]
        exact ⟨hin, br_f z (nm_e (nm_r (nI_1 i) (hY ty kn wt ac fa wb hl post n (by omega) h)))⟩
theorem ad_soL (hσ : σ < 12) : ∀ d i x, i + d = 256 → ∃ r, (∀ (post : Int32 → SX → Prop) n, d < n → post r (th, fr, aO, tg, so, de, he, wa) → wX_some_17 post (nI σ) th fr aO tg so de he wa n x (nI i)) ∧ (∀ (ty kn wt : Int32) (ac fa wb : Nat → Int32), ad_Al he fa σ → ∀ (post : Int32 → SY → Prop) n, d < n → post r (ty, kn, wt, ac, fa, wb) → wY_some_18 post (nI σ) ty kn wt ac fa wb n x (nI i)) := by
  intro d
  induction d with
  | zero =>
    intro i x hi
    obtain rfl : i = 256 := by omega
    refine ⟨x, fun post n hn h => ?_, fun ty kn wt ac fa wb hl post n hn h => ?_⟩
    · obtain ⟨n, rfl⟩ := ad_s hn
      exact br_t (by decide) h
    · obtain ⟨n, rfl⟩ := ad_s hn
      exact br_t (by decide) h
  | succ d ih =>
    intro i x hi
    have h8 : i < 256 := by omega
    have hin : vp_in (nI (256 * σ + i)) 3072 := pk_in (256 * σ + i) 3072 (by omega)
    by_cases z : he (256 * σ + i) = 0
    · obtain ⟨r, hX, hY⟩ := ih (i + 1) x (by omega)
      refine ⟨r, fun post n hn h => ?_, fun ty kn wt ac fa wb hl post n hn h => ?_⟩
      · obtain ⟨n, rfl⟩ := ad_s hn
        refine br_f (nI_ge h8 (by decide)) ?_
        rw [ad_ixX, ad_c (by omega)]
        exact ⟨hin, br_t z (nm_r (nI_1 i) (hX post n (by omega) h))⟩
      · obtain ⟨n, rfl⟩ := ad_s hn
        refine br_f (nI_ge h8 (by decide)) ?_
        rw [ad_ixY, ad_c (by omega), ← hl i h8]
        exact ⟨hin, br_t z (nm_r (nI_1 i) (hY ty kn wt ac fa wb hl post n (by omega) h))⟩
    · obtain ⟨r, hX, hY⟩ := ih (i + 1) (x ||| nI i) (by omega)
      refine ⟨r, fun post n hn h => ?_, fun ty kn wt ac fa wb hl post n hn h => ?_⟩
      · obtain ⟨n, rfl⟩ := ad_s hn
        refine br_f (nI_ge h8 (by decide)) ?_
        rw [ad_ixX, ad_c (by omega)]
        exact ⟨hin, br_f z (nm_e (nm_r (nI_1 i) (hX post n (by omega) h)))⟩
      · obtain ⟨n, rfl⟩ := ad_s hn
        refine br_f (nI_ge h8 (by decide)) ?_
        rw [ad_ixY, ad_c (by omega), ← hl i h8]
        exact ⟨hin, br_f z (nm_e (nm_r (nI_1 i) (hY ty kn wt ac fa wb hl post n (by omega) h)))⟩
theorem ad_seL {p : Int32} (hσ : σ < 12) : ∀ d i x, i + d = 256 → ∃ r, (∀ (post : Int32 → SX → Prop) n, d < n → post r (th, fr, aO, tg, so, de, he, wa) → wX_set_18 post (nI σ) p th fr aO tg so de he wa n x (nI i)) ∧ (∀ (ty kn wt : Int32) (ac fa wb : Nat → Int32), ad_Al he fa σ → ∀ (post : Int32 → SY → Prop) n, d < n → post r (ty, kn, wt, ac, fa, wb) → wY_set_19 post (nI σ) p ty kn wt ac fa wb n x (nI i)) := by
  intro d
  induction d with
  | zero =>
    intro i x hi
    obtain rfl : i = 256 := by omega
    refine ⟨-2, fun post n hn h => ?_, fun ty kn wt ac fa wb hl post n hn h => ?_⟩
    · obtain ⟨n, rfl⟩ := ad_s hn
      exact br_t (by decide) h
    · obtain ⟨n, rfl⟩ := ad_s hn
      exact br_t (by decide) h
  | succ d ih =>
    intro i x hi
    have h8 : i < 256 := by omega
    have hin : vp_in (nI (256 * σ + i)) 3072 := pk_in (256 * σ + i) 3072 (by omega)
    by_cases z : he (256 * σ + i) = 0
    · obtain ⟨r, hX, hY⟩ := ih (i + 1) x (by omega)
      refine ⟨r, fun post n hn h => ?_, fun ty kn wt ac fa wb hl post n hn h => ?_⟩
      · obtain ⟨n, rfl⟩ := ad_s hn
        refine br_f (nI_ge h8 (by decide)) ?_
        rw [ad_ixX, ad_c (by omega)]
        exact ⟨hin, br_t z (nm_r (nI_1 i) (hX post n (by omega) h))⟩
      · obtain ⟨n, rfl⟩ := ad_s hn
        refine br_f (nI_ge h8 (by decide)) ?_
        rw [ad_ixY, ad_c (by omega), ← hl i h8]
        exact ⟨hin, br_t z (nm_r (nI_1 i) (hY ty kn wt ac fa wb hl post n (by omega) h))⟩
    · by_cases y : x = p
      · refine ⟨nI i, fun post n hn h => ?_, fun ty kn wt ac fa wb hl post n hn h => ?_⟩
        · obtain ⟨n, rfl⟩ := ad_s hn
          refine br_f (nI_ge h8 (by decide)) ?_
          rw [ad_ixX, ad_c (by omega)]
          exact ⟨hin, br_f z (br_t y h)⟩
        · obtain ⟨n, rfl⟩ := ad_s hn
          refine br_f (nI_ge h8 (by decide)) ?_
          rw [ad_ixY, ad_c (by omega), ← hl i h8]
          exact ⟨hin, br_f z (br_t y h)⟩
      · obtain ⟨r, hX, hY⟩ := ih (i + 1) (x + 1) (by omega)
        refine ⟨r, fun post n hn h => ?_, fun ty kn wt ac fa wb hl post n hn h => ?_⟩
        · obtain ⟨n, rfl⟩ := ad_s hn
          refine br_f (nI_ge h8 (by decide)) ?_
          rw [ad_ixX, ad_c (by omega)]
          exact ⟨hin, br_f z (br_f y (nm_e (nm_r (nI_1 i) (hX post n (by omega) h))))⟩
        · obtain ⟨n, rfl⟩ := ad_s hn
          refine br_f (nI_ge h8 (by decide)) ?_
          rw [ad_ixY, ad_c (by omega), ← hl i h8]
          exact ⟨hin, br_f z (br_f y (nm_e (nm_r (nI_1 i) (hY ty kn wt ac fa wb hl post n (by omega) h))))⟩
theorem ad_agL (hσ : σ < 12) (hρ : ρ < 12) : ∀ d i, i + d = 256 → ∃ r, (∀ (post : Int32 → SX → Prop) n, d < n → post r (th, fr, aO, tg, so, de, he, wa) → wX_agree_22 post (nI σ) (nI ρ) th fr aO tg so de he wa n (nI i)) ∧ (∀ (ty kn wt : Int32) (ac fa wb : Nat → Int32), ad_Al he fa σ → ad_Al he fa ρ → ∀ (post : Int32 → SY → Prop) n, d < n → post r (ty, kn, wt, ac, fa, wb) → wY_agree_24 post (nI σ) (nI ρ) ty kn wt ac fa wb n (nI i)) := by
  intro d
  induction d with
  | zero =>
    intro i hi
    obtain rfl : i = 256 := by omega
    refine ⟨1, fun post n hn h => ?_, fun ty kn wt ac fa wb hl hm post n hn h => ?_⟩
    · obtain ⟨n, rfl⟩ := ad_s hn
      exact br_t (by decide) h
    · obtain ⟨n, rfl⟩ := ad_s hn
      exact br_t (by decide) h
  | succ d ih =>
    intro i hi
    have h8 : i < 256 := by omega
    have hin : vp_in (nI (256 * σ + i)) 3072 := pk_in (256 * σ + i) 3072 (by omega)
    have hjn : vp_in (nI (256 * ρ + i)) 3072 := pk_in (256 * ρ + i) 3072 (by omega)
    by_cases z : he (256 * σ + i) = he (256 * ρ + i)
    · obtain ⟨r, hX, hY⟩ := ih (i + 1) (by omega)
      refine ⟨r, fun post n hn h => ?_, fun ty kn wt ac fa wb hl hm post n hn h => ?_⟩
      · obtain ⟨n, rfl⟩ := ad_s hn
        refine br_f (nI_ge h8 (by decide)) ?_
        rw [ad_ixX (σ := σ), ad_ixX (σ := ρ), ad_c (i := 256 * σ + i) (by omega), ad_c (i := 256 * ρ + i) (by omega)]
        exact ⟨hin, hjn, br_t z (nm_r (nI_1 i) (hX post n (by omega) h))⟩
      · obtain ⟨n, rfl⟩ := ad_s hn
        refine br_f (nI_ge h8 (by decide)) ?_
        rw [ad_ixY (σ := σ), ad_ixY (σ := ρ), ad_c (i := 256 * σ + i) (by omega), ad_c (i := 256 * ρ + i) (by omega), ← hl i h8, ← hm i h8]
        exact ⟨hin, hjn, br_t z (nm_r (nI_1 i) (hY ty kn wt ac fa wb hl hm post n (by omega) h))⟩
    · refine ⟨0, fun post n hn h => ?_, fun ty kn wt ac fa wb hl hm post n hn h => ?_⟩
      · obtain ⟨n, rfl⟩ := ad_s hn
        refine br_f (nI_ge h8 (by decide)) ?_
        rw [ad_ixX (σ := σ), ad_ixX (σ := ρ), ad_c (i := 256 * σ + i) (by omega), ad_c (i := 256 * ρ + i) (by omega)]
        exact ⟨hin, hjn, br_f z h⟩
      · obtain ⟨n, rfl⟩ := ad_s hn
        refine br_f (nI_ge h8 (by decide)) ?_
        rw [ad_ixY (σ := σ), ad_ixY (σ := ρ), ad_c (i := 256 * σ + i) (by omega), ad_c (i := 256 * ρ + i) (by omega), ← hl i h8, ← hm i h8]
        exact ⟨hin, hjn, br_f z h⟩
theorem ad_roL (hT : T < 256) (hA : ∀ a, A a < 256) (hX : ad_TX T A tg so de) (hG : ad_GA A ac) {a : Nat} (ha : a < 8) : ∀ d k z, k + d = 9 → z < 256 → ad_sub z (ad_D T A z) → ∃ r, (∀ (post : Int32 → SX → Prop) n, d < n → post r (th, fr, aO, tg, so, de, he, wa) → wX_round_18 post (nI a) th fr aO tg so de he wa n (nI z) (nI k)) ∧ (∀ (post : Int32 → Prop) n, d < n → post r → wY_round_14 post (nI a) (nI T) kn wt ac fa wb n (nI z) (nI k)) := by
  intro d
  induction d with
  | zero =>
    intro k z hk hz hs
    obtain rfl : k = 9 := by omega
    refine ⟨-2, fun post n hn h => ?_, fun post n hn h => ?_⟩
    · obtain ⟨n, rfl⟩ := ad_s hn
      exact br_t (by decide) h
    · obtain ⟨n, rfl⟩ := ad_s hn
      exact br_t (by decide) h
  | succ d ih =>
    intro k z hk hz hs
    have h8 : k ≤ 8 := by omega
    have hd := ad_D_lt T A z
    have e : z ||| ad_D T A z = ad_D T A z := ad_ext fun i => by
      rw [Nat.testBit_or, Bool.or_eq_true]
      exact ⟨fun q => q.elim (hs i) id, Or.inr⟩
    by_cases y : (ad_D T A z).testBit a = true
    · refine ⟨nI k, fun post n hn h => ?_, fun post n hn h => ?_⟩
      · obtain ⟨n, rfl⟩ := ad_s hn
        refine br_f (nI_nlt h8 (by decide)) ⟨pk_in z 256 hz, nm_r (e' := nI (ad_D T A z)) (by rw [ad_c (by omega), (hX z hz).2.2, ad_or, e]) (ad_hasB hd ha (fun _ => h) (fun q => absurd y q))⟩
      · obtain ⟨n, rfl⟩ := ad_s hn
        refine br_f (nI_nlt h8 (by decide)) (ad_deY hT hA hG hz ?_)
        rw [ad_tb (by omega) (by omega)]
        exact br_t y h
    · obtain ⟨r, h1, h2⟩ := ih (k + 1) (ad_D T A z) (by omega) hd (ad_D_mono T A hs)
      refine ⟨r, fun post n hn h => ?_, fun post n hn h => ?_⟩
      · obtain ⟨n, rfl⟩ := ad_s hn
        refine br_f (nI_nlt h8 (by decide)) ⟨pk_in z 256 hz, nm_r (e' := nI (ad_D T A z)) (by rw [ad_c (by omega), (hX z hz).2.2, ad_or, e]) (ad_hasB hd ha (fun q => absurd q y) (fun _ => nm_r (nI_1 k) (h1 post n (by omega) h)))⟩
      · obtain ⟨n, rfl⟩ := ad_s hn
        refine br_f (nI_nlt h8 (by decide)) (ad_deY hT hA hG hz ?_)
        rw [ad_tb (by omega) (by omega)]
        exact br_f y (nm_r (nI_1 k) (h2 post n (by omega) h))
/-! effort -/
theorem ad_cn_s (p : Nat → Bool) (k : Nat) : ad_cn p (k + 1) = ad_cn p k + (p k).toNat := rfl
theorem ad_sm_s (f : Nat → Nat) (k : Nat) : ad_sm f (k + 1) = ad_sm f k + f k := rfl
theorem ad_sz4 {post : Int32 → Prop} {m : Nat} (hm : m < 256) (h : post (nI (ad_pc m))) : ∀ d i n, i + d = 8 → d < n → wX_size_4 post (nI m) n (nI (ad_cn (fun i => m.testBit i) i)) (nI i) := by
  intro d
  induction d with
  | zero =>
    intro i n hi hn
    obtain ⟨n, rfl⟩ := ad_s hn
    obtain rfl : i = 8 := by omega
    exact br_t (by decide) h
  | succ d ih =>
    intro i n hi hn
    obtain ⟨n, rfl⟩ := ad_s hn
    have h8 : i < 8 := by omega
    exact br_f (nI_ge h8 (by decide)) (nm_r (e' := nI (ad_cn (fun i => m.testBit i) (i + 1))) (by rw [ad_bv (by omega) (by omega), nI_add]; rfl) (nm_r (nI_1 i) (ih (i + 1) n (by omega) (by omega))))
theorem ad_sz {post : Int32 → Prop} {m : Nat} (hm : m < 256) (h : post (nI (ad_pc m))) : wpX_size post (nI m) := ⟨9, ad_sz4 hm h 8 0 9 rfl (by decide)⟩
def ad_f1 (A : Nat → Nat) (s : Nat) (a : Nat) : Nat := if s.testBit a = true then ad_pc (ad_B A a &&& s) else 0
theorem ad_ef54 {post : Int32 → SX → Prop} {s c : Nat} (hO : ad_GO A aO) (hs : s < 256) (h : post (nI (c + ad_sm (ad_f1 A s) 8)) (th, fr, aO, tg, so, de, he, wa)) : ∀ d i n, i + d = 8 → d < n → wX_effort_54 post (nI s) th fr aO tg so de he wa n (nI (c + ad_sm (ad_f1 A s) i)) (nI i) := by
  intro d
  induction d with
  | zero =>
    intro i n hi hn
    obtain ⟨n, rfl⟩ := ad_s hn
    obtain rfl : i = 8 := by omega
    exact br_t (by decide) h
  | succ d ih =>
    intro i n hi hn
    obtain ⟨n, rfl⟩ := ad_s hn
    have h8 : i < 8 := by omega
    have k := ih (i + 1) n (by omega) (by omega)
    rw [ad_sm_s] at k
    refine br_f (nI_ge h8 (by decide)) (ad_hasB hs h8 (fun hb => ⟨pk_in i 8 h8, ?_⟩) (fun hb => nm_r (nI_1 i) ?_))
    · rw [ad_c (by omega), hO i h8, nx_and]
      refine ad_sz (ad_andlt (ad_B_lt A i)) (nm_r (e' := nI (c + (ad_sm (ad_f1 A s) i + ad_f1 A s i))) ?_ (nm_r (nI_1 i) k))
      rw [nI_add, Nat.add_assoc]
      unfold ad_f1
      rw [if_pos hb]
    · have e : ad_f1 A s i = 0 := if_neg hb
      rw [e, Nat.add_zero] at k
      exact k
theorem ad_ef24 {post : Int32 → SX → Prop} {s : Nat} (hT : T < 256) (hA : ∀ a, A a < 256) (hO : ad_GO A aO) (hF : ad_FX T A fr tg so de he) (hs : s < 256) (h : ∀ tg so de he wa, ad_TX T A tg so de → ad_All T A he → post (nI (ad_pc (ad_df (ad_df T s) (ad_H A s)) + ad_sm (ad_f1 A s) 8)) (nI T, 1, aO, tg, so, de, he, wa)) : wX_effort_24 post (nI s) (nI T) fr aO tg so de he wa := by
  unfold wX_effort_24
  refine ad_rfX hT hA hO hF fun tg so de he wa hX hAll => ?_
  dsimp only
  refine ⟨pk_in s 256 hs, nm_r (e' := nI (ad_df (ad_df T s) (ad_H A s))) ?_ ?_⟩
  · rw [ad_c (by omega), (hX s hs).1, ad_not hT, ad_not (ad_df_lt hT)]
  · exact ad_sz (ad_df_lt (ad_df_lt hT)) ⟨9, ad_ef54 hO hs (h tg so de he wa hX hAll) 8 0 9 rfl (by decide)⟩
theorem ad_and11 (x y : Int32) : (x &&& y) &&& 1 = (x &&& 1) &&& (y &&& 1) := by
  have e : (1 : Int32) = 1 &&& 1 := by decide
  have h : (x &&& 1) &&& (y &&& 1) = (x &&& y) &&& (1 &&& 1) := by ac_rfl
  rw [h, ← e]
def ad_p4 (A : Nat → Nat) (s : Nat) (k : Nat) : Bool := s.testBit (k / 8) && s.testBit (k % 8) && (A (k / 8)).testBit (k % 8)
theorem ad_ef79 {post : Int32 → Prop} {s c : Nat} (hA : ∀ a, A a < 256) (hG : ad_GA A ac) (hs : s < 256) (h : post (nI (c + ad_cn (ad_p4 A s) 64))) : ∀ d i n, i + d = 64 → d < n → wY_effort_79 post (nI s) ty kn wt ac fa wb n (nI (c + ad_cn (ad_p4 A s) i)) (nI i) := by
  intro d
  induction d with
  | zero =>
    intro i n hi hn
    obtain ⟨n, rfl⟩ := ad_s hn
    obtain rfl : i = 64 := by omega
    exact br_t (by decide) h
  | succ d ih =>
    intro i n hi hn
    obtain ⟨n, rfl⟩ := ad_s hn
    have h8 : i < 64 := by omega
    have k := ih (i + 1) n (by omega) (by omega)
    rw [ad_cn_s] at k
    have e1 : nI i / 8 = nI (i / 8) := pk_div (d := 8) (by omega) (by decide) (by decide)
    have e2 : nI i - nI i / 8 * 8 = nI (i % 8) := pk_rem (d := 8) (by omega) (by decide) (by decide)
    have hn8 : ¬ (8 : Int32) = 0 := by decide
    have hA8 := hA (i / 8)
    refine br_f (nI_ge h8 (by decide)) ?_
    rw [e2, e1, ad_c (by omega), hG (i / 8) (by omega), ad_tb (m := A (i / 8)) (by omega) (by omega)]
    have hc : (((nI s >>> (nI (i / 8) &&& 31)) &&& (nI s >>> (nI (i % 8) &&& 31))) &&& 1) = 1 ↔ (s.testBit (i / 8) && s.testBit (i % 8)) = true := by
      rw [ad_and11, ad_bv (by omega) (by omega), ad_bv (by omega) (by omega)]
      cases s.testBit (i / 8) <;> cases s.testBit (i % 8) <;> decide
    rw [hc]
    have kn1 : ¬ ad_p4 A s i = true → wY_effort_79 post (nI s) ty kn wt ac fa wb n (nI (c + ad_cn (ad_p4 A s) i)) (nI (i + 1)) := fun z => by
      rw [Bool.not_eq_true] at z
      rw [z] at k
      exact k
    have ky : ad_p4 A s i = true → wY_effort_79 post (nI s) ty kn wt ac fa wb n (nI (c + ad_cn (ad_p4 A s) i + 1)) (nI (i + 1)) := fun z => by
      rw [z] at k
      exact k
    refine ⟨hn8, hn8, br_c (fun z => ⟨hn8, pk_in (i / 8) 8 (by omega), hn8, br_c (fun y => nm_r (nI_1 _) (nm_r (nI_1 i) (ky ?_))) (fun y => nm_r (nI_1 i) (kn1 ?_))⟩) (fun z => nm_r (nI_1 i) (kn1 ?_))⟩
    · unfold ad_p4; rw [z, y]; rfl
    · unfold ad_p4; rw [Bool.and_eq_true]; exact fun q => y q.2
    · unfold ad_p4; rw [Bool.and_eq_true]; exact fun q => z q.1
theorem ad_ef39 {post : Int32 → Prop} {s : Nat} (hT : T < 256) (hs : s < 256) (h : ∃ n, wY_effort_79 post (nI s) (nI T) kn wt ac fa wb n (nI (ad_pc (ad_df (ad_df T s) (ad_H A s)))) 0) : ∀ d i n, i + d = 8 → d < n → wY_effort_39 post (nI s) (nI (ad_H A s)) (nI T) kn wt ac fa wb n (nI (ad_cn (fun i => (ad_df (ad_df T s) (ad_H A s)).testBit i) i)) (nI i) := by
  intro d
  induction d with
  | zero =>
    intro i n hi hn
    obtain ⟨n, rfl⟩ := ad_s hn
    obtain rfl : i = 8 := by omega
    exact br_t (by decide) h
  | succ d ih =>
    intro i n hi hn
    obtain ⟨n, rfl⟩ := ad_s hn
    have h8 : i < 8 := by omega
    have k := ih (i + 1) n (by omega) (by omega)
    rw [ad_cn_s] at k
    have hm : ad_df (ad_df T s) (ad_H A s) < 256 := ad_df_lt (ad_df_lt hT)
    refine br_f (nI_ge h8 (by decide)) ?_
    rw [ad_not hT, ad_not (ad_df_lt hT), ad_tb (by omega) (by omega)]
    refine br_c (fun z => nm_r (nI_1 _) (nm_r (nI_1 i) ?_)) (fun z => nm_r (nI_1 i) ?_)
    · rw [z] at k; exact k
    · rw [Bool.not_eq_true] at z
      rw [z] at k; exact k
end
