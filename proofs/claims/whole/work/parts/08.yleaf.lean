/-! the reference's small methods -/
section
variable {kn wt : Int32} {ac fa wb : Nat → Int32} {T : Nat} {A : Nat → Nat} {Q : Nat → Prop} {σ : Nat}
theorem ad_isThY {post : Int32 → Prop} (hT : T < 256) {p : Int32} (h1 : ad_th T p → post 1) (h0 : ¬ ad_th T p → post 0) : wpY_isThere post (nI T, kn, wt, ac, fa, wb) p := by
  unfold wpY_isThere
  dsimp only
  by_cases hz : p < 0
  · refine br_t hz (h0 ?_)
    rintro ⟨a, ha, rfl, _⟩
    exact nI_pos (by omega) hz
  · obtain ⟨j, hj, rfl⟩ := nI_of hz
    refine br_f hz (pk_lt 7 j (fun h => h0 ?_) (fun h => ?_))
    · rintro ⟨a, ha, e, _⟩
      have := (nI_eq hj (by omega)).mp e
      omega
    · rw [ad_tb (by omega) (by omega)]
      refine ⟨fun z => h1 ⟨j, by omega, rfl, z⟩, fun z => h0 ?_⟩
      rw [ad_th_i (by omega)]; exact z
theorem ad_isSetY {post : Int32 → Prop} {p : Int32} (h1 : ad_st T p → post 1) (h0 : ¬ ad_st T p → post 0) : wpY_isSet post (nI T, kn, wt, ac, fa, wb) p := by
  unfold wpY_isSet
  dsimp only
  by_cases hz : p < 0
  · refine br_t hz (h0 ?_)
    rintro ⟨a, ha, rfl, _⟩
    exact nI_pos (by omega) hz
  · obtain ⟨j, hj, rfl⟩ := nI_of hz
    refine br_f hz (pk_lt 255 j (fun h => h0 ?_) (fun h => ?_))
    · rintro ⟨a, ha, e, _⟩
      have := (nI_eq hj (by omega)).mp e
      omega
    · rw [ad_subI (by omega)]
      refine ⟨fun z => h1 ⟨j, by omega, rfl, z⟩, fun z => h0 ?_⟩
      rw [ad_st_i (by omega)]; exact z
theorem ad_isSenY {post : Int32 → Prop} {u : SY} {p : Int32} (h1 : ad_se p → post 1) (h0 : ¬ ad_se p → post 0) : wpY_isSense post u p := by
  obtain ⟨t, kn, wt, ac, fa, wb⟩ := u
  unfold wpY_isSense
  dsimp only
  by_cases hz : p < 0
  · refine br_t hz (h0 ?_)
    rintro ⟨a, ha, rfl⟩
    exact nI_pos (by omega) hz
  · obtain ⟨j, hj, rfl⟩ := nI_of hz
    refine br_f hz (pk_lt 11 j (fun h => h0 ?_) (fun h => h1 ⟨j, by omega, rfl⟩))
    rintro ⟨a, ha, e⟩
    have := (nI_eq hj (by omega)).mp e
    omega
/-- the attacks as the reference keeps them -/
def ad_GA (A : Nat → Nat) (ac : Nat → Int32) : Prop := ∀ a, a < 8 → ac a = nI (A a)
theorem ad_at14Y {post : Int32 → Prop} (hA : ∀ a, A a < 256) (hG : ad_GA A ac) {a : Nat} (ha : a < 8) (h : post (nI (ad_B A a))) : ∀ d i n, i + d = 8 → d < n → wY_attackers_14 post (nI a) (nI T) kn wt ac fa wb n (nI (ad_mk (fun b => (A b).testBit a) i)) (nI i) := by
  intro d
  induction d with
  | zero =>
    intro i n hi hn
    obtain ⟨n, rfl⟩ := ad_s hn
    obtain rfl : i = 8 := by omega
    exact br_t (by decide) h
  | succ d ih =>
    intro i n hi hn
    obtain ⟨n, rfl⟩ := ad_s hn
    have h8 : i < 8 := by omega
    have k := ih (i + 1) n (by omega) (by omega)
    refine br_f (nI_ge h8 (by decide)) ⟨pk_in i 8 h8, ?_⟩
    rw [ad_c (by omega), hG i h8, ad_tb (by have := hA i; omega) (by omega)]
    refine br_c (fun z => nm_r (by rw [ad_one (by omega), ad_or]) (nm_r (nI_1 i) ?_)) (fun z => nm_r (nI_1 i) ?_)
    · have e : ad_mk (fun b => (A b).testBit a) (i + 1) = ad_mk (fun b => (A b).testBit a) i ||| 2 ^ i := if_pos z
      rw [← e]; exact k
    · have e : ad_mk (fun b => (A b).testBit a) (i + 1) = ad_mk (fun b => (A b).testBit a) i := if_neg z
      rw [← e]; exact k
theorem ad_atY {post : Int32 → Prop} (hT : T < 256) (hA : ∀ a, A a < 256) (hG : ad_GA A ac) {p : Int32} (h1 : ∀ a, a < 8 → p = nI a → T.testBit a = true → post (nI (ad_B A a))) (h0 : ¬ ad_th T p → post (-1)) : wpY_attackers post (nI T, kn, wt, ac, fa, wb) p := by
  unfold wpY_attackers
  dsimp only
  refine ad_isThY hT (fun z => br_f (by decide) ?_) (fun z => br_t rfl (h0 z))
  obtain ⟨a, ha, rfl, hb⟩ := z
  exact ⟨9, ad_at14Y hA hG ha (h1 a ha rfl hb) 8 0 9 rfl (by decide)⟩
theorem ad_hi4Y {post : Int32 → Prop} (hG : ad_GA A ac) {s : Nat} (hs : s < 256) (h : post (nI (ad_H A s))) : ∀ d i n, i + d = 8 → d < n → wY_hit_4 post (nI s) (nI T) kn wt ac fa wb n (nI (ad_ht A s i)) (nI i) := by
  intro d
  induction d with
  | zero =>
    intro i n hi hn
    obtain ⟨n, rfl⟩ := ad_s hn
    obtain rfl : i = 8 := by omega
    exact br_t (by decide) h
  | succ d ih =>
    intro i n hi hn
    obtain ⟨n, rfl⟩ := ad_s hn
    have h8 : i < 8 := by omega
    have k := ih (i + 1) n (by omega) (by omega)
    refine br_f (nI_ge h8 (by decide)) ?_
    rw [ad_tb (by omega) (by omega)]
    refine br_c (fun z => ⟨pk_in i 8 h8, nm_r (by rw [ad_c (by omega), hG i h8, ad_or]) (nm_r (nI_1 i) ?_)⟩) (fun z => nm_r (nI_1 i) ?_)
    · have e : ad_ht A s (i + 1) = ad_ht A s i ||| A i := if_pos z
      rw [← e]; exact k
    · have e : ad_ht A s (i + 1) = ad_ht A s i := if_neg z
      rw [← e]; exact k
theorem ad_hiY {post : Int32 → Prop} (hG : ad_GA A ac) {s : Nat} (hs : s < 256) (h : post (nI (ad_H A s))) : wpY_hit post (nI T, kn, wt, ac, fa, wb) (nI s) := by
  unfold wpY_hit
  exact ⟨9, ad_hi4Y hG hs h 8 0 9 rfl (by decide)⟩
theorem ad_de11Y {post : Int32 → Prop} (hT : T < 256) (hA : ∀ a, A a < 256) (hG : ad_GA A ac) {s : Nat} (h : post (nI (ad_D T A s))) : ∀ d i n, i + d = 8 → d < n → wY_defended_11 post (nI (ad_H A s)) (nI T) kn wt ac fa wb n (nI (ad_mk (ad_p2 T A s) i)) (nI i) := by
  intro d
  induction d with
  | zero =>
    intro i n hi hn
    obtain ⟨n, rfl⟩ := ad_s hn
    obtain rfl : i = 8 := by omega
    exact br_t (by decide) h
  | succ d ih =>
    intro i n hi hn
    obtain ⟨n, rfl⟩ := ad_s hn
    have h8 : i < 8 := by omega
    have k := ih (i + 1) n (by omega) (by omega)
    refine br_f (nI_ge h8 (by decide)) (ad_isThY hT (fun z => br_f (by decide) ?_) (fun z => br_t rfl (nm_r (nI_1 i) ?_)))
    · refine ad_atY hT hA hG (fun a ha e hb => ?_) (fun y => absurd z y)
      obtain rfl := ad_inj (by omega) (by omega) e
      rw [ad_subI (ad_B_lt A i)]
      refine br_c (fun z => nm_r (by rw [ad_one (by omega), ad_or]) (nm_r (nI_1 i) ?_)) (fun z => nm_r (nI_1 i) ?_)
      · have e : ad_mk (ad_p2 T A s) (i + 1) = ad_mk (ad_p2 T A s) i ||| 2 ^ i := if_pos (by unfold ad_p2; rw [hb, Bool.true_and, decide_eq_true_eq, ad_sub_df (ad_B_lt A i)]; exact z)
        rw [← e]; exact k
      · have e : ad_mk (ad_p2 T A s) (i + 1) = ad_mk (ad_p2 T A s) i := if_neg (by unfold ad_p2; rw [hb, Bool.true_and, decide_eq_true_eq, ad_sub_df (ad_B_lt A i)]; exact z)
        rw [← e]; exact k
    · rw [ad_th_i h8] at z
      have e : ad_mk (ad_p2 T A s) (i + 1) = ad_mk (ad_p2 T A s) i := if_neg (by unfold ad_p2; rw [Bool.and_eq_true]; exact fun y => z y.1)
      rw [← e]; exact k
theorem ad_deY {post : Int32 → Prop} (hT : T < 256) (hA : ∀ a, A a < 256) (hG : ad_GA A ac) {s : Nat} (hs : s < 256) (h : post (nI (ad_D T A s))) : wpY_defended post (nI T, kn, wt, ac, fa, wb) (nI s) := by
  unfold wpY_defended
  dsimp only
  exact ad_hiY hG hs ⟨9, ad_de11Y hT hA hG h 8 0 9 rfl (by decide)⟩
theorem ad_gr20Y {post : Int32 → Prop} (hA : ∀ a, A a < 256) (hG : ad_GA A ac) (hσ : σ < 12) (hQ : ad_Tab fa σ Q) {s : Nat} (hs : s < 256) (hq : Q s) (h1 : ad_wide A Q s → post 1) (h0 : ¬ ad_wide A Q s → post 0) : ∀ d i n, i + d = 256 → d < n → (∀ t, t < i → Q t → ad_sub (s ||| ad_H A s) (t ||| ad_H A t) → t ||| ad_H A t = s ||| ad_H A s) → wY_isGreatest_20 post (nI σ) 1 (nI (s ||| ad_H A s)) (nI T) kn wt ac fa wb n (nI i) := by
  intro d
  induction d with
  | zero =>
    intro i n hi hn hj
    obtain ⟨n, rfl⟩ := ad_s hn
    obtain rfl : i = 256 := by omega
    exact br_t (by decide) (h1 ⟨hq, hj⟩)
  | succ d ih =>
    intro i n hi hn hj
    obtain ⟨n, rfl⟩ := ad_s hn
    have h8 : i < 256 := by omega
    have hm := ad_orlt hs (ad_H_lt hA s)
    have hmi := ad_orlt h8 (ad_H_lt hA i)
    have k : (Q i → ad_sub (s ||| ad_H A s) (i ||| ad_H A i) → i ||| ad_H A i = s ||| ad_H A s) → wY_isGreatest_20 post (nI σ) 1 (nI (s ||| ad_H A s)) (nI T) kn wt ac fa wb n (nI (i + 1)) := fun z => ih (i + 1) n (by omega) (by omega) fun t ht q y => by
      by_cases e : t = i
      · rw [e] at q y ⊢; exact z q y
      · exact hj t (by omega) q y
    refine br_f (nI_ge h8 (by decide)) (br_f (by decide) (ad_hiY hG h8 ?_))
    unfold wY_isGreatest_46
    rw [ad_or, ad_ixY, ad_c (by omega), ad_TbN (hQ i h8), nI_eq (by omega) (by omega), ad_subI hm]
    refine ⟨pk_in (256 * σ + i) 3072 (by omega), br_c (fun z => nm_r (nI_1 i) (k fun q => absurd q z)) (fun z => br_c (fun y => nm_r (nI_1 i) (k fun _ _ => y)) (fun y => br_c (fun w => h0 fun g => y (g.2 i h8 (Classical.byContradiction z) w)) (fun w => nm_r (nI_1 i) (k fun _ w' => absurd w' w))))⟩
theorem ad_grY {post : Int32 → Prop} (hA : ∀ a, A a < 256) (hG : ad_GA A ac) (hσ : σ < 12) (hQ : ad_Tab fa σ Q) {s : Nat} (hs : s < 256) (hq : Q s) (h1 : ad_wide A Q s → post 1) (h0 : ¬ ad_wide A Q s → post 0) : wpY_isGreatest post (nI T, kn, wt, ac, fa, wb) (nI σ) (nI s) 1 := by
  unfold wpY_isGreatest
  dsimp only
  refine br_f (by decide) (ad_hiY hG hs (nm_r (ad_or _ _) ⟨257, ?_⟩))
  exact ad_gr20Y hA hG hσ hQ hs hq h1 h0 256 0 257 rfl (by decide) fun t ht => absurd ht (by omega)
theorem ad_com7Y {post : Int32 → Prop} (hσ : σ < 12) (hQ : ad_Tab fa σ Q) (h : ∀ c, c < 256 → ad_com T Q c → post (nI c)) : ∀ d i n c, i + d = 256 → d < n → c < 256 → (∀ j, c.testBit j = true ↔ (T.testBit j = true ∧ ∀ s, s < i → Q s → s.testBit j = true)) → wY_common_7 post (nI σ) (nI T) kn wt ac fa wb n (nI c) (nI i) := by
  intro d
  induction d with
  | zero =>
    intro i n c hi hn hc hj
    obtain ⟨n, rfl⟩ := ad_s hn
    obtain rfl : i = 256 := by omega
    exact br_t (by decide) (h c hc hj)
  | succ d ih =>
    intro i n c hi hn hc hj
    obtain ⟨n, rfl⟩ := ad_s hn
    have h8 : i < 256 := by omega
    refine br_f (nI_ge h8 (by decide)) ?_
    rw [ad_ixY, ad_c (by omega), ad_TbN (hQ i h8)]
    refine ⟨pk_in (256 * σ + i) 3072 (by omega), br_c (fun z => nm_r (nI_1 i) (ih (i + 1) n c (by omega) (by omega) hc fun j => ?_)) (fun z => nm_r (nx_and c i) (nm_r (nI_1 i) (ih (i + 1) n (c &&& i) (by omega) (by omega) (ad_andlt hc) fun j => ?_)))⟩
    · rw [hj j]
      refine and_congr_right fun _ => ⟨fun y s hs q => ?_, fun y s hs q => y s (by omega) q⟩
      by_cases e : s = i
      · rw [e] at q; exact absurd q z
      · exact y s (by omega) q
    · rw [Nat.testBit_and, Bool.and_eq_true, hj j]
      constructor
      · rintro ⟨⟨a, b⟩, c⟩
        refine ⟨a, fun s hs q => ?_⟩
        by_cases e : s = i
        · rw [e]; exact c
        · exact b s (by omega) q
      · rintro ⟨a, b⟩
        exact ⟨⟨a, fun s hs q => b s (by omega) q⟩, b i (by omega) (Classical.byContradiction z)⟩
theorem ad_comY {post : Int32 → Prop} (hT : T < 256) (hσ : σ < 12) (hQ : ad_Tab fa σ Q) (h : ∀ c, c < 256 → ad_com T Q c → post (nI c)) : wpY_common post (nI T, kn, wt, ac, fa, wb) (nI σ) := by
  unfold wpY_common
  exact ⟨257, ad_com7Y hσ hQ h 256 0 257 T rfl (by decide) hT fun j => ⟨fun z => ⟨z, fun s hs => absurd hs (by omega)⟩, fun z => z.1⟩⟩
/-- keepGreatest -/
theorem ad_kg46Y {post : SY → Prop} {J3 : Int32 → (Nat → Int32) → (Nat → Int32) → (Nat → Int32) → Prop} {th : Int32} {τ l s : Nat} (hσ : σ < 12) (hτ : τ < 12) (hQ : ad_Tab fa σ Q) (hs : s < 256) (hq : Q s) (hl : ad_sub s l) (k : ∀ v, ad_Tb v (ad_gr Q (fun t => ad_sub t l) s) → J3 (nI (s + 1)) ac (upd fa (256 * τ + s) v) wb) : ∀ d i n, i + d = 256 → d < n → (∀ t, t < i → Q t → ad_sub t l → ad_sub s t → t = s) → wY_keepGreatest_46 post J3 (nI σ) (nI τ) (nI l) (nI s) th kn wt ac fa wb (n + 1) 1 (nI i) := by
  have k110 : ∀ v, ad_Tb v (ad_gr Q (fun t => ad_sub t l) s) → wY_keepGreatest_110 post J3 (nI σ) (nI τ) (nI l) (nI s) v th kn wt ac fa wb := by
    intro v hv
    unfold wY_keepGreatest_110
    rw [ad_ixY, ad_c (by omega), ad_nT hv]
    exact ⟨pk_in (256 * τ + s) 3072 (by omega), nm_e (nm_r (nI_1 s) (k v hv))⟩
  intro d
  induction d with
  | zero =>
    intro i n hi hn hj
    obtain rfl : i = 256 := by omega
    exact br_t (by decide) (k110 1 (ad_Tb1 ⟨hq, hl, hj⟩))
  | succ d ih =>
    intro i n hi hn hj
    obtain ⟨n, rfl⟩ := ad_s hn
    have h8 : i < 256 := by omega
    have k' : (Q i → ad_sub i l → ad_sub s i → i = s) → wY_keepGreatest_46 post J3 (nI σ) (nI τ) (nI l) (nI s) th kn wt ac fa wb (n + 1) 1 (nI (i + 1)) := fun z => ih (i + 1) n (by omega) (by omega) fun t ht q y w => by
      by_cases e : t = i
      · rw [e] at q y w ⊢; exact z q y w
      · exact hj t (by omega) q y w
    refine br_f (nI_ge h8 (by decide)) (br_f (by decide) ?_)
    rw [ad_ixY, ad_c (by omega), ad_TbN (hQ i h8), ad_subI h8, ad_subI hs, nI_eq (by omega) (by omega)]
    refine ⟨pk_in (256 * σ + i) 3072 (by omega), br_c (fun z => nm_r (nI_1 i) (k' fun q => absurd q z)) (fun z => br_c (fun y => br_c (fun w => nm_r (nI_1 i) (k' fun _ _ _ => w)) (fun w => br_c (fun x => nm_r (nI_1 i) ?_) (fun x => nm_r (nI_1 i) (k' fun _ _ x' => absurd x' x)))) (fun y => nm_r (nI_1 i) (k' fun _ y' => absurd y' y)))⟩
    have f : wY_keepGreatest_110 post J3 (nI σ) (nI τ) (nI l) (nI s) 0 th kn wt ac fa wb := k110 0 (ad_Tb0 fun g => w (g.2.2 i h8 (Classical.byContradiction z) y x))
    exact br_c (fun _ => f) (fun _ => br_t rfl f)
theorem ad_kg3Y {post : SY → Prop} {τ l : Nat} (hσ : σ < 12) (hτ : τ < 12) (hn : σ ≠ τ) {fa0 : Nat → Int32} (hQ : ad_Tab fa0 σ Q) (h : ∀ fa, ad_Up fa0 fa τ 256 (ad_gr Q fun t => ad_sub t l) → post (nI T, kn, wt, ac, fa, wb)) : ∀ d i n fa, i + d = 256 → d < n → ad_Up fa0 fa τ i (ad_gr Q fun t => ad_sub t l) → wY_keepGreatest_3 post (nI σ) (nI τ) (nI l) (nI T) kn wt n (nI i) ac fa wb := by
  intro d
  induction d with
  | zero =>
    intro i n fa hi hn hu
    obtain ⟨n, rfl⟩ := ad_s hn
    obtain rfl : i = 256 := by omega
    exact br_t (by decide) (h fa hu)
  | succ d ih =>
    intro i n fa hi hn' hu
    obtain ⟨n, rfl⟩ := ad_s hn'
    have h8 : i < 256 := by omega
    have hQ' := ad_TabF hQ hu.1 hn
    have k : ∀ v, ad_Tb v (ad_gr Q (fun t => ad_sub t l) i) → wY_keepGreatest_3 post (nI σ) (nI τ) (nI l) (nI T) kn wt n (nI (i + 1)) ac (upd fa (256 * τ + i) v) wb := fun v hv => ih (i + 1) n _ (by omega) (by omega) (ad_UpS hu h8 hv)
    have f : ¬ (Q i ∧ ad_sub i l) → ∃ n46, wY_keepGreatest_46 post (wY_keepGreatest_3 post (nI σ) (nI τ) (nI l) (nI T) kn wt n) (nI σ) (nI τ) (nI l) (nI i) (nI T) kn wt ac fa wb n46 0 0 := by
      intro z
      have hv : ad_Tb 0 (ad_gr Q (fun t => ad_sub t l) i) := ad_Tb0 fun g => z ⟨g.1, g.2.1⟩
      refine ⟨1, br_f (by decide) (br_t rfl ?_)⟩
      unfold wY_keepGreatest_110
      rw [ad_ixY, ad_c (by omega), ad_nT hv]
      exact ⟨pk_in (256 * τ + i) 3072 (by omega), nm_e (nm_r (nI_1 i) (k 0 hv))⟩
    refine br_f (nI_ge h8 (by decide)) ?_
    rw [ad_ixY, ad_c (by omega), ad_TbN (hQ' i h8), ad_subI h8]
    refine ⟨pk_in (256 * σ + i) 3072 (by omega), br_c (fun z => f fun y => z y.1) (fun z => br_c (fun y => ⟨258, ?_⟩) (fun y => f fun w => y w.2))⟩
    exact ad_kg46Y hσ hτ hQ' h8 (Classical.byContradiction z) y k 256 0 257 rfl (by decide) fun t ht => absurd ht (by omega)
theorem ad_kgY {post : SY → Prop} {τ l : Nat} (hσ : σ < 12) (hτ : τ < 12) (hn : σ ≠ τ) (hQ : ad_Tab fa σ Q) (h : ∀ fa', ad_Fr fa fa' τ → ad_Tab fa' τ (ad_gr Q fun t => ad_sub t l) → post (nI T, kn, wt, ac, fa', wb)) : wpY_keepGreatest post (nI T, kn, wt, ac, fa, wb) (nI σ) (nI τ) (nI l) := by
  unfold wpY_keepGreatest
  exact ⟨257, ad_kg3Y hσ hτ hn hQ (fun fa' hu => h fa' hu.1 hu.2) 256 0 257 fa rfl (by decide) ad_Up0⟩
end
