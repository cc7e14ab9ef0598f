/-! the component's fillings -/
section
variable {fr : Int32} {aO tg so de he wa : Nat → Int32} {T : Nat} {A : Nat → Nat} {Q : Nat → Prop} {σ : Nat}
theorem ad_com7X {post : Int32 → Prop} (hσ : σ < 12) (hQ : ad_Tab he σ Q) (h : ∀ c, c < 256 → ad_com T Q c → post (nI c)) : ∀ d i n c, i + d = 256 → d < n → c < 256 → (∀ j, c.testBit j = true ↔ (T.testBit j = true ∧ ∀ s, s < i → Q s → s.testBit j = true)) → wX_common_7 post (nI σ) (nI T) fr aO tg so de he wa n (nI c) (nI i) := by
  intro d
  induction d with
  | zero =>
    intro i n c hi hn hc hj
    obtain ⟨n, rfl⟩ := ad_s hn
    obtain rfl : i = 256 := by omega
    exact br_t (by decide) (h c hc hj)
  | succ d ih =>
    intro i n c hi hn hc hj
    obtain ⟨n, rfl⟩ := ad_s hn
    have h8 : i < 256 := by omega
    refine br_f (nI_ge h8 (by decide)) ?_
    rw [ad_ixX, ad_c (by omega), ad_TbN (hQ i h8)]
    refine ⟨pk_in (256 * σ + i) 3072 (by omega), br_c (fun z => nm_r (nI_1 i) (ih (i + 1) n c (by omega) (by omega) hc fun j => ?_)) (fun z => nm_r (nx_and c i) (nm_r (nI_1 i) (ih (i + 1) n (c &&& i) (by omega) (by omega) (ad_andlt hc) fun j => ?_)))⟩
    · rw [hj j]
      refine and_congr_right fun _ => ⟨fun y s hs q => ?_, fun y s hs q => y s (by omega) q⟩
      by_cases e : s = i
      · rw [e] at q; exact absurd q z
      · exact y s (by omega) q
    · rw [Nat.testBit_and, Bool.and_eq_true, hj j]
      constructor
      · rintro ⟨⟨a, b⟩, c⟩
        refine ⟨a, fun s hs q => ?_⟩
        by_cases e : s = i
        · rw [e]; exact c
        · exact b s (by omega) q
      · rintro ⟨a, b⟩
        exact ⟨⟨a, fun s hs q => b s (by omega) q⟩, b i (by omega) (Classical.byContradiction z)⟩
theorem ad_comX {post : Int32 → Prop} (hT : T < 256) (hσ : σ < 12) (hQ : ad_Tab he σ Q) (h : ∀ c, c < 256 → ad_com T Q c → post (nI c)) : wpX_common post (nI T, fr, aO, tg, so, de, he, wa) (nI σ) := by
  unfold wpX_common
  exact ⟨257, ad_com7X hσ hQ h 256 0 257 T rfl (by decide) hT fun j => ⟨fun z => ⟨z, fun s hs => absurd hs (by omega)⟩, fun z => z.1⟩⟩
theorem ad_wiX {post : Int32 → Prop} {th : Int32} (hσ : σ < 12) (hQ : ad_Tab he σ Q) {s l : Nat} (hs : s < 256) (h1 : Q s → ad_sub s l → post 1) (h0 : ¬ (Q s ∧ ad_sub s l) → post 0) : wpX_isWithin post (th, fr, aO, tg, so, de, he, wa) (nI σ) (nI s) (nI l) := by
  unfold wpX_isWithin
  dsimp only
  rw [ad_ixX, ad_c (by omega), ad_TbN (hQ s hs), ad_subI hs]
  exact ⟨pk_in (256 * σ + s) 3072 (by omega), br_c (fun z => h0 fun y => z y.1) (fun z => br_c (fun y => h1 (Classical.byContradiction z) y) (fun y => h0 fun q => y q.2))⟩
theorem ad_gr17X {post : Int32 → Prop} {th : Int32} (hσ : σ < 12) (hQ : ad_Tab he σ Q) {s l : Nat} (hs : s < 256) (hq : Q s) (hl : ad_sub s l) (h1 : ad_gr Q (fun t => ad_sub t l) s → post 1) (h0 : ¬ ad_gr Q (fun t => ad_sub t l) s → post 0) : ∀ d i n, i + d = 256 → d < n → s < i → (∀ t, t < i → Q t → ad_sub t l → ad_sub s t → t = s) → wX_isGreatest_17 post (nI σ) (nI s) (nI l) th fr aO tg so de he wa n (nI i) := by
  intro d
  induction d with
  | zero =>
    intro i n hi hn _ hj
    obtain ⟨n, rfl⟩ := ad_s hn
    obtain rfl : i = 256 := by omega
    exact br_t (by decide) (h1 ⟨hq, hl, hj⟩)
  | succ d ih =>
    intro i n hi hn hsi hj
    obtain ⟨n, rfl⟩ := ad_s hn
    have h8 : i < 256 := by omega
    have k : (Q i → ad_sub i l → ad_sub s i → False) → wX_isGreatest_17 post (nI σ) (nI s) (nI l) th fr aO tg so de he wa n (nI (i + 1)) := fun z => ih (i + 1) n (by omega) (by omega) (by omega) fun t ht q y w => by
      by_cases e : t = i
      · rw [e] at q y w; exact (z q y w).elim
      · exact hj t (by omega) q y w
    refine br_f (nI_ge h8 (by decide)) ?_
    rw [ad_subI hs]
    refine br_c (fun z => ad_wiX hσ hQ h8 (fun a b => br_f (by decide) (h0 fun g => ?_)) (fun a => br_t rfl (nm_r (nI_1 i) (k fun q y _ => a ⟨q, y⟩)))) (fun z => nm_r (nI_1 i) (k fun _ _ w => z w))
    have := g.2.2 i h8 a b z
    omega
theorem ad_grX {post : Int32 → Prop} {th : Int32} (hσ : σ < 12) (hQ : ad_Tab he σ Q) {s l : Nat} (hs : s < 256) (h1 : ad_gr Q (fun t => ad_sub t l) s → post 1) (h0 : ¬ ad_gr Q (fun t => ad_sub t l) s → post 0) : wpX_isGreatest post (th, fr, aO, tg, so, de, he, wa) (nI σ) (nI s) (nI l) := by
  unfold wpX_isGreatest
  dsimp only
  refine ad_wiX hσ hQ hs (fun a b => br_f (by decide) (nm_r (nI_1 s) ⟨257, ?_⟩)) (fun a => br_t rfl (h0 fun g => a ⟨g.1, g.2.1⟩))
  refine ad_gr17X hσ hQ hs a b h1 h0 (255 - s) (s + 1) 257 (by omega) (by omega) (by omega) fun t ht _ _ w => ?_
  have := ad_subLe w
  omega
/-- a filling goes over a block -/
def ad_Up (a b : Nat → Int32) (τ i : Nat) (P : Nat → Prop) : Prop := ad_Fr a b τ ∧ ∀ s, s < i → ad_Tb (b (256 * τ + s)) (P s)
theorem ad_Up0 {a : Nat → Int32} {τ : Nat} {P : Nat → Prop} : ad_Up a a τ 0 P := ⟨fun _ _ => rfl, fun _ h => absurd h (by omega)⟩
theorem ad_UpS {a b : Nat → Int32} {τ i : Nat} {P : Nat → Prop} (h : ad_Up a b τ i P) (hi : i < 256) {v : Int32} (hv : ad_Tb v (P i)) : ad_Up a (upd b (256 * τ + i) v) τ (i + 1) P := by
  refine ⟨fun j hj => ?_, fun s hs => ?_⟩
  · rw [pk_un (by omega)]; exact h.1 j hj
  · by_cases e : s = i
    · rw [e, pk_us]; exact hv
    · rw [pk_un (by omega)]; exact h.2 s (by omega)
theorem ad_fg3X {post : SX → Prop} {th : Int32} {τ l : Nat} (hσ : σ < 12) (hτ : τ < 12) (hn : σ ≠ τ) {he0 : Nat → Int32} (hQ : ad_Tab he0 σ Q) (h : ∀ he, ad_Up he0 he τ 256 (ad_gr Q fun t => ad_sub t l) → post (th, fr, aO, tg, so, de, he, wa)) : ∀ d i n he, i + d = 256 → d < n → ad_Up he0 he τ i (ad_gr Q fun t => ad_sub t l) → wX_fillGreatest_3 post (nI σ) (nI τ) (nI l) th fr n (nI i) aO tg so de he wa := by
  intro d
  induction d with
  | zero =>
    intro i n he hi hn hu
    obtain ⟨n, rfl⟩ := ad_s hn
    obtain rfl : i = 256 := by omega
    exact br_t (by decide) (h he hu)
  | succ d ih =>
    intro i n he hi hn' hu
    obtain ⟨n, rfl⟩ := ad_s hn'
    have h8 : i < 256 := by omega
    have k : ∀ v, ad_Tb v (ad_gr Q (fun t => ad_sub t l) i) → wX_fillGreatest_3 post (nI σ) (nI τ) (nI l) th fr n (nI (i + 1)) aO tg so de (upd he (256 * τ + i) v) wa := fun v hv => ih (i + 1) n _ (by omega) (by omega) (ad_UpS hu h8 hv)
    refine br_f (nI_ge h8 (by decide)) ?_
    rw [ad_ixX, ad_c (by omega)]
    exact ad_grX hσ (ad_TabF hQ hu.1 hn) h8 (fun g => ⟨pk_in (256 * τ + i) 3072 (by omega), nm_e (nm_r (nI_1 i) (k 1 (ad_Tb1 g)))⟩) (fun g => ⟨pk_in (256 * τ + i) 3072 (by omega), nm_e (nm_r (nI_1 i) (k 0 (ad_Tb0 g)))⟩)
theorem ad_fgX {post : SX → Prop} {th : Int32} {τ l : Nat} (hσ : σ < 12) (hτ : τ < 12) (hn : σ ≠ τ) (hQ : ad_Tab he σ Q) (h : ∀ he', ad_Fr he he' τ → ad_Tab he' τ (ad_gr Q fun t => ad_sub t l) → post (th, fr, aO, tg, so, de, he', wa)) : wpX_fillGreatest post (th, fr, aO, tg, so, de, he, wa) (nI σ) (nI τ) (nI l) := by
  unfold wpX_fillGreatest
  exact ⟨257, ad_fg3X hσ hτ hn hQ (fun he' hu => h he' hu.1 hu.2) 256 0 257 he rfl (by decide) ad_Up0⟩
theorem ad_fd8X {post : SX → Prop} {th : Int32} {c : Nat} {he0 : Nat → Int32} (hQ : ad_Tab he0 2 Q) (h : ∀ he, ad_Up he0 he 3 256 (fun s => Q s ∧ ad_sub s c) → post (th, fr, aO, tg, so, de, he, wa)) : ∀ d i n he, i + d = 256 → d < n → ad_Up he0 he 3 i (fun s => Q s ∧ ad_sub s c) → wX_fillGrounded_8 post (nI c) th fr n (nI i) aO tg so de he wa := by
  intro d
  induction d with
  | zero =>
    intro i n he hi hn hu
    obtain ⟨n, rfl⟩ := ad_s hn
    obtain rfl : i = 256 := by omega
    exact br_t (by decide) (h he hu)
  | succ d ih =>
    intro i n he hi hn' hu
    obtain ⟨n, rfl⟩ := ad_s hn'
    have h8 : i < 256 := by omega
    have k : ∀ v, ad_Tb v (Q i ∧ ad_sub i c) → wX_fillGrounded_8 post (nI c) th fr n (nI (i + 1)) aO tg so de (upd he (768 + i) v) wa := fun v hv => ih (i + 1) n _ (by omega) (by omega) (ad_UpS hu h8 hv)
    refine br_f (nI_ge h8 (by decide)) ?_
    have e : (768 : Int32) + nI i = nI (768 + i) := nI_add 768 i
    rw [e, ad_c (by omega)]
    exact ad_wiX (σ := 2) (by decide) (ad_TabF hQ hu.1 (by decide)) h8 (fun g g' => ⟨pk_in (768 + i) 3072 (by omega), nm_e (nm_r (nI_1 i) (k 1 (ad_Tb1 ⟨g, g'⟩)))⟩) (fun g => ⟨pk_in (768 + i) 3072 (by omega), nm_e (nm_r (nI_1 i) (k 0 (ad_Tb0 g)))⟩)
theorem ad_fdX {post : SX → Prop} (hT : T < 256) (hQ : ad_Tab he 2 Q) (h : ∀ he', ad_Fr he he' 3 → ad_Tab he' 3 (fun s => Q s ∧ ad_wi T Q s) → post (nI T, fr, aO, tg, so, de, he', wa)) : wpX_fillGrounded post (nI T, fr, aO, tg, so, de, he, wa) := by
  unfold wpX_fillGrounded
  refine ad_comX (σ := 2) hT (by decide) hQ fun c hc hcom => ⟨257, ad_fd8X hQ (fun he' hu => h he' hu.1 fun s hs => ad_TbI (hu.2 s hs) ?_) 256 0 257 he rfl (by decide) ad_Up0⟩
  exact and_congr_right fun _ => ad_com_wi hcom s
def ad_TX (T : Nat) (A : Nat → Nat) (tg so de : Nat → Int32) : Prop := ∀ s, s < 256 → tg s = nI (ad_H A s) ∧ so s = nI (ad_H (ad_B A) s) ∧ de s = nI (ad_D T A s)
theorem ad_wd12X {post : Int32 → Prop} {th : Int32} (hA : ∀ a, A a < 256) (hX : ad_TX T A tg so de) (hσ : σ < 12) (hQ : ad_Tab he σ Q) {s : Nat} (hs : s < 256) (hq : Q s) (h1 : ad_wide A Q s → post 1) (h0 : ¬ ad_wide A Q s → post 0) : ∀ d i n, i + d = 256 → d < n → (∀ t, t < i → Q t → ad_sub (s ||| ad_H A s) (t ||| ad_H A t) → t ||| ad_H A t = s ||| ad_H A s) → wX_isWidest_12 post (nI σ) (nI (s ||| ad_H A s)) th fr aO tg so de he wa n (nI i) := by
  intro d
  induction d with
  | zero =>
    intro i n hi hn hj
    obtain ⟨n, rfl⟩ := ad_s hn
    obtain rfl : i = 256 := by omega
    exact br_t (by decide) (h1 ⟨hq, hj⟩)
  | succ d ih =>
    intro i n hi hn hj
    obtain ⟨n, rfl⟩ := ad_s hn
    have h8 : i < 256 := by omega
    have hm := ad_orlt hs (ad_H_lt hA s)
    have hmi := ad_orlt h8 (ad_H_lt hA i)
    have k : (Q i → ad_sub (s ||| ad_H A s) (i ||| ad_H A i) → i ||| ad_H A i = s ||| ad_H A s) → wX_isWidest_12 post (nI σ) (nI (s ||| ad_H A s)) th fr aO tg so de he wa n (nI (i + 1)) := fun z => ih (i + 1) n (by omega) (by omega) fun t ht q y => by
      by_cases e : t = i
      · rw [e] at q y ⊢; exact z q y
      · exact hj t (by omega) q y
    refine br_f (nI_ge h8 (by decide)) ⟨pk_in i 256 h8, nm_r (by rw [ad_c (by omega), (hX i h8).1, ad_or]) ?_⟩
    rw [ad_ixX, ad_c (by omega), ad_TbN (hQ i h8), nI_eq (by omega) (by omega), ad_subI hm]
    refine ⟨pk_in (256 * σ + i) 3072 (by omega), br_c (fun z => nm_r (nI_1 i) (k fun q => absurd q z)) (fun z => br_c (fun y => nm_r (nI_1 i) (k fun _ _ => y)) (fun y => br_c (fun w => h0 fun g => y (g.2 i h8 (Classical.byContradiction z) w)) (fun w => nm_r (nI_1 i) (k fun _ w' => absurd w' w))))⟩
theorem ad_wdX {post : Int32 → Prop} {th : Int32} (hA : ∀ a, A a < 256) (hX : ad_TX T A tg so de) (hσ : σ < 12) (hQ : ad_Tab he σ Q) {s : Nat} (hs : s < 256) (hq : Q s) (h1 : ad_wide A Q s → post 1) (h0 : ¬ ad_wide A Q s → post 0) : wpX_isWidest post (th, fr, aO, tg, so, de, he, wa) (nI σ) (nI s) := by
  unfold wpX_isWidest
  dsimp only
  exact ⟨pk_in s 256 hs, nm_r (by rw [ad_c (by omega), (hX s hs).1, ad_or]) ⟨257, ad_wd12X hA hX hσ hQ hs hq h1 h0 256 0 257 rfl (by decide) fun t ht => absurd ht (by omega)⟩⟩
theorem ad_fw2X {post : SX → Prop} {th : Int32} {τ : Nat} (hA : ∀ a, A a < 256) (hX : ad_TX T A tg so de) (hσ : σ < 12) (hτ : τ < 12) (hn : σ ≠ τ) {he0 : Nat → Int32} (hQ : ad_Tab he0 σ Q) (h : ∀ he, ad_Up he0 he τ 256 (ad_wide A Q) → post (th, fr, aO, tg, so, de, he, wa)) : ∀ d i n he, i + d = 256 → d < n → ad_Up he0 he τ i (ad_wide A Q) → wX_fillWidest_2 post (nI σ) (nI τ) th fr n (nI i) aO tg so de he wa := by
  intro d
  induction d with
  | zero =>
    intro i n he hi hn hu
    obtain ⟨n, rfl⟩ := ad_s hn
    obtain rfl : i = 256 := by omega
    exact br_t (by decide) (h he hu)
  | succ d ih =>
    intro i n he hi hn' hu
    obtain ⟨n, rfl⟩ := ad_s hn'
    have h8 : i < 256 := by omega
    have k : ∀ v, ad_Tb v (ad_wide A Q i) → wX_fillWidest_2 post (nI σ) (nI τ) th fr n (nI (i + 1)) aO tg so de (upd he (256 * τ + i) v) wa := fun v hv => ih (i + 1) n _ (by omega) (by omega) (ad_UpS hu h8 hv)
    have hQ' := ad_TabF hQ hu.1 hn
    refine br_f (nI_ge h8 (by decide)) ?_
    rw [ad_ixX, ad_ixX, ad_c (by omega), ad_c (by omega), ad_TbN (hQ' i h8)]
    refine ⟨pk_in (256 * σ + i) 3072 (by omega), br_c (fun z => ⟨pk_in (256 * τ + i) 3072 (by omega), nm_e (nm_r (nI_1 i) (k 0 (ad_Tb0 fun g => z g.1)))⟩) (fun z => ad_wdX hA hX hσ hQ' h8 (Classical.byContradiction z) (fun g => br_f (by decide) ⟨pk_in (256 * τ + i) 3072 (by omega), nm_e (nm_r (nI_1 i) (k 1 (ad_Tb1 g)))⟩) (fun g => br_t rfl ⟨pk_in (256 * τ + i) 3072 (by omega), nm_e (nm_r (nI_1 i) (k 0 (ad_Tb0 g)))⟩))⟩
theorem ad_fwX {post : SX → Prop} {th : Int32} {τ : Nat} (hA : ∀ a, A a < 256) (hX : ad_TX T A tg so de) (hσ : σ < 12) (hτ : τ < 12) (hn : σ ≠ τ) (hQ : ad_Tab he σ Q) (h : ∀ he', ad_Fr he he' τ → ad_Tab he' τ (ad_wide A Q) → post (th, fr, aO, tg, so, de, he', wa)) : wpX_fillWidest post (th, fr, aO, tg, so, de, he, wa) (nI σ) (nI τ) := by
  unfold wpX_fillWidest
  exact ⟨257, ad_fw2X hA hX hσ hτ hn hQ (fun he' hu => h he' hu.1 hu.2) 256 0 257 he rfl (by decide) ad_Up0⟩
end
