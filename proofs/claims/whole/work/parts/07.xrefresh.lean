/-! the component's refresh -/
def ad_Pf (T : Nat) (A : Nat → Nat) (σ : Nat) : Nat → Prop :=
  if σ = 0 then ad_free T A else if σ = 1 then ad_adm T A else if σ = 2 then ad_comp T A else if σ = 3 then ad_P3 T A else if σ = 4 then ad_P4 T A else if σ = 5 then ad_stab T A else if σ = 6 then ad_P6 T A else if σ = 7 then ad_P7 T A else if σ = 8 then ad_P8 T A else if σ = 9 then ad_P9 T A else if σ = 10 then ad_P10 T A else ad_P11 T A
def ad_All (T : Nat) (A : Nat → Nat) (a : Nat → Int32) : Prop := ∀ σ, σ < 12 → ad_Tab a σ (ad_Pf T A σ)
theorem ad_All_i {T : Nat} {A : Nat → Nat} {a : Nat → Int32} (h0 : ad_Tab a 0 (ad_free T A)) (h1 : ad_Tab a 1 (ad_adm T A)) (h2 : ad_Tab a 2 (ad_comp T A)) (h3 : ad_Tab a 3 (ad_P3 T A)) (h4 : ad_Tab a 4 (ad_P4 T A)) (h5 : ad_Tab a 5 (ad_stab T A)) (h6 : ad_Tab a 6 (ad_P6 T A)) (h7 : ad_Tab a 7 (ad_P7 T A)) (h8 : ad_Tab a 8 (ad_P8 T A)) (h9 : ad_Tab a 9 (ad_P9 T A)) (h10 : ad_Tab a 10 (ad_P10 T A)) (h11 : ad_Tab a 11 (ad_P11 T A)) : ad_All T A a := by
  intro σ hσ
  have e : σ = 0 ∨ σ = 1 ∨ σ = 2 ∨ σ = 3 ∨ σ = 4 ∨ σ = 5 ∨ σ = 6 ∨ σ = 7 ∨ σ = 8 ∨ σ = 9 ∨ σ = 10 ∨ σ = 11 := by omega
  rcases e with rfl | rfl | rfl | rfl | rfl | rfl | rfl | rfl | rfl | rfl | rfl | rfl
  · exact h0
  · exact h1
  · exact h2
  · exact h3
  · exact h4
  · exact h5
  · exact h6
  · exact h7
  · exact h8
  · exact h9
  · exact h10
  · exact h11
theorem ad_TabI {a : Nat → Int32} {σ : Nat} {P P' : Nat → Prop} (h : ad_Tab a σ P) (e : ∀ s, s < 256 → (P s ↔ P' s)) : ad_Tab a σ P' := fun s hs => ad_TbI (h s hs) (e s hs)
theorem ad_e4 {T : Nat} {A : Nat → Nat} {l : Nat} (hl : ad_sub T l) : ∀ s, s < 256 → (ad_gr (ad_adm T A) (fun t => ad_sub t l) s ↔ ad_P4 T A s) :=
  fun _ hs => ad_gr_L (fun _ _ q => iff_of_true (ad_subT q.1.1 hl) trivial) hs
theorem ad_e8 {T : Nat} {A : Nat → Nat} {l : Nat} (hl : ad_sub T l) : ∀ s, s < 256 → (ad_gr (ad_free T A) (fun t => ad_sub t l) s ↔ ad_P8 T A s) :=
  fun _ hs => ad_gr_L (fun _ _ q => iff_of_true (ad_subT q.1 hl) trivial) hs
theorem ad_e9 {T : Nat} {A : Nat → Nat} {c : Nat} (hc : ad_com T (ad_P4 T A) c) : ∀ s, s < 256 → (ad_gr (ad_adm T A) (fun t => ad_sub t c) s ↔ ad_P9 T A s) :=
  fun _ hs => ad_gr_L (fun s _ _ => ad_com_wi hc s) hs
theorem ad_e10 {T : Nat} {A : Nat → Nat} {c : Nat} (hc : ad_com T (ad_P6 T A) c) : ∀ s, s < 256 → (ad_gr (ad_adm T A) (fun t => ad_sub t c) s ↔ ad_P10 T A s) :=
  fun _ hs => ad_gr_L (fun s _ _ => ad_com_wi hc s) hs
/-- the first loop has come to i -/
def ad_I10 (T : Nat) (A : Nat → Nat) (i : Nat) (tg so de he : Nat → Int32) : Prop := (∀ s, s < i → tg s = nI (ad_H A s) ∧ so s = nI (ad_H (ad_B A) s) ∧ de s = nI (ad_D T A s)) ∧ ∀ s, s < i → ad_Tb (he s) (ad_free T A s) ∧ ad_Tb (he (256 + s)) (ad_adm T A s) ∧ ad_Tb (he (512 + s)) (ad_comp T A s) ∧ ad_Tb (he (1280 + s)) (ad_stab T A s)
theorem ad_I10s {T : Nat} {A : Nat → Nat} {i : Nat} {tg so de he : Nat → Int32} (h : ad_I10 T A i tg so de he) (hi : i < 256) {v0 v1 v2 v5 : Int32} (h0 : ad_Tb v0 (ad_free T A i)) (h1 : ad_Tb v1 (ad_adm T A i)) (h2 : ad_Tb v2 (ad_comp T A i)) (h5 : ad_Tb v5 (ad_stab T A i)) : ad_I10 T A (i + 1) (upd tg i (nI (ad_H A i))) (upd so i (nI (ad_H (ad_B A) i))) (upd de i (nI (ad_D T A i))) (upd (upd (upd (upd he i v0) (256 + i) v1) (512 + i) v2) (1280 + i) v5) := by
  refine ⟨fun s hs => ?_, fun s hs => ?_⟩
  · by_cases e : s = i
    · rw [e, pk_us, pk_us, pk_us]; exact ⟨rfl, rfl, rfl⟩
    · rw [pk_un e, pk_un e, pk_un e]; exact h.1 s (by omega)
  · by_cases e : s = i
    · rw [e]
      refine ⟨?_, ?_, ?_, ?_⟩
      · rw [pk_un (by omega), pk_un (by omega), pk_un (by omega), pk_us]; exact h0
      · rw [pk_un (by omega), pk_un (by omega), pk_us]; exact h1
      · rw [pk_un (by omega), pk_us]; exact h2
      · rw [pk_us]; exact h5
    · obtain ⟨k0, k1, k2, k5⟩ := h.2 s (by omega)
      refine ⟨?_, ?_, ?_, ?_⟩
      · rw [pk_un (by omega), pk_un (by omega), pk_un (by omega), pk_un (by omega)]; exact k0
      · rw [pk_un (by omega), pk_un (by omega), pk_un (by omega), pk_un (by omega)]; exact k1
      · rw [pk_un (by omega), pk_un (by omega), pk_un (by omega), pk_un (by omega)]; exact k2
      · rw [pk_un (by omega), pk_un (by omega), pk_un (by omega), pk_un (by omega)]; exact k5
theorem ad_I10t {T : Nat} {A : Nat → Nat} {tg so de he : Nat → Int32} (h : ad_I10 T A 256 tg so de he) : ad_Tab he 0 (ad_free T A) ∧ ad_Tab he 1 (ad_adm T A) ∧ ad_Tab he 2 (ad_comp T A) ∧ ad_Tab he 5 (ad_stab T A) := by
  refine ⟨fun s hs => ?_, fun s hs => ?_, fun s hs => ?_, fun s hs => ?_⟩
  · have := (h.2 s hs).1
    rw [show 256 * 0 + s = s from by omega]; exact this
  · exact (h.2 s hs).2.1
  · exact (h.2 s hs).2.2.1
  · exact (h.2 s hs).2.2.2
section
variable {fr th : Int32} {aO tg so de he wa : Nat → Int32} {T : Nat} {A : Nat → Nat} {Q : Nat → Prop} {σ : Nat}
theorem ad_rf10X {post : SX → Prop} (hT : T < 256) (hA : ∀ a, A a < 256) (hO : ad_GO A aO) (h : ∀ tg so de he wa, ad_TX T A tg so de → ad_All T A he → post (nI T, 1, aO, tg, so, de, he, wa)) : ∀ d i n tg so de he wa, i + d = 256 → d < n → ad_I10 T A i tg so de he → wX_refresh_10 post n (nI i) (nI T) fr aO tg so de he wa := by
  intro d
  induction d with
  | zero =>
    intro i n tg so de he wa hi hn hI
    obtain ⟨n, rfl⟩ := ad_s hn
    obtain rfl : i = 256 := by omega
    obtain ⟨k0, k1, k2, k5⟩ := ad_I10t hI
    have hX : ad_TX T A tg so de := hI.1
    refine br_t (by decide) ?_
    refine ad_fdX hT k2 fun ha fa k3 => ?_
    replace k0 := ad_TabF k0 fa (by decide)
    replace k1 := ad_TabF k1 fa (by decide)
    replace k2 := ad_TabF k2 fa (by decide)
    replace k5 := ad_TabF k5 fa (by decide)
    dsimp only
    refine ad_fgX (σ := 1) (τ := 4) (l := T) (by decide) (by decide) (by decide) k1 fun hb fb k4 => ?_
    replace k0 := ad_TabF k0 fb (by decide)
    replace k1 := ad_TabF k1 fb (by decide)
    replace k2 := ad_TabF k2 fb (by decide)
    replace k3 := ad_TabF k3 fb (by decide)
    replace k5 := ad_TabF k5 fb (by decide)
    replace k4 := ad_TabI k4 (ad_e4 (ad_subR T))
    dsimp only
    refine ad_fwX (σ := 2) (τ := 6) hA hX (by decide) (by decide) (by decide) k2 fun hc fc k6 => ?_
    replace k0 := ad_TabF k0 fc (by decide)
    replace k1 := ad_TabF k1 fc (by decide)
    replace k2 := ad_TabF k2 fc (by decide)
    replace k3 := ad_TabF k3 fc (by decide)
    replace k4 := ad_TabF k4 fc (by decide)
    replace k5 := ad_TabF k5 fc (by decide)
    dsimp only
    refine ad_fwX (σ := 0) (τ := 7) hA hX (by decide) (by decide) (by decide) k0 fun hd fd k7 => ?_
    replace k0 := ad_TabF k0 fd (by decide)
    replace k1 := ad_TabF k1 fd (by decide)
    replace k2 := ad_TabF k2 fd (by decide)
    replace k3 := ad_TabF k3 fd (by decide)
    replace k4 := ad_TabF k4 fd (by decide)
    replace k5 := ad_TabF k5 fd (by decide)
    replace k6 := ad_TabF k6 fd (by decide)
    dsimp only
    refine ad_fgX (σ := 0) (τ := 8) (l := T) (by decide) (by decide) (by decide) k0 fun hf ff k8 => ?_
    replace k0 := ad_TabF k0 ff (by decide)
    replace k1 := ad_TabF k1 ff (by decide)
    replace k2 := ad_TabF k2 ff (by decide)
    replace k3 := ad_TabF k3 ff (by decide)
    replace k4 := ad_TabF k4 ff (by decide)
    replace k5 := ad_TabF k5 ff (by decide)
    replace k6 := ad_TabF k6 ff (by decide)
    replace k7 := ad_TabF k7 ff (by decide)
    replace k8 := ad_TabI k8 (ad_e8 (ad_subR T))
    dsimp only
    refine ad_comX (σ := 4) hT (by decide) k4 fun c hc8 hcom => ?_
    refine ad_fgX (σ := 1) (τ := 9) (l := c) (by decide) (by decide) (by decide) k1 fun hg fg k9 => ?_
    replace k0 := ad_TabF k0 fg (by decide)
    replace k1 := ad_TabF k1 fg (by decide)
    replace k2 := ad_TabF k2 fg (by decide)
    replace k3 := ad_TabF k3 fg (by decide)
    replace k4 := ad_TabF k4 fg (by decide)
    replace k5 := ad_TabF k5 fg (by decide)
    replace k6 := ad_TabF k6 fg (by decide)
    replace k7 := ad_TabF k7 fg (by decide)
    replace k8 := ad_TabF k8 fg (by decide)
    replace k9 := ad_TabI k9 (ad_e9 hcom)
    dsimp only
    refine ad_comX (σ := 6) hT (by decide) k6 fun c' hc8' hcom' => ?_
    refine ad_fgX (σ := 1) (τ := 10) (l := c') (by decide) (by decide) (by decide) k1 fun hh fh k10 => ?_
    replace k0 := ad_TabF k0 fh (by decide)
    replace k1 := ad_TabF k1 fh (by decide)
    replace k2 := ad_TabF k2 fh (by decide)
    replace k3 := ad_TabF k3 fh (by decide)
    replace k4 := ad_TabF k4 fh (by decide)
    replace k5 := ad_TabF k5 fh (by decide)
    replace k6 := ad_TabF k6 fh (by decide)
    replace k7 := ad_TabF k7 fh (by decide)
    replace k8 := ad_TabF k8 fh (by decide)
    replace k9 := ad_TabF k9 fh (by decide)
    replace k10 := ad_TabI k10 (ad_e10 hcom')
    dsimp only
    refine ad_fpX hT hA hX k0 fun hi' wa' fi k11 => ?_
    exact h tg so de hi' wa' hX (ad_All_i (ad_TabF k0 fi (by decide)) (ad_TabF k1 fi (by decide)) (ad_TabF k2 fi (by decide)) (ad_TabF k3 fi (by decide)) (ad_TabF k4 fi (by decide)) (ad_TabF k5 fi (by decide)) (ad_TabF k6 fi (by decide)) (ad_TabF k7 fi (by decide)) (ad_TabF k8 fi (by decide)) (ad_TabF k9 fi (by decide)) (ad_TabF k10 fi (by decide)) k11)
  | succ d ih =>
    intro i n tg so de he wa hi hn hI
    obtain ⟨n, rfl⟩ := ad_s hn
    have h8 : i < 256 := by omega
    refine br_f (nI_ge h8 (by decide)) (ad_ft hT hA hO h8 ?_)
    dsimp only
    refine ad_psX hT hA h8 pk_us pk_us fun v0 v1 v2 v5 h0 h1 h2 h5 => ?_
    exact nm_r (nI_1 i) (ih (i + 1) n _ _ _ _ wa (by omega) (by omega) (ad_I10s hI h8 h0 h1 h2 h5))
/-- the component's tables, where they are fresh -/
def ad_FX (T : Nat) (A : Nat → Nat) (fr : Int32) (tg so de he : Nat → Int32) : Prop := fr = 0 ∨ (fr = 1 ∧ ad_TX T A tg so de ∧ ad_All T A he)
theorem ad_rfX {post : SX → Prop} (hT : T < 256) (hA : ∀ a, A a < 256) (hO : ad_GO A aO) (hF : ad_FX T A fr tg so de he) (h : ∀ tg so de he wa, ad_TX T A tg so de → ad_All T A he → post (nI T, 1, aO, tg, so, de, he, wa)) : wpX_refresh post (nI T, fr, aO, tg, so, de, he, wa) := by
  unfold wpX_refresh
  dsimp only
  rcases hF with rfl | ⟨rfl, hX, hAll⟩
  · exact br_t rfl ⟨257, ad_rf10X hT hA hO h 256 0 257 tg so de he wa rfl (by decide) ⟨fun s hs => absurd hs (by omega), fun s hs => absurd hs (by omega)⟩⟩
  · exact br_f (by decide) (h tg so de he wa hX hAll)
end
