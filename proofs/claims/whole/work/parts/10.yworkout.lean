/-! the reference's workOut -/
section
variable {kn wt : Int32} {ac fa wb : Nat → Int32} {T : Nat} {A : Nat → Nat} {Q : Nat → Prop} {i : Nat} {post : SY → Prop} {J15 : Int32 → Int32 → Int32 → Int32 → (Nat → Int32) → (Nat → Int32) → (Nat → Int32) → Prop}
theorem ad_w160 (hT : T < 256) (hA : ∀ a, A a < 256) (hG : ad_GA A ac) (hi : i < 256) {x4 z0 : Int32} (hx : ad_Tb x4 (ad_free T A i)) (hz : vp_nar .boolean z0 = z0) (k : ∀ v wt wb, ad_Tb v (ad_P11 T A i) → J15 (nI (i + 1)) (nI T) kn wt ac (upd (upd fa (1280 + i) z0) (2816 + i) v) wb) : wY_workOut_160 post J15 (nI i) x4 z0 (1280 + nI i) (nI T) kn wt ac fa wb := by
  unfold wY_workOut_160
  have e1 : (1280 : Int32) + nI i = nI (1280 + i) := nI_add 1280 i
  have e2 : (2816 : Int32) + nI i = nI (2816 + i) := nI_add 2816 i
  rw [e1, e2, ad_c (by omega), ad_c (by omega), hz, ad_n0, ad_n1]
  refine ⟨pk_in (1280 + i) 3072 (by omega), nm_e ?_⟩
  rw [ad_TbN hx]
  refine br_c (fun z => ⟨pk_in (2816 + i) 3072 (by omega), nm_e (nm_r (nI_1 i) (k 0 wt wb (ad_Tb0 fun g => z g.1)))⟩) (fun z => ad_elY hT hA hG hi (fun wt wb g => br_f (by decide) ⟨pk_in (2816 + i) 3072 (by omega), nm_e (nm_r (nI_1 i) (k 1 wt wb (ad_Tb1 ⟨Classical.byContradiction z, g⟩)))⟩) (fun wt wb g => br_t rfl ⟨pk_in (2816 + i) 3072 (by omega), nm_e (nm_r (nI_1 i) (k 0 wt wb (ad_Tb0 fun y => g y.2)))⟩))
theorem ad_w126 (hT : T < 256) (hA : ∀ a, A a < 256) (hG : ad_GA A ac) (hi : i < 256) {x4 z0 : Int32} (hx : ad_Tb x4 (ad_free T A i)) (hz : vp_nar .boolean z0 = z0) (k : ∀ v5 v wt wb, ad_Tb v5 (ad_stab T A i) → ad_Tb v (ad_P11 T A i) → J15 (nI (i + 1)) (nI T) kn wt ac (upd (upd (upd fa (512 + i) z0) (1280 + i) v5) (2816 + i) v) wb) : wY_workOut_126 post J15 (nI i) x4 z0 (512 + nI i) (nI T) kn wt ac fa wb := by
  unfold wY_workOut_126
  have e1 : (512 : Int32) + nI i = nI (512 + i) := nI_add 512 i
  rw [e1, ad_c (by omega), hz]
  refine ⟨pk_in (512 + i) 3072 (by omega), nm_e ?_⟩
  rw [ad_TbN hx]
  have hm := ad_orlt hi (ad_H_lt hA i)
  refine br_c (fun z => ?_) (fun z => ad_hiY hG hi ?_)
  · exact ad_w160 hT hA hG hi hx ad_n0 (fun v wt wb hv => k 0 v wt wb (ad_Tb0 fun g => z g.1) hv)
  · rw [ad_or, nI_eq (by omega) (by omega)]
    refine br_c (fun y => ?_) (fun y => ?_)
    · exact ad_w160 hT hA hG hi hx ad_n1 (fun v wt wb hv => k 1 v wt wb (ad_Tb1 ⟨Classical.byContradiction z, y⟩) hv)
    · exact ad_w160 hT hA hG hi hx ad_n0 (fun v wt wb hv => k 0 v wt wb (ad_Tb0 fun g => y g.2) hv)
theorem ad_w101 (hT : T < 256) (hA : ∀ a, A a < 256) (hG : ad_GA A ac) (hi : i < 256) {x4 z0 : Int32} (hx : ad_Tb x4 (ad_free T A i)) (hz : vp_nar .boolean z0 = z0) (k : ∀ v2 v5 v wt wb, ad_Tb v2 (ad_comp T A i) → ad_Tb v5 (ad_stab T A i) → ad_Tb v (ad_P11 T A i) → J15 (nI (i + 1)) (nI T) kn wt ac (upd (upd (upd (upd fa (256 + i) z0) (512 + i) v2) (1280 + i) v5) (2816 + i) v) wb) : wY_workOut_101 post J15 (nI i) (nI (ad_D T A i)) x4 z0 (256 + nI i) (nI T) kn wt ac fa wb := by
  unfold wY_workOut_101
  have e1 : (256 : Int32) + nI i = nI (256 + i) := nI_add 256 i
  rw [e1, ad_c (by omega), hz]
  refine ⟨pk_in (256 + i) 3072 (by omega), nm_e ?_⟩
  have hd := ad_D_lt T A i
  rw [ad_TbN hx, nI_eq (by omega) (by omega)]
  refine br_c (fun z => ?_) (fun z => br_c (fun y => ?_) (fun y => ?_))
  · exact ad_w126 hT hA hG hi hx ad_n0 (fun v5 v wt wb => k 0 v5 v wt wb (ad_Tb0 fun g => z g.1))
  · exact ad_w126 hT hA hG hi hx ad_n1 (fun v5 v wt wb => k 1 v5 v wt wb (ad_Tb1 ⟨Classical.byContradiction z, y⟩))
  · exact ad_w126 hT hA hG hi hx ad_n0 (fun v5 v wt wb => k 0 v5 v wt wb (ad_Tb0 fun g => y g.2))
theorem ad_w64 (hT : T < 256) (hA : ∀ a, A a < 256) (hG : ad_GA A ac) (hi : i < 256) {z0 : Int32} (hx : ad_Tb z0 (ad_free T A i)) (k : ∀ v1 v2 v5 v wt wb, ad_Tb v1 (ad_adm T A i) → ad_Tb v2 (ad_comp T A i) → ad_Tb v5 (ad_stab T A i) → ad_Tb v (ad_P11 T A i) → J15 (nI (i + 1)) (nI T) kn wt ac (upd (upd (upd (upd (upd fa i z0) (256 + i) v1) (512 + i) v2) (1280 + i) v5) (2816 + i) v) wb) : wY_workOut_64 post J15 (nI i) (nI (ad_D T A i)) z0 (nI T) kn wt ac fa wb := by
  unfold wY_workOut_64
  rw [ad_c (by omega), ad_nT hx]
  refine ⟨pk_in i 3072 (by omega), nm_e ?_⟩
  rw [ad_TbN hx, ad_subI hi]
  refine br_c (fun z => ?_) (fun z => br_c (fun y => ?_) (fun y => ?_))
  · exact ad_w101 hT hA hG hi hx ad_n0 (fun v2 v5 v wt wb => k 0 v2 v5 v wt wb (ad_Tb0 fun g => z g.1))
  · exact ad_w101 hT hA hG hi hx ad_n1 (fun v2 v5 v wt wb => k 1 v2 v5 v wt wb (ad_Tb1 ⟨Classical.byContradiction z, y⟩))
  · exact ad_w101 hT hA hG hi hx ad_n0 (fun v2 v5 v wt wb => k 0 v2 v5 v wt wb (ad_Tb0 fun g => y g.2))
/-- the first loop has come to i -/
def ad_I15 (T : Nat) (A : Nat → Nat) (i : Nat) (fa : Nat → Int32) : Prop := ∀ s, s < i → ad_Tb (fa s) (ad_free T A s) ∧ ad_Tb (fa (256 + s)) (ad_adm T A s) ∧ ad_Tb (fa (512 + s)) (ad_comp T A s) ∧ ad_Tb (fa (1280 + s)) (ad_stab T A s) ∧ ad_Tb (fa (2816 + s)) (ad_P11 T A s)
theorem ad_I15s (h : ad_I15 T A i fa) (hi : i < 256) {v0 v1 v2 v5 v : Int32} (h0 : ad_Tb v0 (ad_free T A i)) (h1 : ad_Tb v1 (ad_adm T A i)) (h2 : ad_Tb v2 (ad_comp T A i)) (h5 : ad_Tb v5 (ad_stab T A i)) (h11 : ad_Tb v (ad_P11 T A i)) : ad_I15 T A (i + 1) (upd (upd (upd (upd (upd fa i v0) (256 + i) v1) (512 + i) v2) (1280 + i) v5) (2816 + i) v) := by
  intro s hs
  by_cases e : s = i
  · rw [e]
    refine ⟨?_, ?_, ?_, ?_, ?_⟩
    · rw [pk_un (by omega), pk_un (by omega), pk_un (by omega), pk_un (by omega), pk_us]; exact h0
    · rw [pk_un (by omega), pk_un (by omega), pk_un (by omega), pk_us]; exact h1
    · rw [pk_un (by omega), pk_un (by omega), pk_us]; exact h2
    · rw [pk_un (by omega), pk_us]; exact h5
    · rw [pk_us]; exact h11
  · obtain ⟨k0, k1, k2, k5, k11⟩ := h s (by omega)
    refine ⟨?_, ?_, ?_, ?_, ?_⟩
    · rw [pk_un (by omega), pk_un (by omega), pk_un (by omega), pk_un (by omega), pk_un (by omega)]; exact k0
    · rw [pk_un (by omega), pk_un (by omega), pk_un (by omega), pk_un (by omega), pk_un (by omega)]; exact k1
    · rw [pk_un (by omega), pk_un (by omega), pk_un (by omega), pk_un (by omega), pk_un (by omega)]; exact k2
    · rw [pk_un (by omega), pk_un (by omega), pk_un (by omega), pk_un (by omega), pk_un (by omega)]; exact k5
    · rw [pk_un (by omega), pk_un (by omega), pk_un (by omega), pk_un (by omega), pk_un (by omega)]; exact k11
theorem ad_I15t (h : ad_I15 T A 256 fa) : ad_Tab fa 0 (ad_free T A) ∧ ad_Tab fa 1 (ad_adm T A) ∧ ad_Tab fa 2 (ad_comp T A) ∧ ad_Tab fa 5 (ad_stab T A) ∧ ad_Tab fa 11 (ad_P11 T A) := by
  refine ⟨fun s hs => ?_, fun s hs => ?_, fun s hs => ?_, fun s hs => ?_, fun s hs => ?_⟩
  · have := (h s hs).1
    rw [show 256 * 0 + s = s from by omega]; exact this
  · exact (h s hs).2.1
  · exact (h s hs).2.2.1
  · exact (h s hs).2.2.2.1
  · exact (h s hs).2.2.2.2
/-- the second loop has come to i -/
def ad_I203 (T : Nat) (A : Nat → Nat) (i : Nat) (fa0 fa : Nat → Int32) : Prop := (∀ j, (j < 768 ∨ (1024 ≤ j ∧ j < 1536) ∨ 2048 ≤ j) → fa j = fa0 j) ∧ ∀ s, s < i → ad_Tb (fa (768 + s)) (ad_P3 T A s) ∧ ad_Tb (fa (1536 + s)) (ad_P6 T A s) ∧ ad_Tb (fa (1792 + s)) (ad_P7 T A s)
theorem ad_I203s {fa0 : Nat → Int32} (h : ad_I203 T A i fa0 fa) (hi : i < 256) {v3 v6 v7 : Int32} (h3 : ad_Tb v3 (ad_P3 T A i)) (h6 : ad_Tb v6 (ad_P6 T A i)) (h7 : ad_Tb v7 (ad_P7 T A i)) : ad_I203 T A (i + 1) fa0 (upd (upd (upd fa (768 + i) v3) (1536 + i) v6) (1792 + i) v7) := by
  refine ⟨fun j hj => ?_, fun s hs => ?_⟩
  · rw [pk_un (by omega), pk_un (by omega), pk_un (by omega)]; exact h.1 j hj
  · by_cases e : s = i
    · rw [e]
      refine ⟨?_, ?_, ?_⟩
      · rw [pk_un (by omega), pk_un (by omega), pk_us]; exact h3
      · rw [pk_un (by omega), pk_us]; exact h6
      · rw [pk_us]; exact h7
    · obtain ⟨k3, k6, k7⟩ := h.2 s (by omega)
      refine ⟨?_, ?_, ?_⟩
      · rw [pk_un (by omega), pk_un (by omega), pk_un (by omega)]; exact k3
      · rw [pk_un (by omega), pk_un (by omega), pk_un (by omega)]; exact k6
      · rw [pk_un (by omega), pk_un (by omega), pk_un (by omega)]; exact k7
theorem ad_TabU {a : Nat → Int32} {σ k : Nat} {v : Int32} {P : Nat → Prop} (h : ad_Tab a σ P) (hk : k < 256 * σ ∨ 256 * σ + 256 ≤ k) : ad_Tab (upd a k v) σ P := fun s hs => by
  rw [pk_un (by omega)]; exact h s hs
theorem ad_w280 {J203 : Int32 → (Nat → Int32) → (Nat → Int32) → (Nat → Int32) → Prop} {x1 : Int32} (hA : ∀ a, A a < 256) (hG : ad_GA A ac) (hi : i < 256) (hF : ad_Tab fa 0 (ad_free T A)) {z0 : Int32} (hz : vp_nar .boolean z0 = z0) (k : ∀ v, ad_Tb v (ad_P7 T A i) → J203 (nI (i + 1)) ac (upd (upd fa (1536 + i) z0) (1792 + i) v) wb) : wY_workOut_280 post J203 x1 (nI i) z0 (1536 + nI i) (nI T) kn wt ac fa wb := by
  unfold wY_workOut_280
  have e1 : (1536 : Int32) + nI i = nI (1536 + i) := nI_add 1536 i
  have e2 : (1792 : Int32) + nI i = nI (1792 + i) := nI_add 1792 i
  have hF' : ad_Tab (upd fa (1536 + i) z0) 0 (ad_free T A) := ad_TabU hF (by omega)
  have hb := hF' i hi
  rw [show 256 * 0 + i = i from by omega] at hb
  rw [e1, e2, ad_c (by omega), ad_c (by omega), ad_c (by omega), hz, ad_n0, ad_n1]
  refine ⟨pk_in (1536 + i) 3072 (by omega), nm_e ⟨pk_in i 3072 (by omega), ?_⟩⟩
  rw [ad_TbN hb]
  exact br_c (fun z => ⟨pk_in (1792 + i) 3072 (by omega), nm_e (nm_r (nI_1 i) (k 0 (ad_Tb0 fun g => z g.1)))⟩) (fun z => ad_grY (σ := 0) hA hG (by decide) hF' hi (Classical.byContradiction z) (fun g => br_f (by decide) ⟨pk_in (1792 + i) 3072 (by omega), nm_e (nm_r (nI_1 i) (k 1 (ad_Tb1 g)))⟩) (fun g => br_t rfl ⟨pk_in (1792 + i) 3072 (by omega), nm_e (nm_r (nI_1 i) (k 0 (ad_Tb0 g)))⟩))
theorem ad_w242 {J203 : Int32 → (Nat → Int32) → (Nat → Int32) → (Nat → Int32) → Prop} {x1 : Int32} (hA : ∀ a, A a < 256) (hG : ad_GA A ac) (hi : i < 256) (hF : ad_Tab fa 0 (ad_free T A)) (hC : ad_Tab fa 2 (ad_comp T A)) {z0 : Int32} (hz : vp_nar .boolean z0 = z0) (k : ∀ v6 v, ad_Tb v6 (ad_P6 T A i) → ad_Tb v (ad_P7 T A i) → J203 (nI (i + 1)) ac (upd (upd (upd fa (768 + i) z0) (1536 + i) v6) (1792 + i) v) wb) : wY_workOut_242 post J203 x1 (nI i) z0 (768 + nI i) (nI T) kn wt ac fa wb := by
  unfold wY_workOut_242
  have e1 : (768 : Int32) + nI i = nI (768 + i) := nI_add 768 i
  have e2 : (512 : Int32) + nI i = nI (512 + i) := nI_add 512 i
  have hF' : ad_Tab (upd fa (768 + i) z0) 0 (ad_free T A) := ad_TabU hF (by omega)
  have hC' : ad_Tab (upd fa (768 + i) z0) 2 (ad_comp T A) := ad_TabU hC (by omega)
  have hb : ad_Tb (upd fa (768 + i) z0 (512 + i)) (ad_comp T A i) := hC' i hi
  rw [e1, e2, ad_c (by omega), ad_c (by omega), hz]
  refine ⟨pk_in (768 + i) 3072 (by omega), nm_e ⟨pk_in (512 + i) 3072 (by omega), ?_⟩⟩
  rw [ad_TbN hb]
  refine br_c (fun z => ?_) (fun z => ad_grY (σ := 2) hA hG (by decide) hC' hi (Classical.byContradiction z) (fun g => br_f (by decide) ?_) (fun g => br_t rfl ?_))
  · exact ad_w280 hA hG hi hF' ad_n0 (fun v hv => k 0 v (ad_Tb0 fun g => z g.1) hv)
  · exact ad_w280 hA hG hi hF' ad_n1 (fun v hv => k 1 v (ad_Tb1 g) hv)
  · exact ad_w280 hA hG hi hF' ad_n0 (fun v hv => k 0 v (ad_Tb0 g) hv)
theorem ad_w203 (hT : T < 256) (hA : ∀ a, A a < 256) (hG : ad_GA A ac) {c : Nat} (hc : c < 256) (hcom : ad_com T (ad_comp T A) c) {fa0 : Nat → Int32} (hI : ad_I15 T A 256 fa0) (h : ∀ fa, ad_All T A fa → post (nI T, kn, wt, ac, fa, wb)) : ∀ d i n fa, i + d = 256 → d < n → ad_I203 T A i fa0 fa → wY_workOut_203 post (nI c) (nI T) kn wt n (nI i) ac fa wb := by
  obtain ⟨a0, a1, a2, a5, a11⟩ := ad_I15t hI
  intro d
  induction d with
  | zero =>
    intro i n fa hi hn hJ
    obtain ⟨n, rfl⟩ := ad_s hn
    obtain rfl : i = 256 := by omega
    have k0 : ad_Tab fa 0 (ad_free T A) := fun s hs => by rw [hJ.1 _ (by omega)]; exact a0 s hs
    have k1 : ad_Tab fa 1 (ad_adm T A) := fun s hs => by rw [hJ.1 _ (by omega)]; exact a1 s hs
    have k2 : ad_Tab fa 2 (ad_comp T A) := fun s hs => by rw [hJ.1 _ (by omega)]; exact a2 s hs
    have k5 : ad_Tab fa 5 (ad_stab T A) := fun s hs => by rw [hJ.1 _ (by omega)]; exact a5 s hs
    have k11 : ad_Tab fa 11 (ad_P11 T A) := fun s hs => by rw [hJ.1 _ (by omega)]; exact a11 s hs
    have k3 : ad_Tab fa 3 (ad_P3 T A) := fun s hs => (hJ.2 s hs).1
    have k6 : ad_Tab fa 6 (ad_P6 T A) := fun s hs => (hJ.2 s hs).2.1
    have k7 : ad_Tab fa 7 (ad_P7 T A) := fun s hs => (hJ.2 s hs).2.2
    refine br_t (by decide) ?_
    refine ad_kgY (σ := 1) (τ := 4) (l := 255) (by decide) (by decide) (by decide) k1 fun fb ff k4 => ?_
    replace k0 := ad_TabF k0 ff (by decide)
    replace k1 := ad_TabF k1 ff (by decide)
    replace k2 := ad_TabF k2 ff (by decide)
    replace k3 := ad_TabF k3 ff (by decide)
    replace k5 := ad_TabF k5 ff (by decide)
    replace k6 := ad_TabF k6 ff (by decide)
    replace k7 := ad_TabF k7 ff (by decide)
    replace k11 := ad_TabF k11 ff (by decide)
    replace k4 := ad_TabI k4 (ad_e4 (ad_sub255 hT))
    dsimp only
    refine ad_kgY (σ := 0) (τ := 8) (l := 255) (by decide) (by decide) (by decide) k0 fun fd fe k8 => ?_
    replace k0 := ad_TabF k0 fe (by decide)
    replace k1 := ad_TabF k1 fe (by decide)
    replace k2 := ad_TabF k2 fe (by decide)
    replace k3 := ad_TabF k3 fe (by decide)
    replace k4 := ad_TabF k4 fe (by decide)
    replace k5 := ad_TabF k5 fe (by decide)
    replace k6 := ad_TabF k6 fe (by decide)
    replace k7 := ad_TabF k7 fe (by decide)
    replace k11 := ad_TabF k11 fe (by decide)
    replace k8 := ad_TabI k8 (ad_e8 (ad_sub255 hT))
    dsimp only
    refine ad_comY (σ := 4) hT (by decide) k4 fun c1 hc1 hcom1 => ?_
    refine ad_comY (σ := 6) hT (by decide) k6 fun c2 hc2 hcom2 => ?_
    refine ad_kgY (σ := 1) (τ := 9) (l := c1) (by decide) (by decide) (by decide) k1 fun fg fh k9 => ?_
    replace k0 := ad_TabF k0 fh (by decide)
    replace k1 := ad_TabF k1 fh (by decide)
    replace k2 := ad_TabF k2 fh (by decide)
    replace k3 := ad_TabF k3 fh (by decide)
    replace k4 := ad_TabF k4 fh (by decide)
    replace k5 := ad_TabF k5 fh (by decide)
    replace k6 := ad_TabF k6 fh (by decide)
    replace k7 := ad_TabF k7 fh (by decide)
    replace k8 := ad_TabF k8 fh (by decide)
    replace k11 := ad_TabF k11 fh (by decide)
    replace k9 := ad_TabI k9 (ad_e9 hcom1)
    dsimp only
    refine ad_kgY (σ := 1) (τ := 10) (l := c2) (by decide) (by decide) (by decide) k1 fun fj fk k10 => ?_
    replace k10 := ad_TabI k10 (ad_e10 hcom2)
    exact h fj (ad_All_i (ad_TabF k0 fk (by decide)) (ad_TabF k1 fk (by decide)) (ad_TabF k2 fk (by decide)) (ad_TabF k3 fk (by decide)) (ad_TabF k4 fk (by decide)) (ad_TabF k5 fk (by decide)) (ad_TabF k6 fk (by decide)) (ad_TabF k7 fk (by decide)) (ad_TabF k8 fk (by decide)) (ad_TabF k9 fk (by decide)) k10 (ad_TabF k11 fk (by decide)))
  | succ d ih =>
    intro i n fa hi hn hJ
    obtain ⟨n, rfl⟩ := ad_s hn
    have h8 : i < 256 := by omega
    have k0 : ad_Tab fa 0 (ad_free T A) := fun s hs => by rw [hJ.1 _ (by omega)]; exact a0 s hs
    have k2 : ad_Tab fa 2 (ad_comp T A) := fun s hs => by rw [hJ.1 _ (by omega)]; exact a2 s hs
    have hb : ad_Tb (fa (512 + i)) (ad_comp T A i) := k2 i h8
    have e2 : (512 : Int32) + nI i = nI (512 + i) := nI_add 512 i
    have k : ∀ v3 v6 v7, ad_Tb v3 (ad_P3 T A i) → ad_Tb v6 (ad_P6 T A i) → ad_Tb v7 (ad_P7 T A i) → wY_workOut_203 post (nI c) (nI T) kn wt n (nI (i + 1)) ac (upd (upd (upd fa (768 + i) v3) (1536 + i) v6) (1792 + i) v7) wb := fun v3 v6 v7 h3 h6 h7 => ih (i + 1) n _ (by omega) (by omega) (ad_I203s hJ h8 h3 h6 h7)
    refine br_f (nI_ge h8 (by decide)) ?_
    rw [e2, ad_c (by omega), ad_TbN hb, nI_eq (by omega) (by omega)]
    refine ⟨pk_in (512 + i) 3072 (by omega), br_c (fun z => ?_) (fun z => br_c (fun y => ?_) (fun y => ?_))⟩
    · exact ad_w242 hA hG h8 k0 k2 ad_n0 (fun v6 v => k 0 v6 v (ad_Tb0 fun g => z g.1))
    · exact ad_w242 hA hG h8 k0 k2 ad_n1 (fun v6 v => k 1 v6 v (ad_Tb1 ((ad_P3_Y h8 hcom).mpr ⟨Classical.byContradiction z, y⟩)))
    · exact ad_w242 hA hG h8 k0 k2 ad_n0 (fun v6 v => k 0 v6 v (ad_Tb0 fun g => y ((ad_P3_Y h8 hcom).mp g).2))
theorem ad_w15 (hT : T < 256) (hA : ∀ a, A a < 256) (hG : ad_GA A ac) (h : ∀ wt fa wb, ad_All T A fa → post (nI T, kn, wt, ac, fa, wb)) : ∀ d i n wt fa wb, i + d = 256 → d < n → ad_I15 T A i fa → wY_workOut_15 post n (nI i) (nI T) kn wt ac fa wb := by
  intro d
  induction d with
  | zero =>
    intro i n wt fa wb hi hn hI
    obtain ⟨n, rfl⟩ := ad_s hn
    obtain rfl : i = 256 := by omega
    refine br_t (by decide) (ad_comY (σ := 2) hT (by decide) (ad_I15t hI).2.2.1 fun c hc hcom => ⟨257, ?_⟩)
    exact ad_w203 hT hA hG hc hcom hI (fun fa => h wt fa wb) 256 0 257 fa rfl (by decide) ⟨fun _ _ => rfl, fun s hs => absurd hs (by omega)⟩
  | succ d ih =>
    intro i n wt fa wb hi hn hI
    obtain ⟨n, rfl⟩ := ad_s hn
    have h8 : i < 256 := by omega
    have k64 : ∀ z0, ad_Tb z0 (ad_free T A i) → wY_workOut_64 post (wY_workOut_15 post n) (nI i) (nI (ad_D T A i)) z0 (nI T) kn wt ac fa wb := fun z0 hz => ad_w64 hT hA hG h8 hz (fun v1 v2 v5 v wt wb h1 h2 h5 h11 => ih (i + 1) n wt _ wb (by omega) (by omega) (ad_I15s hI h8 hz h1 h2 h5 h11))
    refine br_f (nI_ge h8 (by decide)) (ad_deY hT hA hG h8 ?_)
    rw [ad_subI h8]
    refine br_c (fun z => br_f (by decide) (ad_hiY hG h8 ?_)) (fun z => br_t rfl (k64 0 (ad_Tb0 fun g => z g.1)))
    rw [ad_andI (ad_H_lt hA i)]
    exact br_c (fun y => k64 1 (ad_Tb1 ⟨z, y⟩)) (fun y => k64 0 (ad_Tb0 fun g => y g.2))
/-- the reference's table, where it is known -/
def ad_FY (T : Nat) (A : Nat → Nat) (kn : Int32) (fa : Nat → Int32) : Prop := kn = 0 ∨ (kn = 1 ∧ ad_All T A fa)
theorem ad_woY (hT : T < 256) (hA : ∀ a, A a < 256) (hG : ad_GA A ac) (hF : ad_FY T A kn fa) (h : ∀ wt fa wb, ad_All T A fa → post (nI T, 1, wt, ac, fa, wb)) : wpY_workOut post (nI T, kn, wt, ac, fa, wb) := by
  unfold wpY_workOut
  dsimp only
  rcases hF with rfl | ⟨rfl, hAll⟩
  · exact br_t rfl ⟨257, ad_w15 hT hA hG h 256 0 257 wt fa wb rfl (by decide) fun s hs => absurd hs (by omega)⟩
  · exact br_f (by decide) (h wt fa wb hAll)
end
