/-! the component's small methods -/
theorem ad_c {i : Nat} (h : i < 4096) : (nI i).toNatClampNeg = i := nI_clamp (by omega)
theorem ad_s {n d : Nat} (h : d < n) : ∃ m, n = m + 1 := ⟨n - 1, by omega⟩
def ad_th (T : Nat) (p : Int32) : Prop := ∃ a, a < 8 ∧ p = nI a ∧ T.testBit a = true
def ad_st (T : Nat) (p : Int32) : Prop := ∃ s, s < 256 ∧ p = nI s ∧ ad_sub s T
def ad_se (p : Int32) : Prop := ∃ σ, σ < 12 ∧ p = nI σ
theorem ad_inj {a b : Nat} (ha : a < 4096) (hb : b < 4096) (h : nI a = nI b) : a = b := (nI_eq (by omega) (by omega)).mp h
theorem ad_th_i {T a : Nat} (ha : a < 8) : ad_th T (nI a) ↔ T.testBit a = true := by
  constructor
  · rintro ⟨b, hb, e, h⟩
    rw [ad_inj (by omega) (by omega) e]; exact h
  · intro h; exact ⟨a, ha, rfl, h⟩
theorem ad_st_i {T s : Nat} (hs : s < 256) : ad_st T (nI s) ↔ ad_sub s T := by
  constructor
  · rintro ⟨b, hb, e, h⟩
    rw [ad_inj (by omega) (by omega) e]; exact h
  · intro h; exact ⟨s, hs, rfl, h⟩
theorem ad_has {post : Int32 → Prop} {m i : Nat} (hm : m < 256) (hi : i < 8) (h1 : m.testBit i = true → post 1) (h0 : ¬ m.testBit i = true → post 0) : wpX_has post (nI m) (nI i) := by
  unfold wpX_has
  rw [ad_tb (by omega) (by omega)]
  exact ⟨h1, h0⟩
theorem ad_hasB {A B : Prop} {m i : Nat} (hm : m < 256) (hi : i < 8) (h1 : m.testBit i = true → B) (h0 : ¬ m.testBit i = true → A) : wpX_has (fun r => (r = 0 → A) ∧ (¬ r = 0 → B)) (nI m) (nI i) :=
  ad_has hm hi (fun h => br_f (by decide) (h1 h)) (fun h => br_t rfl (h0 h))
section
variable {fr : Int32} {aO tg so de he wa : Nat → Int32} {T : Nat} {A : Nat → Nat}
theorem ad_isThX {post : Int32 → Prop} (hT : T < 256) {p : Int32} (h1 : ad_th T p → post 1) (h0 : ¬ ad_th T p → post 0) : wpX_isThere post (nI T, fr, aO, tg, so, de, he, wa) p := by
  unfold wpX_isThere
  dsimp only
  rcases pk_ix p (n := 8) (by decide) with h | h | ⟨a, ha, rfl⟩
  · refine br_t h (h0 ?_)
    rintro ⟨a, ha, rfl, _⟩
    exact nI_pos (by omega) h
  · by_cases hz : p < 0
    · refine br_t hz (h0 ?_)
      rintro ⟨a, ha, rfl, _⟩
      exact nI_pos (by omega) hz
    · refine br_f hz (br_t h (h0 ?_))
      rintro ⟨a, ha, rfl, _⟩
      exact nI_ge ha (by omega) h
  · refine br_f (nI_pos (by omega)) (br_f (nI_ge ha (by decide)) (ad_hasB hT ha (fun h => h1 ⟨a, ha, rfl, h⟩) (fun h => h0 ?_)))
    rw [ad_th_i ha]; exact h
theorem ad_isSetX {post : Int32 → Prop} {p : Int32} (h1 : ad_st T p → post 1) (h0 : ¬ ad_st T p → post 0) : wpX_isSet post (nI T, fr, aO, tg, so, de, he, wa) p := by
  unfold wpX_isSet
  dsimp only
  rcases pk_ix p (n := 256) (by decide) with h | h | ⟨a, ha, rfl⟩
  · refine br_t h (h0 ?_)
    rintro ⟨a, ha, rfl, _⟩
    exact nI_pos (by omega) h
  · by_cases hz : p < 0
    · refine br_t hz (h0 ?_)
      rintro ⟨a, ha, rfl, _⟩
      exact nI_pos (by omega) hz
    · refine br_f hz (br_t h (h0 ?_))
      rintro ⟨a, ha, rfl, _⟩
      exact nI_ge ha (by omega) h
  · refine br_f (nI_pos (by omega)) (br_f (nI_ge ha (by decide)) ?_)
    rw [ad_subI ha]
    refine ⟨fun h => h1 ⟨a, ha, rfl, h⟩, fun h => h0 ?_⟩
    rw [ad_st_i ha]; exact h
theorem ad_isSenX {post : Int32 → Prop} {p : Int32} (h1 : ad_se p → post 1) (h0 : ¬ ad_se p → post 0) : wpX_isSense post p := by
  unfold wpX_isSense
  rcases pk_ix p (n := 12) (by decide) with h | h | ⟨a, ha, rfl⟩
  · refine br_t h (h0 ?_)
    rintro ⟨a, ha, rfl⟩
    exact nI_pos (by omega) h
  · by_cases hz : p < 0
    · refine br_t hz (h0 ?_)
      rintro ⟨a, ha, rfl⟩
      exact nI_pos (by omega) hz
    · refine br_f hz (br_t h (h0 ?_))
      rintro ⟨a, ha, rfl⟩
      exact nI_ge ha (by omega) h
  · exact br_f (nI_pos (by omega)) (br_f (nI_ge ha (by decide)) (h1 ⟨a, ha, rfl⟩))
/-- the attackers as the component keeps them -/
def ad_GO (A : Nat → Nat) (aO : Nat → Int32) : Prop := ∀ b, b < 8 → aO b = nI (ad_B A b)
def ad_p1 (A : Nat → Nat) (s : Nat) (a : Nat) : Bool := decide (¬ (ad_B A a &&& s = 0))
def ad_p2 (T : Nat) (A : Nat → Nat) (s : Nat) (a : Nat) : Bool := T.testBit a && decide (ad_df (ad_B A a) (ad_H A s) = 0)
theorem ad_ft64 {post : SX → Prop} {x3 : Int32} (hT : T < 256) (hA : ∀ a, A a < 256) (hO : ad_GO A aO) {s : Nat} (hs : s < 256) (h : post (nI T, fr, aO, upd tg s (nI (ad_H A s)), upd so s x3, upd de s (nI (ad_D T A s)), he, wa)) : ∀ d i n, i + d = 8 → d < n → wX_fillTables_64 post (nI s) (nI (ad_H A s)) x3 (nI T) fr aO tg so de he wa n (nI (ad_mk (ad_p2 T A s) i)) (nI i) := by
  intro d
  induction d with
  | zero =>
    intro i n hi hn
    obtain ⟨n, rfl⟩ := ad_s hn
    obtain rfl : i = 8 := by omega
    refine br_t (by decide) ⟨pk_in s 256 hs, nm_e ⟨pk_in s 256 hs, nm_e ⟨pk_in s 256 hs, nm_e ?_⟩⟩⟩
    rw [ad_c (by omega)]
    exact h
  | succ d ih =>
    intro i n hi hn
    obtain ⟨n, rfl⟩ := ad_s hn
    have h8 : i < 8 := by omega
    have k := ih (i + 1) n (by omega) (by omega)
    refine br_f (nI_ge h8 (by decide)) (ad_hasB hT h8 (fun hb => ⟨pk_in i 8 h8, ?_⟩) (fun hb => nm_r (nI_1 i) ?_))
    · rw [ad_c (by omega), hO i h8, ad_subI (ad_B_lt A i)]
      refine br_c (fun z => nm_r (by rw [ad_one (by omega), ad_or]) (nm_r (nI_1 i) ?_)) (fun z => nm_r (nI_1 i) ?_)
      · have e : ad_mk (ad_p2 T A s) (i + 1) = ad_mk (ad_p2 T A s) i ||| 2 ^ i := if_pos (by unfold ad_p2; rw [hb, Bool.true_and, decide_eq_true_eq, ad_sub_df (ad_B_lt A i)]; exact z)
        rw [← e]; exact k
      · have e : ad_mk (ad_p2 T A s) (i + 1) = ad_mk (ad_p2 T A s) i := if_neg (by unfold ad_p2; rw [hb, Bool.true_and, decide_eq_true_eq, ad_sub_df (ad_B_lt A i)]; exact z)
        rw [← e]; exact k
    · have e : ad_mk (ad_p2 T A s) (i + 1) = ad_mk (ad_p2 T A s) i := if_neg (by unfold ad_p2; rw [Bool.and_eq_true]; exact fun z => hb z.1)
      rw [← e]; exact k
theorem ad_ft7 {post : SX → Prop} (hO : ad_GO A aO) {s : Nat} (hs : s < 256) (h : ∃ n, wX_fillTables_64 post (nI s) (nI (ad_mk (ad_p1 A s) 8)) (nI (ad_ht (ad_B A) s 8)) (nI T) fr aO tg so de he wa n 0 0) : ∀ d i n, i + d = 8 → d < n → wX_fillTables_7 post (nI s) (nI T) fr aO tg so de he wa n (nI (ad_mk (ad_p1 A s) i)) (nI (ad_ht (ad_B A) s i)) (nI i) := by
  intro d
  induction d with
  | zero =>
    intro i n hi hn
    obtain ⟨n, rfl⟩ := ad_s hn
    obtain rfl : i = 8 := by omega
    exact br_t (by decide) h
  | succ d ih =>
    intro i n hi hn
    obtain ⟨n, rfl⟩ := ad_s hn
    have h8 : i < 8 := by omega
    have k := ih (i + 1) n (by omega) (by omega)
    have e : ∀ y, y = nI (ad_mk (ad_p1 A s) (i + 1)) → wX_fillTables_33 post (wX_fillTables_7 post (nI s) (nI T) fr aO tg so de he wa n) (nI s) y (nI (ad_ht (ad_B A) s i)) (nI i) (nI T) fr aO tg so de he wa := by
      intro y hy
      subst hy
      unfold wX_fillTables_33
      refine ad_hasB hs h8 (fun hb => ⟨pk_in i 8 h8, ?_⟩) (fun hb => nm_r (nI_1 i) ?_)
      · rw [ad_c (by omega), hO i h8]
        refine nm_r (ad_or _ _) (nm_r (nI_1 i) ?_)
        have e : ad_ht (ad_B A) s (i + 1) = ad_ht (ad_B A) s i ||| ad_B A i := if_pos hb
        rw [← e]; exact k
      · have e : ad_ht (ad_B A) s (i + 1) = ad_ht (ad_B A) s i := if_neg hb
        rw [← e]; exact k
    refine br_f (nI_ge h8 (by decide)) ⟨pk_in i 8 h8, ?_⟩
    rw [ad_c (by omega), hO i h8, ad_andI (ad_B_lt A i)]
    refine br_c (fun z => e _ ?_) (fun z => nm_r (by rw [ad_one (by omega), ad_or]) (e _ ?_))
    · have e : ad_mk (ad_p1 A s) (i + 1) = ad_mk (ad_p1 A s) i := if_neg (by unfold ad_p1; rw [decide_eq_true_eq]; exact fun y => y z)
      rw [← e]
    · have e : ad_mk (ad_p1 A s) (i + 1) = ad_mk (ad_p1 A s) i ||| 2 ^ i := if_pos (by unfold ad_p1; rw [decide_eq_true_eq]; exact z)
      rw [← e]
theorem ad_ft {post : SX → Prop} (hT : T < 256) (hA : ∀ a, A a < 256) (hO : ad_GO A aO) {s : Nat} (hs : s < 256) (h : post (nI T, fr, aO, upd tg s (nI (ad_H A s)), upd so s (nI (ad_H (ad_B A) s)), upd de s (nI (ad_D T A s)), he, wa)) : wpX_fillTables post (nI T, fr, aO, tg, so, de, he, wa) (nI s) := by
  unfold wpX_fillTables
  refine ⟨9, ad_ft7 hO hs ⟨9, ?_⟩ 8 0 9 rfl (by decide)⟩
  have e : ad_mk (ad_p1 A s) 8 = ad_H A s := ad_tgt hA
  rw [e]
  exact ad_ft64 hT hA hO hs h 8 0 9 rfl (by decide)
/-- the plain senses -/
theorem ad_ps99 {post : SX → Prop} {s : Nat} (hT : T < 256) (hA : ∀ a, A a < 256) (hs : s < 256) (ht : tg s = nI (ad_H A s)) {x2 z0 : Int32} (hx : ad_Tb x2 (ad_free T A s)) (hz : vp_nar .boolean z0 = z0) (h : ∀ v, ad_Tb v (ad_stab T A s) → post (nI T, fr, aO, tg, so, de, upd (upd he (512 + s) z0) (1280 + s) v, wa)) : wX_fillPlainSenses_99 post (nI s) x2 z0 (512 + nI s) (nI T) fr aO tg so de he wa := by
  unfold wX_fillPlainSenses_99
  have e5 : (512 : Int32) + nI s = nI (512 + s) := nI_add 512 s
  have e12 : (1280 : Int32) + nI s = nI (1280 + s) := nI_add 1280 s
  rw [e5, e12, ad_c (by omega), ad_c (by omega), ad_c (by omega), ht, hz]
  refine ⟨pk_in (512 + s) 3072 (by omega), nm_e ?_⟩
  rw [ad_TbN hx, ad_n0, ad_n1, ad_or, nI_eq (by have := ad_orlt hs (ad_H_lt hA s); omega) (by omega)]
  refine br_c (fun z => ⟨pk_in (1280 + s) 3072 (by omega), nm_e (h 0 (ad_Tb0 fun y => z y.1))⟩) (fun z => ⟨pk_in s 256 hs, br_c (fun y => ⟨pk_in (1280 + s) 3072 (by omega), nm_e (h 1 (ad_Tb1 ⟨Classical.byContradiction z, y⟩))⟩) (fun y => ⟨pk_in (1280 + s) 3072 (by omega), nm_e (h 0 (ad_Tb0 fun q => y q.2))⟩)⟩)
theorem ad_ps47 {post : SX → Prop} {s : Nat} (hT : T < 256) (hA : ∀ a, A a < 256) (hs : s < 256) (ht : tg s = nI (ad_H A s)) (hd : de s = nI (ad_D T A s)) {x2 z0 : Int32} (hx : ad_Tb x2 (ad_free T A s)) (hz : ad_Tb z0 (ad_adm T A s)) (h : ∀ v2 v5, ad_Tb v2 (ad_comp T A s) → ad_Tb v5 (ad_stab T A s) → post (nI T, fr, aO, tg, so, de, upd (upd (upd (upd he s x2) (256 + s) z0) (512 + s) v2) (1280 + s) v5, wa)) : wX_fillPlainSenses_47 post (nI s) x2 z0 (nI T) fr aO tg so de he wa := by
  unfold wX_fillPlainSenses_47
  have e0 : (0 : Int32) + nI s = nI s := (nI_add 0 s).trans (by rw [Nat.zero_add])
  have e2 : (256 : Int32) + nI s = nI (256 + s) := nI_add 256 s
  rw [e0, e2, ad_c (by omega), ad_c (by omega), hd, ad_nT hx, ad_nT hz]
  refine ⟨pk_in s 3072 (by omega), nm_e ⟨pk_in (256 + s) 3072 (by omega), nm_e ?_⟩⟩
  rw [ad_TbN hz, ad_subI (ad_D_lt T A s)]
  refine br_c (fun z => ?_) (fun z => ⟨pk_in s 256 hs, br_c (fun y => ?_) (fun y => ?_)⟩)
  · exact ad_ps99 hT hA hs ht hx ad_n0 (fun v hv => h 0 v (ad_Tb0 fun q => z ((ad_comp_X s).mp q).1) hv)
  · exact ad_ps99 hT hA hs ht hx ad_n1 (fun v hv => h 1 v (ad_Tb1 ((ad_comp_X s).mpr ⟨Classical.byContradiction z, y⟩)) hv)
  · exact ad_ps99 hT hA hs ht hx ad_n0 (fun v hv => h 0 v (ad_Tb0 fun q => y ((ad_comp_X s).mp q).2) hv)
theorem ad_ps24 {post : SX → Prop} {s : Nat} (hT : T < 256) (hA : ∀ a, A a < 256) (hs : s < 256) (ht : tg s = nI (ad_H A s)) (hd : de s = nI (ad_D T A s)) {z0 : Int32} (hx : ad_Tb z0 (ad_free T A s)) (h : ∀ v1 v2 v5, ad_Tb v1 (ad_adm T A s) → ad_Tb v2 (ad_comp T A s) → ad_Tb v5 (ad_stab T A s) → post (nI T, fr, aO, tg, so, de, upd (upd (upd (upd he s z0) (256 + s) v1) (512 + s) v2) (1280 + s) v5, wa)) : wX_fillPlainSenses_24 post (nI s) z0 (nI T) fr aO tg so de he wa := by
  unfold wX_fillPlainSenses_24
  rw [ad_c (by omega), hd, ad_TbN hx, ad_subI hs]
  refine br_c (fun z => ?_) (fun z => ⟨pk_in s 256 hs, br_c (fun y => ?_) (fun y => ?_)⟩)
  · exact ad_ps47 hT hA hs ht hd hx (ad_Tb0 fun q => z q.1) (fun v2 v5 => h 0 v2 v5 (ad_Tb0 fun q => z q.1))
  · exact ad_ps47 hT hA hs ht hd hx (ad_Tb1 ⟨Classical.byContradiction z, y⟩) (fun v2 v5 => h 1 v2 v5 (ad_Tb1 ⟨Classical.byContradiction z, y⟩))
  · exact ad_ps47 hT hA hs ht hd hx (ad_Tb0 fun q => y q.2) (fun v2 v5 => h 0 v2 v5 (ad_Tb0 fun q => y q.2))
theorem ad_psX {post : SX → Prop} {s : Nat} (hT : T < 256) (hA : ∀ a, A a < 256) (hs : s < 256) (ht : tg s = nI (ad_H A s)) (hd : de s = nI (ad_D T A s)) (h : ∀ v0 v1 v2 v5, ad_Tb v0 (ad_free T A s) → ad_Tb v1 (ad_adm T A s) → ad_Tb v2 (ad_comp T A s) → ad_Tb v5 (ad_stab T A s) → post (nI T, fr, aO, tg, so, de, upd (upd (upd (upd he s v0) (256 + s) v1) (512 + s) v2) (1280 + s) v5, wa)) : wpX_fillPlainSenses post (nI T, fr, aO, tg, so, de, he, wa) (nI s) := by
  unfold wpX_fillPlainSenses
  dsimp only
  refine ad_isSetX (fun z => br_f (by decide) ?_) (fun z => br_t rfl ?_)
  · rw [ad_st_i hs] at z
    rw [ad_c (by omega), ht, ad_andI hs]
    refine ⟨pk_in s 256 hs, br_c (fun y => ?_) (fun y => ?_)⟩
    · have q : ad_free T A s := ⟨z, by rw [Nat.and_comm]; exact y⟩
      exact ad_ps24 hT hA hs ht hd (ad_Tb1 q) (fun v1 v2 v5 => h 1 v1 v2 v5 (ad_Tb1 q))
    · have q : ¬ ad_free T A s := fun q => y (by rw [Nat.and_comm]; exact q.2)
      exact ad_ps24 hT hA hs ht hd (ad_Tb0 q) (fun v1 v2 v5 => h 0 v1 v2 v5 (ad_Tb0 q))
  · rw [ad_st_i hs] at z
    have q : ¬ ad_free T A s := fun q => z q.1
    exact ad_ps24 hT hA hs ht hd (ad_Tb0 q) (fun v1 v2 v5 => h 0 v1 v2 v5 (ad_Tb0 q))
end
