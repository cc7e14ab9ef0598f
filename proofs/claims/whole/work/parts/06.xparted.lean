/-! the component's last sense -/
/-- the list lies in the array, its head on top -/
def ad_stk (W : Nat → Int32) : List Nat → Prop
  | [] => True
  | w :: l => W l.length = nI w ∧ ad_stk W l
theorem ad_stk_u {W : Nat → Int32} {v : Int32} {k : Nat} : ∀ l : List Nat, l.length ≤ k → ad_stk W l → ad_stk (upd W k v) l
  | [], _, _ => trivial
  | w :: l, hk, h => by
    have hk' : l.length + 1 ≤ k := hk
    exact ⟨by rw [pk_un (by omega)]; exact h.1, ad_stk_u l (by omega) h.2⟩
theorem ad_stk_p {W : Nat → Int32} {w : Nat} {l : List Nat} (h : ad_stk W l) : ad_stk (upd W l.length (nI w)) (w :: l) := ⟨pk_us, ad_stk_u l (Nat.le_refl _) h⟩
section
variable {fr th : Int32} {aO tg so de he wa : Nat → Int32} {T : Nat} {A : Nat → Nat} {Q : Nat → Prop} {σ : Nat}
theorem ad_cp12X {post : Int32 → Prop} (hA : ∀ a, A a < 256) (hX : ad_TX T A tg so de) {w a : Nat} (ha : a < 8) (h : post (nI (ad_cc A w a))) : ∀ d k n, k + d = 7 → d < n → wX_component_12 post (nI w) th fr aO tg so de he wa n (nI (ad_fw A w k (2 ^ a))) (nI (ad_fw (ad_B A) w k (2 ^ a))) (nI (k + 1)) := by
  intro d
  induction d with
  | zero =>
    intro k n hk hn
    obtain ⟨n, rfl⟩ := ad_s hn
    obtain rfl : k = 7 := by omega
    refine br_t (by decide) ?_
    rw [nx_and]
    exact h
  | succ d ih =>
    intro k n hk hn
    obtain ⟨n, rfl⟩ := ad_s hn
    have h1 := ad_fw_lt hA w k _ (ad_2lt ha)
    have h2 := ad_fw_lt (ad_B_lt A) w k _ (ad_2lt ha)
    have j := ih (k + 1) n (by omega) (by omega)
    rw [ad_fw_s, ad_fw_s] at j
    refine br_f (nI_ge (show k + 1 < 8 from by omega) (by decide)) ⟨pk_in _ 256 h1, nm_r (e' := nI (ad_F A w (ad_fw A w k (2 ^ a)))) ?_ ⟨pk_in _ 256 h2, nm_r (e' := nI (ad_F (ad_B A) w (ad_fw (ad_B A) w k (2 ^ a)))) ?_ (nm_r (nI_1 (k + 1)) j)⟩⟩
    · rw [ad_c (by omega), (hX _ h1).1, nx_and, ad_or]; rfl
    · rw [ad_c (by omega), (hX _ h2).2.1, nx_and, ad_or]; rfl
theorem ad_cpX {post : Int32 → Prop} (hA : ∀ a, A a < 256) (hX : ad_TX T A tg so de) {w a : Nat} (ha : a < 8) (h : post (nI (ad_cc A w a))) : wpX_component post (th, fr, aO, tg, so, de, he, wa) (nI a) (nI w) := by
  unfold wpX_component
  exact nm_r (ad_one (by omega)) (nm_r (ad_one (by omega)) ⟨8, ad_cp12X hA hX ha h 7 0 8 rfl (by decide)⟩)
theorem ad_jo2X {post : Int32 → Prop} (hA : ∀ a, A a < 256) (hX : ad_TX T A tg so de) {w : Nat} (hw : w < 256) (hz : w ≠ 0) (h1 : ad_cc A w (ad_fi w) = w → post 1) (h0 : ¬ ad_cc A w (ad_fi w) = w → post 0) : ∀ d i n, i + d = 8 → d < n → (∀ b, b < i → ¬ w.testBit b = true) → wX_isJoined_2 post (nI w) th fr aO tg so de he wa n (nI i) := by
  intro d
  induction d with
  | zero =>
    intro i n hi hn hl
    obtain ⟨i', hb⟩ := ad_nz hz
    exact absurd hb (hl i' (by have := ad_b8 hw hb; omega))
  | succ d ih =>
    intro i n hi hn hl
    obtain ⟨n, rfl⟩ := ad_s hn
    have h8 : i < 8 := by omega
    refine br_f (nI_ge h8 (by decide)) (ad_hasB hw h8 (fun hb => ad_cpX hA hX h8 ?_) (fun hb => nm_r (nI_1 i) (ih (i + 1) n (by omega) (by omega) fun b hbi => ?_)))
    · have e := ad_fi_eq h8 hb hl
      rw [e] at h1 h0
      have := ad_cc_lt hA w h8
      rw [nI_eq (by omega) (by omega)]
      exact ⟨h1, h0⟩
    · by_cases e : b = i
      · rw [e]; exact hb
      · exact hl b (by omega)
theorem ad_joX {post : Int32 → Prop} (hA : ∀ a, A a < 256) (hX : ad_TX T A tg so de) {w : Nat} (hw : w < 256) (hz : w ≠ 0) (h1 : ad_cc A w (ad_fi w) = w → post 1) (h0 : ¬ ad_cc A w (ad_fi w) = w → post 0) : wpX_isJoined post (th, fr, aO, tg, so, de, he, wa) (nI w) := by
  unfold wpX_isJoined
  exact ⟨9, ad_jo2X hA hX hw hz h1 h0 8 0 9 rfl (by decide) fun b hb => absurd hb (by omega)⟩
theorem ad_ap9X {post : Int32 → SX → Prop} (hA : ∀ a, A a < 256) (hX : ad_TX T A tg so de) {s w : Nat} (hs : s < 256) (hw : w < 256) (hwT : ad_sub w T) {L : List Nat} (h : ∀ wa, ad_stk wa L → post (nI L.length) (th, fr, aO, tg, so, de, he, wa)) : ∀ d i n r l wa, i + d = 8 → d < n → ad_cl A w r → ad_ok T l → ad_ps l + ad_pc r ≤ 8 → ad_stk wa l → ad_pt A s w d r l = L → wX_addParts_9 post (nI s) (nI w) th fr n (nI l.length) (nI r) (nI i) aO tg so de he wa := by
  intro d
  induction d with
  | zero =>
    intro i n r l wa hi hn hr hl hp hk e
    obtain ⟨n, rfl⟩ := ad_s hn
    obtain rfl : i = 8 := by omega
    subst e
    exact br_t (by decide) (h wa hk)
  | succ d ih =>
    intro i n r l wa hi hn hr hl hp hk e
    obtain ⟨n, rfl⟩ := ad_s hn
    have h8 : i < 8 := by omega
    have hi7 : 7 - d = i := by omega
    unfold ad_pt at e
    rw [hi7] at e
    have hsw : s &&& w < 256 := ad_andlt hs
    have hc := ad_cc_lt hA w h8
    have hd := ad_df_lt (b := ad_cc A w i) hsw
    refine br_f (nI_ge h8 (by decide)) (ad_hasB hr.1 h8 (fun hb => ad_cpX hA hX h8 (nm_r (ad_not hr.1) ?_)) (fun hb => nm_r (nI_1 i) ?_))
    · rw [if_pos hb] at e
      obtain ⟨k1, k2⟩ := ad_pt_1 hA (s := s) hw hwT hr hb hl
      have hr' := ad_cl_df hA hw hr hb
      rw [nx_and, ad_not hsw]
      refine ⟨pk_in _ 256 hd, nm_r (e' := nI (ad_pa A s w (ad_cc A w i))) ?_ ?_⟩
      · rw [ad_c (by omega), (hX _ hd).1, ad_not hc]; rfl
      · have hp8 := ad_pa_lt hA s w h8
        refine pk_eq (ad_pa A s w (ad_cc A w i)) 0 (fun z => nm_r (nI_1 i) ?_) (fun z => ?_)
        · rw [if_pos z] at k1 k2 e
          exact ih (i + 1) n _ l wa (by omega) (by omega) hr' k1 (by omega) hk e
        · rw [if_neg z] at k1 k2 e
          have hlen := ad_ok_len _ k1
          have hlen' : l.length + 1 ≤ 8 := by
            have e1 : (ad_pa A s w (ad_cc A w i) :: l).length = l.length + 1 := rfl
            omega
          refine br_f (nI_ge (show l.length < 8 from by omega) (by decide)) ⟨pk_in l.length 8 (by omega), nm_e (nm_r (nI_1 l.length) (nm_r (nI_1 i) ?_))⟩
          rw [ad_c (by omega)]
          exact ih (i + 1) n _ (ad_pa A s w (ad_cc A w i) :: l) _ (by omega) (by omega) hr' k1 (by omega) (ad_stk_p hk) e
    · rw [if_neg hb] at e
      exact ih (i + 1) n r l wa (by omega) (by omega) hr hl hp hk e
theorem ad_apX {post : Int32 → SX → Prop} (hA : ∀ a, A a < 256) (hX : ad_TX T A tg so de) {s w : Nat} (hs : s < 256) (hw : w < 256) (hwT : ad_sub w T) {l : List Nat} (hl : ad_ok T l) (hp : ad_ps l + ad_pc w ≤ 8) (hk : ad_stk wa l) (h : ∀ wa, ad_stk wa (ad_pt A s w 8 w l) → post (nI (ad_pt A s w 8 w l).length) (th, fr, aO, tg, so, de, he, wa)) : wpX_addParts post (th, fr, aO, tg, so, de, he, wa) (nI s) (nI w) (nI l.length) := by
  unfold wpX_addParts
  exact ⟨9, ad_ap9X hA hX hs hw hwT h 8 0 9 w l wa rfl (by decide) (ad_cl_w hA hw) hl hp hk rfl⟩
theorem ad_ex1 {A : Nat → Nat} (hA : ∀ a, A a < 256) {w : Nat} (hw : w < 256) (hz : w ≠ 0) (h : ¬ ad_cc A w (ad_fi w) = w) : ∃ x, w.testBit x = true ∧ ad_cc A w x ≠ w := ⟨ad_fi w, (ad_fi_tb hw hz).1, h⟩
theorem ad_si25X {post : Int32 → SX → Prop} (hA : ∀ a, A a < 256) (hX : ad_TX T A tg so de) (hF : ad_Tab he 0 (ad_free T A)) {s : Nat} (hs : s < 256) : ∀ k i n l wa, i + k < 256 → k < n → ad_ph l ≤ k → ad_ok T l → ad_ps l ≤ 8 → ad_stk wa l → (∀ wa, ad_run A s k l → post 1 (th, fr, aO, tg, so, de, he, wa)) → (∀ wa, ¬ ad_run A s k l → post 0 (th, fr, aO, tg, so, de, he, wa)) → wX_isSoInAll_25 post (nI s) n (nI l.length) (nI i) th fr aO tg so de he wa := by
  intro k
  induction k with
  | zero =>
    intro i n l wa hi hn hph hl hp hk h1 h0
    obtain ⟨n, rfl⟩ := ad_s hn
    cases l with
    | nil => exact br_f (nI_ge (show i < 256 from by omega) (by decide)) (br_t (by decide) (h1 wa trivial))
    | cons w l =>
      have := ad_pc_pos hl.1.1 hl.1.2.1
      have e : ad_ph (w :: l) = 2 * ad_pc w - 1 + ad_ph l := rfl
      omega
  | succ k ih =>
    intro i n l wa hi hn hph hl hp hk h1 h0
    obtain ⟨n, rfl⟩ := ad_s hn
    cases l with
    | nil => exact br_f (nI_ge (show i < 256 from by omega) (by decide)) (br_t (by decide) (h1 wa trivial))
    | cons w l =>
      obtain ⟨⟨hw, hz, hwT⟩, hl'⟩ := hl
      have hpw := ad_pc_pos hw hz
      have e1 : ad_ph (w :: l) = 2 * ad_pc w - 1 + ad_ph l := rfl
      have e2 : ad_ps (w :: l) = ad_pc w + ad_ps l := rfl
      have hlen := ad_ok_len l hl'
      have el : nI (w :: l).length = nI (l.length + 1) := rfl
      refine br_f (nI_ge (show i < 256 from by omega) (by decide)) (br_f (by rw [el]; exact nI_nle (by omega) (by omega)) (nm_r (pk_m1 l.length) ⟨pk_in l.length 8 (by omega), nm_r (e' := nI w) (by rw [ad_c (by omega)]; exact hk.1) ?_⟩))
      refine ad_joX hA hX hw hz (fun hj => br_f (by decide) ?_) (fun hj => br_t rfl ?_)
      · have hr : ad_run A s (k + 1) (w :: l) ↔ ad_full A s w ∧ ad_run A s k l := by
          show (if ad_cc A w (ad_fi w) = w then ad_full A s w ∧ ad_run A s k l else ad_run A s k (ad_pt A s w 8 w l)) ↔ _
          rw [if_pos hj]
        rw [nx_and]
        refine ad_grX (σ := 0) (by decide) hF (ad_andlt hs) (fun g => br_f (by decide) (nm_r (nI_1 i) ?_)) (fun g => br_t rfl (h0 wa fun z => g ((ad_full_X hw hwT).mpr (hr.mp z).1)))
        have hf := (ad_full_X hw hwT).mp g
        exact ih (i + 1) n l wa (by omega) (by omega) (by omega) hl' (by omega) hk.2 (fun wa z => h1 wa (hr.mpr ⟨hf, z⟩)) (fun wa z => h0 wa fun y => z (hr.mp y).2)
      · have hr : ad_run A s (k + 1) (w :: l) ↔ ad_run A s k (ad_pt A s w 8 w l) := by
          show (if ad_cc A w (ad_fi w) = w then ad_full A s w ∧ ad_run A s k l else ad_run A s k (ad_pt A s w 8 w l)) ↔ _
          rw [if_neg hj]
        have p1 := (ad_pt_ph hA (s := s) hw 8 w l (by omega) (ad_cl_w hA hw) (fun b hb => absurd hb (by omega))).2 (ad_ex1 hA hw hz hj)
        have p2 := ad_pt_ok hA (s := s) hw hwT 8 w l (ad_cl_w hA hw) hl'
        have e3 : ad_g w = 2 * ad_pc w - 1 := rfl
        refine ad_apX hA hX hs hw hwT hl' (by omega) hk.2 (fun wa' hk' => nm_r (nI_1 i) ?_)
        exact ih (i + 1) n _ wa' (by omega) (by omega) (by omega) p2.1 (by omega) hk' (fun wa z => h1 wa (hr.mpr z)) (fun wa z => h0 wa fun y => z (hr.mp y))
theorem ad_siX {post : Int32 → SX → Prop} (hT : T < 256) (hA : ∀ a, A a < 256) (hX : ad_TX T A tg so de) (hF : ad_Tab he 0 (ad_free T A)) {s : Nat} (hs : s < 256) (h1 : ∀ wa, ad_run A s 16 (if T = 0 then [] else [T]) → post 1 (nI T, fr, aO, tg, so, de, he, wa)) (h0 : ∀ wa, ¬ ad_run A s 16 (if T = 0 then [] else [T]) → post 0 (nI T, fr, aO, tg, so, de, he, wa)) : wpX_isSoInAll post (nI T, fr, aO, tg, so, de, he, wa) (nI s) := by
  unfold wpX_isSoInAll
  dsimp only
  refine nm_e (pk_eq T 0 (fun z => ?_) (fun z => ?_))
  · rw [if_pos z] at h1 h0
    exact ⟨17, ad_si25X hA hX hF hs 16 0 17 [] _ (by decide) (by decide) (Nat.zero_le _) trivial (Nat.zero_le _) trivial h1 h0⟩
  · rw [if_neg z] at h1 h0
    have hp := ad_pc_le T
    refine ⟨17, ad_si25X hA hX hF hs 16 0 17 [T] _ (by decide) (by decide) ?_ ⟨⟨hT, z, ad_subR T⟩, trivial⟩ ?_ ⟨pk_us, trivial⟩ h1 h0⟩
    · show 2 * ad_pc T - 1 + 0 ≤ 16; omega
    · show ad_pc T + 0 ≤ 8; omega
theorem ad_fp2X {post : SX → Prop} (hT : T < 256) (hA : ∀ a, A a < 256) (hX : ad_TX T A tg so de) {he0 : Nat → Int32} (hF : ad_Tab he0 0 (ad_free T A)) (h : ∀ he wa, ad_Up he0 he 11 256 (ad_P11 T A) → post (nI T, fr, aO, tg, so, de, he, wa)) : ∀ d i n he wa, i + d = 256 → d < n → ad_Up he0 he 11 i (ad_P11 T A) → wX_fillParted_2 post n (nI i) (nI T) fr aO tg so de he wa := by
  intro d
  induction d with
  | zero =>
    intro i n he wa hi hn hu
    obtain ⟨n, rfl⟩ := ad_s hn
    obtain rfl : i = 256 := by omega
    exact br_t (by decide) (h he wa hu)
  | succ d ih =>
    intro i n he wa hi hn' hu
    obtain ⟨n, rfl⟩ := ad_s hn'
    have h8 : i < 256 := by omega
    have k : ∀ v wa, ad_Tb v (ad_P11 T A i) → wX_fillParted_2 post n (nI (i + 1)) (nI T) fr aO tg so de (upd he (2816 + i) v) wa := fun v wa hv => ih (i + 1) n _ wa (by omega) (by omega) (ad_UpS hu h8 hv)
    have hQ' := ad_TabF hF hu.1 (by decide)
    refine br_f (nI_ge h8 (by decide)) ?_
    have e0 : (0 : Int32) + nI i = nI (256 * 0 + i) := nI_add 0 i
    have e : (2816 : Int32) + nI i = nI (2816 + i) := nI_add 2816 i
    rw [e0, e, ad_c (by omega), ad_c (by omega), ad_TbN (hQ' i h8)]
    refine ⟨pk_in (256 * 0 + i) 3072 (by omega), br_c (fun z => ⟨pk_in (2816 + i) 3072 (by omega), nm_e (nm_r (nI_1 i) (k 0 wa (ad_Tb0 fun g => z g.1)))⟩) (fun z => ad_siX hT hA hX hQ' h8 (fun wa g => br_f (by decide) ⟨pk_in (2816 + i) 3072 (by omega), nm_e (nm_r (nI_1 i) (k 1 wa (ad_Tb1 ⟨Classical.byContradiction z, g⟩)))⟩) (fun wa g => br_t rfl ⟨pk_in (2816 + i) 3072 (by omega), nm_e (nm_r (nI_1 i) (k 0 wa (ad_Tb0 fun y => g y.2)))⟩))⟩
theorem ad_fpX {post : SX → Prop} (hT : T < 256) (hA : ∀ a, A a < 256) (hX : ad_TX T A tg so de) (hF : ad_Tab he 0 (ad_free T A)) (h : ∀ he' wa, ad_Fr he he' 11 → ad_Tab he' 11 (ad_P11 T A) → post (nI T, fr, aO, tg, so, de, he', wa)) : wpX_fillParted post (nI T, fr, aO, tg, so, de, he, wa) := by
  unfold wpX_fillParted
  exact ⟨257, ad_fp2X hT hA hX hF (fun he' wa hu => h he' wa hu.1 hu.2) 256 0 257 he wa rfl (by decide) ad_Up0⟩
end
