/-! the reference's last sense -/
def ad_dn : Nat → Int32
  | 0 => -1
  | m + 1 => nI m
theorem ad_dn_s : ∀ m, nI m + (-1) = ad_dn m
  | 0 => by decide
  | m + 1 => pk_m1 m
section
variable {kn wt : Int32} {ac fa wb : Nat → Int32} {T : Nat} {A : Nat → Nat} {Q : Nat → Prop} {σ : Nat}
theorem ad_ct7Y {post : Int32 → Prop} (hA : ∀ a, A a < 256) (hG : ad_GA A ac) {w a : Nat} (ha : a < 8) (h : post (nI (ad_fw A w 8 (2 ^ a)))) : ∀ d k n, k + d = 8 → d < n → wY_comeTo_7 post (nI w) (nI T) kn wt ac fa wb n (nI (ad_fw A w k (2 ^ a))) (nI k) := by
  intro d
  induction d with
  | zero =>
    intro k n hk hn
    obtain ⟨n, rfl⟩ := ad_s hn
    obtain rfl : k = 8 := by omega
    exact br_t (by decide) h
  | succ d ih =>
    intro k n hk hn
    obtain ⟨n, rfl⟩ := ad_s hn
    have h1 := ad_fw_lt hA w k _ (ad_2lt ha)
    have j := ih (k + 1) n (by omega) (by omega)
    rw [ad_fw_s] at j
    refine br_f (nI_ge (show k < 8 from by omega) (by decide)) (ad_hiY hG h1 (nm_r (e' := nI (ad_F A w (ad_fw A w k (2 ^ a)))) ?_ (nm_r (nI_1 k) j)))
    rw [nx_and, ad_or]; rfl
theorem ad_ctY {post : Int32 → Prop} (hA : ∀ a, A a < 256) (hG : ad_GA A ac) {w a : Nat} (ha : a < 8) (h : post (nI (ad_fw A w 8 (2 ^ a)))) : wpY_comeTo post (nI T, kn, wt, ac, fa, wb) (nI a) (nI w) := by
  unfold wpY_comeTo
  exact nm_r (ad_one (by omega)) ⟨9, ad_ct7Y hA hG ha h 8 0 9 rfl (by decide)⟩
def ad_p3 (A : Nat → Nat) (w a : Nat) (b : Nat) : Bool := (ad_fw A w 8 (2 ^ a)).testBit b && (ad_fw A w 8 (2 ^ b)).testBit a
theorem ad_ci13Y {post : Int32 → Prop} (hA : ∀ a, A a < 256) (hG : ad_GA A ac) {w a : Nat} (ha : a < 8) (h : post (nI (ad_mk (ad_p3 A w a) 8))) : ∀ d i n, i + d = 8 → d < n → wY_circle_13 post (nI a) (nI w) (nI (ad_fw A w 8 (2 ^ a))) (nI T) kn wt ac fa wb n (nI (ad_mk (ad_p3 A w a) i)) (nI i) := by
  intro d
  induction d with
  | zero =>
    intro i n hi hn
    obtain ⟨n, rfl⟩ := ad_s hn
    obtain rfl : i = 8 := by omega
    exact br_t (by decide) h
  | succ d ih =>
    intro i n hi hn
    obtain ⟨n, rfl⟩ := ad_s hn
    have h8 : i < 8 := by omega
    have k := ih (i + 1) n (by omega) (by omega)
    have l1 := ad_fw_lt hA w 8 _ (ad_2lt ha)
    have l2 := ad_fw_lt hA w 8 _ (ad_2lt h8)
    refine br_f (nI_ge h8 (by decide)) ?_
    rw [ad_tb (by omega) (by omega)]
    refine br_c (fun z => ad_ctY hA hG h8 ?_) (fun z => nm_r (nI_1 i) ?_)
    · rw [ad_tb (by omega) (by omega)]
      refine br_c (fun y => nm_r (by rw [ad_one (by omega), ad_or]) (nm_r (nI_1 i) ?_)) (fun y => nm_r (nI_1 i) ?_)
      · have e : ad_mk (ad_p3 A w a) (i + 1) = ad_mk (ad_p3 A w a) i ||| 2 ^ i := if_pos (by unfold ad_p3; rw [z, y]; rfl)
        rw [← e]; exact k
      · have e : ad_mk (ad_p3 A w a) (i + 1) = ad_mk (ad_p3 A w a) i := if_neg (by unfold ad_p3; rw [Bool.and_eq_true]; exact fun q => y q.2)
        rw [← e]; exact k
    · have e : ad_mk (ad_p3 A w a) (i + 1) = ad_mk (ad_p3 A w a) i := if_neg (by unfold ad_p3; rw [Bool.and_eq_true]; exact fun q => z q.1)
      rw [← e]; exact k
theorem ad_ciY {post : Int32 → Prop} (hA : ∀ a, A a < 256) (hG : ad_GA A ac) {w a : Nat} (hw : w < 256) (ha : w.testBit a = true) (h : post (nI (ad_cc A w a))) : wpY_circle post (nI T, kn, wt, ac, fa, wb) (nI a) (nI w) := by
  unfold wpY_circle
  have h8 := ad_b8 hw ha
  refine ad_ctY hA hG h8 ⟨9, ad_ci13Y hA hG h8 ?_ 8 0 9 rfl (by decide)⟩
  have e : ad_mk (ad_p3 A w a) 8 = ad_cc A w a := ad_cir hA hw ha
  rw [e]; exact h
theorem ad_fu19Y {post : Int32 → Prop} (hA : ∀ a, A a < 256) (hG : ad_GA A ac) {s w : Nat} (hs : s < 256) (hw : w < 256) (hf : ad_H A (s &&& w) &&& (s &&& w) = 0) (h1 : ad_full A s w → post 1) (h0 : ¬ ad_full A s w → post 0) : ∀ d i n, i + d = 8 → d < n → (∀ a, a < i → w.testBit a = true → ¬ (s &&& w).testBit a = true → ¬ (ad_H A (s &&& w ||| 2 ^ a) &&& (s &&& w ||| 2 ^ a) = 0)) → wY_isFull_19 post (nI w) (nI (s &&& w)) (nI T) kn wt ac fa wb n (nI i) := by
  intro d
  induction d with
  | zero =>
    intro i n hi hn hj
    obtain ⟨n, rfl⟩ := ad_s hn
    obtain rfl : i = 8 := by omega
    exact br_t (by decide) (h1 ⟨hf, hj⟩)
  | succ d ih =>
    intro i n hi hn hj
    obtain ⟨n, rfl⟩ := ad_s hn
    have h8 : i < 8 := by omega
    have ho : s &&& w < 256 := ad_andlt hs
    have hm := ad_orlt ho (ad_2lt h8)
    have k : (w.testBit i = true → ¬ (s &&& w).testBit i = true → ¬ (ad_H A (s &&& w ||| 2 ^ i) &&& (s &&& w ||| 2 ^ i) = 0)) → wY_isFull_19 post (nI w) (nI (s &&& w)) (nI T) kn wt ac fa wb n (nI (i + 1)) := fun z => ih (i + 1) n (by omega) (by omega) fun a ha x y => by
      by_cases e : a = i
      · rw [e] at x y ⊢; exact z x y
      · exact hj a (by omega) x y
    refine br_f (nI_ge h8 (by decide)) (nm_r (e' := nI (s &&& w ||| 2 ^ i)) (by rw [ad_one (by omega), ad_or]) ?_)
    rw [ad_tb (by omega) (by omega), nI_eq (by omega) (by omega)]
    refine br_c (fun x => br_c (fun y => nm_r (nI_1 i) (k fun _ y' => absurd ?_ y')) (fun y => ad_hiY hG hm ?_)) (fun x => nm_r (nI_1 i) (k fun x' => absurd x' x))
    · rw [← y]; exact (ad_or2_tb _ _ _).mpr (Or.inr rfl)
    · rw [ad_andI (ad_H_lt hA _)]
      refine br_c (fun z => h0 fun g => g.2 i h8 x (fun y' => y ?_) z) (fun z => nm_r (nI_1 i) (k fun _ _ => z))
      apply ad_ext
      intro j
      rw [ad_or2_tb]
      constructor
      · rintro (q | rfl)
        · exact q
        · exact y'
      · intro q; exact Or.inl q
theorem ad_fuY {post : Int32 → Prop} (hA : ∀ a, A a < 256) (hG : ad_GA A ac) {s w : Nat} (hs : s < 256) (hw : w < 256) (h1 : ad_full A s w → post 1) (h0 : ¬ ad_full A s w → post 0) : wpY_isFull post (nI T, kn, wt, ac, fa, wb) (nI s) (nI w) := by
  unfold wpY_isFull
  dsimp only
  refine nm_r (nx_and s w) (ad_hiY hG (ad_andlt hs) ?_)
  rw [ad_andI (ad_H_lt hA _)]
  exact br_c (fun z => ⟨9, ad_fu19Y hA hG hs hw z h1 h0 8 0 9 rfl (by decide) fun a ha => absurd ha (by omega)⟩) (fun z => h0 fun g => z g.1)
theorem ad_puY {post : SY → Prop} {p : Nat} {l : List Nat} (hp : p < 256) (hl : l.length < 16) (hk : ad_stk wb l) (h : ∀ wb, ad_stk wb (if p = 0 then l else p :: l) → post (nI T, kn, nI (if p = 0 then l else p :: l).length, ac, fa, wb)) : wpY_push post (nI T, kn, nI l.length, ac, fa, wb) (nI p) := by
  unfold wpY_push
  dsimp only
  refine pk_eq p 0 (fun z => ?_) (fun z => ?_)
  · rw [if_pos z] at h
    exact h wb hk
  · rw [if_neg z] at h
    refine ⟨pk_in l.length 16 hl, nm_e (nm_r (nI_1 l.length) ?_)⟩
    rw [ad_c (by omega)]
    exact h _ (ad_stk_p hk)
theorem ad_pa5Y {post : SY → Prop} (hA : ∀ a, A a < 256) (hG : ad_GA A ac) {s w : Nat} (hs : s < 256) (hw : w < 256) (hwT : ad_sub w T) {L : List Nat} (h : ∀ wb, ad_stk wb L → post (nI T, kn, nI L.length, ac, fa, wb)) : ∀ d i n r l wb, i + d = 8 → d < n → ad_cl A w r → ad_ok T l → ad_ps l + ad_pc r ≤ 8 → ad_stk wb l → ad_pt A s w d r l = L → wY_part_5 post (nI s) (nI w) n (nI r) (nI i) (nI T) kn (nI l.length) ac fa wb := by
  intro d
  induction d with
  | zero =>
    intro i n r l wb hi hn hr hl hp hk e
    obtain ⟨n, rfl⟩ := ad_s hn
    obtain rfl : i = 8 := by omega
    subst e
    exact br_t (by decide) (h wb hk)
  | succ d ih =>
    intro i n r l wb hi hn hr hl hp hk e
    obtain ⟨n, rfl⟩ := ad_s hn
    have h8 : i < 8 := by omega
    have hi7 : 7 - d = i := by omega
    unfold ad_pt at e
    rw [hi7] at e
    have hsw : s &&& w < 256 := ad_andlt hs
    have hc := ad_cc_lt hA w h8
    have hd := ad_df_lt (b := ad_cc A w i) hsw
    have hr1 := hr.1
    refine br_f (nI_ge h8 (by decide)) ?_
    rw [ad_tb (by omega) (by omega)]
    refine br_c (fun hb => ad_ciY hA hG hw (hr.2.1 i hb) ?_) (fun hb => nm_r (nI_1 i) ?_)
    · rw [if_pos hb] at e
      obtain ⟨k1, k2⟩ := ad_pt_1 hA (s := s) hw hwT hr hb hl
      have hr' := ad_cl_df hA hw hr hb
      rw [nx_and, ad_not hsw]
      refine ad_hiY hG hd ?_
      rw [ad_not hc]
      have hlen := ad_ok_len _ hl
      refine ad_puY (p := ad_pa A s w (ad_cc A w i)) (ad_pa_lt hA s w h8) (by omega) hk fun wb' hk' => ?_
      exact nm_r (ad_not hr.1) (nm_r (nI_1 i) (ih (i + 1) n _ _ wb' (by omega) (by omega) hr' k1 (by omega) hk' e))
    · rw [if_neg hb] at e
      exact ih (i + 1) n r l wb (by omega) (by omega) hr hl hp hk e
theorem ad_paY {post : SY → Prop} (hA : ∀ a, A a < 256) (hG : ad_GA A ac) {s w : Nat} (hs : s < 256) (hw : w < 256) (hwT : ad_sub w T) {l : List Nat} (hl : ad_ok T l) (hp : ad_ps l + ad_pc w ≤ 8) (hk : ad_stk wb l) (h : ∀ wb, ad_stk wb (ad_pt A s w 8 w l) → post (nI T, kn, nI (ad_pt A s w 8 w l).length, ac, fa, wb)) : wpY_part post (nI T, kn, nI l.length, ac, fa, wb) (nI s) (nI w) := by
  unfold wpY_part
  exact ⟨9, ad_pa5Y hA hG hs hw hwT h 8 0 9 w l wb rfl (by decide) (ad_cl_w hA hw) hl hp hk rfl⟩
theorem ad_el55Y {post : Int32 → SY → Prop} {J15 : Int32 → Int32 → Int32 → Int32 → (Nat → Int32) → (Nat → Int32) → (Nat → Int32) → Prop} (hA : ∀ a, A a < 256) (hG : ad_GA A ac) {s w i : Nat} (hs : s < 256) (hw : w < 256) (hz : w ≠ 0) (hwT : ad_sub w T) {l : List Nat} (hl : ad_ok T l) (hp : ad_ps l + ad_pc w ≤ 8) (hk : ad_stk wb l) (ha : ad_cc A w (ad_fi w) = w → ¬ ad_full A s w → post 0 (nI T, kn, nI l.length, ac, fa, wb)) (hb : ad_cc A w (ad_fi w) = w → ad_full A s w → J15 (nI (i + 1)) (nI T) kn (nI l.length) ac fa wb) (hc : ¬ ad_cc A w (ad_fi w) = w → ∀ wb, ad_stk wb (ad_pt A s w 8 w l) → J15 (nI (i + 1)) (nI T) kn (nI (ad_pt A s w 8 w l).length) ac fa wb) : ∀ m n f, m ≤ 8 → m < n → (∀ b, m ≤ b → w.testBit b = true → w.testBit f = true ∧ ∀ c, m ≤ c → c < f → ¬ w.testBit c = true) → wY_isEleventh_55 post J15 (nI s) (nI i) (nI w) (nI T) kn (nI l.length) ac fa wb n (nI f) (ad_dn m) := by
  intro m
  induction m with
  | zero =>
    intro n f _ hn hj
    obtain ⟨n, rfl⟩ := ad_s hn
    obtain ⟨b, hbit⟩ := ad_nz hz
    obtain ⟨q1, q2⟩ := hj b (Nat.zero_le b) hbit
    have e : ad_fi w = f := ad_fi_eq (ad_b8 hw q1) q1 (fun c hcf => q2 c (Nat.zero_le c) hcf)
    rw [e] at ha hb hc
    have hcc := ad_cc_lt hA w (ad_b8 hw q1)
    refine br_t (by decide) (ad_ciY hA hG hw q1 (pk_eq (ad_cc A w f) w (fun z => ad_fuY hA hG hs hw (fun g => br_f (by decide) (nm_r (nI_1 i) (hb z g))) (fun g => br_t rfl (ha z g))) (fun z => ?_)))
    exact ad_paY hA hG hs hw hwT hl hp hk fun wb' hk' => nm_r (nI_1 i) (hc z wb' hk')
  | succ m ih =>
    intro n f hm hn hj
    obtain ⟨n, rfl⟩ := ad_s hn
    have e : ad_dn (m + 1) = nI m := rfl
    rw [e]
    refine br_f (nI_pos (by omega)) ?_
    rw [ad_tb (by omega) (by omega)]
    refine br_c (fun z => nm_r (ad_dn_s m) (ih n m (by omega) (by omega) fun b _ _ => ⟨z, fun c h1 h2 => absurd h1 (by omega)⟩)) (fun z => nm_r (ad_dn_s m) (ih n f (by omega) (by omega) fun b h1 h2 => ?_))
    have hbm : m + 1 ≤ b := by
      by_cases q : b = m
      · rw [q] at h2; exact absurd h2 z
      · omega
    obtain ⟨q1, q2⟩ := hj b hbm h2
    refine ⟨q1, fun c h3 h4 => ?_⟩
    by_cases q : c = m
    · rw [q]; exact z
    · exact q2 c (by omega) h4
theorem ad_el15Y {post : Int32 → SY → Prop} (hA : ∀ a, A a < 256) (hG : ad_GA A ac) {s : Nat} (hs : s < 256) : ∀ k i n l wb, i + k < 64 → k < n → ad_ph l ≤ k → ad_ok T l → ad_ps l ≤ 8 → ad_stk wb l → (∀ wt wb, ad_run A s k l → post 1 (nI T, kn, wt, ac, fa, wb)) → (∀ wt wb, ¬ ad_run A s k l → post 0 (nI T, kn, wt, ac, fa, wb)) → wY_isEleventh_15 post (nI s) n (nI i) (nI T) kn (nI l.length) ac fa wb := by
  intro k
  induction k with
  | zero =>
    intro i n l wb hi hn hph hl hp hk h1 h0
    obtain ⟨n, rfl⟩ := ad_s hn
    cases l with
    | nil => exact br_f (nI_ge (show i < 64 from by omega) (by decide)) (br_t (by decide) (h1 _ wb trivial))
    | cons w l =>
      have := ad_pc_pos hl.1.1 hl.1.2.1
      have e : ad_ph (w :: l) = 2 * ad_pc w - 1 + ad_ph l := rfl
      omega
  | succ k ih =>
    intro i n l wb hi hn hph hl hp hk h1 h0
    obtain ⟨n, rfl⟩ := ad_s hn
    cases l with
    | nil => exact br_f (nI_ge (show i < 64 from by omega) (by decide)) (br_t (by decide) (h1 _ wb trivial))
    | cons w l =>
      obtain ⟨⟨hw, hz, hwT⟩, hl'⟩ := hl
      have hpw := ad_pc_pos hw hz
      have e1 : ad_ph (w :: l) = 2 * ad_pc w - 1 + ad_ph l := rfl
      have e2 : ad_ps (w :: l) = ad_pc w + ad_ps l := rfl
      have hlen := ad_ok_len l hl'
      have el : nI (w :: l).length = nI (l.length + 1) := rfl
      refine br_f (nI_ge (show i < 64 from by omega) (by decide)) (br_f (by rw [el]; exact nI_nle (by omega) (by omega)) (nm_r (nI_pred l.length) ⟨pk_in l.length 16 (by omega), nm_r (e' := nI w) (by rw [ad_c (by omega)]; exact hk.1) ⟨9, ?_⟩⟩))
      refine ad_el55Y hA hG hs hw hz hwT hl' (by omega) hk.2 (fun hj hf => h0 _ _ ?_) (fun hj hf => ?_) (fun hj wb' hk' => ?_) 8 9 0 (by decide) (by decide) (fun b h8 hb => absurd (ad_b8 hw hb) (by omega))
      · show ¬ (if ad_cc A w (ad_fi w) = w then ad_full A s w ∧ ad_run A s k l else ad_run A s k (ad_pt A s w 8 w l))
        rw [if_pos hj]
        exact fun z => hf z.1
      · have hr : ad_run A s (k + 1) (w :: l) ↔ ad_full A s w ∧ ad_run A s k l := by
          show (if ad_cc A w (ad_fi w) = w then ad_full A s w ∧ ad_run A s k l else ad_run A s k (ad_pt A s w 8 w l)) ↔ _
          rw [if_pos hj]
        exact ih (i + 1) n l wb (by omega) (by omega) (by omega) hl' (by omega) hk.2 (fun wt wb z => h1 wt wb (hr.mpr ⟨hf, z⟩)) (fun wt wb z => h0 wt wb fun y => z (hr.mp y).2)
      · have hr : ad_run A s (k + 1) (w :: l) ↔ ad_run A s k (ad_pt A s w 8 w l) := by
          show (if ad_cc A w (ad_fi w) = w then ad_full A s w ∧ ad_run A s k l else ad_run A s k (ad_pt A s w 8 w l)) ↔ _
          rw [if_neg hj]
        have p1 := (ad_pt_ph hA (s := s) hw 8 w l (by omega) (ad_cl_w hA hw) (fun b hb => absurd hb (by omega))).2 (ad_ex1 hA hw hz hj)
        have p2 := ad_pt_ok hA (s := s) hw hwT 8 w l (ad_cl_w hA hw) hl'
        have e3 : ad_g w = 2 * ad_pc w - 1 := rfl
        exact ih (i + 1) n _ wb' (by omega) (by omega) (by omega) p2.1 (by omega) hk' (fun wt wb z => h1 wt wb (hr.mpr z)) (fun wt wb z => h0 wt wb fun y => z (hr.mp y))
theorem ad_elY {post : Int32 → SY → Prop} (hT : T < 256) (hA : ∀ a, A a < 256) (hG : ad_GA A ac) {s : Nat} (hs : s < 256) (h1 : ∀ wt wb, ad_run A s 16 (if T = 0 then [] else [T]) → post 1 (nI T, kn, wt, ac, fa, wb)) (h0 : ∀ wt wb, ¬ ad_run A s 16 (if T = 0 then [] else [T]) → post 0 (nI T, kn, wt, ac, fa, wb)) : wpY_isEleventh post (nI T, kn, wt, ac, fa, wb) (nI s) := by
  unfold wpY_isEleventh
  dsimp only
  refine ad_puY (l := []) hT (by decide) trivial fun wb' hk' => ⟨17, ?_⟩
  have hp := ad_pc_le T
  refine ad_el15Y hA hG hs 16 0 17 _ _ (by decide) (by decide) ?_ ?_ ?_ hk' h1 h0
  · by_cases z : T = 0
    · rw [if_pos z]; exact Nat.zero_le _
    · rw [if_neg z]; show 2 * ad_pc T - 1 + 0 ≤ 16; omega
  · by_cases z : T = 0
    · rw [if_pos z]; exact trivial
    · rw [if_neg z]; exact ⟨⟨hT, z, ad_subR T⟩, trivial⟩
  · by_cases z : T = 0
    · rw [if_pos z]; exact Nat.zero_le _
    · rw [if_neg z]; show ad_pc T + 0 ≤ 8; omega
end
