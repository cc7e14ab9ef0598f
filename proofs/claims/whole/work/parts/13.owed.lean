/-! what is owed -/
def i_Rel (k : Nat) (u : SX) (v : SY) : Prop := ad_Rl u v
theorem i_up {k : Nat} {u : SX} {v : SY} (h : i_Rel k u v) : i_Rel (k + 4) u v := h
theorem i_vc0 : wpX_init (fun u => wpY_init (fun v => i_Rel 0 u v)) := by
  have hB : ∀ b, ad_B (fun _ => 0) b = 0 := fun b => ad_z.mpr fun i => by
    rw [← Bool.not_eq_true, ad_B_tb, Nat.zero_testBit]
    exact fun z => absurd z.2 (by decide)
  exact ad_Rli (T := 0) (A := fun _ => 0) (by decide) (fun _ => by decide) (fun b _ => by rw [hB b]; rfl) (fun _ _ => rfl) (Or.inl rfl) (Or.inl rfl)
theorem i_vc_put {k : Nat} {u : SX} {v : SY} (I : i_Rel k u v) (hk : k + 4 ≤ 2048) (v1 : Int32) (v2 : Int32) : wpX_put (fun r u' => wpY_put (fun r' v' => r' = r ∧ i_Rel (k + 4) u' v') v v1 (lw_bz v2)) u v1 (lw_bz v2) := by
  obtain ⟨T, A, fr, aO, tg, so, de, he, wa, kn, wt, ac, fa, wb, hT, hA, rfl, rfl, hO, hG, hX, hY⟩ := id I
  unfold wpX_put wpY_put
  dsimp only
  by_cases hz : v1 < 0
  · exact br_t hz (br_t hz ⟨rfl, I⟩)
  · obtain ⟨a, ha, rfl⟩ := nI_of hz
    refine br_f hz (pk_le 8 a (fun h => br_f hz (pk_lt 7 a (fun _ => ⟨rfl, I⟩) (fun q => absurd q (by omega)))) (fun h => ?_))
    have hx2 := Nat.xor_lt_two_pow (n := 8) hT (ad_2lt h)
    have hfin : ∀ (aO' ac' : Nat → Int32), ad_Cl (ad_B A) a 8 aO' → ad_Cl A a 8 ac' → ad_Rl (nI (T ^^^ 2 ^ a), 0, aO', tg, so, de, he, wa) (nI (T ^^^ 2 ^ a), 0, wt, ac', fa, wb) := fun aO' ac' h1 h2 => ad_Rli hx2 (ad_A1_lt hA a) (ad_A1_GO hA h1) (ad_A1_GA h2) (Or.inl rfl) (Or.inl rfl)
    have e : nI T ^^^ ((1 : Int32) <<< (nI a &&& 31)) = nI (T ^^^ 2 ^ a) := by rw [ad_one (by omega), nx_xor]
    refine ad_isThX hT (fun z => ?_) (fun z => ?_)
    · rw [ad_th_i h] at z
      refine br_c (fun y => br_f hz (pk_lt 7 a (fun q => absurd h (by omega)) (fun _ => ?_))) (fun y => nm_r e (ad_clX (ad_B_lt A) h hO fun aO' hC => br_f hz (pk_lt 7 a (fun q => absurd h (by omega)) (fun _ => ?_))))
      · rw [ad_tb (by omega) (by omega)]
        exact br_t z (br_t y.symm ⟨rfl, I⟩)
      · rw [ad_tb (by omega) (by omega)]
        exact br_t z (ad_pu28Y hA hG h (fun q => absurd q.symm y) (fun _ ac' hC' => ⟨rfl, hfin _ _ hC hC'⟩))
    · rw [ad_th_i h] at z
      refine br_c (fun y => br_f hz (pk_lt 7 a (fun q => absurd h (by omega)) (fun _ => ?_))) (fun y => nm_r e (ad_clX (ad_B_lt A) h hO fun aO' hC => br_f hz (pk_lt 7 a (fun q => absurd h (by omega)) (fun _ => ?_))))
      · rw [ad_tb (by omega) (by omega)]
        exact br_f z (br_t y.symm ⟨rfl, I⟩)
      · rw [ad_tb (by omega) (by omega)]
        exact br_f z (ad_pu28Y hA hG h (fun q => absurd q.symm y) (fun _ ac' hC' => ⟨rfl, hfin _ _ hC hC'⟩))
theorem i_vc_attack {k : Nat} {u : SX} {v : SY} (I : i_Rel k u v) (hk : k + 4 ≤ 2048) (v1 : Int32) (v2 : Int32) (v3 : Int32) : wpX_attack (fun r u' => wpY_attack (fun r' v' => r' = r ∧ i_Rel (k + 4) u' v') v v1 v2 (lw_bz v3)) u v1 v2 (lw_bz v3) := by
  obtain ⟨T, A, fr, aO, tg, so, de, he, wa, kn, wt, ac, fa, wb, hT, hA, rfl, rfl, hO, hG, hX, hY⟩ := id I
  unfold wpX_attack wpY_attack
  dsimp only
  refine ad_isThX hT (fun z => br_f (by decide) ?_) (fun z => br_t rfl (ad_isThY hT (fun q => absurd q z) (fun _ => br_t rfl ⟨rfl, I⟩)))
  refine ad_isThX hT (fun y => br_f (by decide) ?_) (fun y => br_t rfl (ad_isThY hT (fun _ => br_f (by decide) (ad_isThY hT (fun q => absurd q y) (fun _ => br_t rfl ⟨rfl, I⟩))) (fun q => absurd z q)))
  obtain ⟨a, ha, rfl, hTa⟩ := id z
  obtain ⟨b, hb, rfl, hTb⟩ := id y
  have hAa := hA a
  have hBb := ad_B_lt A b
  have hfin : ad_Rl (nI T, 0, upd aO b (nI (ad_B A b) ^^^ ((1 : Int32) <<< (nI a &&& 31))), tg, so, de, he, wa) (nI T, 0, wt, upd ac a (nI (A a) ^^^ ((1 : Int32) <<< (nI b &&& 31))), fa, wb) := by
    rw [← hO b hb, ← hG a ha]
    exact ad_Rli hT (ad_A2_lt hA hb) (ad_A2_GO ha hb hO) (ad_A2_GA hb hG ha) (Or.inl rfl) (Or.inl rfl)
  refine ⟨pk_in b 8 hb, ?_⟩
  rw [ad_c (i := b) (by omega), hO b hb]
  refine ad_has hBb ha (fun q => ?_) (fun q => ?_)
  · have q' := ((ad_B_tb A b a).mp q).2
    refine br_c (fun w => ad_isThY hT (fun _ => br_f (by decide) (ad_isThY hT (fun _ => br_f (by decide) ⟨pk_in a 8 ha, ?_⟩) (fun q => absurd y q))) (fun q => absurd z q)) (fun w => ⟨pk_in b 8 hb, pk_in b 8 hb, nm_e (ad_isThY hT (fun _ => br_f (by decide) (ad_isThY hT (fun _ => br_f (by decide) ⟨pk_in a 8 ha, ?_⟩) (fun q => absurd y q))) (fun q => absurd z q))⟩)
    · rw [ad_c (i := a) (by omega), hG a ha, ad_tb (by omega) (by omega)]
      exact br_t q' (br_t w.symm ⟨rfl, I⟩)
    · rw [ad_c (i := a) (by omega), hG a ha, ad_tb (by omega) (by omega)]
      refine br_t q' (br_f (fun x => w x.symm) ⟨pk_in a 8 ha, pk_in a 8 ha, nm_e ⟨rfl, ?_⟩⟩)
      rw [ad_c (i := a) (by omega), hG a ha]
      exact hfin
  · have q' : ¬ (A a).testBit b = true := fun x => q ((ad_B_tb A b a).mpr ⟨ha, x⟩)
    refine br_c (fun w => ad_isThY hT (fun _ => br_f (by decide) (ad_isThY hT (fun _ => br_f (by decide) ⟨pk_in a 8 ha, ?_⟩) (fun q => absurd y q))) (fun q => absurd z q)) (fun w => ⟨pk_in b 8 hb, pk_in b 8 hb, nm_e (ad_isThY hT (fun _ => br_f (by decide) (ad_isThY hT (fun _ => br_f (by decide) ⟨pk_in a 8 ha, ?_⟩) (fun q => absurd y q))) (fun q => absurd z q))⟩)
    · rw [ad_c (i := a) (by omega), hG a ha, ad_tb (by omega) (by omega)]
      exact br_f q' (br_t w.symm ⟨rfl, I⟩)
    · rw [ad_c (i := a) (by omega), hG a ha, ad_tb (by omega) (by omega)]
      refine br_f q' (br_f (fun x => w x.symm) ⟨pk_in a 8 ha, pk_in a 8 ha, nm_e ⟨rfl, ?_⟩⟩)
      rw [ad_c (i := a) (by omega), hG a ha]
      exact hfin
theorem i_vc_attackers {k : Nat} {u : SX} {v : SY} (I : i_Rel k u v) (hk : k + 4 ≤ 2048) (v1 : Int32) : wpX_attackers (fun r => wpY_attackers (fun r' => r' = r ∧ i_Rel (k + 4) u v) v v1) u v1 := by
  obtain ⟨T, A, fr, aO, tg, so, de, he, wa, kn, wt, ac, fa, wb, hT, hA, rfl, rfl, hO, hG, hX, hY⟩ := id I
  unfold wpX_attackers
  dsimp only
  refine ad_isThX hT (fun z => br_f (by decide) ?_) (fun z => br_t rfl (ad_atY hT hA hG (fun a ha e hb => absurd ⟨a, ha, e, hb⟩ z) (fun _ => ⟨rfl, I⟩)))
  obtain ⟨a, ha, rfl, hTa⟩ := id z
  refine ⟨pk_in a 8 ha, ad_atY hT hA hG (fun b hb e _ => ⟨?_, I⟩) (fun q => absurd z q)⟩
  rw [ad_c (by omega), hO a ha, ad_inj (by omega) (by omega) e]
theorem i_vc_count {k : Nat} {u : SX} {v : SY} (I : i_Rel k u v) (hk : k + 4 ≤ 2048) (v1 : Int32) : wpX_count (fun r u' => wpY_count (fun r' v' => r' = r ∧ i_Rel (k + 4) u' v') v v1) u v1 := by
  obtain ⟨T, A, fr, aO, tg, so, de, he, wa, kn, wt, ac, fa, wb, hT, hA, rfl, rfl, hO, hG, hX, hY⟩ := id I
  unfold wpX_count wpY_count
  dsimp only
  refine ad_isSenX (fun z => br_f (by decide) ?_) (fun z => br_t rfl (ad_isSenY (fun q => absurd q z) (fun _ => br_t rfl ⟨rfl, I⟩)))
  obtain ⟨σ, hσ, rfl⟩ := id z
  refine ad_rfX hT hA hO hX fun tg so de he wa hTX hAX => ?_
  dsimp only
  obtain ⟨r, h1, h2⟩ := ad_cnL (th := nI T) (fr := 1) (aO := aO) (tg := tg) (so := so) (de := de) (he := he) (wa := wa) hσ 256 0 0 rfl
  refine ⟨257, h1 _ 257 (by decide) ?_⟩
  refine ad_isSenY (fun _ => br_f (by decide) ?_) (fun q => absurd z q)
  refine ad_woY hT hA hG hY fun wt fa wb hAY => ?_
  dsimp only
  exact ⟨257, h2 _ _ _ _ _ _ (ad_Al_i hAX hAY hσ) _ 257 (by decide) ⟨rfl, ad_Rli hT hA hO hG (Or.inr ⟨rfl, hTX, hAX⟩) (Or.inr ⟨rfl, hAY⟩)⟩⟩
theorem i_vc_is {k : Nat} {u : SX} {v : SY} (I : i_Rel k u v) (hk : k + 4 ≤ 2048) (v1 : Int32) (v2 : Int32) : wpX_is (fun r u' => wpY_is (fun r' v' => r' = r ∧ i_Rel (k + 4) u' v') v v1 v2) u v1 v2 := by
  obtain ⟨T, A, fr, aO, tg, so, de, he, wa, kn, wt, ac, fa, wb, hT, hA, rfl, rfl, hO, hG, hX, hY⟩ := id I
  unfold wpX_is wpY_is
  dsimp only
  refine ad_isSenX (fun z => br_f (by decide) ?_) (fun z => br_t rfl (ad_isSenY (fun q => absurd q z) (fun _ => br_t rfl ⟨rfl, I⟩)))
  refine ad_isSetX (fun y => br_f (by decide) ?_) (fun y => br_t rfl (ad_isSenY (fun _ => br_f (by decide) (ad_isSetY (fun q => absurd q y) (fun _ => br_t rfl ⟨rfl, I⟩))) (fun q => absurd z q)))
  obtain ⟨σ, hσ, rfl⟩ := id z
  obtain ⟨s, hs, rfl, hsT⟩ := id y
  refine ad_rfX hT hA hO hX fun tg so de he wa hTX hAX => ?_
  dsimp only
  have hb := hAX σ hσ s hs
  have hin : vp_in (nI (256 * σ + s)) 3072 := pk_in (256 * σ + s) 3072 (by omega)
  rw [ad_ixX, ad_c (by omega)]
  refine ⟨hin, ad_nar hb, ?_⟩
  refine ad_isSenY (fun _ => br_f (by decide) ?_) (fun q => absurd z q)
  refine ad_isSetY (fun _ => br_f (by decide) ?_) (fun q => absurd y q)
  refine ad_woY hT hA hG hY fun wt fa wb hAY => ?_
  dsimp only
  have hb' := hAY σ hσ s hs
  rw [ad_ixY, ad_c (by omega)]
  exact ⟨hin, ad_nar hb', ad_TbU hb' hb, ad_Rli hT hA hO hG (Or.inr ⟨rfl, hTX, hAX⟩) (Or.inr ⟨rfl, hAY⟩)⟩
theorem i_vc_set {k : Nat} {u : SX} {v : SY} (I : i_Rel k u v) (hk : k + 4 ≤ 2048) (v1 : Int32) (v2 : Int32) : wpX_set (fun r u' => wpY_set (fun r' v' => r' = r ∧ i_Rel (k + 4) u' v') v v1 v2) u v1 v2 := by
  obtain ⟨T, A, fr, aO, tg, so, de, he, wa, kn, wt, ac, fa, wb, hT, hA, rfl, rfl, hO, hG, hX, hY⟩ := id I
  unfold wpX_set wpY_set
  dsimp only
  refine ad_isSenX (fun z => br_f (by decide) ?_) (fun z => br_t rfl (ad_isSenY (fun q => absurd q z) (fun _ => br_t rfl ⟨rfl, I⟩)))
  obtain ⟨σ, hσ, rfl⟩ := id z
  refine ad_rfX hT hA hO hX fun tg so de he wa hTX hAX => ?_
  dsimp only
  obtain ⟨r, h1, h2⟩ := ad_seL (th := nI T) (fr := 1) (aO := aO) (tg := tg) (so := so) (de := de) (he := he) (wa := wa) (p := v2) hσ 256 0 0 rfl
  refine ⟨257, h1 _ 257 (by decide) ?_⟩
  refine ad_isSenY (fun _ => br_f (by decide) ?_) (fun q => absurd z q)
  refine ad_woY hT hA hG hY fun wt fa wb hAY => ?_
  dsimp only
  exact ⟨257, h2 _ _ _ _ _ _ (ad_Al_i hAX hAY hσ) _ 257 (by decide) ⟨rfl, ad_Rli hT hA hO hG (Or.inr ⟨rfl, hTX, hAX⟩) (Or.inr ⟨rfl, hAY⟩)⟩⟩
theorem i_vc_some {k : Nat} {u : SX} {v : SY} (I : i_Rel k u v) (hk : k + 4 ≤ 2048) (v1 : Int32) : wpX_some (fun r u' => wpY_some (fun r' v' => r' = r ∧ i_Rel (k + 4) u' v') v v1) u v1 := by
  obtain ⟨T, A, fr, aO, tg, so, de, he, wa, kn, wt, ac, fa, wb, hT, hA, rfl, rfl, hO, hG, hX, hY⟩ := id I
  unfold wpX_some wpY_some
  dsimp only
  refine ad_isSenX (fun z => br_f (by decide) ?_) (fun z => br_t rfl (ad_isSenY (fun q => absurd q z) (fun _ => br_t rfl ⟨rfl, I⟩)))
  obtain ⟨σ, hσ, rfl⟩ := id z
  refine ad_rfX hT hA hO hX fun tg so de he wa hTX hAX => ?_
  dsimp only
  obtain ⟨r, h1, h2⟩ := ad_soL (th := nI T) (fr := 1) (aO := aO) (tg := tg) (so := so) (de := de) (he := he) (wa := wa) hσ 256 0 0 rfl
  refine ⟨257, h1 _ 257 (by decide) ?_⟩
  refine ad_isSenY (fun _ => br_f (by decide) ?_) (fun q => absurd z q)
  refine ad_woY hT hA hG hY fun wt fa wb hAY => ?_
  dsimp only
  exact ⟨257, h2 _ _ _ _ _ _ (ad_Al_i hAX hAY hσ) _ 257 (by decide) ⟨rfl, ad_Rli hT hA hO hG (Or.inr ⟨rfl, hTX, hAX⟩) (Or.inr ⟨rfl, hAY⟩)⟩⟩
theorem i_vc_every {k : Nat} {u : SX} {v : SY} (I : i_Rel k u v) (hk : k + 4 ≤ 2048) (v1 : Int32) : wpX_every (fun r u' => wpY_every (fun r' v' => r' = r ∧ i_Rel (k + 4) u' v') v v1) u v1 := by
  obtain ⟨T, A, fr, aO, tg, so, de, he, wa, kn, wt, ac, fa, wb, hT, hA, rfl, rfl, hO, hG, hX, hY⟩ := id I
  unfold wpX_every wpY_every
  dsimp only
  refine ad_isSenX (fun z => br_f (by decide) ?_) (fun z => br_t rfl (ad_isSenY (fun q => absurd q z) (fun _ => br_t rfl ⟨rfl, I⟩)))
  obtain ⟨σ, hσ, rfl⟩ := id z
  refine ad_rfX hT hA hO hX fun tg so de he wa hTX hAX => ?_
  dsimp only
  refine ad_comX hT hσ (hAX σ hσ) fun c hc hcom => ?_
  refine ad_isSenY (fun _ => br_f (by decide) ?_) (fun q => absurd z q)
  refine ad_woY hT hA hG hY fun wt fa wb hAY => ?_
  dsimp only
  refine ad_comY hT hσ (hAY σ hσ) fun c' hc' hcom' => ⟨?_, ad_Rli hT hA hO hG (Or.inr ⟨rfl, hTX, hAX⟩) (Or.inr ⟨rfl, hAY⟩)⟩
  rw [ad_com_eq hcom' hcom]
theorem i_vc_round {k : Nat} {u : SX} {v : SY} (I : i_Rel k u v) (hk : k + 4 ≤ 2048) (v1 : Int32) : wpX_round (fun r u' => wpY_round (fun r' => r' = r ∧ i_Rel (k + 4) u' v) v v1) u v1 := by
  obtain ⟨T, A, fr, aO, tg, so, de, he, wa, kn, wt, ac, fa, wb, hT, hA, rfl, rfl, hO, hG, hX, hY⟩ := id I
  unfold wpX_round wpY_round
  dsimp only
  refine ad_isThX hT (fun z => br_f (by decide) ?_) (fun z => br_t rfl (ad_isThY hT (fun q => absurd q z) (fun _ => br_t rfl ⟨rfl, I⟩)))
  obtain ⟨a, ha, rfl, hTa⟩ := id z
  refine ad_rfX hT hA hO hX fun tg so de he wa hTX hAX => ?_
  dsimp only
  obtain ⟨r, h1, h2⟩ := ad_roL (th := nI T) (fr := 1) (aO := aO) (he := he) (wa := wa) (kn := kn) (wt := wt) (fa := fa) (wb := wb) hT hA hTX hG ha 8 1 0 rfl (by decide) (ad_sub0 _)
  refine ⟨9, h1 _ 9 (by decide) ?_⟩
  refine ad_isThY hT (fun _ => br_f (by decide) ?_) (fun q => absurd z q)
  exact ⟨9, h2 _ 9 (by decide) ⟨rfl, ad_Rli hT hA hO hG (Or.inr ⟨rfl, hTX, hAX⟩) hY⟩⟩
theorem i_vc_weak {k : Nat} {u : SX} {v : SY} (I : i_Rel k u v) (hk : k + 4 ≤ 2048) (v1 : Int32) : wpX_weak (fun r u' => wpY_weak (fun r' => r' = r ∧ i_Rel (k + 4) u' v) v v1) u v1 := by
  obtain ⟨T, A, fr, aO, tg, so, de, he, wa, kn, wt, ac, fa, wb, hT, hA, rfl, rfl, hO, hG, hX, hY⟩ := id I
  unfold wpX_weak wpY_weak
  dsimp only
  refine ad_isSetX (fun z => br_f (by decide) ?_) (fun z => br_t rfl (ad_isSetY (fun q => absurd q z) (fun _ => br_t rfl ⟨rfl, I⟩)))
  obtain ⟨s, hs, rfl, hsT⟩ := id z
  refine ad_rfX hT hA hO hX fun tg so de he wa hTX hAX => ?_
  dsimp only
  rw [ad_c (by omega), (hTX s hs).1, (hTX s hs).2.2]
  refine ⟨pk_in s 256 hs, pk_in s 256 hs, ?_⟩
  refine ad_isSetY (fun _ => br_f (by decide) ?_) (fun q => absurd z q)
  refine ad_deY hT hA hG hs (ad_hiY hG hs ⟨?_, ad_Rli hT hA hO hG (Or.inr ⟨rfl, hTX, hAX⟩) hY⟩)
  rw [Int32.or_comm]
theorem i_vc_agree {k : Nat} {u : SX} {v : SY} (I : i_Rel k u v) (hk : k + 4 ≤ 2048) (v1 : Int32) (v2 : Int32) : wpX_agree (fun r u' => wpY_agree (fun r' v' => r' = r ∧ i_Rel (k + 4) u' v') v v1 v2) u v1 v2 := by
  obtain ⟨T, A, fr, aO, tg, so, de, he, wa, kn, wt, ac, fa, wb, hT, hA, rfl, rfl, hO, hG, hX, hY⟩ := id I
  unfold wpX_agree wpY_agree
  dsimp only
  refine ad_isSenX (fun z => br_f (by decide) ?_) (fun z => br_t rfl (ad_isSenY (fun q => absurd q z) (fun _ => br_t rfl ⟨rfl, I⟩)))
  refine ad_isSenX (fun y => br_f (by decide) ?_) (fun y => br_t rfl (ad_isSenY (fun _ => br_f (by decide) (ad_isSenY (fun q => absurd q y) (fun _ => br_t rfl ⟨rfl, I⟩))) (fun q => absurd z q)))
  obtain ⟨σ, hσ, rfl⟩ := id z
  obtain ⟨ρ, hρ, rfl⟩ := id y
  refine ad_rfX hT hA hO hX fun tg so de he wa hTX hAX => ?_
  dsimp only
  obtain ⟨r, h1, h2⟩ := ad_agL (th := nI T) (fr := 1) (aO := aO) (tg := tg) (so := so) (de := de) (he := he) (wa := wa) hσ hρ 256 0 rfl
  refine ⟨257, h1 _ 257 (by decide) ?_⟩
  refine ad_isSenY (fun _ => br_f (by decide) ?_) (fun q => absurd z q)
  refine ad_isSenY (fun _ => br_f (by decide) ?_) (fun q => absurd y q)
  refine ad_woY hT hA hG hY fun wt fa wb hAY => ?_
  dsimp only
  exact ⟨257, h2 _ _ _ _ _ _ (ad_Al_i hAX hAY hσ) (ad_Al_i hAX hAY hρ) _ 257 (by decide) ⟨rfl, ad_Rli hT hA hO hG (Or.inr ⟨rfl, hTX, hAX⟩) (Or.inr ⟨rfl, hAY⟩)⟩⟩
theorem i_vc_effort {k : Nat} {u : SX} {v : SY} (I : i_Rel k u v) (hk : k + 4 ≤ 2048) (v1 : Int32) : wpX_effort (fun r u' => wpY_effort (fun r' => r' = r ∧ i_Rel (k + 4) u' v) v v1) u v1 := by
  obtain ⟨T, A, fr, aO, tg, so, de, he, wa, kn, wt, ac, fa, wb, hT, hA, rfl, rfl, hO, hG, hX, hY⟩ := id I
  unfold wpX_effort wpY_effort
  dsimp only
  refine ad_isSetX (fun z => br_f (by decide) ?_) (fun z => br_t rfl (ad_isSetY (fun q => absurd q z) (fun _ => br_t rfl ⟨rfl, I⟩)))
  obtain ⟨s, hs, rfl, hsT⟩ := id z
  refine pk_eq s 0 (fun e => pk_eq T 0 (fun t => ?_) (fun t => ?_)) (fun e => ?_)
  · refine ad_ef24 hT hA hO hX hs fun tg so de he wa hTX hAX => ?_
    refine ad_isSetY (fun _ => br_f (by decide) (pk_eq s 0 (fun _ => pk_eq T 0 (fun _ => ⟨?_, ad_Rli hT hA hO hG (Or.inr ⟨rfl, hTX, hAX⟩) hY⟩) (fun q => absurd t q)) (fun q => absurd e q))) (fun q => absurd z q)
    rw [ad_ef0 e t]; rfl
  · refine ad_isSetY (fun _ => br_f (by decide) (pk_eq s 0 (fun _ => pk_eq T 0 (fun q => absurd q t) (fun _ => ⟨rfl, I⟩)) (fun q => absurd e q))) (fun q => absurd z q)
  · refine ad_ef24 hT hA hO hX hs fun tg so de he wa hTX hAX => ?_
    refine ad_isSetY (fun _ => br_f (by decide) (pk_eq s 0 (fun q => absurd q e) (fun _ => ad_hiY hG hs ⟨9, ?_⟩))) (fun q => absurd z q)
    refine ad_ef39 hT hs ⟨65, ?_⟩ 8 0 9 rfl (by decide)
    refine ad_ef79 hA hG hs ⟨?_, ad_Rli hT hA hO hG (Or.inr ⟨rfl, hTX, hAX⟩) hY⟩ 64 0 65 rfl (by decide)
    exact congrArg (fun x => nI (ad_pc (ad_df (ad_df T s) (ad_H A s)) + x)) (ad_eff A hs).symm
