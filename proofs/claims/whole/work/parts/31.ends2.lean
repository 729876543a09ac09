/-! left, wrong -/
noncomputable def lfB (σ : Sg) (r : Nat) : Bool := sE σ r && !(decide (frK σ (sB σ) r = sH σ))
noncomputable def lfN (σ : Sg) (n : Nat) : Nat := fb_ct (lfB σ) n
theorem lfN_1 {σ : Sg} (W : Wf σ) : lfN σ 1 = 0 := by
  unfold lfN
  refine fb_ct_zero.mpr (fun k hk => ?_)
  have : k = 0 := by omega
  subst this
  unfold lfB
  cases e : sE σ 0 with
  | false => rfl
  | true => have := (W.2.2.2.2.2.1 0 e).1; omega
theorem lfN_le (σ : Sg) (n : Nat) : lfN σ n ≤ n := fb_ct_le _ n
theorem nI_add0 (a : Nat) : nI a + 0 = nI a := nI_add a 0
theorem sX3_unfinished {σ : Sg} {M : zM} (W : Wf σ) (X : RX σ M) {post : Int32 → zM → Prop} (h : ∀ M', KX M M' → M'.1 19 = M.1 19 → post (nI (lfN σ (sR σ))) M') : pX3_unfinishedEnds M post := by
  have hR := W.1
  have hH := W.2.2.1
  unfold pX3_unfinishedEnds
  refine sX2_spreadVectors W X (fun l hl => X.2.2.2.1 l (by omega)) (fun M1 hK1 hv1 => ?_)
  have X1 := X.K (hK1.x (by decide))
  unfold pX3_unfinishedEnds_L18
  refine ⟨fun n x1 x2 M2 => ∃ r, 1 ≤ r ∧ r ≤ sR σ ∧ n = sR σ - r ∧ x1 = nI (lfN σ r) ∧ x2 = nI r ∧ KS M1 M2, ⟨sR σ - 1, 1, by omega, by omega, rfl, by rw [lfN_1 W]; rfl, rfl, KS.rf⟩, ?_⟩
  rintro n x1 x2 M2 ⟨r, hr1, hr, hn, rfl, rfl, hK2⟩
  have X2 := X1.K hK2.x
  unfold pX3_unfinishedEnds_b18 pX3_unfinishedEnds_b62
  rw [X2.1.1]
  refine lp (by omega) hr (fun e => ?_) (fun hr2 => sX5_flag (by omega) ?_)
  · subst e
    exact h M2 ((hK1.x (by decide)).tr hK2.x) (by rw [hK2.1 19 (by decide) (by decide), hK1.1])
  · rw [X2.2.1 r (by omega)]
    have hlf : lfN σ (r + 1) = lfN σ r + (if lfB σ r then 1 else 0) := fb_ct_succ _ _
    refine bI_e1 (fun he => sX3_gather W X2 (fun l hl j hj => by rw [hK2.2 14 (by decide)]; exact hv1 l hl j hj) (by omega) (fun M3 hK3 S => ?_)) (fun he => ⟨sR σ - (r + 1), by omega, r + 1, by omega, by omega, rfl, ?_, nI_1 r, hK2⟩)
    · obtain ⟨pv, u, E, _⟩ := S
      have hk := EL_k E.1
      rw [(X2.K hK3.x).1.2.2]
      refine le2 (by omega) (by omega) (fun e => ⟨sR σ - (r + 1), by omega, r + 1, by omega, by omega, rfl, ?_, nI_1 r, hK2.tr hK3⟩) (fun e => ⟨sR σ - (r + 1), by omega, r + 1, by omega, by omega, rfl, ?_, nI_1 r, hK2.tr hK3⟩)
      · have hb : lfB σ r = false := by unfold lfB; rw [he, decide_eq_true (by omega)]; rfl
        rw [hlf, hb]; rfl
      · have hb : lfB σ r = true := by unfold lfB; rw [he, decide_eq_false (by omega)]; rfl
        rw [hlf, hb]; exact nI_1 _
    · have hb : lfB σ r = false := by unfold lfB; rw [he]; rfl
      rw [hlf, hb]; rfl
theorem sX6_hasAll {σ : Sg} {N : zM} (W : Wf σ) (Y : RM σ N) {dn : Nat → Bool} (hvec : ∀ l, l < sL σ → ∀ p, p < 4 → N.1 33 (4 * l + p) = nI (vV σ dn l p)) {r : Nat} (hr : r < 12) {post : Int32 → zM → Prop}
    (h : ∀ N', KT N N' → post (bI (decide (frK σ dn r = sH σ))) N') : pX6_hasAll N (nI r) post := by
  have hH := W.2.2.1
  unfold pX6_hasAll
  refine sX6_study W Y hvec hr (fun N1 hK S => ?_)
  obtain ⟨pv, u, la, S1, S2⟩ := S
  unfold pX6_hasAll_L7
  refine ⟨fun n x2 N2 => ∃ p, p ≤ sH σ ∧ n = sH σ - p ∧ x2 = nI p ∧ K38 N1 N2 ∧ ∀ p', p' < p → inSp (sH σ) (frK σ dn r) (fun i => vV σ dn (frF σ dn r i)) (eP p'), ⟨sH σ, 0, by omega, rfl, rfl, K38.rf, fun p hp => by omega⟩, ?_⟩
  rintro n x2 N2 ⟨p, hp, hn, rfl, hK2, hall⟩
  have hH2 : N2.1 21 3 = nI (sH σ) := ((Y.K hK.m).K hK2.t.m).1.2.2
  unfold pX6_hasAll_b7
  rw [hH2]
  refine lp (by omega) hp (fun e => ⟨Or.inr rfl, ?_⟩) (fun hp2 => sX6_solvesFor (by omega) hH2 (S1.K hK2) hp2 (fun hin N3 hK3 _ => ne01 ⟨sH σ - (p + 1), by omega, p + 1, by omega, rfl, nI_1 p, hK2.tr hK3, fun p' hp' => ?_⟩) (fun hout N3 hK3 => eq00' ⟨Or.inl rfl, ?_⟩))
  · subst e
    have hd := h N2 (hK.tr hK2.t)
    rw [decide_eq_true ((EL_all S1.1.1).mp hall)] at hd
    exact hd
  · rcases (show p' < p ∨ p' = p by omega) with z | z
    · exact hall p' z
    · rw [z]; exact hin
  · have hd := h N3 (hK.tr (hK2.tr hK3).t)
    rw [decide_eq_false (fun q => hout ((EL_all S1.1.1).mpr q p hp2))] at hd
    exact hd
theorem sX6_left {σ : Sg} {N : zM} (W : Wf σ) (Y : RM σ N) (A : Al N (-1) (-1)) {post : Int32 → zM → Prop} (h : ∀ N', KM N N' → N'.1 41 = N.1 41 → post (nI (lfN σ (sR σ))) N') : pX6_left N post := by
  have hR := W.1
  have hH := W.2.2.1
  unfold pX6_left
  refine sX6_work W Y A (fun N1 hK1 hd => ?_)
  have Y1 := Y.K hK1.m
  have hvec := wvec W hd
  unfold pX6_left_L8
  refine ⟨fun n x1 x2 N2 => ∃ r, 1 ≤ r ∧ r ≤ sR σ ∧ n = sR σ - r ∧ x1 = nI (lfN σ r) ∧ x2 = nI r ∧ KT N1 N2, ⟨sR σ - 1, 1, by omega, by omega, rfl, by rw [lfN_1 W]; rfl, rfl, KT.rf⟩, ?_⟩
  rintro n x1 x2 N2 ⟨r, hr1, hr, hn, rfl, rfl, hK2⟩
  have Y2 := Y1.K hK2.m
  unfold pX6_left_b8 pX6_left_b38 pX6_left_b39
  rw [Y2.1.1]
  have hlf : lfN σ (r + 1) = lfN σ r + (if lfB σ r then 1 else 0) := fb_ct_succ _ _
  refine lp (by omega) hr (fun e => ?_) (fun hr2 => ⟨vp_in_nI (by omega) (by decide), ?_⟩)
  · subst e
    exact h N2 (hK1.m.tr hK2.m) (by rw [hK2.1 41 (by decide) (by decide) (by decide) (by decide) (by decide), hK1.1 41 (by decide)])
  · rw [nI_clamp (n := r) (by omega), Y2.2.2.1 r (by omega)]
    refine bI_e0' (fun he => sX6_hasAll W Y2 (fun l hl p hp => by rw [hK2.1 33 (by decide) (by decide) (by decide) (by decide) (by decide)]; exact hvec l hl p hp) (by omega) (fun N3 hK3 => bI_e0 (fun e => ⟨sR σ - (r + 1), by omega, r + 1, by omega, by omega, rfl, ?_, nI_1 r, hK2.tr hK3⟩) (fun e => ⟨sR σ - (r + 1), by omega, r + 1, by omega, by omega, rfl, ?_, nI_1 r, hK2.tr hK3⟩))) (fun he => ⟨sR σ - (r + 1), by omega, r + 1, by omega, by omega, rfl, ?_, nI_1 r, hK2⟩)
    · have hb : lfB σ r = false := by unfold lfB; rw [he, e]; rfl
      rw [hlf, hb]; exact nI_add0 _
    · have hb : lfB σ r = true := by unfold lfB; rw [he, e]; rfl
      rw [hlf, hb]; exact nI_1 _
    · have hb : lfB σ r = false := by unfold lfB; rw [he]; rfl
      rw [hlf, hb]; exact nI_add0 _
theorem cs_left {σ : Sg} {M N : zM} (R : Rel σ M N) {post : Int32 → zM → Int32 → zM → Prop} (h : ∀ r σ' M' N', Rel σ' M' N' → post r M' r N') : pX5_left M (fun r M1 => pX6_left N (fun r' N1 => post r M1 r' N1)) := by
  unfold pX5_left
  exact sX3_unfinished R.1 R.2.1 (fun M' hK _ => sX6_left R.1 R.2.2.1 R.2.2.2 (fun N' hK' _ => h _ σ _ _ (R.K hK hK')))
/-- relay r works out piece p otherwise than it is -/
def mis (σ : Sg) (r p : Nat) : Prop := ∃ (a : Nat → Nat) (y : Int64), nb a ∧ (∀ q, q < sH σ → eP p q = gs (fun i => gm (a i) (vV σ (sB σ) (frF σ (sB σ) r i) q)) (frK σ (sB σ) r)) ∧ (∀ j, j < 8 → lb y j = gs (fun i => gm (a i) (vC σ (sB σ) (frF σ (sB σ) r i) j)) (frK σ (sB σ) r)) ∧ y ≠ sP σ p
theorem mis_in {σ : Sg} {r p : Nat} (h : mis σ r p) : inSp (sH σ) (frK σ (sB σ) r) (fun i => vV σ (sB σ) (frF σ (sB σ) r i)) (eP p) := by
  obtain ⟨a, y, h1, h2, _⟩ := h
  exact ⟨a, h1, h2⟩
theorem mis_iff {σ : Sg} {r p : Nat} {pv : Nat → Bool} {u : Nat → Nat → Nat} (E : EX (sH σ) (frK σ (sB σ) r) (fun i => vV σ (sB σ) (frF σ (sB σ) r i)) pv u) (hp : p < sH σ) (hin : inSp (sH σ) (frK σ (sB σ) r) (fun i => vV σ (sB σ) (frF σ (sB σ) r i)) (eP p)) {y : Int64} (hy : ∀ j, j < 8 → lb y j = gs (fun i => gm (u p (4 + i)) (vC σ (sB σ) (frF σ (sB σ) r i) j)) (frK σ (sB σ) r)) : mis σ r p ↔ y ≠ sP σ p := by
  have hu := (EL_e E.1 hp).mp hin
  have e4 := E.1.2.2.2.2.1
  refine ⟨fun ⟨a, y', h1, h2, h3, h4⟩ => ?_, fun hne => ⟨fun i => u p (4 + i), y, fun i => E.1.1.1 p _, fun q hq => ?_, hy, hne⟩⟩
  · have hc : ∀ i, i < frK σ (sB σ) r → a i = u p (4 + i) := fun i hi => by
      refine x_eq (E.1.2.2.2.2.2.2.1 (fun i => a i ^^^ u p (4 + i)) (fun i => g_xor_lt (h1 i) (E.1.1.1 p _)) (fun q hq => ?_) i hi)
      have s1 : gs (fun i => gm (a i ^^^ u p (4 + i)) (vV σ (sB σ) (frF σ (sB σ) r i) q)) (frK σ (sB σ) r) = gs (fun i => gm (a i) (vV σ (sB σ) (frF σ (sB σ) r i) q) ^^^ gm (u p (4 + i)) (vV σ (sB σ) (frF σ (sB σ) r i) q)) (frK σ (sB σ) r) := gs_cong (fun i _ => gm_xor _ (h1 i) (E.1.1.1 p _))
      rw [s1, gs_xor, ← h2 q hq, ← e4 p q hp hq, hu q hq, Nat.xor_self]
    have : y = y' := lb_ext (fun j hj => by
      rw [hy j hj, h3 j hj]
      exact gs_cong (fun i hi => by rw [hc i hi]))
    rw [this]; exact h4
  · rw [← hu q hq]; exact e4 p q hp hq
noncomputable def misB (σ : Sg) (r : Nat) : Bool := @decide (∃ p, p < sH σ ∧ mis σ r p) (Classical.propDecidable _)
theorem misB_t {σ : Sg} {r p : Nat} (hp : p < sH σ) (h : mis σ r p) : misB σ r = true := by
  unfold misB
  exact @decide_eq_true _ (Classical.propDecidable _) ⟨p, hp, h⟩
theorem misB_f {σ : Sg} {r : Nat} (h : ∀ p, p < sH σ → ¬ mis σ r p) : misB σ r = false := by
  unfold misB
  exact @decide_eq_false _ (Classical.propDecidable _) (fun ⟨p, hp, q⟩ => h p hp q)
noncomputable def wrN (σ : Sg) (n : Nat) : Nat := fb_ct (fun r => sE σ r && misB σ r) n
theorem wrN_1 {σ : Sg} (W : Wf σ) : wrN σ 1 = 0 := by
  unfold wrN
  refine fb_ct_zero.mpr (fun k hk => ?_)
  have : k = 0 := by omega
  subst this
  show (sE σ 0 && misB σ 0) = false
  cases e : sE σ 0 with
  | false => rfl
  | true => have := (W.2.2.2.2.2.1 0 e).1; omega
theorem sX3_isMisled {σ : Sg} {M : zM} (W : Wf σ) (X : RX σ M) {r : Nat} (S : XS σ (sB σ) (frK σ (sB σ) r) (frF σ (sB σ) r) M) (hC : ∀ l, l < sL σ → ∀ j, j < 8 → lb (M.2 15 l) j = vC σ (sB σ) l j) {post : Int32 → Prop} (h : post (bI (misB σ r))) : pX3_isMisled M post := by
  have hH := W.2.2.1
  obtain ⟨pv, u, E, T, hrow, hsz, hnew⟩ := S
  unfold pX3_isMisled pX3_isMisled_L2
  refine ⟨fun n x1 => ∃ p, p ≤ sH σ ∧ n = sH σ - p ∧ x1 = nI p ∧ ∀ p', p' < p → ¬ mis σ r p', ⟨sH σ, 0, by omega, rfl, rfl, fun p hp => by omega⟩, ?_⟩
  rintro n x1 ⟨p, hp, hn, rfl, hz⟩
  unfold pX3_isMisled_b2 pX3_isMisled_b41
  rw [X.1.2.2]
  refine lp (by omega) hp (fun e => ⟨Or.inl rfl, ?_⟩) (fun hp2 => ?_)
  · subst e; rw [misB_f hz] at h; exact h
  · have next : ¬ mis σ r p → ∃ k, k < n ∧ ∃ p_1, p_1 ≤ sH σ ∧ k = sH σ - p_1 ∧ nI p + 1 = nI p_1 ∧ ∀ p', p' < p_1 → ¬ mis σ r p' := fun hno => ⟨sH σ - (p + 1), by omega, p + 1, by omega, rfl, nI_1 p, fun p' hp' => by
      rcases (show p' < p ∨ p' = p by omega) with z | z
      · exact hz p' z
      · rw [z]; exact hno⟩
    refine sX3_worksOut W E hrow hp2 (fun hin => ne10 (sX3_bytesFor W E.1.1.1 (EL_k E.1) hrow hsz hnew (fun i hi => frF_lt hi) hp2 (fun y hy => ?_))) (fun hout => eq00 (next (fun q => hout (mis_in q))))
    have hm := mis_iff E hp2 hin (y := y) (fun j hj => by rw [hy j hj]; exact gs_cong (fun i hi => by rw [hC _ (frF_lt hi) j hj]))
    rw [nI_clamp (n := p) (by omega), X.2.2.2.2.2.2.1 p (by omega), lg_cmp_eq]
    refine ⟨vp_in_nI (by omega) (by decide), fun q => next (fun z => hm.mp z q), fun q => ⟨Or.inr rfl, ?_⟩⟩
    rw [misB_t hp2 (hm.mpr q)] at h; exact h
theorem sX5_wrong {σ : Sg} {M : zM} (W : Wf σ) (X : RX σ M) {post : Int32 → zM → Prop} (h : ∀ M', KX M M' → post (nI (wrN σ (sR σ))) M') : pX5_wrong M post := by
  have hR := W.1
  have hH := W.2.2.1
  unfold pX5_wrong
  refine sX2_spreadVectors W X (fun l hl => X.2.2.2.1 l (by omega)) (fun M1 hK1 hv1 => ?_)
  have X1 := X.K (hK1.x (by decide))
  refine sX2_spreadBytes W X1 (fun M2 hK2 hC2 => ?_)
  have X2 := X1.K (hK2.x (by decide))
  unfold pX5_wrong_L25
  refine ⟨fun n x1 x2 M3 => ∃ r, 1 ≤ r ∧ r ≤ sR σ ∧ n = sR σ - r ∧ x1 = nI (wrN σ r) ∧ x2 = nI r ∧ KS M2 M3, ⟨sR σ - 1, 1, by omega, by omega, rfl, by rw [wrN_1 W]; rfl, rfl, KS.rf⟩, ?_⟩
  rintro n x1 x2 M3 ⟨r, hr1, hr, hn, rfl, rfl, hK3⟩
  have X3 := X2.K hK3.x
  unfold pX5_wrong_b25 pX5_wrong_b73
  rw [X3.1.1]
  have hlf : wrN σ (r + 1) = wrN σ r + (if (sE σ r && misB σ r) then 1 else 0) := fb_ct_succ _ _
  refine lp (by omega) hr (fun e => ?_) (fun hr2 => sX5_flag (by omega) ?_)
  · subst e
    exact h M3 ((hK1.x (by decide)).tr ((hK2.x (by decide)).tr hK3.x))
  · rw [X3.2.1 r (by omega)]
    refine bI_e1 (fun he => sX3_gather W X3 (fun l hl j hj => by rw [hK3.2 14 (by decide), hK2.2 14 (by decide)]; exact hv1 l hl j hj) (by omega) (fun M4 hK4 S => ?_)) (fun he => ⟨sR σ - (r + 1), by omega, r + 1, by omega, by omega, rfl, ?_, nI_1 r, hK3⟩)
    · refine sX3_isMisled W (X3.K hK4.x) S (fun l hl j hj => by rw [hK4.2 15 (by decide), hK3.2 15 (by decide)]; exact hC2 l hl j hj) (sX5_asFlag ⟨sR σ - (r + 1), by omega, r + 1, by omega, by omega, rfl, ?_, nI_1 r, hK3.tr hK4⟩)
      rw [hlf, he]
      cases misB σ r with
      | false => exact nI_add0 _
      | true => exact nI_1 _
    · rw [hlf, he]; rfl
theorem sX6_wrong {σ : Sg} {N : zM} (W : Wf σ) (Y : RM σ N) (A : Al N (-1) (-1)) {post : Int32 → zM → Prop} (h : ∀ N', KM N N' → post (nI (wrN σ (sR σ))) N') : pX6_wrong N post := by
  have hR := W.1
  have hH := W.2.2.1
  unfold pX6_wrong
  refine sX6_work W Y A (fun N1 hK1 hd => ?_)
  have Y1 := Y.K hK1.m
  have hvec := wvec W hd
  have hcar := wcar W hd
  unfold pX6_wrong_L8
  refine ⟨fun n x1 x2 N2 => ∃ r, 1 ≤ r ∧ r ≤ sR σ ∧ n = sR σ - r ∧ x1 = nI (wrN σ r) ∧ x2 = nI r ∧ KT N1 N2, ⟨sR σ - 1, 1, by omega, by omega, rfl, by rw [wrN_1 W]; rfl, rfl, KT.rf⟩, ?_⟩
  rintro n x1 x2 N2 ⟨r, hr1, hr, hn, rfl, rfl, hK2⟩
  have Y2 := Y1.K hK2.m
  unfold pX6_wrong_b8 pX6_wrong_b101
  rw [Y2.1.1]
  have hlf : wrN σ (r + 1) = wrN σ r + (if (sE σ r && misB σ r) then 1 else 0) := fb_ct_succ _ _
  refine lp (by omega) hr (fun e => ?_) (fun hr2 => ⟨vp_in_nI (by omega) (by decide), ?_⟩)
  · subst e
    exact h N2 (hK1.m.tr hK2.m)
  · rw [nI_clamp (n := r) (by omega), Y2.2.2.1 r (by omega)]
    refine bI_e0 (fun he => sX6_study W Y2 (fun l hl p hp => by rw [hK2.1 33 (by decide) (by decide) (by decide) (by decide) (by decide)]; exact hvec l hl p hp) (by omega) (fun N3 hK3 S => ?_)) (fun he => ⟨sR σ - (r + 1), by omega, r + 1, by omega, by omega, rfl, ?_, nI_1 r, hK2⟩)
    · obtain ⟨pv, u, la, S1, S2⟩ := S
      have Y3 := Y2.K hK3.m
      unfold pX6_wrong_L38
      refine ⟨fun m x1 x2 x3 x4 N4 => ∃ p b, p ≤ sH σ ∧ m = sH σ - p ∧ x1 = nI (wrN σ r) ∧ x2 = nI r ∧ x3 = bI b ∧ x4 = nI p ∧ K38 N3 N4 ∧ (b = true → misB σ r = true) ∧ (b = false → ∀ p', p' < p → ¬ mis σ r p'), ⟨sH σ, 0, false, by omega, rfl, rfl, rfl, rfl, rfl, K38.rf, (fun q => by cases q), fun _ p hp => by omega⟩, ?_⟩
      rintro m x1 x2 x3 x4 N4 ⟨p, b, hp, hm, rfl, rfl, rfl, rfl, hK4, hbt, hbf⟩
      have Y4 := Y3.K hK4.t.m
      unfold pX6_wrong_b38 pX6_wrong_b99 pX6_wrong_b101 pX6_wrong_b77 pX6_wrong_b81 pX6_wrong_b82
      rw [Y4.1.2.2]
      refine lp (by omega) hp (fun e => ?_) (fun hp2 => ?_)
      · subst e
        refine bI_e0' (fun e => ⟨sR σ - (r + 1), by omega, r + 1, by omega, by omega, rfl, ?_, nI_1 r, hK2.tr (hK3.tr hK4.t)⟩) (fun e => ⟨sR σ - (r + 1), by omega, r + 1, by omega, by omega, rfl, ?_, nI_1 r, hK2.tr (hK3.tr hK4.t)⟩)
        · rw [hlf, he, hbt e]; exact nI_1 _
        · rw [hlf, he, misB_f (hbf e)]; exact nI_add0 _
      · refine bI_e0 (fun e => ⟨sH σ - (p + 1), by omega, p + 1, true, by omega, rfl, rfl, rfl, rfl, nI_1 p, hK4, (fun _ => hbt e), (fun q => by cases q)⟩) (fun e => ?_)
        have hz := hbf e
        have next : ∀ N5, K38 N3 N5 → ¬ mis σ r p → ∃ k, k < m ∧ ∃ p_1 b, p_1 ≤ sH σ ∧ k = sH σ - p_1 ∧ nI (wrN σ r) = nI (wrN σ r) ∧ nI r = nI r ∧ (0 : Int32) = bI b ∧ nI p + 1 = nI p_1 ∧ K38 N3 N5 ∧ (b = true → misB σ r = true) ∧ (b = false → ∀ p', p' < p_1 → ¬ mis σ r p') := fun N5 hK5 hno => ⟨sH σ - (p + 1), by omega, p + 1, false, by omega, rfl, rfl, rfl, rfl, nI_1 p, hK5, (fun q => by cases q), fun _ p' hp' => by
          rcases (show p' < p ∨ p' = p by omega) with z | z
          · exact hz p' z
          · rw [z]; exact hno⟩
        refine sX6_solvesFor (by omega) Y4.1.2.2 (S1.K hK4) hp2 (fun hin N5 hK5 _ => ne10 ?_) (fun hout N5 hK5 => eq00 (next N5 (hK4.tr hK5) (fun q => hout (mis_in q))))
        have hK45 := hK4.tr hK5
        refine sX6_getsOf W (Y3.K hK45.t.m).1.2.2 (S1.K hK45) (fun i hi => by rw [hK45.1 37 (by decide)]; exact S2 i hi) (fun i hi => frF_lt hi) hp2 (fun _ N6 y hK6 hy => ?_) (fun q => absurd hin q)
        have hm2 := mis_iff S1.1 hp2 hin (y := y) (fun j hj => by
          rw [hy j hj]
          refine gs_cong (fun i hi => ?_)
          rw [hK45.2, hK3.2.2, hK2.2.2, hcar _ (frF_lt hi) j hj])
        have Y6 := Y3.K (hK45.tr hK6).t.m
        rw [nI_clamp (n := p) (by omega), Y6.2.1 p (by omega), lg_cmp_eq]
        exact ⟨vp_in_nI (by omega) (by decide), fun q => next N6 (hK45.tr hK6) (fun z => hm2.mp z q), fun q => ⟨sH σ - (p + 1), by omega, p + 1, true, by omega, rfl, rfl, rfl, rfl, nI_1 p, hK45.tr hK6, (fun _ => misB_t hp2 (hm2.mpr q)), (fun q => by cases q)⟩⟩
    · rw [hlf, he]; rfl
theorem cs_wrong {σ : Sg} {M N : zM} (R : Rel σ M N) {post : Int32 → zM → Int32 → zM → Prop} (h : ∀ r σ' M' N', Rel σ' M' N' → post r M' r N') : pX5_wrong M (fun r M1 => pX6_wrong N (fun r' N1 => post r M1 r' N1)) :=
  sX5_wrong R.1 R.2.1 (fun M' hK => sX6_wrong R.1 R.2.2.1 R.2.2.2 (fun N' hK' => h _ σ _ _ (R.K hK hK')))
