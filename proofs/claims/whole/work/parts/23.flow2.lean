/-! flows: the model -/
def FM (u : Nat → Bool) (s : Fs) (N : zM) : Prop := (∀ k, k < 12 → N.1 31 k = bI (s.1 k)) ∧ (∀ k, s.1 k = true → k ≠ 0 → N.1 32 k = nI (s.2.1 k)) ∧ (∀ l, l < 30 → N.1 30 l = bI (u l))
theorem sX6_seekL46 {σ : Sg} {N0 : zM} (W : Wf σ) (Y : RM σ N0) {u : Nat → Bool} {m : Nat} (F : FM u (fit σ u m) N0) {post : zM → Prop} {ag38 : Int32 → zM → Prop} (h : ∀ N', KM N0 N' → FM u (fit σ u (m + 1)) N' → ag38 (bI (decide ((fit σ u m).2.2.2 < (fit σ u (m + 1)).2.2.2))) N') : pX6_seek_L46 post ag38 0 0 N0 := by
  have hL := W.2.1
  have hR := W.1
  unfold pX6_seek_L46
  refine ⟨fun n x1 x2 N1 => ∃ k, k ≤ sL σ ∧ n = sL σ - k ∧ x1 = bI (decide ((fit σ u m).2.2.2 < (fpass σ u (fit σ u m) k).2.2.2)) ∧ x2 = nI k ∧ KM N0 N1 ∧ FM u (fpass σ u (fit σ u m) k) N1, ⟨sL σ, 0, by omega, rfl, ?_, rfl, KM.rf, F⟩, ?_⟩
  · show (0 : Int32) = bI (decide ((fit σ u m).2.2.2 < (fit σ u m).2.2.2))
    rw [decide_eq_false (Nat.lt_irrefl _)]; rfl
  rintro n x1 x2 N1 ⟨k, hk, hn, rfl, rfl, hK, hF⟩
  have Y1 := Y.K hK
  unfold pX6_seek_b46 pX6_seek_b157
  rw [Y1.1.2.1]
  have e1 : (nI (sL σ) ≤ nI k) ↔ sL σ ≤ k := nI_leI (by omega) (by omega)
  refine ⟨fun q => ?_, fun q => ?_⟩
  · have : k = sL σ := by have := e1.mp q; omega
    subst this
    exact h N1 hK hF
  · have hk2 : k < sL σ := by
      rcases Nat.lt_or_ge k (sL σ) with z | z
      · exact z
      · exact absurd (e1.mpr z) q
    obtain ⟨f1, f2, f3⟩ := fends W u hk2
    have hv := vp_in_nI (n := k) (N := 30) (by omega) (by decide)
    generalize hs : fpass σ u (fit σ u m) k = s at hF
    have hnext : fpass σ u (fit σ u m) (k + 1) = fstep σ u s k := by rw [← hs]; rfl
    have hmono : (fit σ u m).2.2.2 ≤ s.2.2.2 := by rw [← hs]; exact (fpass_clk σ u (fit σ u m) k).1
    have skip : fgo σ u s k = false → ∃ k_1, k_1 < n ∧ ∃ k_2, k_2 ≤ sL σ ∧ k_1 = sL σ - k_2 ∧ bI (decide ((fit σ u m).2.2.2 < s.2.2.2)) = bI (decide ((fit σ u m).2.2.2 < (fpass σ u (fit σ u m) k_2).2.2.2)) ∧ nI k + 1 = nI k_2 ∧ KM N0 N1 ∧ FM u (fpass σ u (fit σ u m) k_2) N1 := fun hz => by
      have hst : fstep σ u s k = s := by unfold fstep; rw [if_neg (by rw [hz]; decide)]
      exact ⟨sL σ - (k + 1), by omega, k + 1, by omega, rfl, by rw [hnext, hst], nI_1 k, hK, by rw [hnext, hst]; exact hF⟩
    rw [nI_clamp (by omega), (Y1.2.2.2.2.1 k (by omega)).2]
    refine ⟨hv, bI_e0' (fun hb => skip (by unfold fgo; rw [hb]; rfl)) (fun hb => ⟨hv, ?_⟩)⟩
    have key : pX6_seek_b115 post ag38 (fun x1 x2 N1 => ∃ k_1, k_1 < n ∧ ∃ k, k ≤ sL σ ∧ k_1 = sL σ - k ∧ x1 = bI (decide ((fit σ u m).2.2.2 < (fpass σ u (fit σ u m) k).2.2.2)) ∧ x2 = nI k ∧ KM N0 N1 ∧ FM u (fpass σ u (fit σ u m) k) N1) (bI (decide ((fit σ u m).2.2.2 < s.2.2.2))) (nI k) (nI (fsrc σ u k)) (nI (fdst σ u k)) N1 := by
      unfold pX6_seek_b115 pX6_seek_b157
      rw [nI_clamp (by omega), nI_clamp (by omega), hF.1 _ (by omega), hF.1 _ (by omega)]
      refine ⟨vp_in_nI (by omega) (by decide), bI_e0' (fun hc => ⟨vp_in_nI (by omega) (by decide), bI_e0' (fun hd => skip (by unfold fgo; rw [hd]; simp)) (fun hd => ⟨vp_in_nI (by omega) (by decide), vp_in_nI (by omega) (by decide), ?_⟩)⟩) (fun hc => skip (by unfold fgo; rw [hc]; simp))⟩
      have hst : fstep σ u s k = fnew σ u s k := by unfold fstep; rw [if_pos (by unfold fgo; rw [hb, hc, hd]; rfl)]
      refine ⟨sL σ - (k + 1), by omega, k + 1, by omega, rfl, ?_, nI_1 k, hK.tr ((KM.si (by decide)).tr (KM.si (by decide))), ?_⟩
      · rw [hnext, hst]
        show (1 : Int32) = bI (decide ((fit σ u m).2.2.2 < s.2.2.2 + 1))
        rw [decide_eq_true (by omega)]; rfl
      · rw [hnext, hst]
        refine ⟨fun j hj => ?_, fun j hj hj0 => ?_, hF.2.2⟩
        · show (if j = fdst σ u k then vp_nar .boolean 1 else N1.1 31 j) = bI (if j = fdst σ u k then true else s.1 j)
          by_cases e : j = fdst σ u k
          · rw [if_pos e, if_pos e]; rfl
          · rw [if_neg e, if_neg e]; exact hF.1 j hj
        · have hj' : (if j = fdst σ u k then true else s.1 j) = true := hj
          show (if j = fdst σ u k then nI k else N1.1 32 j) = nI (if j = fdst σ u k then k else s.2.1 j)
          by_cases e : j = fdst σ u k
          · rw [if_pos e, if_pos e]
          · rw [if_neg e] at hj'
            rw [if_neg e, if_neg e]; exact hF.2.1 j hj' hj0
    unfold pX6_seek_b90
    rw [nI_clamp (by omega), hF.2.2 k (by omega), (Y1.2.2.2.1 k hk2).1, (Y1.2.2.2.1 k hk2).2]
    refine bI_e0' (fun hu => ⟨hv, hv, bI_e0' (fun _ => ⟨hv, ?_⟩) (fun z => by rw [hu] at z; cases z)⟩) (fun hu => ⟨hv, hv, bI_e0' (fun z => by rw [hu] at z; cases z) (fun _ => ⟨hv, ?_⟩)⟩)
    · have k1 : fsrc σ u k = sT σ k := by unfold fsrc; rw [hu]; rfl
      have k2 : fdst σ u k = sF σ k := by unfold fdst; rw [hu]; rfl
      rw [k1, k2] at key
      exact key
    · have k1 : fsrc σ u k = sF σ k := by unfold fsrc; rw [hu]; rfl
      have k2 : fdst σ u k = sT σ k := by unfold fdst; rw [hu]; rfl
      rw [k1, k2] at key
      exact key
theorem sX6_seekL38 {σ : Sg} {N : zM} (W : Wf σ) (Y : RM σ N) {u : Nat → Bool} (F : FM u fini N) {post : zM → Prop} (h : ∀ N', KM N N' → FM u (fsk σ u) N' → post N') : pX6_seek_L38 post 1 N := by
  have hR := W.1
  unfold pX6_seek_L38
  refine ⟨fun n x1 N1 => KM N N1 ∧ ((x1 = 1 ∧ ∃ m, m + 1 ≤ (fit σ u m).2.2.2 ∧ FM u (fit σ u m) N1 ∧ n = sR σ + 1 - m) ∨ (x1 = 0 ∧ FM u (fsk σ u) N1 ∧ n = 0)), ⟨sR σ + 1, KM.rf, Or.inl ⟨rfl, 0, Nat.le_refl 1, F, rfl⟩⟩, ?_⟩
  rintro n x1 N1 ⟨hK, ⟨rfl, m, hm, hF, hn⟩ | ⟨rfl, hF, hn⟩⟩
  · unfold pX6_seek_b38
    refine ⟨fun q => absurd q (by decide), fun _ => sX6_seekL46 W (Y.K hK) hF (fun N' hK' hF' => ?_)⟩
    have hclk := fit_clk W u m
    by_cases hlt : (fit σ u m).2.2.2 < (fit σ u (m + 1)).2.2.2
    · rw [decide_eq_true hlt]
      exact ⟨sR σ + 1 - (m + 1), by omega, hK.tr hK', Or.inl ⟨rfl, m + 1, by omega, hF', rfl⟩⟩
    · rw [decide_eq_false hlt]
      have hst : fit σ u (m + 1) = fit σ u m := (fpass_clk σ u (fit σ u m) (sL σ)).2 (by
        have h1 := (fpass_clk σ u (fit σ u m) (sL σ)).1
        have h2 : ¬ (fit σ u m).2.2.2 < (fpass σ u (fit σ u m) (sL σ)).2.2.2 := hlt
        omega)
      have hfs : fit σ u (m + 1) = fsk σ u := by rw [hst]; exact fit_fsk W hst
      rw [hfs] at hF'
      exact ⟨0, by omega, hK.tr hK', Or.inr ⟨rfl, hF', rfl⟩⟩
  · unfold pX6_seek_b38
    exact ⟨fun _ => h N1 hK hF, fun q => absurd rfl q⟩
theorem sX6_seek {σ : Sg} {N : zM} (W : Wf σ) (Y : RM σ N) {u : Nat → Bool} (hu : ∀ l, l < 30 → N.1 30 l = bI (u l)) {post : zM → Prop} (h : ∀ N', KM N N' → FM u (fsk σ u) N' → post N') : pX6_seek N post := by
  unfold pX6_seek pX6_seek_L2
  refine ⟨fun n x1 N1 => ∃ k, k ≤ 12 ∧ n = 12 - k ∧ x1 = nI k ∧ KM N N1 ∧ N1.1 30 = N.1 30 ∧ ∀ j, j < k → N1.1 31 j = bI (j == 0), ⟨12, 0, by omega, rfl, rfl, KM.rf, rfl, fun j hj => by omega⟩, ?_⟩
  rintro n x1 N1 ⟨k, hk, hn, rfl, hK, h30, hc⟩
  unfold pX6_seek_b2
  have e1 : ((12 : Int32) ≤ nI k) ↔ 12 ≤ k := nI_leI (a := 12) (by decide) (by omega)
  refine ⟨fun q => ?_, fun q => ?_⟩
  · have : k = 12 := by have := e1.mp q; omega
    subst this
    refine sX6_seekL38 W (Y.K hK) ⟨hc, fun k hk hk0 => ?_, fun l hl => ?_⟩ (fun N' hK' hF' => h N' (hK.tr hK') hF')
    · have : k = 0 := by simpa [fini] using hk
      exact absurd this hk0
    · rw [h30]; exact hu l hl
  · have hk2 : k < 12 := by
      rcases Nat.lt_or_ge k 12 with z | z
      · exact z
      · exact absurd (e1.mpr z) q
    have hv := vp_in_nI (n := k) (N := 12) hk2 (by decide)
    have e0 : (nI k = 0) ↔ k = 0 := nI_eq (b := 0) (by omega) (by decide)
    have fin : ∀ t : Int32, vp_nar .boolean t = bI (k == 0) → pX6_seek_b22 post (fun x1 N1 => ∃ k_1, k_1 < n ∧ ∃ k, k ≤ 12 ∧ k_1 = 12 - k ∧ x1 = nI k ∧ KM N N1 ∧ N1.1 30 = N.1 30 ∧ ∀ j, j < k → N1.1 31 j = bI (j == 0)) (nI k) t (nI k) N1 := by
      intro t ht
      unfold pX6_seek_b22
      rw [nI_clamp (by omega), ht]
      refine ⟨hv, hv, 12 - (k + 1), by omega, k + 1, by omega, rfl, nI_1 k, hK.tr ((KM.si (by decide)).tr (KM.si (by decide))), h30, fun j hj => ?_⟩
      show (if j = k then bI (k == 0) else N1.1 31 j) = bI (j == 0)
      by_cases e : j = k
      · rw [if_pos e, e]
      · rw [if_neg e]; exact hc j (by omega)
    refine ⟨fun q2 => fin 0 ?_, fun q2 => fin 1 ?_⟩
    · have : k ≠ 0 := fun z => q2 (e0.mpr z)
      have hz : (k == 0) = false := by simpa using this
      rw [hz]; rfl
    · have hz : (k == 0) = true := by simpa using e0.mp q2
      rw [hz]; rfl
theorem sX6_turn {σ : Sg} {N : zM} (W : Wf σ) (Y : RM σ N) {u : Nat → Bool} (F : FM u (fsk σ u) N) {r : Nat} (hc : (fsk σ u).1 r = true) {y : Int32} {post : Int32 → zM → Prop} {ag27 : Int32 → Int32 → zM → Prop} (h : ∀ N', KM N N' → (∀ l, l < 30 → N'.1 30 l = bI (fturn σ u (sR σ) r u l)) → pX6_seek N' (fun N2 => ag27 (nI r) (y + 1) N2)) : pX6_flowOf_L38 post ag27 (nI r) y (nI r) N := by
  have hR := W.1
  have hL := W.2.1
  have ok := fsk_ok W u
  have hclk := fit_clk W u (sR σ)
  unfold pX6_flowOf_L38
  refine ⟨fun n x1 x2 x3 N1 => ∃ a v, x1 = nI r ∧ x2 = y ∧ x3 = nI a ∧ KM N N1 ∧ N1.1 32 = N.1 32 ∧ (fsk σ u).1 a = true ∧ (∀ l, l < 30 → N1.1 30 l = bI (v l)) ∧ fturn σ u n a v = fturn σ u (sR σ) r u ∧ (a ≠ 0 → (fsk σ u).2.2.1 a < n) ∧ (∀ k, (fsk σ u).1 k = true → k ≠ 0 → (fsk σ u).2.2.1 k ≤ (fsk σ u).2.2.1 a → v ((fsk σ u).2.1 k) = u ((fsk σ u).2.1 k)), ⟨sR σ, r, u, rfl, rfl, rfl, KM.rf, rfl, hc, F.2.2, rfl, fun _ => ?_, fun _ _ _ _ => rfl⟩, ?_⟩
  · exact Nat.lt_of_lt_of_le (ok.2.2.2.1 r hc) hclk
  rintro n x1 x2 x3 N1 ⟨a, v, rfl, rfl, rfl, hK, h32, hca, hv, ht, hta, hvu⟩
  have Y1 := Y.K hK
  have ha := ok.2.1 a hca
  unfold pX6_flowOf_b38 pX6_flowOf_b77 pX6_flowOf_b99
  refine ⟨fun q => h N1 hK (fun l hl => ?_), fun q => ?_⟩
  · have ha0 : a = 0 := (nI_eq (b := 0) (by omega) (by decide)).mp q
    subst ha0
    rw [hv l hl, ← ht]
    cases n with
    | zero => rfl
    | succ n => show _ = bI ((if (0 : Nat) = 0 then v else _) l); rw [if_pos rfl]
  · have ha0 : a ≠ 0 := fun e => q (by rw [e]; rfl)
    obtain ⟨b1, b2, b3, b4, b5⟩ := ok.2.2.1 a hca ha0
    have hFT := W.2.2.2.1 _ b1
    have hvl := hvu a hca ha0 (Nat.le_refl _)
    have htn := hta ha0
    have hinj : ∀ k, (fsk σ u).1 k = true → k ≠ 0 → (fsk σ u).2.1 k = (fsk σ u).2.1 a → k = a := fun k hk hk0 e => by
      have h1 := (ok.2.2.1 k hk hk0).2.2.1
      rw [e, b3] at h1
      exact h1.symm
    have hstep : fturn σ u n a v = fturn σ u (n - 1) (fsrc σ u ((fsk σ u).2.1 a)) (fflip v ((fsk σ u).2.1 a)) := by
      rw [show n = (n - 1) + 1 by omega]
      show (if a = 0 then v else fturn σ u (n - 1) (fpar σ u a) (fflip v ((fsk σ u).2.1 a))) = _
      rw [if_neg ha0]
      rfl
    rw [nI_clamp (by omega), h32, F.2.1 a hca ha0, nI_clamp (by omega), hv _ (by omega), (Y1.2.2.2.1 _ b1).1, (Y1.2.2.2.1 _ b1).2]
    have hv2 := vp_in_nI (n := (fsk σ u).2.1 a) (N := 30) (by omega) (by decide)
    have fin : ∀ (t : Int32) (p : Nat), vp_nar .boolean t = bI (!v ((fsk σ u).2.1 a)) → p = fsrc σ u ((fsk σ u).2.1 a) → ∃ k, k < n ∧ ∃ a_1 v_1, nI r = nI r ∧ x2 = x2 ∧ nI p = nI a_1 ∧ KM N (zsi N1 30 ((fsk σ u).2.1 a) (vp_nar .boolean t)) ∧ (zsi N1 30 ((fsk σ u).2.1 a) (vp_nar .boolean t)).1 32 = N.1 32 ∧ (fsk σ u).1 a_1 = true ∧ (∀ l, l < 30 → (zsi N1 30 ((fsk σ u).2.1 a) (vp_nar .boolean t)).1 30 l = bI (v_1 l)) ∧ fturn σ u k a_1 v_1 = fturn σ u (sR σ) r u ∧ (a_1 ≠ 0 → (fsk σ u).2.2.1 a_1 < k) ∧ (∀ k, (fsk σ u).1 k = true → k ≠ 0 → (fsk σ u).2.2.1 k ≤ (fsk σ u).2.2.1 a_1 → v_1 ((fsk σ u).2.1 k) = u ((fsk σ u).2.1 k)) := by
      intro t p hnt hp
      subst hp
      refine ⟨n - 1, by omega, fsrc σ u ((fsk σ u).2.1 a), fflip v ((fsk σ u).2.1 a), rfl, rfl, rfl, hK.tr (KM.si (by decide)), h32, b4, fun l hl => ?_, hstep.symm.trans ht, fun _ => by omega, fun k hk hk0 hkt => ?_⟩
      · rw [hnt]
        show (if l = (fsk σ u).2.1 a then bI (!v ((fsk σ u).2.1 a)) else N1.1 30 l) = bI (if l = (fsk σ u).2.1 a then !v l else v l)
        by_cases e : l = (fsk σ u).2.1 a
        · rw [if_pos e, if_pos e, e]
        · rw [if_neg e, if_neg e]; exact hv l hl
      · have hne : (fsk σ u).2.1 k ≠ (fsk σ u).2.1 a := fun e => by
          have := hinj k hk hk0 e
          subst this
          omega
        show (if (fsk σ u).2.1 k = (fsk σ u).2.1 a then !v ((fsk σ u).2.1 k) else v ((fsk σ u).2.1 k)) = _
        rw [if_neg hne]
        exact hvu k hk hk0 (by omega)
    refine ⟨vp_in_nI (by omega) (by decide), hv2, bI_e0' (fun hu => ⟨hv2, hv2, bI_e0 (fun _ => ⟨hv2, ?_⟩) (fun z => by rw [hu] at z; cases z)⟩) (fun hu => ⟨hv2, hv2, bI_e0 (fun z => by rw [hu] at z; cases z) (fun _ => ⟨hv2, ?_⟩)⟩)⟩
    · refine fin 0 _ (by rw [hu]; rfl) ?_
      unfold fsrc
      rw [← hvl, hu]; rfl
    · refine fin 1 _ (by rw [hu]; rfl) ?_
      unfold fsrc
      rw [← hvl, hu]; rfl
theorem sX6_flowOf {σ : Sg} {N : zM} (W : Wf σ) (Y : RM σ N) {r n : Nat} (hr : r < sR σ) (hn : n ≤ sL σ) (hfl : FlowIs σ r n) {post : Int32 → zM → Prop} (h : ∀ N', KM N N' → FM (fuse σ r n) (fsk σ (fuse σ r n)) N' → post (nI n) N') : pX6_flowOf N (nI r) post := by
  have hR := W.1
  have hL := W.2.1
  unfold pX6_flowOf pX6_flowOf_L2
  refine ⟨fun m x1 x2 N1 => ∃ k, k ≤ 30 ∧ m = 30 - k ∧ x1 = nI r ∧ x2 = nI k ∧ KM N N1 ∧ ∀ l, l < k → N1.1 30 l = 0, ⟨30, 0, by omega, rfl, rfl, rfl, KM.rf, fun l hl => by omega⟩, ?_⟩
  rintro m x1 x2 N1 ⟨k, hk, hm, rfl, rfl, hK, hz⟩
  unfold pX6_flowOf_b2
  have e1 : ((30 : Int32) ≤ nI k) ↔ 30 ≤ k := nI_leI (a := 30) (by decide) (by omega)
  refine ⟨fun q => ?_, fun q => ?_⟩
  · have : k = 30 := by have := e1.mp q; omega
    subst this
    refine sX6_seek W (Y.K hK) (u := fuse σ r 0) (fun l hl => hz l hl) (fun N2 hK2 hF2 => ?_)
    unfold pX6_flowOf_L27
    refine ⟨fun m x1 x2 N3 => ∃ k, k ≤ n ∧ m = n - k ∧ x1 = nI r ∧ x2 = nI k ∧ KM N N3 ∧ FM (fuse σ r k) (fsk σ (fuse σ r k)) N3, ⟨n, 0, by omega, rfl, rfl, rfl, hK.tr hK2, hF2⟩, ?_⟩
    rintro m x1 x2 N3 ⟨k, hk, hm, rfl, rfl, hK3, hF3⟩
    unfold pX6_flowOf_b27
    rw [nI_clamp (by omega), hF3.1 r (by omega)]
    refine ⟨vp_in_nI (by omega) (by decide), bI_e0' (fun hc => ?_) (fun hc => ?_)⟩
    · have hkn : k ≠ n := fun e => by subst e; rw [hfl.2] at hc; cases hc
      refine sX6_turn W (Y.K hK3) hF3 hc (fun N4 hK4 hv4 => sX6_seek W (Y.K (hK3.tr hK4)) (u := fuse σ r (k + 1)) hv4 (fun N5 hK5 hF5 => ⟨n - (k + 1), by omega, k + 1, by omega, rfl, rfl, nI_1 k, hK3.tr (hK4.tr hK5), hF5⟩))
    · have hkn : k = n := by
        rcases Nat.lt_or_ge k n with z | z
        · have := hfl.1 k z
          rw [hc] at this
          cases this
        · omega
      subst hkn
      exact h N3 hK3 hF3
  · have hk2 : k < 30 := by
      rcases Nat.lt_or_ge k 30 with z | z
      · exact z
      · exact absurd (e1.mpr z) q
    rw [nI_clamp (by omega)]
    refine ⟨vp_in_nI hk2 (by decide), 30 - (k + 1), by omega, k + 1, by omega, rfl, rfl, nI_1 k, hK.tr (KM.si (by decide)), fun l hl => ?_⟩
    show (if l = k then vp_nar .boolean 0 else N1.1 30 l) = 0
    by_cases e : l = k
    · rw [if_pos e]; rfl
    · rw [if_neg e]; exact hz l (by omega)
theorem sX6_cutL {σ : Sg} {N : zM} (W : Wf σ) (Y : RM σ N) {c : Nat → Bool} (hc : ∀ k, k < 12 → N.1 31 k = bI (c k)) {i : Nat} (hi : i < 2 ^ 31) {post : Int32 → zM → Prop} (h : ∀ a, CutIs σ c i a → post a N) : pX6_cut_L33 post (nI i) 0 N := by
  have hL := W.2.1
  have hR := W.1
  unfold pX6_cut_L33
  refine ⟨fun n x4 x5 N1 => ∃ k, k ≤ sL σ ∧ n = sL σ - k ∧ fb_ct (cutl σ c) k ≤ i ∧ x4 = nI (i - fb_ct (cutl σ c) k) ∧ x5 = nI k ∧ N1 = N ∧ ∀ l, l < k → cutl σ c l = true → fb_ct (cutl σ c) l ≠ i, ⟨sL σ, 0, by omega, rfl, Nat.zero_le _, rfl, rfl, rfl, fun l hl => by omega⟩, ?_⟩
  rintro n x4 x5 N1 ⟨k, hk, hn, hle, rfl, rfl, rfl, hno⟩
  unfold pX6_cut_b33 pX6_cut_b96
  rw [Y.1.2.1]
  have e1 : (nI (sL σ) ≤ nI k) ↔ sL σ ≤ k := nI_leI (by omega) (by omega)
  refine ⟨fun q => ?_, fun q => ?_⟩
  · have : k = sL σ := by have := e1.mp q; omega
    subst this
    exact h _ (Or.inr ⟨hno, rfl⟩)
  · have hk2 : k < sL σ := by
      rcases Nat.lt_or_ge k (sL σ) with z | z
      · exact z
      · exact absurd (e1.mpr z) q
    have hFT := W.2.2.2.1 k hk2
    have hv := vp_in_nI (n := k) (N := 30) (by omega) (by decide)
    have skip : cutl σ c k = false → ∃ k_1, k_1 < n ∧ ∃ k_2, k_2 ≤ sL σ ∧ k_1 = sL σ - k_2 ∧ fb_ct (cutl σ c) k_2 ≤ i ∧ nI (i - fb_ct (cutl σ c) k) = nI (i - fb_ct (cutl σ c) k_2) ∧ nI k + 1 = nI k_2 ∧ N1 = N1 ∧ ∀ l, l < k_2 → cutl σ c l = true → fb_ct (cutl σ c) l ≠ i := fun hz =>
      ⟨sL σ - (k + 1), by omega, k + 1, by omega, rfl, by rw [fb_ct_succ, hz]; exact hle, by rw [fb_ct_succ, hz]; rfl, nI_1 k, rfl, fun l hl hcl => by
        rcases (show l < k ∨ l = k by omega) with z | z
        · exact hno l z hcl
        · rw [z, hz] at hcl; cases hcl⟩
    rw [nI_clamp (by omega), (Y.2.2.2.2.1 k (by omega)).2, (Y.2.2.2.1 k hk2).1, (Y.2.2.2.1 k hk2).2, nI_clamp (by omega), nI_clamp (by omega), hc _ (by omega), hc _ (by omega)]
    refine ⟨hv, bI_e0 (fun hb => skip (by unfold cutl; rw [hb]; rfl)) (fun hb => ⟨hv, vp_in_nI (by omega) (by decide), bI_e0' (fun hs => ⟨hv, vp_in_nI (by omega) (by decide), bI_e0' (fun hd => skip (by unfold cutl; rw [hd]; simp)) (fun hd => ?_)⟩) (fun hs => skip (by unfold cutl; rw [hs]; simp))⟩)⟩
    have hcl : cutl σ c k = true := by unfold cutl; rw [hb, hs, hd]; rfl
    have e2 : (nI (i - fb_ct (cutl σ c) k) = 0) ↔ i - fb_ct (cutl σ c) k = 0 := nI_eq (b := 0) (by omega) (by decide)
    refine ⟨fun q2 => ?_, fun q2 => h _ (Or.inl ⟨k, hk2, hcl, by have := e2.mp q2; omega, rfl⟩)⟩
    have hpos : 0 < i - fb_ct (cutl σ c) k := by
      rcases Nat.eq_zero_or_pos (i - fb_ct (cutl σ c) k) with z | z
      · exact absurd (e2.mpr z) q2
      · exact z
    refine ⟨sL σ - (k + 1), by omega, k + 1, by omega, rfl, ?_, ?_, nI_1 k, rfl, fun l hl hcl2 => ?_⟩
    · rw [fb_ct_succ, hcl, if_pos rfl]; omega
    · rw [fb_ct_succ, hcl, if_pos rfl, sb_m1 hpos]
      congr 1
    · rcases (show l < k ∨ l = k by omega) with z | z
      · exact hno l z hcl2
      · rw [z]; omega
/-! the cases -/
theorem sX5_refusalOf_f {σ : Sg} {M : zM} (X : RX σ M) {x : Int32} (hx : x < 0 ∨ nI (sR σ) ≤ x) {post : Int32 → Prop} (h : post (-1)) : pX5_refusalOf M x post := by
  unfold pX5_refusalOf
  exact sX2_isRelay_f X hx (eq00' h)
theorem sX5_refusalOf_0 {σ : Sg} {M : zM} (W : Wf σ) (X : RX σ M) {post : Int32 → Prop} (h : post (-2)) : pX5_refusalOf M (nI 0) post := by
  unfold pX5_refusalOf pX5_refusalOf_b23
  exact sX2_isRelay_t W X (by have := W.1; omega) (ne01 ⟨fun q => absurd rfl q, fun _ => h⟩)
theorem sX5_refusalOf_t {σ : Sg} {M : zM} (W : Wf σ) (X : RX σ M) {r : Nat} (hr : r < sR σ) (h0 : r ≠ 0) {post : Int32 → Prop} (h : post 0) : pX5_refusalOf M (nI r) post := by
  unfold pX5_refusalOf pX5_refusalOf_b23
  have hR := W.1
  exact sX2_isRelay_t W X hr (ne01 ⟨fun _ => h, fun q => absurd ((nI_eq (b := 0) (by omega) (by decide)).mp q) h0⟩)
theorem nI_n0 {r : Nat} (hr : r < 2 ^ 31) (h0 : r ≠ 0) : ¬ nI r = 0 := fun q => h0 ((nI_eq (b := 0) hr (by decide)).mp q)
theorem cs_flow {σ : Sg} {M N : zM} (R : Rel σ M N) (x1 : Int32) {post : Int32 → zM → Int32 → zM → Prop} (h : ∀ r σ' M' N', Rel σ' M' N' → post r M' r N') : pX5_flow M x1 (fun r M1 => pX6_flow N x1 (fun r' N1 => post r M1 r' N1)) := by
  have R0 := R
  obtain ⟨W, X, Y, A⟩ := R
  have hR := W.1
  unfold pX5_flow pX6_flow pX5_flow_b22 pX6_flow_b24
  rcases ix3 x1 (n := sR σ) (by omega) with hx | ⟨r, hr, rfl⟩
  · exact sX5_refusalOf_f X hx ⟨fun q => absurd q (by decide), fun _ => sX6_isRelay_f W Y hx (eq00' (h _ σ _ _ R0))⟩
  · by_cases h0 : r = 0
    · subst h0
      exact sX5_refusalOf_0 W X ⟨fun q => absurd q (by decide), fun _ => sX6_isRelay_t W Y hr (ne01 ⟨fun q => absurd rfl q, fun _ => h _ σ _ _ R0⟩)⟩
    · obtain ⟨n, hn, hfl⟩ := flow_ex W h0
      refine sX5_refusalOf_t W X hr h0 ⟨fun _ => sX4_mostTo W X hr hn hfl (fun M' hK _ => ?_), fun q => absurd rfl q⟩
      exact sX6_isRelay_t W Y hr (ne01 ⟨fun _ => sX6_flowOf W Y hr hn hfl (fun N' hK' _ => h _ σ _ _ (R0.K hK hK')), fun q => absurd q (nI_n0 (by omega) h0)⟩)
theorem cs_cut {σ : Sg} {M N : zM} (R : Rel σ M N) (x1 x2 : Int32) {post : Int32 → zM → Int32 → zM → Prop} (h : ∀ r σ' M' N', Rel σ' M' N' → post r M' r N') : pX5_cut M x1 x2 (fun r M1 => pX6_cut N x1 x2 (fun r' N1 => post r M1 r' N1)) := by
  have R0 := R
  obtain ⟨W, X, Y, A⟩ := R
  have hR := W.1
  unfold pX5_cut pX6_cut pX5_cut_b13 pX6_cut_b12
  by_cases h2 : 0 ≤ x2
  · obtain ⟨i, hi, rfl⟩ : ∃ i, i < 2 ^ 31 ∧ x2 = nI i := nI_of (fun q => by
      rw [Int32.lt_iff_toInt_lt] at q
      rw [Int32.le_iff_toInt_le] at h2
      omega)
    refine ⟨fun _ => ?_, fun q => absurd h2 q⟩
    rcases ix3 x1 (n := sR σ) (by omega) with hx | ⟨r, hr, rfl⟩
    · exact sX5_refusalOf_f X hx ⟨fun q => absurd q (by decide), fun _ => sX6_isRelay_f W Y hx (eq00 (h _ σ _ _ R0))⟩
    · by_cases h0 : r = 0
      · subst h0
        exact sX5_refusalOf_0 W X ⟨fun q => absurd q (by decide), fun _ => sX6_isRelay_t W Y hr (ne10 ⟨fun _ => ⟨fun q => absurd rfl q, fun _ => h _ σ _ _ R0⟩, fun q => absurd h2 q⟩)⟩
      · obtain ⟨n, hn, hfl⟩ := flow_ex W h0
        refine sX5_refusalOf_t W X hr h0 ⟨fun _ => sX4_mostTo W X hr hn hfl (fun M' hK hF => sX4_cutLine W (X.K hK) hF.1 hi (fun a ha => ?_)), fun q => absurd rfl q⟩
        refine sX6_isRelay_t W Y hr (ne10 ⟨fun _ => ⟨fun _ => sX6_flowOf W Y hr hn hfl (fun N' hK' hF' => sX6_cutL W (Y.K hK') hF'.1 hi (fun b hb => ?_)), fun q => absurd q (nI_n0 (by omega) h0)⟩, fun q => absurd h2 q⟩)
        rw [CutIs_one hb ha]
        exact h _ σ _ _ (R0.K hK hK')
  · refine ⟨fun q => absurd q h2, fun _ => ⟨fun q => absurd q (by decide), fun _ => ?_⟩⟩
    rcases ix3 x1 (n := sR σ) (by omega) with hx | ⟨r, hr, rfl⟩
    · exact sX6_isRelay_f W Y hx (eq00 (h _ σ _ _ R0))
    · exact sX6_isRelay_t W Y hr (ne10 ⟨fun q => absurd q h2, fun _ => h _ σ _ _ R0⟩)
/-! rate -/
noncomputable def flw (σ : Sg) (r : Nat) : Nat := @dite _ (∃ n, n ≤ sL σ ∧ FlowIs σ r n) (Classical.propDecidable _) (fun h => Classical.choose h) (fun _ => 0)
theorem flw_spec {σ : Sg} (W : Wf σ) {r : Nat} (h0 : r ≠ 0) : flw σ r ≤ sL σ ∧ FlowIs σ r (flw σ r) := by
  have h := flow_ex W h0
  unfold flw
  rw [dif_pos h]
  exact Classical.choose_spec h
noncomputable def lst (σ : Sg) : Nat → Option Nat
  | 0 => none
  | k + 1 => if sE σ k then (match lst σ k with
    | none => some (flw σ k)
    | some m => some (if flw σ k < m then flw σ k else m)) else lst σ k
def lsv (o : Option Nat) : Int32 := match o with
  | none => -1
  | some m => nI m
theorem lst_le {σ : Sg} (W : Wf σ) : ∀ k m, lst σ k = some m → m ≤ sL σ
  | 0, m, h => by cases h
  | k + 1, m, h => by
    have h' : (if sE σ k then (match lst σ k with
      | none => some (flw σ k)
      | some m => some (if flw σ k < m then flw σ k else m)) else lst σ k) = some m := h
    by_cases he : sE σ k = true
    · have hk0 : k ≠ 0 := by have := (W.2.2.2.2.2.1 k he).1; omega
      have hf := (flw_spec W hk0).1
      rw [if_pos he] at h'
      cases hq : lst σ k with
      | none => rw [hq] at h'; cases h'; exact hf
      | some m' =>
        rw [hq] at h'
        have := lst_le W k m' hq
        cases h'
        split <;> omega
    · rw [if_neg he] at h'
      exact lst_le W k m h'
theorem nI_nm1 {m : Nat} (h : m < 2 ^ 31) : ¬ nI m = (-1 : Int32) := by
  intro q
  have h1 := congrArg Int32.toInt q
  rw [nI_toInt h] at h1
  have : (-1 : Int32).toInt = -1 := by decide
  omega
theorem sX5_rate {σ : Sg} {M : zM} (W : Wf σ) (X : RX σ M) {post : Int32 → zM → Prop} (h : ∀ M', KX M M' → post (nI ((lst σ (sR σ)).getD 0)) M') : pX5_rate M post := by
  have hR := W.1
  have hL := W.2.1
  unfold pX5_rate pX5_rate_L4
  refine ⟨fun n x1 x2 M1 => ∃ k, 1 ≤ k ∧ k ≤ sR σ ∧ n = sR σ - k ∧ x1 = lsv (lst σ k) ∧ x2 = nI k ∧ KX M M1, ⟨sR σ - 1, 1, by omega, by omega, rfl, ?_, rfl, KX.rf⟩, ?_⟩
  · have : sE σ 0 = false := by
      cases hq : sE σ 0 with
      | false => rfl
      | true => have := (W.2.2.2.2.2.1 0 hq).1; omega
    show (-1 : Int32) = lsv (if sE σ 0 then _ else lst σ 0)
    rw [this]; rfl
  rintro n x1 x2 M1 ⟨k, hk1, hk, hn, rfl, rfl, hK⟩
  have X1 := X.K hK
  unfold pX5_rate_b4 pX5_rate_b53 pX5_rate_b54 pX5_rate_b70
  rw [X1.1.1]
  have e1 : (nI (sR σ) ≤ nI k) ↔ sR σ ≤ k := nI_leI (by omega) (by omega)
  refine ⟨fun q => ?_, fun q => ?_⟩
  · have : k = sR σ := by have := e1.mp q; omega
    subst this
    have h' := h M1 hK
    cases hq : lst σ (sR σ) with
    | none =>
      rw [hq] at h'
      exact ⟨fun z => absurd rfl z, fun _ => h'⟩
    | some m =>
      rw [hq] at h'
      have := lst_le W _ m hq
      exact ⟨fun _ => h', fun z => absurd z (nI_nm1 (by omega))⟩
  · have hk2 : k < sR σ := by
      rcases Nat.lt_or_ge k (sR σ) with z | z
      · exact z
      · exact absurd (e1.mpr z) q
    refine sX5_flag (by omega) ?_
    rw [X1.2.1 k (by omega)]
    refine bI_e1 (fun he => ?_) (fun he => ⟨sR σ - (k + 1), by omega, k + 1, by omega, by omega, rfl, ?_, nI_1 k, hK⟩)
    · obtain ⟨f1, f2⟩ := flw_spec W (r := k) (by omega)
      refine sX4_mostTo W X1 hk2 f1 f2 (fun M2 hK2 _ => ?_)
      have hl : lst σ (k + 1) = (match lst σ k with
        | none => some (flw σ k)
        | some m => some (if flw σ k < m then flw σ k else m)) := by show (if sE σ k then _ else _) = _; rw [if_pos he]
      cases hq : lst σ k with
      | none =>
        rw [hq] at hl
        exact ⟨fun z => absurd rfl z, fun _ => ⟨sR σ - (k + 1), by omega, k + 1, by omega, by omega, rfl, by rw [hl]; rfl, nI_1 k, hK.tr hK2⟩⟩
      | some m =>
        rw [hq] at hl
        have hm := lst_le W _ m hq
        refine ⟨fun _ => ⟨sR σ - (k + 1), by omega, k + 1, by omega, by omega, rfl, ?_, nI_1 k, hK.tr hK2⟩, fun z => absurd z (nI_nm1 (by omega))⟩
        rw [hl]
        show (if nI (flw σ k) < nI m then nI (flw σ k) else nI m) = nI (if flw σ k < m then flw σ k else m)
        have e2 : (nI (flw σ k) < nI m) ↔ flw σ k < m := nI_ltI (by omega) (by omega)
        by_cases z : flw σ k < m
        · rw [if_pos z, if_pos (e2.mpr z)]
        · rw [if_neg z, if_neg (fun w => z (e2.mp w))]
    · show lsv (lst σ k) = lsv (if sE σ k then _ else lst σ k)
      rw [he]; rfl
theorem sX6_rate {σ : Sg} {N : zM} (W : Wf σ) (Y : RM σ N) {post : Int32 → zM → Prop} (h : ∀ N', KM N N' → post (nI ((lst σ (sR σ)).getD 0)) N') : pX6_rate N post := by
  have hR := W.1
  have hL := W.2.1
  unfold pX6_rate pX6_rate_L4
  refine ⟨fun n x1 x2 N1 => ∃ k, 1 ≤ k ∧ k ≤ sR σ ∧ n = sR σ - k ∧ x1 = lsv (lst σ k) ∧ x2 = nI k ∧ KM N N1, ⟨sR σ - 1, 1, by omega, by omega, rfl, ?_, rfl, KM.rf⟩, ?_⟩
  · have : sE σ 0 = false := by
      cases hq : sE σ 0 with
      | false => rfl
      | true => have := (W.2.2.2.2.2.1 0 hq).1; omega
    show (-1 : Int32) = lsv (if sE σ 0 then _ else lst σ 0)
    rw [this]; rfl
  rintro n x1 x2 N1 ⟨k, hk1, hk, hn, rfl, rfl, hK⟩
  have Y1 := Y.K hK
  unfold pX6_rate_b4 pX6_rate_b45 pX6_rate_b40 pX6_rate_b45 pX6_rate_b46 pX6_rate_b62
  rw [Y1.1.1]
  have e1 : (nI (sR σ) ≤ nI k) ↔ sR σ ≤ k := nI_leI (by omega) (by omega)
  refine ⟨fun q => ?_, fun q => ?_⟩
  · have : k = sR σ := by have := e1.mp q; omega
    subst this
    have h' := h N1 hK
    cases hq : lst σ (sR σ) with
    | none =>
      rw [hq] at h'
      exact ⟨fun z => absurd rfl z, fun _ => h'⟩
    | some m =>
      rw [hq] at h'
      have := lst_le W _ m hq
      exact ⟨fun _ => h', fun z => absurd z (nI_nm1 (by omega))⟩
  · have hk2 : k < sR σ := by
      rcases Nat.lt_or_ge k (sR σ) with z | z
      · exact z
      · exact absurd (e1.mpr z) q
    rw [nI_clamp (by omega), Y1.2.2.1 k (by omega)]
    refine ⟨vp_in_nI (by omega) (by decide), bI_e0 (fun he => ?_) (fun he => ⟨sR σ - (k + 1), by omega, k + 1, by omega, by omega, rfl, ?_, nI_1 k, hK⟩)⟩
    · obtain ⟨f1, f2⟩ := flw_spec W (r := k) (by omega)
      refine sX6_flowOf W Y1 hk2 f1 f2 (fun N2 hK2 _ => ?_)
      have hl : lst σ (k + 1) = (match lst σ k with
        | none => some (flw σ k)
        | some m => some (if flw σ k < m then flw σ k else m)) := by show (if sE σ k then _ else _) = _; rw [if_pos he]
      cases hq : lst σ k with
      | none =>
        rw [hq] at hl
        exact ⟨fun _ => ⟨sR σ - (k + 1), by omega, k + 1, by omega, by omega, rfl, by rw [hl]; rfl, nI_1 k, hK.tr hK2⟩, fun z => absurd rfl z⟩
      | some m =>
        rw [hq] at hl
        have hm := lst_le W _ m hq
        have e2 : (nI m ≤ nI (flw σ k)) ↔ m ≤ flw σ k := nI_leI (by omega) (by omega)
        refine ⟨fun z => absurd z (nI_nm1 (by omega)), fun _ => ⟨fun z => ⟨sR σ - (k + 1), by omega, k + 1, by omega, by omega, rfl, ?_, nI_1 k, hK.tr hK2⟩, fun z => ⟨sR σ - (k + 1), by omega, k + 1, by omega, by omega, rfl, ?_, nI_1 k, hK.tr hK2⟩⟩⟩
        · rw [hl]
          show nI m = nI (if flw σ k < m then flw σ k else m)
          have := e2.mp z
          rw [if_neg (by omega)]
        · rw [hl]
          show nI (flw σ k) = nI (if flw σ k < m then flw σ k else m)
          have : ¬ m ≤ flw σ k := fun w => z (e2.mpr w)
          rw [if_pos (by omega)]
    · show lsv (lst σ k) = lsv (if sE σ k then _ else lst σ k)
      rw [he]; rfl
theorem cs_rate {σ : Sg} {M N : zM} (R : Rel σ M N) {post : Int32 → zM → Int32 → zM → Prop} (h : ∀ r σ' M' N', Rel σ' M' N' → post r M' r N') : pX5_rate M (fun r M1 => pX6_rate N (fun r' N1 => post r M1 r' N1)) :=
  sX5_rate R.1 R.2.1 (fun _ hK => sX6_rate R.1 R.2.2.1 (fun _ hK' => h _ σ _ _ (R.K hK hK')))
