/-! flows: the class -/
def FX (u : Nat → Bool) (s : Fs) (M : zM) : Prop := (∀ k, k < 32 → bt (M.1 2 3) k = s.1 k) ∧ (∀ k, s.1 k = true → k ≠ 0 → M.1 16 k = nI (s.2.1 k)) ∧ (∀ l, l < 30 → bt (M.1 2 2) l = u l)
theorem bI_e1 {b : Bool} {P Q : Prop} (ht : b = true → P) (hf : b = false → Q) : (¬ (bI b = (1 : Int32)) → Q) ∧ (bI b = (1 : Int32) → P) := by
  cases b
  · exact ⟨fun _ => hf rfl, fun q => absurd q (by decide)⟩
  · exact ⟨fun q => absurd rfl q, fun _ => ht rfl⟩
theorem bI_e0 {b : Bool} {P Q : Prop} (ht : b = true → P) (hf : b = false → Q) : (¬ (bI b = 0) → P) ∧ (bI b = 0 → Q) := by
  cases b
  · exact ⟨fun q => absurd rfl q, fun _ => hf rfl⟩
  · exact ⟨fun _ => ht rfl, fun q => absurd q (by decide)⟩
theorem bI_e0' {b : Bool} {P Q : Prop} (ht : b = true → P) (hf : b = false → Q) : (bI b = 0 → Q) ∧ (¬ (bI b = 0) → P) := ⟨(bI_e0 ht hf).2, (bI_e0 ht hf).1⟩
theorem or_bt (s : Int32) {m k : Nat} (hm : m < 32) (hk : k < 32) : bt (s ||| ((1 : Int32) <<< (nI m &&& 31))) k = if k = m then true else bt s k := by
  rw [b_or, b_shl m hm _ hk, b_1]
  by_cases e : k = m
  · subst e; rw [if_pos rfl]; simp
  · rw [if_neg e]
    rcases Nat.lt_or_ge k m with q | q
    · simp [Nat.not_le.mpr q]
    · have : k - m ≠ 0 := by omega
      simp [this]
theorem xor_bt (s : Int32) {m k : Nat} (hm : m < 32) (hk : k < 32) : bt (s ^^^ ((1 : Int32) <<< (nI m &&& 31))) k = if k = m then !bt s k else bt s k := by
  rw [b_xor, b_shl m hm _ hk, b_1]
  by_cases e : k = m
  · subst e; rw [if_pos rfl]; simp
  · rw [if_neg e]
    rcases Nat.lt_or_ge k m with q | q
    · simp [Nat.not_le.mpr q]
    · have : k - m ≠ 0 := by omega
      simp [this]
theorem sX4_reachBy {σ : Sg} {M : zM} (W : Wf σ) (X : RX σ M) {u : Nat → Bool} {s : Fs} (F : FX u s M) (ok : Fok σ u s) {l : Nat} (hl : l < sL σ) (hB : sB σ l = false) {post : zM → Prop} (h : ∀ M', KX M M' → FX u (fstep σ u s l) M' → post M') : pX4_reachBy M (nI l) post := by
  have hL := W.2.1
  have hR := W.1
  obtain ⟨e1, e2, e3⟩ := fends W u hl
  have key : pX4_reachBy_b69 post (nI l) (nI (fsrc σ u l)) (nI (fdst σ u l)) M := by
    unfold pX4_reachBy_b69 pX4_reachBy_b116
    refine sX5_flag (by omega) ?_
    rw [F.1 _ (by omega)]
    refine bI_e1 (fun hs => ?_) (fun hs => ?_)
    · refine sX5_flag (by omega) ?_
      rw [F.1 _ (by omega)]
      refine bI_e0 (fun hd => ?_) (fun hd => ⟨vp_in_nI (by omega) (by decide), ?_⟩)
      · refine h M KX.rf ?_
        have : fstep σ u s l = s := by unfold fstep; rw [if_neg (by unfold fgo; rw [hd]; simp)]
        rw [this]; exact F
      · rw [nI_clamp (by omega)]
        have hst : fstep σ u s l = fnew σ u s l := by unfold fstep; rw [if_pos (by unfold fgo; rw [hd, hs, hB]; rfl)]
        refine h _ ((KX.si (by decide)).tr (KX.si (by decide))) ?_
        rw [hst]
        refine ⟨fun k hk => ?_, fun k hk hk0 => ?_, F.2.2⟩
        · show bt (M.1 2 3 ||| ((1 : Int32) <<< (nI (fdst σ u l) &&& 31))) k = if k = fdst σ u l then true else s.1 k
          rw [or_bt _ (by omega) hk, F.1 k hk]
        · have hk' : (if k = fdst σ u l then true else s.1 k) = true := hk
          show (if k = fdst σ u l then nI l else M.1 16 k) = nI (if k = fdst σ u l then l else s.2.1 k)
          by_cases e : k = fdst σ u l
          · rw [if_pos e, if_pos e]
          · rw [if_neg e] at hk'
            rw [if_neg e, if_neg e]; exact F.2.1 k hk' hk0
    · refine h M KX.rf ?_
      have : fstep σ u s l = s := by unfold fstep; rw [if_neg (by unfold fgo; rw [hs]; simp)]
      rw [this]; exact F
  have hv := vp_in_nI (n := l) (N := 30) (by omega) (by decide)
  unfold pX4_reachBy
  refine sX5_flag (by omega) ?_
  rw [F.2.2 l (by omega)]
  unfold pX4_reachBy_b17 pX4_reachBy_b43
  rw [nI_clamp (by omega), (X.2.2.2.2.1 l hl).1, (X.2.2.2.2.1 l hl).2]
  refine bI_e1 (fun hu => ?_) (fun hu => ?_)
  · have k1 : fsrc σ u l = sT σ l := by unfold fsrc; rw [hu]; rfl
    have k2 : fdst σ u l = sF σ l := by unfold fdst; rw [hu]; rfl
    rw [k1, k2] at key
    exact ne10 ⟨hv, ne10 ⟨hv, key⟩⟩
  · have k1 : fsrc σ u l = sF σ l := by unfold fsrc; rw [hu]; rfl
    have k2 : fdst σ u l = sT σ l := by unfold fdst; rw [hu]; rfl
    rw [k1, k2] at key
    exact eq00 ⟨hv, eq00 ⟨hv, key⟩⟩
theorem sX4_reachL {σ : Sg} {M0 : zM} (W : Wf σ) (X : RX σ M0) {u : Nat → Bool} {m : Nat} (F : FX u (fit σ u m) M0) {post : zM → Prop} {ag7 : Int32 → zM → Prop} (h : ∀ M', KX M0 M' → FX u (fit σ u (m + 1)) M' → (¬ (M'.1 2 3 = M0.1 2 3) → ag7 (nI m + 1) M') ∧ (M'.1 2 3 = M0.1 2 3 → post M')) : pX4_reach_L25 post ag7 (nI m) (M0.1 2 3) 0 M0 := by
  have hL := W.2.1
  unfold pX4_reach_L25
  refine ⟨fun n x1 x2 x3 M1 => ∃ k, k ≤ sL σ ∧ n = sL σ - k ∧ x1 = nI m ∧ x2 = M0.1 2 3 ∧ x3 = nI k ∧ KX M0 M1 ∧ FX u (fpass σ u (fit σ u m) k) M1, ⟨sL σ, 0, by omega, rfl, rfl, rfl, rfl, KX.rf, F⟩, ?_⟩
  rintro n x1 x2 x3 M1 ⟨k, hk, hn, rfl, rfl, rfl, hK, hF⟩
  have X1 := X.K hK
  unfold pX4_reach_b25 pX4_reach_b55 pX4_reach_b78
  rw [X1.1.2.1]
  have e1 : (nI (sL σ) ≤ nI k) ↔ sL σ ≤ k := nI_leI (by omega) (by omega)
  refine ⟨fun q => ?_, fun q => ?_⟩
  · have : k = sL σ := by have := e1.mp q; omega
    subst this
    exact h M1 hK hF
  · have hk2 : k < sL σ := by
      rcases Nat.lt_or_ge k (sL σ) with z | z
      · exact z
      · exact absurd (e1.mpr z) q
    refine sX5_flag (by omega) ?_
    rw [X1.2.2.2.1 k (by omega)]
    refine bI_e0 (fun hb => ?_) (fun hb => ?_)
    · refine ⟨sL σ - (k + 1), by omega, k + 1, by omega, rfl, rfl, rfl, nI_1 k, hK, ?_⟩
      show FX u (fstep σ u (fpass σ u (fit σ u m) k) k) M1
      have : fstep σ u (fpass σ u (fit σ u m) k) k = fpass σ u (fit σ u m) k := by unfold fstep; rw [if_neg (by unfold fgo; rw [hb]; simp)]
      rw [this]; exact hF
    · refine sX4_reachBy W X1 hF (fok_pass W (fok_it W u m) k (by omega)) hk2 hb (fun M' hK' hF' => ⟨sL σ - (k + 1), by omega, k + 1, by omega, rfl, rfl, rfl, nI_1 k, hK.tr hK', hF'⟩)
theorem sX4_reach {σ : Sg} {M : zM} (W : Wf σ) (X : RX σ M) {u : Nat → Bool} (hu : ∀ l, l < 30 → bt (M.1 2 2) l = u l) {post : zM → Prop} (h : ∀ M', KX M M' → FX u (fsk σ u) M' → post M') : pX4_reach M post := by
  have hR := W.1
  unfold pX4_reach pX4_reach_L7
  refine ⟨fun n x1 M1 => ∃ m, m ≤ sR σ ∧ n = sR σ - m ∧ x1 = nI m ∧ KX M M1 ∧ FX u (fit σ u m) M1, ⟨sR σ, 0, by omega, rfl, rfl, KX.si (by decide), ?_⟩, ?_⟩
  · refine ⟨fun k hk => ?_, fun k hk hk0 => ?_, hu⟩
    · show bt 1 k = (k == 0)
      rw [b_1]
      by_cases e : k = 0 <;> simp [e]
    · have : k = 0 := by simpa [fit, fini] using hk
      exact absurd this hk0
  · rintro n x1 M1 ⟨m, hm, hn, rfl, hK, hF⟩
    have X1 := X.K hK
    unfold pX4_reach_b7 pX4_reach_b78
    rw [X1.1.1]
    have e1 : (nI (sR σ) ≤ nI m) ↔ sR σ ≤ m := nI_leI (by omega) (by omega)
    refine ⟨fun q => ?_, fun q => ?_⟩
    · have : m = sR σ := by have := e1.mp q; omega
      subst this
      exact h M1 hK hF
    · have hm2 : m < sR σ := by
        rcases Nat.lt_or_ge m (sR σ) with z | z
        · exact z
        · exact absurd (e1.mpr z) q
      refine sX4_reachL W X1 hF (fun M' hK' hF' => ⟨fun _ => ⟨sR σ - (m + 1), by omega, m + 1, by omega, rfl, nI_1 m, hK.tr hK', hF'⟩, fun q2 => ?_⟩)
      have hst : fit σ u (m + 1) = fit σ u m := fit_same W (fun k hk => by rw [← hF'.1 k (by omega), ← hF.1 k (by omega), q2])
      have hfs : fit σ u (m + 1) = fsk σ u := by rw [hst]; exact fit_fsk W hst
      rw [hfs] at hF'
      exact h M' (hK.tr hK') hF'
theorem sX4_turnWayTo {σ : Sg} {M : zM} (W : Wf σ) (X : RX σ M) {u : Nat → Bool} (F : FX u (fsk σ u) M) {r : Nat} (hc : (fsk σ u).1 r = true) {post : zM → Prop} (h : ∀ M', KX M M' → (∀ l, l < 30 → bt (M'.1 2 2) l = fturn σ u (sR σ) r u l) → post M') : pX4_turnWayTo M (nI r) post := by
  have hR := W.1
  have hL := W.2.1
  have ok := fsk_ok W u
  unfold pX4_turnWayTo pX4_turnWayTo_L4
  refine ⟨fun n x2 x3 M1 => ∃ j a v, j ≤ sR σ ∧ n = sR σ - j ∧ x2 = nI a ∧ x3 = nI j ∧ KX M M1 ∧ M1.1 16 = M.1 16 ∧ (fsk σ u).1 a = true ∧ (∀ l, l < 30 → bt (M1.1 2 2) l = v l) ∧ fturn σ u (sR σ - j) a v = fturn σ u (sR σ) r u, ⟨sR σ, 0, r, u, by omega, rfl, rfl, rfl, KX.rf, rfl, hc, F.2.2, rfl⟩, ?_⟩
  rintro n x2 x3 M1 ⟨j, a, v, hj, hn, rfl, rfl, hK, h16, hca, hv, ht⟩
  have X1 := X.K hK
  have ha := ok.2.1 a hca
  unfold pX4_turnWayTo_b4 pX4_turnWayTo_b77 pX4_turnWayTo_b84
  rw [X1.1.1]
  have e1 : (nI (sR σ) ≤ nI j) ↔ sR σ ≤ j := nI_leI (by omega) (by omega)
  refine ⟨fun q => h M1 hK (fun l hl => ?_), fun q => ⟨fun q2 => h M1 hK (fun l hl => ?_), fun q2 => ?_⟩⟩
  · have : j = sR σ := by have := e1.mp q; omega
    subst this
    rw [hv l hl, ← ht, Nat.sub_self]; rfl
  · have ha0 : a = 0 := (nI_eq (b := 0) (by omega) (by decide)).mp q2
    subst ha0
    rw [hv l hl, ← ht]
    cases (sR σ - j) with
    | zero => rfl
    | succ n => show _ = (if (0 : Nat) = 0 then v else _) l; rw [if_pos rfl]
  · have hj2 : j < sR σ := by
      rcases Nat.lt_or_ge j (sR σ) with z | z
      · exact z
      · exact absurd (e1.mpr z) q
    have ha0 : a ≠ 0 := fun e => q2 (by rw [e]; rfl)
    obtain ⟨b1, b2, b3, b4, b5⟩ := ok.2.2.1 a hca ha0
    have hFT := W.2.2.2.1 _ b1
    rw [nI_clamp (by omega), h16, F.2.1 a hca ha0, nI_clamp (by omega)]
    generalize hl0 : (fsk σ u).2.1 a = l0 at b1 b2 b3 b4 b5 hFT ⊢
    have r7 : (zsi M1 2 2 ((M1.1 2 2) ^^^ ((1 : Int32) <<< (nI l0 &&& 31)))).1 7 l0 = nI (sT σ l0) := (X1.2.2.2.2.1 l0 b1).2
    have r6 : (zsi M1 2 2 ((M1.1 2 2) ^^^ ((1 : Int32) <<< (nI l0 &&& 31)))).1 6 l0 = nI (sF σ l0) := (X1.2.2.2.2.1 l0 b1).1
    rw [r7, r6]
    have hstep : fturn σ u (sR σ - j) a v = fturn σ u (sR σ - (j + 1)) (fsrc σ u l0) (fflip v l0) := by
      rw [show sR σ - j = (sR σ - (j + 1)) + 1 by omega]
      show (if a = 0 then v else fturn σ u (sR σ - (j + 1)) (fpar σ u a) (fflip v ((fsk σ u).2.1 a))) = _
      rw [if_neg ha0, hl0]
      unfold fpar
      rw [hl0]
    have hbits : ∀ l, l < 30 → bt ((zsi M1 2 2 ((M1.1 2 2) ^^^ ((1 : Int32) <<< (nI l0 &&& 31)))).1 2 2) l = fflip v l0 l := fun l hl => by
      show bt ((M1.1 2 2) ^^^ ((1 : Int32) <<< (nI l0 &&& 31))) l = if l = l0 then !v l else v l
      rw [xor_bt _ (by omega) (by omega), hv l hl]
    have eT : (nI (sT σ l0) = nI a) ↔ sT σ l0 = a := nI_eq (by omega) (by omega)
    have hv2 := vp_in_nI (n := l0) (N := 30) (by omega) (by decide)
    refine ⟨vp_in_nI (by omega) (by decide), hv2, fun q3 => ⟨hv2, ?_⟩, fun q3 => ⟨hv2, ?_⟩⟩
    · have hs : fsrc σ u l0 = sT σ l0 := by
        cases hq : u l0 with
        | true => unfold fsrc; rw [hq]; rfl
        | false =>
          unfold fdst at b3
          rw [hq] at b3
          exact absurd (eT.mpr (by simpa using b3)) q3
      rw [hs] at hstep b4
      exact ⟨sR σ - (j + 1), by omega, j + 1, sT σ l0, fflip v l0, by omega, rfl, rfl, nI_1 j, hK.tr (KX.si (by decide)), h16, b4, hbits, hstep.symm.trans ht⟩
    · have hs : fsrc σ u l0 = sF σ l0 := by
        cases hq : u l0 with
        | false => unfold fsrc; rw [hq]; rfl
        | true =>
          unfold fdst at b3
          rw [hq, if_pos rfl] at b3
          have := eT.mp q3
          omega
      rw [hs] at hstep b4
      exact ⟨sR σ - (j + 1), by omega, j + 1, sF σ l0, fflip v l0, by omega, rfl, rfl, nI_1 j, hK.tr (KX.si (by decide)), h16, b4, hbits, hstep.symm.trans ht⟩
theorem sX4_mostTo {σ : Sg} {M : zM} (W : Wf σ) (X : RX σ M) {r n : Nat} (hr : r < sR σ) (hn : n ≤ sL σ) (hfl : FlowIs σ r n) {post : Int32 → zM → Prop} (h : ∀ M', KX M M' → FX (fuse σ r n) (fsk σ (fuse σ r n)) M' → post (nI n) M') : pX4_mostTo M (nI r) post := by
  have hR := W.1
  have hL := W.2.1
  unfold pX4_mostTo pX4_mostTo_L9
  refine ⟨fun m x1 x2 x3 M1 => ∃ k, k ≤ n ∧ m = n - k ∧ x1 = nI r ∧ x2 = nI k ∧ x3 = nI k ∧ KX M M1 ∧ (∀ l, l < 30 → bt (M1.1 2 2) l = fuse σ r k l), ⟨n, 0, by omega, rfl, rfl, rfl, rfl, KX.si (by decide), fun l hl => ?_⟩, ?_⟩
  · show bt 0 l = false
    exact b_0 l
  · rintro m x1 x2 x3 M1 ⟨k, hk, hm, rfl, rfl, rfl, hK, hv⟩
    have X1 := X.K hK
    unfold pX4_mostTo_b9 pX4_mostTo_b52
    rw [X1.1.2.1]
    refine ⟨fun q => absurd q (nI_nlt (by omega) (by omega)), fun _ => sX4_reach W X1 hv (fun M2 hK2 hF2 => sX5_flag (by omega) ?_)⟩
    rw [hF2.1 r (by omega)]
    refine bI_e0 (fun hc => ?_) (fun hc => ?_)
    · have hkn : k ≠ n := fun e => by subst e; rw [hfl.2] at hc; cases hc
      refine sX4_turnWayTo W (X1.K hK2) hF2 hc (fun M3 hK3 hv3 => ⟨n - (k + 1), by omega, k + 1, by omega, rfl, rfl, nI_1 k, nI_1 k, hK.tr (hK2.tr hK3), hv3⟩)
    · have hkn : k = n := by
        rcases Nat.lt_or_ge k n with z | z
        · have := hfl.1 k z
          rw [hc] at this
          cases this
        · omega
      subst hkn
      exact h M2 (hK.tr hK2) hF2
/-! the cut -/
def cutl (σ : Sg) (c : Nat → Bool) (l : Nat) : Bool := !(sB σ l) && (c (sF σ l) && !(c (sT σ l)))
def CutIs (σ : Sg) (c : Nat → Bool) (i : Nat) (a : Int32) : Prop := (∃ l, l < sL σ ∧ cutl σ c l = true ∧ fb_ct (cutl σ c) l = i ∧ a = nI l) ∨ ((∀ l, l < sL σ → cutl σ c l = true → fb_ct (cutl σ c) l ≠ i) ∧ a = -1)
theorem CutIs_one {σ : Sg} {c : Nat → Bool} {i : Nat} {a b : Int32} (h1 : CutIs σ c i a) (h2 : CutIs σ c i b) : a = b := by
  rcases h1 with ⟨l, a1, a2, a3, a4⟩ | ⟨a1, a2⟩
  · rcases h2 with ⟨l', b1, b2, b3, b4⟩ | ⟨b1, b2⟩
    · have : l = l' := fb_ct_kth_one a2 b2 (a3.trans b3.symm)
      rw [a4, b4, this]
    · exact absurd a3 (b1 l a1 a2)
  · rcases h2 with ⟨l', b1, b2, b3, b4⟩ | ⟨b1, b2⟩
    · exact absurd b3 (a1 l' b1 b2)
    · rw [a2, b2]
theorem sX4_cutLine {σ : Sg} {M : zM} (W : Wf σ) (X : RX σ M) {c : Nat → Bool} (hc : ∀ k, k < 32 → bt (M.1 2 3) k = c k) {i : Nat} (hi : i < 2 ^ 31) {post : Int32 → Prop} (h : ∀ a, CutIs σ c i a → post a) : pX4_cutLine M (nI i) post := by
  have hL := W.2.1
  have hR := W.1
  unfold pX4_cutLine pX4_cutLine_L4
  refine ⟨fun n x1 x2 x3 => ∃ k, k ≤ sL σ ∧ n = sL σ - k ∧ x1 = nI i ∧ x2 = nI (fb_ct (cutl σ c) k) ∧ x3 = nI k ∧ ∀ l, l < k → cutl σ c l = true → fb_ct (cutl σ c) l ≠ i, ⟨sL σ, 0, by omega, rfl, rfl, rfl, rfl, fun l hl => by omega⟩, ?_⟩
  rintro n x1 x2 x3 ⟨k, hk, hn, rfl, rfl, rfl, hno⟩
  unfold pX4_cutLine_b4 pX4_cutLine_b78
  rw [X.1.2.1]
  have e1 : (nI (sL σ) ≤ nI k) ↔ sL σ ≤ k := nI_leI (by omega) (by omega)
  refine ⟨fun q => ?_, fun q => ?_⟩
  · have : k = sL σ := by have := e1.mp q; omega
    subst this
    exact h _ (Or.inr ⟨hno, rfl⟩)
  · have hk2 : k < sL σ := by
      rcases Nat.lt_or_ge k (sL σ) with z | z
      · exact z
      · exact absurd (e1.mpr z) q
    have hFT := W.2.2.2.1 k hk2
    have hct := fb_ct_le (cutl σ c) k
    have skip : cutl σ c k = false → ∃ k_1, k_1 < n ∧ ∃ k_2, k_2 ≤ sL σ ∧ k_1 = sL σ - k_2 ∧ nI i = nI i ∧ nI (fb_ct (cutl σ c) k) = nI (fb_ct (cutl σ c) k_2) ∧ nI k + 1 = nI k_2 ∧ ∀ l, l < k_2 → cutl σ c l = true → fb_ct (cutl σ c) l ≠ i := fun hz =>
      ⟨sL σ - (k + 1), by omega, k + 1, by omega, rfl, rfl, by rw [fb_ct_succ, hz]; rfl, nI_1 k, fun l hl hcl => by
        rcases (show l < k ∨ l = k by omega) with z | z
        · exact hno l z hcl
        · rw [z, hz] at hcl; cases hcl⟩
    refine sX5_flag (by omega) ?_
    rw [X.2.2.2.1 k (by omega), nI_clamp (by omega), (X.2.2.2.2.1 k hk2).1, (X.2.2.2.2.1 k hk2).2]
    refine bI_e0 (fun hb => skip (by unfold cutl; rw [hb]; rfl)) (fun hb => ⟨vp_in_nI (by omega) (by decide), sX5_flag (by omega) ?_⟩)
    rw [hc _ (by omega)]
    refine bI_e1 (fun hs => ⟨vp_in_nI (by omega) (by decide), sX5_flag (by omega) ?_⟩) (fun hs => skip (by unfold cutl; rw [hs]; simp))
    rw [hc _ (by omega)]
    refine bI_e0 (fun hd => skip (by unfold cutl; rw [hd]; simp)) (fun hd => ?_)
    have hcl : cutl σ c k = true := by unfold cutl; rw [hb, hs, hd]; rfl
    have e2 : (nI (fb_ct (cutl σ c) k) = nI i) ↔ fb_ct (cutl σ c) k = i := nI_eq (by omega) hi
    refine ⟨fun q2 => ⟨sL σ - (k + 1), by omega, k + 1, by omega, rfl, rfl, by rw [fb_ct_succ, hcl]; exact nI_1 _, nI_1 k, fun l hl hcl2 => ?_⟩, fun q2 => h _ (Or.inl ⟨k, hk2, hcl, e2.mp q2, rfl⟩)⟩
    rcases (show l < k ∨ l = k by omega) with z | z
    · exact hno l z hcl2
    · rw [z]; exact fun e => q2 (e2.mpr e)
