/-! about -/
theorem cs_about {σ : Sg} {M N : zM} (R : Rel σ M N) (x1 x2 : Int32) {post : Int32 → Int32 → Prop} (h : ∀ r, post r r) : pX5_about M x1 x2 (fun r => pX6_about N x1 x2 (fun r' => post r r')) := by
  obtain ⟨W, X, Y, A⟩ := R
  have hL := W.2.1
  unfold pX5_about pX6_about pX5_about_b128 pX6_about_b86 pX6_about_b101 pX6_about_b118 pX6_about_b132
  rcases ix3 x1 (n := sL σ) (by omega) with hx | ⟨l, hl, rfl⟩
  · exact sX2_isLine_f X hx (eq00' (sX6_isLine_f W Y hx (eq00' (h _))))
  · have hv := vp_in_nI (n := l) (N := 30) (by omega) (by decide)
    refine sX2_isLine_t W X hl (ne01 ?_)
    rw [nI_clamp (by omega), (X.2.2.2.2.1 l hl).1, (X.2.2.2.2.1 l hl).2, X.2.2.2.2.2.1 l (by omega), (Y.2.2.2.1 l hl).1, (Y.2.2.2.1 l hl).2, (Y.2.2.2.2.1 l (by omega)).1, (Y.2.2.2.2.1 l (by omega)).2, Y.2.2.2.2.2.1 l (by omega)]
    have d : ∀ {a b : Int32} {P : Prop}, a ≠ b → x2 = a → x2 = b → P := fun hab e1 e2 => absurd (e1.symm.trans e2) hab
    refine ⟨fun q => ⟨hv, sX6_isLine_t W Y hl (ne01 ?_)⟩, fun q => ⟨hv, sX6_isLine_t W Y hl (ne01 ?_)⟩, fun q => sX2_insOf W X hl (sX6_isLine_t W Y hl (ne01 ?_)), fun q => sX5_flag (by omega) (sX6_isLine_t W Y hl (ne01 ?_)), fun q => sX5_flag (by omega) (sX6_isLine_t W Y hl (ne01 ?_)), fun q => ⟨hv, fun q2 => sX5_asFlag0 (sX6_isLine_t W Y hl (ne01 ?_)), fun q2 => sX5_asFlag1 (sX6_isLine_t W Y hl (ne01 ?_))⟩, fun q => sX2_isPassing W X hl (sX5_asFlag (sX6_isLine_t W Y hl (ne01 ?_))), fun n0 n1 n2 n3 n4 n5 n6 => sX6_isLine_t W Y hl (ne01 ?_)⟩
    · exact ⟨fun _ => ⟨hv, h _⟩, d (by decide) q, d (by decide) q, d (by decide) q, d (by decide) q, d (by decide) q, d (by decide) q, fun z => absurd q z⟩
    · exact ⟨d (by decide) q, fun _ => ⟨hv, h _⟩, d (by decide) q, d (by decide) q, d (by decide) q, d (by decide) q, d (by decide) q, fun _ z => absurd q z⟩
    · exact ⟨d (by decide) q, d (by decide) q, fun _ => sX6_ins W Y hl (h _), d (by decide) q, d (by decide) q, d (by decide) q, d (by decide) q, fun _ _ z => absurd q z⟩
    · rw [X.2.2.1 l (by omega)]
      exact ⟨d (by decide) q, d (by decide) q, d (by decide) q, fun _ => ⟨hv, bI_if (sK σ l) (P := fun t => post (bI (sK σ l)) t) (h _)⟩, d (by decide) q, d (by decide) q, d (by decide) q, fun _ _ _ z => absurd q z⟩
    · rw [X.2.2.2.1 l (by omega)]
      exact ⟨d (by decide) q, d (by decide) q, d (by decide) q, d (by decide) q, fun _ => ⟨hv, bI_if (sB σ l) (P := fun t => post (bI (sB σ l)) t) (h _)⟩, d (by decide) q, d (by decide) q, fun _ _ _ _ z => absurd q z⟩
    · exact ⟨d (by decide) q, d (by decide) q, d (by decide) q, d (by decide) q, d (by decide) q, fun _ => ⟨hv, fun _ => h _, fun z => absurd q2 z⟩, d (by decide) q, fun _ _ _ _ _ z => absurd q z⟩
    · exact ⟨d (by decide) q, d (by decide) q, d (by decide) q, d (by decide) q, d (by decide) q, fun _ => ⟨hv, fun z => absurd z q2, fun _ => h _⟩, d (by decide) q, fun _ _ _ _ _ z => absurd q z⟩
    · exact ⟨d (by decide) q, d (by decide) q, d (by decide) q, d (by decide) q, d (by decide) q, d (by decide) q, fun _ => sX6_isPassing W Y hl (bI_if (pas σ l) (P := fun t => post (bI (pas σ l)) t) (h _)), fun _ _ _ _ _ _ z => absurd q z⟩
    · exact ⟨fun z => absurd z n0, fun z => absurd z n1, fun z => absurd z n2, fun z => absurd z n3, fun z => absurd z n4, fun z => absurd z n5, fun z => absurd z n6, fun _ _ _ _ _ _ _ => h _⟩
/-! line -/
theorem zri_self (M : zM) (c : Nat) : zri M c (M.1 c) = M := by
  unfold zri
  refine Prod.ext ?_ rfl
  funext a
  by_cases e : a = c
  · subst e; simp
  · simp [e]
theorem zsi_zri (M : zM) (c k : Nat) (f : Nat → Int32) (v : Int32) : zsi (zri M c f) c k v = zri M c (upd f k v) := by
  unfold zsi zri
  refine Prod.ext ?_ rfl
  funext a
  by_cases e : a = c
  · subst e; simp
  · simp [e]
theorem cnt_lt {σ : Sg} {r l n : Nat} (hl : l < n) (hT : sT σ l = r) : cnt σ r l < cnt σ r n := by
  have h1 := cnt_succ σ r l
  rw [if_pos hT] at h1
  have h2 : cnt σ r (l + 1) ≤ cnt σ r n := fb_ct_mono _ hl
  omega
/-- the state with one line more -/
def sLine (σ : Sg) (a b : Nat) : Sg := ((sR σ, sL σ + 1, sH σ), sP σ, sE σ, ((fun k => if k = sL σ then a else sF σ k), (fun k => if k = sL σ then b else sT σ k)), σ.2.2.2.2)
theorem cnt_sLine (σ : Sg) (a b r : Nat) {n : Nat} (hn : n ≤ sL σ) : cnt (sLine σ a b) r n = cnt σ r n := by
  unfold cnt
  refine fb_ct_cong (fun k hk => ?_)
  show ((if k = sL σ then b else sT σ k) == r) = _
  rw [if_neg (by omega)]
theorem cnt_sLine1 (σ : Sg) (a b r : Nat) : cnt (sLine σ a b) r (sL σ + 1) = cnt σ r (sL σ) + (if b = r then 1 else 0) := by
  rw [cnt_succ, cnt_sLine σ a b r (Nat.le_refl _)]
  show _ + (if (if sL σ = sL σ then b else sT σ (sL σ)) = r then 1 else 0) = _
  rw [if_pos rfl]
theorem isIn_sLine {σ : Sg} {a b r i l : Nat} (h : isIn (sLine σ a b) r i l) : (l < sL σ ∧ isIn σ r i l) ∨ (l = sL σ ∧ r = b ∧ i = cnt σ b (sL σ)) := by
  obtain ⟨h1, h2, h3⟩ := h
  have h1' : l < sL σ + 1 := h1
  have h2' : (if l = sL σ then b else sT σ l) = r := h2
  by_cases e : l = sL σ
  · rw [if_pos e] at h2'
    subst e
    rw [cnt_sLine σ a b r (Nat.le_refl _)] at h3
    exact Or.inr ⟨rfl, h2'.symm, by rw [h2', h3]⟩
  · rw [if_neg e] at h2'
    rw [cnt_sLine σ a b r (by omega)] at h3
    exact Or.inl ⟨by omega, by omega, h2', h3⟩
theorem Wf_sLine {σ : Sg} (W : Wf σ) {a b : Nat} (hab : a < b) (hb : b < sR σ) (hL : sL σ < 30) : Wf (sLine σ a b) := by
  refine ⟨W.1, by show sL σ + 1 ≤ 30; omega, W.2.2.1, fun l hl => ?_, W.2.2.2.2.1, W.2.2.2.2.2.1, fun l hl => ?_⟩
  · show (if l = sL σ then a else sF σ l) < (if l = sL σ then b else sT σ l) ∧ (if l = sL σ then b else sT σ l) < sR σ
    by_cases e : l = sL σ
    · rw [if_pos e, if_pos e]; exact ⟨hab, hb⟩
    · rw [if_neg e, if_neg e]
      have : l < sL σ + 1 := hl
      exact W.2.2.2.1 l (by omega)
  · have := W.2.2.2.2.2.2 l hl
    show l < sL σ + 1
    omega
/-- what the insertion into the order ends with -/
theorem sX2_addLoop {σ : Sg} {Mb : zM} {a : Nat} {g0 : Nat → Int32} (hL : sL σ < 30) (ha : a < 12) {o : Nat → Nat} (hF : ∀ l, l < sL σ → Mb.1 6 l = nI (sF σ l) ∧ sF σ l < 12) (ho : ∀ k, k < sL σ → g0 k = nI (o k) ∧ o k < sL σ) (hs : ∀ i j, i < j → j < sL σ → sF σ (o i) ≤ sF σ (o j)) (hLm : Mb.1 1 1 = nI (sL σ)) {post : Int32 → zM → Prop}
    (h : ∀ (k : Nat) (g : Nat → Int32), k ≤ sL σ → (∀ j, j < k → g j = nI (o j) ∧ sF σ (o j) ≤ a) → g k = nI (sL σ) → (∀ j, k < j → j ≤ sL σ → g j = nI (o (j - 1)) ∧ a < sF σ (o (j - 1))) → post (nI (sL σ)) (zsi (zri Mb 13 g) 1 1 (nI (sL σ + 1)))) : pX2_addLine_L48 post (nI a) (nI (sL σ)) (nI (sL σ)) (zri Mb 13 g0) := by
  unfold pX2_addLine_L48
  refine ⟨fun n x1 x3 x4 M1 => ∃ k g, k ≤ sL σ ∧ n = k ∧ x1 = nI a ∧ x3 = nI (sL σ) ∧ x4 = nI k ∧ M1 = zri Mb 13 g ∧ (∀ j, j < k → g j = nI (o j)) ∧ (∀ j, k < j → j ≤ sL σ → g j = nI (o (j - 1)) ∧ a < sF σ (o (j - 1))), ⟨sL σ, sL σ, g0, Nat.le_refl _, rfl, rfl, rfl, rfl, rfl, fun j hj => (ho j hj).1, fun j h1 h2 => by omega⟩, ?_⟩
  rintro n x1 x3 x4 M1 ⟨k, g, hk, hn, rfl, rfl, rfl, rfl, hlo, hhi⟩
  unfold pX2_addLine_b48
  have fin : (∀ j, j < k → sF σ (o j) ≤ a) → pX2_addLine_b93 post (nI (sL σ)) (nI k) (zri Mb 13 g) := by
    intro hle
    unfold pX2_addLine_b93
    refine ⟨vp_in_nI (by omega) (by decide), ?_⟩
    rw [nI_clamp (by omega), zsi_zri]
    have e : (zri Mb 13 (upd g k (nI (sL σ)))).1 1 1 + (1 : Int32) = nI (sL σ + 1) := by
      show Mb.1 1 1 + 1 = _
      rw [hLm]; exact nI_1 _
    rw [e]
    refine h k _ hk (fun j hj => ⟨?_, hle j hj⟩) ?_ (fun j h1 h2 => ⟨?_, (hhi j h1 h2).2⟩)
    · rw [pk_un (by omega)]; exact hlo j hj
    · exact pk_us
    · rw [pk_un (by omega)]; exact (hhi j h1 h2).1
  have e0 : (nI k ≤ 0) ↔ k ≤ 0 := nI_leI (b := 0) (by omega) (by decide)
  refine ⟨fun q => fin (fun j hj => by have := e0.mp q; omega), fun q => ?_⟩
  have hk0 : 0 < k := by
    rcases Nat.eq_zero_or_pos k with z | z
    · exact absurd (e0.mpr (by omega)) q
    · exact z
  have esub : nI k - (1 : Int32) = nI (k - 1) := pk_sub (b := 1) hk0
  rw [esub, nI_clamp (by omega), nI_clamp (by omega)]
  have hrow : ∀ j, (zri Mb 13 g).1 13 j = g j := fun j => rfl
  have hfr : ∀ j, (zri Mb 13 g).1 6 j = Mb.1 6 j := fun j => rfl
  rw [hrow, hlo (k - 1) (by omega)]
  have hok := ho (k - 1) (by omega)
  rw [nI_clamp (by omega), hfr, (hF _ hok.2).1]
  have hf12 := (hF _ hok.2).2
  have e1 : (nI (sF σ (o (k - 1))) ≤ nI a) ↔ sF σ (o (k - 1)) ≤ a := nI_leI (by omega) (by omega)
  refine ⟨vp_in_nI (by omega) (by decide), vp_in_nI (by omega) (by decide), fun q2 => fin (fun j hj => ?_), fun q2 => ⟨vp_in_nI (by omega) (by decide), vp_in_nI (by omega) (by decide), k - 1, by omega, k - 1, upd g k (nI (o (k - 1))), by omega, rfl, rfl, rfl, ?_, ?_, fun j hj => ?_, fun j h1 h2 => ?_⟩⟩
  · have h1 := e1.mp q2
    rcases (show j < k - 1 ∨ j = k - 1 by omega) with z | z
    · have := hs j (k - 1) z (by omega)
      omega
    · rw [z]; exact h1
  · have := sb_m1 hk0
    exact this
  · rw [zsi_zri]
  · rw [pk_un (by omega)]; exact hlo j (by omega)
  · by_cases e : j = k
    · subst e
      rw [pk_us]
      exact ⟨rfl, by have : ¬ sF σ (o (j - 1)) ≤ a := fun z => q2 (e1.mpr z); omega⟩
    · rw [pk_un e]
      exact hhi j (by omega) h2
theorem cs_line {σ : Sg} {M N : zM} (R : Rel σ M N) (x1 x2 : Int32) {post : Int32 → zM → Int32 → zM → Prop} (h : ∀ r σ' M' N', Rel σ' M' N' → post r M' r N') : pX5_line M x1 x2 (fun r M1 => pX6_line N x1 x2 (fun r' N1 => post r M1 r' N1)) := by
  have R0 := R
  obtain ⟨W, X, Y, A⟩ := R
  have hR := W.1
  have hL := W.2.1
  unfold pX5_line pX6_line pX5_line_b22 pX6_line_b16
  rcases ix3 x1 (n := sR σ) (by omega) with hx | ⟨a, ha, rfl⟩
  · exact sX2_isRelay_f X hx (eq00 (sX6_isRelay_f W Y hx (eq00 (h _ σ _ _ R0))))
  · refine sX2_isRelay_t W X ha (ne10 ?_)
    rcases ix3 x2 (n := sR σ) (by omega) with hx | ⟨b, hb, rfl⟩
    · exact sX2_isRelay_f X hx (eq00' (sX6_isRelay_t W Y ha (ne10 (sX6_isRelay_f W Y hx (eq00' (h _ σ _ _ R0))))))
    · refine sX2_isRelay_t W X hb (ne01 ?_)
      have eab : (nI a < nI b) ↔ a < b := nI_ltI (by omega) (by omega)
      refine ⟨fun q => ⟨fun q2 => ?_, fun q2 => ?_⟩, fun q => sX6_isRelay_t W Y ha (ne10 (sX6_isRelay_t W Y hb (ne01 ⟨fun z => absurd z q, fun _ => h _ σ _ _ R0⟩)))⟩
      · rw [X.1.2.1] at q2
        have hab := eab.mp q
        have hL30 : sL σ < 30 := (nI_ltI (b := 30) (by omega) (by decide)).mp q2
        unfold pX2_addLine
        rw [X.1.2.1, nI_clamp (by omega), nI_clamp (by omega)]
        have hc := cnt_le σ b (sL σ)
        refine ⟨vp_in_nI hL30 (by decide), vp_in_nI hL30 (by decide), vp_in_nI (by omega) (by decide), ?_⟩
        have hlc : (zsi (zsi M 6 (sL σ) (nI a)) 7 (sL σ) (nI b)).1 12 b = nI (cnt σ b (sL σ)) := X.2.2.2.2.2.2.2.2.2.1 b (by omega)
        rw [hlc]
        refine sX5_slot ⟨vp_in_nI (by omega) (by decide), vp_in_nI (by omega) (by decide), vp_in_nI (by omega) (by decide), ?_⟩
        rw [nI_clamp (by omega)]
        have hlc2 : (zsi (zsi (zsi M 6 (sL σ) (nI a)) 7 (sL σ) (nI b)) 11 (30 * b + cnt σ b (sL σ)) (nI (sL σ))).1 12 b + (1 : Int32) = nI (cnt σ b (sL σ) + 1) := by
          have : (zsi (zsi (zsi M 6 (sL σ) (nI a)) 7 (sL σ) (nI b)) 11 (30 * b + cnt σ b (sL σ)) (nI (sL σ))).1 12 b = nI (cnt σ b (sL σ)) := X.2.2.2.2.2.2.2.2.2.1 b (by omega)
          rw [this]; exact nI_1 _
        rw [hlc2]
        generalize hMb : zsi (zsi (zsi (zsi M 6 (sL σ) (nI a)) 7 (sL σ) (nI b)) 11 (30 * b + cnt σ b (sL σ)) (nI (sL σ))) 12 b (nI (cnt σ b (sL σ) + 1)) = Mb
        have r6 : ∀ k, Mb.1 6 k = if k = sL σ then nI a else M.1 6 k := fun k => by subst hMb; rfl
        have r7 : ∀ k, Mb.1 7 k = if k = sL σ then nI b else M.1 7 k := fun k => by subst hMb; rfl
        have r11 : ∀ k, Mb.1 11 k = if k = 30 * b + cnt σ b (sL σ) then nI (sL σ) else M.1 11 k := fun k => by subst hMb; rfl
        have r12 : ∀ k, Mb.1 12 k = if k = b then nI (cnt σ b (sL σ) + 1) else M.1 12 k := fun k => by subst hMb; rfl
        have r13 : Mb.1 13 = M.1 13 := by subst hMb; rfl
        have r1 : Mb.1 1 = M.1 1 := by subst hMb; rfl
        have r10 : Mb.1 10 = M.1 10 := by subst hMb; rfl
        have rj : Mb.2 = M.2 := by subst hMb; rfl
        obtain ⟨o, ho1, ho2, ho3⟩ := X.2.2.2.2.2.2.2.2.2.2
        have hstart : Mb = zri Mb 13 (M.1 13) := by rw [← r13, zri_self]
        rw [hstart]
        refine sX2_addLoop hL30 (by omega) (fun l hl => ⟨by rw [r6, if_neg (by omega)]; exact (X.2.2.2.2.1 l hl).1, by have := W.2.2.2.1 l hl; omega⟩) ho1 ho3 (by rw [r1]; exact X.1.2.1) (fun k g hk hlo hmid hhi => ?_)
        refine sX6_isRelay_t W Y ha (ne10 (sX6_isRelay_t W Y hb (ne01 ⟨fun _ => ⟨fun _ => ?_, fun z => ?_⟩, fun z => absurd q z⟩)))
        · rw [Y.1.2.1]
          have e2 : (zsi N 24 (nI (sL σ)).toNatClampNeg (nI a)).1 21 2 = nI (sL σ) := Y.1.2.1
          rw [e2, nI_clamp (by omega)]
          have e3 : (zsi (zsi N 24 (sL σ) (nI a)) 25 (sL σ) (nI b)).1 21 2 + (1 : Int32) = nI (sL σ + 1) := by
            have : (zsi (zsi N 24 (sL σ) (nI a)) 25 (sL σ) (nI b)).1 21 2 = nI (sL σ) := Y.1.2.1
            rw [this]; exact nI_1 _
          rw [e3]
          have e4 : (zsi (zsi (zsi N 24 (sL σ) (nI a)) 25 (sL σ) (nI b)) 21 2 (nI (sL σ + 1))).1 21 2 - (1 : Int32) = nI (sL σ) := nI_pred _
          rw [e4]
          refine ⟨vp_in_nI hL30 (by decide), vp_in_nI hL30 (by decide), h _ (sLine σ a b) _ _ ⟨Wf_sLine W hab hb hL30, ?_, ?_, A⟩⟩
          · have m1 : ∀ c k', c ≠ 1 → c ≠ 13 → (zsi (zri Mb 13 g) 1 1 (nI (sL σ + 1))).1 c k' = Mb.1 c k' := fun c k' h1 h2 => by simp [zsi, zri, h1, h2]
            have m13 : ∀ k', (zsi (zri Mb 13 g) 1 1 (nI (sL σ + 1))).1 13 k' = g k' := fun _ => rfl
            refine ⟨⟨?_, rfl, ?_⟩, ?_, ?_, ?_, fun l hl => ?_, ?_, ?_, fun k' hk' => ?_, fun r i l hr hin => ?_, fun r hr => ?_, ?_⟩
            · show Mb.1 1 0 = _; rw [r1]; exact X.1.1
            · show Mb.1 1 2 = _; rw [r1]; exact X.1.2.2
            · show ∀ i, i < 32 → bt (Mb.1 1 3) i = _; rw [r1]; exact X.2.1
            · show ∀ i, i < 30 → bt (Mb.1 1 4) i = _; rw [r1]; exact X.2.2.1
            · show ∀ i, i < 32 → bt (Mb.1 1 5) i = _; rw [r1]; exact X.2.2.2.1
            · rw [m1 6 l (by decide) (by decide), m1 7 l (by decide) (by decide), r6, r7]
              show _ = nI (if l = sL σ then a else sF σ l) ∧ _ = nI (if l = sL σ then b else sT σ l)
              by_cases e : l = sL σ
              · rw [if_pos e, if_pos e, if_pos e, if_pos e]; exact ⟨rfl, rfl⟩
              · rw [if_neg e, if_neg e, if_neg e, if_neg e]
                have : l < sL σ + 1 := hl
                exact X.2.2.2.2.1 l (by omega)
            · show ∀ l, l < 30 → Mb.2 8 l = _; rw [rj]; exact X.2.2.2.2.2.1
            · show ∀ p, p < 4 → Mb.2 9 p = _; rw [rj]; exact X.2.2.2.2.2.2.1
            · rw [m1 10 k' (by decide) (by decide), r10]; exact X.2.2.2.2.2.2.2.1 k' hk'
            · rw [m1 11 _ (by decide) (by decide), r11]
              rcases isIn_sLine hin with ⟨hl1, hin1⟩ | ⟨rfl, rfl, rfl⟩
              · have hne : 30 * r + i ≠ 30 * b + cnt σ b (sL σ) := by
                  have hi : i = cnt σ r l := hin1.2.2.symm
                  have hi2 := cnt_le σ r l
                  intro e
                  have hrb : r = b := by omega
                  subst hrb
                  have := cnt_lt hl1 hin1.2.1
                  omega
                rw [if_neg hne]
                exact X.2.2.2.2.2.2.2.2.1 r i l hr hin1
              · rw [if_pos rfl]
            · rw [m1 12 r (by decide) (by decide), r12]
              show _ = nI (cnt (sLine σ a b) r (sL σ + 1))
              rw [cnt_sLine1]
              by_cases e : r = b
              · rw [if_pos e, if_pos e.symm, e]
              · rw [if_neg e, if_neg (fun z => e z.symm), Nat.add_zero]; exact X.2.2.2.2.2.2.2.2.2.1 r hr
            · refine ⟨fun j => if j < k then o j else if j = k then sL σ else o (j - 1), fun j hj => ?_, fun i j hij hj => ?_, fun i j hij hj => ?_⟩
              · have hj' : j < sL σ + 1 := hj
                rw [m13]
                show g j = nI (if j < k then o j else if j = k then sL σ else o (j - 1)) ∧ (if j < k then o j else if j = k then sL σ else o (j - 1)) < sL σ + 1
                by_cases e1 : j < k
                · rw [if_pos e1]
                  have := (ho1 j (by omega)).2
                  exact ⟨(hlo j e1).1, by omega⟩
                · rw [if_neg e1]
                  by_cases e2 : j = k
                  · rw [if_pos e2, e2]; exact ⟨hmid, by omega⟩
                  · rw [if_neg e2]
                    have := (ho1 (j - 1) (by omega)).2
                    exact ⟨(hhi j (by omega) (by omega)).1, by omega⟩
              · have hj' : j < sL σ + 1 := hj
                show (if i < k then o i else if i = k then sL σ else o (i - 1)) ≠ (if j < k then o j else if j = k then sL σ else o (j - 1))
                by_cases e1 : j < k
                · rw [if_pos (by omega), if_pos e1]; exact ho2 i j hij (by omega)
                · rw [if_neg e1]
                  by_cases e2 : j = k
                  · rw [if_pos e2, if_pos (by omega)]
                    have := (ho1 i (by omega)).2
                    omega
                  · rw [if_neg e2]
                    by_cases e3 : i < k
                    · rw [if_pos e3]; exact ho2 i (j - 1) (by omega) (by omega)
                    · rw [if_neg e3]
                      by_cases e4 : i = k
                      · rw [if_pos e4]
                        have := (ho1 (j - 1) (by omega)).2
                        omega
                      · rw [if_neg e4]; exact ho2 (i - 1) (j - 1) (by omega) (by omega)
              · have hj' : j < sL σ + 1 := hj
                have hFo : ∀ m, m < sL σ → sF (sLine σ a b) (o m) = sF σ (o m) := fun m hm => by
                  show (if o m = sL σ then a else sF σ (o m)) = _
                  rw [if_neg (by have := (ho1 m hm).2; omega)]
                have hFL : sF (sLine σ a b) (sL σ) = a := by
                  show (if sL σ = sL σ then a else _) = a
                  rw [if_pos rfl]
                show sF (sLine σ a b) (if i < k then o i else if i = k then sL σ else o (i - 1)) ≤ sF (sLine σ a b) (if j < k then o j else if j = k then sL σ else o (j - 1))
                by_cases e1 : j < k
                · rw [if_pos (by omega), if_pos e1, hFo i (by omega), hFo j (by omega)]; exact ho3 i j hij (by omega)
                · rw [if_neg e1]
                  by_cases e2 : j = k
                  · rw [if_pos e2, if_pos (by omega), hFo i (by omega), hFL]
                    exact (hlo i (by omega)).2
                  · rw [if_neg e2, hFo (j - 1) (by omega)]
                    have hj2 := (hhi j (by omega) (by omega)).2
                    by_cases e3 : i < k
                    · rw [if_pos e3, hFo i (by omega)]; exact ho3 i (j - 1) (by omega) (by omega)
                    · rw [if_neg e3]
                      by_cases e4 : i = k
                      · rw [if_pos e4, hFL]; omega
                      · rw [if_neg e4, hFo (i - 1) (by omega)]; exact ho3 (i - 1) (j - 1) (by omega) (by omega)
          · refine ⟨⟨Y.1.1, rfl, Y.1.2.2⟩, Y.2.1, Y.2.2.1, fun l hl => ?_, Y.2.2.2.2⟩
            have hl' : l < sL σ + 1 := hl
            show (if l = sL σ then nI a else N.1 24 l) = nI (if l = sL σ then a else sF σ l) ∧ (if l = sL σ then nI b else N.1 25 l) = nI (if l = sL σ then b else sT σ l)
            by_cases e : l = sL σ
            · rw [if_pos e, if_pos e, if_pos e, if_pos e]; exact ⟨rfl, rfl⟩
            · rw [if_neg e, if_neg e, if_neg e, if_neg e]; exact Y.2.2.2.1 l (by omega)
        · exfalso
          rw [Y.1.2.1] at z
          have := (nI_eq (b := 30) (by omega) (by decide)).mp z
          omega
      · rw [X.1.2.1] at q2
        have hL30 : sL σ = 30 := by
          have : ¬ sL σ < 30 := fun z => q2 ((nI_ltI (b := 30) (by omega) (by decide)).mpr z)
          omega
        refine sX6_isRelay_t W Y ha (ne10 (sX6_isRelay_t W Y hb (ne01 ⟨fun _ => ⟨fun z => ?_, fun _ => h _ σ _ _ R0⟩, fun z => absurd q z⟩)))
        exact absurd (by rw [Y.1.2.1, hL30]; rfl) z
