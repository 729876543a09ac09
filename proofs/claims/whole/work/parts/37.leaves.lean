/-! leave: the model -/
theorem YS_k {σ : Sg} {dn : Nat → Bool} {k : Nat} {f : Nat → Nat} {N : zM} (S : YS σ dn k f N) : N.1 21 22 = nI k ∧ k ≤ sH σ := by
  obtain ⟨_, _, _, S1, _⟩ := S
  exact ⟨S1.2.2.2.2.2, EL_k S1.1.1⟩
theorem sX6_isAsBefore {σ : Sg} {N : zM} (W : Wf σ) (Y : RM σ N) (A : Al N (-1) (-1)) {rk : Nat → Nat} (h42 : ∀ r, r < sR σ → sE σ r = true → N.1 42 r = nI (rk r) ∧ rk r ≤ 4) {post : Int32 → zM → Prop}
    (ht : holdR σ rk → ∀ N', KM N N' → N'.1 41 = N.1 41 → N'.1 42 = N.1 42 → post 1 N') (hf : ¬ holdR σ rk → ∀ N', KM N N' → N'.1 41 = N.1 41 → N'.1 42 = N.1 42 → post 0 N') : pX6_isAsBefore N post := by
  have hR := W.1
  have hH := W.2.2.1
  unfold pX6_isAsBefore
  refine sX6_work W Y A (fun N1 hK1 hd => ?_)
  have Y1 := Y.K hK1.m
  have hvec := wvec W hd
  unfold pX6_isAsBefore_L6
  refine ⟨fun n x1 N2 => ∃ r, 1 ≤ r ∧ r ≤ sR σ ∧ n = sR σ - r ∧ x1 = nI r ∧ KT N1 N2 ∧ ∀ t, 1 ≤ t → t < r → sE σ t = true → frK σ (sB σ) t = rk t, ⟨sR σ - 1, 1, by omega, by omega, rfl, rfl, KT.rf, fun t a b => by omega⟩, ?_⟩
  rintro n x1 N2 ⟨r, hr1, hr, hn, rfl, hK2, hz⟩
  have Y2 := Y1.K hK2.m
  have f41 : ∀ N3, KT N2 N3 → N3.1 41 = N.1 41 ∧ N3.1 42 = N.1 42 ∧ KM N N3 := fun N3 hK3 => ⟨by rw [(hK2.tr hK3).1 41 (by decide) (by decide) (by decide) (by decide) (by decide), hK1.1 41 (by decide)], by rw [(hK2.tr hK3).1 42 (by decide) (by decide) (by decide) (by decide) (by decide), hK1.1 42 (by decide)], hK1.m.tr (hK2.tr hK3).m⟩
  unfold pX6_isAsBefore_b6 pX6_isAsBefore_b39 pX6_rankOf
  rw [Y2.1.1]
  refine lp (by omega) hr (fun e => ⟨Or.inr rfl, ?_⟩) (fun hr2 => ⟨vp_in_nI (by omega) (by decide), ?_⟩)
  · subst e
    obtain ⟨a, b, c⟩ := f41 N2 KT.rf
    exact ht (fun t h1 h2 => hz t (W.2.2.2.2.2.1 t h2).1 h1 h2) N2 c a b
  · rw [nI_clamp (n := r) (by omega), Y2.2.2.1 r (by omega)]
    refine bI_e0' (fun he => sX6_study W Y2 (fun l hl p hp => by rw [hK2.1 33 (by decide) (by decide) (by decide) (by decide) (by decide)]; exact hvec l hl p hp) (by omega) (fun N3 hK3 S => ?_)) (fun he => ⟨sR σ - (r + 1), by omega, r + 1, by omega, by omega, rfl, nI_1 r, hK2, fun t a b c => ?_⟩)
    · obtain ⟨hk1, hk2⟩ := YS_k S
      obtain ⟨a, b, c⟩ := f41 N3 hK3
      obtain ⟨h1, h2⟩ := h42 r hr2 he
      rw [hk1, b, h1]
      refine ⟨vp_in_nI (by omega) (by decide), nI_eI (by omega) (by omega) (fun e => ⟨sR σ - (r + 1), by omega, r + 1, by omega, by omega, rfl, nI_1 r, hK2.tr hK3, fun t a' b' c' => ?_⟩) (fun e => ⟨Or.inl rfl, hf (fun q => e (q r hr2 he)) N3 c a b⟩)⟩
      rcases (show t < r ∨ t = r by omega) with z | z
      · exact hz t a' z c'
      · rw [z]; exact e
    · rcases (show t < r ∨ t = r by omega) with z | z
      · exact hz t a z c
      · rw [z, he] at c; cases c
theorem sX6_leaves {σ : Sg} {A : Nat → Nat} {N : zM} (W : Wf σ) (hA : ∀ k, A k < 256) (Y : RM (withA σ A) N) (B : Al N (-1) (-1)) {rk : Nat → Nat} (h42 : ∀ r, r < sR σ → sE σ r = true → N.1 42 r = nI (rk r) ∧ rk r ≤ 4) {l : Nat} (hl : l < sL σ) {post : Int32 → zM → Prop}
    (ht : ∀ i, i < ins σ l → holdR (withA σ (uA A l (ins σ l) i)) rk → (∀ t, t < i → ¬ holdR (withA σ (uA A l (ins σ l) t)) rk) → ∀ N', RM (withA σ (uA A l (ins σ l) i)) N' → Al N' (-1) (-1) → N'.1 42 = N.1 42 → post 1 N')
    (hf : (∀ t, t < ins σ l → ¬ holdR (withA σ (uA A l (ins σ l) t)) rk) → ∀ N', RM (withA σ A) N' → Al N' (-1) (-1) → N'.1 42 = N.1 42 → post 0 N') : pX6_leaves N (nI l) post := by
  have hL := W.2.1
  have hi30 := ins_le W l
  have WA := withA_Wf W hA
  unfold pX6_leaves
  refine sX6_ins WA Y hl ?_
  show pX6_leaves_L8 post (nI l) (nI (ins σ l)) 0 N
  unfold pX6_leaves_L8
  refine ⟨fun n x1 x2 x3 N1 => ∃ k, k ≤ ins σ l ∧ n = ins σ l - k ∧ x1 = nI l ∧ x2 = nI (ins σ l) ∧ x3 = nI k ∧ KI 41 N N1 ∧ ∀ j, j < k → N1.1 41 j = nI (A (30 * l + j)), ⟨ins σ l, 0, by omega, rfl, rfl, rfl, rfl, KI.rf, fun j hj => by omega⟩, ?_⟩
  rintro n x1 x2 x3 N1 ⟨k, hk, hn, rfl, rfl, rfl, hK, hv⟩
  have Y1 := Y.K (hK.m (by decide))
  have B1 := B.K (hK.m (by decide))
  unfold pX6_leaves_b8
  refine lp (by omega) hk (fun e => ?_) (fun hk2 => ?_)
  · subst e
    have k42 : N1.1 42 = N.1 42 := hK.1 42 (by decide)
    unfold pX6_leaves_L38
    refine ⟨fun n x1 x2 x3 N2 => ∃ i A', i ≤ ins σ l ∧ n = ins σ l - i ∧ x1 = nI l ∧ x2 = nI (ins σ l) ∧ x3 = nI i ∧ RM (withA σ A') N2 ∧ Al N2 (-1) (-1) ∧ (∀ k, ¬ (30 * l ≤ k ∧ k < 30 * l + ins σ l) → A' k = A k) ∧ N2.1 41 = N1.1 41 ∧ N2.1 42 = N.1 42 ∧ ∀ t, t < i → ¬ holdR (withA σ (uA A l (ins σ l) t)) rk, ⟨ins σ l, 0, A, by omega, rfl, rfl, rfl, rfl, Y1, B1, fun _ _ => rfl, rfl, k42, fun t q => by omega⟩, ?_⟩
    rintro n x1 x2 x3 N2 ⟨i, A', hi, hn, rfl, rfl, rfl, Y2, B2, hA', k41, k42', hz⟩
    unfold pX6_leaves_b38
    refine lp (by omega) hi (fun e => ?_) (fun hi2 => ?_)
    · unfold pX6_leaves_L98
      refine ⟨fun n x1 x2 x3 N3 => ∃ k, k ≤ ins σ l ∧ n = ins σ l - k ∧ x1 = nI l ∧ x2 = nI (ins σ l) ∧ x3 = nI k ∧ KI 29 N2 N3 ∧ ∀ j, j < 900 → N3.1 29 j = nI (if 30 * l ≤ j ∧ j < 30 * l + k then A j else A' j), ⟨ins σ l, 0, by omega, rfl, rfl, rfl, rfl, KI.rf, fun j hj => by rw [if_neg (by omega)]; exact Y2.2.2.2.2.2.2 j hj⟩, ?_⟩
      rintro n x1 x2 x3 N3 ⟨k, hk, hn, rfl, rfl, rfl, hK3, hv3⟩
      unfold pX6_leaves_b98
      refine lp (by omega) hk (fun e => ⟨Or.inl rfl, hf (fun t q => hz t (by omega)) N3 (Y2.Ai (A' := A) hK3 (fun j hj => ?_)) (hK3.a B2) (by rw [hK3.1 42 (by decide), k42'])⟩) (fun hk2 => ?_)
      · rw [hv3 j hj]
        by_cases e2 : 30 * l ≤ j ∧ j < 30 * l + ins σ l
        · rw [if_pos (by omega)]
        · rw [if_neg (by omega), hA' j e2]
      · rw [slotM, nI_clamp (n := k) (by omega), nI_clamp (n := 30 * l + k) (by omega), hK3.1 41 (by decide), k41, hv k hk2]
        refine ⟨vp_in_nI (by omega) (by decide), vp_in_nI (by omega) (by decide), ins σ l - (k + 1), by omega, k + 1, by omega, rfl, rfl, rfl, nI_1 k, hK3.tr KI.si, fun j hj => ?_⟩
        show upd (N3.1 29) (30 * l + k) _ j = _
        by_cases e : j = 30 * l + k
        · rw [e, pk_us, if_pos (by omega)]
        · rw [pk_un e, hv3 j hj]
          by_cases e2 : 30 * l ≤ j ∧ j < 30 * l + k
          · rw [if_pos e2, if_pos (by omega)]
          · rw [if_neg e2, if_neg (by omega)]
    · unfold pX6_leaves_L46
      refine ⟨fun n x1 x2 x3 x4 N3 => ∃ k, k ≤ ins σ l ∧ n = ins σ l - k ∧ x1 = nI l ∧ x2 = nI (ins σ l) ∧ x3 = nI i ∧ x4 = nI k ∧ KI 29 N2 N3 ∧ ∀ j, j < 900 → N3.1 29 j = nI (if 30 * l ≤ j ∧ j < 30 * l + k then (if j = 30 * l + i then 1 else 0) else A' j), ⟨ins σ l, 0, by omega, rfl, rfl, rfl, rfl, rfl, KI.rf, fun j hj => by rw [if_neg (by omega)]; exact Y2.2.2.2.2.2.2 j hj⟩, ?_⟩
      rintro m x1 x2 x3 x4 N3 ⟨k, hk, hm, rfl, rfl, rfl, rfl, hK3, hv3⟩
      unfold pX6_leaves_b46 pX6_leaves_b74
      refine lp (by omega) hk (fun e => ?_) (fun hk2 => ?_)
      · have hU : RM (withA σ (uA A l (ins σ l) i)) N3 := Y2.Ai hK3 (fun j hj => by
          rw [hv3 j hj]
          unfold uA
          by_cases e2 : 30 * l ≤ j ∧ j < 30 * l + ins σ l
          · rw [if_pos (by omega), if_pos e2]
          · rw [if_neg (by omega), if_neg e2, hA' j e2])
        have WU := withA_Wf W (uA_lt hA (l := l) (n := ins σ l) (i := i))
        have BU := hK3.a B2
        have kk : N3.1 42 = N.1 42 ∧ N3.1 41 = N1.1 41 := ⟨by rw [hK3.1 42 (by decide), k42'], by rw [hK3.1 41 (by decide), k41]⟩
        refine sX6_isAsBefore WU hU BU (rk := rk) (fun r a b => by rw [kk.1]; exact h42 r a b) (fun hh N4 hK4 a b => ne10 ⟨Or.inr rfl, ht i hi2 hh hz N4 (hU.K hK4) (BU.K hK4) (by rw [b, kk.1])⟩) (fun hh N4 hK4 a b => eq00 ⟨ins σ l - (i + 1), by omega, i + 1, uA A l (ins σ l) i, by omega, rfl, rfl, rfl, nI_1 i, hU.K hK4, BU.K hK4, fun k hk => ?_, by rw [a, kk.2], by rw [b, kk.1], fun t q => ?_⟩)
        · unfold uA; rw [if_neg hk]
        · rcases (show t < i ∨ t = i by omega) with z | z
          · exact hz t z
          · rw [z]; exact hh
      · rw [slotM, nI_clamp (n := 30 * l + k) (by omega)]
        have fin : ∀ v : Nat, v = (if 30 * l + k = 30 * l + i then 1 else 0) → ∃ k_1, k_1 < m ∧ ∃ k_2, k_2 ≤ ins σ l ∧ k_1 = ins σ l - k_2 ∧ nI l = nI l ∧ nI (ins σ l) = nI (ins σ l) ∧ nI i = nI i ∧ nI k + 1 = nI k_2 ∧ KI 29 N2 (zsi N3 29 (30 * l + k) (nI v)) ∧ ∀ j, j < 900 → (zsi N3 29 (30 * l + k) (nI v)).1 29 j = nI (if 30 * l ≤ j ∧ j < 30 * l + k_2 then (if j = 30 * l + i then 1 else 0) else A' j) := by
          intro v hv'
          refine ⟨ins σ l - (k + 1), by omega, k + 1, by omega, rfl, rfl, rfl, rfl, nI_1 k, hK3.tr KI.si, fun j hj => ?_⟩
          show upd (N3.1 29) (30 * l + k) (nI v) j = _
          by_cases e : j = 30 * l + k
          · rw [e, pk_us, if_pos (by omega), hv']
          · rw [pk_un e, hv3 j hj]
            by_cases e2 : 30 * l ≤ j ∧ j < 30 * l + k
            · rw [if_pos e2, if_pos (show 30 * l ≤ j ∧ j < 30 * l + (k + 1) by omega)]
            · rw [if_neg e2, if_neg (by omega)]
        have e3 : (nI k = nI i) ↔ k = i := nI_eq (by omega) (by omega)
        exact ⟨fun q => ⟨vp_in_nI (by omega) (by decide), fin 0 (by rw [if_neg (fun z => q (e3.mpr (by omega)))])⟩, fun q => ⟨vp_in_nI (by omega) (by decide), fin 1 (by rw [if_pos (by have := e3.mp q; omega)])⟩⟩
  · rw [slotM, nI_clamp (n := k) (by omega), nI_clamp (n := 30 * l + k) (by omega), Y1.2.2.2.2.2.2 (30 * l + k) (by omega)]
    refine ⟨vp_in_nI (by omega) (by decide), vp_in_nI (by omega) (by decide), ins σ l - (k + 1), by omega, k + 1, by omega, rfl, rfl, rfl, nI_1 k, hK.tr KI.si, fun j hj => ?_⟩
    show upd (N1.1 41) k _ j = _
    by_cases e : j = k
    · rw [e, pk_us]; rfl
    · rw [pk_un e]; exact hv j (by omega)
def KTR (N N' : zM) : Prop := (∀ c, c ≠ 21 → c ≠ 35 → c ≠ 36 → c ≠ 37 → c ≠ 38 → c ≠ 42 → N'.1 c = N.1 c) ∧ (∀ k, k ≠ 22 → N'.1 21 k = N.1 21 k) ∧ N'.2 = N.2
theorem KTR.m {N N' : zM} (h : KTR N N') : KM N N' := ⟨fun c h1 h2 => h.1 c (by omega) (by omega) (by omega) (by omega) (by omega) (by omega), fun k hk => h.2.1 k (by omega), fun c _ _ => by rw [h.2.2]⟩
theorem KTR.s {N N1 N2 : zM} (h : KTR N N1) (h2 : KT N1 N2) {k : Nat} {v : Int32} : KTR N (zsi N2 42 k v) := ⟨fun c a1 a2 a3 a4 a5 a6 => by
  have : (zsi N2 42 k v).1 c = N2.1 c := by simp [zsi, zri, a6]
  rw [this, h2.1 c a1 a2 a3 a4 a5, h.1 c a1 a2 a3 a4 a5 a6], fun j hj => by
  have : (zsi N2 42 k v).1 21 j = N2.1 21 j := by simp [zsi, zri]
  rw [this, h2.2.1 j hj, h.2.1 j hj], by
  show N2.2 = N.2
  rw [h2.2.2, h.2.2]⟩
theorem sX6_leave {σ : Sg} {N : zM} (W : Wf σ) (Y : RM σ N) (B : Al N (-1) (-1)) {post : Int32 → zM → Prop} (h : ∀ N', RM (withA σ (lvN σ (fun r => frK σ (sB σ) r) (sL σ)).2) N' → Al N' (-1) (-1) → post (nI (lvN σ (fun r => frK σ (sB σ) r) (sL σ)).1) N') : pX6_leave N post := by
  have hL := W.2.1
  have hR := W.1
  have hH := W.2.2.1
  unfold pX6_leave
  refine sX6_work W Y B (fun N1 hK1 hd => ?_)
  have Y1 := Y.K hK1.m
  have B1 := B.K hK1.m
  have hvec := wvec W hd
  unfold pX6_leave_L6
  refine ⟨fun n x1 N2 => ∃ r, 1 ≤ r ∧ r ≤ sR σ ∧ n = sR σ - r ∧ x1 = nI r ∧ KTR N1 N2 ∧ ∀ t, 1 ≤ t → t < r → sE σ t = true → N2.1 42 t = nI (frK σ (sB σ) t) ∧ frK σ (sB σ) t ≤ 4, ⟨sR σ - 1, 1, by omega, by omega, rfl, rfl, ⟨fun _ _ _ _ _ _ _ => rfl, fun _ _ => rfl, rfl⟩, fun t a b => by omega⟩, ?_⟩
  rintro n x1 N2 ⟨r, hr1, hr, hn, rfl, hK2, hv⟩
  have Y2 := Y1.K hK2.m
  have B2 := B1.K hK2.m
  unfold pX6_leave_b6 pX6_leave_b37 pX6_rankOf
  rw [Y2.1.1, Y2.1.2.1]
  refine lp (by omega) hr (fun e => ?_) (fun hr2 => ⟨vp_in_nI (by omega) (by decide), ?_⟩)
  · subst e
    generalize hrk : (fun r => frK σ (sB σ) r) = rk at h
    have h42' : ∀ r, r < sR σ → sE σ r = true → N2.1 42 r = nI (rk r) ∧ rk r ≤ 4 := fun r a b => by rw [← hrk]; exact hv r (W.2.2.2.2.2.1 r b).1 a b
    unfold pX6_leave_L53
    refine ⟨fun n x1 x2 N3 => ∃ j, j ≤ sL σ ∧ n = sL σ - j ∧ x1 = nI (lvN σ rk j).1 ∧ x2 = nI (sL σ - j) - 1 ∧ RM (withA σ (lvN σ rk j).2) N3 ∧ Al N3 (-1) (-1) ∧ N3.1 42 = N2.1 42, ⟨sL σ, 0, by omega, rfl, rfl, rfl, Y2, B2, rfl⟩, ?_⟩
    rintro n x1 x2 N3 ⟨j, hj, hn, rfl, rfl, Y3, B3, k42⟩
    have hA := lvN_lt W (rk := rk) j
    have W3 := withA_Wf W hA
    unfold pX6_leave_b53 pX6_leave_b94
    rcases (show j = sL σ ∨ j < sL σ by omega) with e | e
    · subst e
      rw [Nat.sub_self]
      exact ⟨fun _ => h N3 Y3 B3, fun q => absurd (by decide) q⟩
    · have hl : sL σ - 1 - j < sL σ := by omega
      rw [show nI (sL σ - j) - 1 = nI (sL σ - 1 - j) by rw [show nI (sL σ - j) - 1 = nI (sL σ - j - 1) from pk_sub (b := 1) (by omega)]; congr 1; omega]
      rw [nI_clamp (by omega)]
      have hF := W.2.2.2.1 _ hl
      have h24 : N3.1 24 (sL σ - 1 - j) = nI (sF σ (sL σ - 1 - j)) := (Y3.2.2.2.1 _ hl).1
      have hkt : N3.1 26 (sL σ - 1 - j) = bI (sK σ (sL σ - 1 - j)) := (Y3.2.2.2.2.1 _ (by omega)).1
      have nx : nI (sL σ - 1 - j) + (-1) = nI (sL σ - (j + 1)) - 1 := by rw [nI_lit1]; congr 2; omega
      have skip : ¬ (sF σ (sL σ - 1 - j) ≠ 0 ∧ sK σ (sL σ - 1 - j) = false ∧ pas (withA σ (lvN σ rk j).2) (sL σ - 1 - j) = false) → ∃ k, k < n ∧ ∃ j_1, j_1 ≤ sL σ ∧ k = sL σ - j_1 ∧ nI (lvN σ rk j).1 = nI (lvN σ rk j_1).1 ∧ nI (sL σ - 1 - j) + (-1) = nI (sL σ - j_1) - 1 ∧ RM (withA σ (lvN σ rk j_1).2) N3 ∧ Al N3 (-1) (-1) ∧ N3.1 42 = N2.1 42 := fun hno => by
        have e3 : lvN σ rk (j + 1) = lvN σ rk j := lvS_no hno
        exact ⟨sL σ - (j + 1), by omega, j + 1, by omega, rfl, by rw [e3], nx, by rw [e3]; exact Y3, B3, k42⟩
      rw [h24, hkt]
      have v30 := vp_in_nI (n := sL σ - 1 - j) (N := 30) (by omega) (by decide)
      refine ⟨fun q => absurd q (nI_pos (by omega)), fun _ => ⟨v30, nI_e0 (by omega) (fun e0 => skip (fun q => q.1 e0)) (fun e0 => ⟨v30, bI_e0 (fun ek => skip (fun q => by rw [ek] at q; exact absurd q.2.1 (by decide))) (fun ek => sX6_isPassing W3 Y3 hl (bI_e0 (fun ep => skip (fun q => by rw [ep] at q; exact absurd q.2.2 (by decide))) (fun ep => ?_)))⟩)⟩⟩
      refine sX6_leaves W hA Y3 B3 (rk := rk) (fun r a b => by rw [k42]; exact h42' r a b) hl (fun i hi hh hz N4 Y4 B4 b42 => ne10 ?_) (fun hz N4 Y4 B4 b42 => eq00 ?_)
      · have e3 : lvN σ rk (j + 1) = ((lvN σ rk j).1 + 1, uA (lvN σ rk j).2 (sL σ - 1 - j) (ins σ (sL σ - 1 - j)) i) := lvS_t ⟨e0, ek, ep⟩ hi hh hz
        exact ⟨sL σ - (j + 1), by omega, j + 1, by omega, rfl, by rw [e3]; exact nI_1 _, nx, by rw [e3]; exact Y4, B4, by rw [b42, k42]⟩
      · have e3 : lvN σ rk (j + 1) = lvN σ rk j := lvS_f hz
        exact ⟨sL σ - (j + 1), by omega, j + 1, by omega, rfl, by rw [e3], nx, by rw [e3]; exact Y4, B4, by rw [b42, k42]⟩
  · rw [nI_clamp (n := r) (by omega), Y2.2.2.1 r (by omega)]
    refine bI_e0' (fun he => sX6_study W Y2 (fun l hl p hp => by rw [hK2.1 33 (by decide) (by decide) (by decide) (by decide) (by decide) (by decide)]; exact hvec l hl p hp) (by omega) (fun N3 hK3 S => ⟨vp_in_nI (by omega) (by decide), sR σ - (r + 1), by omega, r + 1, by omega, by omega, rfl, nI_1 r, hK2.s hK3, fun t a b c => ?_⟩)) (fun he => ⟨vp_in_nI (by omega) (by decide), sR σ - (r + 1), by omega, r + 1, by omega, by omega, rfl, nI_1 r, hK2.s KT.rf, fun t a b c => ?_⟩)
    · obtain ⟨hk1, hk2⟩ := YS_k S
      rw [hk1]
      show upd (N3.1 42) r _ t = _ ∧ _
      by_cases e : t = r
      · rw [e, pk_us]; exact ⟨rfl, by omega⟩
      · rw [pk_un e, hK3.1 42 (by decide) (by decide) (by decide) (by decide) (by decide)]; exact hv t a (by omega) c
    · show upd (N2.1 42) r _ t = _ ∧ _
      by_cases e : t = r
      · rw [e, he] at c; cases c
      · rw [pk_un e]; exact hv t a (by omega) c
theorem cs_leave {σ : Sg} {M N : zM} (R : Rel σ M N) {post : Int32 → zM → Int32 → zM → Prop} (h : ∀ r σ' M' N', Rel σ' M' N' → post r M' r N') : pX5_leave M (fun r M1 => pX6_leave N (fun r' N1 => post r M1 r' N1)) := by
  unfold pX5_leave
  exact sX1_unmixAll R.1 R.2.1 (fun M' X' => sX6_leave R.1 R.2.2.1 R.2.2.2 (fun N' Y' A' => h _ _ _ _ ⟨withA_Wf R.1 (lvN_lt R.1 _), X', Y', A'⟩))
