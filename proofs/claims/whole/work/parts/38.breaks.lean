/-! safe, breaks -/
def wkP (σ : Sg) (dn : Nat → Bool) (r e : Nat) : Prop := sE σ e = true ∧ frK σ dn e < r
noncomputable def wk (σ : Sg) (dn : Nat → Bool) (r : Nat) : Nat := fst1 (wkP σ dn r) (sR σ)
theorem wk_none {σ : Sg} {dn : Nat → Bool} {r : Nat} (h : ∀ t, t < sR σ → ¬ wkP σ dn r t) : ¬ wk σ dn r < sR σ := by
  unfold wk
  rw [fst1_f h]
  exact Nat.lt_irrefl _
theorem wk_some {σ : Sg} {dn : Nat → Bool} {r e : Nat} (he : e < sR σ) (hp : wkP σ dn r e) (h : ∀ t, t < e → ¬ wkP σ dn r t) : wk σ dn r = e := fst1_t hp h he
theorem wkP_0 {σ : Sg} (W : Wf σ) {dn : Nat → Bool} {r t : Nat} (ht : t < 1) : ¬ wkP σ dn r t := fun q => by
  have := (W.2.2.2.2.2.1 t q.1).1
  omega
theorem zsi_s {N : zM} {c k : Nat} {v : Int32} : (zsi N c k v).1 c k = v := by
  have : (zsi N c k v).1 c = upd (N.1 c) k v := by simp [zsi, zri]
  rw [this, pk_us]
theorem zsi_n {N : zM} {c k j : Nat} {v : Int32} (h : j ≠ k) : (zsi N c k v).1 c j = N.1 c j := by
  have : (zsi N c k v).1 c = upd (N.1 c) k v := by simp [zsi, zri]
  rw [this, pk_un h]
theorem sX0_weakens {σ : Sg} {M : zM} (W : Wf σ) (X : RX σ M) {s : Int32} {dn : Nat → Bool} (hs : ∀ l, l < 30 → bt (M.1 1 5 ||| s) l = dn l) {r : Nat} (hr : r ≤ 4) {post : Int32 → zM → Prop}
    (ht : wk σ dn r < sR σ → ∀ M', KX M M' → M'.1 5 2 = M.1 5 2 → M'.1 5 3 = M.1 5 3 → M'.1 5 4 = nI (wk σ dn r) → post 1 M') (hf : ¬ wk σ dn r < sR σ → ∀ M', KX M M' → M'.1 5 = M.1 5 → post 0 M') : pX0_weakens M s (nI r) post := by
  have hR := W.1
  have hH := W.2.2.1
  unfold pX0_weakens
  refine sX2_spreadVectors W X hs (fun M1 hK1 hv1 => ?_)
  have X1 := X.K (hK1.x (by decide))
  unfold pX0_weakens_L18
  refine ⟨fun n x2 x3 M2 => ∃ e, 1 ≤ e ∧ e ≤ sR σ ∧ n = sR σ - e ∧ x2 = nI r ∧ x3 = nI e ∧ KS M1 M2 ∧ ∀ t, t < e → ¬ wkP σ dn r t, ⟨sR σ - 1, 1, by omega, by omega, rfl, rfl, rfl, KS.rf, fun t q => wkP_0 W q⟩, ?_⟩
  rintro n x2 x3 M2 ⟨e, he1, he, hn, rfl, rfl, hK2, hz⟩
  have X2 := X1.K hK2.x
  have f5 : ∀ M3, KS M2 M3 → M3.1 5 = M.1 5 ∧ KX M M3 := fun M3 hK3 => ⟨by rw [hK3.1 5 (by decide) (by decide), hK2.1 5 (by decide) (by decide), hK1.1], (hK1.x (by decide)).tr (hK2.tr hK3).x⟩
  have grow : ¬ wkP σ dn r e → ∀ t, t < e + 1 → ¬ wkP σ dn r t := fun hno t hlt => by
    rcases (show t < e ∨ t = e by omega) with z | z
    · exact hz t z
    · rw [z]; exact hno
  unfold pX0_weakens_b18 pX0_weakens_b63
  rw [X2.1.1]
  refine lp (by omega) he (fun q => ⟨Or.inl rfl, ?_⟩) (fun he2 => sX5_flag (by omega) ?_)
  · subst q
    obtain ⟨a, b⟩ := f5 M2 KS.rf
    exact hf (wk_none hz) M2 b a
  · rw [X2.2.1 e (by omega)]
    refine bI_e1 (fun hE => sX3_gather W X2 (fun l hl j hj => by rw [hK2.2 14 (by decide)]; exact hv1 l hl j hj) (by omega) (fun M3 hK3 S => ?_)) (fun hE => ⟨sR σ - (e + 1), by omega, e + 1, by omega, by omega, rfl, rfl, nI_1 e, hK2, grow (fun q => by rw [q.1] at hE; cases hE)⟩)
    have hk := frK_le S
    obtain ⟨a, b⟩ := f5 M3 hK3
    refine le2 (by omega) (by omega) (fun q => ⟨sR σ - (e + 1), by omega, e + 1, by omega, by omega, rfl, rfl, nI_1 e, hK2.tr hK3, grow (fun w => by have := w.2; omega)⟩) (fun q => ⟨Or.inr rfl, ?_⟩)
    have hw : wk σ dn r = e := wk_some he2 ⟨hE, q⟩ hz
    rw [hw] at ht
    refine ht he2 _ (b.tr (KX.si (by decide))) ?_ ?_ ?_
    · rw [zsi_n (by decide), a]
    · rw [zsi_n (by decide), a]
    · rw [zsi_s]
theorem RM.f {σ : Sg} {N : zM} (Y : RM σ N) {k : Nat} {v : Int32} (hk : 4 ≤ k) : RM σ (zsi N 21 k v) := by
  have h1 : ∀ j, j < 4 → (zsi N 21 k v).1 21 j = N.1 21 j := fun j hj => by
    show upd (N.1 21) k v j = _
    rw [pk_un (by omega)]
  have h2 : ∀ c, c ≠ 21 → (zsi N 21 k v).1 c = N.1 c := fun c hc => by simp [zsi, zri, hc]
  have h3 : (zsi N 21 k v).2 = N.2 := rfl
  unfold RM
  rw [h1 1 (by decide), h1 2 (by decide), h1 3 (by decide), h2 23 (by decide), h2 24 (by decide), h2 25 (by decide), h2 26 (by decide), h2 27 (by decide), h2 29 (by decide), h3]
  exact Y
theorem fld_s {N : zM} {k : Nat} {v : Int32} : (zsi N 21 k v).1 21 k = v := by
  show upd (N.1 21) k v k = _
  rw [pk_us]
theorem fld_n {N : zM} {k j : Nat} {v : Int32} (h : j ≠ k) : (zsi N 21 k v).1 21 j = N.1 21 j := by
  show upd (N.1 21) k v j = _
  rw [pk_un h]
theorem sX6_lowEnd {σ : Sg} {N : zM} (W : Wf σ) (Y : RM σ N) {a b : Int32} {r : Nat} (hr : r ≤ 4) {post : Int32 → zM → Prop}
    (ht : wk σ (dnA σ a b) r < sR σ → ∀ N', RM σ N' → Al N' (-1) (-1) → N'.1 21 28 = N.1 21 28 → N'.1 21 29 = N.1 21 29 → post (nI (wk σ (dnA σ a b) r)) N') (hf : ¬ wk σ (dnA σ a b) r < sR σ → ∀ N', RM σ N' → Al N' (-1) (-1) → N'.1 21 28 = N.1 21 28 → N'.1 21 29 = N.1 21 29 → post (-1) N') : pX6_lowEnd N a b (nI r) post := by
  have hR := W.1
  have hH := W.2.2.1
  unfold pX6_lowEnd
  have Y0 : RM σ (zsi (zsi N 21 17 a) 21 18 b) := (Y.f (by decide)).f (by decide)
  have A0 : Al (zsi (zsi N 21 17 a) 21 18 b) a b := ⟨by rw [fld_n (by decide), fld_s], fld_s⟩
  have k28 : (zsi (zsi N 21 17 a) 21 18 b).1 21 28 = N.1 21 28 := by rw [fld_n (by decide), fld_n (by decide)]
  have k29 : (zsi (zsi N 21 17 a) 21 18 b).1 21 29 = N.1 21 29 := by rw [fld_n (by decide), fld_n (by decide)]
  generalize zsi (zsi N 21 17 a) 21 18 b = N0 at Y0 A0 k28 k29 ⊢
  refine sX6_work W Y0 A0 (fun N1 hK1 hd => ?_)
  have Y1 := Y0.K hK1.m
  rw [Y1.1.1]
  generalize hdn : dnA σ a b = dn at *
  unfold pX6_lowEnd_L25
  refine ⟨fun n x3 x4 x5 N2 => ∃ m, 1 ≤ m ∧ m ≤ sR σ ∧ n = m ∧ x3 = nI r ∧ x5 = nI (m - 1) ∧ KT N1 N2 ∧ ((x4 = -1 ∧ ∀ t, m ≤ t → t < sR σ → ¬ wkP σ dn r t) ∨ ∃ e, m ≤ e ∧ e < sR σ ∧ x4 = nI e ∧ wkP σ dn r e ∧ ∀ t, m ≤ t → t < e → ¬ wkP σ dn r t), ⟨sR σ, sR σ, by omega, by omega, rfl, rfl, pk_sub (b := 1) (by omega), KT.rf, Or.inl ⟨rfl, fun t p q => by omega⟩⟩, ?_⟩
  rintro n x3 x4 x5 N2 ⟨m, hm1, hm, hn, rfl, rfl, hK2, hor⟩
  have Y2 := Y1.K hK2.m
  unfold pX6_lowEnd_b25 pX6_lowEnd_b54 pX6_rankOf
  refine le2 (b := 0) (by omega) (by omega) (fun q => ?_) (fun q => ⟨vp_in_nI (by omega) (by decide), ?_⟩)
  · have hm' : m = 1 := by omega
    subst hm'
    have YE : RM σ (zsi (zsi N2 21 17 (-1)) 21 18 (-1)) := (Y2.f (by decide)).f (by decide)
    have AE : Al (zsi (zsi N2 21 17 (-1)) 21 18 (-1)) (-1) (-1) := ⟨by rw [fld_n (by decide), fld_s], fld_s⟩
    have e28 : (zsi (zsi N2 21 17 (-1)) 21 18 (-1)).1 21 28 = N.1 21 28 := by rw [fld_n (by decide), fld_n (by decide), hK2.2.1 28 (by decide), hK1.1 21 (by decide), k28]
    have e29 : (zsi (zsi N2 21 17 (-1)) 21 18 (-1)).1 21 29 = N.1 21 29 := by rw [fld_n (by decide), fld_n (by decide), hK2.2.1 29 (by decide), hK1.1 21 (by decide), k29]
    rcases hor with ⟨rfl, hz⟩ | ⟨e, h1, h2, rfl, hp, hz⟩
    · exact hf (wk_none (fun t p => by
        rcases (show t < 1 ∨ 1 ≤ t by omega) with z | z
        · exact wkP_0 W z
        · exact hz t z p)) _ YE AE e28 e29
    · have hw : wk σ dn r = e := wk_some h2 hp (fun t p => by
        rcases (show t < 1 ∨ 1 ≤ t by omega) with z | z
        · exact wkP_0 W z
        · exact hz t z p)
      rw [hw] at ht
      exact ht h2 _ YE AE e28 e29
  · rw [nI_clamp (n := m - 1) (by omega), Y2.2.2.1 (m - 1) (by omega)]
    have nx : nI (m - 1) + (-1) = nI (m - 1 - 1) := by rw [← nI_lit1]; exact pk_sub (b := 1) (by omega)
    have keep : ¬ wkP σ dn r (m - 1) → ∀ x4, ((x4 = -1 ∧ ∀ t, m ≤ t → t < sR σ → ¬ wkP σ dn r t) ∨ ∃ e, m ≤ e ∧ e < sR σ ∧ x4 = nI e ∧ wkP σ dn r e ∧ ∀ t, m ≤ t → t < e → ¬ wkP σ dn r t) → ((x4 = -1 ∧ ∀ t, m - 1 ≤ t → t < sR σ → ¬ wkP σ dn r t) ∨ ∃ e, m - 1 ≤ e ∧ e < sR σ ∧ x4 = nI e ∧ wkP σ dn r e ∧ ∀ t, m - 1 ≤ t → t < e → ¬ wkP σ dn r t) := by
      intro hno x4 hor
      rcases hor with ⟨rfl, hz⟩ | ⟨e, h1, h2, rfl, hp, hz⟩
      · refine Or.inl ⟨rfl, fun t p q => ?_⟩
        rcases (show t = m - 1 ∨ m ≤ t by omega) with z | z
        · rw [z]; exact hno
        · exact hz t z q
      · refine Or.inr ⟨e, by omega, h2, rfl, hp, fun t p q => ?_⟩
        rcases (show t = m - 1 ∨ m ≤ t by omega) with z | z
        · rw [z]; exact hno
        · exact hz t z q
    refine bI_e0' (fun hE => sX6_study W Y2 (dn := dn) (fun l hl p hp => ?_) (by omega) (fun N3 hK3 S => ?_)) (fun hE => ⟨m - 1, by omega, m - 1, by omega, by omega, rfl, rfl, nx, hK2, keep (fun w => by rw [w.1] at hE; cases hE) _ hor⟩)
    · rw [hK2.1 33 (by decide) (by decide) (by decide) (by decide) (by decide)]
      exact (hd l hl).1 p hp
    · obtain ⟨hk1, hk2⟩ := YS_k S
      rw [hk1]
      refine le2 (by omega) (by omega) (fun w => ⟨m - 1, by omega, m - 1, by omega, by omega, rfl, rfl, nx, hK2.tr hK3, keep (fun z => by have := z.2; omega) _ hor⟩) (fun w => ⟨m - 1, by omega, m - 1, by omega, by omega, rfl, rfl, nx, hK2.tr hK3, Or.inr ⟨m - 1, by omega, by omega, rfl, ⟨hE, w⟩, fun t p q => by omega⟩⟩)
theorem sX6_breaksAt {σ : Sg} {N : zM} (W : Wf σ) (Y : RM σ N) {a b : Int32} {r : Nat} (hr : r ≤ 4) {post : Int32 → zM → Prop}
    (ht : wk σ (dnA σ a b) r < sR σ → ∀ N', RM σ N' → Al N' (-1) (-1) → N'.1 21 28 = a → N'.1 21 29 = b → N'.1 21 30 = nI (wk σ (dnA σ a b) r) → post 1 N') (hf : ¬ wk σ (dnA σ a b) r < sR σ → ∀ N', RM σ N' → Al N' (-1) (-1) → post 0 N') : pX6_breaksAt N a b (nI r) post := by
  have hR := W.1
  unfold pX6_breaksAt pX6_breaksAt_b34
  have Y0 : RM σ (zsi (zsi N 21 28 a) 21 29 b) := (Y.f (by decide)).f (by decide)
  refine sX6_lowEnd W Y0 hr (fun hw N1 Y1 A1 e28 e29 => ?_) (fun hw N1 Y1 A1 e28 e29 => ?_)
  · rw [fld_s]
    refine ⟨fun q => absurd q (nI_nm1 (by omega)), fun _ => ⟨Or.inr rfl, ht hw _ (Y1.f (by decide)) ⟨by rw [fld_n (by decide)]; exact A1.1, by rw [fld_n (by decide)]; exact A1.2⟩ ?_ ?_ fld_s⟩⟩
    · rw [fld_n (by decide), e28, fld_n (by decide), fld_s]
    · rw [fld_n (by decide), e29, fld_s]
  · rw [fld_s]
    exact ⟨fun _ => ⟨Or.inl rfl, hf hw _ (Y1.f (by decide)) ⟨by rw [fld_n (by decide)]; exact A1.1, by rw [fld_n (by decide)]; exact A1.2⟩⟩, fun q => absurd rfl q⟩
def P1 (σ : Sg) (r l : Nat) : Prop := sB σ l = false ∧ wk σ (dnA σ (nI l) (-1)) r < sR σ
def P2 (σ : Sg) (r a b : Nat) : Prop := a < b ∧ sB σ a = false ∧ sB σ b = false ∧ wk σ (dnA σ (nI a) (nI b)) r < sR σ
def P2a (σ : Sg) (r a : Nat) : Prop := ∃ b, b < sL σ ∧ P2 σ r a b
noncomputable def o1 (σ : Sg) (r : Nat) : Nat := fst1 (P1 σ r) (sL σ)
noncomputable def o2 (σ : Sg) (r : Nat) : Nat := fst1 (P2a σ r) (sL σ)
noncomputable def o3 (σ : Sg) (r : Nat) : Nat := fst1 (P2 σ r (o2 σ r)) (sL σ)
theorem dnA_1 {σ : Sg} {l k : Nat} (hl : l < 30) (hk : k < 30) : dnA σ (nI l) (-1) k = if k = l then true else sB σ k := by
  unfold dnA
  rw [decide_eq_false (nI_nm1 (by omega))]
  by_cases e : k = l
  · rw [if_pos e, e]; simp
  · rw [if_neg e, decide_eq_false (fun q => e ((nI_eq (by omega) (by omega)).mp q))]; simp
theorem dnA_2 {σ : Sg} {a b k : Nat} (ha : a < 30) (hb : b < 30) (hk : k < 30) : dnA σ (nI a) (nI b) k = if k = b then true else if k = a then true else sB σ k := by
  unfold dnA
  by_cases e : k = b
  · rw [if_pos e, e]; simp
  · rw [if_neg e, decide_eq_false (p := nI k = nI b) (fun q => e ((nI_eq (by omega) (by omega)).mp q))]
    by_cases e2 : k = a
    · rw [if_pos e2, e2]; simp
    · rw [if_neg e2, decide_eq_false (fun q => e2 ((nI_eq (by omega) (by omega)).mp q))]; simp
theorem one_bt {m k : Nat} (hm : m < 32) (hk : k < 32) : bt ((1 : Int32) <<< (nI m &&& 31)) k = decide (k = m) := by
  have := or_bt 0 hm hk
  rw [show (0 : Int32) ||| ((1 : Int32) <<< (nI m &&& 31)) = (1 : Int32) <<< (nI m &&& 31) by simp, b_0] at this
  rw [this]
  by_cases e : k = m <;> simp [e]
theorem sX0_searchOne {σ : Sg} {M : zM} (W : Wf σ) (X : RX σ M) {r : Nat} (hr : r ≤ 4) {post : Int32 → zM → Prop}
    (ht : o1 σ r < sL σ → ∀ M', KX M M' → M'.1 5 2 = nI (o1 σ r) → M'.1 5 3 = M.1 5 3 → M'.1 5 4 = nI (wk σ (dnA σ (nI (o1 σ r)) (-1)) r) → post 1 M') (hf : ¬ o1 σ r < sL σ → ∀ M', KX M M' → M'.1 5 = M.1 5 → post 0 M') : pX0_searchOne M (nI r) post := by
  have hL := W.2.1
  unfold pX0_searchOne pX0_searchOne_L2
  refine ⟨fun n x1 x2 M1 => ∃ l, l ≤ sL σ ∧ n = sL σ - l ∧ x1 = nI r ∧ x2 = nI l ∧ KX M M1 ∧ M1.1 5 = M.1 5 ∧ ∀ t, t < l → ¬ P1 σ r t, ⟨sL σ, 0, by omega, rfl, rfl, rfl, KX.rf, rfl, fun t q => by omega⟩, ?_⟩
  rintro n x1 x2 M1 ⟨l, hl, hn, rfl, rfl, hK, k5, hz⟩
  have X1 := X.K hK
  have grow : ¬ P1 σ r l → ∀ t, t < l + 1 → ¬ P1 σ r t := fun hno t hlt => by
    rcases (show t < l ∨ t = l by omega) with z | z
    · exact hz t z
    · rw [z]; exact hno
  unfold pX0_searchOne_b2 pX0_searchOne_b45
  rw [X1.1.2.1]
  refine lp (by omega) hl (fun e => ⟨Or.inl rfl, ?_⟩) (fun hl2 => sX5_flag (by omega) ?_)
  · subst e
    refine hf ?_ M1 hK k5
    unfold o1
    rw [fst1_f hz]
    exact Nat.lt_irrefl _
  · rw [X1.2.2.2.1 l (by omega)]
    refine bI_e0 (fun eB => ⟨sL σ - (l + 1), by omega, l + 1, by omega, rfl, rfl, nI_1 l, hK, k5, grow (fun q => by rw [q.1] at eB; cases eB)⟩) (fun eB => ?_)
    refine sX0_weakens W X1 (dn := dnA σ (nI l) (-1)) (fun k hk => ?_) hr (fun hw M2 hK2 a b c => ne10 ⟨Or.inr rfl, ?_⟩) (fun hw M2 hK2 a => eq00 ⟨sL σ - (l + 1), by omega, l + 1, by omega, rfl, rfl, nI_1 l, hK.tr hK2, by rw [a, k5], grow (fun q => hw q.2)⟩)
    · rw [or_bt _ (by omega) (by omega), dnA_1 (by omega) hk, X1.2.2.2.1 k (by omega)]
    · have ho : o1 σ r = l := fst1_t (P := P1 σ r) ⟨eB, hw⟩ hz hl2
      rw [ho] at ht
      refine ht hl2 _ ((hK.tr hK2).tr (KX.si (by decide))) ?_ ?_ ?_
      · rw [zsi_s]
      · rw [zsi_n (by decide), b, k5]
      · rw [zsi_n (by decide), c]
theorem sX0_searchTwo {σ : Sg} {M : zM} (W : Wf σ) (X : RX σ M) {r : Nat} (hr : r ≤ 4) {post : Int32 → zM → Prop}
    (ht : o2 σ r < sL σ → ∀ M', KX M M' → M'.1 5 2 = nI (o2 σ r) → M'.1 5 3 = nI (o3 σ r) → M'.1 5 4 = nI (wk σ (dnA σ (nI (o2 σ r)) (nI (o3 σ r))) r) → post 1 M') (hf : ¬ o2 σ r < sL σ → ∀ M', KX M M' → post 0 M') : pX0_searchTwo M (nI r) post := by
  have hL := W.2.1
  unfold pX0_searchTwo pX0_searchTwo_L2
  refine ⟨fun n x1 x2 M1 => ∃ a, a ≤ sL σ ∧ n = sL σ - a ∧ x1 = nI r ∧ x2 = nI a ∧ KX M M1 ∧ ∀ t, t < a → ¬ P2a σ r t, ⟨sL σ, 0, by omega, rfl, rfl, rfl, KX.rf, fun t q => by omega⟩, ?_⟩
  rintro n x1 x2 M1 ⟨a, ha, hn, rfl, rfl, hK, hz⟩
  have X1 := X.K hK
  unfold pX0_searchTwo_b2
  rw [X1.1.2.1]
  refine lp (by omega) ha (fun e => ⟨Or.inl rfl, ?_⟩) (fun ha2 => ?_)
  · subst e
    refine hf ?_ M1 hK
    unfold o2
    rw [fst1_f hz]
    exact Nat.lt_irrefl _
  · unfold pX0_searchTwo_L17
    refine ⟨fun n' x1 x2 x3 M2 => ∃ b, a < b ∧ b ≤ sL σ ∧ n' = sL σ - b ∧ x1 = nI r ∧ x2 = nI a ∧ x3 = nI b ∧ KX M M2 ∧ ∀ t, t < b → ¬ P2 σ r a t, ⟨sL σ - (a + 1), a + 1, by omega, by omega, rfl, rfl, rfl, nI_1 a, hK, fun t q w => by have := w.1; omega⟩, ?_⟩
    rintro n' x1 x2 x3 M2 ⟨b, hab, hb, hn', rfl, rfl, rfl, hK2, hz2⟩
    have X2 := X.K hK2
    have grow : ¬ P2 σ r a b → ∀ t, t < b + 1 → ¬ P2 σ r a t := fun hno t hlt => by
      rcases (show t < b ∨ t = b by omega) with z | z
      · exact hz2 t z
      · rw [z]; exact hno
    unfold pX0_searchTwo_b17 pX0_searchTwo_b72
    rw [X2.1.2.1]
    refine lp (by omega) hb (fun e => ⟨sL σ - (a + 1), by omega, a + 1, by omega, rfl, rfl, nI_1 a, hK2, fun t q => ?_⟩) (fun hb2 => ?_)
    · rcases (show t < a ∨ t = a by omega) with z | z
      · exact hz t z
      · rw [z]
        rintro ⟨b', h1, h2⟩
        exact hz2 b' (by omega) h2
    · have hbits : ∀ i, i < 32 → bt (M2.1 1 5 &&& (((1 : Int32) <<< (nI a &&& 31)) ||| ((1 : Int32) <<< (nI b &&& 31)))) i = (sB σ i && (if i = b then true else decide (i = a))) := fun i hi => by
        rw [b_and, or_bt _ (by omega) hi, one_bt (by omega) hi, X2.2.2.2.1 i hi]
      refine ⟨fun q => ⟨sL σ - (b + 1), by omega, b + 1, by omega, by omega, rfl, rfl, rfl, nI_1 b, hK2, grow (fun w => q (bt_ext0 (fun i hi => ?_)))⟩, fun q => ?_⟩
      · rw [hbits i hi]
        by_cases e1 : i = b
        · rw [e1, w.2.2.1]; rfl
        · by_cases e2 : i = a
          · rw [e2, w.2.1]; rfl
          · rw [if_neg e1, decide_eq_false e2, Bool.and_false]
      · rw [q] at hbits
        have eb : sB σ b = false := by
          have := hbits b (by omega)
          rw [b_0, if_pos rfl, Bool.and_true] at this
          exact this.symm
        have ea : sB σ a = false := by
          have := hbits a (by omega)
          rw [b_0, if_neg (by omega), decide_eq_true rfl, Bool.and_true] at this
          exact this.symm
        refine sX0_weakens W X2 (dn := dnA σ (nI a) (nI b)) (fun k hk => ?_) hr (fun hw M3 hK3 u5 v5 c => ne10 ⟨Or.inr rfl, ?_⟩) (fun hw M3 hK3 u5 => eq00 ⟨sL σ - (b + 1), by omega, b + 1, by omega, by omega, rfl, rfl, rfl, nI_1 b, hK2.tr hK3, grow (fun w => hw w.2.2.2)⟩)
        · rw [b_or, or_bt _ (by omega) (by omega), one_bt (by omega) (by omega), X2.2.2.2.1 k (by omega), dnA_2 (by omega) (by omega) hk]
          by_cases e1 : k = b
          · rw [if_pos e1, if_pos e1, Bool.or_true]
          · by_cases e2 : k = a
            · rw [if_neg e1, if_neg e1, if_pos e2, decide_eq_true e2, Bool.or_true]
            · rw [if_neg e1, if_neg e1, if_neg e2, decide_eq_false e2, Bool.or_false]
        · have hp2 : P2 σ r a b := ⟨hab, ea, eb, hw⟩
          have ho2 : o2 σ r = a := fst1_t (P := P2a σ r) ⟨b, hb2, hp2⟩ hz ha2
          have ho3 : o3 σ r = b := by
            unfold o3
            rw [ho2]
            exact fst1_t (P := P2 σ r a) hp2 hz2 hb2
          rw [ho2, ho3] at ht
          refine ht ha2 _ (((hK2.tr hK3).tr (KX.si (by decide))).tr (KX.si (by decide))) ?_ ?_ ?_
          · rw [zsi_n (by decide), zsi_s]
          · rw [zsi_s]
          · rw [zsi_n (by decide), zsi_n (by decide), c]
noncomputable def brk (σ : Sg) (k r : Nat) : Option (Int32 × Int32 × Nat) :=
  if wk σ (dnA σ (-1) (-1)) r < sR σ then some (-1, -1, wk σ (dnA σ (-1) (-1)) r)
  else if 1 ≤ k ∧ o1 σ r < sL σ then some (nI (o1 σ r), -1, wk σ (dnA σ (nI (o1 σ r)) (-1)) r)
  else if 2 ≤ k ∧ o2 σ r < sL σ then some (nI (o2 σ r), nI (o3 σ r), wk σ (dnA σ (nI (o2 σ r)) (nI (o3 σ r))) r)
  else none
theorem sX0_search {σ : Sg} {M : zM} (W : Wf σ) (X : RX σ M) {k r : Nat} (hk : k ≤ 2) (hr : r ≤ 4) {post : Int32 → zM → Prop}
    (ht : ∀ a b e, brk σ k r = some (a, b, e) → ∀ M', KX M M' → M'.1 5 2 = a → M'.1 5 3 = b → M'.1 5 4 = nI e → post 1 M') (hf : brk σ k r = none → ∀ M', KX M M' → post 0 M') : pX0_search M (nI k) (nI r) post := by
  unfold pX0_search pX0_search_b45 pX0_search_b32 pX0_search_b49 pX0_search_b50
  have X0 : RX σ (zsi (zsi M 5 2 (-1)) 5 3 (-1)) := X.K ((KX.si (by decide)).tr (KX.si (by decide)))
  have K0 : KX M (zsi (zsi M 5 2 (-1)) 5 3 (-1)) := (KX.si (by decide)).tr (KX.si (by decide))
  have e2 : (zsi (zsi M 5 2 (-1)) 5 3 (-1)).1 5 2 = -1 := by
    rw [zsi_n (by decide), zsi_s]
  have e3 : (zsi (zsi M 5 2 (-1)) 5 3 (-1)).1 5 3 = -1 := by
    rw [zsi_s]
  generalize zsi (zsi M 5 2 (-1)) 5 3 (-1) = M0 at X0 K0 e2 e3 ⊢
  refine sX0_weakens W X0 (s := 0) (dn := dnA σ (-1) (-1)) (fun l hl => ?_) hr (fun hw M1 hK1 a b c => ne01 ⟨Or.inr rfl, ht _ _ _ (if_pos hw) M1 (K0.tr hK1) (by rw [a, e2]) (by rw [b, e3]) c⟩) (fun hw M1 hK1 k5 => eq00' ?_)
  · rw [b_or, b_0, Bool.or_false, X0.2.2.2.1 l (by omega), dnA_m1 (by omega)]
  · have X1 := X0.K hK1
    have two : ∀ M2, KX M M2 → ¬ (1 ≤ k ∧ o1 σ r < sL σ) → RX σ M2 → (nI k < (2 : Int32) → ((0 : Int32) = 0 ∨ (0 : Int32) = 1) ∧ post 0 M2) ∧ (¬ nI k < (2 : Int32) → pX0_searchTwo M2 (nI r) (fun r39 M39 => (r39 = 0 → ((0 : Int32) = 0 ∨ (0 : Int32) = 1) ∧ post 0 M39) ∧ (¬ r39 = 0 → ((1 : Int32) = 0 ∨ (1 : Int32) = 1) ∧ post 1 M39))) := by
      intro M2 hK2 h1 X2
      refine lt2 (b := 2) (by omega) (by omega) (fun q => ⟨Or.inl rfl, hf ?_ M2 hK2⟩) (fun q => sX0_searchTwo W X2 hr (fun ho M3 hK3 a b c => ne10 ⟨Or.inr rfl, ht _ _ _ ?_ M3 (hK2.tr hK3) a b c⟩) (fun ho M3 hK3 => eq00 ⟨Or.inl rfl, hf ?_ M3 (hK2.tr hK3)⟩))
      · unfold brk; rw [if_neg hw, if_neg h1, if_neg (by omega)]
      · unfold brk; rw [if_neg hw, if_neg h1, if_pos ⟨q, ho⟩]
      · unfold brk; rw [if_neg hw, if_neg h1, if_neg (fun z => ho z.2)]
    refine lt2 (b := 1) (by omega) (by omega) (fun q => two M1 (K0.tr hK1) (by omega) X1) (fun q => sX0_searchOne W X1 hr (fun ho M2 hK2 a b c => ne01 ⟨Or.inr rfl, ht _ _ _ ?_ M2 (K0.tr (hK1.tr hK2)) a (by rw [b, k5, e3]) c⟩) (fun ho M2 hK2 a => eq00' (two M2 (K0.tr (hK1.tr hK2)) (fun z => ho z.2) (X1.K hK2))))
    unfold brk; rw [if_neg hw, if_pos ⟨q, ho⟩]
/-! the model -/
theorem sX6_two {σ : Sg} {N : zM} (W : Wf σ) (Y : RM σ N) (A : Al N (-1) (-1)) {k r : Nat} (hk : k ≤ 2) (hr : r ≤ 4) {post : Int32 → zM → Prop}
    (ht : 2 ≤ k ∧ o2 σ r < sL σ → ∀ N', RM σ N' → Al N' (-1) (-1) → N'.1 21 28 = nI (o2 σ r) → N'.1 21 29 = nI (o3 σ r) → N'.1 21 30 = nI (wk σ (dnA σ (nI (o2 σ r)) (nI (o3 σ r))) r) → post 1 N') (hf : ¬ (2 ≤ k ∧ o2 σ r < sL σ) → ∀ N', RM σ N' → Al N' (-1) (-1) → post 0 N') : pX6_hasBreak_L55 post (nI k) (nI r) 0 N := by
  have hL := W.2.1
  unfold pX6_hasBreak_L55
  refine ⟨fun n x1 x2 x3 N1 => ∃ a, a ≤ sL σ ∧ n = sL σ - a ∧ x1 = nI k ∧ x2 = nI r ∧ x3 = nI a ∧ RM σ N1 ∧ Al N1 (-1) (-1) ∧ ∀ t, t < a → ¬ P2a σ r t, ⟨sL σ, 0, by omega, rfl, rfl, rfl, rfl, Y, A, fun t q => by omega⟩, ?_⟩
  rintro n x1 x2 x3 N1 ⟨a, ha, hn, rfl, rfl, rfl, Y1, A1, hz⟩
  unfold pX6_hasBreak_b55 pX6_hasBreak_b126
  rw [Y1.1.2.1]
  refine lp (by omega) ha (fun e => ⟨Or.inl rfl, hf ?_ N1 Y1 A1⟩) (fun ha2 => le2 (b := 1) (by omega) (by omega) (fun q => ⟨Or.inl rfl, hf (by omega) N1 Y1 A1⟩) (fun q => ?_))
  · subst e
    rintro ⟨_, h2⟩
    unfold o2 at h2
    rw [fst1_f hz] at h2
    omega
  · unfold pX6_hasBreak_L73
    refine ⟨fun n' x1 x2 x3 x4 N2 => ∃ b, a < b ∧ b ≤ sL σ ∧ n' = sL σ - b ∧ x1 = nI k ∧ x2 = nI r ∧ x3 = nI a ∧ x4 = nI b ∧ RM σ N2 ∧ Al N2 (-1) (-1) ∧ ∀ t, t < b → ¬ P2 σ r a t, ⟨sL σ - (a + 1), a + 1, by omega, by omega, rfl, rfl, rfl, rfl, nI_1 a, Y1, A1, fun t q w => by have := w.1; omega⟩, ?_⟩
    rintro n' x1 x2 x3 x4 N2 ⟨b, hab, hb, hn', rfl, rfl, rfl, rfl, Y2, A2, hz2⟩
    have grow : ¬ P2 σ r a b → ∀ t, t < b + 1 → ¬ P2 σ r a t := fun hno t hlt => by
      rcases (show t < b ∨ t = b by omega) with z | z
      · exact hz2 t z
      · rw [z]; exact hno
    have up : (∀ b', b' < sL σ → ¬ P2 σ r a b') → ∀ t, t < a + 1 → ¬ P2a σ r t := fun hno t hlt => by
      rcases (show t < a ∨ t = a by omega) with z | z
      · exact hz t z
      · rw [z]
        rintro ⟨b', h1, h2⟩
        exact hno b' h1 h2
    unfold pX6_hasBreak_b73 pX6_hasBreak_b120 pX6_hasBreak_b114
    rw [Y2.1.2.1]
    refine lp (by omega) hb (fun e => ⟨sL σ - (a + 1), by omega, a + 1, by omega, rfl, rfl, rfl, nI_1 a, Y2, A2, up (fun b' h1 h2 => hz2 b' (by omega) h2)⟩) (fun hb2 => ?_)
    rw [nI_clamp (n := a) (by omega), nI_clamp (n := b) (by omega), (Y2.2.2.2.2.1 a (by omega)).2, (Y2.2.2.2.2.1 b (by omega)).2]
    refine ⟨vp_in_nI (by omega) (by decide), bI_e0 (fun ea => ⟨sL σ - (a + 1), by omega, a + 1, by omega, rfl, rfl, rfl, nI_1 a, Y2, A2, up (fun b' h1 h2 => by rw [h2.2.1] at ea; cases ea)⟩) (fun ea => ⟨vp_in_nI (by omega) (by decide), bI_e0 (fun eb => ⟨sL σ - (b + 1), by omega, b + 1, by omega, by omega, rfl, rfl, rfl, rfl, nI_1 b, Y2, A2, grow (fun w => by rw [w.2.2.1] at eb; cases eb)⟩) (fun eb => ?_)⟩)⟩
    refine sX6_breaksAt W Y2 hr (fun hw N3 Y3 A3 u v w => ne10 ⟨Or.inr rfl, ?_⟩) (fun hw N3 Y3 A3 => eq00 ⟨sL σ - (b + 1), by omega, b + 1, by omega, by omega, rfl, rfl, rfl, rfl, nI_1 b, Y3, A3, grow (fun w => hw w.2.2.2)⟩)
    have hp2 : P2 σ r a b := ⟨hab, ea, eb, hw⟩
    have ho2 : o2 σ r = a := fst1_t (P := P2a σ r) ⟨b, hb2, hp2⟩ hz ha2
    have ho3 : o3 σ r = b := by
      unfold o3
      rw [ho2]
      exact fst1_t (P := P2 σ r a) hp2 hz2 hb2
    rw [ho2, ho3] at ht
    exact ht ⟨q, ha2⟩ N3 Y3 A3 u v w
theorem sX6_hasBreak {σ : Sg} {N : zM} (W : Wf σ) (Y : RM σ N) {k r : Nat} (hk : k ≤ 2) (hr : r ≤ 4) {post : Int32 → zM → Prop}
    (ht : ∀ a b e, brk σ k r = some (a, b, e) → ∀ N', RM σ N' → Al N' (-1) (-1) → N'.1 21 28 = a → N'.1 21 29 = b → N'.1 21 30 = nI e → post 1 N') (hf : brk σ k r = none → ∀ N', RM σ N' → Al N' (-1) (-1) → post 0 N') : pX6_hasBreak N (nI k) (nI r) post := by
  have hL := W.2.1
  unfold pX6_hasBreak
  refine sX6_breaksAt W Y hr (fun hw N1 Y1 A1 u v w => ne10 ⟨Or.inr rfl, ht _ _ _ (if_pos hw) N1 Y1 A1 u v w⟩) (fun hw N1 Y1 A1 => eq00 ?_)
  have two : ∀ N2, RM σ N2 → Al N2 (-1) (-1) → ¬ (1 ≤ k ∧ o1 σ r < sL σ) → pX6_hasBreak_L55 post (nI k) (nI r) 0 N2 := by
    intro N2 Y2 A2 h1
    refine sX6_two W Y2 A2 hk hr (fun h2 N3 Y3 A3 u v w => ht _ _ _ ?_ N3 Y3 A3 u v w) (fun h2 N3 Y3 A3 => hf ?_ N3 Y3 A3)
    · unfold brk; rw [if_neg hw, if_neg h1, if_pos h2]
    · unfold brk; rw [if_neg hw, if_neg h1, if_neg h2]
  unfold pX6_hasBreak_L14
  refine ⟨fun n x1 x2 x3 N2 => ∃ l, l ≤ sL σ ∧ n = sL σ - l ∧ x1 = nI k ∧ x2 = nI r ∧ x3 = nI l ∧ RM σ N2 ∧ Al N2 (-1) (-1) ∧ ∀ t, t < l → ¬ P1 σ r t, ⟨sL σ, 0, by omega, rfl, rfl, rfl, rfl, Y1, A1, fun t q => by omega⟩, ?_⟩
  rintro n x1 x2 x3 N2 ⟨l, hl, hn, rfl, rfl, rfl, Y2, A2, hz⟩
  have grow : ¬ P1 σ r l → ∀ t, t < l + 1 → ¬ P1 σ r t := fun hno t hlt => by
    rcases (show t < l ∨ t = l by omega) with z | z
    · exact hz t z
    · rw [z]; exact hno
  unfold pX6_hasBreak_b14 pX6_hasBreak_b53 pX6_hasBreak_b47
  rw [Y2.1.2.1]
  refine lp (by omega) hl (fun e => two N2 Y2 A2 ?_) (fun hl2 => le2 (b := 0) (by omega) (by omega) (fun q => two N2 Y2 A2 (by omega)) (fun q => ⟨vp_in_nI (by omega) (by decide), ?_⟩))
  · subst e
    rintro ⟨_, h2⟩
    unfold o1 at h2
    rw [fst1_f hz] at h2
    omega
  · rw [nI_clamp (n := l) (by omega), (Y2.2.2.2.2.1 l (by omega)).2]
    refine bI_e0 (fun eB => ⟨sL σ - (l + 1), by omega, l + 1, by omega, rfl, rfl, rfl, nI_1 l, Y2, A2, grow (fun q => by rw [q.1] at eB; cases eB)⟩) (fun eB => ?_)
    refine sX6_breaksAt W Y2 hr (fun hw1 N3 Y3 A3 u v w => ne10 ⟨Or.inr rfl, ?_⟩) (fun hw1 N3 Y3 A3 => eq00 ⟨sL σ - (l + 1), by omega, l + 1, by omega, rfl, rfl, rfl, nI_1 l, Y3, A3, grow (fun w => hw1 w.2)⟩)
    have ho : o1 σ r = l := fst1_t (P := P1 σ r) ⟨eB, hw1⟩ hz hl2
    refine ht (nI l) (-1) (wk σ (dnA σ (nI l) (-1)) r) ?_ N3 Y3 A3 u v w
    unfold brk
    rw [if_neg hw, ho, if_pos ⟨q, hl2⟩]
theorem ix2 (x : Int32) {n : Nat} (hn : n < 2 ^ 30) : (x < 0 ∨ nI n < x) ∨ ∃ j : Nat, j ≤ n ∧ x = nI j := by
  rcases ix3 x (n := n + 1) (by omega) with (h | h) | ⟨j, hj, rfl⟩
  · exact Or.inl (Or.inl h)
  · refine Or.inl (Or.inr ?_)
    rw [Int32.le_iff_toInt_le, nI_toInt (by omega)] at h
    rw [Int32.lt_iff_toInt_lt, nI_toInt (by omega)]
    omega
  · exact Or.inr ⟨j, by omega, rfl⟩
theorem sX5_isBC_t {k : Nat} (hk : k ≤ 2) {post : Int32 → Prop} (h : post 1) : pX5_isBreakCount (nI k) post := by
  unfold pX5_isBreakCount pX5_isBreakCount_b14
  refine ⟨fun q => absurd q (nI_pos (by omega)), fun _ => lt2 (a := 2) (by omega) (by omega) (fun q => by omega) (fun q => ⟨Or.inr rfl, h⟩)⟩
theorem sX5_isBC_f {y : Int32} (hy : y < 0 ∨ nI 2 < y) {post : Int32 → Prop} (h : post 0) : pX5_isBreakCount y post := by
  unfold pX5_isBreakCount pX5_isBreakCount_b13 pX5_isBreakCount_b14
  exact ⟨fun _ => ⟨Or.inl rfl, h⟩, fun q => ⟨fun _ => ⟨Or.inl rfl, h⟩, fun q2 => absurd hy (fun z => z.elim q q2)⟩⟩
theorem in_t {j n : Nat} (hj : j ≤ n) (hn : n < 2 ^ 30) {post : Int32 → Prop} (h : post 1) : pX6_in (nI j) 0 (nI n) post :=
  sX6_in_t (nI_pos (by omega)) (fun q => by have := (nI_ltI (a := n) (b := j) (by omega) (by omega)).mp q; omega) h
theorem cs_safe {σ : Sg} {M N : zM} (R : Rel σ M N) (x1 x2 : Int32) {post : Int32 → zM → Int32 → zM → Prop} (h : ∀ r σ' M' N', Rel σ' M' N' → post r M' r N') : pX5_safe M x1 x2 (fun r M1 => pX6_safe N x1 x2 (fun r' N1 => post r M1 r' N1)) := by
  have R0 := R
  obtain ⟨W, X, Y, A⟩ := R
  have hH := W.2.2.1
  unfold pX5_safe pX5_safe_b22 pX5_safe_b42
  rcases ix2 x1 (n := 2) (by omega) with hx | ⟨k, hk, rfl⟩
  · refine sX5_isBC_f hx (eq00 ?_)
    unfold pX6_safe pX6_safe_b21
    exact sX6_in_f hx (eq00 (h _ σ _ _ R0))
  · refine sX5_isBC_t hk (ne10 ?_)
    rw [X.1.2.2]
    rcases ix2 x2 (n := sH σ) (by omega) with hx | ⟨r, hr, rfl⟩
    · have go : pX6_safe N (nI k) x2 (fun r' N1 => post (-2) M r' N1) := by
        unfold pX6_safe pX6_safe_b21
        refine in_t (n := 2) hk (by omega) (ne10 ?_)
        rw [Y.1.2.2]
        exact sX6_in_f hx (eq00' (h _ σ _ _ R0))
      refine ⟨fun _ => go, fun q => ⟨fun q2 => ?_, fun _ => go⟩⟩
      rcases hx with z | z
      · exact absurd z q
      · rw [Int32.le_iff_toInt_le] at q2
        rw [Int32.lt_iff_toInt_lt] at z
        omega
    · refine ⟨fun q => absurd q (nI_pos (by omega)), fun _ => ⟨fun _ => sX0_search W X hk (by omega) (fun a b e hb M' hK u v w => ne01 (sX5_asFlag0 ?_)) (fun hb M' hK => eq00' (sX5_asFlag1 ?_)), fun q => absurd ((nI_leI (by omega) (by omega)).mpr hr) q⟩⟩
      · unfold pX6_safe pX6_safe_b38
        refine in_t (n := 2) hk (by omega) (ne10 ?_)
        rw [Y.1.2.2]
        refine in_t hr (by omega) (ne01 (sX6_hasBreak W Y hk (by omega) (fun a' b' e' hb' N' Y' A' _ _ _ => ne10 (h _ σ _ _ ⟨W, X.K hK, Y', A'⟩)) (fun hb' => by rw [hb] at hb'; cases hb')))
      · unfold pX6_safe pX6_safe_b38
        refine in_t (n := 2) hk (by omega) (ne10 ?_)
        rw [Y.1.2.2]
        refine in_t hr (by omega) (ne01 (sX6_hasBreak W Y hk (by omega) (fun a' b' e' hb' => by rw [hb] at hb'; cases hb') (fun hb' N' Y' A' => eq00 (h _ σ _ _ ⟨W, X.K hK, Y', A'⟩))))
theorem cs_breaks {σ : Sg} {M N : zM} (R : Rel σ M N) (x1 x2 x3 : Int32) {post : Int32 → zM → Int32 → zM → Prop} (h : ∀ r σ' M' N', Rel σ' M' N' → post r M' r N') : pX5_breaks M x1 x2 x3 (fun r M1 => pX6_breaks N x1 x2 x3 (fun r' N1 => post r M1 r' N1)) := by
  have R0 := R
  obtain ⟨W, X, Y, A⟩ := R
  have hH := W.2.2.1
  unfold pX5_breaks pX5_breaks_b9 pX5_breaks_b33 pX5_breaks_b84
  rcases ix2 x3 (n := 2) (by omega) with hx3 | ⟨w, hw, rfl⟩
  · have go : pX6_breaks N x1 x2 x3 (fun r' N1 => post (-1) M r' N1) := by
      unfold pX6_breaks
      exact sX6_in_f hx3 (eq00' (h _ σ _ _ R0))
    refine ⟨fun _ => go, fun q => ⟨fun q2 => ?_, fun _ => go⟩⟩
    rcases hx3 with z | z
    · exact absurd z q
    · rw [Int32.le_iff_toInt_le] at q2
      rw [Int32.lt_iff_toInt_lt] at z
      have t1 : (nI 2).toInt = (2 : Int32).toInt := rfl
      omega
  · refine ⟨fun q => absurd q (nI_pos (by omega)), fun _ => ⟨fun _ => ?_, fun q => absurd ((nI_leI (a := w) (b := 2) (by omega) (by omega)).mpr hw) q⟩⟩
    rcases ix2 x1 (n := 2) (by omega) with hx | ⟨k, hk, rfl⟩
    · refine sX5_isBC_f hx (eq00 ?_)
      unfold pX6_breaks pX6_breaks_b32
      exact in_t (n := 2) hw (by omega) (ne01 (sX6_in_f hx (eq00 (h _ σ _ _ R0))))
    · refine sX5_isBC_t hk (ne10 ?_)
      rw [X.1.2.2]
      rcases ix2 x2 (n := sH σ) (by omega) with hx | ⟨r, hr, rfl⟩
      · have go : pX6_breaks N (nI k) x2 (nI w) (fun r' N1 => post (-2) M r' N1) := by
          unfold pX6_breaks pX6_breaks_b32
          refine in_t (n := 2) hw (by omega) (ne01 (in_t (n := 2) hk (by omega) (ne10 ?_)))
          rw [Y.1.2.2]
          exact sX6_in_f hx (eq00' (h _ σ _ _ R0))
        refine ⟨fun _ => go, fun q => ⟨fun q2 => ?_, fun _ => go⟩⟩
        rcases hx with z | z
        · exact absurd z q
        · rw [Int32.le_iff_toInt_le] at q2
          rw [Int32.lt_iff_toInt_lt] at z
          omega
      · refine ⟨fun q => absurd q (nI_pos (by omega)), fun _ => ⟨fun _ => sX0_search W X hk (by omega) (fun a b e hb M' hK u v z => ne01 ?_) (fun hb M' hK => eq00' ?_), fun q => absurd ((nI_leI (by omega) (by omega)).mpr hr) q⟩⟩
        · have go : ∀ y, (w = 0 → y = a) → (w = 1 → y = b) → (w ≠ 0 → w ≠ 1 → y = nI e) → pX6_breaks N (nI k) (nI r) (nI w) (fun r' N1 => post y M' r' N1) := by
            intro y y0 y1 y2
            unfold pX6_breaks pX6_breaks_b73
            refine in_t (n := 2) hw (by omega) (ne01 (in_t (n := 2) hk (by omega) (ne10 ?_)))
            rw [Y.1.2.2]
            refine in_t hr (by omega) (ne01 (sX6_hasBreak W Y hk (by omega) (fun a' b' e' hb' N' Y' A' u' v' z' => ne01 ?_) (fun hb' => by rw [hb] at hb'; cases hb')))
            rw [hb] at hb'
            injection hb' with hb'
            injection hb' with ha hb2
            injection hb2 with hb2 he
            subst ha hb2 he
            rw [u', v', z']
            have fin : ∀ y', y = y' → post y M' y' N' := fun y' e => by rw [e]; exact h _ σ _ _ ⟨W, X.K hK, Y', A'⟩
            refine ⟨fun q => ⟨fun q2 => fin _ (y2 (fun e => q (by rw [e]; rfl)) (fun e => q2 (by rw [e]; rfl))), fun q2 => fin _ (y1 ((nI_eq (b := 1) (by omega) (by omega)).mp q2))⟩, fun q => fin _ (y0 ((nI_eq (b := 0) (by omega) (by omega)).mp q))⟩
          rw [u, v, z]
          refine ⟨fun q => ⟨fun q2 => go _ (fun e => absurd (by rw [e]; rfl) q) (fun e => absurd (by rw [e]; rfl) q2) (fun _ _ => rfl), fun q2 => go _ (fun e => absurd (by rw [e]; rfl) q) (fun _ => rfl) (fun _ e => absurd ((nI_eq (b := 1) (by omega) (by omega)).mp q2) e)⟩, fun q => go _ (fun _ => rfl) (fun e => ?_) (fun e => absurd ((nI_eq (b := 0) (by omega) (by omega)).mp q) e)⟩
          have := (nI_eq (a := w) (b := 0) (by omega) (by omega)).mp q
          omega
        · unfold pX6_breaks
          refine in_t (n := 2) hw (by omega) (ne01 (in_t (n := 2) hk (by omega) (ne10 ?_)))
          rw [Y.1.2.2]
          exact in_t hr (by omega) (ne01 (sX6_hasBreak W Y hk (by omega) (fun a' b' e' hb' => by rw [hb] at hb'; cases hb') (fun hb' N' Y' A' => eq00' (h _ σ _ _ ⟨W, X.K hK, Y', A'⟩))))
