def KL (N N' : zM) : Prop := (∀ a, a ≠ 39 → a ≠ 40 → N'.1 a = N.1 a) ∧ N'.2 = N.2
theorem KL.rf {N : zM} : KL N N := ⟨fun _ _ _ => rfl, rfl⟩
theorem KL.tr {N N' N2 : zM} (h : KL N N') (h2 : KL N' N2) : KL N N2 := ⟨fun a a1 a2 => (h2.1 a a1 a2).trans (h.1 a a1 a2), h2.2.trans h.2⟩
theorem KL.i {c : Nat} {N N' : zM} (h : KI c N N') (hc : c = 39 ∨ c = 40) : KL N N' := ⟨fun a a1 a2 => h.1 a (by omega), h.2⟩
theorem KL.m {N N' : zM} (h : KL N N') : KM N N' := ⟨fun a h1 h2 => h.1 a (by omega) (by omega), fun k _ => by rw [h.1 21 (by decide) (by decide)], fun a _ _ => by rw [h.2]⟩
theorem sX6_lackL {h k : Nat} {V : Nat → Nat → Nat} {pv : Nat → Bool} {u : Nat → Nat → Nat} {la : Nat → Nat} {N : zM} (h4 : h ≤ 4) (hH : N.1 21 3 = nI h) (S : YR h k V pv u la N) {p q : Nat} (hp : p < h) (hq : q < h) {z : Nat → Nat} (Z : LK h k V p z) {post : Int32 → zM → Prop} (hh : ∀ N', KL N N' → post (nI (z q)) N') : pX6_lack_L67 post (nI p) (nI q) 0 N := by
  obtain ⟨bz, nz, zp, zl⟩ := Z
  unfold pX6_lack_L67
  refine ⟨fun m x2 x3 x4 N1 => ∃ c, c ≤ h ∧ m = h - c ∧ x2 = nI p ∧ x3 = nI q ∧ x4 = nI c ∧ KL N N1 ∧ ∀ i, i < c → N1.1 39 i = nI (z i), ⟨h, 0, by omega, rfl, rfl, rfl, rfl, KL.rf, fun i hi => by omega⟩, ?_⟩
  rintro m x2 x3 x4 N1 ⟨c, hc, hm, rfl, rfl, rfl, hK, hv⟩
  have hH1 : N1.1 21 3 = nI h := by rw [hK.1 21 (by decide) (by decide)]; exact hH
  unfold pX6_lack_b67 pX6_lack_b93
  rw [hH1]
  refine lp (by omega) hc (fun e => ?_) (fun hc2 => ?_)
  · subst e
    rw [nI_clamp (by omega), hv q hq]
    exact ⟨vp_in_nI (by omega) (by decide), hh N1 hK⟩
  · rw [nI_clamp (n := c) (by omega)]
    have start : ∀ a0, a0 ≤ z c → (c = p → a0 = 1) → pX6_lack_L94 post (fun x2 x3 x4 N1 => ∃ k, k < m ∧ ∃ c, c ≤ h ∧ k = h - c ∧ x2 = nI p ∧ x3 = nI q ∧ x4 = nI c ∧ KL N N1 ∧ ∀ i, i < c → N1.1 39 i = nI (z i)) (nI p) (nI q) (nI c) (zsi N1 39 c (nI a0)) := by
      intro a0 ha0 hap0
      unfold pX6_lack_L94
      refine ⟨fun m' x2 x3 x4 N2 => ∃ a, a ≤ z c ∧ m' = z c - a ∧ (c = p → a = 1) ∧ x2 = nI p ∧ x3 = nI q ∧ x4 = nI c ∧ KL N N2 ∧ (∀ i, i < c → N2.1 39 i = nI (z i)) ∧ N2.1 39 c = nI a, ⟨z c - a0, a0, ha0, rfl, hap0, rfl, rfl, rfl, hK.tr (KL.i KI.si (Or.inl rfl)), fun i hi => ?_, ?_⟩, ?_⟩
      · show upd (N1.1 39) c _ i = _
        rw [pk_un (by omega)]; exact hv i hi
      · show upd (N1.1 39) c _ c = _
        rw [pk_us]
      · rintro m' x2 x3 x4 N2 ⟨a, ha, hm', hap, rfl, rfl, rfl, hK2, hv2, hva⟩
        have bzc := bz c
        have hH2 : N2.1 21 3 = nI h := by rw [hK2.1 21 (by decide) (by decide)]; exact hH
        have S2 : YR h k V pv u la N2 := S.Ki (hK2.1 21 (by decide) (by decide)) (hK2.1 35 (by decide) (by decide)) (hK2.1 36 (by decide) (by decide))
        unfold pX6_lack_b94
        rw [nI_1]
        refine sX6_goes h4 hH2 S2 hp (by omega) (z := fun i => if i = c then a else z i) (fun i => ?_) (fun i hi hne => ?_) (fun hy N3 hK3 => ne01 ?_) (fun hn N3 hK3 => eq00' ?_)
        · show (if i = c then a else z i) < 256
          split
          · omega
          · exact bz i
        · show N2.1 39 i = nI (if i = c then a else z i)
          by_cases e : i = c
          · rw [if_pos e, e]; exact hva
          · rw [if_neg e]; exact hv2 i (by omega)
        · obtain ⟨y, hy, ny, y1, ye⟩ := hy
          have hac : a = z c := by
            by_cases e : c = p
            · rw [hap e, e, zp]
            · have h1 : y c = a := by rw [ye c (by omega) e, if_pos rfl]
              have h2 : z c ≤ y c := zl c hc2 e y hy ny y1 (fun i hi => by
                by_cases e2 : i = p
                · rw [e2, y1, zp]
                · rw [ye i (by omega) e2, if_neg (by omega)])
              omega
          refine ⟨h - (c + 1), by omega, c + 1, by omega, rfl, rfl, rfl, rfl, hK2.tr (KL.i hK3 (Or.inr rfl)), fun i hi => ?_⟩
          rw [hK3.1 39 (by decide)]
          rcases (show i < c ∨ i = c by omega) with e | e
          · exact hv2 i e
          · rw [e, hva, hac]
        · have hne : a ≠ z c := fun e => hn ⟨z, bz, nz, zp, fun i hi hne => by
            show z i = if i = c then a else z i
            by_cases e2 : i = c
            · rw [if_pos e2, e2, e]
            · rw [if_neg e2]⟩
          have hcp : c ≠ p := fun e => hne (by rw [hap e, e, zp])
          rw [nI_clamp (n := c) (by omega)]
          refine ⟨vp_in_nI (by omega) (by decide), vp_in_nI (by omega) (by decide), z c - (a + 1), by omega, a + 1, by omega, rfl, fun e => absurd e hcp, rfl, rfl, rfl, (hK2.tr (KL.i hK3 (Or.inr rfl))).tr (KL.i KI.si (Or.inl rfl)), fun i hi => ?_, ?_⟩
          · show upd (N3.1 39) c _ i = _
            rw [pk_un (by omega), hK3.1 39 (by decide)]; exact hv2 i hi
          · show upd (N3.1 39) c _ c = _
            rw [pk_us, hK3.1 39 (by decide), hva, nI_1]
    exact ⟨fun e => ⟨vp_in_nI (by omega) (by decide), start 0 (Nat.zero_le _) (fun e2 => absurd (by rw [e2]) e)⟩, fun e => ⟨vp_in_nI (by omega) (by decide), start 1 (by rw [(nI_eq (by omega) (by omega)).mp e, zp]; exact Nat.le_refl _) (fun _ => rfl)⟩⟩
theorem cs_lack {σ : Sg} {M N : zM} (R : Rel σ M N) (x1 x2 x3 : Int32) {post : Int32 → zM → Int32 → zM → Prop} (h : ∀ r σ' M' N', Rel σ' M' N' → post r M' r N') : pX5_lack M x1 x2 x3 (fun r M1 => pX6_lack N x1 x2 x3 (fun r' N1 => post r M1 r' N1)) := by
  have R0 := R
  obtain ⟨W, X, Y, A⟩ := R
  have hR := W.1
  have hH := W.2.2.1
  unfold pX5_lack pX5_lack_b21 pX5_lack_b64
  rcases ix3 x3 (n := sH σ) (by omega) with hx3 | ⟨q, hq, rfl⟩
  · refine sX2_isPiece_f X hx3 (eq00 ⟨fun q => absurd q (by decide), fun _ => ?_⟩)
    unfold pX6_lack pX6_lack_b36
    rcases ix3 x1 (n := sR σ) (by omega) with hx | ⟨r, hr, rfl⟩
    · exact sX6_isRelay_f W Y hx (eq00 (h _ σ _ _ R0))
    · rcases ix3 x2 (n := sH σ) (by omega) with hx2 | ⟨p, hp, rfl⟩
      · exact sX6_isRelay_t W Y hr (ne10 (sX6_isPiece_f W Y hx2 (eq00 (h _ σ _ _ R0))))
      · exact sX6_isRelay_t W Y hr (ne10 (sX6_isPiece_t W Y hp (ne10 (sX6_isPiece_f W Y hx3 (eq00' (h _ σ _ _ R0))))))
  · refine sX2_isPiece_t W X hq (ne10 ?_)
    rcases ix3 x2 (n := sH σ) (by omega) with hx2 | ⟨p, hp, rfl⟩
    · refine sX5_refusal2_p X hx2 ⟨fun q => absurd q (by decide), fun _ => ?_⟩
      unfold pX6_lack pX6_lack_b36
      rcases ix3 x1 (n := sR σ) (by omega) with hx | ⟨r, hr, rfl⟩
      · exact sX6_isRelay_f W Y hx (eq00 (h _ σ _ _ R0))
      · exact sX6_isRelay_t W Y hr (ne10 (sX6_isPiece_f W Y hx2 (eq00 (h _ σ _ _ R0))))
    · refine sX5_refusal2 W X hp ?_
      rcases ix3 x1 (n := sR σ) (by omega) with hx | ⟨r, hr, rfl⟩
      · unfold pX6_lack pX6_lack_b36
        exact sX5_refusalOf_f X hx ⟨fun q => absurd q (by decide), fun _ => sX6_isRelay_f W Y hx (eq00 (h _ σ _ _ R0))⟩
      · by_cases h0 : r = 0
        · subst h0
          unfold pX6_lack
          exact sX5_refusalOf_0 W X ⟨fun q => absurd q (by decide), fun _ => sX6_isRelay_t W Y hr (ne10 (sX6_isPiece_t W Y hp (ne10 (sX6_isPiece_t W Y hq (ne01 ⟨fun q => absurd rfl q, fun _ => h _ σ _ _ R0⟩)))))⟩
        · refine sX5_refusalOf_t W X hr h0 ⟨fun _ => sX3_rankNow W X (by omega) (fun M' hK S => ?_), fun q => absurd rfl q⟩
          obtain ⟨pv, u, E, T, hrow, hsz, hnew⟩ := S
          refine sX3_worksOut W E hrow hp (fun hin => ne10 ?_) (fun hout => eq00 (sX3_lackNumber W E T hrow hp hq hout (fun z Z => ?_)))
          · unfold pX6_lack
            refine sX6_isRelay_t W Y hr (ne10 (sX6_isPiece_t W Y hp (ne10 (sX6_isPiece_t W Y hq (ne01 ⟨fun _ => sX6_ws W Y A (by omega) (fun N' hK' hC S' => ?_), fun q => absurd q (nI_n0 (by omega) h0)⟩)))))
            obtain ⟨pv', u', la, S1, S2⟩ := S'
            exact sX6_solvesFor (by omega) (Y.K hK').1.2.2 S1 hp (fun _ N2 hK2 _ => ne10 (h _ σ _ _ (R0.K hK (hK'.tr hK2.t.m)))) (fun q => absurd hin q)
          · unfold pX6_lack
            refine sX6_isRelay_t W Y hr (ne10 (sX6_isPiece_t W Y hp (ne10 (sX6_isPiece_t W Y hq (ne01 ⟨fun _ => sX6_ws W Y A (by omega) (fun N' hK' hC S' => ?_), fun q => absurd q (nI_n0 (by omega) h0)⟩)))))
            obtain ⟨pv', u', la, S1, S2⟩ := S'
            refine sX6_solvesFor (by omega) (Y.K hK').1.2.2 S1 hp (fun q => absurd q hout) (fun _ N2 hK2 => eq00 ?_)
            exact sX6_lackL (by omega) ((Y.K hK').K hK2.t.m).1.2.2 (S1.K hK2) hp hq Z (fun N3 hK3 => h _ σ _ _ (R0.K hK (hK'.tr (hK2.t.m.tr hK3.m))))
