/-! rank, fresh, solves, key, gets -/
theorem lt2 {a b : Nat} {P Q : Prop} (ha : a < 2 ^ 31) (hb : b < 2 ^ 31) (h1 : a < b → P) (h2 : b ≤ a → Q) : (nI a < nI b → P) ∧ (¬ nI a < nI b → Q) :=
  ⟨fun q => h1 ((nI_ltI ha hb).mp q), fun q => h2 (by
    rcases Nat.lt_or_ge a b with z | z
    · exact absurd ((nI_ltI ha hb).mpr z) q
    · exact z)⟩
theorem le2 {a b : Nat} {P Q : Prop} (ha : a < 2 ^ 31) (hb : b < 2 ^ 31) (h1 : a ≤ b → P) (h2 : b < a → Q) : (nI a ≤ nI b → P) ∧ (¬ nI a ≤ nI b → Q) :=
  ⟨fun q => h1 ((nI_leI ha hb).mp q), fun q => h2 (by
    rcases Nat.lt_or_ge b a with z | z
    · exact z
    · exact absurd ((nI_leI ha hb).mpr z) q)⟩
theorem x_nn {x : Int32} (h : 0 ≤ x) : ∃ i, i < 2 ^ 31 ∧ x = nI i := nI_of (fun q => by
  rw [Int32.lt_iff_toInt_lt] at q
  rw [Int32.le_iff_toInt_le] at h
  omega)
theorem wvec {σ : Sg} (W : Wf σ) {N : zM} (hd : ∀ l, l < sL σ → wdone σ (dnA σ (-1) (-1)) N l) : ∀ l, l < sL σ → ∀ p, p < 4 → N.1 33 (4 * l + p) = nI (vV σ (sB σ) l p) := fun l hl p hp => by
  rw [(hd l hl).1 p hp, vV_dn W (dnA_B W) hl]
theorem wcar {σ : Sg} (W : Wf σ) {N : zM} (hd : ∀ l, l < sL σ → wdone σ (dnA σ (-1) (-1)) N l) : ∀ l, l < sL σ → ∀ j, j < 8 → lb (N.2 34 l) j = vC σ (sB σ) l j := fun l hl j hj => by
  rw [(hd l hl).2 j hj, vC_dn W (dnA_B W) hl]
theorem sX6_ws {σ : Sg} {N : zM} (W : Wf σ) (Y : RM σ N) (A : Al N (-1) (-1)) {r : Nat} (hr : r < 12) {post : zM → Prop} (h : ∀ N', KM N N' → (∀ l, l < sL σ → ∀ j, j < 8 → lb (N'.2 34 l) j = vC σ (sB σ) l j) → YS σ (sB σ) (frK σ (sB σ) r) (frF σ (sB σ) r) N' → post N') : pX6_work N (fun N1 => pX6_study N1 (nI r) post) :=
  sX6_work W Y A (fun N1 hK hd => sX6_study W (Y.K hK.m) (wvec W hd) hr (fun N2 hK2 S => h N2 (hK.m.tr hK2.m) (fun l hl j hj => by rw [hK2.2.2]; exact wcar W hd l hl j hj) S))
theorem cs_rank {σ : Sg} {M N : zM} (R : Rel σ M N) (x1 : Int32) {post : Int32 → zM → Int32 → zM → Prop} (h : ∀ r σ' M' N', Rel σ' M' N' → post r M' r N') : pX5_rank M x1 (fun r M1 => pX6_rank N x1 (fun r' N1 => post r M1 r' N1)) := by
  have R0 := R
  obtain ⟨W, X, Y, A⟩ := R
  have hR := W.1
  unfold pX5_rank pX6_rank pX5_rank_b22 pX6_rankOf
  rcases ix3 x1 (n := sR σ) (by omega) with hx | ⟨r, hr, rfl⟩
  · exact sX5_refusalOf_f X hx ⟨fun q => absurd q (by decide), fun _ => sX6_isRelay_f W Y hx (eq00' (h _ σ _ _ R0))⟩
  · by_cases h0 : r = 0
    · subst h0
      exact sX5_refusalOf_0 W X ⟨fun q => absurd q (by decide), fun _ => sX6_isRelay_t W Y hr (ne01 ⟨fun q => absurd rfl q, fun _ => h _ σ _ _ R0⟩)⟩
    · refine sX5_refusalOf_t W X hr h0 ⟨fun _ => sX3_rankNow W X (by omega) (fun M' hK S => ?_), fun q => absurd rfl q⟩
      refine sX6_isRelay_t W Y hr (ne01 ⟨fun _ => sX6_ws W Y A (by omega) (fun N' hK' hC S' => ?_), fun q => absurd q (nI_n0 (by omega) h0)⟩)
      obtain ⟨pv', u', la, S1, _⟩ := S'
      rw [S1.2.2.2.2.2]
      exact h _ σ _ _ (R0.K hK hK')
theorem cs_fresh {σ : Sg} {M N : zM} (R : Rel σ M N) (x1 x2 : Int32) {post : Int32 → zM → Int32 → zM → Prop} (h : ∀ r σ' M' N', Rel σ' M' N' → post r M' r N') : pX5_fresh M x1 x2 (fun r M1 => pX6_fresh N x1 x2 (fun r' N1 => post r M1 r' N1)) := by
  have R0 := R
  obtain ⟨W, X, Y, A⟩ := R
  have hR := W.1
  have hH := W.2.2.1
  unfold pX5_fresh pX5_fresh_b13 pX5_fresh_b49
  by_cases h2 : 0 ≤ x2
  · obtain ⟨i, hi, rfl⟩ := x_nn h2
    refine ⟨fun _ => ?_, fun q => absurd h2 q⟩
    rcases ix3 x1 (n := sR σ) (by omega) with hx | ⟨r, hr, rfl⟩
    · unfold pX6_fresh pX6_fresh_b12
      exact sX5_refusalOf_f X hx ⟨fun q => absurd q (by decide), fun _ => sX6_isRelay_f W Y hx (eq00 (h _ σ _ _ R0))⟩
    · by_cases h0 : r = 0
      · subst h0
        unfold pX6_fresh
        exact sX5_refusalOf_0 W X ⟨fun q => absurd q (by decide), fun _ => sX6_isRelay_t W Y hr (ne10 ⟨fun _ => ⟨fun q => absurd rfl q, fun _ => h _ σ _ _ R0⟩, fun q => absurd h2 q⟩)⟩
      · refine sX5_refusalOf_t W X hr h0 ⟨fun _ => sX3_rankNow W X (by omega) (fun M' hK S => ?_), fun q => absurd rfl q⟩
        obtain ⟨pv, u, E, T, hrow, hsz, hnew⟩ := S
        have hk := EL_k E.1
        have go : ∀ a, (frK σ (sB σ) r ≤ i → a = (-1 : Int32)) → (i < frK σ (sB σ) r → a = nI (frF σ (sB σ) r i)) → pX6_fresh N (nI r) (nI i) (fun r' N1 => post a M' r' N1) := by
          intro a ha1 ha2
          unfold pX6_fresh pX6_fresh_b44 pX6_rankOf
          refine sX6_isRelay_t W Y hr (ne10 ⟨fun _ => ⟨fun _ => sX6_ws W Y A (by omega) (fun N' hK' hC S' => ?_), fun q => absurd q (nI_n0 (by omega) h0)⟩, fun q => absurd h2 q⟩)
          obtain ⟨pv', u', la, S1, S2⟩ := S'
          rw [S1.2.2.2.2.2, nI_clamp (n := i) hi]
          refine le2 (by omega) hi (fun e => ?_) (fun e => ⟨vp_in_nI (by omega) (by decide), ?_⟩)
          · rw [ha1 e]; exact h _ σ _ _ (R0.K hK hK')
          · rw [ha2 e, S2 i e]; exact h _ σ _ _ (R0.K hK hK')
        refine lt2 hi (by omega) (fun e => ⟨vp_in_nI (by omega) (by decide), ?_⟩) (fun e => ?_)
        · rw [nI_clamp hi, hnew i e]
          exact go _ (fun q => by omega) (fun _ => rfl)
        · exact go _ (fun _ => rfl) (fun q => by omega)
  · refine ⟨fun q => absurd q h2, fun _ => ⟨fun q => absurd q (by decide), fun _ => ?_⟩⟩
    unfold pX6_fresh pX6_fresh_b12
    rcases ix3 x1 (n := sR σ) (by omega) with hx | ⟨r, hr, rfl⟩
    · exact sX6_isRelay_f W Y hx (eq00 (h _ σ _ _ R0))
    · exact sX6_isRelay_t W Y hr (ne10 ⟨fun q => absurd q h2, fun _ => h _ σ _ _ R0⟩)
theorem sX5_refusal2_p {σ : Sg} {M : zM} (X : RX σ M) {x1 x2 : Int32} (hx : x2 < 0 ∨ nI (sH σ) ≤ x2) {post : Int32 → Prop} (h : post (-1)) : pX5_refusalOf_ M x1 x2 post := by
  unfold pX5_refusalOf_ pX5_refusalOf__b20
  exact sX2_isPiece_f X hx (eq00 h)
theorem sX5_refusal2 {σ : Sg} {M : zM} (W : Wf σ) (X : RX σ M) {x1 : Int32} {p : Nat} (hp : p < sH σ) {post : Int32 → Prop} (h : pX5_refusalOf M x1 post) : pX5_refusalOf_ M x1 (nI p) post := by
  unfold pX5_refusalOf_ pX5_refusalOf__b20
  exact sX2_isPiece_t W X hp (ne10 h)
theorem cs_solves {σ : Sg} {M N : zM} (R : Rel σ M N) (x1 x2 : Int32) {post : Int32 → zM → Int32 → zM → Prop} (h : ∀ r σ' M' N', Rel σ' M' N' → post r M' r N') : pX5_solves M x1 x2 (fun r M1 => pX6_solves N x1 x2 (fun r' N1 => post r M1 r' N1)) := by
  have R0 := R
  obtain ⟨W, X, Y, A⟩ := R
  have hR := W.1
  have hH := W.2.2.1
  unfold pX5_solves pX6_solves pX6_solves_b22 pX6_solves_b53
  rcases ix3 x2 (n := sH σ) (by omega) with hx2 | ⟨p, hp, rfl⟩
  · refine sX5_refusal2_p X hx2 ⟨fun q => absurd q (by decide), fun _ => ?_⟩
    rcases ix3 x1 (n := sR σ) (by omega) with hx | ⟨r, hr, rfl⟩
    · exact sX6_isRelay_f W Y hx (eq00 (h _ σ _ _ R0))
    · exact sX6_isRelay_t W Y hr (ne10 (sX6_isPiece_f W Y hx2 (eq00' (h _ σ _ _ R0))))
  · refine sX5_refusal2 W X hp ?_
    rcases ix3 x1 (n := sR σ) (by omega) with hx | ⟨r, hr, rfl⟩
    · exact sX5_refusalOf_f X hx ⟨fun q => absurd q (by decide), fun _ => sX6_isRelay_f W Y hx (eq00 (h _ σ _ _ R0))⟩
    · by_cases h0 : r = 0
      · subst h0
        exact sX5_refusalOf_0 W X ⟨fun q => absurd q (by decide), fun _ => sX6_isRelay_t W Y hr (ne10 (sX6_isPiece_t W Y hp (ne01 ⟨fun q => absurd rfl q, fun _ => h _ σ _ _ R0⟩)))⟩
      · refine sX5_refusalOf_t W X hr h0 ⟨fun _ => sX3_rankNow W X (by omega) (fun M' hK S => ?_), fun q => absurd rfl q⟩
        obtain ⟨pv, u, E, T, hrow, hsz, hnew⟩ := S
        refine sX3_worksOut W E hrow hp (fun hin => sX5_asFlag1 ?_) (fun hin => sX5_asFlag0 ?_)
        · refine sX6_isRelay_t W Y hr (ne10 (sX6_isPiece_t W Y hp (ne01 ⟨fun _ => sX6_ws W Y A (by omega) (fun N' hK' hC S' => ?_), fun q => absurd q (nI_n0 (by omega) h0)⟩)))
          obtain ⟨pv', u', la, S1, S2⟩ := S'
          exact sX6_solvesFor (by omega) (Y.K hK').1.2.2 S1 hp (fun _ N2 hK2 _ => ne10 (h _ σ _ _ (R0.K hK (hK'.tr hK2.t.m)))) (fun q => absurd hin q)
        · refine sX6_isRelay_t W Y hr (ne10 (sX6_isPiece_t W Y hp (ne01 ⟨fun _ => sX6_ws W Y A (by omega) (fun N' hK' hC S' => ?_), fun q => absurd q (nI_n0 (by omega) h0)⟩)))
          obtain ⟨pv', u', la, S1, S2⟩ := S'
          exact sX6_solvesFor (by omega) (Y.K hK').1.2.2 S1 hp (fun q => absurd q hin) (fun _ N2 hK2 => eq00 (h _ σ _ _ (R0.K hK (hK'.tr hK2.t.m))))
theorem key_eq {h k : Nat} {V : Nat → Nat → Nat} {pv pv' : Nat → Bool} {u u' : Nat → Nat → Nat} (E : EX h k V pv u) (E' : EX h k V pv' u') {p : Nat} (hp : p < h) (hin : inSp h k V (eP p)) {i : Nat} (hi : i < k) : u' p (4 + i) = u p (4 + i) :=
  EL_uniq E'.1 E.1 hp (fun q hq => by rw [(EL_e E.1 hp).mp hin q hq, (EL_e E'.1 hp).mp hin q hq]) i hi
theorem cs_key {σ : Sg} {M N : zM} (R : Rel σ M N) (x1 x2 x3 : Int32) {post : Int32 → zM → Int32 → zM → Prop} (h : ∀ r σ' M' N', Rel σ' M' N' → post r M' r N') : pX5_key M x1 x2 x3 (fun r M1 => pX6_key N x1 x2 x3 (fun r' N1 => post r M1 r' N1)) := by
  have R0 := R
  obtain ⟨W, X, Y, A⟩ := R
  have hR := W.1
  have hH := W.2.2.1
  unfold pX5_key pX5_key_b14 pX5_key_b51
  by_cases h3 : 0 ≤ x3
  · obtain ⟨i, hi, rfl⟩ := x_nn h3
    refine ⟨fun _ => ?_, fun q => absurd h3 q⟩
    rcases ix3 x2 (n := sH σ) (by omega) with hx2 | ⟨p, hp, rfl⟩
    · refine sX5_refusal2_p X hx2 ⟨fun q => absurd q (by decide), fun _ => ?_⟩
      unfold pX6_key pX6_key_b26
      rcases ix3 x1 (n := sR σ) (by omega) with hx | ⟨r, hr, rfl⟩
      · exact sX6_isRelay_f W Y hx (eq00 (h _ σ _ _ R0))
      · exact sX6_isRelay_t W Y hr (ne10 (sX6_isPiece_f W Y hx2 (eq00 (h _ σ _ _ R0))))
    · refine sX5_refusal2 W X hp ?_
      rcases ix3 x1 (n := sR σ) (by omega) with hx | ⟨r, hr, rfl⟩
      · unfold pX6_key pX6_key_b26
        exact sX5_refusalOf_f X hx ⟨fun q => absurd q (by decide), fun _ => sX6_isRelay_f W Y hx (eq00 (h _ σ _ _ R0))⟩
      · by_cases h0 : r = 0
        · subst h0
          unfold pX6_key
          exact sX5_refusalOf_0 W X ⟨fun q => absurd q (by decide), fun _ => sX6_isRelay_t W Y hr (ne10 (sX6_isPiece_t W Y hp (ne10 ⟨fun _ => ⟨fun q => absurd rfl q, fun _ => h _ σ _ _ R0⟩, fun q => absurd h3 q⟩)))⟩
        · refine sX5_refusalOf_t W X hr h0 ⟨fun _ => sX3_rankNow W X (by omega) (fun M' hK S => ?_), fun q => absurd rfl q⟩
          obtain ⟨pv, u, E, T, hrow, hsz, hnew⟩ := S
          have hk := EL_k E.1
          have go : ∀ a : Int32, ((¬ inSp (sH σ) (frK σ (sB σ) r) (fun i => vV σ (sB σ) (frF σ (sB σ) r i)) (eP p) ∨ frK σ (sB σ) r ≤ i) → a = -1) → (inSp (sH σ) (frK σ (sB σ) r) (fun i => vV σ (sB σ) (frF σ (sB σ) r i)) (eP p) → i < frK σ (sB σ) r → a = nI (u p (4 + i))) → pX6_key N (nI r) (nI p) (nI i) (fun r' N1 => post a M' r' N1) := by
            intro a ha1 ha2
            unfold pX6_key pX6_key_b71 pX6_key_b72
            refine sX6_isRelay_t W Y hr (ne10 (sX6_isPiece_t W Y hp (ne10 ⟨fun _ => ⟨fun _ => sX6_ws W Y A (by omega) (fun N' hK' hC S' => ?_), fun q => absurd q (nI_n0 (by omega) h0)⟩, fun q => absurd h3 q⟩)))
            obtain ⟨pv', u', la, S1, S2⟩ := S'
            refine sX6_solvesFor (by omega) (Y.K hK').1.2.2 S1 hp (fun hin N2 hK2 hrow2 => ne10 ?_) (fun hin N2 hK2 => eq00 ?_)
            · have h22 : N2.1 21 22 = nI (frK σ (sB σ) r) := by rw [hK2.1 21 (by decide)]; exact S1.2.2.2.2.2
              rw [h22]
              refine le2 (by omega) hi (fun e => ?_) (fun e => ?_)
              · rw [ha1 (Or.inr e)]; exact h _ σ _ _ (R0.K hK (hK'.tr hK2.t.m))
              · rw [ofs4', nI_clamp (by omega), hrow2 i e, ha2 hin e, key_eq E S1.1 hp hin e]
                exact ⟨vp_in_nI (by omega) (by decide), h _ σ _ _ (R0.K hK (hK'.tr hK2.t.m))⟩
            · rw [ha1 (Or.inl hin)]; exact h _ σ _ _ (R0.K hK (hK'.tr hK2.t.m))
          refine sX3_worksOut W E hrow hp (fun hin => ne10 (lt2 hi (by omega) (fun e => sX3_keyNumber W hrow hp (by omega) (go _ (fun q => ?_) (fun _ _ => rfl))) (fun e => go _ (fun _ => rfl) (fun _ q => by omega)))) (fun hin => eq00 (go _ (fun _ => rfl) (fun q => absurd q hin)))
          rcases q with q | q
          · exact absurd hin q
          · omega
  · refine ⟨fun q => absurd q h3, fun _ => ⟨fun q => absurd q (by decide), fun _ => ?_⟩⟩
    unfold pX6_key pX6_key_b26
    rcases ix3 x1 (n := sR σ) (by omega) with hx | ⟨r, hr, rfl⟩
    · exact sX6_isRelay_f W Y hx (eq00 (h _ σ _ _ R0))
    · rcases ix3 x2 (n := sH σ) (by omega) with hx2 | ⟨p, hp, rfl⟩
      · exact sX6_isRelay_t W Y hr (ne10 (sX6_isPiece_f W Y hx2 (eq00 (h _ σ _ _ R0))))
      · exact sX6_isRelay_t W Y hr (ne10 (sX6_isPiece_t W Y hp (ne10 ⟨fun q => absurd q h3, fun _ => h _ σ _ _ R0⟩)))
theorem cs_gets {σ : Sg} {M N : zM} (R : Rel σ M N) (x1 x2 : Int32) {post : Int64 → zM → Int64 → zM → Prop} (h : ∀ r σ' M' N', Rel σ' M' N' → post r M' r N') : pX5_gets M x1 x2 (fun r M1 => pX6_gets N x1 x2 (fun r' N1 => post r M1 r' N1)) := by
  have R0 := R
  obtain ⟨W, X, Y, A⟩ := R
  have hR := W.1
  have hH := W.2.2.1
  unfold pX5_gets pX6_gets pX6_gets_b26
  rcases ix3 x2 (n := sH σ) (by omega) with hx2 | ⟨p, hp, rfl⟩
  · refine sX5_refusal2_p X hx2 ⟨fun q => absurd q (by decide), fun _ => ?_⟩
    rcases ix3 x1 (n := sR σ) (by omega) with hx | ⟨r, hr, rfl⟩
    · exact sX6_isRelay_f W Y hx (eq00 (h _ σ _ _ R0))
    · exact sX6_isRelay_t W Y hr (ne10 ⟨fun _ => h _ σ _ _ R0, fun _ => sX6_isPiece_f W Y hx2 (eq00' (h _ σ _ _ R0))⟩)
  · refine sX5_refusal2 W X hp ?_
    rcases ix3 x1 (n := sR σ) (by omega) with hx | ⟨r, hr, rfl⟩
    · exact sX5_refusalOf_f X hx ⟨fun q => absurd q (by decide), fun _ => sX6_isRelay_f W Y hx (eq00 (h _ σ _ _ R0))⟩
    · by_cases h0 : r = 0
      · subst h0
        exact sX5_refusalOf_0 W X ⟨fun q => absurd q (by decide), fun _ => sX6_isRelay_t W Y hr (ne10 ⟨fun _ => h _ σ _ _ R0, fun q => absurd rfl q⟩)⟩
      · refine sX5_refusalOf_t W X hr h0 ⟨fun _ => sX3_rankNow W X (by omega) (fun M' hK S => ?_), fun q => absurd rfl q⟩
        obtain ⟨pv, u, E, T, hrow, hsz, hnew⟩ := S
        refine sX3_worksOut W E hrow hp (fun hin => ne01 (sX2_spreadBytes W (X.K hK) (fun M2 hK2 hC2 => ?_))) (fun hin => eq00' ?_)
        · refine sX3_bytesFor W E.1.1.1 (EL_k E.1) (fun p q h1 h2 => by rw [hK2.2 17 (by decide)]; exact hrow p q h1 h2) (by rw [hK2.1]; exact hsz) (fun i hi => by rw [hK2.1]; exact hnew i hi) (fun i hi => frF_lt hi) hp (fun y hy => ?_)
          refine sX6_isRelay_t W Y hr (ne10 ⟨fun q => absurd q (nI_n0 (by omega) h0), fun _ => sX6_isPiece_t W Y hp (ne01 (sX6_ws W Y A (by omega) (fun N' hK' hC S' => ?_)))⟩)
          obtain ⟨pv', u', la, S1, S2⟩ := S'
          refine sX6_getsOf W (Y.K hK').1.2.2 S1 S2 (fun i hi => frF_lt hi) hp (fun _ N2 y' hK3 hy' => ?_) (fun q => absurd hin q)
          have e : y' = y := lb_ext (fun j hj => by
            rw [hy j hj, hy' j hj]
            refine gs_cong (fun i hi => ?_)
            rw [key_eq E S1.1 hp hin hi, hC _ (frF_lt hi) j hj, hC2 _ (frF_lt hi) j hj])
          rw [e]
          exact h _ σ _ _ (R0.K (hK.tr (hK2.x (by decide))) (hK'.tr hK3.t.m))
        · refine sX6_isRelay_t W Y hr (ne10 ⟨fun q => absurd q (nI_n0 (by omega) h0), fun _ => sX6_isPiece_t W Y hp (ne01 (sX6_ws W Y A (by omega) (fun N' hK' hC S' => ?_)))⟩)
          obtain ⟨pv', u', la, S1, S2⟩ := S'
          exact sX6_getsOf W (Y.K hK').1.2.2 S1 S2 (fun i hi => frF_lt hi) hp (fun q => absurd q hin) (fun _ N2 hK3 => h _ σ _ _ (R0.K hK (hK'.tr hK3.t.m)))
