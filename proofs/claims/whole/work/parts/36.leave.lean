/-! leave -/
noncomputable def fst1 (P : Nat → Prop) : Nat → Nat
  | 0 => 0
  | n + 1 => if fst1 P n < n then fst1 P n else @ite _ (P n) (Classical.propDecidable _) n (n + 1)
theorem fst1_f {P : Nat → Prop} : ∀ {n : Nat}, (∀ t, t < n → ¬ P t) → fst1 P n = n
  | 0, _ => rfl
  | n + 1, h => by
    have ih := fst1_f (P := P) (n := n) (fun t ht => h t (by omega))
    show (if fst1 P n < n then fst1 P n else @ite _ (P n) (Classical.propDecidable _) n (n + 1)) = n + 1
    rw [if_neg (by omega), if_neg (h n (by omega))]
theorem fst1_t {P : Nat → Prop} {i : Nat} (hp : P i) (hz : ∀ t, t < i → ¬ P t) : ∀ {n : Nat}, i < n → fst1 P n = i
  | 0, h => by omega
  | n + 1, h => by
    show (if fst1 P n < n then fst1 P n else @ite _ (P n) (Classical.propDecidable _) n (n + 1)) = i
    rcases (show i < n ∨ i = n by omega) with e | e
    · rw [fst1_t hp hz e, if_pos e]
    · subst e
      rw [if_neg (by rw [fst1_f hz]; omega), if_pos hp]
theorem frK_le {σ : Sg} {dn : Nat → Bool} {r : Nat} {M : zM} (S : XS σ dn (frK σ dn r) (frF σ dn r) M) : frK σ dn r ≤ sH σ := by
  obtain ⟨_, _, E, _⟩ := S
  exact EL_k E.1
def holdR (σ : Sg) (rk : Nat → Nat) : Prop := ∀ r, r < sR σ → sE σ r = true → frK σ (sB σ) r = rk r
def KSR (M M' : zM) : Prop := (∀ c, c ≠ 3 → c ≠ 18 → c ≠ 20 → M'.1 c = M.1 c) ∧ ∀ c, c ≠ 17 → M'.2 c = M.2 c
theorem KSR.x {M M' : zM} (h : KSR M M') : KX M M' := ⟨fun a ha => h.1 a (by omega) (by omega) (by omega), fun a ha => h.2 a (by omega)⟩
theorem sX1_noteRanks {σ : Sg} {M : zM} (W : Wf σ) (X : RX σ M) {post : zM → Prop} (h : ∀ M', KX M M' → (∀ r, r < sR σ → sE σ r = true → M'.1 20 r = nI (frK σ (sB σ) r) ∧ frK σ (sB σ) r ≤ 4) → post M') : pX1_noteRanks M post := by
  have hR := W.1
  have hH := W.2.2.1
  unfold pX1_noteRanks
  refine sX2_spreadVectors W X (fun l hl => X.2.2.2.1 l (by omega)) (fun M1 hK1 hv1 => ?_)
  have X1 := X.K (hK1.x (by decide))
  unfold pX1_noteRanks_L16
  refine ⟨fun n x1 M2 => ∃ r, 1 ≤ r ∧ r ≤ sR σ ∧ n = sR σ - r ∧ x1 = nI r ∧ KSR M1 M2 ∧ ∀ t, 1 ≤ t → t < r → M2.1 20 t = nI (frK σ (sB σ) t) ∧ frK σ (sB σ) t ≤ 4, ⟨sR σ - 1, 1, by omega, by omega, rfl, rfl, ⟨fun _ _ _ _ => rfl, fun _ _ => rfl⟩, fun t a b => by omega⟩, ?_⟩
  rintro n x1 M2 ⟨r, hr1, hr, hn, rfl, hK2, hv⟩
  have X2 := X1.K hK2.x
  unfold pX1_noteRanks_b16
  rw [X2.1.1]
  refine lp (by omega) hr (fun e => ?_) (fun hr2 => sX3_gather W X2 (fun l hl j hj => by rw [hK2.2 14 (by decide)]; exact hv1 l hl j hj) (by omega) (fun M3 hK3 S => ?_))
  · subst e
    exact h M2 ((hK1.x (by decide)).tr hK2.x) (fun t ht he => hv t (W.2.2.2.2.2.1 t he).1 ht)
  · have hk := frK_le S
    rw [nI_clamp (by omega)]
    refine ⟨vp_in_nI (by omega) (by decide), sR σ - (r + 1), by omega, r + 1, by omega, by omega, rfl, nI_1 r, ⟨fun c a b d => ?_, fun c hc => ?_⟩, fun t a b => ?_⟩
    · show (zsi M3 20 r _).1 c = _
      have : (zsi M3 20 r (nI (frK σ (sB σ) r))).1 c = M3.1 c := by simp [zsi, zri, d]
      rw [this, hK3.1 c a b, hK2.1 c a b d]
    · show M3.2 c = _
      rw [hK3.2 c hc, hK2.2 c hc]
    · show upd (M3.1 20) r _ t = _ ∧ _
      by_cases e : t = r
      · rw [e, pk_us]; exact ⟨rfl, by omega⟩
      · rw [pk_un e, hK3.1 20 (by decide) (by decide)]; exact hv t a (by omega)
theorem sX1_ranksHold {σ : Sg} {M : zM} (W : Wf σ) (X : RX σ M) {rk : Nat → Nat} (h20 : ∀ r, r < sR σ → sE σ r = true → M.1 20 r = nI (rk r) ∧ rk r ≤ 4) {post : Int32 → zM → Prop}
    (ht : holdR σ rk → ∀ M', KX M M' → M'.1 19 = M.1 19 → M'.1 20 = M.1 20 → post 1 M') (hf : ¬ holdR σ rk → ∀ M', KX M M' → M'.1 19 = M.1 19 → M'.1 20 = M.1 20 → post 0 M') : pX1_ranksHold M post := by
  have hR := W.1
  have hH := W.2.2.1
  unfold pX1_ranksHold
  refine sX2_spreadVectors W X (fun l hl => X.2.2.2.1 l (by omega)) (fun M1 hK1 hv1 => ?_)
  have X1 := X.K (hK1.x (by decide))
  unfold pX1_ranksHold_L16
  refine ⟨fun n x1 M2 => ∃ r, 1 ≤ r ∧ r ≤ sR σ ∧ n = sR σ - r ∧ x1 = nI r ∧ KS M1 M2 ∧ ∀ t, 1 ≤ t → t < r → sE σ t = true → frK σ (sB σ) t = rk t, ⟨sR σ - 1, 1, by omega, by omega, rfl, rfl, KS.rf, fun t a b => by omega⟩, ?_⟩
  rintro n x1 M2 ⟨r, hr1, hr, hn, rfl, hK2, hz⟩
  have X2 := X1.K hK2.x
  have f19 : ∀ M3, KS M2 M3 → M3.1 19 = M.1 19 ∧ M3.1 20 = M.1 20 ∧ KX M M3 := fun M3 hK3 => ⟨by rw [hK3.1 19 (by decide) (by decide), hK2.1 19 (by decide) (by decide), hK1.1], by rw [hK3.1 20 (by decide) (by decide), hK2.1 20 (by decide) (by decide), hK1.1], (hK1.x (by decide)).tr (hK2.tr hK3).x⟩
  unfold pX1_ranksHold_b16 pX1_ranksHold_b61
  rw [X2.1.1]
  refine lp (by omega) hr (fun e => ⟨Or.inr rfl, ?_⟩) (fun hr2 => sX5_flag (by omega) ?_)
  · subst e
    obtain ⟨a, b, c⟩ := f19 M2 KS.rf
    exact ht (fun t h1 h2 => hz t (W.2.2.2.2.2.1 t h2).1 h1 h2) M2 c a b
  · rw [X2.2.1 r (by omega)]
    refine bI_e1 (fun he => sX3_gather W X2 (fun l hl j hj => by rw [hK2.2 14 (by decide)]; exact hv1 l hl j hj) (by omega) (fun M3 hK3 S => ?_)) (fun he => ⟨sR σ - (r + 1), by omega, r + 1, by omega, by omega, rfl, nI_1 r, hK2, fun t a b c => ?_⟩)
    · have hk := frK_le S
      obtain ⟨a, b, c⟩ := f19 M3 hK3
      obtain ⟨h1, h2⟩ := h20 r hr2 he
      rw [nI_clamp (by omega), b, h1]
      refine ⟨vp_in_nI (by omega) (by decide), nI_eI (by omega) (by omega) (fun e => ⟨sR σ - (r + 1), by omega, r + 1, by omega, by omega, rfl, nI_1 r, hK2.tr hK3, fun t a' b' c' => ?_⟩) (fun e => ⟨Or.inl rfl, hf (fun q => e (q r hr2 he)) M3 c a b⟩)⟩
      rcases (show t < r ∨ t = r by omega) with z | z
      · exact hz t a' z c'
      · rw [z]; exact e
    · rcases (show t < r ∨ t = r by omega) with z | z
      · exact hz t a z c
      · rw [z, he] at c; cases c
def uA (A : Nat → Nat) (l n i k : Nat) : Nat := if 30 * l ≤ k ∧ k < 30 * l + n then (if k = 30 * l + i then 1 else 0) else A k
theorem uA_lt {A : Nat → Nat} (hA : ∀ k, A k < 256) {l n i : Nat} : ∀ k, uA A l n i k < 256 := fun k => by
  unfold uA
  split
  · split <;> omega
  · exact hA k
theorem sJ7_fill10 {M : zM} {a b : Nat} (hab : a ≤ b) (hb : b ≤ 900) {v : Int32} {post : zM → Prop} (h : ∀ M', KI 10 M M' → (∀ k, M'.1 10 k = if a ≤ k ∧ k < b then v else M.1 10 k) → post M') : pJ7_fill_fda19_10 M (nI a) (nI b) v post := by
  unfold pJ7_fill_fda19_10 pJ7_rangeCheck_23922
  have e1 : nI a ≤ nI b := (nI_leI (by omega) (by omega)).mpr hab
  have e2 : (0 : Int32) ≤ nI a := nI_pos' (by omega)
  have e3 : nI b ≤ (900 : Int32) := (nI_leI (b := 900) (by omega) (by omega)).mpr hb
  refine ⟨fun _ => ⟨fun _ => ⟨fun _ => ?_, fun q => absurd e3 q⟩, fun q => absurd e2 q⟩, fun q => absurd e1 q⟩
  unfold pJ7_fill_fda19_10_L10
  refine ⟨fun n x2 x3 x4 M1 => ∃ c, a ≤ c ∧ c ≤ b ∧ n = b - c ∧ x2 = nI b ∧ x3 = v ∧ x4 = nI c ∧ KI 10 M M1 ∧ ∀ k, M1.1 10 k = if a ≤ k ∧ k < c then v else M.1 10 k, ⟨b - a, a, Nat.le_refl _, hab, rfl, rfl, rfl, rfl, KI.rf, fun k => by rw [if_neg (by omega)]⟩, ?_⟩
  rintro n x2 x3 x4 M1 ⟨c, hc1, hc, hn, rfl, rfl, rfl, hK, hv⟩
  unfold pJ7_fill_fda19_10_b10
  refine lp (by omega) hc (fun e => by subst e; exact h M1 hK hv) (fun hc2 => ?_)
  rw [nI_clamp (by omega)]
  refine ⟨vp_in_nI (by omega) (by decide), b - (c + 1), by omega, c + 1, by omega, by omega, rfl, rfl, rfl, nI_1 c, hK.tr KI.si, fun k => ?_⟩
  show upd (M1.1 10) c _ k = _
  by_cases e : k = c
  · rw [e, pk_us, if_pos (by omega)]
  · rw [pk_un e, hv k]
    by_cases e4 : a ≤ k ∧ k < c
    · rw [if_pos e4, if_pos (by omega)]
    · rw [if_neg e4, if_neg (by omega)]
theorem sX1_unmix {σ : Sg} {A : Nat → Nat} {M : zM} (W : Wf σ) (hA : ∀ k, A k < 256) (X : RX (withA σ A) M) {rk : Nat → Nat} (h20 : ∀ r, r < sR σ → sE σ r = true → M.1 20 r = nI (rk r) ∧ rk r ≤ 4) {l : Nat} (hl : l < sL σ) {post : Int32 → zM → Prop}
    (ht : ∀ i, i < ins σ l → holdR (withA σ (uA A l (ins σ l) i)) rk → (∀ t, t < i → ¬ holdR (withA σ (uA A l (ins σ l) t)) rk) → ∀ M', RX (withA σ (uA A l (ins σ l) i)) M' → M'.1 20 = M.1 20 → post 1 M')
    (hf : (∀ t, t < ins σ l → ¬ holdR (withA σ (uA A l (ins σ l) t)) rk) → ∀ M', RX (withA σ A) M' → M'.1 20 = M.1 20 → post 0 M') : pX1_unmix M (nI l) post := by
  have hL := W.2.1
  have hi30 := ins_le W l
  have WA := withA_Wf W hA
  unfold pX1_unmix
  refine sX5_slot (b := 0) (sX2_insOf WA X hl ?_)
  show ¬ (nI (30 * l + 0) < 0) ∧ ¬ (nI (30 * l + 0) < 0) ∧ ¬ (nI (ins σ l) < 0) ∧ (nI (30 * l + 0)).toNatClampNeg + (nI (ins σ l)).toNatClampNeg ≤ 900 ∧ (nI (30 * l + 0)).toNatClampNeg + (nI (ins σ l)).toNatClampNeg ≤ 900 ∧ pX1_unmix_L35 post (nI (30 * l + 0)) (nI (ins σ l)) 0 (zri M 19 (va_cpy (M.1 10) (M.1 19) (nI (30 * l + 0)).toNatClampNeg (nI (30 * l + 0)).toNatClampNeg (nI (ins σ l)).toNatClampNeg))
  rw [Nat.add_zero, nI_clamp (n := 30 * l) (by omega), nI_clamp (n := ins σ l) (by omega)]
  refine ⟨nI_pos (by omega), nI_pos (by omega), nI_pos (by omega), by omega, by omega, ?_⟩
  have hs : ∀ k, 30 * l ≤ k → k < 30 * l + ins σ l → (zri M 19 (va_cpy (M.1 10) (M.1 19) (30 * l) (30 * l) (ins σ l))).1 19 k = nI (A k) := by
    intro k h1 h2
    show va_cpy (M.1 10) (M.1 19) (30 * l) (30 * l) (ins σ l) k = _
    unfold va_cpy
    rw [if_pos (by omega), show 30 * l + (k - 30 * l) = k by omega]
    exact X.2.2.2.2.2.2.2.1 k (by omega)
  have X0 : RX (withA σ A) (zri M 19 (va_cpy (M.1 10) (M.1 19) (30 * l) (30 * l) (ins σ l))) := X
  have k20 : (zri M 19 (va_cpy (M.1 10) (M.1 19) (30 * l) (30 * l) (ins σ l))).1 20 = M.1 20 := rfl
  generalize zri M 19 (va_cpy (M.1 10) (M.1 19) (30 * l) (30 * l) (ins σ l)) = M0 at hs X0 k20 ⊢
  unfold pX1_unmix_L35
  refine ⟨fun n x2 x3 x4 M1 => ∃ i A', i ≤ ins σ l ∧ n = ins σ l - i ∧ x2 = nI (30 * l) ∧ x3 = nI (ins σ l) ∧ x4 = nI i ∧ RX (withA σ A') M1 ∧ (∀ k, ¬ (30 * l ≤ k ∧ k < 30 * l + ins σ l) → A' k = A k) ∧ M1.1 19 = M0.1 19 ∧ M1.1 20 = M.1 20 ∧ ∀ t, t < i → ¬ holdR (withA σ (uA A l (ins σ l) t)) rk, ⟨ins σ l, 0, A, by omega, rfl, rfl, rfl, rfl, X0, fun _ _ => rfl, rfl, k20, fun t q => by omega⟩, ?_⟩
  rintro n x2 x3 x4 M1 ⟨i, A', hi, hn, rfl, rfl, rfl, X1, hA', k19, k20', hz⟩
  unfold pX1_unmix_b35
  refine lp (by omega) hi (fun e => ?_) (fun hi2 => ?_)
  · rw [nI_clamp (n := 30 * l) (by omega), nI_clamp (n := ins σ l) (by omega)]
    refine ⟨nI_pos (by omega), nI_pos (by omega), nI_pos (by omega), by omega, by omega, Or.inl rfl, hf (fun t q => hz t (by omega)) _ ?_ k20'⟩
    refine X1.A (A' := A) (fun c hc => ?_) (fun c hc => rfl) (fun k hk => ?_)
    · have : c ≠ 10 := by omega
      simp [zri, this]
    · show va_cpy (M1.1 19) (M1.1 10) (30 * l) (30 * l) (ins σ l) k = _
      unfold va_cpy
      by_cases e2 : 30 * l ≤ k ∧ k < 30 * l + ins σ l
      · rw [if_pos e2, show 30 * l + (k - 30 * l) = k by omega, k19]; exact hs k e2.1 e2.2
      · rw [if_neg e2, X1.2.2.2.2.2.2.2.1 k hk, ← hA' k e2]; rfl
  · rw [show nI (30 * l) + nI (ins σ l) = nI (30 * l + ins σ l) from nI_add _ _, show nI (30 * l) + nI i = nI (30 * l + i) from nI_add _ _]
    refine sJ7_fill10 (by omega) (by omega) (fun M2 hK2 hv2 => ⟨vp_in_nI (by omega) (by decide), ?_⟩)
    rw [nI_clamp (by omega)]
    have hU : RX (withA σ (uA A l (ins σ l) i)) (zsi M2 10 (30 * l + i) 1) := by
      refine X1.Ai (hK2.tr KI.si) (fun k hk => ?_)
      show upd (M2.1 10) (30 * l + i) 1 k = nI (uA A l (ins σ l) i k)
      unfold uA
      by_cases e : k = 30 * l + i
      · rw [e, pk_us, if_pos (by omega), if_pos rfl]; rfl
      · rw [pk_un e, hv2 k]
        by_cases e2 : 30 * l ≤ k ∧ k < 30 * l + ins σ l
        · rw [if_pos e2, if_pos e2, if_neg e]; rfl
        · rw [if_neg e2, if_neg e2, X1.2.2.2.2.2.2.2.1 k hk, ← hA' k e2]; rfl
    have WU := withA_Wf W (uA_lt hA (l := l) (n := ins σ l) (i := i))
    have kk : (zsi M2 10 (30 * l + i) 1).1 20 = M.1 20 ∧ (zsi M2 10 (30 * l + i) 1).1 19 = M0.1 19 := ⟨by rw [(KI.si (c := 10) (N := M2)).1 20 (by decide), hK2.1 20 (by decide), k20'], by rw [(KI.si (c := 10) (N := M2)).1 19 (by decide), hK2.1 19 (by decide), k19]⟩
    refine sX1_ranksHold WU hU (rk := rk) (fun r a b => by rw [kk.1]; exact h20 r a b) (fun hh M3 hK3 a b => ne10 ⟨Or.inr rfl, ht i hi2 hh hz M3 (hU.K hK3) (by rw [b, kk.1])⟩) (fun hh M3 hK3 a b => eq00 ⟨ins σ l - (i + 1), by omega, i + 1, uA A l (ins σ l) i, by omega, rfl, rfl, rfl, nI_1 i, hU.K hK3, fun k hk => ?_, by rw [a, kk.2], by rw [b, kk.1], fun t q => ?_⟩)
    · unfold uA; rw [if_neg hk]
    · rcases (show t < i ∨ t = i by omega) with z | z
      · exact hz t z
      · rw [z]; exact hh
/-- which lines are unmixed, from the last on -/
noncomputable def lvS (σ : Sg) (rk : Nat → Nat) (l : Nat) (s : Nat × (Nat → Nat)) : Nat × (Nat → Nat) :=
  if sF σ l ≠ 0 ∧ sK σ l = false ∧ pas (withA σ s.2) l = false then
    (if fst1 (fun i => holdR (withA σ (uA s.2 l (ins σ l) i)) rk) (ins σ l) < ins σ l then (s.1 + 1, uA s.2 l (ins σ l) (fst1 (fun i => holdR (withA σ (uA s.2 l (ins σ l) i)) rk) (ins σ l))) else s)
  else s
noncomputable def lvN (σ : Sg) (rk : Nat → Nat) : Nat → Nat × (Nat → Nat)
  | 0 => (0, sA σ)
  | j + 1 => lvS σ rk (sL σ - 1 - j) (lvN σ rk j)
theorem lvS_lt {σ : Sg} {rk : Nat → Nat} {l : Nat} {s : Nat × (Nat → Nat)} (hs : ∀ k, s.2 k < 256) : ∀ k, (lvS σ rk l s).2 k < 256 := by
  intro k
  unfold lvS
  split
  · split
    · exact uA_lt hs k
    · exact hs k
  · exact hs k
theorem lvN_lt {σ : Sg} (W : Wf σ) {rk : Nat → Nat} : ∀ j k, (lvN σ rk j).2 k < 256
  | 0, k => W.2.2.2.2.1 k
  | j + 1, k => lvS_lt (lvN_lt W j) k
theorem lvS_no {σ : Sg} {rk : Nat → Nat} {l : Nat} {s : Nat × (Nat → Nat)} (h : ¬ (sF σ l ≠ 0 ∧ sK σ l = false ∧ pas (withA σ s.2) l = false)) : lvS σ rk l s = s := if_neg h
theorem lvS_f {σ : Sg} {rk : Nat → Nat} {l : Nat} {s : Nat × (Nat → Nat)} (hz : ∀ t, t < ins σ l → ¬ holdR (withA σ (uA s.2 l (ins σ l) t)) rk) : lvS σ rk l s = s := by
  unfold lvS
  rw [fst1_f hz, if_neg (Nat.lt_irrefl _)]
  split <;> rfl
theorem lvS_t {σ : Sg} {rk : Nat → Nat} {l i : Nat} {s : Nat × (Nat → Nat)} (h : sF σ l ≠ 0 ∧ sK σ l = false ∧ pas (withA σ s.2) l = false) (hi : i < ins σ l) (hh : holdR (withA σ (uA s.2 l (ins σ l) i)) rk) (hz : ∀ t, t < i → ¬ holdR (withA σ (uA s.2 l (ins σ l) t)) rk) : lvS σ rk l s = (s.1 + 1, uA s.2 l (ins σ l) i) := by
  unfold lvS
  rw [if_pos h, fst1_t (P := fun i => holdR (withA σ (uA s.2 l (ins σ l) i)) rk) hh hz hi, if_pos hi]
theorem sX1_unmixAll {σ : Sg} {M : zM} (W : Wf σ) (X : RX σ M) {post : Int32 → zM → Prop} (h : ∀ M', RX (withA σ (lvN σ (fun r => frK σ (sB σ) r) (sL σ)).2) M' → post (nI (lvN σ (fun r => frK σ (sB σ) r) (sL σ)).1) M') : pX1_unmixAll M post := by
  have hL := W.2.1
  have hR := W.1
  unfold pX1_unmixAll
  refine sX1_noteRanks W X (fun M1 hK1 h20 => ?_)
  have X1 := X.K hK1
  rw [X1.1.2.1]
  generalize hrk : (fun r => frK σ (sB σ) r) = rk at h
  have h20' : ∀ r, r < sR σ → sE σ r = true → M1.1 20 r = nI (rk r) ∧ rk r ≤ 4 := fun r a b => by rw [← hrk]; exact h20 r a b
  unfold pX1_unmixAll_L16
  refine ⟨fun n x1 x2 M2 => ∃ j, j ≤ sL σ ∧ n = sL σ - j ∧ x1 = nI (lvN σ rk j).1 ∧ x2 = nI (sL σ - j) - 1 ∧ RX (withA σ (lvN σ rk j).2) M2 ∧ M2.1 20 = M1.1 20, ⟨sL σ, 0, by omega, rfl, rfl, rfl, X1, rfl⟩, ?_⟩
  rintro n x1 x2 M2 ⟨j, hj, hn, rfl, rfl, X2, k20⟩
  have hA := lvN_lt W (rk := rk) j
  have W2 := withA_Wf W hA
  unfold pX1_unmixAll_b16 pX1_unmixAll_b68
  rcases (show j = sL σ ∨ j < sL σ by omega) with e | e
  · subst e
    rw [Nat.sub_self]
    exact ⟨fun _ => h M2 X2, fun q => absurd (by decide) q⟩
  · have hl : sL σ - 1 - j < sL σ := by omega
    rw [show nI (sL σ - j) - 1 = nI (sL σ - 1 - j) by rw [show nI (sL σ - j) - 1 = nI (sL σ - j - 1) from pk_sub (b := 1) (by omega)]; congr 1; omega]
    rw [nI_clamp (by omega)]
    have hF := W.2.2.2.1 _ hl
    have h6 : M2.1 6 (sL σ - 1 - j) = nI (sF σ (sL σ - 1 - j)) := (X2.2.2.2.2.1 _ hl).1
    have hkt : bt (M2.1 1 4) (sL σ - 1 - j) = sK σ (sL σ - 1 - j) := X2.2.2.1 _ (by omega)
    have nx : nI (sL σ - 1 - j) + (-1) = nI (sL σ - (j + 1)) - 1 := by rw [nI_lit1]; congr 2; omega
    have skip : ¬ (sF σ (sL σ - 1 - j) ≠ 0 ∧ sK σ (sL σ - 1 - j) = false ∧ pas (withA σ (lvN σ rk j).2) (sL σ - 1 - j) = false) → ∃ k, k < n ∧ ∃ j_1, j_1 ≤ sL σ ∧ k = sL σ - j_1 ∧ nI (lvN σ rk j).1 = nI (lvN σ rk j_1).1 ∧ nI (sL σ - 1 - j) + (-1) = nI (sL σ - j_1) - 1 ∧ RX (withA σ (lvN σ rk j_1).2) M2 ∧ M2.1 20 = M1.1 20 := fun hno => by
      have e3 : lvN σ rk (j + 1) = lvN σ rk j := lvS_no hno
      exact ⟨sL σ - (j + 1), by omega, j + 1, by omega, rfl, by rw [e3], nx, by rw [e3]; exact X2, k20⟩
    rw [h6]
    refine ⟨fun q => absurd q (nI_pos (by omega)), fun _ => ⟨vp_in_nI (by omega) (by decide), nI_e0 (by omega) (fun e0 => skip (fun q => q.1 e0)) (fun e0 => sX5_flag (by omega) ?_)⟩⟩
    rw [hkt]
    refine bI_e0 (fun ek => skip (fun q => by rw [ek] at q; exact absurd q.2.1 (by decide))) (fun ek => sX2_isPassing W2 X2 hl (bI_e0 (fun ep => skip (fun q => by rw [ep] at q; exact absurd q.2.2 (by decide))) (fun ep => ?_)))
    refine sX1_unmix W hA X2 (rk := rk) (fun r a b => by rw [k20]; exact h20' r a b) hl (fun i hi hh hz M3 X3 b20 => sX5_asFlag1 ?_) (fun hz M3 X3 b20 => sX5_asFlag0 ?_)
    · have e3 : lvN σ rk (j + 1) = ((lvN σ rk j).1 + 1, uA (lvN σ rk j).2 (sL σ - 1 - j) (ins σ (sL σ - 1 - j)) i) := lvS_t ⟨e0, ek, ep⟩ hi hh hz
      exact ⟨sL σ - (j + 1), by omega, j + 1, by omega, rfl, by rw [e3]; exact nI_1 _, nx, by rw [e3]; exact X3, by rw [b20, k20]⟩
    · have e3 : lvN σ rk (j + 1) = lvN σ rk j := lvS_f hz
      exact ⟨sL σ - (j + 1), by omega, j + 1, by omega, rfl, by rw [e3]; exact nI_add0 _, nx, by rw [e3]; exact X3, by rw [b20, k20]⟩
