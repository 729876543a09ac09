/-! draw, find -/
def withA (σ : Sg) (A : Nat → Nat) : Sg := (σ.1, sP σ, sE σ, σ.2.2.2.1, sK σ, sB σ, sN σ, A)
theorem withA_Wf {σ : Sg} (W : Wf σ) {A : Nat → Nat} (hA : ∀ k, A k < 256) : Wf (withA σ A) := ⟨W.1, W.2.1, W.2.2.1, W.2.2.2.1, hA, W.2.2.2.2.2.1, W.2.2.2.2.2.2⟩
def upN (A : Nat → Nat) (k v j : Nat) : Nat := if j = k then v else A j
theorem RX.A {σ : Sg} {A A' : Nat → Nat} {M M' : zM} (X : RX (withA σ A) M) (hK : ∀ c, c = 1 ∨ c = 6 ∨ c = 7 ∨ c = 11 ∨ c = 12 ∨ c = 13 → M'.1 c = M.1 c) (hJ : ∀ c, c = 8 ∨ c = 9 → M'.2 c = M.2 c) (hA : ∀ k, k < 900 → M'.1 10 k = nI (A' k)) : RX (withA σ A') M' := by
  refine ⟨by rw [hK 1 (by decide)]; exact X.1, by rw [hK 1 (by decide)]; exact X.2.1, by rw [hK 1 (by decide)]; exact X.2.2.1, by rw [hK 1 (by decide)]; exact X.2.2.2.1, by rw [hK 6 (by decide), hK 7 (by decide)]; exact X.2.2.2.2.1, by rw [hJ 8 (by decide)]; exact X.2.2.2.2.2.1, by rw [hJ 9 (by decide)]; exact X.2.2.2.2.2.2.1, hA, by rw [hK 11 (by decide)]; exact X.2.2.2.2.2.2.2.2.1, by rw [hK 12 (by decide)]; exact X.2.2.2.2.2.2.2.2.2.1, by rw [hK 13 (by decide)]; exact X.2.2.2.2.2.2.2.2.2.2⟩
theorem RX.Ai {σ : Sg} {A A' : Nat → Nat} {M M' : zM} (X : RX (withA σ A) M) (hK : KI 10 M M') (hA : ∀ k, k < 900 → M'.1 10 k = nI (A' k)) : RX (withA σ A') M' :=
  X.A (fun c hc => hK.1 c (by omega)) (fun c _ => by rw [hK.2]) hA
theorem RX.up {σ : Sg} {A : Nat → Nat} {M : zM} (X : RX (withA σ A) M) {k v : Nat} : RX (withA σ (upN A k v)) (zsi M 10 k (nI v)) := by
  refine X.Ai KI.si (fun j hj => ?_)
  show upd (M.1 10) k (nI v) j = nI (if j = k then v else A j)
  by_cases e : j = k
  · rw [e, pk_us, if_pos rfl]
  · rw [pk_un e, if_neg e]; exact X.2.2.2.2.2.2.2.1 j hj
theorem RM.Ai {σ : Sg} {A A' : Nat → Nat} {N N' : zM} (Y : RM (withA σ A) N) (hK : KI 29 N N') (hA : ∀ k, k < 900 → N'.1 29 k = nI (A' k)) : RM (withA σ A') N' := by
  refine ⟨by rw [hK.1 21 (by decide)]; exact Y.1, by rw [hK.2]; exact Y.2.1, by rw [hK.1 23 (by decide)]; exact Y.2.2.1, by rw [hK.1 24 (by decide), hK.1 25 (by decide)]; exact Y.2.2.2.1, by rw [hK.1 26 (by decide), hK.1 27 (by decide)]; exact Y.2.2.2.2.1, by rw [hK.2]; exact Y.2.2.2.2.2.1, hA⟩
theorem RM.up {σ : Sg} {A : Nat → Nat} {N : zM} (Y : RM (withA σ A) N) {k v : Nat} : RM (withA σ (upN A k v)) (zsi N 29 k (nI v)) := by
  refine Y.Ai KI.si (fun j hj => ?_)
  show upd (N.1 29) k (nI v) j = nI (if j = k then v else A j)
  by_cases e : j = k
  · rw [e, pk_us, if_pos rfl]
  · rw [pk_un e, if_neg e]; exact Y.2.2.2.2.2.2 j hj
theorem upN_lt {A : Nat → Nat} (hA : ∀ k, A k < 256) {k v : Nat} (hv : v < 256) : ∀ j, upN A k v j < 256 := fun j => by
  unfold upN
  split
  · exact hv
  · exact hA j
def dnx (y : Int32) : Int32 := (1103515245 : Int32) * y + 12345
def dvl (y : Int32) : Nat := ((y.toUInt32 >>> (((16 : Int32)).toUInt32 &&& Int32.toUInt32 31)).toInt32).toBitVec.toNat % 2 ^ 8
theorem dvl_lt (y : Int32) : dvl y < 256 := Nat.mod_lt _ (by decide)
theorem dvl_eq (y : Int32) : (y.toUInt32 >>> (((16 : Int32)).toUInt32 &&& Int32.toUInt32 31)).toInt32 &&& (255 : Int32) = nI (dvl y) := by
  unfold dvl
  generalize (y.toUInt32 >>> (((16 : Int32)).toUInt32 &&& Int32.toUInt32 31)).toInt32 = w
  have e : w = nI w.toBitVec.toNat := Int32.toBitVec_inj.mp (by show _ = BitVec.ofNat 32 _; simp)
  have := fa_mask w.toBitVec.toNat 8
  rw [← e] at this
  exact this
abbrev Ds : Type := Int32 × Nat × (Nat → Nat)
def dIn (l : Nat) (s : Ds) : Nat → Ds
  | 0 => s
  | i + 1 => (dnx (dIn l s i).1, (dIn l s i).2.1 + 1, upN (dIn l s i).2.2 (30 * l + i) (dvl (dnx (dIn l s i).1)))
def dLn (σ : Sg) (s : Ds) : Nat → Ds
  | 0 => s
  | l + 1 => dIn l (dLn σ s l) (if sK σ l then 0 else ins σ l)
def dAr (σ : Sg) (y : Int32) : Ds := dLn σ (y, 0, sA σ) (sL σ)
theorem dIn_lt {l : Nat} {s : Ds} (hs : ∀ k, s.2.2 k < 256) : ∀ i k, (dIn l s i).2.2 k < 256
  | 0, k => hs k
  | i + 1, k => upN_lt (dIn_lt hs i) (dvl_lt _) k
theorem dLn_lt {σ : Sg} {s : Ds} (hs : ∀ k, s.2.2 k < 256) : ∀ l k, (dLn σ s l).2.2 k < 256
  | 0, k => hs k
  | l + 1, k => dIn_lt (dLn_lt hs l) _ k
theorem dAr_lt {σ : Sg} (W : Wf σ) (y : Int32) (k : Nat) : (dAr σ y).2.2 k < 256 := dLn_lt (s := (y, 0, sA σ)) W.2.2.2.2.1 _ k
theorem sX1_drawWith {σ : Sg} {M : zM} (W : Wf σ) (X : RX σ M) {y : Int32} {post : Int32 → zM → Prop} (h : ∀ M', KI 10 M M' → RX (withA σ (dAr σ y).2.2) M' → post (nI (dAr σ y).2.1) M') : pX1_drawWith M y post := by
  have hL := W.2.1
  unfold pX1_drawWith pX1_drawWith_L7
  refine ⟨fun n x2 x3 x4 M1 => ∃ l, l ≤ sL σ ∧ n = sL σ - l ∧ x2 = (dLn σ (y, 0, sA σ) l).1 ∧ x3 = nI (dLn σ (y, 0, sA σ) l).2.1 ∧ x4 = nI l ∧ KI 10 M M1 ∧ RX (withA σ (dLn σ (y, 0, sA σ) l).2.2) M1, ⟨sL σ, 0, by omega, rfl, rfl, rfl, rfl, KI.rf, X⟩, ?_⟩
  rintro n x2 x3 x4 M1 ⟨l, hl, hn, rfl, rfl, rfl, hK, X1⟩
  have hA1 : ∀ k, (dLn σ (y, 0, sA σ) l).2.2 k < 256 := dLn_lt (s := (y, 0, sA σ)) W.2.2.2.2.1 l
  have W1 := withA_Wf W hA1
  have hL1 : M1.1 1 1 = nI (sL σ) := X1.1.2.1
  unfold pX1_drawWith_b7
  rw [hL1]
  refine lp (by omega) hl (fun e => by subst e; exact h M1 hK X1) (fun hl2 => sX5_flag (by omega) ?_)
  have hkt : bt (M1.1 1 4) l = sK σ l := X1.2.2.1 l (by omega)
  rw [hkt]
  have fin : ∀ m, m = (if sK σ l then 0 else ins σ l) → pX1_drawWith_b48 post (fun x2 x3 x4 M1 => ∃ k, k < n ∧ ∃ l, l ≤ sL σ ∧ k = sL σ - l ∧ x2 = (dLn σ (y, 0, sA σ) l).1 ∧ x3 = nI (dLn σ (y, 0, sA σ) l).2.1 ∧ x4 = nI l ∧ KI 10 M M1 ∧ RX (withA σ (dLn σ (y, 0, sA σ) l).2.2) M1) (dLn σ (y, 0, sA σ) l).1 (nI (dLn σ (y, 0, sA σ) l).2.1) (nI l) (nI m) M1 := by
    intro m hm
    have hm30 : m ≤ 30 := by have := ins_le W l; rw [hm]; split <;> omega
    unfold pX1_drawWith_b48 pX1_drawWith_L53
    refine ⟨fun n' x2 x3 x4 x5 x6 M2 => ∃ i, i ≤ m ∧ n' = m - i ∧ x2 = (dIn l (dLn σ (y, 0, sA σ) l) i).1 ∧ x3 = nI (dIn l (dLn σ (y, 0, sA σ) l) i).2.1 ∧ x4 = nI l ∧ x5 = nI m ∧ x6 = nI i ∧ KI 10 M M2 ∧ RX (withA σ (dIn l (dLn σ (y, 0, sA σ) l) i).2.2) M2, ⟨m, 0, by omega, rfl, rfl, rfl, rfl, rfl, rfl, hK, X1⟩, ?_⟩
    rintro n' x2 x3 x4 x5 x6 M2 ⟨i, hi, hn', rfl, rfl, rfl, rfl, rfl, hK2, X2⟩
    unfold pX1_drawWith_b53
    refine lp (by omega) hi (fun e => ?_) (fun hi2 => sX5_slot ⟨vp_in_nI (by omega) (by decide), ?_⟩)
    · refine ⟨sL σ - (l + 1), by omega, l + 1, by omega, rfl, ?_, ?_, nI_1 l, hK2, ?_⟩
      · show _ = (dIn l (dLn σ (y, 0, sA σ) l) (if sK σ l then 0 else ins σ l)).1
        rw [← hm, e]
      · show _ = nI (dIn l (dLn σ (y, 0, sA σ) l) (if sK σ l then 0 else ins σ l)).2.1
        rw [← hm, e]
      · show RX (withA σ (dIn l (dLn σ (y, 0, sA σ) l) (if sK σ l then 0 else ins σ l)).2.2) M2
        rw [← hm, ← e]; exact X2
    · rw [nI_clamp (by omega), dvl_eq]
      exact ⟨m - (i + 1), by omega, i + 1, by omega, rfl, rfl, nI_1 _, rfl, rfl, nI_1 i, hK2.tr KI.si, X2.up⟩
  refine bI_e1 (fun e => fin 0 (by rw [e]; rfl)) (fun e => sX2_insOf W1 X1 hl2 (fin (ins σ l) (by rw [e]; rfl)))
theorem sX6_draw {σ : Sg} {N : zM} (W : Wf σ) (Y : RM σ N) {y : Int32} {post : Int32 → zM → Prop} (h : ∀ N', KI 29 N N' → RM (withA σ (dAr σ y).2.2) N' → post (nI (dAr σ y).2.1) N') : pX6_draw N y post := by
  have hL := W.2.1
  unfold pX6_draw pX6_draw_L7
  refine ⟨fun n x2 x3 x4 N1 => ∃ l, l ≤ sL σ ∧ n = sL σ - l ∧ x2 = (dLn σ (y, 0, sA σ) l).1 ∧ x3 = nI (dLn σ (y, 0, sA σ) l).2.1 ∧ x4 = nI l ∧ KI 29 N N1 ∧ RM (withA σ (dLn σ (y, 0, sA σ) l).2.2) N1, ⟨sL σ, 0, by omega, rfl, rfl, rfl, rfl, KI.rf, Y⟩, ?_⟩
  rintro n x2 x3 x4 N1 ⟨l, hl, hn, rfl, rfl, rfl, hK, Y1⟩
  have hA1 : ∀ k, (dLn σ (y, 0, sA σ) l).2.2 k < 256 := dLn_lt (s := (y, 0, sA σ)) W.2.2.2.2.1 l
  have hL1 : N1.1 21 2 = nI (sL σ) := Y1.1.2.1
  unfold pX6_draw_b7
  rw [hL1]
  refine lp (by omega) hl (fun e => by subst e; exact h N1 hK Y1) (fun hl2 => ?_)
  have hi30 := ins_le W l
  unfold pX6_draw_L19
  refine ⟨fun n' x2 x3 x4 x5 N2 => ∃ i, i ≤ (if sK σ l then 0 else ins σ l) ∧ n' = (if sK σ l then 0 else ins σ l) - i ∧ x2 = (dIn l (dLn σ (y, 0, sA σ) l) i).1 ∧ x3 = nI (dIn l (dLn σ (y, 0, sA σ) l) i).2.1 ∧ x4 = nI l ∧ x5 = nI i ∧ KI 29 N N2 ∧ RM (withA σ (dIn l (dLn σ (y, 0, sA σ) l) i).2.2) N2, ⟨_, 0, Nat.zero_le _, rfl, rfl, rfl, rfl, rfl, hK, Y1⟩, ?_⟩
  rintro n' x2 x3 x4 x5 N2 ⟨i, hi, hn', rfl, rfl, rfl, rfl, hK2, Y2⟩
  have hA2 := dIn_lt (l := l) hA1 i
  have W2 := withA_Wf W hA2
  unfold pX6_draw_b19 pX6_draw_b79
  have hm30 : (if sK σ l then 0 else ins σ l) ≤ ins σ l := by split <;> omega
  have stop : i = (if sK σ l then 0 else ins σ l) → ∃ k, k < n ∧ ∃ l_1, l_1 ≤ sL σ ∧ k = sL σ - l_1 ∧ (dIn l (dLn σ (y, 0, sA σ) l) i).1 = (dLn σ (y, 0, sA σ) l_1).1 ∧ nI (dIn l (dLn σ (y, 0, sA σ) l) i).2.1 = nI (dLn σ (y, 0, sA σ) l_1).2.1 ∧ nI l + 1 = nI l_1 ∧ KI 29 N N2 ∧ RM (withA σ (dLn σ (y, 0, sA σ) l_1).2.2) N2 := by
    intro e
    refine ⟨sL σ - (l + 1), by omega, l + 1, by omega, rfl, ?_, ?_, nI_1 l, hK2, ?_⟩
    · show _ = (dIn l (dLn σ (y, 0, sA σ) l) (if sK σ l then 0 else ins σ l)).1
      rw [← e]
    · show _ = nI (dIn l (dLn σ (y, 0, sA σ) l) (if sK σ l then 0 else ins σ l)).2.1
      rw [← e]
    · show RM (withA σ (dIn l (dLn σ (y, 0, sA σ) l) (if sK σ l then 0 else ins σ l)).2.2) N2
      rw [← e]; exact Y2
  refine sX6_ins W2 Y2 hl2 ?_
  show (nI (ins σ l) ≤ nI i → _) ∧ (¬ nI (ins σ l) ≤ nI i → _)
  have hkt : N2.1 26 l = bI (sK σ l) := (Y2.2.2.2.2.1 l (by omega)).1
  refine lp (by omega) (by omega) (fun e => stop (by omega)) (fun hi2 => ⟨vp_in_nI (by omega) (by decide), ?_⟩)
  rw [nI_clamp (n := l) (by omega), hkt]
  refine bI_e0 (fun e => stop (by rw [e] at hi ⊢; simp at hi ⊢; exact hi)) (fun e => ?_)
  rw [slotM, nI_clamp (n := 30 * l + i) (by omega), dvl_eq]
  rw [e] at hi hn' ⊢
  have hi' : i ≤ ins σ l := hi
  have hn2 : n' = ins σ l - i := hn'
  exact ⟨vp_in_nI (by omega) (by decide), ins σ l - (i + 1), by omega, i + 1, by show i + 1 ≤ ins σ l; omega, rfl, rfl, nI_1 _, rfl, nI_1 i, hK2.tr KI.si, Y2.up⟩
theorem KI.a {N N' : zM} (h : KI 29 N N') {a b : Int32} (A : Al N a b) : Al N' a b := by
  unfold Al
  rw [h.1 21 (by decide)]
  exact A
theorem cs_draw {σ : Sg} {M N : zM} (R : Rel σ M N) (x1 : Int32) {post : Int32 → zM → Int32 → zM → Prop} (h : ∀ r σ' M' N', Rel σ' M' N' → post r M' r N') : pX5_draw M x1 (fun r M1 => pX6_draw N x1 (fun r' N1 => post r M1 r' N1)) := by
  unfold pX5_draw
  exact sX1_drawWith R.1 R.2.1 (fun M' _ X' => sX6_draw R.1 R.2.2.1 (fun N' hK' Y' => h _ _ _ _ ⟨withA_Wf R.1 (dAr_lt R.1 _), X', Y', hK'.a R.2.2.2⟩))
/-! find -/
def fA (σ : Sg) : Nat → Nat → Nat
  | 0 => sA σ
  | s + 1 => (dAr (withA σ (fA σ s)) (nI (s + 1))).2.2
theorem fA_lt {σ : Sg} (W : Wf σ) : ∀ s k, fA σ s k < 256
  | 0, k => W.2.2.2.2.1 k
  | s + 1, k => dAr_lt (withA_Wf W (fA_lt W s)) _ k
noncomputable def fL (σ : Sg) (s : Nat) : Nat := lfN (withA σ (fA σ s)) (sR σ)
theorem fL_lt {σ : Sg} (W : Wf σ) (s : Nat) : fL σ s ≤ 12 := by
  have := lfN_le (withA σ (fA σ s)) (sR σ)
  have := W.1
  unfold fL
  omega
theorem sX1_firstSeed {σ : Sg} {M : zM} (W : Wf σ) (X : RX σ M) {post : Int32 → zM → Prop}
    (h1 : ∀ s, 1 ≤ s → s ≤ 40 → fL σ s = 0 → (∀ t, 1 ≤ t → t < s → fL σ t ≠ 0) → ∀ M', RX (withA σ (fA σ s)) M' → post (nI s) M') (h0 : (∀ t, 1 ≤ t → t ≤ 40 → fL σ t ≠ 0) → ∀ M', RX σ M' → post (-1) M') : pX1_firstSeed M post := by
  unfold pX1_firstSeed
  refine ⟨by decide, by decide, by decide, by decide, by decide, ?_⟩
  have hs : ∀ k, k < 900 → (zri M 19 (va_cpy (M.1 10) (M.1 19) ((0 : Int32)).toNatClampNeg ((0 : Int32)).toNatClampNeg ((900 : Int32)).toNatClampNeg)).1 19 k = nI (sA σ k) := by
    intro k hk
    show va_cpy (M.1 10) (M.1 19) 0 0 900 k = _
    unfold va_cpy
    rw [if_pos (by omega), show 0 + (k - 0) = k by omega]
    exact X.2.2.2.2.2.2.2.1 k hk
  have X0 : RX (withA σ (fA σ 0)) (zri M 19 (va_cpy (M.1 10) (M.1 19) ((0 : Int32)).toNatClampNeg ((0 : Int32)).toNatClampNeg ((900 : Int32)).toNatClampNeg)) := X
  generalize zri M 19 (va_cpy (M.1 10) (M.1 19) ((0 : Int32)).toNatClampNeg ((0 : Int32)).toNatClampNeg ((900 : Int32)).toNatClampNeg) = M0 at hs X0
  unfold pX1_firstSeed_L23
  refine ⟨fun n x1 M1 => ∃ s, s ≤ 40 ∧ n = 40 - s ∧ x1 = nI (s + 1) ∧ RX (withA σ (fA σ s)) M1 ∧ M1.1 19 = M0.1 19 ∧ ∀ t, 1 ≤ t → t ≤ s → fL σ t ≠ 0, ⟨40, 0, by omega, rfl, rfl, X0, rfl, fun t a b => by omega⟩, ?_⟩
  rintro n x1 M1 ⟨s, hs1, hn, rfl, X1, h19, hz⟩
  have W1 := withA_Wf W (fA_lt W s)
  unfold pX1_firstSeed_b23
  refine lt2 (a := 40) (by omega) (by omega) (fun e => ⟨by decide, by decide, by decide, by decide, by decide, h0 (fun t a b => hz t a (by omega)) _ ?_⟩) (fun e => ?_)
  · refine X1.A (A' := sA σ) (fun c hc => ?_) (fun c hc => rfl) (fun k hk => ?_)
    · have : c ≠ 10 := by omega
      simp [zri, this]
    · show va_cpy (M1.1 19) (M1.1 10) 0 0 900 k = _
      unfold va_cpy
      rw [if_pos (by omega), show 0 + (k - 0) = k by omega, h19]
      exact hs k hk
  · refine sX1_drawWith W1 X1 (fun M2 hK2 X2 => ?_)
    have W2 := withA_Wf W (fA_lt W (s + 1))
    have X2' : RX (withA σ (fA σ (s + 1))) M2 := X2
    refine sX3_unfinished W2 X2' (fun M3 hK3 k19 => ?_)
    have hb := fL_lt W (s + 1)
    show (¬ (nI (fL σ (s + 1)) = 0) → _) ∧ (nI (fL σ (s + 1)) = 0 → _)
    have hsp := nI_e0 (r := fL σ (s + 1)) (P := post (nI (s + 1)) M3) (Q := ∃ k, k < n ∧ ∃ s_1, s_1 ≤ 40 ∧ k = 40 - s_1 ∧ nI (s + 1) + 1 = nI (s_1 + 1) ∧ RX (withA σ (fA σ s_1)) M3 ∧ M3.1 19 = M0.1 19 ∧ ∀ t, 1 ≤ t → t ≤ s_1 → fL σ t ≠ 0) (by omega) (fun e0 => h1 (s + 1) (by omega) (by omega) e0 (fun t a b => hz t a (by omega)) M3 (X2'.K hK3)) (fun e0 => ⟨40 - (s + 1), by omega, s + 1, by omega, rfl, nI_1 _, X2'.K hK3, by rw [k19, hK2.1 19 (by decide), h19], fun t a b => by
      rcases (show t ≤ s ∨ t = s + 1 by omega) with z | z
      · exact hz t a z
      · rw [z]; exact e0⟩)
    exact ⟨hsp.2, hsp.1⟩
theorem sX6_findL {σ : Sg} {N : zM} (W : Wf σ) (Y : RM σ N) (A : Al N (-1) (-1)) {post : Int32 → zM → Prop}
    (h1 : ∀ s, 1 ≤ s → s ≤ 40 → fL σ s = 0 → (∀ t, 1 ≤ t → t < s → fL σ t ≠ 0) → ∀ N', RM (withA σ (fA σ s)) N' → Al N' (-1) (-1) → post (nI s) N') (h0 : (∀ t, 1 ≤ t → t ≤ 40 → fL σ t ≠ 0) → ∀ N', RM σ N' → Al N' (-1) (-1) → post (-1) N') : pX6_find_L11 post 0 N := by
  unfold pX6_find_L11
  refine ⟨fun n x1 N1 => ∃ k, k ≤ 900 ∧ n = 900 - k ∧ x1 = nI k ∧ KI 41 N N1 ∧ ∀ j, j < k → N1.1 41 j = nI (sA σ j), ⟨900, 0, by omega, rfl, rfl, KI.rf, fun j hj => by omega⟩, ?_⟩
  rintro n x1 N1 ⟨k, hk, hn, rfl, hK, hv⟩
  have Y1 := Y.K (hK.m (by decide))
  unfold pX6_find_b11
  refine lp (n := 900) (by omega) hk (fun e => ?_) (fun hk2 => ?_)
  · subst e
    have A1 := A.K (hK.m (by decide))
    unfold pX6_find_L38
    refine ⟨fun n x1 N2 => ∃ s, s ≤ 40 ∧ n = 40 - s ∧ x1 = nI (s + 1) ∧ RM (withA σ (fA σ s)) N2 ∧ Al N2 (-1) (-1) ∧ N2.1 41 = N1.1 41 ∧ ∀ t, 1 ≤ t → t ≤ s → fL σ t ≠ 0, ⟨40, 0, by omega, rfl, rfl, Y1, A1, rfl, fun t a b => by omega⟩, ?_⟩
    rintro n x1 N2 ⟨s, hs1, hn, rfl, Y2, A2, h41, hz⟩
    have W1 := withA_Wf W (fA_lt W s)
    unfold pX6_find_b38
    refine lt2 (a := 40) (by omega) (by omega) (fun e => ?_) (fun e => ?_)
    · unfold pX6_find_L67
      refine ⟨fun n x1 N3 => ∃ k, k ≤ 900 ∧ n = 900 - k ∧ x1 = nI k ∧ KI 29 N2 N3 ∧ (∀ j, j < 900 → N3.1 29 j = nI (if j < k then sA σ j else fA σ s j)), ⟨900, 0, by omega, rfl, rfl, KI.rf, fun j hj => by rw [if_neg (by omega)]; exact Y2.2.2.2.2.2.2 j hj⟩, ?_⟩
      rintro n x1 N3 ⟨k, hk, hn, rfl, hK3, hv3⟩
      unfold pX6_find_b67
      refine lp (n := 900) (by omega) hk (fun e => ?_) (fun hk2 => ?_)
      · subst e
        exact h0 (fun t a b => hz t a (by omega)) N3 (Y2.Ai (A' := sA σ) hK3 (fun j hj => by rw [hv3 j hj, if_pos hj])) (hK3.a A2)
      · rw [nI_clamp (by omega), hK3.1 41 (by decide), h41, hv k hk2]
        refine ⟨vp_in_nI (by omega) (by decide), vp_in_nI (by omega) (by decide), 900 - (k + 1), by omega, k + 1, by omega, rfl, nI_1 k, hK3.tr KI.si, fun j hj => ?_⟩
        show upd (N3.1 29) k _ j = _
        by_cases e : j = k
        · rw [e, pk_us, if_pos (by omega)]
        · rw [pk_un e, hv3 j hj]
          by_cases e2 : j < k
          · rw [if_pos e2, if_pos (by omega)]
          · rw [if_neg e2, if_neg (by omega)]
    · refine sX6_draw W1 Y2 (fun N3 hK3 Y3 => ?_)
      have W2 := withA_Wf W (fA_lt W (s + 1))
      have Y3' : RM (withA σ (fA σ (s + 1))) N3 := Y3
      refine sX6_left W2 Y3' (hK3.a A2) (fun N4 hK4 k41 => ?_)
      have hb := fL_lt W (s + 1)
      show (¬ (nI (fL σ (s + 1)) = 0) → _) ∧ (nI (fL σ (s + 1)) = 0 → _)
      have hsp := nI_e0 (r := fL σ (s + 1)) (P := post (nI (s + 1)) N4) (Q := ∃ k, k < n ∧ ∃ s_1, s_1 ≤ 40 ∧ k = 40 - s_1 ∧ nI (s + 1) + 1 = nI (s_1 + 1) ∧ RM (withA σ (fA σ s_1)) N4 ∧ Al N4 (-1) (-1) ∧ N4.1 41 = N1.1 41 ∧ ∀ t, 1 ≤ t → t ≤ s_1 → fL σ t ≠ 0) (by omega) (fun e0 => h1 (s + 1) (by omega) (by omega) e0 (fun t a b => hz t a (by omega)) N4 (Y3'.K hK4) ((hK3.a A2).K hK4)) (fun e0 => ⟨40 - (s + 1), by omega, s + 1, by omega, rfl, nI_1 _, Y3'.K hK4, (hK3.a A2).K hK4, by rw [k41, hK3.1 41 (by decide), h41], fun t a b => by
        rcases (show t ≤ s ∨ t = s + 1 by omega) with z | z
        · exact hz t a z
        · rw [z]; exact e0⟩)
      exact ⟨hsp.2, hsp.1⟩
  · rw [nI_clamp (by omega), Y1.2.2.2.2.2.2 k hk2]
    refine ⟨vp_in_nI (by omega) (by decide), vp_in_nI (by omega) (by decide), 900 - (k + 1), by omega, k + 1, by omega, rfl, nI_1 k, hK.tr KI.si, fun j hj => ?_⟩
    show upd (N1.1 41) k _ j = _
    by_cases e : j = k
    · rw [e, pk_us]
    · rw [pk_un e]; exact hv j (by omega)
theorem bt_zero (i : Nat) : bt 0 i = false := by
  show (0 : BitVec 32).getLsbD i = false
  simp
theorem bt_ext0 {s : Int32} (h : ∀ i, i < 32 → bt s i = false) : s = 0 := by
  apply Int32.toBitVec_inj.mp
  apply BitVec.eq_of_getLsbD_eq
  intro i hi
  show bt s i = bt 0 i
  rw [h i hi, bt_zero]
theorem cs_find {σ : Sg} {M N : zM} (R : Rel σ M N) {post : Int32 → zM → Int32 → zM → Prop} (h : ∀ r σ' M' N', Rel σ' M' N' → post r M' r N') : pX5_find M (fun r M1 => pX6_find N (fun r' N1 => post r M1 r' N1)) := by
  have R0 := R
  obtain ⟨W, X, Y, A⟩ := R
  have hR := W.1
  have hct := fb_ct_le (sE σ) (sR σ)
  unfold pX5_find pX5_find_b21
  refine ⟨fun e => ?_, fun e => ?_⟩
  · have hne : fb_ct (sE σ) (sR σ) ≠ 0 := fun q => e (bt_ext0 (fun i hi => by
      rw [X.2.1 i hi]
      cases he : sE σ i with
      | false => rfl
      | true =>
        have := fb_ct_zero.mp q i (W.2.2.2.2.2.1 i he).2
        rw [he] at this
        cases this))
    unfold pX6_find
    refine sX1_firstSeed W X (fun s a b c d M' X' => sX6_ends W Y ⟨fun _ => sX6_findL W Y A (fun s' a' b' c' d' N' Y' A' => ?_) (fun q N' Y' A' => absurd c (q s a b)), fun q => absurd q (nI_n0 (by omega) hne)⟩) (fun q M' X' => sX6_ends W Y ⟨fun _ => sX6_findL W Y A (fun s' a' b' c' d' N' Y' A' => absurd c' (q s' a' b')) (fun _ N' Y' A' => h _ σ _ _ ⟨W, X', Y', A'⟩), fun q => absurd q (nI_n0 (by omega) hne)⟩)
    have : s' = s := by
      rcases Nat.lt_trichotomy s' s with z | z | z
      · exact absurd c' (d s' a' z)
      · exact z
      · exact absurd c (d' s a z)
    subst this
    exact h _ _ _ _ ⟨withA_Wf W (fA_lt W s'), X', Y', A'⟩
  · have he : fb_ct (sE σ) (sR σ) = 0 := fb_ct_zero.mpr (fun i hi => by
      have := X.2.1 i (by omega)
      rw [e, bt_zero] at this
      exact this.symm)
    unfold pX6_find
    refine sX6_ends W Y ⟨fun q => absurd (by rw [he]; rfl) q, fun _ => h _ σ _ _ R0⟩
