/-! the small methods of both sides -/
def bI (b : Bool) : Int32 := if b then 1 else 0
theorem bI_t : bI true = 1 := rfl
theorem bI_f : bI false = 0 := rfl
theorem bI_01 (b : Bool) : bI b = 0 ∨ bI b = 1 := by cases b; exact Or.inl rfl; exact Or.inr rfl
theorem bI_0 {b : Bool} : bI b = 0 ↔ b = false := by cases b <;> simp [bI]
theorem bI_1 {b : Bool} : bI b = 1 ↔ b = true := by cases b <;> simp [bI]
theorem i8_le {k : Nat} (hk : k < 2 ^ 31) (a : Nat) (ha : a < 2 ^ 31) : nI a ≤ nI k ↔ a ≤ k := nI_leI ha hk
theorem gmr_0 : ∀ n a, gmr n a 0 = 0
  | 0, _ => rfl
  | n + 1, a => by
    show (if 0 % 2 = 1 then a else 0) ^^^ gmr n (gx2 a) (0 / 2) = 0
    rw [if_neg (by decide), Nat.zero_div, gmr_0 n]
    rfl
theorem sX5_scaled {x : Int64} {f : Nat} (hf : f < 256) {post : Int64 → Prop} (h : ∀ y, (∀ i, i < 8 → lb y i = gm (lb x i) f) → post y) : pX5_scaled x (nI f) post := by
  unfold pX5_scaled pX5_scaled_L11
  refine ⟨fun n x3 x5 x7 x8 => ∃ k r, k ≤ 8 ∧ n = 8 - k ∧ x8 = nI k ∧ x7 = nI r ∧ r < 256 ∧ ∀ i, i < 8 → lb x3 i ^^^ gmr (8 - k) (lb x5 i) r = gm (lb x i) f, ⟨8, 0, f, by omega, rfl, rfl, rfl, hf, fun i hi => ?_⟩, ?_⟩
  · rw [lb_0, Nat.zero_xor]; rfl
  · rintro n x3 x5 x7 x8 ⟨k, r, hk, hn, rfl, rfl, hr, hv⟩
    unfold pX5_scaled_b11 pX5_scaled_b76 pX5_scaled_b36
    have e8 : ((8 : Int32) ≤ nI k) ↔ 8 ≤ k := nI_leI (a := 8) (by decide) (by omega)
    refine ⟨fun q => h x3 (fun i hi => ?_), fun q => ⟨fun q2 => h x3 (fun i hi => ?_), fun q2 => ?_⟩⟩
    · have hk8 : k = 8 := by have := e8.mp q; omega
      subst hk8
      have := hv i hi
      rwa [show gmr (8 - 8) (lb x5 i) r = 0 from rfl, Nat.xor_zero] at this
    · have hr0 : r = 0 := (nI_eq (a := r) (b := 0) (by omega) (by decide)).mp q2
      subst hr0
      have := hv i hi
      rwa [gmr_0, Nat.xor_zero] at this
    · have hk7 : k < 8 := by
        rcases Nat.lt_or_ge k 8 with z | z
        · exact z
        · exact absurd (e8.mpr z) q
      have eand : nI r &&& (1 : Int32) = nI (r % 2) := fa_mask r 1
      have eodd : (nI r &&& (1 : Int32) = (1 : Int32)) ↔ r % 2 = 1 := by rw [eand]; exact nI_eq (a := r % 2) (b := 1) (by omega) (by decide)
      have eshr : ((nI r).toUInt32 >>> (((1 : Int32)).toUInt32 &&& Int32.toUInt32 31)).toInt32 = nI (r / 2) := pk_ushrN (by omega) 1 1 (by decide)
      have estep : ∀ i, gmr (8 - k) (lb x5 i) r = (if r % 2 = 1 then lb x5 i else 0) ^^^ gmr (8 - (k + 1)) (gx2 (lb x5 i)) (r / 2) := fun i => by
        rw [show 8 - k = (8 - (k + 1)) + 1 by omega]; rfl
      refine ⟨fun q3 => ?_, fun q3 => ?_⟩
      · refine ⟨8 - (k + 1), by omega, k + 1, r / 2, by omega, rfl, nI_1 k, eshr, by omega, fun i hi => ?_⟩
        show lb x3 i ^^^ gmr (8 - (k + 1)) (lb (dbl x5) i) (r / 2) = _
        have := hv i hi
        rw [estep i, if_neg (fun z => q3 (eodd.mpr z)), Nat.zero_xor] at this
        rw [lb_dbl x5 hi]
        exact this
      · refine ⟨8 - (k + 1), by omega, k + 1, r / 2, by omega, rfl, nI_1 k, eshr, by omega, fun i hi => ?_⟩
        show lb (x3 ^^^ x5) i ^^^ gmr (8 - (k + 1)) (lb (dbl x5) i) (r / 2) = _
        have := hv i hi
        rw [estep i, if_pos (eodd.mp q3), ← Nat.xor_assoc] at this
        rw [lb_dbl x5 hi, lb_xor]
        exact this
theorem sX5_product {a b : Nat} (ha : a < 256) (hb : b < 256) {post : Int32 → Prop} (h : post (nI (gm a b))) : pX5_product (nI a) (nI b) post := by
  unfold pX5_product
  refine sX5_scaled hb (fun y hy => ?_)
  have e : y = lN (gm a b) := by
    apply lb_ext
    intro i hi
    rw [hy i hi, nI_l (by omega), lb_small ha, lb_small (gm_lt ha)]
    split
    · rfl
    · exact gm_zero' hb
  rw [e, lN_i]
  exact h
def ginv7 : Nat → Nat → Nat → Nat
  | 0, _, r => r
  | n + 1, p, r => ginv7 n (gm p p) (gm r (gm p p))
theorem gm_E {x y : Nat} (hx : x < 255) (hy : y < 255) : gm (gE x) (gE y) = gE ((x + y) % 255) := by
  have h1 := gE_pos hx
  have h2 := gE_pos hy
  rw [gm_eq (gE_lt hx) (gE_lt hy), if_neg (by omega), gL_gE hx, gL_gE hy]
theorem ginv7_s (n : Nat) {x y : Nat} (hx : x < 255) (hy : y < 255) : ginv7 (n + 1) (gE x) (gE y) = ginv7 n (gE ((x + x) % 255)) (gE ((y + (x + x) % 255) % 255)) := by
  show ginv7 n (gm (gE x) (gE x)) (gm (gE y) (gm (gE x) (gE x))) = _
  rw [gm_E hx hx, gm_E hy (Nat.mod_lt _ (by decide))]
theorem ginv7_eq {a : Nat} (ha : a < 256) (h : a ≠ 0) : ginv7 7 a 1 = gi a := by
  obtain ⟨h1, h2⟩ := gL_at ha h
  unfold gi
  generalize hx : gL a = x at h1 h2 ⊢
  rw [← h1, ← gE_0, ginv7_s 6 h2 (by decide), ginv7_s 5 (Nat.mod_lt _ (by decide)) (Nat.mod_lt _ (by decide)), ginv7_s 4 (Nat.mod_lt _ (by decide)) (Nat.mod_lt _ (by decide)), ginv7_s 3 (Nat.mod_lt _ (by decide)) (Nat.mod_lt _ (by decide)), ginv7_s 2 (Nat.mod_lt _ (by decide)) (Nat.mod_lt _ (by decide)), ginv7_s 1 (Nat.mod_lt _ (by decide)) (Nat.mod_lt _ (by decide)), ginv7_s 0 (Nat.mod_lt _ (by decide)) (Nat.mod_lt _ (by decide))]
  show gE _ = gE _
  congr 1
  omega
theorem sX5_scaledN {a b : Nat} (ha : a < 256) (hb : b < 256) {post : Int64 → Prop} (h : post (lN (gm a b))) : pX5_scaled (lN a) (nI b) post := by
  refine sX5_scaled hb (fun y hy => ?_)
  have e : y = lN (gm a b) := by
    apply lb_ext
    intro i hi
    rw [hy i hi, lb_small ha, lb_small (gm_lt ha)]
    split
    · rfl
    · exact gm_zero' hb
  rw [e]
  exact h
theorem sX5_inverseOf {a : Nat} (ha : a < 256) (h0 : a ≠ 0) {post : Int32 → Prop} (h : post (nI (gi a))) : pX5_inverseOf (nI a) post := by
  unfold pX5_inverseOf pX5_inverseOf_L8
  refine ⟨fun n x1 x3 x5 => ∃ k p r, 1 ≤ k ∧ k ≤ 8 ∧ n = 8 - k ∧ x5 = nI k ∧ x1 = lN p ∧ x3 = lN r ∧ p < 256 ∧ r < 256 ∧ ginv7 (8 - k) p r = gi a, ⟨7, 1, a, 1, by omega, by omega, rfl, rfl, nI_l (by omega), rfl, ha, by omega, ginv7_eq ha h0⟩, ?_⟩
  rintro n x1 x3 x5 ⟨k, p, r, hk1, hk, hn, rfl, rfl, rfl, hp, hr, hv⟩
  unfold pX5_inverseOf_b8
  have e8 : ((8 : Int32) ≤ nI k) ↔ 8 ≤ k := nI_leI (a := 8) (by decide) (by omega)
  refine ⟨fun q => ?_, fun q => ?_⟩
  · have hk8 : k = 8 := by have := e8.mp q; omega
    subst hk8
    have e : r = gi a := hv
    rw [lN_i, e]
    exact h
  · have hk7 : k < 8 := by
      rcases Nat.lt_or_ge k 8 with z | z
      · exact z
      · exact absurd (e8.mpr z) q
    rw [lN_i]
    refine sX5_scaledN hp hp ?_
    rw [lN_i]
    refine sX5_scaledN hr (gm_lt hp) ⟨8 - (k + 1), by omega, k + 1, gm p p, gm r (gm p p), by omega, by omega, rfl, nI_1 k, rfl, rfl, gm_lt hp, gm_lt hr, ?_⟩
    rw [← hv, show 8 - k = (8 - (k + 1)) + 1 by omega]
    rfl
theorem sX6_product {a b : Nat} (ha : a < 256) (hb : b < 256) {post : Int32 → Prop} (h : post (nI (gm a b))) : pX6_product (nI a) (nI b) post := by
  unfold pX6_product pX6_product_L7
  refine ⟨fun n x2 x3 x4 => ∃ s a' b' m, b' = n ∧ x2 = nI s ∧ x3 = nI a' ∧ x4 = nI b' ∧ s < 256 ∧ a' < 256 ∧ m ≤ 8 ∧ b' < 2 ^ m ∧ s ^^^ gmr m a' b' = gm a b, ⟨b, 0, a, b, 8, rfl, rfl, rfl, rfl, by omega, ha, by omega, hb, by rw [Nat.zero_xor]; rfl⟩, ?_⟩
  rintro n x2 x3 x4 ⟨s, a', b', m, rfl, rfl, rfl, rfl, hs, ha', hm, hb', hv⟩
  have hb256 : b' < 256 := Nat.lt_of_lt_of_le hb' (Nat.pow_le_pow_right (by decide) hm)
  unfold pX6_product_b7
  have e0 : (nI b' ≤ 0) ↔ b' ≤ 0 := nI_leI (b := 0) (by omega) (by decide)
  refine ⟨fun q => ?_, fun q => ⟨by decide, ?_⟩⟩
  · have : b' = 0 := by have := e0.mp q; omega
    subst this
    rw [gmr_0, Nat.xor_zero] at hv
    rw [hv]
    exact h
  · have hpos : 0 < b' := by
      rcases Nat.eq_zero_or_pos b' with z | z
      · exact absurd (e0.mpr (by omega)) q
      · exact z
    have hm0 : m ≠ 0 := fun z => by subst z; simp at hb'; omega
    obtain ⟨m', rfl⟩ : ∃ m', m = m' + 1 := ⟨m - 1, by omega⟩
    have erem : nI b' - nI b' / (2 : Int32) * (2 : Int32) = nI (b' % 2) := pk_rem (d := 2) (by omega) (by decide) (by decide)
    have ediv : nI b' / (2 : Int32) = nI (b' / 2) := pk_div (d := 2) (by omega) (by decide) (by decide)
    have eodd : (nI (b' % 2) = (1 : Int32)) ↔ b' % 2 = 1 := nI_eq (a := b' % 2) (b := 1) (by omega) (by decide)
    have emul : nI a' * (2 : Int32) = nI (a' * 2) := pk_mul a' 2
    have e255 : (nI (a' * 2) ≤ (255 : Int32)) ↔ a' * 2 ≤ 255 := nI_leI (b := 255) (by omega) (by decide)
    have hb2 : b' / 2 < 2 ^ m' := by rw [Nat.pow_succ] at hb'; omega
    have hgs : gmr (m' + 1) a' b' = (if b' % 2 = 1 then a' else 0) ^^^ gmr m' (gx2 a') (b' / 2) := rfl
    have mid : ∀ s', s' < 256 → s' ^^^ gmr m' (gx2 a') (b' / 2) = gm a b → pX6_product_b24 post (fun x2 x3 x4 => ∃ k, k < b' ∧ ∃ s a' b' m, b' = k ∧ x2 = nI s ∧ x3 = nI a' ∧ x4 = nI b' ∧ s < 256 ∧ a' < 256 ∧ m ≤ 8 ∧ b' < 2 ^ m ∧ s ^^^ gmr m a' b' = gm a b) (nI s') (nI a') (nI b') := by
      intro s' hs' hv'
      unfold pX6_product_b24 pX6_product_b41
      rw [emul, ediv]
      refine ⟨fun q2 => ⟨by decide, b' / 2, by omega, s', gx2 a', b' / 2, m', rfl, rfl, ?_, rfl, hs', gx2_lt ha', by omega, hb2, hv'⟩, fun q2 => ⟨by decide, b' / 2, by omega, s', gx2 a', b' / 2, m', rfl, rfl, ?_, rfl, hs', gx2_lt ha', by omega, hb2, hv'⟩⟩
      · have := e255.mp q2
        unfold gx2
        rw [if_pos (by omega), Nat.mul_comm]
      · have : ¬ a' * 2 ≤ 255 := fun z => q2 (e255.mpr z)
        unfold gx2
        rw [if_neg (by omega), Nat.mul_comm 2 a']
        exact nx_xor (a' * 2) 283
    rw [erem]
    refine ⟨fun q2 => mid s hs ?_, fun q2 => ?_⟩
    · rw [hgs, if_neg (fun z => q2 (eodd.mpr z)), Nat.zero_xor] at hv
      exact hv
    · rw [show nI s ^^^ nI a' = nI (s ^^^ a') from nx_xor s a']
      refine mid (s ^^^ a') (g_xor_lt hs ha') ?_
      rw [hgs, if_pos (eodd.mp q2), ← Nat.xor_assoc] at hv
      exact hv
theorem sX6_inverseOf {a : Nat} (ha : a < 256) (h0 : a ≠ 0) {post : Int32 → Prop} (h : post (nI (gi a))) : pX6_inverseOf (nI a) post := by
  unfold pX6_inverseOf pX6_inverseOf_L2
  have hg := gi_lt a
  refine ⟨fun n x0 x1 => ∃ b, n = gi a - b ∧ x0 = nI a ∧ x1 = nI b ∧ 1 ≤ b ∧ b ≤ gi a, ⟨gi a - 1, 1, rfl, rfl, rfl, by omega, gi_pos⟩, ?_⟩
  rintro n x0 x1 ⟨b, rfl, rfl, rfl, hb1, hb2⟩
  unfold pX6_inverseOf_b2
  refine sX6_product ha (by omega) ⟨fun q => ?_, fun q => ?_⟩
  · have e : gm a b = 1 := (nI_eq (b := 1) (by have := gm_lt (b := b) ha; omega) (by decide)).mp q
    rw [gi_unique ha (by omega) e]
    exact h
  · have hne : b ≠ gi a := fun e => q (by rw [e, gm_gi ha h0]; rfl)
    exact ⟨gi a - (b + 1), by omega, b + 1, rfl, rfl, nI_1 b, by omega, by omega⟩
theorem lb_mulp {r i : Nat} (hr : r < 256) (hi : i < 8) (j : Nat) : lb (lN (r * 2 ^ (8 * i))) j = if j = i then r else 0 := by
  have hlt : r * 2 ^ (8 * i) < 2 ^ 64 := by
    have h1 : r * 2 ^ (8 * i) < 2 ^ 8 * 2 ^ (8 * i) := Nat.mul_lt_mul_of_pos_right hr (Nat.two_pow_pos _)
    have h2 : 2 ^ 8 * 2 ^ (8 * i) ≤ 2 ^ 64 := by rw [← Nat.pow_add]; exact Nat.pow_le_pow_right (by decide) (by omega)
    omega
  rw [lb_lN hlt]
  by_cases e : j = i
  · subst e
    rw [if_pos rfl, Nat.mul_div_cancel _ (Nat.two_pow_pos _), Nat.mod_eq_of_lt hr]
  · rw [if_neg e]
    rcases Nat.lt_or_ge j i with q | q
    · rw [show 8 * i = 8 * (i - j) + 8 * j by omega, Nat.pow_add, ← Nat.mul_assoc, Nat.mul_div_cancel _ (Nat.two_pow_pos _), show 8 * (i - j) = 8 * (i - j - 1) + 8 by omega, Nat.pow_add, ← Nat.mul_assoc]
      exact Nat.mul_mod_left _ _
    · rw [Nat.div_eq_of_lt]
      have h1 : r * 2 ^ (8 * i) < 2 ^ 8 * 2 ^ (8 * i) := Nat.mul_lt_mul_of_pos_right hr (Nat.two_pow_pos _)
      have h2 : 2 ^ 8 * 2 ^ (8 * i) ≤ 2 ^ (8 * j) := by rw [← Nat.pow_add]; exact Nat.pow_le_pow_right (by decide) (by omega)
      omega
theorem lb_sshr (x : Int64) {i : Nat} (hi : i < 8) : ((x >>> ((nI (8 * i)).toInt64 &&& 63)) &&& (255 : Int64)).toInt32 = nI (lb x i) := by
  have e : (x >>> ((nI (8 * i)).toInt64 &&& 63)) &&& (255 : Int64) = lN (lb x i) := by
    apply Int64.toBitVec_inj.mp
    apply BitVec.eq_of_getLsbD_eq
    intro k hk
    rw [Int64.toBitVec_and, BitVec.getLsbD_and, Int64.toBitVec_shiftRight, wb_c (8 * i) (by omega)]
    show ((x.toBitVec.sshiftRight ((lN (8 * i)).toBitVec.smod 64).toNat).getLsbD k && (BitVec.ofNat 64 255).getLsbD k) = (BitVec.ofNat 64 (lb x i)).getLsbD k
    rw [wb_tb, wb_sm (8 * i) (by omega), BitVec.toNat_ofNat, Nat.mod_eq_of_lt (show 8 * i < 2 ^ 64 by omega), BitVec.getLsbD_sshiftRight, BitVec.getLsbD_ofNat, BitVec.getLsbD_ofNat, decide_eq_true hk, Bool.true_and, Bool.true_and, lb_bit]
    rw [show (255 : Nat) = 2 ^ 8 - 1 from rfl, Nat.testBit_two_pow_sub_one]
    by_cases h8 : k < 8
    · have : 8 * i + k < 64 := by omega
      simp [h8, this, lbit, hk]
    · simp [h8]
  rw [e, lN_i]
theorem sX6_product_ {f : Nat} (hf : f < 256) {x : Int64} {post : Int64 → Prop} (h : ∀ y, (∀ i, i < 8 → lb y i = gm f (lb x i)) → post y) : pX6_product_ (nI f) x post := by
  unfold pX6_product_ pX6_product__L5
  refine ⟨fun n x0 x1 x3 x5 => ∃ i, i ≤ 8 ∧ n = 8 - i ∧ x0 = nI f ∧ x = x1 ∧ x5 = nI (8 * i) ∧ ∀ j, j < 8 → lb x3 j = if j < i then gm f (lb x j) else 0, ⟨8, 0, by omega, rfl, rfl, rfl, rfl, fun j _ => ?_⟩, ?_⟩
  · rw [lb_0, if_neg (by omega)]
  · rintro n x0 x1 x3 x5 ⟨i, hi, hn, rfl, rfl, rfl, hv⟩
    unfold pX6_product__b5
    have e64 : ((64 : Int32) ≤ nI (8 * i)) ↔ 64 ≤ 8 * i := nI_leI (a := 64) (by decide) (by omega)
    refine ⟨fun q => h x3 (fun j hj => ?_), fun q => ?_⟩
    · have := e64.mp q
      rw [hv j hj, if_pos (by omega)]
    · have hi7 : i < 8 := by
        rcases Nat.lt_or_ge i 8 with z | z
        · exact z
        · exact absurd (e64.mpr (by omega)) q
      rw [lb_sshr x hi7]
      refine sX6_product hf (lb_lt x i) ⟨8 - (i + 1), by omega, i + 1, by omega, rfl, rfl, rfl, nI_add (8 * i) 8, fun j hj => ?_⟩
      have hg := gm_lt (b := lb x i) hf
      rw [lb_or, nI_l (by omega), wb_shl _ (by omega), lb_mulp hg hi7, hv j hj]
      by_cases e : j = i
      · subst e
        rw [if_neg (by omega), if_pos rfl, if_pos (by omega), Nat.zero_or]
      · rw [if_neg e, Nat.or_zero]
        by_cases e2 : j < i
        · rw [if_pos e2, if_pos (by omega)]
        · rw [if_neg e2, if_neg (by omega)]
