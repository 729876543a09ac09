/-! lack: the model -/
def KI (c : Nat) (N N' : zM) : Prop := (∀ a, a ≠ c → N'.1 a = N.1 a) ∧ N'.2 = N.2
theorem KI.rf {c : Nat} {N : zM} : KI c N N := ⟨fun _ _ => rfl, rfl⟩
theorem KI.tr {c : Nat} {N N' N2 : zM} (h : KI c N N') (h2 : KI c N' N2) : KI c N N2 := ⟨fun a ha => (h2.1 a ha).trans (h.1 a ha), h2.2.trans h.2⟩
theorem KI.si {c : Nat} {N : zM} {k : Nat} {v : Int32} : KI c N (zsi N c k v) := ⟨fun a ha => by simp [zsi, zri, ha], rfl⟩
theorem KI.m {c : Nat} {N N' : zM} (h : KI c N N') (hc : 30 ≤ c) : KM N N' := ⟨fun a h1 h2 => h.1 a (by omega), fun k _ => by rw [h.1 21 (by omega)], fun a _ _ => by rw [h.2]⟩
theorem ofs5 (a b : Nat) : (5 : Int32) * nI a + nI b = nI (5 * a + b) := by
  rw [show (5 : Int32) * nI a = nI (5 * a) from pk_mul 5 a, nI_add]
theorem gSw_t {B : Nat → Nat → Nat} {s top : Nat} (k : Nat) : gSw B s top top k = B s k := by
  unfold gSw
  by_cases e : top = s
  · rw [if_pos e, e]
  · rw [if_neg e, if_pos rfl]
theorem gSw_lt {B : Nat → Nat → Nat} (hB : ∀ r k, B r k < 256) {s top : Nat} (r k : Nat) : gSw B s top r k < 256 := by
  unfold gSw
  split
  · exact hB _ _
  · split <;> exact hB _ _
theorem sX6_isSolvable {h n : Nat} {A : Nat → Nat → Nat} {N : zM} (h4 : h ≤ 4) (n4 : n ≤ 4) (hH : N.1 21 3 = nI h) (bA : ∀ r k, A r k < 256) (hA : ∀ r k, r < n → k < 5 → N.1 40 (5 * r + k) = nI (A r k)) {post : Int32 → zM → Prop}
    (ht : (∃ y, nb y ∧ solv h n A y) → ∀ N', KI 40 N N' → post 1 N') (hf : (¬ ∃ y, nb y ∧ solv h n A y) → ∀ N', KI 40 N N' → post 0 N') : pX6_isSolvable N (nI n) post := by
  unfold pX6_isSolvable pX6_isSolvable_L4
  refine ⟨fun m x1 x2 x3 N1 => ∃ c top B, c ≤ h ∧ m = h - c ∧ x1 = nI n ∧ x2 = nI top ∧ x3 = nI c ∧ KI 40 N N1 ∧ GI h n A c top B ∧ ∀ r k, r < n → k < 5 → N1.1 40 (5 * r + k) = nI (B r k), ⟨h, 0, 0, A, by omega, rfl, rfl, rfl, rfl, KI.rf, GI_0 bA, hA⟩, ?_⟩
  rintro m x1 x2 x3 N1 ⟨c, top, B, hc, hm, rfl, rfl, rfl, hK, G, hB⟩
  have hH1 : N1.1 21 3 = nI h := by rw [hK.1 21 (by decide)]; exact hH
  have htop : top ≤ n := G.2.2.2.2
  have bB := G.1
  unfold pX6_isSolvable_b4
  rw [hH1]
  refine lp (by omega) hc (fun e => ?_) (fun hc2 => ?_)
  · subst e
    unfold pX6_isSolvable_L227
    refine ⟨fun m x1 x3 N2 => ∃ r, top ≤ r ∧ r ≤ n ∧ m = n - r ∧ x1 = nI n ∧ x3 = nI r ∧ N2 = N1 ∧ ∀ r', top ≤ r' → r' < r → B r' 4 = 0, ⟨n - top, top, by omega, htop, rfl, rfl, rfl, rfl, fun _ _ _ => by omega⟩, ?_⟩
    rintro m x1 x3 N2 ⟨r, hr1, hr, hm, rfl, rfl, rfl, hz⟩
    unfold pX6_isSolvable_b227
    refine lp (by omega) hr (fun e => ⟨Or.inr rfl, ht ((GI_end G).mp (fun r' a b => hz r' a (by omega))) N2 hK⟩) (fun hr2 => ?_)
    have blt := bB r 4
    rw [show (5 : Int32) * nI r + 4 = nI (5 * r + 4) from ofs5 r 4, nI_clamp (by omega), hB r 4 hr2 (by omega)]
    refine ⟨vp_in_nI (by omega) (by decide), nI_e0 (by omega) (fun e => ⟨n - (r + 1), by omega, r + 1, by omega, by omega, rfl, rfl, nI_1 r, rfl, fun r' a b => ?_⟩) (fun e => ⟨Or.inl rfl, hf (fun q => e ((GI_end G).mpr q r hr1 hr2)) N2 hK⟩)⟩
    rcases (show r' < r ∨ r' = r by omega) with z | z
    · exact hz r' a z
    · rw [z]; exact e
  · unfold pX6_isSolvable_L15
    refine ⟨fun m' x1 x2 x3 x4 N2 => ∃ s, top ≤ s ∧ s ≤ n ∧ m' = n - s ∧ x1 = nI n ∧ x2 = nI top ∧ x3 = nI c ∧ x4 = nI s ∧ N2 = N1 ∧ ∀ r, top ≤ r → r < s → B r c = 0, ⟨n - top, top, by omega, htop, rfl, rfl, rfl, rfl, rfl, rfl, fun _ _ _ => by omega⟩, ?_⟩
    rintro m' x1 x2 x3 x4 N2 ⟨s, hs1, hs, hm', rfl, rfl, rfl, rfl, rfl, hz⟩
    unfold pX6_isSolvable_b15 pX6_isSolvable_b41 pX6_isSolvable_b219
    refine lp (by omega) hs (fun e => ⟨fun q => absurd (by rw [e]) q, fun _ => ⟨h - (c + 1), by omega, c + 1, top, B, by omega, rfl, rfl, rfl, nI_1 c, hK, GI_skip G (fun r a b => hz r a (by omega)), hB⟩⟩) (fun hs2 => ?_)
    have blt := bB s c
    have hrd : N2.1 40 ((5 : Int32) * nI s + nI c).toNatClampNeg = nI (B s c) := by rw [ofs5, nI_clamp (by omega), hB s c hs2 (by omega)]
    rw [hrd]
    refine ⟨by rw [ofs5]; exact vp_in_nI (by omega) (by decide), fun q => ⟨fun _ => ?_, fun q2 => absurd ((nI_eq (by omega) (by omega)).mp q2) (by omega)⟩, fun q => ⟨n - (s + 1), by omega, s + 1, by omega, by omega, rfl, rfl, rfl, rfl, nI_1 s, rfl, fun r a b => ?_⟩⟩
    · have hnz : B s c ≠ 0 := fun e => q (by rw [e]; rfl)
      have bS := gSw_lt bB (s := s) (top := top)
      unfold pX6_isSolvable_L53
      refine ⟨fun m' x1 x2 x3 x4 x5 N3 => ∃ k, k ≤ 5 ∧ m' = 5 - k ∧ x1 = nI n ∧ x2 = nI top ∧ x3 = nI c ∧ x4 = nI s ∧ x5 = nI k ∧ KI 40 N N3 ∧ ∀ r k', r < n → k' < 5 → N3.1 40 (5 * r + k') = nI (if k' < k then gSw B s top r k' else B r k'), ⟨5, 0, by omega, rfl, rfl, rfl, rfl, rfl, rfl, hK, fun r k' a b => by rw [if_neg (by omega)]; exact hB r k' a b⟩, ?_⟩
      rintro m2 x1 x2 x3 x4 x5 N3 ⟨k, hk, hm2, rfl, rfl, rfl, rfl, rfl, hK3, hv3⟩
      unfold pX6_isSolvable_b53
      refine lp (n := 5) (by omega) hk (fun e => ?_) (fun hk2 => ?_)
      · subst e
        have hS : ∀ r k', r < n → k' < 5 → N3.1 40 (5 * r + k') = nI (gSw B s top r k') := fun r k' a b => by rw [hv3 r k' a b, if_pos b]
        rw [ofs5, nI_clamp (by omega), hS top c (by omega) (by omega)]
        have hnz' : gSw B s top top c ≠ 0 := by rw [gSw_t]; exact hnz
        refine ⟨vp_in_nI (by omega) (by decide), sX6_inverseOf (bS _ _) hnz' ?_⟩
        unfold pX6_isSolvable_L135
        refine ⟨fun m' x1 x2 x3 x5 x6 N4 => ∃ r, top < r ∧ r ≤ n ∧ m' = n - r ∧ x1 = nI n ∧ x2 = nI top ∧ x3 = nI c ∧ x5 = nI (gi (gSw B s top top c)) ∧ x6 = nI r ∧ KI 40 N N4 ∧ ∀ r' k', r' < n → k' < 5 → N4.1 40 (5 * r' + k') = nI (if top < r' ∧ r' < r then gEl (gSw B s top) top c r' k' else gSw B s top r' k'), ⟨n - (top + 1), top + 1, by omega, by omega, rfl, rfl, rfl, rfl, rfl, nI_1 top, hK3, fun r' k' a b => by rw [if_neg (by omega)]; exact hS r' k' a b⟩, ?_⟩
        rintro m3 x1 x2 x3 x5 x6 N4 ⟨r, hr1, hr, hm3, rfl, rfl, rfl, rfl, rfl, hK4, hv4⟩
        unfold pX6_isSolvable_b135 pX6_isSolvable_b219
        refine lp (by omega) hr (fun e => ⟨h - (c + 1), by omega, c + 1, top + 1, gNew B s top c, by omega, rfl, rfl, nI_1 top, nI_1 c, hK4, GI_step G hc2 hs1 hs2 hnz, fun r' k' a b => ?_⟩) (fun hr2 => ?_)
        · rw [hv4 r' k' a b]
          unfold gNew
          by_cases e2 : top < r'
          · rw [if_pos e2, if_pos (by omega)]
          · rw [if_neg e2, if_neg (by omega)]
        · rw [ofs5, nI_clamp (by omega), hv4 r c hr2 (by omega), if_neg (by omega)]
          refine ⟨vp_in_nI (by omega) (by decide), sX6_product (gi_lt _) (bS _ _) ?_⟩
          have bg : gm (gi (gSw B s top top c)) (gSw B s top r c) < 256 := gm_lt (gi_lt _)
          unfold pX6_isSolvable_L162
          refine ⟨fun m' x1 x2 x3 x5 x6 x7 x8 N5 => ∃ k, k ≤ 5 ∧ m' = 5 - k ∧ x1 = nI n ∧ x2 = nI top ∧ x3 = nI c ∧ x5 = nI (gi (gSw B s top top c)) ∧ x6 = nI r ∧ x7 = nI (gm (gi (gSw B s top top c)) (gSw B s top r c)) ∧ x8 = nI k ∧ KI 40 N N5 ∧ ∀ r' k', r' < n → k' < 5 → N5.1 40 (5 * r' + k') = nI (if top < r' ∧ (r' < r ∨ (r' = r ∧ k' < k)) then gEl (gSw B s top) top c r' k' else gSw B s top r' k'), ⟨5, 0, by omega, rfl, rfl, rfl, rfl, rfl, rfl, rfl, rfl, hK4, fun r' k' a b => ?_⟩, ?_⟩
          · rw [hv4 r' k' a b]
            by_cases e2 : top < r' ∧ r' < r
            · rw [if_pos e2, if_pos (by omega)]
            · rw [if_neg e2, if_neg (by omega)]
          · rintro m4 x1 x2 x3 x5 x6 x7 x8 N5 ⟨k, hk, hm4, rfl, rfl, rfl, rfl, rfl, rfl, rfl, hK5, hv5⟩
            unfold pX6_isSolvable_b162 pX6_isSolvable_b210
            refine lp (n := 5) (by omega) hk (fun e => ⟨n - (r + 1), by omega, r + 1, by omega, by omega, rfl, rfl, rfl, rfl, rfl, nI_1 r, hK5, fun r' k' a b => ?_⟩) (fun hk2 => nI_e0 (by omega) (fun e0 => ⟨n - (r + 1), by omega, r + 1, by omega, by omega, rfl, rfl, rfl, rfl, rfl, nI_1 r, hK5, fun r' k' a b => ?_⟩) (fun e0 => ?_))
            · rw [hv5 r' k' a b]
              by_cases e2 : top < r' ∧ r' < r + 1
              · rw [if_pos e2, if_pos (by omega)]
              · rw [if_neg e2, if_neg (by omega)]
            · rw [hv5 r' k' a b]
              by_cases e2 : r' = r
              · have : gEl (gSw B s top) top c r' k' = gSw B s top r' k' := by
                  unfold gEl
                  rw [e2, e0, gm_zero' (bS _ _), Nat.xor_zero]
                rw [this]
                split <;> split <;> rfl
              · by_cases e3 : top < r' ∧ r' < r
                · rw [if_pos (by omega), if_pos (by omega)]
                · rw [if_neg (by omega), if_neg (by omega)]
            · rw [ofs5, ofs5, nI_clamp (n := 5 * r + k) (by omega), nI_clamp (n := 5 * top + k) (by omega), hv5 r k hr2 hk2, if_neg (by omega), hv5 top k (by omega) hk2, if_neg (by omega)]
              refine ⟨vp_in_nI (by omega) (by decide), vp_in_nI (by omega) (by decide), sX6_product bg (bS _ _) ⟨vp_in_nI (by omega) (by decide), 5 - (k + 1), by omega, k + 1, by omega, rfl, rfl, rfl, rfl, rfl, rfl, rfl, nI_1 k, hK5.tr KI.si, fun r' k' a b => ?_⟩⟩
              show upd (N5.1 40) (5 * r + k) _ (5 * r' + k') = _
              by_cases e2 : r' = r ∧ k' = k
              · rw [e2.1, e2.2, pk_us, if_pos (by omega), nx_xor]
                rfl
              · rw [pk_un (by omega), hv5 r' k' a b]
                by_cases e3 : top < r' ∧ (r' < r ∨ (r' = r ∧ k' < k))
                · rw [if_pos e3, if_pos (by omega)]
                · rw [if_neg e3, if_neg (by omega)]
      · have r1 : N3.1 40 ((5 : Int32) * nI s + nI k).toNatClampNeg = nI (B s k) := by rw [ofs5, nI_clamp (by omega), hv3 s k hs2 hk2, if_neg (by omega)]
        have r2 : N3.1 40 ((5 : Int32) * nI top + nI k).toNatClampNeg = nI (B top k) := by rw [ofs5, nI_clamp (by omega), hv3 top k (by omega) hk2, if_neg (by omega)]
        rw [r1, r2, ofs5, ofs5, nI_clamp (n := 5 * s + k) (by omega), nI_clamp (n := 5 * top + k) (by omega)]
        refine ⟨vp_in_nI (by omega) (by decide), vp_in_nI (by omega) (by decide), vp_in_nI (by omega) (by decide), vp_in_nI (by omega) (by decide), 5 - (k + 1), by omega, k + 1, by omega, rfl, rfl, rfl, rfl, rfl, nI_1 k, hK3.tr (KI.si.tr KI.si), fun r k' a b => ?_⟩
        show upd (upd (N3.1 40) (5 * s + k) (nI (B top k))) (5 * top + k) (nI (B s k)) (5 * r + k') = _
        by_cases ek : k' = k
        · subst ek
          rw [if_pos (by omega)]
          by_cases e1 : r = top
          · rw [e1, pk_us, gSw_t]
          · rw [pk_un (by omega)]
            by_cases e2 : r = s
            · rw [e2, pk_us]; unfold gSw; rw [if_pos rfl]
            · rw [pk_un (by omega), hv3 r k' a b, if_neg (by omega)]; unfold gSw; rw [if_neg e2, if_neg e1]
        · rw [pk_un (by omega), pk_un (by omega), hv3 r k' a b]
          by_cases e1 : k' < k
          · rw [if_pos e1, if_pos (by omega)]
          · rw [if_neg e1, if_neg (by omega)]
    · have e : B s c = 0 := (nI_eq (b := 0) (by omega) (by decide)).mp q
      rcases (show r < s ∨ r = s by omega) with z | z
      · exact hz r a z
      · rw [z]; exact e
/-! goes -/
def kv (p : Nat) (z : Nat → Nat) (q : Nat) : Nat := if q = p then 1 else z q
def gA (h told p : Nat) (z w : Nat → Nat) (q : Nat) : Nat := if q = 4 then gs (fun c => if c < told ∨ c = p then gm (w c) (kv p z c) else 0) h else if q < h ∧ ¬ (q < told ∨ q = p) then w q else 0
def mrg (told p : Nat) (z y : Nat → Nat) (q : Nat) : Nat := if q < told ∨ q = p then kv p z q else y q
theorem kv_nb {p : Nat} {z : Nat → Nat} (hz : nb z) : nb (kv p z) := fun q => by
  unfold kv
  split
  · omega
  · exact hz q
theorem mrg_nb {told p : Nat} {z y : Nat → Nat} (hz : nb z) (hy : nb y) : nb (mrg told p z y) := fun q => by
  unfold mrg
  split
  · exact kv_nb hz q
  · exact hy q
theorem gA_lt {h told p : Nat} {z w : Nat → Nat} (hw : nb w) (q : Nat) : gA h told p z w q < 256 := by
  unfold gA
  split
  · refine gs_lt (fun c _ => ?_)
    split
    · exact gm_lt (hw c)
    · omega
  · split
    · exact hw q
    · omega
theorem gA_sum {h told p : Nat} (h4 : h ≤ 4) {z w y : Nat → Nat} (hy : nb y) : gs (fun q => gm (gA h told p z w q) (y q)) h ^^^ gA h told p z w 4 = gs (fun q => gm (w q) (mrg told p z y q)) h := by
  have e : gA h told p z w 4 = gs (fun c => if c < told ∨ c = p then gm (w c) (kv p z c) else 0) h := if_pos rfl
  rw [e, ← gs_xor]
  refine gs_cong (fun q hq => ?_)
  have e2 : gA h told p z w q = if q < h ∧ ¬ (q < told ∨ q = p) then w q else 0 := if_neg (by omega)
  rw [e2]
  unfold mrg
  by_cases e3 : q < told ∨ q = p
  · rw [if_neg (fun a => a.2 e3), if_pos e3, if_pos e3, gm_zero' (hy q), Nat.zero_xor]
  · rw [if_pos ⟨hq, e3⟩, if_neg e3, if_neg e3, Nat.xor_zero]
theorem goes_iff {h k : Nat} {V : Nat → Nat → Nat} {pv : Nat → Bool} {u : Nat → Nat → Nat} {la : Nat → Nat} {N : zM} (h4 : h ≤ 4) (S : YR h k V pv u la N) {told p : Nat} (hp : p < h) {z : Nat → Nat} (bz : nb z) : (∃ y, nb y ∧ solv h k (fun r => gA h told p z (u (la r))) y) ↔ ∃ y, nb y ∧ nul h k V y ∧ y p = 1 ∧ ∀ i, i < told → i ≠ p → y i = z i := by
  refine ⟨fun ⟨y, hy, hs⟩ => ⟨mrg told p z y, mrg_nb bz hy, (nul_u S.1.1 (mrg_nb bz hy)).mpr (fun p' hp' => ?_), ?_, fun i hi hne => ?_⟩, fun ⟨y, hy, hn, h1, h2⟩ => ⟨y, hy, fun r hr => ?_⟩⟩
  · cases hq : pv p' with
    | false => exact gs_zero (fun q _ => by rw [(S.1.1.2.2.1 p' hp' hq).1 q]; exact gm_zero' (mrg_nb bz hy q))
    | true =>
      obtain ⟨r, hr, e⟩ := S.2.2.2.1 p' hp' hq
      rw [← e, ← gA_sum h4 hy, hs r hr, Nat.xor_self]
  · unfold mrg kv; rw [if_pos (Or.inr rfl), if_pos rfl]
  · unfold mrg kv; rw [if_pos (Or.inl hi), if_neg hne]
  · have hm : ∀ q, mrg told p z y q = y q := fun q => by
      unfold mrg
      by_cases e : q < told ∨ q = p
      · rw [if_pos e]
        unfold kv
        by_cases e2 : q = p
        · rw [if_pos e2, e2, h1]
        · rw [if_neg e2, h2 q (by omega) e2]
      · rw [if_neg e]
    refine x_eq ?_
    show gs (fun q => gm (gA h told p z (u (la r)) q) (y q)) h ^^^ gA h told p z (u (la r)) 4 = 0
    rw [gA_sum h4 hy]
    simp only [hm]
    exact (nul_u S.1.1 hy).mp hn _ (S.2.1 r hr).1
theorem YR.Ki {h k : Nat} {V : Nat → Nat → Nat} {pv : Nat → Bool} {u : Nat → Nat → Nat} {la : Nat → Nat} {N N' : zM} (S : YR h k V pv u la N) (h21 : N'.1 21 = N.1 21) (h35 : N'.1 35 = N.1 35) (h36 : N'.1 36 = N.1 36) : YR h k V pv u la N' := by
  unfold YR
  rw [h36, h35, h21]
  exact S
theorem sX6_goes {h k : Nat} {V : Nat → Nat → Nat} {pv : Nat → Bool} {u : Nat → Nat → Nat} {la : Nat → Nat} {N : zM} (h4 : h ≤ 4) (hH : N.1 21 3 = nI h) (S : YR h k V pv u la N) {told p : Nat} (hp : p < h) (htold : told ≤ h) {z : Nat → Nat} (bz : nb z) (hz : ∀ i, i < told → i ≠ p → N.1 39 i = nI (z i)) {post : Int32 → zM → Prop}
    (ht : (∃ y, nb y ∧ nul h k V y ∧ y p = 1 ∧ ∀ i, i < told → i ≠ p → y i = z i) → ∀ N', KI 40 N N' → post 1 N') (hf : (¬ ∃ y, nb y ∧ nul h k V y ∧ y p = 1 ∧ ∀ i, i < told → i ≠ p → y i = z i) → ∀ N', KI 40 N N' → post 0 N') : pX6_goes N (nI told) (nI p) post := by
  have bu : ∀ p, nb (u p) := S.1.1.1.1
  have hkh := EL_k S.1.1
  unfold pX6_goes pX6_goes_L5
  refine ⟨fun m x1 x2 x3 x4 N1 => ∃ j, j ≤ k ∧ m = k - j ∧ x1 = nI told ∧ x2 = nI p ∧ x3 = nI j ∧ x4 = nI j ∧ KI 40 N N1 ∧ ∀ r q, r < j → q < 5 → N1.1 40 (5 * r + q) = nI (gA h told p z (u (la r)) q), ⟨k, 0, by omega, rfl, rfl, rfl, rfl, rfl, KI.rf, fun r q hr => by omega⟩, ?_⟩
  rintro m x1 x2 x3 x4 N1 ⟨j, hj, hm, rfl, rfl, rfl, rfl, hK, hA⟩
  have h22 : N1.1 21 22 = nI k := by rw [hK.1 21 (by decide)]; exact S.2.2.2.2.2
  unfold pX6_goes_b5
  rw [h22]
  refine lp (by omega) hj (fun e => ?_) (fun hj2 => ?_)
  · subst e
    refine sX6_isSolvable h4 (by omega) (by rw [hK.1 21 (by decide)]; exact hH) (A := fun r => gA h told p z (u (la r))) (fun r q => gA_lt (bu _) q) hA (fun hy N' hK' => ⟨Or.inr rfl, ht ((goes_iff h4 S hp bz).mp hy) N' (hK.tr hK')⟩) (fun hy N' hK' => ⟨Or.inl rfl, hf (fun q => hy ((goes_iff h4 S hp bz).mpr q)) N' (hK.tr hK')⟩)
  · unfold pX6_goes_L17
    refine ⟨fun m' x1 x2 x3 x4 x5 N2 => ∃ c, c ≤ 5 ∧ m' = 5 - c ∧ x1 = nI told ∧ x2 = nI p ∧ x3 = nI j ∧ x4 = nI j ∧ x5 = nI c ∧ KI 40 N N2 ∧ (∀ r q, r < j → q < 5 → N2.1 40 (5 * r + q) = nI (gA h told p z (u (la r)) q)) ∧ ∀ q, q < c → N2.1 40 (5 * j + q) = 0, ⟨5, 0, by omega, rfl, rfl, rfl, rfl, rfl, rfl, hK, hA, fun q hq => by omega⟩, ?_⟩
    rintro m' x1 x2 x3 x4 x5 N2 ⟨c, hc, hm', rfl, rfl, rfl, rfl, rfl, hK2, hA2, hz2⟩
    unfold pX6_goes_b17
    refine lp (n := 5) (by omega) hc (fun e => ?_) (fun hc2 => ?_)
    · subst e
      unfold pX6_goes_L44
      refine ⟨fun m' x1 x2 x3 x4 x5 N3 => ∃ c, c ≤ h ∧ m' = h - c ∧ x1 = nI told ∧ x2 = nI p ∧ x3 = nI j ∧ x4 = nI j ∧ x5 = nI c ∧ KI 40 N N3 ∧ (∀ r q, r < j → q < 5 → N3.1 40 (5 * r + q) = nI (gA h told p z (u (la r)) q)) ∧ (∀ q, q < 4 → N3.1 40 (5 * j + q) = nI (if q < c ∧ ¬ (q < told ∨ q = p) then u (la j) q else 0)) ∧ N3.1 40 (5 * j + 4) = nI (gs (fun c => if c < told ∨ c = p then gm (u (la j) c) (kv p z c) else 0) c), ⟨h, 0, by omega, rfl, rfl, rfl, rfl, rfl, rfl, hK2, hA2, fun q hq => by rw [hz2 q (by omega), if_neg (by omega)]; rfl, by rw [hz2 4 (by omega)]; rfl⟩, ?_⟩
      rintro m3 x1 x2 x3 x4 x5 N3 ⟨c, hc, hm3, rfl, rfl, rfl, rfl, rfl, hK3, hA3, hr3, h43⟩
      have hH3 : N3.1 21 3 = nI h := by rw [hK3.1 21 (by decide)]; exact hH
      have S3 : YR h k V pv u la N3 := S.Ki (hK3.1 21 (by decide)) (hK3.1 35 (by decide)) (hK3.1 36 (by decide))
      unfold pX6_goes_b44 pX6_goes_b138
      rw [hH3]
      refine lp (by omega) hc (fun e => ⟨k - (j + 1), by omega, j + 1, by omega, rfl, rfl, rfl, nI_1 j, nI_1 j, hK3, fun r q hr hq => ?_⟩) (fun hc2 => ?_)
      · subst e
        rcases (show r < j ∨ r = j by omega) with e1 | e1
        · exact hA3 r q e1 hq
        · rw [e1]
          unfold gA
          by_cases e2 : q = 4
          · rw [if_pos e2, e2]; exact h43
          · rw [if_neg e2]; exact hr3 q (by omega)
      · have known : (c < told ∨ c = p) → pX6_goes_b65 post (fun x1 x2 x3 x4 N1 => ∃ k_1, k_1 < m ∧ ∃ j, j ≤ k ∧ k_1 = k - j ∧ x1 = nI told ∧ x2 = nI p ∧ x3 = nI j ∧ x4 = nI j ∧ KI 40 N N1 ∧ ∀ r q, r < j → q < 5 → N1.1 40 (5 * r + q) = nI (gA h told p z (u (la r)) q)) (fun x1 x2 x3 x4 x5 N3 => ∃ k_1, k_1 < m3 ∧ ∃ c, c ≤ h ∧ k_1 = h - c ∧ x1 = nI told ∧ x2 = nI p ∧ x3 = nI j ∧ x4 = nI j ∧ x5 = nI c ∧ KI 40 N N3 ∧ (∀ r q, r < j → q < 5 → N3.1 40 (5 * r + q) = nI (gA h told p z (u (la r)) q)) ∧ (∀ q, q < 4 → N3.1 40 (5 * j + q) = nI (if q < c ∧ ¬ (q < told ∨ q = p) then u (la j) q else 0)) ∧ N3.1 40 (5 * j + 4) = nI (gs (fun c => if c < told ∨ c = p then gm (u (la j) c) (kv p z c) else 0) c)) (nI told) (nI p) (nI j) (nI j) (nI c) N3 := by
          intro hkn
          unfold pX6_goes_b65 pX6_goes_b106 pX6_goes_b138
          rw [show (5 : Int32) * nI j + 4 = nI (5 * j + 4) from ofs5 j 4, ofs9, nI_clamp (n := 5 * j + 4) (by omega), nI_clamp (n := 9 * j + c) (by omega), nI_clamp (n := c) (by omega), h43, S3.2.2.2.2.1 j c hj2 (by omega)]
          have fin : ∀ v : Nat, v = kv p z c → pX6_product (nI (u (la j) c)) (nI v) (fun r106 => vp_in (nI (5 * j + 4)) 25 ∧ ∃ k_1, k_1 < m3 ∧ ∃ c_1, c_1 ≤ h ∧ k_1 = h - c_1 ∧ nI told = nI told ∧ nI p = nI p ∧ nI j = nI j ∧ nI j = nI j ∧ nI c + 1 = nI c_1 ∧ KI 40 N (zsi N3 40 (5 * j + 4) (nI (gs (fun c => if c < told ∨ c = p then gm (u (la j) c) (kv p z c) else 0) c) ^^^ r106)) ∧ (∀ r q, r < j → q < 5 → (zsi N3 40 (5 * j + 4) (nI (gs (fun c => if c < told ∨ c = p then gm (u (la j) c) (kv p z c) else 0) c) ^^^ r106)).1 40 (5 * r + q) = nI (gA h told p z (u (la r)) q)) ∧ (∀ q, q < 4 → (zsi N3 40 (5 * j + 4) (nI (gs (fun c => if c < told ∨ c = p then gm (u (la j) c) (kv p z c) else 0) c) ^^^ r106)).1 40 (5 * j + q) = nI (if q < c_1 ∧ ¬ (q < told ∨ q = p) then u (la j) q else 0)) ∧ (zsi N3 40 (5 * j + 4) (nI (gs (fun c => if c < told ∨ c = p then gm (u (la j) c) (kv p z c) else 0) c) ^^^ r106)).1 40 (5 * j + 4) = nI (gs (fun c => if c < told ∨ c = p then gm (u (la j) c) (kv p z c) else 0) c_1)) := by
            intro v hv
            have bv : v < 256 := by rw [hv]; exact kv_nb bz c
            refine sX6_product (bu _ _) bv ⟨vp_in_nI (by omega) (by decide), h - (c + 1), by omega, c + 1, by omega, rfl, rfl, rfl, rfl, rfl, nI_1 c, hK3.tr KI.si, fun r q hr hq => ?_, fun q hq => ?_, ?_⟩
            · show upd (N3.1 40) (5 * j + 4) _ (5 * r + q) = _
              rw [pk_un (by omega)]; exact hA3 r q hr hq
            · show upd (N3.1 40) (5 * j + 4) _ (5 * j + q) = _
              rw [pk_un (by omega), hr3 q hq]
              by_cases e : q = c
              · rw [if_neg (by omega), if_neg (by rw [e]; exact fun a => a.2 hkn)]
              · by_cases e2 : q < c ∧ ¬ (q < told ∨ q = p)
                · rw [if_pos e2, if_pos (by omega)]
                · rw [if_neg e2, if_neg (by omega)]
            · show upd (N3.1 40) (5 * j + 4) _ (5 * j + 4) = _
              rw [pk_us, gs_succ, if_pos hkn, nx_xor, hv]
          refine ⟨vp_in_nI (by omega) (by decide), vp_in_nI (by omega) (by decide), fun q => ⟨vp_in_nI (by omega) (by decide), ?_⟩, fun q => ?_⟩
          · have hne : c ≠ p := fun e => q (by rw [e])
            have h39 : N3.1 39 c = nI (z c) := by rw [hK3.1 39 (by decide)]; exact hz c (by omega) hne
            rw [h39]
            exact fin (z c) (by unfold kv; rw [if_neg hne])
          · have he : c = p := (nI_eq (by omega) (by omega)).mp q
            exact fin 1 (by unfold kv; rw [if_pos he])
        refine lt2 (by omega) (by omega) (fun e => known (Or.inl e)) (fun e => ⟨fun q => ?_, fun q => known (Or.inr ((nI_eq (by omega) (by omega)).mp q))⟩)
        have hne : c ≠ p := fun e => q (by rw [e])
        rw [ofs9, ofs5, nI_clamp (n := 5 * j + c) (by omega), nI_clamp (n := 9 * j + c) (by omega), S3.2.2.2.2.1 j c hj2 (by omega)]
        refine ⟨vp_in_nI (by omega) (by decide), vp_in_nI (by omega) (by decide), h - (c + 1), by omega, c + 1, by omega, rfl, rfl, rfl, rfl, rfl, nI_1 c, hK3.tr KI.si, fun r q hr hq => ?_, fun q hq => ?_, ?_⟩
        · show upd (N3.1 40) (5 * j + c) _ (5 * r + q) = _
          rw [pk_un (by omega)]; exact hA3 r q hr hq
        · show upd (N3.1 40) (5 * j + c) _ (5 * j + q) = _
          by_cases e2 : q = c
          · rw [e2, pk_us, if_pos (by omega)]
          · rw [pk_un (by omega), hr3 q hq]
            by_cases e3 : q < c ∧ ¬ (q < told ∨ q = p)
            · rw [if_pos e3, if_pos (by omega)]
            · rw [if_neg e3, if_neg (by omega)]
        · show upd (N3.1 40) (5 * j + c) _ (5 * j + 4) = _
          rw [pk_un (by omega), h43, gs_succ, if_neg (by omega), Nat.xor_zero]
    · rw [ofs5, nI_clamp (by omega)]
      refine ⟨vp_in_nI (by omega) (by decide), 5 - (c + 1), by omega, c + 1, by omega, rfl, rfl, rfl, rfl, rfl, nI_1 c, hK2.tr KI.si, fun r q hr hq => ?_, fun q hq => ?_⟩
      · show upd (N2.1 40) (5 * j + c) _ (5 * r + q) = _
        rw [pk_un (by omega)]; exact hA2 r q hr hq
      · show upd (N2.1 40) (5 * j + c) _ (5 * j + q) = _
        by_cases e : q = c
        · rw [e, pk_us]
        · rw [pk_un (by omega)]; exact hz2 q (by omega)
