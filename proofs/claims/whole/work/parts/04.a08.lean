theorem znX1_unmix_X1 : ∀ w ∈ wsX10, w ∈ wsX1_unmix := fun _ h => List.mem_cons_of_mem _ (List.mem_append_left _ (List.mem_append_left _ (List.mem_append_right _ h)))
theorem znX1_unmix_X2 : ∀ w ∈ wsX20, w ∈ wsX1_unmix := fun _ h => List.mem_cons_of_mem _ (List.mem_append_left _ (List.mem_append_right _ h))
theorem znX1_unmix_X3 : ∀ w ∈ wsX30, w ∈ wsX1_unmix := fun _ h => List.mem_cons_of_mem _ (List.mem_append_right _ h)
theorem zdX1_unmix : yX1_unmix.cls ≠ "java/lang/invoke/MethodHandle" ∧ yX1_unmix.cls ≠ "java/lang/invoke/VarHandle" ∧ (parseMethodDescriptor yX1_unmix.desc).map (fun d => d.parameters.length) = some 1 := by decide +kernel
-- MixingRelays$Mixer unmix(I)Z
section
variable {p : Program} {l : Launch} {e : Env} {s : State} {m : MethodId} {args : Array Value} {below : List Frame} {meth : Method} {c : Code} {Q : State → Prop} {G : zG} {O : zM}
def pX1_unmix_b35 (post : Int32 → zM → Prop) (ag35 : Int32 → Int32 → Int32 → zM → Prop) (x2 : Int32) (x3 : Int32) (x4 : Int32) (M : zM) : Prop :=
  (x3 ≤ x4 → ¬ (x2 < 0) ∧ ¬ (x2 < 0) ∧ ¬ (x3 < 0) ∧ x2.toNatClampNeg + x3.toNatClampNeg ≤ 900 ∧ x2.toNatClampNeg + x3.toNatClampNeg ≤ 900 ∧ ((0 : Int32) = 0 ∨ (0 : Int32) = 1) ∧ post (0 : Int32) (zri M 10 (va_cpy (M.1 19) (M.1 10) x2.toNatClampNeg x2.toNatClampNeg x3.toNatClampNeg))) ∧ (¬ (x3 ≤ x4) → pJ7_fill_fda19_10 M x2 (x2 + x3) (0 : Int32) (fun M53 => vp_in (x2 + x4) 900 ∧ pX1_ranksHold (zsi M53 10 ((x2 + x4)).toNatClampNeg (1 : Int32))  (fun r70 M70 => (r70 = 0 → ag35 x2 x3 (x4 + (1 : Int32)) M70) ∧ (¬ (r70 = 0) → ((1 : Int32) = 0 ∨ (1 : Int32) = 1) ∧ post (1 : Int32) M70))))
set_option maxHeartbeats 4000000 in
set_option maxRecDepth 100000 in
theorem wX1_unmix_b35 {post : Int32 → zM → Prop} {ag35 : Int32 → Int32 → Int32 → zM → Prop} (hF : CallFix p m c cX1_unmix 5 s args wsX1_unmix RX1) (hSt : zSt G s) (hret : zRz p l e ({ frames := 5, cells := 0, slots := 0, locals := 123 } : Room) s m args below meth c Q cX1_unmix G true O post) (hag35 : ∀ (x2 : Int32) (x3 : Int32) (x4 : Int32) (M : zM) (H : Heap) (locs : List Loc) (ls : Array Slot), ag35 x2 x3 x4 M → zH G true s H locs M O → lv_has ls 5 [(0, .ref (G.1 4)), (2, .int x2), (3, .int x3), (4, .int x4)] → W p l e ({ frames := 5, cells := 0, slots := 0, locals := 123 } : Room) s m args below meth c H locs 0 0 Q (F0 m 35 ls [])) (x2 : Int32) (x3 : Int32) (x4 : Int32) (M : zM) (H : Heap) (locs : List Loc) (ls : Array Slot) (hH : zH G true s H locs M O) (hl : lv_has ls 5 [(0, .ref (G.1 4)), (2, .int x2), (3, .int x3), (4, .int x4)]) (h : pX1_unmix_b35 post ag35 x2 x3 x4 M) : W p l e ({ frames := 5, cells := 0, slots := 0, locals := 123 } : Room) s m args below meth c H locs 0 0 Q (F0 m 35 ls []) := by
  obtain ⟨hx, hb, hml, hown, hts⟩ := id hF
  unfold pX1_unmix_b35 at h
  refine lv_iload hx hb dX1_unmix_35 (lv_at hl 3 rfl) ?_
  refine lv_iload_n hx hb dX1_unmix_37 rfl (lv_at hl 2 rfl) ?_
  refine lv_icmp_ge (tgt := 84) hx hb dX1_unmix_38 (by decide) (fun q38 => ?_) (fun q38 => ?_)
  · have h := h.1 q38
    refine lv_aload_n hx hb dX1_unmix_84 rfl (lv_at hl 0 rfl) ?_
    refine zget (v := .ref (G.1 19)) hF hSt hH 4 (by decide) rfl (zE_4 _ _ _) (C := RX1) (T := TX1) (N := 4) rfl znX1_unmix_X1 2 (by decide) (List.mem_of_getElem? (i := 3) rfl) rfl dX1_unmix_85 ?_
    refine lv_iload_n hx hb dX1_unmix_88 rfl (lv_at hl 1 rfl) ?_
    refine lv_aload_n hx hb dX1_unmix_89 rfl (lv_at hl 0 rfl) ?_
    refine zget (v := .ref (G.1 1)) hF hSt hH 4 (by decide) rfl (zE_4 _ _ _) (C := RX1) (T := TX1) (N := 4) rfl znX1_unmix_X1 0 (by decide) (List.mem_of_getElem? (i := 1) rfl) rfl dX1_unmix_90 ?_
    refine zget (v := .ref (G.1 10)) hF hSt hH 1 (by decide) rfl (zE_1 _ _ _) (C := RX2) (T := TX2) (N := 16) rfl znX1_unmix_X2 10 (by decide) (List.mem_of_getElem? (i := 2) rfl) rfl dX1_unmix_93 ?_
    refine lv_iload_n hx hb dX1_unmix_96 rfl (lv_at hl 1 rfl) ?_
    refine lv_iload_n hx hb dX1_unmix_97 rfl (lv_at hl 2 rfl) ?_
    obtain ⟨qa98, qb98, qc98, qd98, qe98, h⟩ := h
    refine zcopy hF hSt hH hl.1 (List.mem_of_getElem? (i := 4) rfl) (List.mem_of_getElem? (i := 5) rfl) (List.mem_of_getElem? (i := 6) rfl) (List.mem_of_getElem? (i := 7) rfl) 19 10 (by decide) rfl (by decide) rfl (zE_19 _) (zE_10 _) qa98 qb98 qc98 qd98 qe98 (by decide) (by decide) dX1_unmix_98 (fun H locs hH => ?_)
    refine lv_iconst (v := (0 : Int32)) hx hb dX1_unmix_101 (by decide) ?_
    exact hret _ _ _ _ _ _ dX1_unmix_102 h hH
  · have h := h.2 q38
    refine lv_aload_n hx hb dX1_unmix_41 rfl (lv_at hl 0 rfl) ?_
    refine zget (v := .ref (G.1 1)) hF hSt hH 4 (by decide) rfl (zE_4 _ _ _) (C := RX1) (T := TX1) (N := 4) rfl znX1_unmix_X1 0 (by decide) (List.mem_of_getElem? (i := 1) rfl) rfl dX1_unmix_42 ?_
    refine zget (v := .ref (G.1 10)) hF hSt hH 1 (by decide) rfl (zE_1 _ _ _) (C := RX2) (T := TX2) (N := 16) rfl znX1_unmix_X2 10 (by decide) (List.mem_of_getElem? (i := 2) rfl) rfl dX1_unmix_45 ?_
    refine lv_iload_n hx hb dX1_unmix_48 rfl (lv_at hl 1 rfl) ?_
    refine lv_iload_n hx hb dX1_unmix_49 rfl (lv_at hl 1 rfl) ?_
    refine lv_iload_n hx hb dX1_unmix_50 rfl (lv_at hl 2 rfl) ?_
    refine lv_iadd hx hb dX1_unmix_51 ?_
    refine lv_iconst (v := (0 : Int32)) hx hb dX1_unmix_52 (by decide) ?_
    refine zcallv hH (va_runS (As := [.ref (G.1 10), .int x2, .int (x2 + x3), .int (0 : Int32)]) (rest := []) hF (kJ7_fill_fda19_10 l G M O x2 (x2 + x3) (0 : Int32) _ h) (va_cwS 4 hts gX1_unmix_J7_fill_fda19 rfl rfl rfl zdJ7_fill_fda19 ⟨Nat.le_of_ble_eq_true rfl, Nat.le_of_ble_eq_true rfl⟩) (zpreS hSt hH [.ref (G.1 10), .int x2, .int (x2 + x3), .int (0 : Int32)]) rfl rfl hl.1 rfl (lv_room (Nat.le_of_ble_eq_true rfl)) dX1_unmix_53 ⟨Nat.zero_le _, Nat.zero_le _⟩) (fun M53 H locs h hH => ?_)
    refine lv_aload_n hx hb dX1_unmix_56 rfl (lv_at hl 0 rfl) ?_
    refine zget (v := .ref (G.1 1)) hF hSt hH 4 (by decide) rfl (zE_4 _ _ _) (C := RX1) (T := TX1) (N := 4) rfl znX1_unmix_X1 0 (by decide) (List.mem_of_getElem? (i := 1) rfl) rfl dX1_unmix_57 ?_
    refine zget (v := .ref (G.1 10)) hF hSt hH 1 (by decide) rfl (zE_1 _ _ _) (C := RX2) (T := TX2) (N := 16) rfl znX1_unmix_X2 10 (by decide) (List.mem_of_getElem? (i := 2) rfl) rfl dX1_unmix_60 ?_
    refine lv_iload_n hx hb dX1_unmix_63 rfl (lv_at hl 1 rfl) ?_
    refine lv_iload hx hb dX1_unmix_64 (lv_at hl 3 rfl) ?_
    refine lv_iadd hx hb dX1_unmix_66 ?_
    refine lv_iconst (v := (1 : Int32)) hx hb dX1_unmix_67 (by decide) ?_
    obtain ⟨q68, h⟩ := h
    refine zast hF hSt hH 10 (by decide) rfl (zE_10 _) (x := (1 : Int32)) q68 dX1_unmix_68 (fun H locs hH => ?_)
    refine lv_aload_n hx hb dX1_unmix_69 rfl (lv_at hl 0 rfl) ?_
    refine zcalli hH (va_runV (As := []) (rest := []) hF (kX1_ranksHold l G (zsi M53 10 ((x2 + x4)).toNatClampNeg (1 : Int32)) O _ h) (cwV 0 hts gX1_unmix_X1_ranksHold rfl rfl rfl ⟨rfl, zdX1_ranksHold⟩ ⟨Nat.le_of_ble_eq_true rfl, Nat.le_of_ble_eq_true rfl⟩) (zpreV hSt hH 4 (by decide) rfl (zE_4 _ _ _) (q := (RX1, TX1, 4)) rfl []) rfl rfl hl.1 rfl (lv_room (Nat.le_of_ble_eq_true rfl)) dX1_unmix_70 ⟨Nat.zero_le _, Nat.zero_le _⟩) (fun r70 M70 H locs h hH => ?_)
    refine lv_if_eq (tgt := 78) hx hb dX1_unmix_73 (by decide) (fun q73 => ?_) (fun q73 => ?_)
    · have h := h.1 q73
      refine lv_iinc (v := (x4 + (1 : Int32))) (lv' := [(4, .int (x4 + (1 : Int32))), (0, .ref (G.1 4)), (2, .int x2), (3, .int x3)]) hx hb dX1_unmix_78 hl (k := 3) rfl rfl (by decide) rfl (fun ls hl => ?_)
      refine lv_goto (tgt := 35) hx hb dX1_unmix_81 (by decide) ?_
      exact hag35 x2 x3 (x4 + (1 : Int32)) M70 H locs ls h hH (lv_sub hl [1, 2, 3, 0] rfl)
    · have h := h.2 q73
      refine lv_iconst (v := (1 : Int32)) hx hb dX1_unmix_76 (by decide) ?_
      exact hret _ _ _ _ _ _ dX1_unmix_77 h hH
def pX1_unmix_L35 (post : Int32 → zM → Prop) (x2 : Int32) (x3 : Int32) (x4 : Int32) (M : zM) : Prop :=
  ∃ I : Nat → Int32 → Int32 → Int32 → zM → Prop, (∃ n, I n x2 x3 x4 M) ∧ ∀ n x2 x3 x4 M, I n x2 x3 x4 M → pX1_unmix_b35 post (fun x2 x3 x4 M => ∃ k, k < n ∧ I k x2 x3 x4 M) x2 x3 x4 M
set_option maxHeartbeats 4000000 in
theorem wX1_unmix_L35 {post : Int32 → zM → Prop}  (hF : CallFix p m c cX1_unmix 5 s args wsX1_unmix RX1) (hSt : zSt G s) (hret : zRz p l e ({ frames := 5, cells := 0, slots := 0, locals := 123 } : Room) s m args below meth c Q cX1_unmix G true O post) (x2 : Int32) (x3 : Int32) (x4 : Int32) (M : zM) (H : Heap) (locs : List Loc) (ls : Array Slot) (hH : zH G true s H locs M O) (hl : lv_has ls 5 [(0, .ref (G.1 4)), (2, .int x2), (3, .int x3), (4, .int x4)]) (h : pX1_unmix_L35 post x2 x3 x4 M) : W p l e ({ frames := 5, cells := 0, slots := 0, locals := 123 } : Room) s m args below meth c H locs 0 0 Q (F0 m 35 ls []) := by
  obtain ⟨I, ⟨n, hI⟩, hs⟩ := h
  have key : ∀ (n : Nat) (x2 : Int32) (x3 : Int32) (x4 : Int32) (M : zM) (H : Heap) (locs : List Loc) (ls : Array Slot), I n x2 x3 x4 M → zH G true s H locs M O → lv_has ls 5 [(0, .ref (G.1 4)), (2, .int x2), (3, .int x3), (4, .int x4)] → W p l e ({ frames := 5, cells := 0, slots := 0, locals := 123 } : Room) s m args below meth c H locs 0 0 Q (F0 m 35 ls []) := by
    intro n
    induction n using Nat.strongRecOn with
    | _ n ih =>
      intro x2 x3 x4 M H locs ls hI hH hl
      exact wX1_unmix_b35 hF hSt hret (fun x2 x3 x4 M H locs ls h hH hl => by obtain ⟨k, hk, hI⟩ := h; exact ih k hk x2 x3 x4 M H locs ls hI hH hl) x2 x3 x4 M H locs ls hH hl (hs n x2 x3 x4 M hI)
  exact key n x2 x3 x4 M H locs ls hI hH hl
def pX1_unmix (M : zM) (x1 : Int32) (post : Int32 → zM → Prop) : Prop :=
  pX5_slot x1 (0 : Int32) (fun r2 => pX2_insOf M x1 (fun r11 => ¬ (r2 < 0) ∧ ¬ (r2 < 0) ∧ ¬ (r11 < 0) ∧ r2.toNatClampNeg + r11.toNatClampNeg ≤ 900 ∧ r2.toNatClampNeg + r11.toNatClampNeg ≤ 900 ∧ pX1_unmix_L35 post r2 r11 (0 : Int32) (zri M 19 (va_cpy (M.1 10) (M.1 19) r2.toNatClampNeg r2.toNatClampNeg r11.toNatClampNeg))))
set_option maxHeartbeats 4000000 in
set_option maxRecDepth 100000 in
theorem wX1_unmix {M : zM} {post : Int32 → zM → Prop} (hF : CallFix p m c cX1_unmix 5 s args wsX1_unmix RX1) (hSt : zSt G s) (hret : zRz p l e ({ frames := 5, cells := 0, slots := 0, locals := 123 } : Room) s m args below meth c Q cX1_unmix G true O post) (x1 : Int32) (H : Heap) (locs : List Loc) (ls : Array Slot) (hH : zH G true s H locs M O) (hl : lv_has ls 5 [(0, .ref (G.1 4)), (1, .int x1)]) (h : pX1_unmix M x1 post) : W p l e ({ frames := 5, cells := 0, slots := 0, locals := 123 } : Room) s m args below meth c H locs 0 0 Q (F0 m 0 ls []) := by
  obtain ⟨hx, hb, hml, hown, hts⟩ := id hF
  unfold pX1_unmix at h
  refine lv_iload_n hx hb dX1_unmix_0 rfl (lv_at hl 1 rfl) ?_
  refine lv_iconst (v := (0 : Int32)) hx hb dX1_unmix_1 (by decide) ?_
  refine zcalliP hH (va_runSN (As := [.int x1, .int (0 : Int32)]) (rest := []) hF (kX5_slot l G M O x1 (0 : Int32) _ h) ⟨va_cnB 2 hts gX1_unmix_X5_slot_n47 rfl rfl rfl (hSt.2.2.1 _ zNest_X1_47) (hts _ (List.mem_of_getElem? (i := 9) rfl)) zdX5_slot ⟨Nat.le_of_ble_eq_true rfl, Nat.le_of_ble_eq_true rfl⟩, hts _ (List.mem_of_getElem? (i := 8) rfl), trivial⟩ (zpreS hSt hH [.int x1, .int (0 : Int32)]) rfl rfl hl.1 rfl (lv_room (Nat.le_of_ble_eq_true rfl)) dX1_unmix_2 ⟨Nat.zero_le _, Nat.zero_le _⟩) (fun r2 H locs h hH => ?_)
  refine lv_istore_n (lv' := [(2, .int r2), (0, .ref (G.1 4)), (1, .int x1)]) hx hb dX1_unmix_5 rfl hl (by decide) rfl (fun ls hl => ?_)
  refine lv_aload_n hx hb dX1_unmix_6 rfl (lv_at hl 1 rfl) ?_
  refine zget (v := .ref (G.1 1)) hF hSt hH 4 (by decide) rfl (zE_4 _ _ _) (C := RX1) (T := TX1) (N := 4) rfl znX1_unmix_X1 0 (by decide) (List.mem_of_getElem? (i := 1) rfl) rfl dX1_unmix_7 ?_
  refine lv_iload_n hx hb dX1_unmix_10 rfl (lv_at hl 2 rfl) ?_
  refine zcalliP hH (va_runV (As := [.int x1]) (rest := []) hF (kX2_insOf l G M O x1 _ h) (cwV 1 hts gX1_unmix_X2_insOf rfl rfl rfl ⟨rfl, zdX2_insOf⟩ ⟨Nat.le_of_ble_eq_true rfl, Nat.le_of_ble_eq_true rfl⟩) (zpreV hSt hH 1 (by decide) rfl (zE_1 _ _ _) (q := (RX2, TX2, 16)) rfl [.int x1]) rfl rfl hl.1 rfl (lv_room (Nat.le_of_ble_eq_true rfl)) dX1_unmix_11 ⟨Nat.zero_le _, Nat.zero_le _⟩) (fun r11 H locs h hH => ?_)
  refine lv_istore_n (lv' := [(3, .int r11), (2, .int r2), (0, .ref (G.1 4)), (1, .int x1)]) hx hb dX1_unmix_14 rfl hl (by decide) rfl (fun ls hl => ?_)
  refine lv_aload_n hx hb dX1_unmix_15 rfl (lv_at hl 2 rfl) ?_
  refine zget (v := .ref (G.1 1)) hF hSt hH 4 (by decide) rfl (zE_4 _ _ _) (C := RX1) (T := TX1) (N := 4) rfl znX1_unmix_X1 0 (by decide) (List.mem_of_getElem? (i := 1) rfl) rfl dX1_unmix_16 ?_
  refine zget (v := .ref (G.1 10)) hF hSt hH 1 (by decide) rfl (zE_1 _ _ _) (C := RX2) (T := TX2) (N := 16) rfl znX1_unmix_X2 10 (by decide) (List.mem_of_getElem? (i := 2) rfl) rfl dX1_unmix_19 ?_
  refine lv_iload_n hx hb dX1_unmix_22 rfl (lv_at hl 1 rfl) ?_
  refine lv_aload_n hx hb dX1_unmix_23 rfl (lv_at hl 2 rfl) ?_
  refine zget (v := .ref (G.1 19)) hF hSt hH 4 (by decide) rfl (zE_4 _ _ _) (C := RX1) (T := TX1) (N := 4) rfl znX1_unmix_X1 2 (by decide) (List.mem_of_getElem? (i := 3) rfl) rfl dX1_unmix_24 ?_
  refine lv_iload_n hx hb dX1_unmix_27 rfl (lv_at hl 1 rfl) ?_
  refine lv_iload_n hx hb dX1_unmix_28 rfl (lv_at hl 0 rfl) ?_
  obtain ⟨qa29, qb29, qc29, qd29, qe29, h⟩ := h
  refine zcopy hF hSt hH hl.1 (List.mem_of_getElem? (i := 4) rfl) (List.mem_of_getElem? (i := 5) rfl) (List.mem_of_getElem? (i := 6) rfl) (List.mem_of_getElem? (i := 7) rfl) 10 19 (by decide) rfl (by decide) rfl (zE_10 _) (zE_19 _) qa29 qb29 qc29 qd29 qe29 (by decide) (by decide) dX1_unmix_29 (fun H locs hH => ?_)
  refine lv_iconst (v := (0 : Int32)) hx hb dX1_unmix_32 (by decide) ?_
  refine lv_istore (lv' := [(4, .int (0 : Int32)), (3, .int r11), (2, .int r2), (0, .ref (G.1 4)), (1, .int x1)]) hx hb dX1_unmix_33 hl (by decide) rfl (fun ls hl => ?_)
  exact wX1_unmix_L35 hF hSt hret r2 r11 (0 : Int32) (zri M 19 (va_cpy (M.1 10) (M.1 19) r2.toNatClampNeg r2.toNatClampNeg r11.toNatClampNeg)) H locs ls hH (lv_sub hl [3, 2, 1, 0] rfl) h
set_option maxRecDepth 100000 in
theorem kX1_unmix (l : Launch) (G : zG) (M O : zM) (x1 : Int32) (post : Int32 → zM → Prop) (h : pX1_unmix M x1 post) : Met l yX1_unmix wsX1_unmix ({ frames := 5, cells := 0, slots := 0, locals := 123 } : Room) (zPc G true M O [.ref (G.1 4), .int x1]) (va_Qi post (zB G true O) (zAA G)) 0 0 (zAA G) :=
  zmet_z (by decide) rfl (Nat.le_of_ble_eq_true rfl) (fun hF hSt hret H locs ls hH hl => wX1_unmix hF hSt hret x1 H locs ls hH hl h)
end
theorem znX1_unmixAll_X1 : ∀ w ∈ wsX10, w ∈ wsX1_unmixAll := fun _ h => List.mem_cons_of_mem _ (List.mem_append_left _ (List.mem_append_left _ (List.mem_append_right _ h)))
theorem znX1_unmixAll_X2 : ∀ w ∈ wsX20, w ∈ wsX1_unmixAll := fun _ h => List.mem_cons_of_mem _ (List.mem_append_left _ (List.mem_append_right _ h))
theorem znX1_unmixAll_X3 : ∀ w ∈ wsX30, w ∈ wsX1_unmixAll := fun _ h => List.mem_cons_of_mem _ (List.mem_append_right _ h)
theorem zdX1_unmixAll : yX1_unmixAll.cls ≠ "java/lang/invoke/MethodHandle" ∧ yX1_unmixAll.cls ≠ "java/lang/invoke/VarHandle" ∧ (parseMethodDescriptor yX1_unmixAll.desc).map (fun d => d.parameters.length) = some 0 := by decide +kernel
-- MixingRelays$Mixer unmixAll()I
section
variable {p : Program} {l : Launch} {e : Env} {s : State} {m : MethodId} {args : Array Value} {below : List Frame} {meth : Method} {c : Code} {Q : State → Prop} {G : zG} {O : zM}
def pX1_unmixAll_b68 (post : Int32 → zM → Prop) (ag16 : Int32 → Int32 → zM → Prop) (x1 : Int32) (x2 : Int32) (M : zM) : Prop :=
  ag16 x1 (x2 + (-1 : Int32)) M
set_option maxHeartbeats 4000000 in
set_option maxRecDepth 100000 in
theorem wX1_unmixAll_b68 {post : Int32 → zM → Prop} {ag16 : Int32 → Int32 → zM → Prop} (hF : CallFix p m c cX1_unmixAll 3 s args wsX1_unmixAll RX1) (hSt : zSt G s) (hret : zRi p l e ({ frames := 6, cells := 0, slots := 0, locals := 147 } : Room) s m args below meth c Q cX1_unmixAll G true O post) (hag16 : ∀ (x1 : Int32) (x2 : Int32) (M : zM) (H : Heap) (locs : List Loc) (ls : Array Slot), ag16 x1 x2 M → zH G true s H locs M O → lv_has ls 3 [(0, .ref (G.1 4)), (1, .int x1), (2, .int x2)] → W p l e ({ frames := 6, cells := 0, slots := 0, locals := 147 } : Room) s m args below meth c H locs 0 0 Q (F0 m 16 ls [])) (x1 : Int32) (x2 : Int32) (M : zM) (H : Heap) (locs : List Loc) (ls : Array Slot) (hH : zH G true s H locs M O) (hl : lv_has ls 3 [(0, .ref (G.1 4)), (1, .int x1), (2, .int x2)]) (h : pX1_unmixAll_b68 post ag16 x1 x2 M) : W p l e ({ frames := 6, cells := 0, slots := 0, locals := 147 } : Room) s m args below meth c H locs 0 0 Q (F0 m 68 ls []) := by
  obtain ⟨hx, hb, hml, hown, hts⟩ := id hF
  unfold pX1_unmixAll_b68 at h
  refine lv_iinc (v := (x2 + (-1 : Int32))) (lv' := [(2, .int (x2 + (-1 : Int32))), (0, .ref (G.1 4)), (1, .int x1)]) hx hb dX1_unmixAll_68 hl (k := 2) rfl rfl (by decide) rfl (fun ls hl => ?_)
  refine lv_goto (tgt := 16) hx hb dX1_unmixAll_71 (by decide) ?_
  exact hag16 x1 (x2 + (-1 : Int32)) M H locs ls h hH (lv_sub hl [1, 2, 0] rfl)
def pX1_unmixAll_b16 (post : Int32 → zM → Prop) (ag16 : Int32 → Int32 → zM → Prop) (x1 : Int32) (x2 : Int32) (M : zM) : Prop :=
  (x2 < 0 → post x1 M) ∧ (¬ (x2 < 0) → vp_in x2 30 ∧ ((M.1 6 x2.toNatClampNeg) = 0 → pX1_unmixAll_b68 post ag16 x1 x2 M) ∧ (¬ ((M.1 6 x2.toNatClampNeg) = 0) → pX5_flag (M.1 1 4) x2 (fun r40 => (¬ (r40 = 0) → pX1_unmixAll_b68 post ag16 x1 x2 M) ∧ (r40 = 0 → pX2_isPassing M x2 (fun r51 => (¬ (r51 = 0) → pX1_unmixAll_b68 post ag16 x1 x2 M) ∧ (r51 = 0 → pX1_unmix M x2 (fun r60 M60 => pX5_asFlag r60 (fun r63 => pX1_unmixAll_b68 post ag16 (x1 + r63) x2 M60))))))))
set_option maxHeartbeats 4000000 in
set_option maxRecDepth 100000 in
theorem wX1_unmixAll_b16 {post : Int32 → zM → Prop} {ag16 : Int32 → Int32 → zM → Prop} (hF : CallFix p m c cX1_unmixAll 3 s args wsX1_unmixAll RX1) (hSt : zSt G s) (hret : zRi p l e ({ frames := 6, cells := 0, slots := 0, locals := 147 } : Room) s m args below meth c Q cX1_unmixAll G true O post) (hag16 : ∀ (x1 : Int32) (x2 : Int32) (M : zM) (H : Heap) (locs : List Loc) (ls : Array Slot), ag16 x1 x2 M → zH G true s H locs M O → lv_has ls 3 [(0, .ref (G.1 4)), (1, .int x1), (2, .int x2)] → W p l e ({ frames := 6, cells := 0, slots := 0, locals := 147 } : Room) s m args below meth c H locs 0 0 Q (F0 m 16 ls [])) (x1 : Int32) (x2 : Int32) (M : zM) (H : Heap) (locs : List Loc) (ls : Array Slot) (hH : zH G true s H locs M O) (hl : lv_has ls 3 [(0, .ref (G.1 4)), (1, .int x1), (2, .int x2)]) (h : pX1_unmixAll_b16 post ag16 x1 x2 M) : W p l e ({ frames := 6, cells := 0, slots := 0, locals := 147 } : Room) s m args below meth c H locs 0 0 Q (F0 m 16 ls []) := by
  obtain ⟨hx, hb, hml, hown, hts⟩ := id hF
  unfold pX1_unmixAll_b16 at h
  refine lv_iload_n hx hb dX1_unmixAll_16 rfl (lv_at hl 2 rfl) ?_
  refine lv_if_lt (tgt := 74) hx hb dX1_unmixAll_17 (by decide) (fun q17 => ?_) (fun q17 => ?_)
  · have h := h.1 q17
    refine lv_iload_n hx hb dX1_unmixAll_74 rfl (lv_at hl 1 rfl) ?_
    exact hret _ _ _ _ _ _ dX1_unmixAll_75 h hH
  · have h := h.2 q17
    refine lv_aload_n hx hb dX1_unmixAll_20 rfl (lv_at hl 0 rfl) ?_
    refine zget (v := .ref (G.1 1)) hF hSt hH 4 (by decide) rfl (zE_4 _ _ _) (C := RX1) (T := TX1) (N := 4) rfl znX1_unmixAll_X1 0 (by decide) (List.mem_of_getElem? (i := 1) rfl) rfl dX1_unmixAll_21 ?_
    refine zget (v := .ref (G.1 6)) hF hSt hH 1 (by decide) rfl (zE_1 _ _ _) (C := RX2) (T := TX2) (N := 16) rfl znX1_unmixAll_X2 6 (by decide) (List.mem_of_getElem? (i := 3) rfl) rfl dX1_unmixAll_24 ?_
    refine lv_iload_n hx hb dX1_unmixAll_27 rfl (lv_at hl 2 rfl) ?_
    obtain ⟨q28, h⟩ := h
    refine zald hF hSt hH 6 (by decide) rfl (zE_6 _ _ _) q28 dX1_unmixAll_28 ?_
    refine lv_if_eq (tgt := 68) hx hb dX1_unmixAll_29 (by decide) (fun q29 => ?_) (fun q29 => ?_)
    · have h := h.1 q29
      exact wX1_unmixAll_b68 hF hSt hret hag16 x1 x2 M H locs ls hH (lv_sub hl [0, 1, 2] rfl) h
    · have h := h.2 q29
      refine lv_aload_n hx hb dX1_unmixAll_32 rfl (lv_at hl 0 rfl) ?_
      refine zget (v := .ref (G.1 1)) hF hSt hH 4 (by decide) rfl (zE_4 _ _ _) (C := RX1) (T := TX1) (N := 4) rfl znX1_unmixAll_X1 0 (by decide) (List.mem_of_getElem? (i := 1) rfl) rfl dX1_unmixAll_33 ?_
      refine zget (v := .int (M.1 1 4)) hF hSt hH 1 (by decide) rfl (zE_1 _ _ _) (C := RX2) (T := TX2) (N := 16) rfl znX1_unmixAll_X2 4 (by decide) (List.mem_of_getElem? (i := 4) rfl) rfl dX1_unmixAll_36 ?_
      refine lv_iload_n hx hb dX1_unmixAll_39 rfl (lv_at hl 2 rfl) ?_
      refine zcalliP hH (va_runSN (As := [.int (M.1 1 4), .int x2]) (rest := []) hF (kX5_flag l G M O (M.1 1 4) x2 _ h) ⟨va_cnB 2 hts gX1_unmixAll_X5_flag_n35 rfl rfl rfl (hSt.2.2.1 _ zNest_X1_35) (hts _ (List.mem_of_getElem? (i := 23) rfl)) zdX5_flag ⟨Nat.le_of_ble_eq_true rfl, Nat.le_of_ble_eq_true rfl⟩, hts _ (List.mem_of_getElem? (i := 22) rfl), trivial⟩ (zpreS hSt hH [.int (M.1 1 4), .int x2]) rfl rfl hl.1 rfl (lv_room (Nat.le_of_ble_eq_true rfl)) dX1_unmixAll_40 ⟨Nat.zero_le _, Nat.zero_le _⟩) (fun r40 H locs h hH => ?_)
      refine lv_if_ne (tgt := 68) hx hb dX1_unmixAll_43 (by decide) (fun q43 => ?_) (fun q43 => ?_)
      · have h := h.1 q43
        exact wX1_unmixAll_b68 hF hSt hret hag16 x1 x2 M H locs ls hH (lv_sub hl [0, 1, 2] rfl) h
      · have h := h.2 q43
        refine lv_aload_n hx hb dX1_unmixAll_46 rfl (lv_at hl 0 rfl) ?_
        refine zget (v := .ref (G.1 1)) hF hSt hH 4 (by decide) rfl (zE_4 _ _ _) (C := RX1) (T := TX1) (N := 4) rfl znX1_unmixAll_X1 0 (by decide) (List.mem_of_getElem? (i := 1) rfl) rfl dX1_unmixAll_47 ?_
        refine lv_iload_n hx hb dX1_unmixAll_50 rfl (lv_at hl 2 rfl) ?_
        refine zcalliP hH (va_runV (As := [.int x2]) (rest := []) hF (kX2_isPassing l G M O x2 _ h) (cwV 1 hts gX1_unmixAll_X2_isPassing rfl rfl rfl ⟨rfl, zdX2_isPassing⟩ ⟨Nat.le_of_ble_eq_true rfl, Nat.le_of_ble_eq_true rfl⟩) (zpreV hSt hH 1 (by decide) rfl (zE_1 _ _ _) (q := (RX2, TX2, 16)) rfl [.int x2]) rfl rfl hl.1 rfl (lv_room (Nat.le_of_ble_eq_true rfl)) dX1_unmixAll_51 ⟨Nat.zero_le _, Nat.zero_le _⟩) (fun r51 H locs h hH => ?_)
        refine lv_if_ne (tgt := 68) hx hb dX1_unmixAll_54 (by decide) (fun q54 => ?_) (fun q54 => ?_)
        · have h := h.1 q54
          exact wX1_unmixAll_b68 hF hSt hret hag16 x1 x2 M H locs ls hH (lv_sub hl [0, 1, 2] rfl) h
        · have h := h.2 q54
          refine lv_iload_n hx hb dX1_unmixAll_57 rfl (lv_at hl 1 rfl) ?_
          refine lv_aload_n hx hb dX1_unmixAll_58 rfl (lv_at hl 0 rfl) ?_
          refine lv_iload_n hx hb dX1_unmixAll_59 rfl (lv_at hl 2 rfl) ?_
          refine zcalli hH (va_runV (As := [.int x2]) (rest := [.int x1]) hF (kX1_unmix l G M O x2 _ h) (cwV 1 hts gX1_unmixAll_X1_unmix rfl rfl rfl ⟨rfl, zdX1_unmix⟩ ⟨Nat.le_of_ble_eq_true rfl, Nat.le_of_ble_eq_true rfl⟩) (zpreV hSt hH 4 (by decide) rfl (zE_4 _ _ _) (q := (RX1, TX1, 4)) rfl [.int x2]) rfl rfl hl.1 rfl (lv_room (Nat.le_of_ble_eq_true rfl)) dX1_unmixAll_60 ⟨Nat.zero_le _, Nat.zero_le _⟩) (fun r60 M60 H locs h hH => ?_)
          refine zcalliP hH (va_runSN (As := [.int r60]) (rest := [.int x1]) hF (kX5_asFlag l G M60 O r60 _ h) ⟨va_cnB 1 hts gX1_unmixAll_X5_asFlag_n78 rfl rfl rfl (hSt.2.2.1 _ zNest_X1_78) (hts _ (List.mem_of_getElem? (i := 23) rfl)) zdX5_asFlag ⟨Nat.le_of_ble_eq_true rfl, Nat.le_of_ble_eq_true rfl⟩, hts _ (List.mem_of_getElem? (i := 78) rfl), trivial⟩ (zpreS hSt hH [.int r60]) rfl rfl hl.1 rfl (lv_room (Nat.le_of_ble_eq_true rfl)) dX1_unmixAll_63 ⟨Nat.zero_le _, Nat.zero_le _⟩) (fun r63 H locs h hH => ?_)
          refine lv_iadd hx hb dX1_unmixAll_66 ?_
          refine lv_istore_n (lv' := [(1, .int (x1 + r63)), (0, .ref (G.1 4)), (2, .int x2)]) hx hb dX1_unmixAll_67 rfl hl (by decide) rfl (fun ls hl => ?_)
          exact wX1_unmixAll_b68 hF hSt hret hag16 (x1 + r63) x2 M60 H locs ls hH (lv_sub hl [1, 0, 2] rfl) h
def pX1_unmixAll_L16 (post : Int32 → zM → Prop) (x1 : Int32) (x2 : Int32) (M : zM) : Prop :=
  ∃ I : Nat → Int32 → Int32 → zM → Prop, (∃ n, I n x1 x2 M) ∧ ∀ n x1 x2 M, I n x1 x2 M → pX1_unmixAll_b16 post (fun x1 x2 M => ∃ k, k < n ∧ I k x1 x2 M) x1 x2 M
set_option maxHeartbeats 4000000 in
theorem wX1_unmixAll_L16 {post : Int32 → zM → Prop}  (hF : CallFix p m c cX1_unmixAll 3 s args wsX1_unmixAll RX1) (hSt : zSt G s) (hret : zRi p l e ({ frames := 6, cells := 0, slots := 0, locals := 147 } : Room) s m args below meth c Q cX1_unmixAll G true O post) (x1 : Int32) (x2 : Int32) (M : zM) (H : Heap) (locs : List Loc) (ls : Array Slot) (hH : zH G true s H locs M O) (hl : lv_has ls 3 [(0, .ref (G.1 4)), (1, .int x1), (2, .int x2)]) (h : pX1_unmixAll_L16 post x1 x2 M) : W p l e ({ frames := 6, cells := 0, slots := 0, locals := 147 } : Room) s m args below meth c H locs 0 0 Q (F0 m 16 ls []) := by
  obtain ⟨I, ⟨n, hI⟩, hs⟩ := h
  have key : ∀ (n : Nat) (x1 : Int32) (x2 : Int32) (M : zM) (H : Heap) (locs : List Loc) (ls : Array Slot), I n x1 x2 M → zH G true s H locs M O → lv_has ls 3 [(0, .ref (G.1 4)), (1, .int x1), (2, .int x2)] → W p l e ({ frames := 6, cells := 0, slots := 0, locals := 147 } : Room) s m args below meth c H locs 0 0 Q (F0 m 16 ls []) := by
    intro n
    induction n using Nat.strongRecOn with
    | _ n ih =>
      intro x1 x2 M H locs ls hI hH hl
      exact wX1_unmixAll_b16 hF hSt hret (fun x1 x2 M H locs ls h hH hl => by obtain ⟨k, hk, hI⟩ := h; exact ih k hk x1 x2 M H locs ls hI hH hl) x1 x2 M H locs ls hH hl (hs n x1 x2 M hI)
  exact key n x1 x2 M H locs ls hI hH hl
def pX1_unmixAll (M : zM)  (post : Int32 → zM → Prop) : Prop :=
  pX1_noteRanks M  (fun M1 => pX1_unmixAll_L16 post (0 : Int32) ((M1.1 1 1) - (1 : Int32)) M1)
set_option maxHeartbeats 4000000 in
set_option maxRecDepth 100000 in
theorem wX1_unmixAll {M : zM} {post : Int32 → zM → Prop} (hF : CallFix p m c cX1_unmixAll 3 s args wsX1_unmixAll RX1) (hSt : zSt G s) (hret : zRi p l e ({ frames := 6, cells := 0, slots := 0, locals := 147 } : Room) s m args below meth c Q cX1_unmixAll G true O post)  (H : Heap) (locs : List Loc) (ls : Array Slot) (hH : zH G true s H locs M O) (hl : lv_has ls 3 [(0, .ref (G.1 4))]) (h : pX1_unmixAll M  post) : W p l e ({ frames := 6, cells := 0, slots := 0, locals := 147 } : Room) s m args below meth c H locs 0 0 Q (F0 m 0 ls []) := by
  obtain ⟨hx, hb, hml, hown, hts⟩ := id hF
  unfold pX1_unmixAll at h
  refine lv_aload_n hx hb dX1_unmixAll_0 rfl (lv_at hl 0 rfl) ?_
  refine zcallv hH (va_runV (As := []) (rest := []) hF (kX1_noteRanks l G M O _ h) (cwV 0 hts gX1_unmixAll_X1_noteRanks rfl rfl rfl ⟨rfl, zdX1_noteRanks⟩ ⟨Nat.le_of_ble_eq_true rfl, Nat.le_of_ble_eq_true rfl⟩) (zpreV hSt hH 4 (by decide) rfl (zE_4 _ _ _) (q := (RX1, TX1, 4)) rfl []) rfl rfl hl.1 rfl (lv_room (Nat.le_of_ble_eq_true rfl)) dX1_unmixAll_1 ⟨Nat.zero_le _, Nat.zero_le _⟩) (fun M1 H locs h hH => ?_)
  refine lv_iconst (v := (0 : Int32)) hx hb dX1_unmixAll_4 (by decide) ?_
  refine lv_istore_n (lv' := [(1, .int (0 : Int32)), (0, .ref (G.1 4))]) hx hb dX1_unmixAll_5 rfl hl (by decide) rfl (fun ls hl => ?_)
  refine lv_aload_n hx hb dX1_unmixAll_6 rfl (lv_at hl 1 rfl) ?_
  refine zget (v := .ref (G.1 1)) hF hSt hH 4 (by decide) rfl (zE_4 _ _ _) (C := RX1) (T := TX1) (N := 4) rfl znX1_unmixAll_X1 0 (by decide) (List.mem_of_getElem? (i := 1) rfl) rfl dX1_unmixAll_7 ?_
  refine zget (v := .int (M1.1 1 1)) hF hSt hH 1 (by decide) rfl (zE_1 _ _ _) (C := RX2) (T := TX2) (N := 16) rfl znX1_unmixAll_X2 1 (by decide) (List.mem_of_getElem? (i := 2) rfl) rfl dX1_unmixAll_10 ?_
  refine lv_iconst (v := (1 : Int32)) hx hb dX1_unmixAll_13 (by decide) ?_
  refine lv_isub hx hb dX1_unmixAll_14 ?_
  refine lv_istore_n (lv' := [(2, .int ((M1.1 1 1) - (1 : Int32))), (1, .int (0 : Int32)), (0, .ref (G.1 4))]) hx hb dX1_unmixAll_15 rfl hl (by decide) rfl (fun ls hl => ?_)
  exact wX1_unmixAll_L16 hF hSt hret (0 : Int32) ((M1.1 1 1) - (1 : Int32)) M1 H locs ls hH (lv_sub hl [2, 1, 0] rfl) h
set_option maxRecDepth 100000 in
theorem kX1_unmixAll (l : Launch) (G : zG) (M O : zM)  (post : Int32 → zM → Prop) (h : pX1_unmixAll M  post) : Met l yX1_unmixAll wsX1_unmixAll ({ frames := 6, cells := 0, slots := 0, locals := 147 } : Room) (zPc G true M O [.ref (G.1 4)]) (va_Qi post (zB G true O) (zAA G)) 0 0 (zAA G) :=
  zmet_i (by decide) rfl (Nat.le_of_ble_eq_true rfl) (fun hF hSt hret H locs ls hH hl => wX1_unmixAll hF hSt hret  H locs ls hH hl h)
end
theorem znX5_leave_X5 : ∀ w ∈ wsX50, w ∈ wsX5_leave := fun _ h => List.mem_cons_of_mem _ (List.mem_append_left _ (List.mem_append_left _ (List.mem_append_left _ (List.mem_append_right _ h))))
theorem znX5_leave_X1 : ∀ w ∈ wsX10, w ∈ wsX5_leave := fun _ h => List.mem_cons_of_mem _ (List.mem_append_left _ (List.mem_append_left _ (List.mem_append_right _ h)))
theorem znX5_leave_X2 : ∀ w ∈ wsX20, w ∈ wsX5_leave := fun _ h => List.mem_cons_of_mem _ (List.mem_append_left _ (List.mem_append_right _ h))
theorem znX5_leave_X3 : ∀ w ∈ wsX30, w ∈ wsX5_leave := fun _ h => List.mem_cons_of_mem _ (List.mem_append_right _ h)
theorem zdX5_leave : yX5_leave.cls ≠ "java/lang/invoke/MethodHandle" ∧ yX5_leave.cls ≠ "java/lang/invoke/VarHandle" ∧ (parseMethodDescriptor yX5_leave.desc).map (fun d => d.parameters.length) = some 0 := by decide +kernel
-- MixingRelays leave()I
section
variable {p : Program} {l : Launch} {e : Env} {s : State} {m : MethodId} {args : Array Value} {below : List Frame} {meth : Method} {c : Code} {Q : State → Prop} {G : zG} {O : zM}
def pX5_leave (M : zM)  (post : Int32 → zM → Prop) : Prop :=
  pX1_unmixAll M  (fun r4 M4 => post r4 M4)
set_option maxHeartbeats 4000000 in
set_option maxRecDepth 100000 in
theorem wX5_leave {M : zM} {post : Int32 → zM → Prop} (hF : CallFix p m c cX5_leave 1 s args wsX5_leave RX5) (hSt : zSt G s) (hret : zRi p l e ({ frames := 7, cells := 0, slots := 0, locals := 169 } : Room) s m args below meth c Q cX5_leave G true O post)  (H : Heap) (locs : List Loc) (ls : Array Slot) (hH : zH G true s H locs M O) (hl : lv_has ls 1 [(0, .ref (G.1 0))]) (h : pX5_leave M  post) : W p l e ({ frames := 7, cells := 0, slots := 0, locals := 169 } : Room) s m args below meth c H locs 0 0 Q (F0 m 0 ls []) := by
  obtain ⟨hx, hb, hml, hown, hts⟩ := id hF
  unfold pX5_leave at h
  refine lv_aload_n hx hb dX5_leave_0 rfl (lv_at hl 0 rfl) ?_
  refine zget (v := .ref (G.1 4)) hF hSt hH 0 (by decide) rfl (zE_0 _ _ _) (C := RX5) (T := TX5) (N := 5) rfl znX5_leave_X5 3 (by decide) (List.mem_of_getElem? (i := 1) rfl) rfl dX5_leave_1 ?_
  refine zcalli hH (va_runV (As := []) (rest := []) hF (kX1_unmixAll l G M O _ h) (cwV 0 hts gX5_leave_X1_unmixAll rfl rfl rfl ⟨rfl, zdX1_unmixAll⟩ ⟨Nat.le_of_ble_eq_true rfl, Nat.le_of_ble_eq_true rfl⟩) (zpreV hSt hH 4 (by decide) rfl (zE_4 _ _ _) (q := (RX1, TX1, 4)) rfl []) rfl rfl hl.1 rfl (lv_room (Nat.le_of_ble_eq_true rfl)) dX5_leave_4 ⟨Nat.zero_le _, Nat.zero_le _⟩) (fun r4 M4 H locs h hH => ?_)
  exact hret _ _ _ _ _ _ dX5_leave_7 h hH
set_option maxRecDepth 100000 in
theorem kX5_leave (l : Launch) (G : zG) (M O : zM)  (post : Int32 → zM → Prop) (h : pX5_leave M  post) : Met l yX5_leave wsX5_leave ({ frames := 7, cells := 0, slots := 0, locals := 169 } : Room) (zPc G true M O [.ref (G.1 0)]) (va_Qi post (zB G true O) (zAA G)) 0 0 (zAA G) :=
  zmet_i (by decide) rfl (Nat.le_of_ble_eq_true rfl) (fun hF hSt hret H locs ls hH hl => wX5_leave hF hSt hret  H locs ls hH hl h)
end
theorem zdX5_isBreakCount : yX5_isBreakCount.cls ≠ "java/lang/invoke/MethodHandle" ∧ yX5_isBreakCount.cls ≠ "java/lang/invoke/VarHandle" ∧ (parseMethodDescriptor yX5_isBreakCount.desc).map (fun d => d.parameters.length) = some 1 := by decide +kernel
-- MixingRelays isBreakCount(I)Z
section
variable {p : Program} {l : Launch} {e : Env} {s : State} {m : MethodId} {args : Array Value} {below : List Frame} {meth : Method} {c : Code} {Q : State → Prop} {G : zG} {O : zM}
def pX5_isBreakCount_b14 (post : Int32 → Prop) (t0 : Int32) : Prop :=
  (t0 = 0 ∨ t0 = 1) ∧ post t0
set_option maxHeartbeats 4000000 in
set_option maxRecDepth 100000 in
theorem wX5_isBreakCount_b14 {M : zM} {post : Int32 → Prop}  (hF : CallFix p m c cX5_isBreakCount 1 s args wsX5_isBreakCount RX5) (hSt : zSt G s) (hret : zRz p l e ({ frames := 0, cells := 0, slots := 0, locals := 0 } : Room) s m args below meth c Q cX5_isBreakCount G true O (fun r M1 => M1 = M ∧ post r)) (t0 : Int32) (H : Heap) (locs : List Loc) (ls : Array Slot) (hH : zH G true s H locs M O) (hl : lv_has ls 1 []) (h : pX5_isBreakCount_b14 post t0) : W p l e ({ frames := 0, cells := 0, slots := 0, locals := 0 } : Room) s m args below meth c H locs 0 0 Q (F0 m 14 ls [.int t0]) := by
  obtain ⟨hx, hb, hml, hown, hts⟩ := id hF
  unfold pX5_isBreakCount_b14 at h
  exact hret _ _ _ _ _ _ dX5_isBreakCount_14 ⟨h.1, rfl, h.2⟩ hH
def pX5_isBreakCount_b13 (post : Int32 → Prop) : Prop :=
  pX5_isBreakCount_b14 post (0 : Int32)
set_option maxHeartbeats 4000000 in
set_option maxRecDepth 100000 in
theorem wX5_isBreakCount_b13 {M : zM} {post : Int32 → Prop}  (hF : CallFix p m c cX5_isBreakCount 1 s args wsX5_isBreakCount RX5) (hSt : zSt G s) (hret : zRz p l e ({ frames := 0, cells := 0, slots := 0, locals := 0 } : Room) s m args below meth c Q cX5_isBreakCount G true O (fun r M1 => M1 = M ∧ post r))  (H : Heap) (locs : List Loc) (ls : Array Slot) (hH : zH G true s H locs M O) (hl : lv_has ls 1 []) (h : pX5_isBreakCount_b13 post) : W p l e ({ frames := 0, cells := 0, slots := 0, locals := 0 } : Room) s m args below meth c H locs 0 0 Q (F0 m 13 ls []) := by
  obtain ⟨hx, hb, hml, hown, hts⟩ := id hF
  unfold pX5_isBreakCount_b13 at h
  refine lv_iconst (v := (0 : Int32)) hx hb dX5_isBreakCount_13 (by decide) ?_
  exact wX5_isBreakCount_b14 hF hSt hret (0 : Int32) H locs ls hH (lv_sub hl [] rfl) h
def pX5_isBreakCount (x0 : Int32) (post : Int32 → Prop) : Prop :=
  (x0 < 0 → pX5_isBreakCount_b13 post) ∧ (¬ (x0 < 0) → ((2 : Int32) < x0 → pX5_isBreakCount_b13 post) ∧ (¬ ((2 : Int32) < x0) → pX5_isBreakCount_b14 post (1 : Int32)))
set_option maxHeartbeats 4000000 in
set_option maxRecDepth 100000 in
theorem wX5_isBreakCount {M : zM} {post : Int32 → Prop} (hF : CallFix p m c cX5_isBreakCount 1 s args wsX5_isBreakCount RX5) (hSt : zSt G s) (hret : zRz p l e ({ frames := 0, cells := 0, slots := 0, locals := 0 } : Room) s m args below meth c Q cX5_isBreakCount G true O (fun r M1 => M1 = M ∧ post r)) (x0 : Int32) (H : Heap) (locs : List Loc) (ls : Array Slot) (hH : zH G true s H locs M O) (hl : lv_has ls 1 [(0, .int x0)]) (h : pX5_isBreakCount x0 post) : W p l e ({ frames := 0, cells := 0, slots := 0, locals := 0 } : Room) s m args below meth c H locs 0 0 Q (F0 m 0 ls []) := by
  obtain ⟨hx, hb, hml, hown, hts⟩ := id hF
  unfold pX5_isBreakCount at h
  refine lv_iload_n hx hb dX5_isBreakCount_0 rfl (lv_at hl 0 rfl) ?_
  refine lv_if_lt (tgt := 13) hx hb dX5_isBreakCount_1 (by decide) (fun q1 => ?_) (fun q1 => ?_)
  · have h := h.1 q1
    exact wX5_isBreakCount_b13 hF hSt hret  H locs ls hH (lv_sub hl [] rfl) h
  · have h := h.2 q1
    refine lv_iload_n hx hb dX5_isBreakCount_4 rfl (lv_at hl 0 rfl) ?_
    refine lv_iconst (v := (2 : Int32)) hx hb dX5_isBreakCount_5 (by decide) ?_
    refine lv_icmp_gt (tgt := 13) hx hb dX5_isBreakCount_6 (by decide) (fun q6 => ?_) (fun q6 => ?_)
    · have h := h.1 q6
      exact wX5_isBreakCount_b13 hF hSt hret  H locs ls hH (lv_sub hl [] rfl) h
    · have h := h.2 q6
      refine lv_iconst (v := (1 : Int32)) hx hb dX5_isBreakCount_9 (by decide) ?_
      refine lv_goto (tgt := 14) hx hb dX5_isBreakCount_10 (by decide) ?_
      exact wX5_isBreakCount_b14 hF hSt hret (1 : Int32) H locs ls hH (lv_sub hl [] rfl) h
set_option maxRecDepth 100000 in
theorem kX5_isBreakCount (l : Launch) (G : zG) (M O : zM) (x0 : Int32) (post : Int32 → Prop) (h : pX5_isBreakCount x0 post) : Met l yX5_isBreakCount wsX5_isBreakCount ({ frames := 0, cells := 0, slots := 0, locals := 0 } : Room) (zPc G true M O [.int x0]) (va_Qi (fun r M1 => M1 = M ∧ post r) (zB G true O) (zAA G)) 0 0 (zAA G) :=
  zmet_z (by decide) rfl (Nat.le_of_ble_eq_true rfl) (fun hF hSt hret H locs ls hH hl => wX5_isBreakCount hF hSt hret x0 H locs ls hH hl h)
end
theorem znX0_weakens_X0 : ∀ w ∈ wsX00, w ∈ wsX0_weakens := fun _ h => List.mem_cons_of_mem _ (List.mem_append_left _ (List.mem_append_left _ (List.mem_append_right _ h)))
theorem znX0_weakens_X2 : ∀ w ∈ wsX20, w ∈ wsX0_weakens := fun _ h => List.mem_cons_of_mem _ (List.mem_append_left _ (List.mem_append_right _ h))
theorem znX0_weakens_X3 : ∀ w ∈ wsX30, w ∈ wsX0_weakens := fun _ h => List.mem_cons_of_mem _ (List.mem_append_right _ h)
theorem zdX0_weakens : yX0_weakens.cls ≠ "java/lang/invoke/MethodHandle" ∧ yX0_weakens.cls ≠ "java/lang/invoke/VarHandle" ∧ (parseMethodDescriptor yX0_weakens.desc).map (fun d => d.parameters.length) = some 2 := by decide +kernel
-- MixingRelays$Breaker weakens(II)Z
section
variable {p : Program} {l : Launch} {e : Env} {s : State} {m : MethodId} {args : Array Value} {below : List Frame} {meth : Method} {c : Code} {Q : State → Prop} {G : zG} {O : zM}
def pX0_weakens_b63 (post : Int32 → zM → Prop) (ag18 : Int32 → Int32 → zM → Prop) (x2 : Int32) (x3 : Int32) (M : zM) : Prop :=
  ag18 x2 (x3 + (1 : Int32)) M
set_option maxHeartbeats 4000000 in
set_option maxRecDepth 100000 in
theorem wX0_weakens_b63 {post : Int32 → zM → Prop} {ag18 : Int32 → Int32 → zM → Prop} (hF : CallFix p m c cX0_weakens 4 s args wsX0_weakens RX0) (hSt : zSt G s) (hret : zRz p l e ({ frames := 4, cells := 0, slots := 0, locals := 102 } : Room) s m args below meth c Q cX0_weakens G true O post) (hag18 : ∀ (x2 : Int32) (x3 : Int32) (M : zM) (H : Heap) (locs : List Loc) (ls : Array Slot), ag18 x2 x3 M → zH G true s H locs M O → lv_has ls 4 [(0, .ref (G.1 5)), (2, .int x2), (3, .int x3)] → W p l e ({ frames := 4, cells := 0, slots := 0, locals := 102 } : Room) s m args below meth c H locs 0 0 Q (F0 m 18 ls [])) (x2 : Int32) (x3 : Int32) (M : zM) (H : Heap) (locs : List Loc) (ls : Array Slot) (hH : zH G true s H locs M O) (hl : lv_has ls 4 [(0, .ref (G.1 5)), (2, .int x2), (3, .int x3)]) (h : pX0_weakens_b63 post ag18 x2 x3 M) : W p l e ({ frames := 4, cells := 0, slots := 0, locals := 102 } : Room) s m args below meth c H locs 0 0 Q (F0 m 63 ls []) := by
  obtain ⟨hx, hb, hml, hown, hts⟩ := id hF
  unfold pX0_weakens_b63 at h
  refine lv_iinc (v := (x3 + (1 : Int32))) (lv' := [(3, .int (x3 + (1 : Int32))), (0, .ref (G.1 5)), (2, .int x2)]) hx hb dX0_weakens_63 hl (k := 2) rfl rfl (by decide) rfl (fun ls hl => ?_)
  refine lv_goto (tgt := 18) hx hb dX0_weakens_66 (by decide) ?_
  exact hag18 x2 (x3 + (1 : Int32)) M H locs ls h hH (lv_sub hl [1, 2, 0] rfl)
def pX0_weakens_b18 (post : Int32 → zM → Prop) (ag18 : Int32 → Int32 → zM → Prop) (x2 : Int32) (x3 : Int32) (M : zM) : Prop :=
  ((M.1 1 0) ≤ x3 → ((0 : Int32) = 0 ∨ (0 : Int32) = 1) ∧ post (0 : Int32) M) ∧ (¬ ((M.1 1 0) ≤ x3) → pX5_flag (M.1 1 3) x3 (fun r37 => (¬ (r37 = (1 : Int32)) → pX0_weakens_b63 post ag18 x2 x3 M) ∧ (r37 = (1 : Int32) → pX3_gather M x3 (fun r49 M49 => (x2 ≤ r49 → pX0_weakens_b63 post ag18 x2 x3 M49) ∧ (¬ (x2 ≤ r49) → ((1 : Int32) = 0 ∨ (1 : Int32) = 1) ∧ post (1 : Int32) (zsi M49 5 4 x3))))))
set_option maxHeartbeats 4000000 in
set_option maxRecDepth 100000 in
theorem wX0_weakens_b18 {post : Int32 → zM → Prop} {ag18 : Int32 → Int32 → zM → Prop} (hF : CallFix p m c cX0_weakens 4 s args wsX0_weakens RX0) (hSt : zSt G s) (hret : zRz p l e ({ frames := 4, cells := 0, slots := 0, locals := 102 } : Room) s m args below meth c Q cX0_weakens G true O post) (hag18 : ∀ (x2 : Int32) (x3 : Int32) (M : zM) (H : Heap) (locs : List Loc) (ls : Array Slot), ag18 x2 x3 M → zH G true s H locs M O → lv_has ls 4 [(0, .ref (G.1 5)), (2, .int x2), (3, .int x3)] → W p l e ({ frames := 4, cells := 0, slots := 0, locals := 102 } : Room) s m args below meth c H locs 0 0 Q (F0 m 18 ls [])) (x2 : Int32) (x3 : Int32) (M : zM) (H : Heap) (locs : List Loc) (ls : Array Slot) (hH : zH G true s H locs M O) (hl : lv_has ls 4 [(0, .ref (G.1 5)), (2, .int x2), (3, .int x3)]) (h : pX0_weakens_b18 post ag18 x2 x3 M) : W p l e ({ frames := 4, cells := 0, slots := 0, locals := 102 } : Room) s m args below meth c H locs 0 0 Q (F0 m 18 ls []) := by
  obtain ⟨hx, hb, hml, hown, hts⟩ := id hF
  unfold pX0_weakens_b18 at h
  refine lv_iload_n hx hb dX0_weakens_18 rfl (lv_at hl 2 rfl) ?_
  refine lv_aload_n hx hb dX0_weakens_19 rfl (lv_at hl 0 rfl) ?_
  refine zget (v := .ref (G.1 1)) hF hSt hH 5 (by decide) rfl (zE_5 _ _ _) (C := RX0) (T := TX0) (N := 5) rfl znX0_weakens_X0 0 (by decide) (List.mem_of_getElem? (i := 1) rfl) rfl dX0_weakens_20 ?_
  refine zget (v := .int (M.1 1 0)) hF hSt hH 1 (by decide) rfl (zE_1 _ _ _) (C := RX2) (T := TX2) (N := 16) rfl znX0_weakens_X2 0 (by decide) (List.mem_of_getElem? (i := 3) rfl) rfl dX0_weakens_23 ?_
  refine lv_icmp_ge (tgt := 69) hx hb dX0_weakens_26 (by decide) (fun q26 => ?_) (fun q26 => ?_)
  · have h := h.1 q26
    refine lv_iconst (v := (0 : Int32)) hx hb dX0_weakens_69 (by decide) ?_
    exact hret _ _ _ _ _ _ dX0_weakens_70 h hH
  · have h := h.2 q26
    refine lv_aload_n hx hb dX0_weakens_29 rfl (lv_at hl 0 rfl) ?_
    refine zget (v := .ref (G.1 1)) hF hSt hH 5 (by decide) rfl (zE_5 _ _ _) (C := RX0) (T := TX0) (N := 5) rfl znX0_weakens_X0 0 (by decide) (List.mem_of_getElem? (i := 1) rfl) rfl dX0_weakens_30 ?_
    refine zget (v := .int (M.1 1 3)) hF hSt hH 1 (by decide) rfl (zE_1 _ _ _) (C := RX2) (T := TX2) (N := 16) rfl znX0_weakens_X2 3 (by decide) (List.mem_of_getElem? (i := 4) rfl) rfl dX0_weakens_33 ?_
    refine lv_iload_n hx hb dX0_weakens_36 rfl (lv_at hl 2 rfl) ?_
    refine zcalliP hH (va_runSN (As := [.int (M.1 1 3), .int x3]) (rest := []) hF (kX5_flag l G M O (M.1 1 3) x3 _ h) ⟨va_cnB 2 hts gX0_weakens_X5_flag_n48 rfl rfl rfl (hSt.2.2.1 _ zNest_X0_48) (hts _ (List.mem_of_getElem? (i := 16) rfl)) zdX5_flag ⟨Nat.le_of_ble_eq_true rfl, Nat.le_of_ble_eq_true rfl⟩, hts _ (List.mem_of_getElem? (i := 15) rfl), trivial⟩ (zpreS hSt hH [.int (M.1 1 3), .int x3]) rfl rfl hl.1 rfl (lv_room (Nat.le_of_ble_eq_true rfl)) dX0_weakens_37 ⟨Nat.zero_le _, Nat.zero_le _⟩) (fun r37 H locs h hH => ?_)
    refine lv_iconst (v := (1 : Int32)) hx hb dX0_weakens_40 (by decide) ?_
    refine lv_icmp_ne (tgt := 63) hx hb dX0_weakens_41 (by decide) (fun q41 => ?_) (fun q41 => ?_)
    · have h := h.1 q41
      exact wX0_weakens_b63 hF hSt hret hag18 x2 x3 M H locs ls hH (lv_sub hl [0, 1, 2] rfl) h
    · have h := h.2 q41
      refine lv_aload_n hx hb dX0_weakens_44 rfl (lv_at hl 0 rfl) ?_
      refine zget (v := .ref (G.1 3)) hF hSt hH 5 (by decide) rfl (zE_5 _ _ _) (C := RX0) (T := TX0) (N := 5) rfl znX0_weakens_X0 1 (by decide) (List.mem_of_getElem? (i := 5) rfl) rfl dX0_weakens_45 ?_
      refine lv_iload_n hx hb dX0_weakens_48 rfl (lv_at hl 2 rfl) ?_
      refine zcalli hH (va_runV (As := [.int x3]) (rest := []) hF (kX3_gather l G M O x3 _ h) (cwV 1 hts gX0_weakens_X3_gather rfl rfl rfl ⟨rfl, zdX3_gather⟩ ⟨Nat.le_of_ble_eq_true rfl, Nat.le_of_ble_eq_true rfl⟩) (zpreV hSt hH 3 (by decide) rfl (zE_3 _ _ _) (q := (RX3, TX3, 4)) rfl [.int x3]) rfl rfl hl.1 rfl (lv_room (Nat.le_of_ble_eq_true rfl)) dX0_weakens_49 ⟨Nat.zero_le _, Nat.zero_le _⟩) (fun r49 M49 H locs h hH => ?_)
      refine lv_iload_n hx hb dX0_weakens_52 rfl (lv_at hl 1 rfl) ?_
      refine lv_icmp_ge (tgt := 63) hx hb dX0_weakens_53 (by decide) (fun q53 => ?_) (fun q53 => ?_)
      · have h := h.1 q53
        exact wX0_weakens_b63 hF hSt hret hag18 x2 x3 M49 H locs ls hH (lv_sub hl [0, 1, 2] rfl) h
      · have h := h.2 q53
        refine lv_aload_n hx hb dX0_weakens_56 rfl (lv_at hl 0 rfl) ?_
        refine lv_iload_n hx hb dX0_weakens_57 rfl (lv_at hl 2 rfl) ?_
        refine zput hF hSt hH 5 (by decide) rfl (zE_5 _ _ _) (C := RX0) (T := TX0) (N := 5) rfl znX0_weakens_X0 tyX0 tyX0_ok nmX0 4 (by decide) (List.mem_of_getElem? (i := 6) rfl) rfl (by decide +kernel) (Nat.le_of_ble_eq_true rfl) (x := x3) rfl dX0_weakens_58 (fun H locs hH => ?_)
        refine lv_iconst (v := (1 : Int32)) hx hb dX0_weakens_61 (by decide) ?_
        exact hret _ _ _ _ _ _ dX0_weakens_62 h hH
def pX0_weakens_L18 (post : Int32 → zM → Prop) (x2 : Int32) (x3 : Int32) (M : zM) : Prop :=
  ∃ I : Nat → Int32 → Int32 → zM → Prop, (∃ n, I n x2 x3 M) ∧ ∀ n x2 x3 M, I n x2 x3 M → pX0_weakens_b18 post (fun x2 x3 M => ∃ k, k < n ∧ I k x2 x3 M) x2 x3 M
set_option maxHeartbeats 4000000 in
theorem wX0_weakens_L18 {post : Int32 → zM → Prop}  (hF : CallFix p m c cX0_weakens 4 s args wsX0_weakens RX0) (hSt : zSt G s) (hret : zRz p l e ({ frames := 4, cells := 0, slots := 0, locals := 102 } : Room) s m args below meth c Q cX0_weakens G true O post) (x2 : Int32) (x3 : Int32) (M : zM) (H : Heap) (locs : List Loc) (ls : Array Slot) (hH : zH G true s H locs M O) (hl : lv_has ls 4 [(0, .ref (G.1 5)), (2, .int x2), (3, .int x3)]) (h : pX0_weakens_L18 post x2 x3 M) : W p l e ({ frames := 4, cells := 0, slots := 0, locals := 102 } : Room) s m args below meth c H locs 0 0 Q (F0 m 18 ls []) := by
  obtain ⟨I, ⟨n, hI⟩, hs⟩ := h
  have key : ∀ (n : Nat) (x2 : Int32) (x3 : Int32) (M : zM) (H : Heap) (locs : List Loc) (ls : Array Slot), I n x2 x3 M → zH G true s H locs M O → lv_has ls 4 [(0, .ref (G.1 5)), (2, .int x2), (3, .int x3)] → W p l e ({ frames := 4, cells := 0, slots := 0, locals := 102 } : Room) s m args below meth c H locs 0 0 Q (F0 m 18 ls []) := by
    intro n
    induction n using Nat.strongRecOn with
    | _ n ih =>
      intro x2 x3 M H locs ls hI hH hl
      exact wX0_weakens_b18 hF hSt hret (fun x2 x3 M H locs ls h hH hl => by obtain ⟨k, hk, hI⟩ := h; exact ih k hk x2 x3 M H locs ls hI hH hl) x2 x3 M H locs ls hH hl (hs n x2 x3 M hI)
  exact key n x2 x3 M H locs ls hI hH hl
def pX0_weakens (M : zM) (x1 : Int32) (x2 : Int32) (post : Int32 → zM → Prop) : Prop :=
  pX2_spreadVectors M ((M.1 1 5) ||| x1) (fun M13 => pX0_weakens_L18 post x2 (1 : Int32) M13)
set_option maxHeartbeats 4000000 in
set_option maxRecDepth 100000 in
theorem wX0_weakens {M : zM} {post : Int32 → zM → Prop} (hF : CallFix p m c cX0_weakens 4 s args wsX0_weakens RX0) (hSt : zSt G s) (hret : zRz p l e ({ frames := 4, cells := 0, slots := 0, locals := 102 } : Room) s m args below meth c Q cX0_weakens G true O post) (x1 : Int32) (x2 : Int32) (H : Heap) (locs : List Loc) (ls : Array Slot) (hH : zH G true s H locs M O) (hl : lv_has ls 4 [(0, .ref (G.1 5)), (1, .int x1), (2, .int x2)]) (h : pX0_weakens M x1 x2 post) : W p l e ({ frames := 4, cells := 0, slots := 0, locals := 102 } : Room) s m args below meth c H locs 0 0 Q (F0 m 0 ls []) := by
  obtain ⟨hx, hb, hml, hown, hts⟩ := id hF
  unfold pX0_weakens at h
  refine lv_aload_n hx hb dX0_weakens_0 rfl (lv_at hl 0 rfl) ?_
  refine zget (v := .ref (G.1 1)) hF hSt hH 5 (by decide) rfl (zE_5 _ _ _) (C := RX0) (T := TX0) (N := 5) rfl znX0_weakens_X0 0 (by decide) (List.mem_of_getElem? (i := 1) rfl) rfl dX0_weakens_1 ?_
  refine lv_aload_n hx hb dX0_weakens_4 rfl (lv_at hl 0 rfl) ?_
  refine zget (v := .ref (G.1 1)) hF hSt hH 5 (by decide) rfl (zE_5 _ _ _) (C := RX0) (T := TX0) (N := 5) rfl znX0_weakens_X0 0 (by decide) (List.mem_of_getElem? (i := 1) rfl) rfl dX0_weakens_5 ?_
  refine zget (v := .int (M.1 1 5)) hF hSt hH 1 (by decide) rfl (zE_1 _ _ _) (C := RX2) (T := TX2) (N := 16) rfl znX0_weakens_X2 5 (by decide) (List.mem_of_getElem? (i := 2) rfl) rfl dX0_weakens_8 ?_
  refine lv_iload_n hx hb dX0_weakens_11 rfl (lv_at hl 1 rfl) ?_
  refine lv_ior hx hb dX0_weakens_12 ?_
  refine zcallv hH (va_runV (As := [.int ((M.1 1 5) ||| x1)]) (rest := []) hF (kX2_spreadVectors l G M O ((M.1 1 5) ||| x1) _ h) (cwV 1 hts gX0_weakens_X2_spreadVectors rfl rfl rfl ⟨rfl, zdX2_spreadVectors⟩ ⟨Nat.le_of_ble_eq_true rfl, Nat.le_of_ble_eq_true rfl⟩) (zpreV hSt hH 1 (by decide) rfl (zE_1 _ _ _) (q := (RX2, TX2, 16)) rfl [.int ((M.1 1 5) ||| x1)]) rfl rfl hl.1 rfl (lv_room (Nat.le_of_ble_eq_true rfl)) dX0_weakens_13 ⟨Nat.zero_le _, Nat.zero_le _⟩) (fun M13 H locs h hH => ?_)
  refine lv_iconst (v := (1 : Int32)) hx hb dX0_weakens_16 (by decide) ?_
  refine lv_istore_n (lv' := [(3, .int (1 : Int32)), (0, .ref (G.1 5)), (1, .int x1), (2, .int x2)]) hx hb dX0_weakens_17 rfl hl (by decide) rfl (fun ls hl => ?_)
  exact wX0_weakens_L18 hF hSt hret x2 (1 : Int32) M13 H locs ls hH (lv_sub hl [1, 3, 0] rfl) h
set_option maxRecDepth 100000 in
theorem kX0_weakens (l : Launch) (G : zG) (M O : zM) (x1 : Int32) (x2 : Int32) (post : Int32 → zM → Prop) (h : pX0_weakens M x1 x2 post) : Met l yX0_weakens wsX0_weakens ({ frames := 4, cells := 0, slots := 0, locals := 102 } : Room) (zPc G true M O [.ref (G.1 5), .int x1, .int x2]) (va_Qi post (zB G true O) (zAA G)) 0 0 (zAA G) :=
  zmet_z (by decide) rfl (Nat.le_of_ble_eq_true rfl) (fun hF hSt hret H locs ls hH hl => wX0_weakens hF hSt hret x1 x2 H locs ls hH hl h)
end
theorem znX0_searchTwo_X0 : ∀ w ∈ wsX00, w ∈ wsX0_searchTwo := fun _ h => List.mem_cons_of_mem _ (List.mem_append_left _ (List.mem_append_left _ (List.mem_append_right _ h)))
theorem znX0_searchTwo_X2 : ∀ w ∈ wsX20, w ∈ wsX0_searchTwo := fun _ h => List.mem_cons_of_mem _ (List.mem_append_left _ (List.mem_append_right _ h))
theorem znX0_searchTwo_X3 : ∀ w ∈ wsX30, w ∈ wsX0_searchTwo := fun _ h => List.mem_cons_of_mem _ (List.mem_append_right _ h)
theorem zdX0_searchTwo : yX0_searchTwo.cls ≠ "java/lang/invoke/MethodHandle" ∧ yX0_searchTwo.cls ≠ "java/lang/invoke/VarHandle" ∧ (parseMethodDescriptor yX0_searchTwo.desc).map (fun d => d.parameters.length) = some 1 := by decide +kernel
-- MixingRelays$Breaker searchTwo(I)Z
section
variable {p : Program} {l : Launch} {e : Env} {s : State} {m : MethodId} {args : Array Value} {below : List Frame} {meth : Method} {c : Code} {Q : State → Prop} {G : zG} {O : zM}
def pX0_searchTwo_b72 (post : Int32 → zM → Prop) (ag2 : Int32 → Int32 → zM → Prop) (ag17 : Int32 → Int32 → Int32 → zM → Prop) (x1 : Int32) (x2 : Int32) (x3 : Int32) (M : zM) : Prop :=
  ag17 x1 x2 (x3 + (1 : Int32)) M
set_option maxHeartbeats 4000000 in
set_option maxRecDepth 100000 in
theorem wX0_searchTwo_b72 {post : Int32 → zM → Prop} {ag2 : Int32 → Int32 → zM → Prop} {ag17 : Int32 → Int32 → Int32 → zM → Prop} (hF : CallFix p m c cX0_searchTwo 5 s args wsX0_searchTwo RX0) (hSt : zSt G s) (hret : zRz p l e ({ frames := 5, cells := 0, slots := 0, locals := 125 } : Room) s m args below meth c Q cX0_searchTwo G true O post) (hag2 : ∀ (x1 : Int32) (x2 : Int32) (M : zM) (H : Heap) (locs : List Loc) (ls : Array Slot), ag2 x1 x2 M → zH G true s H locs M O → lv_has ls 5 [(0, .ref (G.1 5)), (1, .int x1), (2, .int x2)] → W p l e ({ frames := 5, cells := 0, slots := 0, locals := 125 } : Room) s m args below meth c H locs 0 0 Q (F0 m 2 ls [])) (hag17 : ∀ (x1 : Int32) (x2 : Int32) (x3 : Int32) (M : zM) (H : Heap) (locs : List Loc) (ls : Array Slot), ag17 x1 x2 x3 M → zH G true s H locs M O → lv_has ls 5 [(0, .ref (G.1 5)), (1, .int x1), (2, .int x2), (3, .int x3)] → W p l e ({ frames := 5, cells := 0, slots := 0, locals := 125 } : Room) s m args below meth c H locs 0 0 Q (F0 m 17 ls [])) (x1 : Int32) (x2 : Int32) (x3 : Int32) (M : zM) (H : Heap) (locs : List Loc) (ls : Array Slot) (hH : zH G true s H locs M O) (hl : lv_has ls 5 [(0, .ref (G.1 5)), (1, .int x1), (2, .int x2), (3, .int x3)]) (h : pX0_searchTwo_b72 post ag2 ag17 x1 x2 x3 M) : W p l e ({ frames := 5, cells := 0, slots := 0, locals := 125 } : Room) s m args below meth c H locs 0 0 Q (F0 m 72 ls []) := by
  obtain ⟨hx, hb, hml, hown, hts⟩ := id hF
  unfold pX0_searchTwo_b72 at h
  refine lv_iinc (v := (x3 + (1 : Int32))) (lv' := [(3, .int (x3 + (1 : Int32))), (0, .ref (G.1 5)), (1, .int x1), (2, .int x2)]) hx hb dX0_searchTwo_72 hl (k := 3) rfl rfl (by decide) rfl (fun ls hl => ?_)
  refine lv_goto (tgt := 17) hx hb dX0_searchTwo_75 (by decide) ?_
  exact hag17 x1 x2 (x3 + (1 : Int32)) M H locs ls h hH (lv_sub hl [1, 2, 3, 0] rfl)
def pX0_searchTwo_b17 (post : Int32 → zM → Prop) (ag2 : Int32 → Int32 → zM → Prop) (ag17 : Int32 → Int32 → Int32 → zM → Prop) (x1 : Int32) (x2 : Int32) (x3 : Int32) (M : zM) : Prop :=
  ((M.1 1 1) ≤ x3 → ag2 x1 (x2 + (1 : Int32)) M) ∧ (¬ ((M.1 1 1) ≤ x3) → (¬ (((M.1 1 5) &&& (((1 : Int32) <<< (x2 &&& 31)) ||| ((1 : Int32) <<< (x3 &&& 31)))) = 0) → pX0_searchTwo_b72 post ag2 ag17 x1 x2 x3 M) ∧ (((M.1 1 5) &&& (((1 : Int32) <<< (x2 &&& 31)) ||| ((1 : Int32) <<< (x3 &&& 31)))) = 0 → pX0_weakens M (((1 : Int32) <<< (x2 &&& 31)) ||| ((1 : Int32) <<< (x3 &&& 31))) x1 (fun r54 M54 => (r54 = 0 → pX0_searchTwo_b72 post ag2 ag17 x1 x2 x3 M54) ∧ (¬ (r54 = 0) → ((1 : Int32) = 0 ∨ (1 : Int32) = 1) ∧ post (1 : Int32) (zsi (zsi M54 5 2 x2) 5 3 x3)))))
set_option maxHeartbeats 4000000 in
set_option maxRecDepth 100000 in
theorem wX0_searchTwo_b17 {post : Int32 → zM → Prop} {ag2 : Int32 → Int32 → zM → Prop} {ag17 : Int32 → Int32 → Int32 → zM → Prop} (hF : CallFix p m c cX0_searchTwo 5 s args wsX0_searchTwo RX0) (hSt : zSt G s) (hret : zRz p l e ({ frames := 5, cells := 0, slots := 0, locals := 125 } : Room) s m args below meth c Q cX0_searchTwo G true O post) (hag2 : ∀ (x1 : Int32) (x2 : Int32) (M : zM) (H : Heap) (locs : List Loc) (ls : Array Slot), ag2 x1 x2 M → zH G true s H locs M O → lv_has ls 5 [(0, .ref (G.1 5)), (1, .int x1), (2, .int x2)] → W p l e ({ frames := 5, cells := 0, slots := 0, locals := 125 } : Room) s m args below meth c H locs 0 0 Q (F0 m 2 ls [])) (hag17 : ∀ (x1 : Int32) (x2 : Int32) (x3 : Int32) (M : zM) (H : Heap) (locs : List Loc) (ls : Array Slot), ag17 x1 x2 x3 M → zH G true s H locs M O → lv_has ls 5 [(0, .ref (G.1 5)), (1, .int x1), (2, .int x2), (3, .int x3)] → W p l e ({ frames := 5, cells := 0, slots := 0, locals := 125 } : Room) s m args below meth c H locs 0 0 Q (F0 m 17 ls [])) (x1 : Int32) (x2 : Int32) (x3 : Int32) (M : zM) (H : Heap) (locs : List Loc) (ls : Array Slot) (hH : zH G true s H locs M O) (hl : lv_has ls 5 [(0, .ref (G.1 5)), (1, .int x1), (2, .int x2), (3, .int x3)]) (h : pX0_searchTwo_b17 post ag2 ag17 x1 x2 x3 M) : W p l e ({ frames := 5, cells := 0, slots := 0, locals := 125 } : Room) s m args below meth c H locs 0 0 Q (F0 m 17 ls []) := by
  obtain ⟨hx, hb, hml, hown, hts⟩ := id hF
  unfold pX0_searchTwo_b17 at h
  refine lv_iload_n hx hb dX0_searchTwo_17 rfl (lv_at hl 3 rfl) ?_
  refine lv_aload_n hx hb dX0_searchTwo_18 rfl (lv_at hl 0 rfl) ?_
  refine zget (v := .ref (G.1 1)) hF hSt hH 5 (by decide) rfl (zE_5 _ _ _) (C := RX0) (T := TX0) (N := 5) rfl znX0_searchTwo_X0 0 (by decide) (List.mem_of_getElem? (i := 1) rfl) rfl dX0_searchTwo_19 ?_
  refine zget (v := .int (M.1 1 1)) hF hSt hH 1 (by decide) rfl (zE_1 _ _ _) (C := RX2) (T := TX2) (N := 16) rfl znX0_searchTwo_X2 1 (by decide) (List.mem_of_getElem? (i := 2) rfl) rfl dX0_searchTwo_22 ?_
  refine lv_icmp_ge (tgt := 78) hx hb dX0_searchTwo_25 (by decide) (fun q25 => ?_) (fun q25 => ?_)
  · have h := h.1 q25
    refine lv_iinc (v := (x2 + (1 : Int32))) (lv' := [(2, .int (x2 + (1 : Int32))), (0, .ref (G.1 5)), (1, .int x1), (3, .int x3)]) hx hb dX0_searchTwo_78 hl (k := 2) rfl rfl (by decide) rfl (fun ls hl => ?_)
    refine lv_goto (tgt := 2) hx hb dX0_searchTwo_81 (by decide) ?_
    exact hag2 x1 (x2 + (1 : Int32)) M H locs ls h hH (lv_sub hl [1, 2, 0] rfl)
  · have h := h.2 q25
    refine lv_iconst (v := (1 : Int32)) hx hb dX0_searchTwo_28 (by decide) ?_
    refine lv_iload_n hx hb dX0_searchTwo_29 rfl (lv_at hl 2 rfl) ?_
    refine lv_ishl hx hb dX0_searchTwo_30 ?_
    refine lv_iconst (v := (1 : Int32)) hx hb dX0_searchTwo_31 (by decide) ?_
    refine lv_iload_n hx hb dX0_searchTwo_32 rfl (lv_at hl 3 rfl) ?_
    refine lv_ishl hx hb dX0_searchTwo_33 ?_
    refine lv_ior hx hb dX0_searchTwo_34 ?_
    refine lv_istore (lv' := [(4, .int (((1 : Int32) <<< (x2 &&& 31)) ||| ((1 : Int32) <<< (x3 &&& 31)))), (0, .ref (G.1 5)), (1, .int x1), (2, .int x2), (3, .int x3)]) hx hb dX0_searchTwo_35 hl (by decide) rfl (fun ls hl => ?_)
    refine lv_aload_n hx hb dX0_searchTwo_37 rfl (lv_at hl 1 rfl) ?_
    refine zget (v := .ref (G.1 1)) hF hSt hH 5 (by decide) rfl (zE_5 _ _ _) (C := RX0) (T := TX0) (N := 5) rfl znX0_searchTwo_X0 0 (by decide) (List.mem_of_getElem? (i := 1) rfl) rfl dX0_searchTwo_38 ?_
    refine zget (v := .int (M.1 1 5)) hF hSt hH 1 (by decide) rfl (zE_1 _ _ _) (C := RX2) (T := TX2) (N := 16) rfl znX0_searchTwo_X2 5 (by decide) (List.mem_of_getElem? (i := 3) rfl) rfl dX0_searchTwo_41 ?_
    refine lv_iload hx hb dX0_searchTwo_44 (lv_at hl 0 rfl) ?_
    refine lv_iand hx hb dX0_searchTwo_46 ?_
    refine lv_if_ne (tgt := 72) hx hb dX0_searchTwo_47 (by decide) (fun q47 => ?_) (fun q47 => ?_)
    · have h := h.1 q47
      exact wX0_searchTwo_b72 hF hSt hret hag2 hag17 x1 x2 x3 M H locs ls hH (lv_sub hl [1, 2, 3, 4] rfl) h
    · have h := h.2 q47
      refine lv_aload_n hx hb dX0_searchTwo_50 rfl (lv_at hl 1 rfl) ?_
      refine lv_iload hx hb dX0_searchTwo_51 (lv_at hl 0 rfl) ?_
      refine lv_iload_n hx hb dX0_searchTwo_53 rfl (lv_at hl 2 rfl) ?_
      refine zcalli hH (va_runV (As := [.int (((1 : Int32) <<< (x2 &&& 31)) ||| ((1 : Int32) <<< (x3 &&& 31))), .int x1]) (rest := []) hF (kX0_weakens l G M O (((1 : Int32) <<< (x2 &&& 31)) ||| ((1 : Int32) <<< (x3 &&& 31))) x1 _ h) (cwV 2 hts gX0_searchTwo_X0_weakens rfl rfl rfl ⟨rfl, zdX0_weakens⟩ ⟨Nat.le_of_ble_eq_true rfl, Nat.le_of_ble_eq_true rfl⟩) (zpreV hSt hH 5 (by decide) rfl (zE_5 _ _ _) (q := (RX0, TX0, 5)) rfl [.int (((1 : Int32) <<< (x2 &&& 31)) ||| ((1 : Int32) <<< (x3 &&& 31))), .int x1]) rfl rfl hl.1 rfl (lv_room (Nat.le_of_ble_eq_true rfl)) dX0_searchTwo_54 ⟨Nat.zero_le _, Nat.zero_le _⟩) (fun r54 M54 H locs h hH => ?_)
      refine lv_if_eq (tgt := 72) hx hb dX0_searchTwo_57 (by decide) (fun q57 => ?_) (fun q57 => ?_)
      · have h := h.1 q57
        exact wX0_searchTwo_b72 hF hSt hret hag2 hag17 x1 x2 x3 M54 H locs ls hH (lv_sub hl [1, 2, 3, 4] rfl) h
      · have h := h.2 q57
        refine lv_aload_n hx hb dX0_searchTwo_60 rfl (lv_at hl 1 rfl) ?_
        refine lv_iload_n hx hb dX0_searchTwo_61 rfl (lv_at hl 3 rfl) ?_
        refine zput hF hSt hH 5 (by decide) rfl (zE_5 _ _ _) (C := RX0) (T := TX0) (N := 5) rfl znX0_searchTwo_X0 tyX0 tyX0_ok nmX0 2 (by decide) (List.mem_of_getElem? (i := 4) rfl) rfl (by decide +kernel) (Nat.le_of_ble_eq_true rfl) (x := x2) rfl dX0_searchTwo_62 (fun H locs hH => ?_)
        refine lv_aload_n hx hb dX0_searchTwo_65 rfl (lv_at hl 1 rfl) ?_
        refine lv_iload_n hx hb dX0_searchTwo_66 rfl (lv_at hl 4 rfl) ?_
        refine zput hF hSt hH 5 (by decide) rfl (zE_5 _ _ _) (C := RX0) (T := TX0) (N := 5) rfl znX0_searchTwo_X0 tyX0 tyX0_ok nmX0 3 (by decide) (List.mem_of_getElem? (i := 5) rfl) rfl (by decide +kernel) (Nat.le_of_ble_eq_true rfl) (x := x3) rfl dX0_searchTwo_67 (fun H locs hH => ?_)
        refine lv_iconst (v := (1 : Int32)) hx hb dX0_searchTwo_70 (by decide) ?_
        exact hret _ _ _ _ _ _ dX0_searchTwo_71 h hH
def pX0_searchTwo_L17 (post : Int32 → zM → Prop) (ag2 : Int32 → Int32 → zM → Prop) (x1 : Int32) (x2 : Int32) (x3 : Int32) (M : zM) : Prop :=
  ∃ I : Nat → Int32 → Int32 → Int32 → zM → Prop, (∃ n, I n x1 x2 x3 M) ∧ ∀ n x1 x2 x3 M, I n x1 x2 x3 M → pX0_searchTwo_b17 post ag2 (fun x1 x2 x3 M => ∃ k, k < n ∧ I k x1 x2 x3 M) x1 x2 x3 M
set_option maxHeartbeats 4000000 in
theorem wX0_searchTwo_L17 {post : Int32 → zM → Prop} {ag2 : Int32 → Int32 → zM → Prop} (hF : CallFix p m c cX0_searchTwo 5 s args wsX0_searchTwo RX0) (hSt : zSt G s) (hret : zRz p l e ({ frames := 5, cells := 0, slots := 0, locals := 125 } : Room) s m args below meth c Q cX0_searchTwo G true O post) (hag2 : ∀ (x1 : Int32) (x2 : Int32) (M : zM) (H : Heap) (locs : List Loc) (ls : Array Slot), ag2 x1 x2 M → zH G true s H locs M O → lv_has ls 5 [(0, .ref (G.1 5)), (1, .int x1), (2, .int x2)] → W p l e ({ frames := 5, cells := 0, slots := 0, locals := 125 } : Room) s m args below meth c H locs 0 0 Q (F0 m 2 ls [])) (x1 : Int32) (x2 : Int32) (x3 : Int32) (M : zM) (H : Heap) (locs : List Loc) (ls : Array Slot) (hH : zH G true s H locs M O) (hl : lv_has ls 5 [(0, .ref (G.1 5)), (1, .int x1), (2, .int x2), (3, .int x3)]) (h : pX0_searchTwo_L17 post ag2 x1 x2 x3 M) : W p l e ({ frames := 5, cells := 0, slots := 0, locals := 125 } : Room) s m args below meth c H locs 0 0 Q (F0 m 17 ls []) := by
  obtain ⟨I, ⟨n, hI⟩, hs⟩ := h
  have key : ∀ (n : Nat) (x1 : Int32) (x2 : Int32) (x3 : Int32) (M : zM) (H : Heap) (locs : List Loc) (ls : Array Slot), I n x1 x2 x3 M → zH G true s H locs M O → lv_has ls 5 [(0, .ref (G.1 5)), (1, .int x1), (2, .int x2), (3, .int x3)] → W p l e ({ frames := 5, cells := 0, slots := 0, locals := 125 } : Room) s m args below meth c H locs 0 0 Q (F0 m 17 ls []) := by
    intro n
    induction n using Nat.strongRecOn with
    | _ n ih =>
      intro x1 x2 x3 M H locs ls hI hH hl
      exact wX0_searchTwo_b17 hF hSt hret hag2 (fun x1 x2 x3 M H locs ls h hH hl => by obtain ⟨k, hk, hI⟩ := h; exact ih k hk x1 x2 x3 M H locs ls hI hH hl) x1 x2 x3 M H locs ls hH hl (hs n x1 x2 x3 M hI)
  exact key n x1 x2 x3 M H locs ls hI hH hl
def pX0_searchTwo_b2 (post : Int32 → zM → Prop) (ag2 : Int32 → Int32 → zM → Prop) (x1 : Int32) (x2 : Int32) (M : zM) : Prop :=
  ((M.1 1 1) ≤ x2 → ((0 : Int32) = 0 ∨ (0 : Int32) = 1) ∧ post (0 : Int32) M) ∧ (¬ ((M.1 1 1) ≤ x2) → pX0_searchTwo_L17 post ag2 x1 x2 (x2 + (1 : Int32)) M)
set_option maxHeartbeats 4000000 in
set_option maxRecDepth 100000 in
theorem wX0_searchTwo_b2 {post : Int32 → zM → Prop} {ag2 : Int32 → Int32 → zM → Prop} (hF : CallFix p m c cX0_searchTwo 5 s args wsX0_searchTwo RX0) (hSt : zSt G s) (hret : zRz p l e ({ frames := 5, cells := 0, slots := 0, locals := 125 } : Room) s m args below meth c Q cX0_searchTwo G true O post) (hag2 : ∀ (x1 : Int32) (x2 : Int32) (M : zM) (H : Heap) (locs : List Loc) (ls : Array Slot), ag2 x1 x2 M → zH G true s H locs M O → lv_has ls 5 [(0, .ref (G.1 5)), (1, .int x1), (2, .int x2)] → W p l e ({ frames := 5, cells := 0, slots := 0, locals := 125 } : Room) s m args below meth c H locs 0 0 Q (F0 m 2 ls [])) (x1 : Int32) (x2 : Int32) (M : zM) (H : Heap) (locs : List Loc) (ls : Array Slot) (hH : zH G true s H locs M O) (hl : lv_has ls 5 [(0, .ref (G.1 5)), (1, .int x1), (2, .int x2)]) (h : pX0_searchTwo_b2 post ag2 x1 x2 M) : W p l e ({ frames := 5, cells := 0, slots := 0, locals := 125 } : Room) s m args below meth c H locs 0 0 Q (F0 m 2 ls []) := by
  obtain ⟨hx, hb, hml, hown, hts⟩ := id hF
  unfold pX0_searchTwo_b2 at h
  refine lv_iload_n hx hb dX0_searchTwo_2 rfl (lv_at hl 2 rfl) ?_
  refine lv_aload_n hx hb dX0_searchTwo_3 rfl (lv_at hl 0 rfl) ?_
  refine zget (v := .ref (G.1 1)) hF hSt hH 5 (by decide) rfl (zE_5 _ _ _) (C := RX0) (T := TX0) (N := 5) rfl znX0_searchTwo_X0 0 (by decide) (List.mem_of_getElem? (i := 1) rfl) rfl dX0_searchTwo_4 ?_
  refine zget (v := .int (M.1 1 1)) hF hSt hH 1 (by decide) rfl (zE_1 _ _ _) (C := RX2) (T := TX2) (N := 16) rfl znX0_searchTwo_X2 1 (by decide) (List.mem_of_getElem? (i := 2) rfl) rfl dX0_searchTwo_7 ?_
  refine lv_icmp_ge (tgt := 84) hx hb dX0_searchTwo_10 (by decide) (fun q10 => ?_) (fun q10 => ?_)
  · have h := h.1 q10
    refine lv_iconst (v := (0 : Int32)) hx hb dX0_searchTwo_84 (by decide) ?_
    exact hret _ _ _ _ _ _ dX0_searchTwo_85 h hH
  · have h := h.2 q10
    refine lv_iload_n hx hb dX0_searchTwo_13 rfl (lv_at hl 2 rfl) ?_
    refine lv_iconst (v := (1 : Int32)) hx hb dX0_searchTwo_14 (by decide) ?_
    refine lv_iadd hx hb dX0_searchTwo_15 ?_
    refine lv_istore_n (lv' := [(3, .int (x2 + (1 : Int32))), (0, .ref (G.1 5)), (1, .int x1), (2, .int x2)]) hx hb dX0_searchTwo_16 rfl hl (by decide) rfl (fun ls hl => ?_)
    exact wX0_searchTwo_L17 hF hSt hret hag2 x1 x2 (x2 + (1 : Int32)) M H locs ls hH (lv_sub hl [1, 2, 3, 0] rfl) h
def pX0_searchTwo_L2 (post : Int32 → zM → Prop) (x1 : Int32) (x2 : Int32) (M : zM) : Prop :=
  ∃ I : Nat → Int32 → Int32 → zM → Prop, (∃ n, I n x1 x2 M) ∧ ∀ n x1 x2 M, I n x1 x2 M → pX0_searchTwo_b2 post (fun x1 x2 M => ∃ k, k < n ∧ I k x1 x2 M) x1 x2 M
set_option maxHeartbeats 4000000 in
theorem wX0_searchTwo_L2 {post : Int32 → zM → Prop}  (hF : CallFix p m c cX0_searchTwo 5 s args wsX0_searchTwo RX0) (hSt : zSt G s) (hret : zRz p l e ({ frames := 5, cells := 0, slots := 0, locals := 125 } : Room) s m args below meth c Q cX0_searchTwo G true O post) (x1 : Int32) (x2 : Int32) (M : zM) (H : Heap) (locs : List Loc) (ls : Array Slot) (hH : zH G true s H locs M O) (hl : lv_has ls 5 [(0, .ref (G.1 5)), (1, .int x1), (2, .int x2)]) (h : pX0_searchTwo_L2 post x1 x2 M) : W p l e ({ frames := 5, cells := 0, slots := 0, locals := 125 } : Room) s m args below meth c H locs 0 0 Q (F0 m 2 ls []) := by
  obtain ⟨I, ⟨n, hI⟩, hs⟩ := h
  have key : ∀ (n : Nat) (x1 : Int32) (x2 : Int32) (M : zM) (H : Heap) (locs : List Loc) (ls : Array Slot), I n x1 x2 M → zH G true s H locs M O → lv_has ls 5 [(0, .ref (G.1 5)), (1, .int x1), (2, .int x2)] → W p l e ({ frames := 5, cells := 0, slots := 0, locals := 125 } : Room) s m args below meth c H locs 0 0 Q (F0 m 2 ls []) := by
    intro n
    induction n using Nat.strongRecOn with
    | _ n ih =>
      intro x1 x2 M H locs ls hI hH hl
      exact wX0_searchTwo_b2 hF hSt hret (fun x1 x2 M H locs ls h hH hl => by obtain ⟨k, hk, hI⟩ := h; exact ih k hk x1 x2 M H locs ls hI hH hl) x1 x2 M H locs ls hH hl (hs n x1 x2 M hI)
  exact key n x1 x2 M H locs ls hI hH hl
def pX0_searchTwo (M : zM) (x1 : Int32) (post : Int32 → zM → Prop) : Prop :=
  pX0_searchTwo_L2 post x1 (0 : Int32) M
set_option maxHeartbeats 4000000 in
set_option maxRecDepth 100000 in
theorem wX0_searchTwo {M : zM} {post : Int32 → zM → Prop} (hF : CallFix p m c cX0_searchTwo 5 s args wsX0_searchTwo RX0) (hSt : zSt G s) (hret : zRz p l e ({ frames := 5, cells := 0, slots := 0, locals := 125 } : Room) s m args below meth c Q cX0_searchTwo G true O post) (x1 : Int32) (H : Heap) (locs : List Loc) (ls : Array Slot) (hH : zH G true s H locs M O) (hl : lv_has ls 5 [(0, .ref (G.1 5)), (1, .int x1)]) (h : pX0_searchTwo M x1 post) : W p l e ({ frames := 5, cells := 0, slots := 0, locals := 125 } : Room) s m args below meth c H locs 0 0 Q (F0 m 0 ls []) := by
  obtain ⟨hx, hb, hml, hown, hts⟩ := id hF
  unfold pX0_searchTwo at h
  refine lv_iconst (v := (0 : Int32)) hx hb dX0_searchTwo_0 (by decide) ?_
  refine lv_istore_n (lv' := [(2, .int (0 : Int32)), (0, .ref (G.1 5)), (1, .int x1)]) hx hb dX0_searchTwo_1 rfl hl (by decide) rfl (fun ls hl => ?_)
  exact wX0_searchTwo_L2 hF hSt hret x1 (0 : Int32) M H locs ls hH (lv_sub hl [1, 2, 0] rfl) h
set_option maxRecDepth 100000 in
theorem kX0_searchTwo (l : Launch) (G : zG) (M O : zM) (x1 : Int32) (post : Int32 → zM → Prop) (h : pX0_searchTwo M x1 post) : Met l yX0_searchTwo wsX0_searchTwo ({ frames := 5, cells := 0, slots := 0, locals := 125 } : Room) (zPc G true M O [.ref (G.1 5), .int x1]) (va_Qi post (zB G true O) (zAA G)) 0 0 (zAA G) :=
  zmet_z (by decide) rfl (Nat.le_of_ble_eq_true rfl) (fun hF hSt hret H locs ls hH hl => wX0_searchTwo hF hSt hret x1 H locs ls hH hl h)
end
theorem znX0_searchOne_X0 : ∀ w ∈ wsX00, w ∈ wsX0_searchOne := fun _ h => List.mem_cons_of_mem _ (List.mem_append_left _ (List.mem_append_left _ (List.mem_append_right _ h)))
theorem znX0_searchOne_X2 : ∀ w ∈ wsX20, w ∈ wsX0_searchOne := fun _ h => List.mem_cons_of_mem _ (List.mem_append_left _ (List.mem_append_right _ h))
theorem znX0_searchOne_X3 : ∀ w ∈ wsX30, w ∈ wsX0_searchOne := fun _ h => List.mem_cons_of_mem _ (List.mem_append_right _ h)
theorem zdX0_searchOne : yX0_searchOne.cls ≠ "java/lang/invoke/MethodHandle" ∧ yX0_searchOne.cls ≠ "java/lang/invoke/VarHandle" ∧ (parseMethodDescriptor yX0_searchOne.desc).map (fun d => d.parameters.length) = some 1 := by decide +kernel
-- MixingRelays$Breaker searchOne(I)Z
section
variable {p : Program} {l : Launch} {e : Env} {s : State} {m : MethodId} {args : Array Value} {below : List Frame} {meth : Method} {c : Code} {Q : State → Prop} {G : zG} {O : zM}
def pX0_searchOne_b45 (post : Int32 → zM → Prop) (ag2 : Int32 → Int32 → zM → Prop) (x1 : Int32) (x2 : Int32) (M : zM) : Prop :=
  ag2 x1 (x2 + (1 : Int32)) M
set_option maxHeartbeats 4000000 in
set_option maxRecDepth 100000 in
theorem wX0_searchOne_b45 {post : Int32 → zM → Prop} {ag2 : Int32 → Int32 → zM → Prop} (hF : CallFix p m c cX0_searchOne 3 s args wsX0_searchOne RX0) (hSt : zSt G s) (hret : zRz p l e ({ frames := 5, cells := 0, slots := 0, locals := 125 } : Room) s m args below meth c Q cX0_searchOne G true O post) (hag2 : ∀ (x1 : Int32) (x2 : Int32) (M : zM) (H : Heap) (locs : List Loc) (ls : Array Slot), ag2 x1 x2 M → zH G true s H locs M O → lv_has ls 3 [(0, .ref (G.1 5)), (1, .int x1), (2, .int x2)] → W p l e ({ frames := 5, cells := 0, slots := 0, locals := 125 } : Room) s m args below meth c H locs 0 0 Q (F0 m 2 ls [])) (x1 : Int32) (x2 : Int32) (M : zM) (H : Heap) (locs : List Loc) (ls : Array Slot) (hH : zH G true s H locs M O) (hl : lv_has ls 3 [(0, .ref (G.1 5)), (1, .int x1), (2, .int x2)]) (h : pX0_searchOne_b45 post ag2 x1 x2 M) : W p l e ({ frames := 5, cells := 0, slots := 0, locals := 125 } : Room) s m args below meth c H locs 0 0 Q (F0 m 45 ls []) := by
  obtain ⟨hx, hb, hml, hown, hts⟩ := id hF
  unfold pX0_searchOne_b45 at h
  refine lv_iinc (v := (x2 + (1 : Int32))) (lv' := [(2, .int (x2 + (1 : Int32))), (0, .ref (G.1 5)), (1, .int x1)]) hx hb dX0_searchOne_45 hl (k := 2) rfl rfl (by decide) rfl (fun ls hl => ?_)
  refine lv_goto (tgt := 2) hx hb dX0_searchOne_48 (by decide) ?_
  exact hag2 x1 (x2 + (1 : Int32)) M H locs ls h hH (lv_sub hl [1, 2, 0] rfl)
def pX0_searchOne_b2 (post : Int32 → zM → Prop) (ag2 : Int32 → Int32 → zM → Prop) (x1 : Int32) (x2 : Int32) (M : zM) : Prop :=
  ((M.1 1 1) ≤ x2 → ((0 : Int32) = 0 ∨ (0 : Int32) = 1) ∧ post (0 : Int32) M) ∧ (¬ ((M.1 1 1) ≤ x2) → pX5_flag (M.1 1 5) x2 (fun r21 => (¬ (r21 = 0) → pX0_searchOne_b45 post ag2 x1 x2 M) ∧ (r21 = 0 → pX0_weakens M ((1 : Int32) <<< (x2 &&& 31)) x1 (fun r32 M32 => (r32 = 0 → pX0_searchOne_b45 post ag2 x1 x2 M32) ∧ (¬ (r32 = 0) → ((1 : Int32) = 0 ∨ (1 : Int32) = 1) ∧ post (1 : Int32) (zsi M32 5 2 x2))))))
set_option maxHeartbeats 4000000 in
set_option maxRecDepth 100000 in
theorem wX0_searchOne_b2 {post : Int32 → zM → Prop} {ag2 : Int32 → Int32 → zM → Prop} (hF : CallFix p m c cX0_searchOne 3 s args wsX0_searchOne RX0) (hSt : zSt G s) (hret : zRz p l e ({ frames := 5, cells := 0, slots := 0, locals := 125 } : Room) s m args below meth c Q cX0_searchOne G true O post) (hag2 : ∀ (x1 : Int32) (x2 : Int32) (M : zM) (H : Heap) (locs : List Loc) (ls : Array Slot), ag2 x1 x2 M → zH G true s H locs M O → lv_has ls 3 [(0, .ref (G.1 5)), (1, .int x1), (2, .int x2)] → W p l e ({ frames := 5, cells := 0, slots := 0, locals := 125 } : Room) s m args below meth c H locs 0 0 Q (F0 m 2 ls [])) (x1 : Int32) (x2 : Int32) (M : zM) (H : Heap) (locs : List Loc) (ls : Array Slot) (hH : zH G true s H locs M O) (hl : lv_has ls 3 [(0, .ref (G.1 5)), (1, .int x1), (2, .int x2)]) (h : pX0_searchOne_b2 post ag2 x1 x2 M) : W p l e ({ frames := 5, cells := 0, slots := 0, locals := 125 } : Room) s m args below meth c H locs 0 0 Q (F0 m 2 ls []) := by
  obtain ⟨hx, hb, hml, hown, hts⟩ := id hF
  unfold pX0_searchOne_b2 at h
  refine lv_iload_n hx hb dX0_searchOne_2 rfl (lv_at hl 2 rfl) ?_
  refine lv_aload_n hx hb dX0_searchOne_3 rfl (lv_at hl 0 rfl) ?_
  refine zget (v := .ref (G.1 1)) hF hSt hH 5 (by decide) rfl (zE_5 _ _ _) (C := RX0) (T := TX0) (N := 5) rfl znX0_searchOne_X0 0 (by decide) (List.mem_of_getElem? (i := 1) rfl) rfl dX0_searchOne_4 ?_
  refine zget (v := .int (M.1 1 1)) hF hSt hH 1 (by decide) rfl (zE_1 _ _ _) (C := RX2) (T := TX2) (N := 16) rfl znX0_searchOne_X2 1 (by decide) (List.mem_of_getElem? (i := 2) rfl) rfl dX0_searchOne_7 ?_
  refine lv_icmp_ge (tgt := 51) hx hb dX0_searchOne_10 (by decide) (fun q10 => ?_) (fun q10 => ?_)
  · have h := h.1 q10
    refine lv_iconst (v := (0 : Int32)) hx hb dX0_searchOne_51 (by decide) ?_
    exact hret _ _ _ _ _ _ dX0_searchOne_52 h hH
  · have h := h.2 q10
    refine lv_aload_n hx hb dX0_searchOne_13 rfl (lv_at hl 0 rfl) ?_
    refine zget (v := .ref (G.1 1)) hF hSt hH 5 (by decide) rfl (zE_5 _ _ _) (C := RX0) (T := TX0) (N := 5) rfl znX0_searchOne_X0 0 (by decide) (List.mem_of_getElem? (i := 1) rfl) rfl dX0_searchOne_14 ?_
    refine zget (v := .int (M.1 1 5)) hF hSt hH 1 (by decide) rfl (zE_1 _ _ _) (C := RX2) (T := TX2) (N := 16) rfl znX0_searchOne_X2 5 (by decide) (List.mem_of_getElem? (i := 3) rfl) rfl dX0_searchOne_17 ?_
    refine lv_iload_n hx hb dX0_searchOne_20 rfl (lv_at hl 2 rfl) ?_
    refine zcalliP hH (va_runSN (As := [.int (M.1 1 5), .int x2]) (rest := []) hF (kX5_flag l G M O (M.1 1 5) x2 _ h) ⟨va_cnB 2 hts gX0_searchOne_X5_flag_n48 rfl rfl rfl (hSt.2.2.1 _ zNest_X0_48) (hts _ (List.mem_of_getElem? (i := 6) rfl)) zdX5_flag ⟨Nat.le_of_ble_eq_true rfl, Nat.le_of_ble_eq_true rfl⟩, hts _ (List.mem_of_getElem? (i := 5) rfl), trivial⟩ (zpreS hSt hH [.int (M.1 1 5), .int x2]) rfl rfl hl.1 rfl (lv_room (Nat.le_of_ble_eq_true rfl)) dX0_searchOne_21 ⟨Nat.zero_le _, Nat.zero_le _⟩) (fun r21 H locs h hH => ?_)
    refine lv_if_ne (tgt := 45) hx hb dX0_searchOne_24 (by decide) (fun q24 => ?_) (fun q24 => ?_)
    · have h := h.1 q24
      exact wX0_searchOne_b45 hF hSt hret hag2 x1 x2 M H locs ls hH (lv_sub hl [0, 1, 2] rfl) h
    · have h := h.2 q24
      refine lv_aload_n hx hb dX0_searchOne_27 rfl (lv_at hl 0 rfl) ?_
      refine lv_iconst (v := (1 : Int32)) hx hb dX0_searchOne_28 (by decide) ?_
      refine lv_iload_n hx hb dX0_searchOne_29 rfl (lv_at hl 2 rfl) ?_
      refine lv_ishl hx hb dX0_searchOne_30 ?_
      refine lv_iload_n hx hb dX0_searchOne_31 rfl (lv_at hl 1 rfl) ?_
      refine zcalli hH (va_runV (As := [.int ((1 : Int32) <<< (x2 &&& 31)), .int x1]) (rest := []) hF (kX0_weakens l G M O ((1 : Int32) <<< (x2 &&& 31)) x1 _ h) (cwV 2 hts gX0_searchOne_X0_weakens rfl rfl rfl ⟨rfl, zdX0_weakens⟩ ⟨Nat.le_of_ble_eq_true rfl, Nat.le_of_ble_eq_true rfl⟩) (zpreV hSt hH 5 (by decide) rfl (zE_5 _ _ _) (q := (RX0, TX0, 5)) rfl [.int ((1 : Int32) <<< (x2 &&& 31)), .int x1]) rfl rfl hl.1 rfl (lv_room (Nat.le_of_ble_eq_true rfl)) dX0_searchOne_32 ⟨Nat.zero_le _, Nat.zero_le _⟩) (fun r32 M32 H locs h hH => ?_)
      refine lv_if_eq (tgt := 45) hx hb dX0_searchOne_35 (by decide) (fun q35 => ?_) (fun q35 => ?_)
      · have h := h.1 q35
        exact wX0_searchOne_b45 hF hSt hret hag2 x1 x2 M32 H locs ls hH (lv_sub hl [0, 1, 2] rfl) h
      · have h := h.2 q35
        refine lv_aload_n hx hb dX0_searchOne_38 rfl (lv_at hl 0 rfl) ?_
        refine lv_iload_n hx hb dX0_searchOne_39 rfl (lv_at hl 2 rfl) ?_
        refine zput hF hSt hH 5 (by decide) rfl (zE_5 _ _ _) (C := RX0) (T := TX0) (N := 5) rfl znX0_searchOne_X0 tyX0 tyX0_ok nmX0 2 (by decide) (List.mem_of_getElem? (i := 4) rfl) rfl (by decide +kernel) (Nat.le_of_ble_eq_true rfl) (x := x2) rfl dX0_searchOne_40 (fun H locs hH => ?_)
        refine lv_iconst (v := (1 : Int32)) hx hb dX0_searchOne_43 (by decide) ?_
        exact hret _ _ _ _ _ _ dX0_searchOne_44 h hH
def pX0_searchOne_L2 (post : Int32 → zM → Prop) (x1 : Int32) (x2 : Int32) (M : zM) : Prop :=
  ∃ I : Nat → Int32 → Int32 → zM → Prop, (∃ n, I n x1 x2 M) ∧ ∀ n x1 x2 M, I n x1 x2 M → pX0_searchOne_b2 post (fun x1 x2 M => ∃ k, k < n ∧ I k x1 x2 M) x1 x2 M
set_option maxHeartbeats 4000000 in
theorem wX0_searchOne_L2 {post : Int32 → zM → Prop}  (hF : CallFix p m c cX0_searchOne 3 s args wsX0_searchOne RX0) (hSt : zSt G s) (hret : zRz p l e ({ frames := 5, cells := 0, slots := 0, locals := 125 } : Room) s m args below meth c Q cX0_searchOne G true O post) (x1 : Int32) (x2 : Int32) (M : zM) (H : Heap) (locs : List Loc) (ls : Array Slot) (hH : zH G true s H locs M O) (hl : lv_has ls 3 [(0, .ref (G.1 5)), (1, .int x1), (2, .int x2)]) (h : pX0_searchOne_L2 post x1 x2 M) : W p l e ({ frames := 5, cells := 0, slots := 0, locals := 125 } : Room) s m args below meth c H locs 0 0 Q (F0 m 2 ls []) := by
  obtain ⟨I, ⟨n, hI⟩, hs⟩ := h
  have key : ∀ (n : Nat) (x1 : Int32) (x2 : Int32) (M : zM) (H : Heap) (locs : List Loc) (ls : Array Slot), I n x1 x2 M → zH G true s H locs M O → lv_has ls 3 [(0, .ref (G.1 5)), (1, .int x1), (2, .int x2)] → W p l e ({ frames := 5, cells := 0, slots := 0, locals := 125 } : Room) s m args below meth c H locs 0 0 Q (F0 m 2 ls []) := by
    intro n
    induction n using Nat.strongRecOn with
    | _ n ih =>
      intro x1 x2 M H locs ls hI hH hl
      exact wX0_searchOne_b2 hF hSt hret (fun x1 x2 M H locs ls h hH hl => by obtain ⟨k, hk, hI⟩ := h; exact ih k hk x1 x2 M H locs ls hI hH hl) x1 x2 M H locs ls hH hl (hs n x1 x2 M hI)
  exact key n x1 x2 M H locs ls hI hH hl
def pX0_searchOne (M : zM) (x1 : Int32) (post : Int32 → zM → Prop) : Prop :=
  pX0_searchOne_L2 post x1 (0 : Int32) M
set_option maxHeartbeats 4000000 in
set_option maxRecDepth 100000 in
theorem wX0_searchOne {M : zM} {post : Int32 → zM → Prop} (hF : CallFix p m c cX0_searchOne 3 s args wsX0_searchOne RX0) (hSt : zSt G s) (hret : zRz p l e ({ frames := 5, cells := 0, slots := 0, locals := 125 } : Room) s m args below meth c Q cX0_searchOne G true O post) (x1 : Int32) (H : Heap) (locs : List Loc) (ls : Array Slot) (hH : zH G true s H locs M O) (hl : lv_has ls 3 [(0, .ref (G.1 5)), (1, .int x1)]) (h : pX0_searchOne M x1 post) : W p l e ({ frames := 5, cells := 0, slots := 0, locals := 125 } : Room) s m args below meth c H locs 0 0 Q (F0 m 0 ls []) := by
  obtain ⟨hx, hb, hml, hown, hts⟩ := id hF
  unfold pX0_searchOne at h
  refine lv_iconst (v := (0 : Int32)) hx hb dX0_searchOne_0 (by decide) ?_
  refine lv_istore_n (lv' := [(2, .int (0 : Int32)), (0, .ref (G.1 5)), (1, .int x1)]) hx hb dX0_searchOne_1 rfl hl (by decide) rfl (fun ls hl => ?_)
  exact wX0_searchOne_L2 hF hSt hret x1 (0 : Int32) M H locs ls hH (lv_sub hl [1, 2, 0] rfl) h
set_option maxRecDepth 100000 in
theorem kX0_searchOne (l : Launch) (G : zG) (M O : zM) (x1 : Int32) (post : Int32 → zM → Prop) (h : pX0_searchOne M x1 post) : Met l yX0_searchOne wsX0_searchOne ({ frames := 5, cells := 0, slots := 0, locals := 125 } : Room) (zPc G true M O [.ref (G.1 5), .int x1]) (va_Qi post (zB G true O) (zAA G)) 0 0 (zAA G) :=
  zmet_z (by decide) rfl (Nat.le_of_ble_eq_true rfl) (fun hF hSt hret H locs ls hH hl => wX0_searchOne hF hSt hret x1 H locs ls hH hl h)
end
theorem znX0_search_X0 : ∀ w ∈ wsX00, w ∈ wsX0_search := fun _ h => List.mem_cons_of_mem _ (List.mem_append_left _ (List.mem_append_left _ (List.mem_append_right _ h)))
theorem znX0_search_X2 : ∀ w ∈ wsX20, w ∈ wsX0_search := fun _ h => List.mem_cons_of_mem _ (List.mem_append_left _ (List.mem_append_right _ h))
theorem znX0_search_X3 : ∀ w ∈ wsX30, w ∈ wsX0_search := fun _ h => List.mem_cons_of_mem _ (List.mem_append_right _ h)
theorem zdX0_search : yX0_search.cls ≠ "java/lang/invoke/MethodHandle" ∧ yX0_search.cls ≠ "java/lang/invoke/VarHandle" ∧ (parseMethodDescriptor yX0_search.desc).map (fun d => d.parameters.length) = some 2 := by decide +kernel
-- MixingRelays$Breaker search(II)Z
section
variable {p : Program} {l : Launch} {e : Env} {s : State} {m : MethodId} {args : Array Value} {below : List Frame} {meth : Method} {c : Code} {Q : State → Prop} {G : zG} {O : zM}
def pX0_search_b50 (post : Int32 → zM → Prop) (t0 : Int32) (M : zM) : Prop :=
  (t0 = 0 ∨ t0 = 1) ∧ post t0 M
set_option maxHeartbeats 4000000 in
set_option maxRecDepth 100000 in
theorem wX0_search_b50 {post : Int32 → zM → Prop}  (hF : CallFix p m c cX0_search 3 s args wsX0_search RX0) (hSt : zSt G s) (hret : zRz p l e ({ frames := 6, cells := 0, slots := 0, locals := 149 } : Room) s m args below meth c Q cX0_search G true O post) (t0 : Int32) (M : zM) (H : Heap) (locs : List Loc) (ls : Array Slot) (hH : zH G true s H locs M O) (hl : lv_has ls 3 []) (h : pX0_search_b50 post t0 M) : W p l e ({ frames := 6, cells := 0, slots := 0, locals := 149 } : Room) s m args below meth c H locs 0 0 Q (F0 m 50 ls [.int t0]) := by
  obtain ⟨hx, hb, hml, hown, hts⟩ := id hF
  unfold pX0_search_b50 at h
  exact hret _ _ _ _ _ _ dX0_search_50 h hH
def pX0_search_b45 (post : Int32 → zM → Prop) (M : zM) : Prop :=
  pX0_search_b50 post (1 : Int32) M
set_option maxHeartbeats 4000000 in
set_option maxRecDepth 100000 in
theorem wX0_search_b45 {post : Int32 → zM → Prop}  (hF : CallFix p m c cX0_search 3 s args wsX0_search RX0) (hSt : zSt G s) (hret : zRz p l e ({ frames := 6, cells := 0, slots := 0, locals := 149 } : Room) s m args below meth c Q cX0_search G true O post) (M : zM) (H : Heap) (locs : List Loc) (ls : Array Slot) (hH : zH G true s H locs M O) (hl : lv_has ls 3 []) (h : pX0_search_b45 post M) : W p l e ({ frames := 6, cells := 0, slots := 0, locals := 149 } : Room) s m args below meth c H locs 0 0 Q (F0 m 45 ls []) := by
  obtain ⟨hx, hb, hml, hown, hts⟩ := id hF
  unfold pX0_search_b45 at h
  refine lv_iconst (v := (1 : Int32)) hx hb dX0_search_45 (by decide) ?_
  refine lv_goto (tgt := 50) hx hb dX0_search_46 (by decide) ?_
  exact wX0_search_b50 hF hSt hret (1 : Int32) M H locs ls hH (lv_sub hl [] rfl) h
def pX0_search_b49 (post : Int32 → zM → Prop) (M : zM) : Prop :=
  pX0_search_b50 post (0 : Int32) M
set_option maxHeartbeats 4000000 in
set_option maxRecDepth 100000 in
theorem wX0_search_b49 {post : Int32 → zM → Prop}  (hF : CallFix p m c cX0_search 3 s args wsX0_search RX0) (hSt : zSt G s) (hret : zRz p l e ({ frames := 6, cells := 0, slots := 0, locals := 149 } : Room) s m args below meth c Q cX0_search G true O post) (M : zM) (H : Heap) (locs : List Loc) (ls : Array Slot) (hH : zH G true s H locs M O) (hl : lv_has ls 3 []) (h : pX0_search_b49 post M) : W p l e ({ frames := 6, cells := 0, slots := 0, locals := 149 } : Room) s m args below meth c H locs 0 0 Q (F0 m 49 ls []) := by
  obtain ⟨hx, hb, hml, hown, hts⟩ := id hF
  unfold pX0_search_b49 at h
  refine lv_iconst (v := (0 : Int32)) hx hb dX0_search_49 (by decide) ?_
  exact wX0_search_b50 hF hSt hret (0 : Int32) M H locs ls hH (lv_sub hl [] rfl) h
def pX0_search_b32 (post : Int32 → zM → Prop) (x1 : Int32) (x2 : Int32) (M : zM) : Prop :=
  (x1 < (2 : Int32) → pX0_search_b49 post M) ∧ (¬ (x1 < (2 : Int32)) → pX0_searchTwo M x2 (fun r39 M39 => (r39 = 0 → pX0_search_b49 post M39) ∧ (¬ (r39 = 0) → pX0_search_b45 post M39)))
set_option maxHeartbeats 4000000 in
set_option maxRecDepth 100000 in
theorem wX0_search_b32 {post : Int32 → zM → Prop}  (hF : CallFix p m c cX0_search 3 s args wsX0_search RX0) (hSt : zSt G s) (hret : zRz p l e ({ frames := 6, cells := 0, slots := 0, locals := 149 } : Room) s m args below meth c Q cX0_search G true O post) (x1 : Int32) (x2 : Int32) (M : zM) (H : Heap) (locs : List Loc) (ls : Array Slot) (hH : zH G true s H locs M O) (hl : lv_has ls 3 [(0, .ref (G.1 5)), (1, .int x1), (2, .int x2)]) (h : pX0_search_b32 post x1 x2 M) : W p l e ({ frames := 6, cells := 0, slots := 0, locals := 149 } : Room) s m args below meth c H locs 0 0 Q (F0 m 32 ls []) := by
  obtain ⟨hx, hb, hml, hown, hts⟩ := id hF
  unfold pX0_search_b32 at h
  refine lv_iload_n hx hb dX0_search_32 rfl (lv_at hl 1 rfl) ?_
  refine lv_iconst (v := (2 : Int32)) hx hb dX0_search_33 (by decide) ?_
  refine lv_icmp_lt (tgt := 49) hx hb dX0_search_34 (by decide) (fun q34 => ?_) (fun q34 => ?_)
  · have h := h.1 q34
    exact wX0_search_b49 hF hSt hret M H locs ls hH (lv_sub hl [] rfl) h
  · have h := h.2 q34
    refine lv_aload_n hx hb dX0_search_37 rfl (lv_at hl 0 rfl) ?_
    refine lv_iload_n hx hb dX0_search_38 rfl (lv_at hl 2 rfl) ?_
    refine zcalli hH (va_runV (As := [.int x2]) (rest := []) hF (kX0_searchTwo l G M O x2 _ h) (cwV 1 hts gX0_search_X0_searchTwo rfl rfl rfl ⟨rfl, zdX0_searchTwo⟩ ⟨Nat.le_of_ble_eq_true rfl, Nat.le_of_ble_eq_true rfl⟩) (zpreV hSt hH 5 (by decide) rfl (zE_5 _ _ _) (q := (RX0, TX0, 5)) rfl [.int x2]) rfl rfl hl.1 rfl (lv_room (Nat.le_of_ble_eq_true rfl)) dX0_search_39 ⟨Nat.zero_le _, Nat.zero_le _⟩) (fun r39 M39 H locs h hH => ?_)
    refine lv_if_eq (tgt := 49) hx hb dX0_search_42 (by decide) (fun q42 => ?_) (fun q42 => ?_)
    · have h := h.1 q42
      exact wX0_search_b49 hF hSt hret M39 H locs ls hH (lv_sub hl [] rfl) h
    · have h := h.2 q42
      exact wX0_search_b45 hF hSt hret M39 H locs ls hH (lv_sub hl [] rfl) h
def pX0_search (M : zM) (x1 : Int32) (x2 : Int32) (post : Int32 → zM → Prop) : Prop :=
  pX0_weakens (zsi (zsi M 5 2 (-1 : Int32)) 5 3 (-1 : Int32)) (0 : Int32) x2 (fun r13 M13 => (¬ (r13 = 0) → pX0_search_b45 post M13) ∧ (r13 = 0 → (x1 < (1 : Int32) → pX0_search_b32 post x1 x2 M13) ∧ (¬ (x1 < (1 : Int32)) → pX0_searchOne M13 x2 (fun r26 M26 => (¬ (r26 = 0) → pX0_search_b45 post M26) ∧ (r26 = 0 → pX0_search_b32 post x1 x2 M26)))))
set_option maxHeartbeats 4000000 in
set_option maxRecDepth 100000 in
theorem wX0_search {M : zM} {post : Int32 → zM → Prop} (hF : CallFix p m c cX0_search 3 s args wsX0_search RX0) (hSt : zSt G s) (hret : zRz p l e ({ frames := 6, cells := 0, slots := 0, locals := 149 } : Room) s m args below meth c Q cX0_search G true O post) (x1 : Int32) (x2 : Int32) (H : Heap) (locs : List Loc) (ls : Array Slot) (hH : zH G true s H locs M O) (hl : lv_has ls 3 [(0, .ref (G.1 5)), (1, .int x1), (2, .int x2)]) (h : pX0_search M x1 x2 post) : W p l e ({ frames := 6, cells := 0, slots := 0, locals := 149 } : Room) s m args below meth c H locs 0 0 Q (F0 m 0 ls []) := by
  obtain ⟨hx, hb, hml, hown, hts⟩ := id hF
  unfold pX0_search at h
  refine lv_aload_n hx hb dX0_search_0 rfl (lv_at hl 0 rfl) ?_
  refine lv_iconst (v := (-1 : Int32)) hx hb dX0_search_1 (by decide) ?_
  refine zput hF hSt hH 5 (by decide) rfl (zE_5 _ _ _) (C := RX0) (T := TX0) (N := 5) rfl znX0_search_X0 tyX0 tyX0_ok nmX0 2 (by decide) (List.mem_of_getElem? (i := 1) rfl) rfl (by decide +kernel) (Nat.le_of_ble_eq_true rfl) (x := (-1 : Int32)) rfl dX0_search_2 (fun H locs hH => ?_)
  refine lv_aload_n hx hb dX0_search_5 rfl (lv_at hl 0 rfl) ?_
  refine lv_iconst (v := (-1 : Int32)) hx hb dX0_search_6 (by decide) ?_
  refine zput hF hSt hH 5 (by decide) rfl (zE_5 _ _ _) (C := RX0) (T := TX0) (N := 5) rfl znX0_search_X0 tyX0 tyX0_ok nmX0 3 (by decide) (List.mem_of_getElem? (i := 2) rfl) rfl (by decide +kernel) (Nat.le_of_ble_eq_true rfl) (x := (-1 : Int32)) rfl dX0_search_7 (fun H locs hH => ?_)
  refine lv_aload_n hx hb dX0_search_10 rfl (lv_at hl 0 rfl) ?_
  refine lv_iconst (v := (0 : Int32)) hx hb dX0_search_11 (by decide) ?_
  refine lv_iload_n hx hb dX0_search_12 rfl (lv_at hl 2 rfl) ?_
  refine zcalli hH (va_runV (As := [.int (0 : Int32), .int x2]) (rest := []) hF (kX0_weakens l G (zsi (zsi M 5 2 (-1 : Int32)) 5 3 (-1 : Int32)) O (0 : Int32) x2 _ h) (cwV 2 hts gX0_search_X0_weakens rfl rfl rfl ⟨rfl, zdX0_weakens⟩ ⟨Nat.le_of_ble_eq_true rfl, Nat.le_of_ble_eq_true rfl⟩) (zpreV hSt hH 5 (by decide) rfl (zE_5 _ _ _) (q := (RX0, TX0, 5)) rfl [.int (0 : Int32), .int x2]) rfl rfl hl.1 rfl (lv_room (Nat.le_of_ble_eq_true rfl)) dX0_search_13 ⟨Nat.zero_le _, Nat.zero_le _⟩) (fun r13 M13 H locs h hH => ?_)
  refine lv_if_ne (tgt := 45) hx hb dX0_search_16 (by decide) (fun q16 => ?_) (fun q16 => ?_)
  · have h := h.1 q16
    exact wX0_search_b45 hF hSt hret M13 H locs ls hH (lv_sub hl [] rfl) h
  · have h := h.2 q16
    refine lv_iload_n hx hb dX0_search_19 rfl (lv_at hl 1 rfl) ?_
    refine lv_iconst (v := (1 : Int32)) hx hb dX0_search_20 (by decide) ?_
    refine lv_icmp_lt (tgt := 32) hx hb dX0_search_21 (by decide) (fun q21 => ?_) (fun q21 => ?_)
    · have h := h.1 q21
      exact wX0_search_b32 hF hSt hret x1 x2 M13 H locs ls hH (lv_sub hl [0, 1, 2] rfl) h
    · have h := h.2 q21
      refine lv_aload_n hx hb dX0_search_24 rfl (lv_at hl 0 rfl) ?_
      refine lv_iload_n hx hb dX0_search_25 rfl (lv_at hl 2 rfl) ?_
      refine zcalli hH (va_runV (As := [.int x2]) (rest := []) hF (kX0_searchOne l G M13 O x2 _ h) (cwV 1 hts gX0_search_X0_searchOne rfl rfl rfl ⟨rfl, zdX0_searchOne⟩ ⟨Nat.le_of_ble_eq_true rfl, Nat.le_of_ble_eq_true rfl⟩) (zpreV hSt hH 5 (by decide) rfl (zE_5 _ _ _) (q := (RX0, TX0, 5)) rfl [.int x2]) rfl rfl hl.1 rfl (lv_room (Nat.le_of_ble_eq_true rfl)) dX0_search_26 ⟨Nat.zero_le _, Nat.zero_le _⟩) (fun r26 M26 H locs h hH => ?_)
      refine lv_if_ne (tgt := 45) hx hb dX0_search_29 (by decide) (fun q29 => ?_) (fun q29 => ?_)
      · have h := h.1 q29
        exact wX0_search_b45 hF hSt hret M26 H locs ls hH (lv_sub hl [] rfl) h
      · have h := h.2 q29
        exact wX0_search_b32 hF hSt hret x1 x2 M26 H locs ls hH (lv_sub hl [0, 1, 2] rfl) h
set_option maxRecDepth 100000 in
theorem kX0_search (l : Launch) (G : zG) (M O : zM) (x1 : Int32) (x2 : Int32) (post : Int32 → zM → Prop) (h : pX0_search M x1 x2 post) : Met l yX0_search wsX0_search ({ frames := 6, cells := 0, slots := 0, locals := 149 } : Room) (zPc G true M O [.ref (G.1 5), .int x1, .int x2]) (va_Qi post (zB G true O) (zAA G)) 0 0 (zAA G) :=
  zmet_z (by decide) rfl (Nat.le_of_ble_eq_true rfl) (fun hF hSt hret H locs ls hH hl => wX0_search hF hSt hret x1 x2 H locs ls hH hl h)
end
