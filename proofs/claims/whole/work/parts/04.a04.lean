theorem znX2_mixed_X2 : ∀ w ∈ wsX20, w ∈ wsX2_mixed := fun _ h => List.mem_cons_of_mem _ (List.mem_append_right _ h)
theorem zdX2_mixed : yX2_mixed.cls ≠ "java/lang/invoke/MethodHandle" ∧ yX2_mixed.cls ≠ "java/lang/invoke/VarHandle" ∧ (parseMethodDescriptor yX2_mixed.desc).map (fun d => d.parameters.length) = some 3 := by decide +kernel
-- MixingRelays$Net mixed(I[J[J)J
section
variable {p : Program} {l : Launch} {e : Env} {s : State} {m : MethodId} {args : Array Value} {below : List Frame} {meth : Method} {c : Code} {Q : State → Prop} {G : zG} {O : zM}
def pX2_mixed_U_14_b54 (M : zM) (post : Int64 → Prop) (ag21 : Int32 → Int64 → Int32 → Int32 → Int32 → Prop) (x1 : Int32) (x4 : Int64) (x6 : Int32) (x7 : Int32) (x8 : Int32) (t0 : Int64) : Prop :=
  pX5_slot x1 x8 (fun r67 => vp_in r67 900 ∧ pX5_scaled t0 (M.1 10 r67.toNatClampNeg) (fun r71 => ag21 x1 (x4 ^^^ r71) x6 x7 (x8 + (1 : Int32))))
set_option maxHeartbeats 4000000 in
set_option maxRecDepth 100000 in
theorem wX2_mixed_U_14_b54 {M : zM} {post : Int64 → Prop} {ag21 : Int32 → Int64 → Int32 → Int32 → Int32 → Prop} (hF : CallFix p m c cX2_mixed 11 s args wsX2_mixed RX2) (hSt : zSt G s) (hret : zRl p l e ({ frames := 1, cells := 0, slots := 0, locals := 30 } : Room) s m args below meth c Q cX2_mixed G true O (fun r M1 => M1 = M ∧ post r)) (hag21 : ∀ (x1 : Int32) (x4 : Int64) (x6 : Int32) (x7 : Int32) (x8 : Int32) (H : Heap) (locs : List Loc) (ls : Array Slot), ag21 x1 x4 x6 x7 x8 → zH G true s H locs M O → lv_has ls 11 [(0, .ref (G.1 1)), (1, .int x1), (2, .ref G.2.2.2), (3, .ref (G.1 14)), (4, .long x4), (6, .int x6), (7, .int x7), (8, .int x8)] → W p l e ({ frames := 1, cells := 0, slots := 0, locals := 30 } : Room) s m args below meth c H locs 0 0 Q (F0 m 21 ls [])) (x1 : Int32) (x4 : Int64) (x6 : Int32) (x7 : Int32) (x8 : Int32) (t0 : Int64) (H : Heap) (locs : List Loc) (ls : Array Slot) (hH : zH G true s H locs M O) (hl : lv_has ls 11 [(0, .ref (G.1 1)), (1, .int x1), (2, .ref G.2.2.2), (3, .ref (G.1 14)), (4, .long x4), (6, .int x6), (7, .int x7), (8, .int x8)]) (h : pX2_mixed_U_14_b54 M post ag21 x1 x4 x6 x7 x8 t0) : W p l e ({ frames := 1, cells := 0, slots := 0, locals := 30 } : Room) s m args below meth c H locs 0 0 Q (F0 m 54 ls [.long t0]) := by
  obtain ⟨hx, hb, hml, hown, hts⟩ := id hF
  unfold pX2_mixed_U_14_b54 at h
  refine lv_lstore (lv' := [(9, .long t0), (0, .ref (G.1 1)), (1, .int x1), (2, .ref G.2.2.2), (3, .ref (G.1 14)), (4, .long x4), (6, .int x6), (7, .int x7), (8, .int x8)]) hx hb dX2_mixed_54 hl (by decide) rfl (fun ls hl => ?_)
  refine lv_lload hx hb dX2_mixed_56 (lv_at hl 5 rfl) ?_
  refine lv_lload hx hb dX2_mixed_58 (lv_at hl 0 rfl) ?_
  refine lv_aload_n hx hb dX2_mixed_60 rfl (lv_at hl 1 rfl) ?_
  refine zget (v := .ref (G.1 10)) hF hSt hH 1 (by decide) rfl (zE_1 _ _ _) (C := RX2) (T := TX2) (N := 16) rfl znX2_mixed_X2 10 (by decide) (List.mem_of_getElem? (i := 3) rfl) rfl dX2_mixed_61 ?_
  refine lv_iload_n hx hb dX2_mixed_64 rfl (lv_at hl 2 rfl) ?_
  refine lv_iload hx hb dX2_mixed_65 (lv_at hl 8 rfl) ?_
  refine zcalliP hH (va_runSN (As := [.int x1, .int x8]) (rest := [.ref (G.1 10), .long t0, .long x4]) hF (kX5_slot l G M O x1 x8 _ h) ⟨va_cnB 2 hts gX2_mixed_X5_slot_n62 rfl rfl rfl (hSt.2.2.1 _ zNest_X2_62) (hts _ (List.mem_of_getElem? (i := 12) rfl)) zdX5_slot ⟨Nat.le_of_ble_eq_true rfl, Nat.le_of_ble_eq_true rfl⟩, hts _ (List.mem_of_getElem? (i := 11) rfl), trivial⟩ (zpreS hSt hH [.int x1, .int x8]) rfl rfl hl.1 rfl (lv_room (Nat.le_of_ble_eq_true rfl)) dX2_mixed_67 ⟨Nat.zero_le _, Nat.zero_le _⟩) (fun r67 H locs h hH => ?_)
  obtain ⟨q70, h⟩ := h
  refine zald hF hSt hH 10 (by decide) rfl (zE_10 _ _ _) q70 dX2_mixed_70 ?_
  refine zcalllP hH (va_runSN (As := [.long t0, .int (M.1 10 r67.toNatClampNeg)]) (rest := [.long x4]) hF (kX5_scaled l G M O t0 (M.1 10 r67.toNatClampNeg) _ h) ⟨va_cnB 2 hts gX2_mixed_X5_scaled_n88 rfl rfl rfl (hSt.2.2.1 _ zNest_X2_88) (hts _ (List.mem_of_getElem? (i := 12) rfl)) zdX5_scaled ⟨Nat.le_of_ble_eq_true rfl, Nat.le_of_ble_eq_true rfl⟩, hts _ (List.mem_of_getElem? (i := 14) rfl), trivial⟩ (zpreS hSt hH [.long t0, .int (M.1 10 r67.toNatClampNeg)]) rfl rfl hl.1 rfl (lv_room (Nat.le_of_ble_eq_true rfl)) dX2_mixed_71 ⟨Nat.zero_le _, Nat.zero_le _⟩) (fun r71 H locs h hH => ?_)
  refine lv_lxor hx hb dX2_mixed_74 ?_
  refine lv_lstore (lv' := [(4, .long (x4 ^^^ r71)), (9, .long t0), (0, .ref (G.1 1)), (1, .int x1), (2, .ref G.2.2.2), (3, .ref (G.1 14)), (6, .int x6), (7, .int x7), (8, .int x8)]) hx hb dX2_mixed_75 hl (by decide) rfl (fun ls hl => ?_)
  refine lv_iinc (v := (x8 + (1 : Int32))) (lv' := [(8, .int (x8 + (1 : Int32))), (4, .long (x4 ^^^ r71)), (9, .long t0), (0, .ref (G.1 1)), (1, .int x1), (2, .ref G.2.2.2), (3, .ref (G.1 14)), (6, .int x6), (7, .int x7)]) hx hb dX2_mixed_77 hl (k := 8) rfl rfl (by decide) rfl (fun ls hl => ?_)
  refine lv_goto (tgt := 21) hx hb dX2_mixed_80 (by decide) ?_
  exact hag21 x1 (x4 ^^^ r71) x6 x7 (x8 + (1 : Int32)) H locs ls h hH (lv_sub hl [3, 4, 5, 6, 1, 7, 8, 0] rfl)
def pX2_mixed_U_14_b21 (M : zM) (post : Int64 → Prop) (ag21 : Int32 → Int64 → Int32 → Int32 → Int32 → Prop) (x1 : Int32) (x4 : Int64) (x6 : Int32) (x7 : Int32) (x8 : Int32) : Prop :=
  (x7 ≤ x8 → post x4) ∧ (¬ (x7 ≤ x8) → (¬ (x6 = 0) → pX5_slot x6 x8 (fun r49 => vp_in r49 360 ∧ vp_in (M.1 11 r49.toNatClampNeg) 30 ∧ pX2_mixed_U_14_b54 M post ag21 x1 x4 x6 x7 x8 (M.2 14 ((M.1 11 r49.toNatClampNeg)).toNatClampNeg))) ∧ (x6 = 0 → vp_in x8 4 ∧ pX2_mixed_U_14_b54 M post ag21 x1 x4 x6 x7 x8 (zU x8.toNatClampNeg)))
set_option maxHeartbeats 4000000 in
set_option maxRecDepth 100000 in
theorem wX2_mixed_U_14_b21 {M : zM} {post : Int64 → Prop} {ag21 : Int32 → Int64 → Int32 → Int32 → Int32 → Prop} (hF : CallFix p m c cX2_mixed 11 s args wsX2_mixed RX2) (hSt : zSt G s) (hret : zRl p l e ({ frames := 1, cells := 0, slots := 0, locals := 30 } : Room) s m args below meth c Q cX2_mixed G true O (fun r M1 => M1 = M ∧ post r)) (hag21 : ∀ (x1 : Int32) (x4 : Int64) (x6 : Int32) (x7 : Int32) (x8 : Int32) (H : Heap) (locs : List Loc) (ls : Array Slot), ag21 x1 x4 x6 x7 x8 → zH G true s H locs M O → lv_has ls 11 [(0, .ref (G.1 1)), (1, .int x1), (2, .ref G.2.2.2), (3, .ref (G.1 14)), (4, .long x4), (6, .int x6), (7, .int x7), (8, .int x8)] → W p l e ({ frames := 1, cells := 0, slots := 0, locals := 30 } : Room) s m args below meth c H locs 0 0 Q (F0 m 21 ls [])) (x1 : Int32) (x4 : Int64) (x6 : Int32) (x7 : Int32) (x8 : Int32) (H : Heap) (locs : List Loc) (ls : Array Slot) (hH : zH G true s H locs M O) (hl : lv_has ls 11 [(0, .ref (G.1 1)), (1, .int x1), (2, .ref G.2.2.2), (3, .ref (G.1 14)), (4, .long x4), (6, .int x6), (7, .int x7), (8, .int x8)]) (h : pX2_mixed_U_14_b21 M post ag21 x1 x4 x6 x7 x8) : W p l e ({ frames := 1, cells := 0, slots := 0, locals := 30 } : Room) s m args below meth c H locs 0 0 Q (F0 m 21 ls []) := by
  obtain ⟨hx, hb, hml, hown, hts⟩ := id hF
  unfold pX2_mixed_U_14_b21 at h
  refine lv_iload hx hb dX2_mixed_21 (lv_at hl 7 rfl) ?_
  refine lv_iload hx hb dX2_mixed_23 (lv_at hl 6 rfl) ?_
  refine lv_icmp_ge (tgt := 83) hx hb dX2_mixed_25 (by decide) (fun q25 => ?_) (fun q25 => ?_)
  · have h := h.1 q25
    refine lv_lload hx hb dX2_mixed_83 (lv_at hl 4 rfl) ?_
    exact hret _ _ _ _ _ _ dX2_mixed_85 ⟨rfl, h⟩ hH
  · have h := h.2 q25
    refine lv_iload hx hb dX2_mixed_28 (lv_at hl 5 rfl) ?_
    refine lv_if_ne (tgt := 40) hx hb dX2_mixed_30 (by decide) (fun q30 => ?_) (fun q30 => ?_)
    · have h := h.1 q30
      refine lv_aload_n hx hb dX2_mixed_40 rfl (lv_at hl 3 rfl) ?_
      refine lv_aload_n hx hb dX2_mixed_41 rfl (lv_at hl 0 rfl) ?_
      refine zget (v := .ref (G.1 11)) hF hSt hH 1 (by decide) rfl (zE_1 _ _ _) (C := RX2) (T := TX2) (N := 16) rfl znX2_mixed_X2 11 (by decide) (List.mem_of_getElem? (i := 2) rfl) rfl dX2_mixed_42 ?_
      refine lv_iload hx hb dX2_mixed_45 (lv_at hl 5 rfl) ?_
      refine lv_iload hx hb dX2_mixed_47 (lv_at hl 7 rfl) ?_
      refine zcalliP hH (va_runSN (As := [.int x6, .int x8]) (rest := [.ref (G.1 11), .ref (G.1 14)]) hF (kX5_slot l G M O x6 x8 _ h) ⟨va_cnB 2 hts gX2_mixed_X5_slot_n62 rfl rfl rfl (hSt.2.2.1 _ zNest_X2_62) (hts _ (List.mem_of_getElem? (i := 12) rfl)) zdX5_slot ⟨Nat.le_of_ble_eq_true rfl, Nat.le_of_ble_eq_true rfl⟩, hts _ (List.mem_of_getElem? (i := 11) rfl), trivial⟩ (zpreS hSt hH [.int x6, .int x8]) rfl rfl hl.1 rfl (lv_room (Nat.le_of_ble_eq_true rfl)) dX2_mixed_49 ⟨Nat.zero_le _, Nat.zero_le _⟩) (fun r49 H locs h hH => ?_)
      obtain ⟨q52, h⟩ := h
      refine zald hF hSt hH 11 (by decide) rfl (zE_11 _ _ _) q52 dX2_mixed_52 ?_
      obtain ⟨q53, h⟩ := h
      refine zlald hF hSt hH 14 (by decide) rfl (zE_14 _ _ _) q53 dX2_mixed_53 ?_
      exact wX2_mixed_U_14_b54 hF hSt hret hag21 x1 x4 x6 x7 x8 (M.2 14 ((M.1 11 r49.toNatClampNeg)).toNatClampNeg) H locs ls hH (lv_sub hl [0, 1, 2, 3, 4, 5, 6, 7] rfl) h
    · have h := h.2 q30
      refine lv_aload_n hx hb dX2_mixed_33 rfl (lv_at hl 2 rfl) ?_
      refine lv_iload hx hb dX2_mixed_34 (lv_at hl 7 rfl) ?_
      obtain ⟨q36, h⟩ := h
      refine zuald hF hSt hH q36 dX2_mixed_36 ?_
      refine lv_goto (tgt := 54) hx hb dX2_mixed_37 (by decide) ?_
      exact wX2_mixed_U_14_b54 hF hSt hret hag21 x1 x4 x6 x7 x8 (zU x8.toNatClampNeg) H locs ls hH (lv_sub hl [0, 1, 2, 3, 4, 5, 6, 7] rfl) h
def pX2_mixed_U_14_L21 (M : zM) (post : Int64 → Prop) (x1 : Int32) (x4 : Int64) (x6 : Int32) (x7 : Int32) (x8 : Int32) : Prop :=
  ∃ I : Nat → Int32 → Int64 → Int32 → Int32 → Int32 → Prop, (∃ n, I n x1 x4 x6 x7 x8) ∧ ∀ n x1 x4 x6 x7 x8, I n x1 x4 x6 x7 x8 → pX2_mixed_U_14_b21 M post (fun x1 x4 x6 x7 x8 => ∃ k, k < n ∧ I k x1 x4 x6 x7 x8) x1 x4 x6 x7 x8
set_option maxHeartbeats 4000000 in
theorem wX2_mixed_U_14_L21 {M : zM} {post : Int64 → Prop}  (hF : CallFix p m c cX2_mixed 11 s args wsX2_mixed RX2) (hSt : zSt G s) (hret : zRl p l e ({ frames := 1, cells := 0, slots := 0, locals := 30 } : Room) s m args below meth c Q cX2_mixed G true O (fun r M1 => M1 = M ∧ post r)) (x1 : Int32) (x4 : Int64) (x6 : Int32) (x7 : Int32) (x8 : Int32) (H : Heap) (locs : List Loc) (ls : Array Slot) (hH : zH G true s H locs M O) (hl : lv_has ls 11 [(0, .ref (G.1 1)), (1, .int x1), (2, .ref G.2.2.2), (3, .ref (G.1 14)), (4, .long x4), (6, .int x6), (7, .int x7), (8, .int x8)]) (h : pX2_mixed_U_14_L21 M post x1 x4 x6 x7 x8) : W p l e ({ frames := 1, cells := 0, slots := 0, locals := 30 } : Room) s m args below meth c H locs 0 0 Q (F0 m 21 ls []) := by
  obtain ⟨I, ⟨n, hI⟩, hs⟩ := h
  have key : ∀ (n : Nat) (x1 : Int32) (x4 : Int64) (x6 : Int32) (x7 : Int32) (x8 : Int32) (H : Heap) (locs : List Loc) (ls : Array Slot), I n x1 x4 x6 x7 x8 → zH G true s H locs M O → lv_has ls 11 [(0, .ref (G.1 1)), (1, .int x1), (2, .ref G.2.2.2), (3, .ref (G.1 14)), (4, .long x4), (6, .int x6), (7, .int x7), (8, .int x8)] → W p l e ({ frames := 1, cells := 0, slots := 0, locals := 30 } : Room) s m args below meth c H locs 0 0 Q (F0 m 21 ls []) := by
    intro n
    induction n using Nat.strongRecOn with
    | _ n ih =>
      intro x1 x4 x6 x7 x8 H locs ls hI hH hl
      exact wX2_mixed_U_14_b21 hF hSt hret (fun x1 x4 x6 x7 x8 H locs ls h hH hl => by obtain ⟨k, hk, hI⟩ := h; exact ih k hk x1 x4 x6 x7 x8 H locs ls hI hH hl) x1 x4 x6 x7 x8 H locs ls hH hl (hs n x1 x4 x6 x7 x8 hI)
  exact key n x1 x4 x6 x7 x8 H locs ls hI hH hl
def pX2_mixed_U_14 (M : zM) (x1 : Int32) (post : Int64 → Prop) : Prop :=
  vp_in x1 30 ∧ pX2_insOf M x1 (fun r13 => pX2_mixed_U_14_L21 M post x1 (0 : Int64) (M.1 6 x1.toNatClampNeg) r13 (0 : Int32))
set_option maxHeartbeats 4000000 in
set_option maxRecDepth 100000 in
theorem wX2_mixed_U_14 {M : zM} {post : Int64 → Prop} (hF : CallFix p m c cX2_mixed 11 s args wsX2_mixed RX2) (hSt : zSt G s) (hret : zRl p l e ({ frames := 1, cells := 0, slots := 0, locals := 30 } : Room) s m args below meth c Q cX2_mixed G true O (fun r M1 => M1 = M ∧ post r)) (x1 : Int32) (H : Heap) (locs : List Loc) (ls : Array Slot) (hH : zH G true s H locs M O) (hl : lv_has ls 11 [(0, .ref (G.1 1)), (1, .int x1), (2, .ref G.2.2.2), (3, .ref (G.1 14))]) (h : pX2_mixed_U_14 M x1 post) : W p l e ({ frames := 1, cells := 0, slots := 0, locals := 30 } : Room) s m args below meth c H locs 0 0 Q (F0 m 0 ls []) := by
  obtain ⟨hx, hb, hml, hown, hts⟩ := id hF
  unfold pX2_mixed_U_14 at h
  refine lv_lconst (v := (0 : Int64)) hx hb dX2_mixed_0 (by decide) ?_
  refine lv_lstore (lv' := [(4, .long (0 : Int64)), (0, .ref (G.1 1)), (1, .int x1), (2, .ref G.2.2.2), (3, .ref (G.1 14))]) hx hb dX2_mixed_1 hl (by decide) rfl (fun ls hl => ?_)
  refine lv_aload_n hx hb dX2_mixed_3 rfl (lv_at hl 1 rfl) ?_
  refine zget (v := .ref (G.1 6)) hF hSt hH 1 (by decide) rfl (zE_1 _ _ _) (C := RX2) (T := TX2) (N := 16) rfl znX2_mixed_X2 6 (by decide) (List.mem_of_getElem? (i := 1) rfl) rfl dX2_mixed_4 ?_
  refine lv_iload_n hx hb dX2_mixed_7 rfl (lv_at hl 2 rfl) ?_
  obtain ⟨q8, h⟩ := h
  refine zald hF hSt hH 6 (by decide) rfl (zE_6 _ _ _) q8 dX2_mixed_8 ?_
  refine lv_istore (lv' := [(6, .int (M.1 6 x1.toNatClampNeg)), (4, .long (0 : Int64)), (0, .ref (G.1 1)), (1, .int x1), (2, .ref G.2.2.2), (3, .ref (G.1 14))]) hx hb dX2_mixed_9 hl (by decide) rfl (fun ls hl => ?_)
  refine lv_aload_n hx hb dX2_mixed_11 rfl (lv_at hl 2 rfl) ?_
  refine lv_iload_n hx hb dX2_mixed_12 rfl (lv_at hl 3 rfl) ?_
  refine zcalliP hH (va_runV (As := [.int x1]) (rest := []) hF (kX2_insOf l G M O x1 _ h) (cwV 1 hts gX2_mixed_X2_insOf rfl rfl rfl ⟨rfl, zdX2_insOf⟩ ⟨Nat.le_of_ble_eq_true rfl, Nat.le_of_ble_eq_true rfl⟩) (zpreV hSt hH 1 (by decide) rfl (zE_1 _ _ _) (q := (RX2, TX2, 16)) rfl [.int x1]) rfl rfl hl.1 rfl (lv_room (Nat.le_of_ble_eq_true rfl)) dX2_mixed_13 ⟨Nat.zero_le _, Nat.zero_le _⟩) (fun r13 H locs h hH => ?_)
  refine lv_istore (lv' := [(7, .int r13), (6, .int (M.1 6 x1.toNatClampNeg)), (4, .long (0 : Int64)), (0, .ref (G.1 1)), (1, .int x1), (2, .ref G.2.2.2), (3, .ref (G.1 14))]) hx hb dX2_mixed_16 hl (by decide) rfl (fun ls hl => ?_)
  refine lv_iconst (v := (0 : Int32)) hx hb dX2_mixed_18 (by decide) ?_
  refine lv_istore (lv' := [(8, .int (0 : Int32)), (7, .int r13), (6, .int (M.1 6 x1.toNatClampNeg)), (4, .long (0 : Int64)), (0, .ref (G.1 1)), (1, .int x1), (2, .ref G.2.2.2), (3, .ref (G.1 14))]) hx hb dX2_mixed_19 hl (by decide) rfl (fun ls hl => ?_)
  exact wX2_mixed_U_14_L21 hF hSt hret x1 (0 : Int64) (M.1 6 x1.toNatClampNeg) r13 (0 : Int32) H locs ls hH (lv_sub hl [4, 5, 6, 7, 3, 2, 1, 0] rfl) h
set_option maxRecDepth 100000 in
theorem kX2_mixed_U_14 (l : Launch) (G : zG) (M O : zM) (x1 : Int32) (post : Int64 → Prop) (h : pX2_mixed_U_14 M x1 post) : Met l yX2_mixed wsX2_mixed ({ frames := 1, cells := 0, slots := 0, locals := 30 } : Room) (zPc G true M O [.ref (G.1 1), .int x1, .ref G.2.2.2, .ref (G.1 14)]) (va_Ql (fun r M1 => M1 = M ∧ post r) (zB G true O) (zAA G)) 0 0 (zAA G) :=
  zmet_l (by decide) rfl (Nat.le_of_ble_eq_true rfl) (fun hF hSt hret H locs ls hH hl => wX2_mixed_U_14 hF hSt hret x1 H locs ls hH hl h)
end
theorem znX2_spreadVectors_X2 : ∀ w ∈ wsX20, w ∈ wsX2_spreadVectors := fun _ h => List.mem_cons_of_mem _ (List.mem_append_right _ h)
theorem zdX2_spreadVectors : yX2_spreadVectors.cls ≠ "java/lang/invoke/MethodHandle" ∧ yX2_spreadVectors.cls ≠ "java/lang/invoke/VarHandle" ∧ (parseMethodDescriptor yX2_spreadVectors.desc).map (fun d => d.parameters.length) = some 1 := by decide +kernel
-- MixingRelays$Net spreadVectors(I)V
section
variable {p : Program} {l : Launch} {e : Env} {s : State} {m : MethodId} {args : Array Value} {below : List Frame} {meth : Method} {c : Code} {Q : State → Prop} {G : zG} {O : zM}
def pX2_spreadVectors_b47 (post : zM → Prop) (ag2 : Int32 → Int32 → zM → Prop) (x1 : Int32) (x2 : Int32) (t0 : Int64) (t1 : Int32) (M : zM) : Prop :=
  vp_in t1 30 ∧ ag2 x1 (x2 + (1 : Int32)) (zsj M 14 t1.toNatClampNeg t0)
set_option maxHeartbeats 4000000 in
set_option maxRecDepth 100000 in
theorem wX2_spreadVectors_b47 {post : zM → Prop} {ag2 : Int32 → Int32 → zM → Prop} (hF : CallFix p m c cX2_spreadVectors 4 s args wsX2_spreadVectors RX2) (hSt : zSt G s) (hret : zRv p l e ({ frames := 2, cells := 0, slots := 0, locals := 60 } : Room) s m args below meth c Q cX2_spreadVectors G true O post) (hag2 : ∀ (x1 : Int32) (x2 : Int32) (M : zM) (H : Heap) (locs : List Loc) (ls : Array Slot), ag2 x1 x2 M → zH G true s H locs M O → lv_has ls 4 [(0, .ref (G.1 1)), (1, .int x1), (2, .int x2)] → W p l e ({ frames := 2, cells := 0, slots := 0, locals := 60 } : Room) s m args below meth c H locs 0 0 Q (F0 m 2 ls [])) (x1 : Int32) (x2 : Int32) (t0 : Int64) (t1 : Int32) (M : zM) (H : Heap) (locs : List Loc) (ls : Array Slot) (hH : zH G true s H locs M O) (hl : lv_has ls 4 [(0, .ref (G.1 1)), (1, .int x1), (2, .int x2)]) (h : pX2_spreadVectors_b47 post ag2 x1 x2 t0 t1 M) : W p l e ({ frames := 2, cells := 0, slots := 0, locals := 60 } : Room) s m args below meth c H locs 0 0 Q (F0 m 47 ls [.long t0, .int t1, .ref (G.1 14)]) := by
  obtain ⟨hx, hb, hml, hown, hts⟩ := id hF
  unfold pX2_spreadVectors_b47 at h
  obtain ⟨q47, h⟩ := h
  refine zlast hF hSt hH 14 (by decide) rfl (zE_14 _) (x := t0) q47 dX2_spreadVectors_47 (fun H locs hH => ?_)
  refine lv_iinc (v := (x2 + (1 : Int32))) (lv' := [(2, .int (x2 + (1 : Int32))), (0, .ref (G.1 1)), (1, .int x1)]) hx hb dX2_spreadVectors_48 hl (k := 2) rfl rfl (by decide) rfl (fun ls hl => ?_)
  refine lv_goto (tgt := 2) hx hb dX2_spreadVectors_51 (by decide) ?_
  exact hag2 x1 (x2 + (1 : Int32)) (zsj M 14 t1.toNatClampNeg t0) H locs ls h hH (lv_sub hl [1, 2, 0] rfl)
def pX2_spreadVectors_b2 (post : zM → Prop) (ag2 : Int32 → Int32 → zM → Prop) (x1 : Int32) (x2 : Int32) (M : zM) : Prop :=
  ((M.1 1 1) ≤ x2 → post M) ∧ (¬ ((M.1 1 1) ≤ x2) → vp_in x2 30 ∧ pX5_flag x1 (M.1 13 x2.toNatClampNeg) (fun r24 => (¬ (r24 = (1 : Int32)) → pX2_mixed_U_14 M (M.1 13 x2.toNatClampNeg) (fun r44 => pX2_spreadVectors_b47 post ag2 x1 x2 r44 (M.1 13 x2.toNatClampNeg) M)) ∧ (r24 = (1 : Int32) → pX2_spreadVectors_b47 post ag2 x1 x2 (0 : Int64) (M.1 13 x2.toNatClampNeg) M)))
set_option maxHeartbeats 4000000 in
set_option maxRecDepth 100000 in
theorem wX2_spreadVectors_b2 {post : zM → Prop} {ag2 : Int32 → Int32 → zM → Prop} (hF : CallFix p m c cX2_spreadVectors 4 s args wsX2_spreadVectors RX2) (hSt : zSt G s) (hret : zRv p l e ({ frames := 2, cells := 0, slots := 0, locals := 60 } : Room) s m args below meth c Q cX2_spreadVectors G true O post) (hag2 : ∀ (x1 : Int32) (x2 : Int32) (M : zM) (H : Heap) (locs : List Loc) (ls : Array Slot), ag2 x1 x2 M → zH G true s H locs M O → lv_has ls 4 [(0, .ref (G.1 1)), (1, .int x1), (2, .int x2)] → W p l e ({ frames := 2, cells := 0, slots := 0, locals := 60 } : Room) s m args below meth c H locs 0 0 Q (F0 m 2 ls [])) (x1 : Int32) (x2 : Int32) (M : zM) (H : Heap) (locs : List Loc) (ls : Array Slot) (hH : zH G true s H locs M O) (hl : lv_has ls 4 [(0, .ref (G.1 1)), (1, .int x1), (2, .int x2)]) (h : pX2_spreadVectors_b2 post ag2 x1 x2 M) : W p l e ({ frames := 2, cells := 0, slots := 0, locals := 60 } : Room) s m args below meth c H locs 0 0 Q (F0 m 2 ls []) := by
  obtain ⟨hx, hb, hml, hown, hts⟩ := id hF
  unfold pX2_spreadVectors_b2 at h
  refine lv_iload_n hx hb dX2_spreadVectors_2 rfl (lv_at hl 2 rfl) ?_
  refine lv_aload_n hx hb dX2_spreadVectors_3 rfl (lv_at hl 0 rfl) ?_
  refine zget (v := .int (M.1 1 1)) hF hSt hH 1 (by decide) rfl (zE_1 _ _ _) (C := RX2) (T := TX2) (N := 16) rfl znX2_spreadVectors_X2 1 (by decide) (List.mem_of_getElem? (i := 1) rfl) rfl dX2_spreadVectors_4 ?_
  refine lv_icmp_ge (tgt := 54) hx hb dX2_spreadVectors_7 (by decide) (fun q7 => ?_) (fun q7 => ?_)
  · have h := h.1 q7
    exact hret _ _ _ _ _ dX2_spreadVectors_54 h hH
  · have h := h.2 q7
    refine lv_aload_n hx hb dX2_spreadVectors_10 rfl (lv_at hl 0 rfl) ?_
    refine zget (v := .ref (G.1 13)) hF hSt hH 1 (by decide) rfl (zE_1 _ _ _) (C := RX2) (T := TX2) (N := 16) rfl znX2_spreadVectors_X2 13 (by decide) (List.mem_of_getElem? (i := 2) rfl) rfl dX2_spreadVectors_11 ?_
    refine lv_iload_n hx hb dX2_spreadVectors_14 rfl (lv_at hl 2 rfl) ?_
    obtain ⟨q15, h⟩ := h
    refine zald hF hSt hH 13 (by decide) rfl (zE_13 _ _ _) q15 dX2_spreadVectors_15 ?_
    refine lv_istore_n (lv' := [(3, .int (M.1 13 x2.toNatClampNeg)), (0, .ref (G.1 1)), (1, .int x1), (2, .int x2)]) hx hb dX2_spreadVectors_16 rfl hl (by decide) rfl (fun ls hl => ?_)
    refine lv_aload_n hx hb dX2_spreadVectors_17 rfl (lv_at hl 1 rfl) ?_
    refine zget (v := .ref (G.1 14)) hF hSt hH 1 (by decide) rfl (zE_1 _ _ _) (C := RX2) (T := TX2) (N := 16) rfl znX2_spreadVectors_X2 14 (by decide) (List.mem_of_getElem? (i := 3) rfl) rfl dX2_spreadVectors_18 ?_
    refine lv_iload_n hx hb dX2_spreadVectors_21 rfl (lv_at hl 0 rfl) ?_
    refine lv_iload_n hx hb dX2_spreadVectors_22 rfl (lv_at hl 2 rfl) ?_
    refine lv_iload_n hx hb dX2_spreadVectors_23 rfl (lv_at hl 0 rfl) ?_
    refine zcalliP hH (va_runSN (As := [.int x1, .int (M.1 13 x2.toNatClampNeg)]) (rest := [.int (M.1 13 x2.toNatClampNeg), .ref (G.1 14)]) hF (kX5_flag l G M O x1 (M.1 13 x2.toNatClampNeg) _ h) ⟨va_cnB 2 hts gX2_spreadVectors_X5_flag_n78 rfl rfl rfl (hSt.2.2.1 _ zNest_X2_78) (hts _ (List.mem_of_getElem? (i := 5) rfl)) zdX5_flag ⟨Nat.le_of_ble_eq_true rfl, Nat.le_of_ble_eq_true rfl⟩, hts _ (List.mem_of_getElem? (i := 4) rfl), trivial⟩ (zpreS hSt hH [.int x1, .int (M.1 13 x2.toNatClampNeg)]) rfl rfl hl.1 rfl (lv_room (Nat.le_of_ble_eq_true rfl)) dX2_spreadVectors_24 ⟨Nat.zero_le _, Nat.zero_le _⟩) (fun r24 H locs h hH => ?_)
    refine lv_iconst (v := (1 : Int32)) hx hb dX2_spreadVectors_27 (by decide) ?_
    refine lv_icmp_ne (tgt := 35) hx hb dX2_spreadVectors_28 (by decide) (fun q28 => ?_) (fun q28 => ?_)
    · have h := h.1 q28
      refine lv_aload_n hx hb dX2_spreadVectors_35 rfl (lv_at hl 1 rfl) ?_
      refine lv_iload_n hx hb dX2_spreadVectors_36 rfl (lv_at hl 0 rfl) ?_
      refine zugets hF hSt hH zNest_X2_81 dX2_spreadVectors_37 ?_
      refine lv_aload_n hx hb dX2_spreadVectors_40 rfl (lv_at hl 1 rfl) ?_
      refine zget (v := .ref (G.1 14)) hF hSt hH 1 (by decide) rfl (zE_1 _ _ _) (C := RX2) (T := TX2) (N := 16) rfl znX2_spreadVectors_X2 14 (by decide) (List.mem_of_getElem? (i := 3) rfl) rfl dX2_spreadVectors_41 ?_
      refine zcalllP hH (va_runV (As := [.int (M.1 13 x2.toNatClampNeg), .ref G.2.2.2, .ref (G.1 14)]) (rest := [.int (M.1 13 x2.toNatClampNeg), .ref (G.1 14)]) hF (kX2_mixed_U_14 l G M O (M.1 13 x2.toNatClampNeg) _ h) (cwV 3 hts gX2_spreadVectors_X2_mixed rfl rfl rfl ⟨rfl, zdX2_mixed⟩ ⟨Nat.le_of_ble_eq_true rfl, Nat.le_of_ble_eq_true rfl⟩) (zpreV hSt hH 1 (by decide) rfl (zE_1 _ _ _) (q := (RX2, TX2, 16)) rfl [.int (M.1 13 x2.toNatClampNeg), .ref G.2.2.2, .ref (G.1 14)]) rfl rfl hl.1 rfl (lv_room (Nat.le_of_ble_eq_true rfl)) dX2_spreadVectors_44 ⟨Nat.zero_le _, Nat.zero_le _⟩) (fun r44 H locs h hH => ?_)
      exact wX2_spreadVectors_b47 hF hSt hret hag2 x1 x2 r44 (M.1 13 x2.toNatClampNeg) M H locs ls hH (lv_sub hl [1, 2, 3] rfl) h
    · have h := h.2 q28
      refine lv_lconst (v := (0 : Int64)) hx hb dX2_spreadVectors_31 (by decide) ?_
      refine lv_goto (tgt := 47) hx hb dX2_spreadVectors_32 (by decide) ?_
      exact wX2_spreadVectors_b47 hF hSt hret hag2 x1 x2 (0 : Int64) (M.1 13 x2.toNatClampNeg) M H locs ls hH (lv_sub hl [1, 2, 3] rfl) h
def pX2_spreadVectors_L2 (post : zM → Prop) (x1 : Int32) (x2 : Int32) (M : zM) : Prop :=
  ∃ I : Nat → Int32 → Int32 → zM → Prop, (∃ n, I n x1 x2 M) ∧ ∀ n x1 x2 M, I n x1 x2 M → pX2_spreadVectors_b2 post (fun x1 x2 M => ∃ k, k < n ∧ I k x1 x2 M) x1 x2 M
set_option maxHeartbeats 4000000 in
theorem wX2_spreadVectors_L2 {post : zM → Prop}  (hF : CallFix p m c cX2_spreadVectors 4 s args wsX2_spreadVectors RX2) (hSt : zSt G s) (hret : zRv p l e ({ frames := 2, cells := 0, slots := 0, locals := 60 } : Room) s m args below meth c Q cX2_spreadVectors G true O post) (x1 : Int32) (x2 : Int32) (M : zM) (H : Heap) (locs : List Loc) (ls : Array Slot) (hH : zH G true s H locs M O) (hl : lv_has ls 4 [(0, .ref (G.1 1)), (1, .int x1), (2, .int x2)]) (h : pX2_spreadVectors_L2 post x1 x2 M) : W p l e ({ frames := 2, cells := 0, slots := 0, locals := 60 } : Room) s m args below meth c H locs 0 0 Q (F0 m 2 ls []) := by
  obtain ⟨I, ⟨n, hI⟩, hs⟩ := h
  have key : ∀ (n : Nat) (x1 : Int32) (x2 : Int32) (M : zM) (H : Heap) (locs : List Loc) (ls : Array Slot), I n x1 x2 M → zH G true s H locs M O → lv_has ls 4 [(0, .ref (G.1 1)), (1, .int x1), (2, .int x2)] → W p l e ({ frames := 2, cells := 0, slots := 0, locals := 60 } : Room) s m args below meth c H locs 0 0 Q (F0 m 2 ls []) := by
    intro n
    induction n using Nat.strongRecOn with
    | _ n ih =>
      intro x1 x2 M H locs ls hI hH hl
      exact wX2_spreadVectors_b2 hF hSt hret (fun x1 x2 M H locs ls h hH hl => by obtain ⟨k, hk, hI⟩ := h; exact ih k hk x1 x2 M H locs ls hI hH hl) x1 x2 M H locs ls hH hl (hs n x1 x2 M hI)
  exact key n x1 x2 M H locs ls hI hH hl
def pX2_spreadVectors (M : zM) (x1 : Int32) (post : zM → Prop) : Prop :=
  pX2_spreadVectors_L2 post x1 (0 : Int32) M
set_option maxHeartbeats 4000000 in
set_option maxRecDepth 100000 in
theorem wX2_spreadVectors {M : zM} {post : zM → Prop} (hF : CallFix p m c cX2_spreadVectors 4 s args wsX2_spreadVectors RX2) (hSt : zSt G s) (hret : zRv p l e ({ frames := 2, cells := 0, slots := 0, locals := 60 } : Room) s m args below meth c Q cX2_spreadVectors G true O post) (x1 : Int32) (H : Heap) (locs : List Loc) (ls : Array Slot) (hH : zH G true s H locs M O) (hl : lv_has ls 4 [(0, .ref (G.1 1)), (1, .int x1)]) (h : pX2_spreadVectors M x1 post) : W p l e ({ frames := 2, cells := 0, slots := 0, locals := 60 } : Room) s m args below meth c H locs 0 0 Q (F0 m 0 ls []) := by
  obtain ⟨hx, hb, hml, hown, hts⟩ := id hF
  unfold pX2_spreadVectors at h
  refine lv_iconst (v := (0 : Int32)) hx hb dX2_spreadVectors_0 (by decide) ?_
  refine lv_istore_n (lv' := [(2, .int (0 : Int32)), (0, .ref (G.1 1)), (1, .int x1)]) hx hb dX2_spreadVectors_1 rfl hl (by decide) rfl (fun ls hl => ?_)
  exact wX2_spreadVectors_L2 hF hSt hret x1 (0 : Int32) M H locs ls hH (lv_sub hl [1, 2, 0] rfl) h
set_option maxRecDepth 100000 in
theorem kX2_spreadVectors (l : Launch) (G : zG) (M O : zM) (x1 : Int32) (post : zM → Prop) (h : pX2_spreadVectors M x1 post) : Met l yX2_spreadVectors wsX2_spreadVectors ({ frames := 2, cells := 0, slots := 0, locals := 60 } : Room) (zPc G true M O [.ref (G.1 1), .int x1]) (va_Qv post (zB G true O) (zAA G)) 0 0 (zAA G) :=
  zmet_v (by decide) rfl (Nat.le_of_ble_eq_true rfl) (fun hF hSt hret H locs ls hH hl => wX2_spreadVectors hF hSt hret x1 H locs ls hH hl h)
end
theorem zdX5_byteOf : yX5_byteOf.cls ≠ "java/lang/invoke/MethodHandle" ∧ yX5_byteOf.cls ≠ "java/lang/invoke/VarHandle" ∧ (parseMethodDescriptor yX5_byteOf.desc).map (fun d => d.parameters.length) = some 2 := by decide +kernel
-- MixingRelays byteOf(JI)I
section
variable {p : Program} {l : Launch} {e : Env} {s : State} {m : MethodId} {args : Array Value} {below : List Frame} {meth : Method} {c : Code} {Q : State → Prop} {G : zG} {O : zM}
def pX5_byteOf (x0 : Int64) (x2 : Int32) (post : Int32 → Prop) : Prop :=
  post ((((x0).toUInt64 >>> ((((8 : Int32) * x2)).toInt64.toUInt64 &&& Int64.toUInt64 63)).toInt64).toInt32 &&& (255 : Int32))
set_option maxHeartbeats 4000000 in
set_option maxRecDepth 100000 in
theorem wX5_byteOf {M : zM} {post : Int32 → Prop} (hF : CallFix p m c cX5_byteOf 3 s args wsX5_byteOf RX5) (hSt : zSt G s) (hret : zRi p l e ({ frames := 0, cells := 0, slots := 0, locals := 0 } : Room) s m args below meth c Q cX5_byteOf G true O (fun r M1 => M1 = M ∧ post r)) (x0 : Int64) (x2 : Int32) (H : Heap) (locs : List Loc) (ls : Array Slot) (hH : zH G true s H locs M O) (hl : lv_has ls 3 [(0, .long x0), (2, .int x2)]) (h : pX5_byteOf x0 x2 post) : W p l e ({ frames := 0, cells := 0, slots := 0, locals := 0 } : Room) s m args below meth c H locs 0 0 Q (F0 m 0 ls []) := by
  obtain ⟨hx, hb, hml, hown, hts⟩ := id hF
  unfold pX5_byteOf at h
  refine lv_lload_n hx hb dX5_byteOf_0 rfl (lv_at hl 0 rfl) ?_
  refine lv_bipush (v := (8 : Int32)) hx hb dX5_byteOf_1 (by decide) ?_
  refine lv_iload_n hx hb dX5_byteOf_3 rfl (lv_at hl 1 rfl) ?_
  refine lv_imul hx hb dX5_byteOf_4 ?_
  refine lv_lushr hx hb dX5_byteOf_5 rfl ?_
  refine lv_l2i hx hb dX5_byteOf_6 rfl ?_
  refine lv_sipush (v := (255 : Int32)) hx hb dX5_byteOf_7 (by decide) ?_
  refine lv_iand hx hb dX5_byteOf_10 ?_
  exact hret _ _ _ _ _ _ dX5_byteOf_11 ⟨rfl, h⟩ hH
set_option maxRecDepth 100000 in
theorem kX5_byteOf (l : Launch) (G : zG) (M O : zM) (x0 : Int64) (x2 : Int32) (post : Int32 → Prop) (h : pX5_byteOf x0 x2 post) : Met l yX5_byteOf wsX5_byteOf ({ frames := 0, cells := 0, slots := 0, locals := 0 } : Room) (zPc G true M O [.long x0, .int x2]) (va_Qi (fun r M1 => M1 = M ∧ post r) (zB G true O) (zAA G)) 0 0 (zAA G) :=
  zmet_i (by decide) rfl (Nat.le_of_ble_eq_true rfl) (fun hF hSt hret H locs ls hH hl => wX5_byteOf hF hSt hret x0 x2 H locs ls hH hl h)
end
theorem znX5_vector_X5 : ∀ w ∈ wsX50, w ∈ wsX5_vector := fun _ h => List.mem_cons_of_mem _ (List.mem_append_left _ (List.mem_append_right _ h))
theorem znX5_vector_X2 : ∀ w ∈ wsX20, w ∈ wsX5_vector := fun _ h => List.mem_cons_of_mem _ (List.mem_append_right _ h)
theorem zdX5_vector : yX5_vector.cls ≠ "java/lang/invoke/MethodHandle" ∧ yX5_vector.cls ≠ "java/lang/invoke/VarHandle" ∧ (parseMethodDescriptor yX5_vector.desc).map (fun d => d.parameters.length) = some 2 := by decide +kernel
-- MixingRelays vector(II)I
section
variable {p : Program} {l : Launch} {e : Env} {s : State} {m : MethodId} {args : Array Value} {below : List Frame} {meth : Method} {c : Code} {Q : State → Prop} {G : zG} {O : zM}
def pX5_vector_b22 (post : Int32 → zM → Prop) (M : zM) : Prop :=
  post (-1 : Int32) M
set_option maxHeartbeats 4000000 in
set_option maxRecDepth 100000 in
theorem wX5_vector_b22 {post : Int32 → zM → Prop}  (hF : CallFix p m c cX5_vector 3 s args wsX5_vector RX5) (hSt : zSt G s) (hret : zRi p l e ({ frames := 3, cells := 0, slots := 0, locals := 83 } : Room) s m args below meth c Q cX5_vector G true O post) (M : zM) (H : Heap) (locs : List Loc) (ls : Array Slot) (hH : zH G true s H locs M O) (hl : lv_has ls 3 []) (h : pX5_vector_b22 post M) : W p l e ({ frames := 3, cells := 0, slots := 0, locals := 83 } : Room) s m args below meth c H locs 0 0 Q (F0 m 22 ls []) := by
  obtain ⟨hx, hb, hml, hown, hts⟩ := id hF
  unfold pX5_vector_b22 at h
  refine lv_iconst (v := (-1 : Int32)) hx hb dX5_vector_22 (by decide) ?_
  exact hret _ _ _ _ _ _ dX5_vector_23 h hH
def pX5_vector (M : zM) (x1 : Int32) (x2 : Int32) (post : Int32 → zM → Prop) : Prop :=
  pX2_isLine M x1 (fun r5 => (r5 = 0 → pX5_vector_b22 post M) ∧ (¬ (r5 = 0) → pX2_isPiece M x2 (fun r16 => (¬ (r16 = 0) → pX2_spreadVectors M (M.1 1 5) (fun M35 => vp_in x1 30 ∧ pX5_byteOf (M35.2 14 x1.toNatClampNeg) x2 (fun r48 => post r48 M35))) ∧ (r16 = 0 → pX5_vector_b22 post M))))
set_option maxHeartbeats 4000000 in
set_option maxRecDepth 100000 in
theorem wX5_vector {M : zM} {post : Int32 → zM → Prop} (hF : CallFix p m c cX5_vector 3 s args wsX5_vector RX5) (hSt : zSt G s) (hret : zRi p l e ({ frames := 3, cells := 0, slots := 0, locals := 83 } : Room) s m args below meth c Q cX5_vector G true O post) (x1 : Int32) (x2 : Int32) (H : Heap) (locs : List Loc) (ls : Array Slot) (hH : zH G true s H locs M O) (hl : lv_has ls 3 [(0, .ref (G.1 0)), (1, .int x1), (2, .int x2)]) (h : pX5_vector M x1 x2 post) : W p l e ({ frames := 3, cells := 0, slots := 0, locals := 83 } : Room) s m args below meth c H locs 0 0 Q (F0 m 0 ls []) := by
  obtain ⟨hx, hb, hml, hown, hts⟩ := id hF
  unfold pX5_vector at h
  refine lv_aload_n hx hb dX5_vector_0 rfl (lv_at hl 0 rfl) ?_
  refine zget (v := .ref (G.1 1)) hF hSt hH 0 (by decide) rfl (zE_0 _ _ _) (C := RX5) (T := TX5) (N := 5) rfl znX5_vector_X5 0 (by decide) (List.mem_of_getElem? (i := 1) rfl) rfl dX5_vector_1 ?_
  refine lv_iload_n hx hb dX5_vector_4 rfl (lv_at hl 1 rfl) ?_
  refine zcalliP hH (va_runV (As := [.int x1]) (rest := []) hF (kX2_isLine l G M O x1 _ h) (cwV 1 hts gX5_vector_X2_isLine rfl rfl rfl ⟨rfl, zdX2_isLine⟩ ⟨Nat.le_of_ble_eq_true rfl, Nat.le_of_ble_eq_true rfl⟩) (zpreV hSt hH 1 (by decide) rfl (zE_1 _ _ _) (q := (RX2, TX2, 16)) rfl [.int x1]) rfl rfl hl.1 rfl (lv_room (Nat.le_of_ble_eq_true rfl)) dX5_vector_5 ⟨Nat.zero_le _, Nat.zero_le _⟩) (fun r5 H locs h hH => ?_)
  refine lv_if_eq (tgt := 22) hx hb dX5_vector_8 (by decide) (fun q8 => ?_) (fun q8 => ?_)
  · have h := h.1 q8
    exact wX5_vector_b22 hF hSt hret M H locs ls hH (lv_sub hl [] rfl) h
  · have h := h.2 q8
    refine lv_aload_n hx hb dX5_vector_11 rfl (lv_at hl 0 rfl) ?_
    refine zget (v := .ref (G.1 1)) hF hSt hH 0 (by decide) rfl (zE_0 _ _ _) (C := RX5) (T := TX5) (N := 5) rfl znX5_vector_X5 0 (by decide) (List.mem_of_getElem? (i := 1) rfl) rfl dX5_vector_12 ?_
    refine lv_iload_n hx hb dX5_vector_15 rfl (lv_at hl 2 rfl) ?_
    refine zcalliP hH (va_runV (As := [.int x2]) (rest := []) hF (kX2_isPiece l G M O x2 _ h) (cwV 1 hts gX5_vector_X2_isPiece rfl rfl rfl ⟨rfl, zdX2_isPiece⟩ ⟨Nat.le_of_ble_eq_true rfl, Nat.le_of_ble_eq_true rfl⟩) (zpreV hSt hH 1 (by decide) rfl (zE_1 _ _ _) (q := (RX2, TX2, 16)) rfl [.int x2]) rfl rfl hl.1 rfl (lv_room (Nat.le_of_ble_eq_true rfl)) dX5_vector_16 ⟨Nat.zero_le _, Nat.zero_le _⟩) (fun r16 H locs h hH => ?_)
    refine lv_if_ne (tgt := 24) hx hb dX5_vector_19 (by decide) (fun q19 => ?_) (fun q19 => ?_)
    · have h := h.1 q19
      refine lv_aload_n hx hb dX5_vector_24 rfl (lv_at hl 0 rfl) ?_
      refine zget (v := .ref (G.1 1)) hF hSt hH 0 (by decide) rfl (zE_0 _ _ _) (C := RX5) (T := TX5) (N := 5) rfl znX5_vector_X5 0 (by decide) (List.mem_of_getElem? (i := 1) rfl) rfl dX5_vector_25 ?_
      refine lv_aload_n hx hb dX5_vector_28 rfl (lv_at hl 0 rfl) ?_
      refine zget (v := .ref (G.1 1)) hF hSt hH 0 (by decide) rfl (zE_0 _ _ _) (C := RX5) (T := TX5) (N := 5) rfl znX5_vector_X5 0 (by decide) (List.mem_of_getElem? (i := 1) rfl) rfl dX5_vector_29 ?_
      refine zget (v := .int (M.1 1 5)) hF hSt hH 1 (by decide) rfl (zE_1 _ _ _) (C := RX2) (T := TX2) (N := 16) rfl znX5_vector_X2 5 (by decide) (List.mem_of_getElem? (i := 2) rfl) rfl dX5_vector_32 ?_
      refine zcallv hH (va_runV (As := [.int (M.1 1 5)]) (rest := []) hF (kX2_spreadVectors l G M O (M.1 1 5) _ h) (cwV 1 hts gX5_vector_X2_spreadVectors rfl rfl rfl ⟨rfl, zdX2_spreadVectors⟩ ⟨Nat.le_of_ble_eq_true rfl, Nat.le_of_ble_eq_true rfl⟩) (zpreV hSt hH 1 (by decide) rfl (zE_1 _ _ _) (q := (RX2, TX2, 16)) rfl [.int (M.1 1 5)]) rfl rfl hl.1 rfl (lv_room (Nat.le_of_ble_eq_true rfl)) dX5_vector_35 ⟨Nat.zero_le _, Nat.zero_le _⟩) (fun M35 H locs h hH => ?_)
      refine lv_aload_n hx hb dX5_vector_38 rfl (lv_at hl 0 rfl) ?_
      refine zget (v := .ref (G.1 1)) hF hSt hH 0 (by decide) rfl (zE_0 _ _ _) (C := RX5) (T := TX5) (N := 5) rfl znX5_vector_X5 0 (by decide) (List.mem_of_getElem? (i := 1) rfl) rfl dX5_vector_39 ?_
      refine zget (v := .ref (G.1 14)) hF hSt hH 1 (by decide) rfl (zE_1 _ _ _) (C := RX2) (T := TX2) (N := 16) rfl znX5_vector_X2 14 (by decide) (List.mem_of_getElem? (i := 3) rfl) rfl dX5_vector_42 ?_
      refine lv_iload_n hx hb dX5_vector_45 rfl (lv_at hl 1 rfl) ?_
      obtain ⟨q46, h⟩ := h
      refine zlald hF hSt hH 14 (by decide) rfl (zE_14 _ _ _) q46 dX5_vector_46 ?_
      refine lv_iload_n hx hb dX5_vector_47 rfl (lv_at hl 2 rfl) ?_
      refine zcalliP hH (va_runS (As := [.long (M35.2 14 x1.toNatClampNeg), .int x2]) (rest := []) hF (kX5_byteOf l G M35 O (M35.2 14 x1.toNatClampNeg) x2 _ h) (va_cwS 2 hts gX5_vector_X5_byteOf rfl rfl rfl zdX5_byteOf ⟨Nat.le_of_ble_eq_true rfl, Nat.le_of_ble_eq_true rfl⟩) (zpreS hSt hH [.long (M35.2 14 x1.toNatClampNeg), .int x2]) rfl rfl hl.1 rfl (lv_room (Nat.le_of_ble_eq_true rfl)) dX5_vector_48 ⟨Nat.zero_le _, Nat.zero_le _⟩) (fun r48 H locs h hH => ?_)
      exact hret _ _ _ _ _ _ dX5_vector_51 h hH
    · have h := h.2 q19
      exact wX5_vector_b22 hF hSt hret M H locs ls hH (lv_sub hl [] rfl) h
set_option maxRecDepth 100000 in
theorem kX5_vector (l : Launch) (G : zG) (M O : zM) (x1 : Int32) (x2 : Int32) (post : Int32 → zM → Prop) (h : pX5_vector M x1 x2 post) : Met l yX5_vector wsX5_vector ({ frames := 3, cells := 0, slots := 0, locals := 83 } : Room) (zPc G true M O [.ref (G.1 0), .int x1, .int x2]) (va_Qi post (zB G true O) (zAA G)) 0 0 (zAA G) :=
  zmet_i (by decide) rfl (Nat.le_of_ble_eq_true rfl) (fun hF hSt hret H locs ls hH hl => wX5_vector hF hSt hret x1 x2 H locs ls hH hl h)
end
-- MixingRelays$Net mixed(I[J[J)J
section
variable {p : Program} {l : Launch} {e : Env} {s : State} {m : MethodId} {args : Array Value} {below : List Frame} {meth : Method} {c : Code} {Q : State → Prop} {G : zG} {O : zM}
def pX2_mixed_9_15_b54 (M : zM) (post : Int64 → Prop) (ag21 : Int32 → Int64 → Int32 → Int32 → Int32 → Prop) (x1 : Int32) (x4 : Int64) (x6 : Int32) (x7 : Int32) (x8 : Int32) (t0 : Int64) : Prop :=
  pX5_slot x1 x8 (fun r67 => vp_in r67 900 ∧ pX5_scaled t0 (M.1 10 r67.toNatClampNeg) (fun r71 => ag21 x1 (x4 ^^^ r71) x6 x7 (x8 + (1 : Int32))))
set_option maxHeartbeats 4000000 in
set_option maxRecDepth 100000 in
theorem wX2_mixed_9_15_b54 {M : zM} {post : Int64 → Prop} {ag21 : Int32 → Int64 → Int32 → Int32 → Int32 → Prop} (hF : CallFix p m c cX2_mixed 11 s args wsX2_mixed RX2) (hSt : zSt G s) (hret : zRl p l e ({ frames := 1, cells := 0, slots := 0, locals := 30 } : Room) s m args below meth c Q cX2_mixed G true O (fun r M1 => M1 = M ∧ post r)) (hag21 : ∀ (x1 : Int32) (x4 : Int64) (x6 : Int32) (x7 : Int32) (x8 : Int32) (H : Heap) (locs : List Loc) (ls : Array Slot), ag21 x1 x4 x6 x7 x8 → zH G true s H locs M O → lv_has ls 11 [(0, .ref (G.1 1)), (1, .int x1), (2, .ref (G.1 9)), (3, .ref (G.1 15)), (4, .long x4), (6, .int x6), (7, .int x7), (8, .int x8)] → W p l e ({ frames := 1, cells := 0, slots := 0, locals := 30 } : Room) s m args below meth c H locs 0 0 Q (F0 m 21 ls [])) (x1 : Int32) (x4 : Int64) (x6 : Int32) (x7 : Int32) (x8 : Int32) (t0 : Int64) (H : Heap) (locs : List Loc) (ls : Array Slot) (hH : zH G true s H locs M O) (hl : lv_has ls 11 [(0, .ref (G.1 1)), (1, .int x1), (2, .ref (G.1 9)), (3, .ref (G.1 15)), (4, .long x4), (6, .int x6), (7, .int x7), (8, .int x8)]) (h : pX2_mixed_9_15_b54 M post ag21 x1 x4 x6 x7 x8 t0) : W p l e ({ frames := 1, cells := 0, slots := 0, locals := 30 } : Room) s m args below meth c H locs 0 0 Q (F0 m 54 ls [.long t0]) := by
  obtain ⟨hx, hb, hml, hown, hts⟩ := id hF
  unfold pX2_mixed_9_15_b54 at h
  refine lv_lstore (lv' := [(9, .long t0), (0, .ref (G.1 1)), (1, .int x1), (2, .ref (G.1 9)), (3, .ref (G.1 15)), (4, .long x4), (6, .int x6), (7, .int x7), (8, .int x8)]) hx hb dX2_mixed_54 hl (by decide) rfl (fun ls hl => ?_)
  refine lv_lload hx hb dX2_mixed_56 (lv_at hl 5 rfl) ?_
  refine lv_lload hx hb dX2_mixed_58 (lv_at hl 0 rfl) ?_
  refine lv_aload_n hx hb dX2_mixed_60 rfl (lv_at hl 1 rfl) ?_
  refine zget (v := .ref (G.1 10)) hF hSt hH 1 (by decide) rfl (zE_1 _ _ _) (C := RX2) (T := TX2) (N := 16) rfl znX2_mixed_X2 10 (by decide) (List.mem_of_getElem? (i := 3) rfl) rfl dX2_mixed_61 ?_
  refine lv_iload_n hx hb dX2_mixed_64 rfl (lv_at hl 2 rfl) ?_
  refine lv_iload hx hb dX2_mixed_65 (lv_at hl 8 rfl) ?_
  refine zcalliP hH (va_runSN (As := [.int x1, .int x8]) (rest := [.ref (G.1 10), .long t0, .long x4]) hF (kX5_slot l G M O x1 x8 _ h) ⟨va_cnB 2 hts gX2_mixed_X5_slot_n62 rfl rfl rfl (hSt.2.2.1 _ zNest_X2_62) (hts _ (List.mem_of_getElem? (i := 12) rfl)) zdX5_slot ⟨Nat.le_of_ble_eq_true rfl, Nat.le_of_ble_eq_true rfl⟩, hts _ (List.mem_of_getElem? (i := 11) rfl), trivial⟩ (zpreS hSt hH [.int x1, .int x8]) rfl rfl hl.1 rfl (lv_room (Nat.le_of_ble_eq_true rfl)) dX2_mixed_67 ⟨Nat.zero_le _, Nat.zero_le _⟩) (fun r67 H locs h hH => ?_)
  obtain ⟨q70, h⟩ := h
  refine zald hF hSt hH 10 (by decide) rfl (zE_10 _ _ _) q70 dX2_mixed_70 ?_
  refine zcalllP hH (va_runSN (As := [.long t0, .int (M.1 10 r67.toNatClampNeg)]) (rest := [.long x4]) hF (kX5_scaled l G M O t0 (M.1 10 r67.toNatClampNeg) _ h) ⟨va_cnB 2 hts gX2_mixed_X5_scaled_n88 rfl rfl rfl (hSt.2.2.1 _ zNest_X2_88) (hts _ (List.mem_of_getElem? (i := 12) rfl)) zdX5_scaled ⟨Nat.le_of_ble_eq_true rfl, Nat.le_of_ble_eq_true rfl⟩, hts _ (List.mem_of_getElem? (i := 14) rfl), trivial⟩ (zpreS hSt hH [.long t0, .int (M.1 10 r67.toNatClampNeg)]) rfl rfl hl.1 rfl (lv_room (Nat.le_of_ble_eq_true rfl)) dX2_mixed_71 ⟨Nat.zero_le _, Nat.zero_le _⟩) (fun r71 H locs h hH => ?_)
  refine lv_lxor hx hb dX2_mixed_74 ?_
  refine lv_lstore (lv' := [(4, .long (x4 ^^^ r71)), (9, .long t0), (0, .ref (G.1 1)), (1, .int x1), (2, .ref (G.1 9)), (3, .ref (G.1 15)), (6, .int x6), (7, .int x7), (8, .int x8)]) hx hb dX2_mixed_75 hl (by decide) rfl (fun ls hl => ?_)
  refine lv_iinc (v := (x8 + (1 : Int32))) (lv' := [(8, .int (x8 + (1 : Int32))), (4, .long (x4 ^^^ r71)), (9, .long t0), (0, .ref (G.1 1)), (1, .int x1), (2, .ref (G.1 9)), (3, .ref (G.1 15)), (6, .int x6), (7, .int x7)]) hx hb dX2_mixed_77 hl (k := 8) rfl rfl (by decide) rfl (fun ls hl => ?_)
  refine lv_goto (tgt := 21) hx hb dX2_mixed_80 (by decide) ?_
  exact hag21 x1 (x4 ^^^ r71) x6 x7 (x8 + (1 : Int32)) H locs ls h hH (lv_sub hl [3, 4, 5, 6, 1, 7, 8, 0] rfl)
def pX2_mixed_9_15_b21 (M : zM) (post : Int64 → Prop) (ag21 : Int32 → Int64 → Int32 → Int32 → Int32 → Prop) (x1 : Int32) (x4 : Int64) (x6 : Int32) (x7 : Int32) (x8 : Int32) : Prop :=
  (x7 ≤ x8 → post x4) ∧ (¬ (x7 ≤ x8) → (¬ (x6 = 0) → pX5_slot x6 x8 (fun r49 => vp_in r49 360 ∧ vp_in (M.1 11 r49.toNatClampNeg) 30 ∧ pX2_mixed_9_15_b54 M post ag21 x1 x4 x6 x7 x8 (M.2 15 ((M.1 11 r49.toNatClampNeg)).toNatClampNeg))) ∧ (x6 = 0 → vp_in x8 4 ∧ pX2_mixed_9_15_b54 M post ag21 x1 x4 x6 x7 x8 (M.2 9 x8.toNatClampNeg)))
set_option maxHeartbeats 4000000 in
set_option maxRecDepth 100000 in
theorem wX2_mixed_9_15_b21 {M : zM} {post : Int64 → Prop} {ag21 : Int32 → Int64 → Int32 → Int32 → Int32 → Prop} (hF : CallFix p m c cX2_mixed 11 s args wsX2_mixed RX2) (hSt : zSt G s) (hret : zRl p l e ({ frames := 1, cells := 0, slots := 0, locals := 30 } : Room) s m args below meth c Q cX2_mixed G true O (fun r M1 => M1 = M ∧ post r)) (hag21 : ∀ (x1 : Int32) (x4 : Int64) (x6 : Int32) (x7 : Int32) (x8 : Int32) (H : Heap) (locs : List Loc) (ls : Array Slot), ag21 x1 x4 x6 x7 x8 → zH G true s H locs M O → lv_has ls 11 [(0, .ref (G.1 1)), (1, .int x1), (2, .ref (G.1 9)), (3, .ref (G.1 15)), (4, .long x4), (6, .int x6), (7, .int x7), (8, .int x8)] → W p l e ({ frames := 1, cells := 0, slots := 0, locals := 30 } : Room) s m args below meth c H locs 0 0 Q (F0 m 21 ls [])) (x1 : Int32) (x4 : Int64) (x6 : Int32) (x7 : Int32) (x8 : Int32) (H : Heap) (locs : List Loc) (ls : Array Slot) (hH : zH G true s H locs M O) (hl : lv_has ls 11 [(0, .ref (G.1 1)), (1, .int x1), (2, .ref (G.1 9)), (3, .ref (G.1 15)), (4, .long x4), (6, .int x6), (7, .int x7), (8, .int x8)]) (h : pX2_mixed_9_15_b21 M post ag21 x1 x4 x6 x7 x8) : W p l e ({ frames := 1, cells := 0, slots := 0, locals := 30 } : Room) s m args below meth c H locs 0 0 Q (F0 m 21 ls []) := by
  obtain ⟨hx, hb, hml, hown, hts⟩ := id hF
  unfold pX2_mixed_9_15_b21 at h
  refine lv_iload hx hb dX2_mixed_21 (lv_at hl 7 rfl) ?_
  refine lv_iload hx hb dX2_mixed_23 (lv_at hl 6 rfl) ?_
  refine lv_icmp_ge (tgt := 83) hx hb dX2_mixed_25 (by decide) (fun q25 => ?_) (fun q25 => ?_)
  · have h := h.1 q25
    refine lv_lload hx hb dX2_mixed_83 (lv_at hl 4 rfl) ?_
    exact hret _ _ _ _ _ _ dX2_mixed_85 ⟨rfl, h⟩ hH
  · have h := h.2 q25
    refine lv_iload hx hb dX2_mixed_28 (lv_at hl 5 rfl) ?_
    refine lv_if_ne (tgt := 40) hx hb dX2_mixed_30 (by decide) (fun q30 => ?_) (fun q30 => ?_)
    · have h := h.1 q30
      refine lv_aload_n hx hb dX2_mixed_40 rfl (lv_at hl 3 rfl) ?_
      refine lv_aload_n hx hb dX2_mixed_41 rfl (lv_at hl 0 rfl) ?_
      refine zget (v := .ref (G.1 11)) hF hSt hH 1 (by decide) rfl (zE_1 _ _ _) (C := RX2) (T := TX2) (N := 16) rfl znX2_mixed_X2 11 (by decide) (List.mem_of_getElem? (i := 2) rfl) rfl dX2_mixed_42 ?_
      refine lv_iload hx hb dX2_mixed_45 (lv_at hl 5 rfl) ?_
      refine lv_iload hx hb dX2_mixed_47 (lv_at hl 7 rfl) ?_
      refine zcalliP hH (va_runSN (As := [.int x6, .int x8]) (rest := [.ref (G.1 11), .ref (G.1 15)]) hF (kX5_slot l G M O x6 x8 _ h) ⟨va_cnB 2 hts gX2_mixed_X5_slot_n62 rfl rfl rfl (hSt.2.2.1 _ zNest_X2_62) (hts _ (List.mem_of_getElem? (i := 12) rfl)) zdX5_slot ⟨Nat.le_of_ble_eq_true rfl, Nat.le_of_ble_eq_true rfl⟩, hts _ (List.mem_of_getElem? (i := 11) rfl), trivial⟩ (zpreS hSt hH [.int x6, .int x8]) rfl rfl hl.1 rfl (lv_room (Nat.le_of_ble_eq_true rfl)) dX2_mixed_49 ⟨Nat.zero_le _, Nat.zero_le _⟩) (fun r49 H locs h hH => ?_)
      obtain ⟨q52, h⟩ := h
      refine zald hF hSt hH 11 (by decide) rfl (zE_11 _ _ _) q52 dX2_mixed_52 ?_
      obtain ⟨q53, h⟩ := h
      refine zlald hF hSt hH 15 (by decide) rfl (zE_15 _ _ _) q53 dX2_mixed_53 ?_
      exact wX2_mixed_9_15_b54 hF hSt hret hag21 x1 x4 x6 x7 x8 (M.2 15 ((M.1 11 r49.toNatClampNeg)).toNatClampNeg) H locs ls hH (lv_sub hl [0, 1, 2, 3, 4, 5, 6, 7] rfl) h
    · have h := h.2 q30
      refine lv_aload_n hx hb dX2_mixed_33 rfl (lv_at hl 2 rfl) ?_
      refine lv_iload hx hb dX2_mixed_34 (lv_at hl 7 rfl) ?_
      obtain ⟨q36, h⟩ := h
      refine zlald hF hSt hH 9 (by decide) rfl (zE_9 _ _ _) q36 dX2_mixed_36 ?_
      refine lv_goto (tgt := 54) hx hb dX2_mixed_37 (by decide) ?_
      exact wX2_mixed_9_15_b54 hF hSt hret hag21 x1 x4 x6 x7 x8 (M.2 9 x8.toNatClampNeg) H locs ls hH (lv_sub hl [0, 1, 2, 3, 4, 5, 6, 7] rfl) h
def pX2_mixed_9_15_L21 (M : zM) (post : Int64 → Prop) (x1 : Int32) (x4 : Int64) (x6 : Int32) (x7 : Int32) (x8 : Int32) : Prop :=
  ∃ I : Nat → Int32 → Int64 → Int32 → Int32 → Int32 → Prop, (∃ n, I n x1 x4 x6 x7 x8) ∧ ∀ n x1 x4 x6 x7 x8, I n x1 x4 x6 x7 x8 → pX2_mixed_9_15_b21 M post (fun x1 x4 x6 x7 x8 => ∃ k, k < n ∧ I k x1 x4 x6 x7 x8) x1 x4 x6 x7 x8
set_option maxHeartbeats 4000000 in
theorem wX2_mixed_9_15_L21 {M : zM} {post : Int64 → Prop}  (hF : CallFix p m c cX2_mixed 11 s args wsX2_mixed RX2) (hSt : zSt G s) (hret : zRl p l e ({ frames := 1, cells := 0, slots := 0, locals := 30 } : Room) s m args below meth c Q cX2_mixed G true O (fun r M1 => M1 = M ∧ post r)) (x1 : Int32) (x4 : Int64) (x6 : Int32) (x7 : Int32) (x8 : Int32) (H : Heap) (locs : List Loc) (ls : Array Slot) (hH : zH G true s H locs M O) (hl : lv_has ls 11 [(0, .ref (G.1 1)), (1, .int x1), (2, .ref (G.1 9)), (3, .ref (G.1 15)), (4, .long x4), (6, .int x6), (7, .int x7), (8, .int x8)]) (h : pX2_mixed_9_15_L21 M post x1 x4 x6 x7 x8) : W p l e ({ frames := 1, cells := 0, slots := 0, locals := 30 } : Room) s m args below meth c H locs 0 0 Q (F0 m 21 ls []) := by
  obtain ⟨I, ⟨n, hI⟩, hs⟩ := h
  have key : ∀ (n : Nat) (x1 : Int32) (x4 : Int64) (x6 : Int32) (x7 : Int32) (x8 : Int32) (H : Heap) (locs : List Loc) (ls : Array Slot), I n x1 x4 x6 x7 x8 → zH G true s H locs M O → lv_has ls 11 [(0, .ref (G.1 1)), (1, .int x1), (2, .ref (G.1 9)), (3, .ref (G.1 15)), (4, .long x4), (6, .int x6), (7, .int x7), (8, .int x8)] → W p l e ({ frames := 1, cells := 0, slots := 0, locals := 30 } : Room) s m args below meth c H locs 0 0 Q (F0 m 21 ls []) := by
    intro n
    induction n using Nat.strongRecOn with
    | _ n ih =>
      intro x1 x4 x6 x7 x8 H locs ls hI hH hl
      exact wX2_mixed_9_15_b21 hF hSt hret (fun x1 x4 x6 x7 x8 H locs ls h hH hl => by obtain ⟨k, hk, hI⟩ := h; exact ih k hk x1 x4 x6 x7 x8 H locs ls hI hH hl) x1 x4 x6 x7 x8 H locs ls hH hl (hs n x1 x4 x6 x7 x8 hI)
  exact key n x1 x4 x6 x7 x8 H locs ls hI hH hl
def pX2_mixed_9_15 (M : zM) (x1 : Int32) (post : Int64 → Prop) : Prop :=
  vp_in x1 30 ∧ pX2_insOf M x1 (fun r13 => pX2_mixed_9_15_L21 M post x1 (0 : Int64) (M.1 6 x1.toNatClampNeg) r13 (0 : Int32))
set_option maxHeartbeats 4000000 in
set_option maxRecDepth 100000 in
theorem wX2_mixed_9_15 {M : zM} {post : Int64 → Prop} (hF : CallFix p m c cX2_mixed 11 s args wsX2_mixed RX2) (hSt : zSt G s) (hret : zRl p l e ({ frames := 1, cells := 0, slots := 0, locals := 30 } : Room) s m args below meth c Q cX2_mixed G true O (fun r M1 => M1 = M ∧ post r)) (x1 : Int32) (H : Heap) (locs : List Loc) (ls : Array Slot) (hH : zH G true s H locs M O) (hl : lv_has ls 11 [(0, .ref (G.1 1)), (1, .int x1), (2, .ref (G.1 9)), (3, .ref (G.1 15))]) (h : pX2_mixed_9_15 M x1 post) : W p l e ({ frames := 1, cells := 0, slots := 0, locals := 30 } : Room) s m args below meth c H locs 0 0 Q (F0 m 0 ls []) := by
  obtain ⟨hx, hb, hml, hown, hts⟩ := id hF
  unfold pX2_mixed_9_15 at h
  refine lv_lconst (v := (0 : Int64)) hx hb dX2_mixed_0 (by decide) ?_
  refine lv_lstore (lv' := [(4, .long (0 : Int64)), (0, .ref (G.1 1)), (1, .int x1), (2, .ref (G.1 9)), (3, .ref (G.1 15))]) hx hb dX2_mixed_1 hl (by decide) rfl (fun ls hl => ?_)
  refine lv_aload_n hx hb dX2_mixed_3 rfl (lv_at hl 1 rfl) ?_
  refine zget (v := .ref (G.1 6)) hF hSt hH 1 (by decide) rfl (zE_1 _ _ _) (C := RX2) (T := TX2) (N := 16) rfl znX2_mixed_X2 6 (by decide) (List.mem_of_getElem? (i := 1) rfl) rfl dX2_mixed_4 ?_
  refine lv_iload_n hx hb dX2_mixed_7 rfl (lv_at hl 2 rfl) ?_
  obtain ⟨q8, h⟩ := h
  refine zald hF hSt hH 6 (by decide) rfl (zE_6 _ _ _) q8 dX2_mixed_8 ?_
  refine lv_istore (lv' := [(6, .int (M.1 6 x1.toNatClampNeg)), (4, .long (0 : Int64)), (0, .ref (G.1 1)), (1, .int x1), (2, .ref (G.1 9)), (3, .ref (G.1 15))]) hx hb dX2_mixed_9 hl (by decide) rfl (fun ls hl => ?_)
  refine lv_aload_n hx hb dX2_mixed_11 rfl (lv_at hl 2 rfl) ?_
  refine lv_iload_n hx hb dX2_mixed_12 rfl (lv_at hl 3 rfl) ?_
  refine zcalliP hH (va_runV (As := [.int x1]) (rest := []) hF (kX2_insOf l G M O x1 _ h) (cwV 1 hts gX2_mixed_X2_insOf rfl rfl rfl ⟨rfl, zdX2_insOf⟩ ⟨Nat.le_of_ble_eq_true rfl, Nat.le_of_ble_eq_true rfl⟩) (zpreV hSt hH 1 (by decide) rfl (zE_1 _ _ _) (q := (RX2, TX2, 16)) rfl [.int x1]) rfl rfl hl.1 rfl (lv_room (Nat.le_of_ble_eq_true rfl)) dX2_mixed_13 ⟨Nat.zero_le _, Nat.zero_le _⟩) (fun r13 H locs h hH => ?_)
  refine lv_istore (lv' := [(7, .int r13), (6, .int (M.1 6 x1.toNatClampNeg)), (4, .long (0 : Int64)), (0, .ref (G.1 1)), (1, .int x1), (2, .ref (G.1 9)), (3, .ref (G.1 15))]) hx hb dX2_mixed_16 hl (by decide) rfl (fun ls hl => ?_)
  refine lv_iconst (v := (0 : Int32)) hx hb dX2_mixed_18 (by decide) ?_
  refine lv_istore (lv' := [(8, .int (0 : Int32)), (7, .int r13), (6, .int (M.1 6 x1.toNatClampNeg)), (4, .long (0 : Int64)), (0, .ref (G.1 1)), (1, .int x1), (2, .ref (G.1 9)), (3, .ref (G.1 15))]) hx hb dX2_mixed_19 hl (by decide) rfl (fun ls hl => ?_)
  exact wX2_mixed_9_15_L21 hF hSt hret x1 (0 : Int64) (M.1 6 x1.toNatClampNeg) r13 (0 : Int32) H locs ls hH (lv_sub hl [4, 5, 6, 7, 3, 2, 1, 0] rfl) h
set_option maxRecDepth 100000 in
theorem kX2_mixed_9_15 (l : Launch) (G : zG) (M O : zM) (x1 : Int32) (post : Int64 → Prop) (h : pX2_mixed_9_15 M x1 post) : Met l yX2_mixed wsX2_mixed ({ frames := 1, cells := 0, slots := 0, locals := 30 } : Room) (zPc G true M O [.ref (G.1 1), .int x1, .ref (G.1 9), .ref (G.1 15)]) (va_Ql (fun r M1 => M1 = M ∧ post r) (zB G true O) (zAA G)) 0 0 (zAA G) :=
  zmet_l (by decide) rfl (Nat.le_of_ble_eq_true rfl) (fun hF hSt hret H locs ls hH hl => wX2_mixed_9_15 hF hSt hret x1 H locs ls hH hl h)
end
theorem znX2_spreadBytes_X2 : ∀ w ∈ wsX20, w ∈ wsX2_spreadBytes := fun _ h => List.mem_cons_of_mem _ (List.mem_append_right _ h)
theorem zdX2_spreadBytes : yX2_spreadBytes.cls ≠ "java/lang/invoke/MethodHandle" ∧ yX2_spreadBytes.cls ≠ "java/lang/invoke/VarHandle" ∧ (parseMethodDescriptor yX2_spreadBytes.desc).map (fun d => d.parameters.length) = some 0 := by decide +kernel
-- MixingRelays$Net spreadBytes()V
section
variable {p : Program} {l : Launch} {e : Env} {s : State} {m : MethodId} {args : Array Value} {below : List Frame} {meth : Method} {c : Code} {Q : State → Prop} {G : zG} {O : zM}
def pX2_spreadBytes_b58 (post : zM → Prop) (ag2 : Int32 → zM → Prop) (x1 : Int32) (t0 : Int64) (t1 : Int32) (M : zM) : Prop :=
  vp_in t1 30 ∧ ag2 (x1 + (1 : Int32)) (zsj M 15 t1.toNatClampNeg t0)
set_option maxHeartbeats 4000000 in
set_option maxRecDepth 100000 in
theorem wX2_spreadBytes_b58 {post : zM → Prop} {ag2 : Int32 → zM → Prop} (hF : CallFix p m c cX2_spreadBytes 3 s args wsX2_spreadBytes RX2) (hSt : zSt G s) (hret : zRv p l e ({ frames := 2, cells := 0, slots := 0, locals := 60 } : Room) s m args below meth c Q cX2_spreadBytes G true O post) (hag2 : ∀ (x1 : Int32) (M : zM) (H : Heap) (locs : List Loc) (ls : Array Slot), ag2 x1 M → zH G true s H locs M O → lv_has ls 3 [(0, .ref (G.1 1)), (1, .int x1)] → W p l e ({ frames := 2, cells := 0, slots := 0, locals := 60 } : Room) s m args below meth c H locs 0 0 Q (F0 m 2 ls [])) (x1 : Int32) (t0 : Int64) (t1 : Int32) (M : zM) (H : Heap) (locs : List Loc) (ls : Array Slot) (hH : zH G true s H locs M O) (hl : lv_has ls 3 [(0, .ref (G.1 1)), (1, .int x1)]) (h : pX2_spreadBytes_b58 post ag2 x1 t0 t1 M) : W p l e ({ frames := 2, cells := 0, slots := 0, locals := 60 } : Room) s m args below meth c H locs 0 0 Q (F0 m 58 ls [.long t0, .int t1, .ref (G.1 15)]) := by
  obtain ⟨hx, hb, hml, hown, hts⟩ := id hF
  unfold pX2_spreadBytes_b58 at h
  obtain ⟨q58, h⟩ := h
  refine zlast hF hSt hH 15 (by decide) rfl (zE_15 _) (x := t0) q58 dX2_spreadBytes_58 (fun H locs hH => ?_)
  refine lv_iinc (v := (x1 + (1 : Int32))) (lv' := [(1, .int (x1 + (1 : Int32))), (0, .ref (G.1 1))]) hx hb dX2_spreadBytes_59 hl (k := 1) rfl rfl (by decide) rfl (fun ls hl => ?_)
  refine lv_goto (tgt := 2) hx hb dX2_spreadBytes_62 (by decide) ?_
  exact hag2 (x1 + (1 : Int32)) (zsj M 15 t1.toNatClampNeg t0) H locs ls h hH (lv_sub hl [1, 0] rfl)
def pX2_spreadBytes_b2 (post : zM → Prop) (ag2 : Int32 → zM → Prop) (x1 : Int32) (M : zM) : Prop :=
  ((M.1 1 1) ≤ x1 → post M) ∧ (¬ ((M.1 1 1) ≤ x1) → vp_in x1 30 ∧ pX5_flag (M.1 1 5) (M.1 13 x1.toNatClampNeg) (fun r27 => (¬ (r27 = (1 : Int32)) → pX2_mixed_9_15 M (M.1 13 x1.toNatClampNeg) (fun r48 => vp_in (M.1 13 x1.toNatClampNeg) 30 ∧ pX2_spreadBytes_b58 post ag2 x1 (r48 ^^^ (M.2 8 ((M.1 13 x1.toNatClampNeg)).toNatClampNeg)) (M.1 13 x1.toNatClampNeg) M)) ∧ (r27 = (1 : Int32) → pX2_spreadBytes_b58 post ag2 x1 (0 : Int64) (M.1 13 x1.toNatClampNeg) M)))
set_option maxHeartbeats 4000000 in
set_option maxRecDepth 100000 in
theorem wX2_spreadBytes_b2 {post : zM → Prop} {ag2 : Int32 → zM → Prop} (hF : CallFix p m c cX2_spreadBytes 3 s args wsX2_spreadBytes RX2) (hSt : zSt G s) (hret : zRv p l e ({ frames := 2, cells := 0, slots := 0, locals := 60 } : Room) s m args below meth c Q cX2_spreadBytes G true O post) (hag2 : ∀ (x1 : Int32) (M : zM) (H : Heap) (locs : List Loc) (ls : Array Slot), ag2 x1 M → zH G true s H locs M O → lv_has ls 3 [(0, .ref (G.1 1)), (1, .int x1)] → W p l e ({ frames := 2, cells := 0, slots := 0, locals := 60 } : Room) s m args below meth c H locs 0 0 Q (F0 m 2 ls [])) (x1 : Int32) (M : zM) (H : Heap) (locs : List Loc) (ls : Array Slot) (hH : zH G true s H locs M O) (hl : lv_has ls 3 [(0, .ref (G.1 1)), (1, .int x1)]) (h : pX2_spreadBytes_b2 post ag2 x1 M) : W p l e ({ frames := 2, cells := 0, slots := 0, locals := 60 } : Room) s m args below meth c H locs 0 0 Q (F0 m 2 ls []) := by
  obtain ⟨hx, hb, hml, hown, hts⟩ := id hF
  unfold pX2_spreadBytes_b2 at h
  refine lv_iload_n hx hb dX2_spreadBytes_2 rfl (lv_at hl 1 rfl) ?_
  refine lv_aload_n hx hb dX2_spreadBytes_3 rfl (lv_at hl 0 rfl) ?_
  refine zget (v := .int (M.1 1 1)) hF hSt hH 1 (by decide) rfl (zE_1 _ _ _) (C := RX2) (T := TX2) (N := 16) rfl znX2_spreadBytes_X2 1 (by decide) (List.mem_of_getElem? (i := 1) rfl) rfl dX2_spreadBytes_4 ?_
  refine lv_icmp_ge (tgt := 65) hx hb dX2_spreadBytes_7 (by decide) (fun q7 => ?_) (fun q7 => ?_)
  · have h := h.1 q7
    exact hret _ _ _ _ _ dX2_spreadBytes_65 h hH
  · have h := h.2 q7
    refine lv_aload_n hx hb dX2_spreadBytes_10 rfl (lv_at hl 0 rfl) ?_
    refine zget (v := .ref (G.1 13)) hF hSt hH 1 (by decide) rfl (zE_1 _ _ _) (C := RX2) (T := TX2) (N := 16) rfl znX2_spreadBytes_X2 13 (by decide) (List.mem_of_getElem? (i := 2) rfl) rfl dX2_spreadBytes_11 ?_
    refine lv_iload_n hx hb dX2_spreadBytes_14 rfl (lv_at hl 1 rfl) ?_
    obtain ⟨q15, h⟩ := h
    refine zald hF hSt hH 13 (by decide) rfl (zE_13 _ _ _) q15 dX2_spreadBytes_15 ?_
    refine lv_istore_n (lv' := [(2, .int (M.1 13 x1.toNatClampNeg)), (0, .ref (G.1 1)), (1, .int x1)]) hx hb dX2_spreadBytes_16 rfl hl (by decide) rfl (fun ls hl => ?_)
    refine lv_aload_n hx hb dX2_spreadBytes_17 rfl (lv_at hl 1 rfl) ?_
    refine zget (v := .ref (G.1 15)) hF hSt hH 1 (by decide) rfl (zE_1 _ _ _) (C := RX2) (T := TX2) (N := 16) rfl znX2_spreadBytes_X2 15 (by decide) (List.mem_of_getElem? (i := 3) rfl) rfl dX2_spreadBytes_18 ?_
    refine lv_iload_n hx hb dX2_spreadBytes_21 rfl (lv_at hl 0 rfl) ?_
    refine lv_aload_n hx hb dX2_spreadBytes_22 rfl (lv_at hl 1 rfl) ?_
    refine zget (v := .int (M.1 1 5)) hF hSt hH 1 (by decide) rfl (zE_1 _ _ _) (C := RX2) (T := TX2) (N := 16) rfl znX2_spreadBytes_X2 5 (by decide) (List.mem_of_getElem? (i := 4) rfl) rfl dX2_spreadBytes_23 ?_
    refine lv_iload_n hx hb dX2_spreadBytes_26 rfl (lv_at hl 0 rfl) ?_
    refine zcalliP hH (va_runSN (As := [.int (M.1 1 5), .int (M.1 13 x1.toNatClampNeg)]) (rest := [.int (M.1 13 x1.toNatClampNeg), .ref (G.1 15)]) hF (kX5_flag l G M O (M.1 1 5) (M.1 13 x1.toNatClampNeg) _ h) ⟨va_cnB 2 hts gX2_spreadBytes_X5_flag_n78 rfl rfl rfl (hSt.2.2.1 _ zNest_X2_78) (hts _ (List.mem_of_getElem? (i := 8) rfl)) zdX5_flag ⟨Nat.le_of_ble_eq_true rfl, Nat.le_of_ble_eq_true rfl⟩, hts _ (List.mem_of_getElem? (i := 7) rfl), trivial⟩ (zpreS hSt hH [.int (M.1 1 5), .int (M.1 13 x1.toNatClampNeg)]) rfl rfl hl.1 rfl (lv_room (Nat.le_of_ble_eq_true rfl)) dX2_spreadBytes_27 ⟨Nat.zero_le _, Nat.zero_le _⟩) (fun r27 H locs h hH => ?_)
    refine lv_iconst (v := (1 : Int32)) hx hb dX2_spreadBytes_30 (by decide) ?_
    refine lv_icmp_ne (tgt := 38) hx hb dX2_spreadBytes_31 (by decide) (fun q31 => ?_) (fun q31 => ?_)
    · have h := h.1 q31
      refine lv_aload_n hx hb dX2_spreadBytes_38 rfl (lv_at hl 1 rfl) ?_
      refine lv_iload_n hx hb dX2_spreadBytes_39 rfl (lv_at hl 0 rfl) ?_
      refine lv_aload_n hx hb dX2_spreadBytes_40 rfl (lv_at hl 1 rfl) ?_
      refine zget (v := .ref (G.1 9)) hF hSt hH 1 (by decide) rfl (zE_1 _ _ _) (C := RX2) (T := TX2) (N := 16) rfl znX2_spreadBytes_X2 9 (by decide) (List.mem_of_getElem? (i := 5) rfl) rfl dX2_spreadBytes_41 ?_
      refine lv_aload_n hx hb dX2_spreadBytes_44 rfl (lv_at hl 1 rfl) ?_
      refine zget (v := .ref (G.1 15)) hF hSt hH 1 (by decide) rfl (zE_1 _ _ _) (C := RX2) (T := TX2) (N := 16) rfl znX2_spreadBytes_X2 15 (by decide) (List.mem_of_getElem? (i := 3) rfl) rfl dX2_spreadBytes_45 ?_
      refine zcalllP hH (va_runV (As := [.int (M.1 13 x1.toNatClampNeg), .ref (G.1 9), .ref (G.1 15)]) (rest := [.int (M.1 13 x1.toNatClampNeg), .ref (G.1 15)]) hF (kX2_mixed_9_15 l G M O (M.1 13 x1.toNatClampNeg) _ h) (cwV 3 hts gX2_spreadBytes_X2_mixed rfl rfl rfl ⟨rfl, zdX2_mixed⟩ ⟨Nat.le_of_ble_eq_true rfl, Nat.le_of_ble_eq_true rfl⟩) (zpreV hSt hH 1 (by decide) rfl (zE_1 _ _ _) (q := (RX2, TX2, 16)) rfl [.int (M.1 13 x1.toNatClampNeg), .ref (G.1 9), .ref (G.1 15)]) rfl rfl hl.1 rfl (lv_room (Nat.le_of_ble_eq_true rfl)) dX2_spreadBytes_48 ⟨Nat.zero_le _, Nat.zero_le _⟩) (fun r48 H locs h hH => ?_)
      refine lv_aload_n hx hb dX2_spreadBytes_51 rfl (lv_at hl 1 rfl) ?_
      refine zget (v := .ref (G.1 8)) hF hSt hH 1 (by decide) rfl (zE_1 _ _ _) (C := RX2) (T := TX2) (N := 16) rfl znX2_spreadBytes_X2 8 (by decide) (List.mem_of_getElem? (i := 6) rfl) rfl dX2_spreadBytes_52 ?_
      refine lv_iload_n hx hb dX2_spreadBytes_55 rfl (lv_at hl 0 rfl) ?_
      obtain ⟨q56, h⟩ := h
      refine zlald hF hSt hH 8 (by decide) rfl (zE_8 _ _ _) q56 dX2_spreadBytes_56 ?_
      refine lv_lxor hx hb dX2_spreadBytes_57 ?_
      exact wX2_spreadBytes_b58 hF hSt hret hag2 x1 (r48 ^^^ (M.2 8 ((M.1 13 x1.toNatClampNeg)).toNatClampNeg)) (M.1 13 x1.toNatClampNeg) M H locs ls hH (lv_sub hl [1, 2] rfl) h
    · have h := h.2 q31
      refine lv_lconst (v := (0 : Int64)) hx hb dX2_spreadBytes_34 (by decide) ?_
      refine lv_goto (tgt := 58) hx hb dX2_spreadBytes_35 (by decide) ?_
      exact wX2_spreadBytes_b58 hF hSt hret hag2 x1 (0 : Int64) (M.1 13 x1.toNatClampNeg) M H locs ls hH (lv_sub hl [1, 2] rfl) h
def pX2_spreadBytes_L2 (post : zM → Prop) (x1 : Int32) (M : zM) : Prop :=
  ∃ I : Nat → Int32 → zM → Prop, (∃ n, I n x1 M) ∧ ∀ n x1 M, I n x1 M → pX2_spreadBytes_b2 post (fun x1 M => ∃ k, k < n ∧ I k x1 M) x1 M
set_option maxHeartbeats 4000000 in
theorem wX2_spreadBytes_L2 {post : zM → Prop}  (hF : CallFix p m c cX2_spreadBytes 3 s args wsX2_spreadBytes RX2) (hSt : zSt G s) (hret : zRv p l e ({ frames := 2, cells := 0, slots := 0, locals := 60 } : Room) s m args below meth c Q cX2_spreadBytes G true O post) (x1 : Int32) (M : zM) (H : Heap) (locs : List Loc) (ls : Array Slot) (hH : zH G true s H locs M O) (hl : lv_has ls 3 [(0, .ref (G.1 1)), (1, .int x1)]) (h : pX2_spreadBytes_L2 post x1 M) : W p l e ({ frames := 2, cells := 0, slots := 0, locals := 60 } : Room) s m args below meth c H locs 0 0 Q (F0 m 2 ls []) := by
  obtain ⟨I, ⟨n, hI⟩, hs⟩ := h
  have key : ∀ (n : Nat) (x1 : Int32) (M : zM) (H : Heap) (locs : List Loc) (ls : Array Slot), I n x1 M → zH G true s H locs M O → lv_has ls 3 [(0, .ref (G.1 1)), (1, .int x1)] → W p l e ({ frames := 2, cells := 0, slots := 0, locals := 60 } : Room) s m args below meth c H locs 0 0 Q (F0 m 2 ls []) := by
    intro n
    induction n using Nat.strongRecOn with
    | _ n ih =>
      intro x1 M H locs ls hI hH hl
      exact wX2_spreadBytes_b2 hF hSt hret (fun x1 M H locs ls h hH hl => by obtain ⟨k, hk, hI⟩ := h; exact ih k hk x1 M H locs ls hI hH hl) x1 M H locs ls hH hl (hs n x1 M hI)
  exact key n x1 M H locs ls hI hH hl
def pX2_spreadBytes (M : zM)  (post : zM → Prop) : Prop :=
  pX2_spreadBytes_L2 post (0 : Int32) M
set_option maxHeartbeats 4000000 in
set_option maxRecDepth 100000 in
theorem wX2_spreadBytes {M : zM} {post : zM → Prop} (hF : CallFix p m c cX2_spreadBytes 3 s args wsX2_spreadBytes RX2) (hSt : zSt G s) (hret : zRv p l e ({ frames := 2, cells := 0, slots := 0, locals := 60 } : Room) s m args below meth c Q cX2_spreadBytes G true O post)  (H : Heap) (locs : List Loc) (ls : Array Slot) (hH : zH G true s H locs M O) (hl : lv_has ls 3 [(0, .ref (G.1 1))]) (h : pX2_spreadBytes M  post) : W p l e ({ frames := 2, cells := 0, slots := 0, locals := 60 } : Room) s m args below meth c H locs 0 0 Q (F0 m 0 ls []) := by
  obtain ⟨hx, hb, hml, hown, hts⟩ := id hF
  unfold pX2_spreadBytes at h
  refine lv_iconst (v := (0 : Int32)) hx hb dX2_spreadBytes_0 (by decide) ?_
  refine lv_istore_n (lv' := [(1, .int (0 : Int32)), (0, .ref (G.1 1))]) hx hb dX2_spreadBytes_1 rfl hl (by decide) rfl (fun ls hl => ?_)
  exact wX2_spreadBytes_L2 hF hSt hret (0 : Int32) M H locs ls hH (lv_sub hl [1, 0] rfl) h
set_option maxRecDepth 100000 in
theorem kX2_spreadBytes (l : Launch) (G : zG) (M O : zM)  (post : zM → Prop) (h : pX2_spreadBytes M  post) : Met l yX2_spreadBytes wsX2_spreadBytes ({ frames := 2, cells := 0, slots := 0, locals := 60 } : Room) (zPc G true M O [.ref (G.1 1)]) (va_Qv post (zB G true O) (zAA G)) 0 0 (zAA G) :=
  zmet_v (by decide) rfl (Nat.le_of_ble_eq_true rfl) (fun hF hSt hret H locs ls hH hl => wX2_spreadBytes hF hSt hret  H locs ls hH hl h)
end
theorem znX5_carries_X5 : ∀ w ∈ wsX50, w ∈ wsX5_carries := fun _ h => List.mem_cons_of_mem _ (List.mem_append_left _ (List.mem_append_right _ h))
theorem znX5_carries_X2 : ∀ w ∈ wsX20, w ∈ wsX5_carries := fun _ h => List.mem_cons_of_mem _ (List.mem_append_right _ h)
theorem zdX5_carries : yX5_carries.cls ≠ "java/lang/invoke/MethodHandle" ∧ yX5_carries.cls ≠ "java/lang/invoke/VarHandle" ∧ (parseMethodDescriptor yX5_carries.desc).map (fun d => d.parameters.length) = some 1 := by decide +kernel
-- MixingRelays carries(I)J
section
variable {p : Program} {l : Launch} {e : Env} {s : State} {m : MethodId} {args : Array Value} {below : List Frame} {meth : Method} {c : Code} {Q : State → Prop} {G : zG} {O : zM}
def pX5_carries (M : zM) (x1 : Int32) (post : Int64 → zM → Prop) : Prop :=
  pX2_isLine M x1 (fun r5 => (¬ (r5 = 0) → pX2_spreadBytes M  (fun M17 => vp_in x1 30 ∧ post (M17.2 15 x1.toNatClampNeg) M17)) ∧ (r5 = 0 → post (0 : Int64) M))
set_option maxHeartbeats 4000000 in
set_option maxRecDepth 100000 in
theorem wX5_carries {M : zM} {post : Int64 → zM → Prop} (hF : CallFix p m c cX5_carries 2 s args wsX5_carries RX5) (hSt : zSt G s) (hret : zRl p l e ({ frames := 3, cells := 0, slots := 0, locals := 82 } : Room) s m args below meth c Q cX5_carries G true O post) (x1 : Int32) (H : Heap) (locs : List Loc) (ls : Array Slot) (hH : zH G true s H locs M O) (hl : lv_has ls 2 [(0, .ref (G.1 0)), (1, .int x1)]) (h : pX5_carries M x1 post) : W p l e ({ frames := 3, cells := 0, slots := 0, locals := 82 } : Room) s m args below meth c H locs 0 0 Q (F0 m 0 ls []) := by
  obtain ⟨hx, hb, hml, hown, hts⟩ := id hF
  unfold pX5_carries at h
  refine lv_aload_n hx hb dX5_carries_0 rfl (lv_at hl 0 rfl) ?_
  refine zget (v := .ref (G.1 1)) hF hSt hH 0 (by decide) rfl (zE_0 _ _ _) (C := RX5) (T := TX5) (N := 5) rfl znX5_carries_X5 0 (by decide) (List.mem_of_getElem? (i := 1) rfl) rfl dX5_carries_1 ?_
  refine lv_iload_n hx hb dX5_carries_4 rfl (lv_at hl 1 rfl) ?_
  refine zcalliP hH (va_runV (As := [.int x1]) (rest := []) hF (kX2_isLine l G M O x1 _ h) (cwV 1 hts gX5_carries_X2_isLine rfl rfl rfl ⟨rfl, zdX2_isLine⟩ ⟨Nat.le_of_ble_eq_true rfl, Nat.le_of_ble_eq_true rfl⟩) (zpreV hSt hH 1 (by decide) rfl (zE_1 _ _ _) (q := (RX2, TX2, 16)) rfl [.int x1]) rfl rfl hl.1 rfl (lv_room (Nat.le_of_ble_eq_true rfl)) dX5_carries_5 ⟨Nat.zero_le _, Nat.zero_le _⟩) (fun r5 H locs h hH => ?_)
  refine lv_if_ne (tgt := 13) hx hb dX5_carries_8 (by decide) (fun q8 => ?_) (fun q8 => ?_)
  · have h := h.1 q8
    refine lv_aload_n hx hb dX5_carries_13 rfl (lv_at hl 0 rfl) ?_
    refine zget (v := .ref (G.1 1)) hF hSt hH 0 (by decide) rfl (zE_0 _ _ _) (C := RX5) (T := TX5) (N := 5) rfl znX5_carries_X5 0 (by decide) (List.mem_of_getElem? (i := 1) rfl) rfl dX5_carries_14 ?_
    refine zcallv hH (va_runV (As := []) (rest := []) hF (kX2_spreadBytes l G M O _ h) (cwV 0 hts gX5_carries_X2_spreadBytes rfl rfl rfl ⟨rfl, zdX2_spreadBytes⟩ ⟨Nat.le_of_ble_eq_true rfl, Nat.le_of_ble_eq_true rfl⟩) (zpreV hSt hH 1 (by decide) rfl (zE_1 _ _ _) (q := (RX2, TX2, 16)) rfl []) rfl rfl hl.1 rfl (lv_room (Nat.le_of_ble_eq_true rfl)) dX5_carries_17 ⟨Nat.zero_le _, Nat.zero_le _⟩) (fun M17 H locs h hH => ?_)
    refine lv_aload_n hx hb dX5_carries_20 rfl (lv_at hl 0 rfl) ?_
    refine zget (v := .ref (G.1 1)) hF hSt hH 0 (by decide) rfl (zE_0 _ _ _) (C := RX5) (T := TX5) (N := 5) rfl znX5_carries_X5 0 (by decide) (List.mem_of_getElem? (i := 1) rfl) rfl dX5_carries_21 ?_
    refine zget (v := .ref (G.1 15)) hF hSt hH 1 (by decide) rfl (zE_1 _ _ _) (C := RX2) (T := TX2) (N := 16) rfl znX5_carries_X2 15 (by decide) (List.mem_of_getElem? (i := 2) rfl) rfl dX5_carries_24 ?_
    refine lv_iload_n hx hb dX5_carries_27 rfl (lv_at hl 1 rfl) ?_
    obtain ⟨q28, h⟩ := h
    refine zlald hF hSt hH 15 (by decide) rfl (zE_15 _ _ _) q28 dX5_carries_28 ?_
    exact hret _ _ _ _ _ _ dX5_carries_29 h hH
  · have h := h.2 q8
    refine lv_lconst (v := (0 : Int64)) hx hb dX5_carries_11 (by decide) ?_
    exact hret _ _ _ _ _ _ dX5_carries_12 h hH
set_option maxRecDepth 100000 in
theorem kX5_carries (l : Launch) (G : zG) (M O : zM) (x1 : Int32) (post : Int64 → zM → Prop) (h : pX5_carries M x1 post) : Met l yX5_carries wsX5_carries ({ frames := 3, cells := 0, slots := 0, locals := 82 } : Room) (zPc G true M O [.ref (G.1 0), .int x1]) (va_Ql post (zB G true O) (zAA G)) 0 0 (zAA G) :=
  zmet_l (by decide) rfl (Nat.le_of_ble_eq_true rfl) (fun hF hSt hret H locs ls hH hl => wX5_carries hF hSt hret x1 H locs ls hH hl h)
end
-- java/util/Arrays fill([JJ)V
section
variable {p : Program} {l : Launch} {e : Env} {s : State} {m : MethodId} {args : Array Value} {below : List Frame} {meth : Method} {c : Code} {Q : State → Prop} {G : zG} {O : zM}
def pJ7_fill_d0a16_17_b6 (post : zM → Prop) (ag6 : Int64 → Int32 → Int32 → zM → Prop) (x1 : Int64) (x3 : Int32) (x4 : Int32) (M : zM) : Prop :=
  (x4 ≤ x3 → post M) ∧ (¬ (x4 ≤ x3) → vp_in x3 4 ∧ ag6 x1 (x3 + (1 : Int32)) x4 (zsj M 17 x3.toNatClampNeg x1))
set_option maxHeartbeats 4000000 in
set_option maxRecDepth 100000 in
theorem wJ7_fill_d0a16_17_b6 {post : zM → Prop} {ag6 : Int64 → Int32 → Int32 → zM → Prop} (hF : CallFix p m c cJ7_fill_d0a16 5 s args wsJ7_fill_d0a16 RJ7) (hSt : zSt G s) (hret : zRv p l e ({ frames := 0, cells := 0, slots := 0, locals := 0 } : Room) s m args below meth c Q cJ7_fill_d0a16 G true O post) (hag6 : ∀ (x1 : Int64) (x3 : Int32) (x4 : Int32) (M : zM) (H : Heap) (locs : List Loc) (ls : Array Slot), ag6 x1 x3 x4 M → zH G true s H locs M O → lv_has ls 5 [(0, .ref (G.1 17)), (1, .long x1), (3, .int x3), (4, .int x4)] → W p l e ({ frames := 0, cells := 0, slots := 0, locals := 0 } : Room) s m args below meth c H locs 0 0 Q (F0 m 6 ls [])) (x1 : Int64) (x3 : Int32) (x4 : Int32) (M : zM) (H : Heap) (locs : List Loc) (ls : Array Slot) (hH : zH G true s H locs M O) (hl : lv_has ls 5 [(0, .ref (G.1 17)), (1, .long x1), (3, .int x3), (4, .int x4)]) (h : pJ7_fill_d0a16_17_b6 post ag6 x1 x3 x4 M) : W p l e ({ frames := 0, cells := 0, slots := 0, locals := 0 } : Room) s m args below meth c H locs 0 0 Q (F0 m 6 ls []) := by
  obtain ⟨hx, hb, hml, hown, hts⟩ := id hF
  unfold pJ7_fill_d0a16_17_b6 at h
  refine lv_iload_n hx hb dJ7_fill_d0a16_6 rfl (lv_at hl 2 rfl) ?_
  refine lv_iload hx hb dJ7_fill_d0a16_7 (lv_at hl 3 rfl) ?_
  refine lv_icmp_ge (tgt := 22) hx hb dJ7_fill_d0a16_9 (by decide) (fun q9 => ?_) (fun q9 => ?_)
  · have h := h.1 q9
    exact hret _ _ _ _ _ dJ7_fill_d0a16_22 h hH
  · have h := h.2 q9
    refine lv_aload_n hx hb dJ7_fill_d0a16_12 rfl (lv_at hl 0 rfl) ?_
    refine lv_iload_n hx hb dJ7_fill_d0a16_13 rfl (lv_at hl 2 rfl) ?_
    refine lv_lload_n hx hb dJ7_fill_d0a16_14 rfl (lv_at hl 1 rfl) ?_
    obtain ⟨q15, h⟩ := h
    refine zlast hF hSt hH 17 (by decide) rfl (zE_17 _) (x := x1) q15 dJ7_fill_d0a16_15 (fun H locs hH => ?_)
    refine lv_iinc (v := (x3 + (1 : Int32))) (lv' := [(3, .int (x3 + (1 : Int32))), (0, .ref (G.1 17)), (1, .long x1), (4, .int x4)]) hx hb dJ7_fill_d0a16_16 hl (k := 2) rfl rfl (by decide) rfl (fun ls hl => ?_)
    refine lv_goto (tgt := 6) hx hb dJ7_fill_d0a16_19 (by decide) ?_
    exact hag6 x1 (x3 + (1 : Int32)) x4 (zsj M 17 x3.toNatClampNeg x1) H locs ls h hH (lv_sub hl [1, 2, 0, 3] rfl)
def pJ7_fill_d0a16_17_L6 (post : zM → Prop) (x1 : Int64) (x3 : Int32) (x4 : Int32) (M : zM) : Prop :=
  ∃ I : Nat → Int64 → Int32 → Int32 → zM → Prop, (∃ n, I n x1 x3 x4 M) ∧ ∀ n x1 x3 x4 M, I n x1 x3 x4 M → pJ7_fill_d0a16_17_b6 post (fun x1 x3 x4 M => ∃ k, k < n ∧ I k x1 x3 x4 M) x1 x3 x4 M
set_option maxHeartbeats 4000000 in
theorem wJ7_fill_d0a16_17_L6 {post : zM → Prop}  (hF : CallFix p m c cJ7_fill_d0a16 5 s args wsJ7_fill_d0a16 RJ7) (hSt : zSt G s) (hret : zRv p l e ({ frames := 0, cells := 0, slots := 0, locals := 0 } : Room) s m args below meth c Q cJ7_fill_d0a16 G true O post) (x1 : Int64) (x3 : Int32) (x4 : Int32) (M : zM) (H : Heap) (locs : List Loc) (ls : Array Slot) (hH : zH G true s H locs M O) (hl : lv_has ls 5 [(0, .ref (G.1 17)), (1, .long x1), (3, .int x3), (4, .int x4)]) (h : pJ7_fill_d0a16_17_L6 post x1 x3 x4 M) : W p l e ({ frames := 0, cells := 0, slots := 0, locals := 0 } : Room) s m args below meth c H locs 0 0 Q (F0 m 6 ls []) := by
  obtain ⟨I, ⟨n, hI⟩, hs⟩ := h
  have key : ∀ (n : Nat) (x1 : Int64) (x3 : Int32) (x4 : Int32) (M : zM) (H : Heap) (locs : List Loc) (ls : Array Slot), I n x1 x3 x4 M → zH G true s H locs M O → lv_has ls 5 [(0, .ref (G.1 17)), (1, .long x1), (3, .int x3), (4, .int x4)] → W p l e ({ frames := 0, cells := 0, slots := 0, locals := 0 } : Room) s m args below meth c H locs 0 0 Q (F0 m 6 ls []) := by
    intro n
    induction n using Nat.strongRecOn with
    | _ n ih =>
      intro x1 x3 x4 M H locs ls hI hH hl
      exact wJ7_fill_d0a16_17_b6 hF hSt hret (fun x1 x3 x4 M H locs ls h hH hl => by obtain ⟨k, hk, hI⟩ := h; exact ih k hk x1 x3 x4 M H locs ls hI hH hl) x1 x3 x4 M H locs ls hH hl (hs n x1 x3 x4 M hI)
  exact key n x1 x3 x4 M H locs ls hI hH hl
def pJ7_fill_d0a16_17 (M : zM) (x1 : Int64) (post : zM → Prop) : Prop :=
  pJ7_fill_d0a16_17_L6 post x1 (0 : Int32) (4 : Int32) M
set_option maxHeartbeats 4000000 in
set_option maxRecDepth 100000 in
theorem wJ7_fill_d0a16_17 {M : zM} {post : zM → Prop} (hF : CallFix p m c cJ7_fill_d0a16 5 s args wsJ7_fill_d0a16 RJ7) (hSt : zSt G s) (hret : zRv p l e ({ frames := 0, cells := 0, slots := 0, locals := 0 } : Room) s m args below meth c Q cJ7_fill_d0a16 G true O post) (x1 : Int64) (H : Heap) (locs : List Loc) (ls : Array Slot) (hH : zH G true s H locs M O) (hl : lv_has ls 5 [(0, .ref (G.1 17)), (1, .long x1)]) (h : pJ7_fill_d0a16_17 M x1 post) : W p l e ({ frames := 0, cells := 0, slots := 0, locals := 0 } : Room) s m args below meth c H locs 0 0 Q (F0 m 0 ls []) := by
  obtain ⟨hx, hb, hml, hown, hts⟩ := id hF
  unfold pJ7_fill_d0a16_17 at h
  refine lv_iconst (v := (0 : Int32)) hx hb dJ7_fill_d0a16_0 (by decide) ?_
  refine lv_istore_n (lv' := [(3, .int (0 : Int32)), (0, .ref (G.1 17)), (1, .long x1)]) hx hb dJ7_fill_d0a16_1 rfl hl (by decide) rfl (fun ls hl => ?_)
  refine lv_aload_n hx hb dJ7_fill_d0a16_2 rfl (lv_at hl 1 rfl) ?_
  refine zalenJ hF hSt hH 17 (by decide) rfl (zE_17 _ _ _) (v := (4 : Int32)) (by decide) dJ7_fill_d0a16_3 ?_
  refine lv_istore (lv' := [(4, .int (4 : Int32)), (3, .int (0 : Int32)), (0, .ref (G.1 17)), (1, .long x1)]) hx hb dJ7_fill_d0a16_4 hl (by decide) rfl (fun ls hl => ?_)
  exact wJ7_fill_d0a16_17_L6 hF hSt hret x1 (0 : Int32) (4 : Int32) M H locs ls hH (lv_sub hl [2, 3, 1, 0] rfl) h
set_option maxRecDepth 100000 in
theorem kJ7_fill_d0a16_17 (l : Launch) (G : zG) (M O : zM) (x1 : Int64) (post : zM → Prop) (h : pJ7_fill_d0a16_17 M x1 post) : Met l yJ7_fill_d0a16 wsJ7_fill_d0a16 ({ frames := 0, cells := 0, slots := 0, locals := 0 } : Room) (zPc G true M O [.ref (G.1 17), .long x1]) (va_Qv post (zB G true O) (zAA G)) 0 0 (zAA G) :=
  zmet_v (by decide) rfl (Nat.le_of_ble_eq_true rfl) (fun hF hSt hret H locs ls hH hl => wJ7_fill_d0a16_17 hF hSt hret x1 H locs ls hH hl h)
end
theorem zdX3_lastPieceIn : yX3_lastPieceIn.cls ≠ "java/lang/invoke/MethodHandle" ∧ yX3_lastPieceIn.cls ≠ "java/lang/invoke/VarHandle" ∧ (parseMethodDescriptor yX3_lastPieceIn.desc).map (fun d => d.parameters.length) = some 2 := by decide +kernel
-- MixingRelays$Span lastPieceIn(JI)I
section
variable {p : Program} {l : Launch} {e : Env} {s : State} {m : MethodId} {args : Array Value} {below : List Frame} {meth : Method} {c : Code} {Q : State → Prop} {G : zG} {O : zM}
def pX3_lastPieceIn_b4 (post : Int32 → Prop) (ag4 : Int64 → Int32 → Prop) (x0 : Int64) (x3 : Int32) : Prop :=
  (x3 < 0 → post (-1 : Int32)) ∧ (¬ (x3 < 0) → pX5_byteOf x0 x3 (fun r10 => (r10 = 0 → ag4 x0 (x3 + (-1 : Int32))) ∧ (¬ (r10 = 0) → post x3)))
set_option maxHeartbeats 4000000 in
set_option maxRecDepth 100000 in
theorem wX3_lastPieceIn_b4 {M : zM} {post : Int32 → Prop} {ag4 : Int64 → Int32 → Prop} (hF : CallFix p m c cX3_lastPieceIn 4 s args wsX3_lastPieceIn RX3) (hSt : zSt G s) (hret : zRi p l e ({ frames := 1, cells := 0, slots := 0, locals := 22 } : Room) s m args below meth c Q cX3_lastPieceIn G true O (fun r M1 => M1 = M ∧ post r)) (hag4 : ∀ (x0 : Int64) (x3 : Int32) (H : Heap) (locs : List Loc) (ls : Array Slot), ag4 x0 x3 → zH G true s H locs M O → lv_has ls 4 [(0, .long x0), (3, .int x3)] → W p l e ({ frames := 1, cells := 0, slots := 0, locals := 22 } : Room) s m args below meth c H locs 0 0 Q (F0 m 4 ls [])) (x0 : Int64) (x3 : Int32) (H : Heap) (locs : List Loc) (ls : Array Slot) (hH : zH G true s H locs M O) (hl : lv_has ls 4 [(0, .long x0), (3, .int x3)]) (h : pX3_lastPieceIn_b4 post ag4 x0 x3) : W p l e ({ frames := 1, cells := 0, slots := 0, locals := 22 } : Room) s m args below meth c H locs 0 0 Q (F0 m 4 ls []) := by
  obtain ⟨hx, hb, hml, hown, hts⟩ := id hF
  unfold pX3_lastPieceIn_b4 at h
  refine lv_iload_n hx hb dX3_lastPieceIn_4 rfl (lv_at hl 1 rfl) ?_
  refine lv_if_lt (tgt := 24) hx hb dX3_lastPieceIn_5 (by decide) (fun q5 => ?_) (fun q5 => ?_)
  · have h := h.1 q5
    refine lv_iconst (v := (-1 : Int32)) hx hb dX3_lastPieceIn_24 (by decide) ?_
    exact hret _ _ _ _ _ _ dX3_lastPieceIn_25 ⟨rfl, h⟩ hH
  · have h := h.2 q5
    refine lv_lload_n hx hb dX3_lastPieceIn_8 rfl (lv_at hl 0 rfl) ?_
    refine lv_iload_n hx hb dX3_lastPieceIn_9 rfl (lv_at hl 1 rfl) ?_
    refine zcalliP hH (va_runSN (As := [.long x0, .int x3]) (rest := []) hF (kX5_byteOf l G M O x0 x3 _ h) ⟨va_cnB 2 hts gX3_lastPieceIn_X5_byteOf_n68 rfl rfl rfl (hSt.2.2.1 _ zNest_X3_68) (hts _ (List.mem_of_getElem? (i := 2) rfl)) zdX5_byteOf ⟨Nat.le_of_ble_eq_true rfl, Nat.le_of_ble_eq_true rfl⟩, hts _ (List.mem_of_getElem? (i := 1) rfl), trivial⟩ (zpreS hSt hH [.long x0, .int x3]) rfl rfl hl.1 rfl (lv_room (Nat.le_of_ble_eq_true rfl)) dX3_lastPieceIn_10 ⟨Nat.zero_le _, Nat.zero_le _⟩) (fun r10 H locs h hH => ?_)
    refine lv_if_eq (tgt := 18) hx hb dX3_lastPieceIn_13 (by decide) (fun q13 => ?_) (fun q13 => ?_)
    · have h := h.1 q13
      refine lv_iinc (v := (x3 + (-1 : Int32))) (lv' := [(3, .int (x3 + (-1 : Int32))), (0, .long x0)]) hx hb dX3_lastPieceIn_18 hl (k := 1) rfl rfl (by decide) rfl (fun ls hl => ?_)
      refine lv_goto (tgt := 4) hx hb dX3_lastPieceIn_21 (by decide) ?_
      exact hag4 x0 (x3 + (-1 : Int32)) H locs ls h hH (lv_sub hl [1, 0] rfl)
    · have h := h.2 q13
      refine lv_iload_n hx hb dX3_lastPieceIn_16 rfl (lv_at hl 1 rfl) ?_
      exact hret _ _ _ _ _ _ dX3_lastPieceIn_17 ⟨rfl, h⟩ hH
def pX3_lastPieceIn_L4 (post : Int32 → Prop) (x0 : Int64) (x3 : Int32) : Prop :=
  ∃ I : Nat → Int64 → Int32 → Prop, (∃ n, I n x0 x3) ∧ ∀ n x0 x3, I n x0 x3 → pX3_lastPieceIn_b4 post (fun x0 x3 => ∃ k, k < n ∧ I k x0 x3) x0 x3
set_option maxHeartbeats 4000000 in
theorem wX3_lastPieceIn_L4 {M : zM} {post : Int32 → Prop}  (hF : CallFix p m c cX3_lastPieceIn 4 s args wsX3_lastPieceIn RX3) (hSt : zSt G s) (hret : zRi p l e ({ frames := 1, cells := 0, slots := 0, locals := 22 } : Room) s m args below meth c Q cX3_lastPieceIn G true O (fun r M1 => M1 = M ∧ post r)) (x0 : Int64) (x3 : Int32) (H : Heap) (locs : List Loc) (ls : Array Slot) (hH : zH G true s H locs M O) (hl : lv_has ls 4 [(0, .long x0), (3, .int x3)]) (h : pX3_lastPieceIn_L4 post x0 x3) : W p l e ({ frames := 1, cells := 0, slots := 0, locals := 22 } : Room) s m args below meth c H locs 0 0 Q (F0 m 4 ls []) := by
  obtain ⟨I, ⟨n, hI⟩, hs⟩ := h
  have key : ∀ (n : Nat) (x0 : Int64) (x3 : Int32) (H : Heap) (locs : List Loc) (ls : Array Slot), I n x0 x3 → zH G true s H locs M O → lv_has ls 4 [(0, .long x0), (3, .int x3)] → W p l e ({ frames := 1, cells := 0, slots := 0, locals := 22 } : Room) s m args below meth c H locs 0 0 Q (F0 m 4 ls []) := by
    intro n
    induction n using Nat.strongRecOn with
    | _ n ih =>
      intro x0 x3 H locs ls hI hH hl
      exact wX3_lastPieceIn_b4 hF hSt hret (fun x0 x3 H locs ls h hH hl => by obtain ⟨k, hk, hI⟩ := h; exact ih k hk x0 x3 H locs ls hI hH hl) x0 x3 H locs ls hH hl (hs n x0 x3 hI)
  exact key n x0 x3 H locs ls hI hH hl
def pX3_lastPieceIn (x0 : Int64) (x2 : Int32) (post : Int32 → Prop) : Prop :=
  pX3_lastPieceIn_L4 post x0 (x2 - (1 : Int32))
set_option maxHeartbeats 4000000 in
set_option maxRecDepth 100000 in
theorem wX3_lastPieceIn {M : zM} {post : Int32 → Prop} (hF : CallFix p m c cX3_lastPieceIn 4 s args wsX3_lastPieceIn RX3) (hSt : zSt G s) (hret : zRi p l e ({ frames := 1, cells := 0, slots := 0, locals := 22 } : Room) s m args below meth c Q cX3_lastPieceIn G true O (fun r M1 => M1 = M ∧ post r)) (x0 : Int64) (x2 : Int32) (H : Heap) (locs : List Loc) (ls : Array Slot) (hH : zH G true s H locs M O) (hl : lv_has ls 4 [(0, .long x0), (2, .int x2)]) (h : pX3_lastPieceIn x0 x2 post) : W p l e ({ frames := 1, cells := 0, slots := 0, locals := 22 } : Room) s m args below meth c H locs 0 0 Q (F0 m 0 ls []) := by
  obtain ⟨hx, hb, hml, hown, hts⟩ := id hF
  unfold pX3_lastPieceIn at h
  refine lv_iload_n hx hb dX3_lastPieceIn_0 rfl (lv_at hl 1 rfl) ?_
  refine lv_iconst (v := (1 : Int32)) hx hb dX3_lastPieceIn_1 (by decide) ?_
  refine lv_isub hx hb dX3_lastPieceIn_2 ?_
  refine lv_istore_n (lv' := [(3, .int (x2 - (1 : Int32))), (0, .long x0), (2, .int x2)]) hx hb dX3_lastPieceIn_3 rfl hl (by decide) rfl (fun ls hl => ?_)
  exact wX3_lastPieceIn_L4 hF hSt hret x0 (x2 - (1 : Int32)) H locs ls hH (lv_sub hl [1, 0] rfl) h
set_option maxRecDepth 100000 in
theorem kX3_lastPieceIn (l : Launch) (G : zG) (M O : zM) (x0 : Int64) (x2 : Int32) (post : Int32 → Prop) (h : pX3_lastPieceIn x0 x2 post) : Met l yX3_lastPieceIn wsX3_lastPieceIn ({ frames := 1, cells := 0, slots := 0, locals := 22 } : Room) (zPc G true M O [.long x0, .int x2]) (va_Qi (fun r M1 => M1 = M ∧ post r) (zB G true O) (zAA G)) 0 0 (zAA G) :=
  zmet_i (by decide) rfl (Nat.le_of_ble_eq_true rfl) (fun hF hSt hret H locs ls hH hl => wX3_lastPieceIn hF hSt hret x0 x2 H locs ls hH hl h)
end
