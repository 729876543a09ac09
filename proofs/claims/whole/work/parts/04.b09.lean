theorem znX6_leave_X6 : ∀ w ∈ wsX60, w ∈ wsX6_leave := fun _ h => List.mem_cons_of_mem _ (List.mem_append_right _ h)
theorem zdX6_leave : yX6_leave.cls ≠ "java/lang/invoke/MethodHandle" ∧ yX6_leave.cls ≠ "java/lang/invoke/VarHandle" ∧ (parseMethodDescriptor yX6_leave.desc).map (fun d => d.parameters.length) = some 0 := by decide +kernel
-- MixingRelaysModel leave()I
section
variable {p : Program} {l : Launch} {e : Env} {s : State} {m : MethodId} {args : Array Value} {below : List Frame} {meth : Method} {c : Code} {Q : State → Prop} {G : zG} {O : zM}
def pX6_leave_b94 (post : Int32 → zM → Prop) (ag53 : Int32 → Int32 → zM → Prop) (x1 : Int32) (x2 : Int32) (M : zM) : Prop :=
  ag53 x1 (x2 + (-1 : Int32)) M
set_option maxHeartbeats 4000000 in
set_option maxRecDepth 100000 in
theorem wX6_leave_b94 {post : Int32 → zM → Prop} {ag53 : Int32 → Int32 → zM → Prop} (hF : CallFix p m c cX6_leave 3 s args wsX6_leave RX6) (hSt : zSt G s) (hret : zRi p l e ({ frames := 7, cells := 0, slots := 0, locals := 161 } : Room) s m args below meth c Q cX6_leave G false O post) (hag53 : ∀ (x1 : Int32) (x2 : Int32) (M : zM) (H : Heap) (locs : List Loc) (ls : Array Slot), ag53 x1 x2 M → zH G false s H locs M O → lv_has ls 3 [(0, .ref (G.1 21)), (1, .int x1), (2, .int x2)] → W p l e ({ frames := 7, cells := 0, slots := 0, locals := 161 } : Room) s m args below meth c H locs 0 0 Q (F0 m 53 ls [])) (x1 : Int32) (x2 : Int32) (M : zM) (H : Heap) (locs : List Loc) (ls : Array Slot) (hH : zH G false s H locs M O) (hl : lv_has ls 3 [(0, .ref (G.1 21)), (1, .int x1), (2, .int x2)]) (h : pX6_leave_b94 post ag53 x1 x2 M) : W p l e ({ frames := 7, cells := 0, slots := 0, locals := 161 } : Room) s m args below meth c H locs 0 0 Q (F0 m 94 ls []) := by
  obtain ⟨hx, hb, hml, hown, hts⟩ := id hF
  unfold pX6_leave_b94 at h
  refine lv_iinc (v := (x2 + (-1 : Int32))) (lv' := [(2, .int (x2 + (-1 : Int32))), (0, .ref (G.1 21)), (1, .int x1)]) hx hb dX6_leave_94 hl (k := 2) rfl rfl (by decide) rfl (fun ls hl => ?_)
  refine lv_goto (tgt := 53) hx hb dX6_leave_97 (by decide) ?_
  exact hag53 x1 (x2 + (-1 : Int32)) M H locs ls h hH (lv_sub hl [1, 2, 0] rfl)
def pX6_leave_b53 (post : Int32 → zM → Prop) (ag53 : Int32 → Int32 → zM → Prop) (x1 : Int32) (x2 : Int32) (M : zM) : Prop :=
  (x2 < 0 → post x1 M) ∧ (¬ (x2 < 0) → vp_in x2 30 ∧ ((M.1 24 x2.toNatClampNeg) = 0 → pX6_leave_b94 post ag53 x1 x2 M) ∧ (¬ ((M.1 24 x2.toNatClampNeg) = 0) → vp_in x2 30 ∧ (¬ ((M.1 26 x2.toNatClampNeg) = 0) → pX6_leave_b94 post ag53 x1 x2 M) ∧ ((M.1 26 x2.toNatClampNeg) = 0 → pX6_isPassing M x2 (fun r77 => (¬ (r77 = 0) → pX6_leave_b94 post ag53 x1 x2 M) ∧ (r77 = 0 → pX6_leaves M x2 (fun r85 M85 => (r85 = 0 → pX6_leave_b94 post ag53 x1 x2 M85) ∧ (¬ (r85 = 0) → pX6_leave_b94 post ag53 (x1 + (1 : Int32)) x2 M85)))))))
set_option maxHeartbeats 4000000 in
set_option maxRecDepth 100000 in
theorem wX6_leave_b53 {post : Int32 → zM → Prop} {ag53 : Int32 → Int32 → zM → Prop} (hF : CallFix p m c cX6_leave 3 s args wsX6_leave RX6) (hSt : zSt G s) (hret : zRi p l e ({ frames := 7, cells := 0, slots := 0, locals := 161 } : Room) s m args below meth c Q cX6_leave G false O post) (hag53 : ∀ (x1 : Int32) (x2 : Int32) (M : zM) (H : Heap) (locs : List Loc) (ls : Array Slot), ag53 x1 x2 M → zH G false s H locs M O → lv_has ls 3 [(0, .ref (G.1 21)), (1, .int x1), (2, .int x2)] → W p l e ({ frames := 7, cells := 0, slots := 0, locals := 161 } : Room) s m args below meth c H locs 0 0 Q (F0 m 53 ls [])) (x1 : Int32) (x2 : Int32) (M : zM) (H : Heap) (locs : List Loc) (ls : Array Slot) (hH : zH G false s H locs M O) (hl : lv_has ls 3 [(0, .ref (G.1 21)), (1, .int x1), (2, .int x2)]) (h : pX6_leave_b53 post ag53 x1 x2 M) : W p l e ({ frames := 7, cells := 0, slots := 0, locals := 161 } : Room) s m args below meth c H locs 0 0 Q (F0 m 53 ls []) := by
  obtain ⟨hx, hb, hml, hown, hts⟩ := id hF
  unfold pX6_leave_b53 at h
  refine lv_iload_n hx hb dX6_leave_53 rfl (lv_at hl 2 rfl) ?_
  refine lv_if_lt (tgt := 100) hx hb dX6_leave_54 (by decide) (fun q54 => ?_) (fun q54 => ?_)
  · have h := h.1 q54
    refine lv_iload_n hx hb dX6_leave_100 rfl (lv_at hl 1 rfl) ?_
    exact hret _ _ _ _ _ _ dX6_leave_101 h hH
  · have h := h.2 q54
    refine lv_aload_n hx hb dX6_leave_57 rfl (lv_at hl 0 rfl) ?_
    refine zget (v := .ref (G.1 24)) hF hSt hH 21 (by decide) rfl (zE_21 _ _ _) (C := RX6) (T := TX6) (N := 31) rfl znX6_leave_X6 6 (by decide) (List.mem_of_getElem? (i := 5) rfl) rfl dX6_leave_58 ?_
    refine lv_iload_n hx hb dX6_leave_61 rfl (lv_at hl 2 rfl) ?_
    obtain ⟨q62, h⟩ := h
    refine zald hF hSt hH 24 (by decide) rfl (zE_24 _ _ _) q62 dX6_leave_62 ?_
    refine lv_if_eq (tgt := 94) hx hb dX6_leave_63 (by decide) (fun q63 => ?_) (fun q63 => ?_)
    · have h := h.1 q63
      exact wX6_leave_b94 hF hSt hret hag53 x1 x2 M H locs ls hH (lv_sub hl [0, 1, 2] rfl) h
    · have h := h.2 q63
      refine lv_aload_n hx hb dX6_leave_66 rfl (lv_at hl 0 rfl) ?_
      refine zget (v := .ref (G.1 26)) hF hSt hH 21 (by decide) rfl (zE_21 _ _ _) (C := RX6) (T := TX6) (N := 31) rfl znX6_leave_X6 8 (by decide) (List.mem_of_getElem? (i := 6) rfl) rfl dX6_leave_67 ?_
      refine lv_iload_n hx hb dX6_leave_70 rfl (lv_at hl 2 rfl) ?_
      obtain ⟨q71, h⟩ := h
      refine zzald hF hSt hH 26 (by decide) rfl (zE_26 _ _ _) q71 dX6_leave_71 ?_
      refine lv_if_ne (tgt := 94) hx hb dX6_leave_72 (by decide) (fun q72 => ?_) (fun q72 => ?_)
      · have h := h.1 q72
        exact wX6_leave_b94 hF hSt hret hag53 x1 x2 M H locs ls hH (lv_sub hl [0, 1, 2] rfl) h
      · have h := h.2 q72
        refine lv_aload_n hx hb dX6_leave_75 rfl (lv_at hl 0 rfl) ?_
        refine lv_iload_n hx hb dX6_leave_76 rfl (lv_at hl 2 rfl) ?_
        refine zcalliP hH (va_runV (As := [.int x2]) (rest := []) hF (kX6_isPassing l G M O x2 _ h) (cwV 1 hts gX6_leave_X6_isPassing rfl rfl rfl ⟨rfl, zdX6_isPassing⟩ ⟨Nat.le_of_ble_eq_true rfl, Nat.le_of_ble_eq_true rfl⟩) (zpreV hSt hH 21 (by decide) rfl (zE_21 _ _ _) (q := (RX6, TX6, 31)) rfl [.int x2]) rfl rfl hl.1 rfl (lv_room (Nat.le_of_ble_eq_true rfl)) dX6_leave_77 ⟨Nat.zero_le _, Nat.zero_le _⟩) (fun r77 H locs h hH => ?_)
        refine lv_if_ne (tgt := 94) hx hb dX6_leave_80 (by decide) (fun q80 => ?_) (fun q80 => ?_)
        · have h := h.1 q80
          exact wX6_leave_b94 hF hSt hret hag53 x1 x2 M H locs ls hH (lv_sub hl [0, 1, 2] rfl) h
        · have h := h.2 q80
          refine lv_aload_n hx hb dX6_leave_83 rfl (lv_at hl 0 rfl) ?_
          refine lv_iload_n hx hb dX6_leave_84 rfl (lv_at hl 2 rfl) ?_
          refine zcalli hH (va_runV (As := [.int x2]) (rest := []) hF (kX6_leaves l G M O x2 _ h) (cwV 1 hts gX6_leave_X6_leaves rfl rfl rfl ⟨rfl, zdX6_leaves⟩ ⟨Nat.le_of_ble_eq_true rfl, Nat.le_of_ble_eq_true rfl⟩) (zpreV hSt hH 21 (by decide) rfl (zE_21 _ _ _) (q := (RX6, TX6, 31)) rfl [.int x2]) rfl rfl hl.1 rfl (lv_room (Nat.le_of_ble_eq_true rfl)) dX6_leave_85 ⟨Nat.zero_le _, Nat.zero_le _⟩) (fun r85 M85 H locs h hH => ?_)
          refine lv_if_eq (tgt := 94) hx hb dX6_leave_88 (by decide) (fun q88 => ?_) (fun q88 => ?_)
          · have h := h.1 q88
            exact wX6_leave_b94 hF hSt hret hag53 x1 x2 M85 H locs ls hH (lv_sub hl [0, 1, 2] rfl) h
          · have h := h.2 q88
            refine lv_iinc (v := (x1 + (1 : Int32))) (lv' := [(1, .int (x1 + (1 : Int32))), (0, .ref (G.1 21)), (2, .int x2)]) hx hb dX6_leave_91 hl (k := 1) rfl rfl (by decide) rfl (fun ls hl => ?_)
            exact wX6_leave_b94 hF hSt hret hag53 (x1 + (1 : Int32)) x2 M85 H locs ls hH (lv_sub hl [1, 0, 2] rfl) h
def pX6_leave_L53 (post : Int32 → zM → Prop) (x1 : Int32) (x2 : Int32) (M : zM) : Prop :=
  ∃ I : Nat → Int32 → Int32 → zM → Prop, (∃ n, I n x1 x2 M) ∧ ∀ n x1 x2 M, I n x1 x2 M → pX6_leave_b53 post (fun x1 x2 M => ∃ k, k < n ∧ I k x1 x2 M) x1 x2 M
set_option maxHeartbeats 4000000 in
theorem wX6_leave_L53 {post : Int32 → zM → Prop}  (hF : CallFix p m c cX6_leave 3 s args wsX6_leave RX6) (hSt : zSt G s) (hret : zRi p l e ({ frames := 7, cells := 0, slots := 0, locals := 161 } : Room) s m args below meth c Q cX6_leave G false O post) (x1 : Int32) (x2 : Int32) (M : zM) (H : Heap) (locs : List Loc) (ls : Array Slot) (hH : zH G false s H locs M O) (hl : lv_has ls 3 [(0, .ref (G.1 21)), (1, .int x1), (2, .int x2)]) (h : pX6_leave_L53 post x1 x2 M) : W p l e ({ frames := 7, cells := 0, slots := 0, locals := 161 } : Room) s m args below meth c H locs 0 0 Q (F0 m 53 ls []) := by
  obtain ⟨I, ⟨n, hI⟩, hs⟩ := h
  have key : ∀ (n : Nat) (x1 : Int32) (x2 : Int32) (M : zM) (H : Heap) (locs : List Loc) (ls : Array Slot), I n x1 x2 M → zH G false s H locs M O → lv_has ls 3 [(0, .ref (G.1 21)), (1, .int x1), (2, .int x2)] → W p l e ({ frames := 7, cells := 0, slots := 0, locals := 161 } : Room) s m args below meth c H locs 0 0 Q (F0 m 53 ls []) := by
    intro n
    induction n using Nat.strongRecOn with
    | _ n ih =>
      intro x1 x2 M H locs ls hI hH hl
      exact wX6_leave_b53 hF hSt hret (fun x1 x2 M H locs ls h hH hl => by obtain ⟨k, hk, hI⟩ := h; exact ih k hk x1 x2 M H locs ls hI hH hl) x1 x2 M H locs ls hH hl (hs n x1 x2 M hI)
  exact key n x1 x2 M H locs ls hI hH hl
def pX6_leave_b37 (post : Int32 → zM → Prop) (ag6 : Int32 → zM → Prop) (x1 : Int32) (t0 : Int32) (t1 : Int32) (M : zM) : Prop :=
  vp_in t1 12 ∧ ag6 (x1 + (1 : Int32)) (zsi M 42 t1.toNatClampNeg t0)
set_option maxHeartbeats 4000000 in
set_option maxRecDepth 100000 in
theorem wX6_leave_b37 {post : Int32 → zM → Prop} {ag6 : Int32 → zM → Prop} (hF : CallFix p m c cX6_leave 3 s args wsX6_leave RX6) (hSt : zSt G s) (hret : zRi p l e ({ frames := 7, cells := 0, slots := 0, locals := 161 } : Room) s m args below meth c Q cX6_leave G false O post) (hag6 : ∀ (x1 : Int32) (M : zM) (H : Heap) (locs : List Loc) (ls : Array Slot), ag6 x1 M → zH G false s H locs M O → lv_has ls 3 [(0, .ref (G.1 21)), (1, .int x1)] → W p l e ({ frames := 7, cells := 0, slots := 0, locals := 161 } : Room) s m args below meth c H locs 0 0 Q (F0 m 6 ls [])) (x1 : Int32) (t0 : Int32) (t1 : Int32) (M : zM) (H : Heap) (locs : List Loc) (ls : Array Slot) (hH : zH G false s H locs M O) (hl : lv_has ls 3 [(0, .ref (G.1 21)), (1, .int x1)]) (h : pX6_leave_b37 post ag6 x1 t0 t1 M) : W p l e ({ frames := 7, cells := 0, slots := 0, locals := 161 } : Room) s m args below meth c H locs 0 0 Q (F0 m 37 ls [.int t0, .int t1, .ref (G.1 42)]) := by
  obtain ⟨hx, hb, hml, hown, hts⟩ := id hF
  unfold pX6_leave_b37 at h
  obtain ⟨q37, h⟩ := h
  refine zast hF hSt hH 42 (by decide) rfl (zE_42 _) (x := t0) q37 dX6_leave_37 (fun H locs hH => ?_)
  refine lv_iinc (v := (x1 + (1 : Int32))) (lv' := [(1, .int (x1 + (1 : Int32))), (0, .ref (G.1 21))]) hx hb dX6_leave_38 hl (k := 1) rfl rfl (by decide) rfl (fun ls hl => ?_)
  refine lv_goto (tgt := 6) hx hb dX6_leave_41 (by decide) ?_
  exact hag6 (x1 + (1 : Int32)) (zsi M 42 t1.toNatClampNeg t0) H locs ls h hH (lv_sub hl [1, 0] rfl)
def pX6_leave_b6 (post : Int32 → zM → Prop) (ag6 : Int32 → zM → Prop) (x1 : Int32) (M : zM) : Prop :=
  ((M.1 21 1) ≤ x1 → pX6_leave_L53 post (0 : Int32) ((M.1 21 2) - (1 : Int32)) M) ∧ (¬ ((M.1 21 1) ≤ x1) → vp_in x1 12 ∧ ((M.1 23 x1.toNatClampNeg) = 0 → pX6_leave_b37 post ag6 x1 (0 : Int32) x1 M) ∧ (¬ ((M.1 23 x1.toNatClampNeg) = 0) → pX6_rankOf M x1 (fun r30 M30 => pX6_leave_b37 post ag6 x1 r30 x1 M30)))
set_option maxHeartbeats 4000000 in
set_option maxRecDepth 100000 in
theorem wX6_leave_b6 {post : Int32 → zM → Prop} {ag6 : Int32 → zM → Prop} (hF : CallFix p m c cX6_leave 3 s args wsX6_leave RX6) (hSt : zSt G s) (hret : zRi p l e ({ frames := 7, cells := 0, slots := 0, locals := 161 } : Room) s m args below meth c Q cX6_leave G false O post) (hag6 : ∀ (x1 : Int32) (M : zM) (H : Heap) (locs : List Loc) (ls : Array Slot), ag6 x1 M → zH G false s H locs M O → lv_has ls 3 [(0, .ref (G.1 21)), (1, .int x1)] → W p l e ({ frames := 7, cells := 0, slots := 0, locals := 161 } : Room) s m args below meth c H locs 0 0 Q (F0 m 6 ls [])) (x1 : Int32) (M : zM) (H : Heap) (locs : List Loc) (ls : Array Slot) (hH : zH G false s H locs M O) (hl : lv_has ls 3 [(0, .ref (G.1 21)), (1, .int x1)]) (h : pX6_leave_b6 post ag6 x1 M) : W p l e ({ frames := 7, cells := 0, slots := 0, locals := 161 } : Room) s m args below meth c H locs 0 0 Q (F0 m 6 ls []) := by
  obtain ⟨hx, hb, hml, hown, hts⟩ := id hF
  unfold pX6_leave_b6 at h
  refine lv_iload_n hx hb dX6_leave_6 rfl (lv_at hl 1 rfl) ?_
  refine lv_aload_n hx hb dX6_leave_7 rfl (lv_at hl 0 rfl) ?_
  refine zget (v := .int (M.1 21 1)) hF hSt hH 21 (by decide) rfl (zE_21 _ _ _) (C := RX6) (T := TX6) (N := 31) rfl znX6_leave_X6 1 (by decide) (List.mem_of_getElem? (i := 1) rfl) rfl dX6_leave_8 ?_
  refine lv_icmp_ge (tgt := 44) hx hb dX6_leave_11 (by decide) (fun q11 => ?_) (fun q11 => ?_)
  · have h := h.1 q11
    refine lv_iconst (v := (0 : Int32)) hx hb dX6_leave_44 (by decide) ?_
    refine lv_istore_n (lv' := [(1, .int (0 : Int32)), (0, .ref (G.1 21))]) hx hb dX6_leave_45 rfl hl (by decide) rfl (fun ls hl => ?_)
    refine lv_aload_n hx hb dX6_leave_46 rfl (lv_at hl 1 rfl) ?_
    refine zget (v := .int (M.1 21 2)) hF hSt hH 21 (by decide) rfl (zE_21 _ _ _) (C := RX6) (T := TX6) (N := 31) rfl znX6_leave_X6 2 (by decide) (List.mem_of_getElem? (i := 4) rfl) rfl dX6_leave_47 ?_
    refine lv_iconst (v := (1 : Int32)) hx hb dX6_leave_50 (by decide) ?_
    refine lv_isub hx hb dX6_leave_51 ?_
    refine lv_istore_n (lv' := [(2, .int ((M.1 21 2) - (1 : Int32))), (1, .int (0 : Int32)), (0, .ref (G.1 21))]) hx hb dX6_leave_52 rfl hl (by decide) rfl (fun ls hl => ?_)
    exact wX6_leave_L53 hF hSt hret (0 : Int32) ((M.1 21 2) - (1 : Int32)) M H locs ls hH (lv_sub hl [2, 1, 0] rfl) h
  · have h := h.2 q11
    refine lv_aload_n hx hb dX6_leave_14 rfl (lv_at hl 0 rfl) ?_
    refine zget (v := .ref (G.1 42)) hF hSt hH 21 (by decide) rfl (zE_21 _ _ _) (C := RX6) (T := TX6) (N := 31) rfl znX6_leave_X6 27 (by decide) (List.mem_of_getElem? (i := 2) rfl) rfl dX6_leave_15 ?_
    refine lv_iload_n hx hb dX6_leave_18 rfl (lv_at hl 1 rfl) ?_
    refine lv_aload_n hx hb dX6_leave_19 rfl (lv_at hl 0 rfl) ?_
    refine zget (v := .ref (G.1 23)) hF hSt hH 21 (by decide) rfl (zE_21 _ _ _) (C := RX6) (T := TX6) (N := 31) rfl znX6_leave_X6 5 (by decide) (List.mem_of_getElem? (i := 3) rfl) rfl dX6_leave_20 ?_
    refine lv_iload_n hx hb dX6_leave_23 rfl (lv_at hl 1 rfl) ?_
    obtain ⟨q24, h⟩ := h
    refine zzald hF hSt hH 23 (by decide) rfl (zE_23 _ _ _) q24 dX6_leave_24 ?_
    refine lv_if_eq (tgt := 36) hx hb dX6_leave_25 (by decide) (fun q25 => ?_) (fun q25 => ?_)
    · have h := h.1 q25
      refine lv_iconst (v := (0 : Int32)) hx hb dX6_leave_36 (by decide) ?_
      exact wX6_leave_b37 hF hSt hret hag6 x1 (0 : Int32) x1 M H locs ls hH (lv_sub hl [0, 1] rfl) h
    · have h := h.2 q25
      refine lv_aload_n hx hb dX6_leave_28 rfl (lv_at hl 0 rfl) ?_
      refine lv_iload_n hx hb dX6_leave_29 rfl (lv_at hl 1 rfl) ?_
      refine zcalli hH (va_runV (As := [.int x1]) (rest := [.int x1, .ref (G.1 42)]) hF (kX6_rankOf l G M O x1 _ h) (cwV 1 hts gX6_leave_X6_rankOf rfl rfl rfl ⟨rfl, zdX6_rankOf⟩ ⟨Nat.le_of_ble_eq_true rfl, Nat.le_of_ble_eq_true rfl⟩) (zpreV hSt hH 21 (by decide) rfl (zE_21 _ _ _) (q := (RX6, TX6, 31)) rfl [.int x1]) rfl rfl hl.1 rfl (lv_room (Nat.le_of_ble_eq_true rfl)) dX6_leave_30 ⟨Nat.zero_le _, Nat.zero_le _⟩) (fun r30 M30 H locs h hH => ?_)
      refine lv_goto (tgt := 37) hx hb dX6_leave_33 (by decide) ?_
      exact wX6_leave_b37 hF hSt hret hag6 x1 r30 x1 M30 H locs ls hH (lv_sub hl [0, 1] rfl) h
def pX6_leave_L6 (post : Int32 → zM → Prop) (x1 : Int32) (M : zM) : Prop :=
  ∃ I : Nat → Int32 → zM → Prop, (∃ n, I n x1 M) ∧ ∀ n x1 M, I n x1 M → pX6_leave_b6 post (fun x1 M => ∃ k, k < n ∧ I k x1 M) x1 M
set_option maxHeartbeats 4000000 in
theorem wX6_leave_L6 {post : Int32 → zM → Prop}  (hF : CallFix p m c cX6_leave 3 s args wsX6_leave RX6) (hSt : zSt G s) (hret : zRi p l e ({ frames := 7, cells := 0, slots := 0, locals := 161 } : Room) s m args below meth c Q cX6_leave G false O post) (x1 : Int32) (M : zM) (H : Heap) (locs : List Loc) (ls : Array Slot) (hH : zH G false s H locs M O) (hl : lv_has ls 3 [(0, .ref (G.1 21)), (1, .int x1)]) (h : pX6_leave_L6 post x1 M) : W p l e ({ frames := 7, cells := 0, slots := 0, locals := 161 } : Room) s m args below meth c H locs 0 0 Q (F0 m 6 ls []) := by
  obtain ⟨I, ⟨n, hI⟩, hs⟩ := h
  have key : ∀ (n : Nat) (x1 : Int32) (M : zM) (H : Heap) (locs : List Loc) (ls : Array Slot), I n x1 M → zH G false s H locs M O → lv_has ls 3 [(0, .ref (G.1 21)), (1, .int x1)] → W p l e ({ frames := 7, cells := 0, slots := 0, locals := 161 } : Room) s m args below meth c H locs 0 0 Q (F0 m 6 ls []) := by
    intro n
    induction n using Nat.strongRecOn with
    | _ n ih =>
      intro x1 M H locs ls hI hH hl
      exact wX6_leave_b6 hF hSt hret (fun x1 M H locs ls h hH hl => by obtain ⟨k, hk, hI⟩ := h; exact ih k hk x1 M H locs ls hI hH hl) x1 M H locs ls hH hl (hs n x1 M hI)
  exact key n x1 M H locs ls hI hH hl
def pX6_leave (M : zM)  (post : Int32 → zM → Prop) : Prop :=
  pX6_work M  (fun M1 => pX6_leave_L6 post (1 : Int32) M1)
set_option maxHeartbeats 4000000 in
set_option maxRecDepth 100000 in
theorem wX6_leave {M : zM} {post : Int32 → zM → Prop} (hF : CallFix p m c cX6_leave 3 s args wsX6_leave RX6) (hSt : zSt G s) (hret : zRi p l e ({ frames := 7, cells := 0, slots := 0, locals := 161 } : Room) s m args below meth c Q cX6_leave G false O post)  (H : Heap) (locs : List Loc) (ls : Array Slot) (hH : zH G false s H locs M O) (hl : lv_has ls 3 [(0, .ref (G.1 21))]) (h : pX6_leave M  post) : W p l e ({ frames := 7, cells := 0, slots := 0, locals := 161 } : Room) s m args below meth c H locs 0 0 Q (F0 m 0 ls []) := by
  obtain ⟨hx, hb, hml, hown, hts⟩ := id hF
  unfold pX6_leave at h
  refine lv_aload_n hx hb dX6_leave_0 rfl (lv_at hl 0 rfl) ?_
  refine zcallv hH (va_runV (As := []) (rest := []) hF (kX6_work l G M O _ h) (cwV 0 hts gX6_leave_X6_work rfl rfl rfl ⟨rfl, zdX6_work⟩ ⟨Nat.le_of_ble_eq_true rfl, Nat.le_of_ble_eq_true rfl⟩) (zpreV hSt hH 21 (by decide) rfl (zE_21 _ _ _) (q := (RX6, TX6, 31)) rfl []) rfl rfl hl.1 rfl (lv_room (Nat.le_of_ble_eq_true rfl)) dX6_leave_1 ⟨Nat.zero_le _, Nat.zero_le _⟩) (fun M1 H locs h hH => ?_)
  refine lv_iconst (v := (1 : Int32)) hx hb dX6_leave_4 (by decide) ?_
  refine lv_istore_n (lv' := [(1, .int (1 : Int32)), (0, .ref (G.1 21))]) hx hb dX6_leave_5 rfl hl (by decide) rfl (fun ls hl => ?_)
  exact wX6_leave_L6 hF hSt hret (1 : Int32) M1 H locs ls hH (lv_sub hl [1, 0] rfl) h
set_option maxRecDepth 100000 in
theorem kX6_leave (l : Launch) (G : zG) (M O : zM)  (post : Int32 → zM → Prop) (h : pX6_leave M  post) : Met l yX6_leave wsX6_leave ({ frames := 7, cells := 0, slots := 0, locals := 161 } : Room) (zPc G false M O [.ref (G.1 21)]) (va_Qi post (zB G false O) (zAA G)) 0 0 (zAA G) :=
  zmet_i (by decide) rfl (Nat.le_of_ble_eq_true rfl) (fun hF hSt hret H locs ls hH hl => wX6_leave hF hSt hret  H locs ls hH hl h)
end
theorem znX6_lowEnd_X6 : ∀ w ∈ wsX60, w ∈ wsX6_lowEnd := fun _ h => List.mem_cons_of_mem _ (List.mem_append_right _ h)
theorem zdX6_lowEnd : yX6_lowEnd.cls ≠ "java/lang/invoke/MethodHandle" ∧ yX6_lowEnd.cls ≠ "java/lang/invoke/VarHandle" ∧ (parseMethodDescriptor yX6_lowEnd.desc).map (fun d => d.parameters.length) = some 3 := by decide +kernel
-- MixingRelaysModel lowEnd(III)I
section
variable {p : Program} {l : Launch} {e : Env} {s : State} {m : MethodId} {args : Array Value} {below : List Frame} {meth : Method} {c : Code} {Q : State → Prop} {G : zG} {O : zM}
def pX6_lowEnd_b54 (post : Int32 → zM → Prop) (ag25 : Int32 → Int32 → Int32 → zM → Prop) (x3 : Int32) (x4 : Int32) (x5 : Int32) (M : zM) : Prop :=
  ag25 x3 x4 (x5 + (-1 : Int32)) M
set_option maxHeartbeats 4000000 in
set_option maxRecDepth 100000 in
theorem wX6_lowEnd_b54 {post : Int32 → zM → Prop} {ag25 : Int32 → Int32 → Int32 → zM → Prop} (hF : CallFix p m c cX6_lowEnd 6 s args wsX6_lowEnd RX6) (hSt : zSt G s) (hret : zRi p l e ({ frames := 5, cells := 0, slots := 0, locals := 116 } : Room) s m args below meth c Q cX6_lowEnd G false O post) (hag25 : ∀ (x3 : Int32) (x4 : Int32) (x5 : Int32) (M : zM) (H : Heap) (locs : List Loc) (ls : Array Slot), ag25 x3 x4 x5 M → zH G false s H locs M O → lv_has ls 6 [(0, .ref (G.1 21)), (3, .int x3), (4, .int x4), (5, .int x5)] → W p l e ({ frames := 5, cells := 0, slots := 0, locals := 116 } : Room) s m args below meth c H locs 0 0 Q (F0 m 25 ls [])) (x3 : Int32) (x4 : Int32) (x5 : Int32) (M : zM) (H : Heap) (locs : List Loc) (ls : Array Slot) (hH : zH G false s H locs M O) (hl : lv_has ls 6 [(0, .ref (G.1 21)), (3, .int x3), (4, .int x4), (5, .int x5)]) (h : pX6_lowEnd_b54 post ag25 x3 x4 x5 M) : W p l e ({ frames := 5, cells := 0, slots := 0, locals := 116 } : Room) s m args below meth c H locs 0 0 Q (F0 m 54 ls []) := by
  obtain ⟨hx, hb, hml, hown, hts⟩ := id hF
  unfold pX6_lowEnd_b54 at h
  refine lv_iinc (v := (x5 + (-1 : Int32))) (lv' := [(5, .int (x5 + (-1 : Int32))), (0, .ref (G.1 21)), (3, .int x3), (4, .int x4)]) hx hb dX6_lowEnd_54 hl (k := 3) rfl rfl (by decide) rfl (fun ls hl => ?_)
  refine lv_goto (tgt := 25) hx hb dX6_lowEnd_57 (by decide) ?_
  exact hag25 x3 x4 (x5 + (-1 : Int32)) M H locs ls h hH (lv_sub hl [1, 2, 3, 0] rfl)
def pX6_lowEnd_b25 (post : Int32 → zM → Prop) (ag25 : Int32 → Int32 → Int32 → zM → Prop) (x3 : Int32) (x4 : Int32) (x5 : Int32) (M : zM) : Prop :=
  (x5 ≤ 0 → post x4 (zsi (zsi M 21 17 (-1 : Int32)) 21 18 (-1 : Int32))) ∧ (¬ (x5 ≤ 0) → vp_in x5 12 ∧ ((M.1 23 x5.toNatClampNeg) = 0 → pX6_lowEnd_b54 post ag25 x3 x4 x5 M) ∧ (¬ ((M.1 23 x5.toNatClampNeg) = 0) → pX6_rankOf M x5 (fun r43 M43 => (x3 ≤ r43 → pX6_lowEnd_b54 post ag25 x3 x4 x5 M43) ∧ (¬ (x3 ≤ r43) → pX6_lowEnd_b54 post ag25 x3 x5 x5 M43))))
set_option maxHeartbeats 4000000 in
set_option maxRecDepth 100000 in
theorem wX6_lowEnd_b25 {post : Int32 → zM → Prop} {ag25 : Int32 → Int32 → Int32 → zM → Prop} (hF : CallFix p m c cX6_lowEnd 6 s args wsX6_lowEnd RX6) (hSt : zSt G s) (hret : zRi p l e ({ frames := 5, cells := 0, slots := 0, locals := 116 } : Room) s m args below meth c Q cX6_lowEnd G false O post) (hag25 : ∀ (x3 : Int32) (x4 : Int32) (x5 : Int32) (M : zM) (H : Heap) (locs : List Loc) (ls : Array Slot), ag25 x3 x4 x5 M → zH G false s H locs M O → lv_has ls 6 [(0, .ref (G.1 21)), (3, .int x3), (4, .int x4), (5, .int x5)] → W p l e ({ frames := 5, cells := 0, slots := 0, locals := 116 } : Room) s m args below meth c H locs 0 0 Q (F0 m 25 ls [])) (x3 : Int32) (x4 : Int32) (x5 : Int32) (M : zM) (H : Heap) (locs : List Loc) (ls : Array Slot) (hH : zH G false s H locs M O) (hl : lv_has ls 6 [(0, .ref (G.1 21)), (3, .int x3), (4, .int x4), (5, .int x5)]) (h : pX6_lowEnd_b25 post ag25 x3 x4 x5 M) : W p l e ({ frames := 5, cells := 0, slots := 0, locals := 116 } : Room) s m args below meth c H locs 0 0 Q (F0 m 25 ls []) := by
  obtain ⟨hx, hb, hml, hown, hts⟩ := id hF
  unfold pX6_lowEnd_b25 at h
  refine lv_iload hx hb dX6_lowEnd_25 (lv_at hl 3 rfl) ?_
  refine lv_if_le (tgt := 60) hx hb dX6_lowEnd_27 (by decide) (fun q27 => ?_) (fun q27 => ?_)
  · have h := h.1 q27
    refine lv_aload_n hx hb dX6_lowEnd_60 rfl (lv_at hl 0 rfl) ?_
    refine lv_iconst (v := (-1 : Int32)) hx hb dX6_lowEnd_61 (by decide) ?_
    refine zput hF hSt hH 21 (by decide) rfl (zE_21 _ _ _) (C := RX6) (T := TX6) (N := 31) rfl znX6_lowEnd_X6 tyX6 tyX6_ok nmX6 17 (by decide) (List.mem_of_getElem? (i := 1) rfl) rfl (by decide +kernel) (Nat.le_of_ble_eq_true rfl) (x := (-1 : Int32)) rfl dX6_lowEnd_62 (fun H locs hH => ?_)
    refine lv_aload_n hx hb dX6_lowEnd_65 rfl (lv_at hl 0 rfl) ?_
    refine lv_iconst (v := (-1 : Int32)) hx hb dX6_lowEnd_66 (by decide) ?_
    refine zput hF hSt hH 21 (by decide) rfl (zE_21 _ _ _) (C := RX6) (T := TX6) (N := 31) rfl znX6_lowEnd_X6 tyX6 tyX6_ok nmX6 18 (by decide) (List.mem_of_getElem? (i := 2) rfl) rfl (by decide +kernel) (Nat.le_of_ble_eq_true rfl) (x := (-1 : Int32)) rfl dX6_lowEnd_67 (fun H locs hH => ?_)
    refine lv_iload hx hb dX6_lowEnd_70 (lv_at hl 2 rfl) ?_
    exact hret _ _ _ _ _ _ dX6_lowEnd_72 h hH
  · have h := h.2 q27
    refine lv_aload_n hx hb dX6_lowEnd_30 rfl (lv_at hl 0 rfl) ?_
    refine zget (v := .ref (G.1 23)) hF hSt hH 21 (by decide) rfl (zE_21 _ _ _) (C := RX6) (T := TX6) (N := 31) rfl znX6_lowEnd_X6 5 (by decide) (List.mem_of_getElem? (i := 4) rfl) rfl dX6_lowEnd_31 ?_
    refine lv_iload hx hb dX6_lowEnd_34 (lv_at hl 3 rfl) ?_
    obtain ⟨q36, h⟩ := h
    refine zzald hF hSt hH 23 (by decide) rfl (zE_23 _ _ _) q36 dX6_lowEnd_36 ?_
    refine lv_if_eq (tgt := 54) hx hb dX6_lowEnd_37 (by decide) (fun q37 => ?_) (fun q37 => ?_)
    · have h := h.1 q37
      exact wX6_lowEnd_b54 hF hSt hret hag25 x3 x4 x5 M H locs ls hH (lv_sub hl [0, 1, 2, 3] rfl) h
    · have h := h.2 q37
      refine lv_aload_n hx hb dX6_lowEnd_40 rfl (lv_at hl 0 rfl) ?_
      refine lv_iload hx hb dX6_lowEnd_41 (lv_at hl 3 rfl) ?_
      refine zcalli hH (va_runV (As := [.int x5]) (rest := []) hF (kX6_rankOf l G M O x5 _ h) (cwV 1 hts gX6_lowEnd_X6_rankOf rfl rfl rfl ⟨rfl, zdX6_rankOf⟩ ⟨Nat.le_of_ble_eq_true rfl, Nat.le_of_ble_eq_true rfl⟩) (zpreV hSt hH 21 (by decide) rfl (zE_21 _ _ _) (q := (RX6, TX6, 31)) rfl [.int x5]) rfl rfl hl.1 rfl (lv_room (Nat.le_of_ble_eq_true rfl)) dX6_lowEnd_43 ⟨Nat.zero_le _, Nat.zero_le _⟩) (fun r43 M43 H locs h hH => ?_)
      refine lv_iload_n hx hb dX6_lowEnd_46 rfl (lv_at hl 1 rfl) ?_
      refine lv_icmp_ge (tgt := 54) hx hb dX6_lowEnd_47 (by decide) (fun q47 => ?_) (fun q47 => ?_)
      · have h := h.1 q47
        exact wX6_lowEnd_b54 hF hSt hret hag25 x3 x4 x5 M43 H locs ls hH (lv_sub hl [0, 1, 2, 3] rfl) h
      · have h := h.2 q47
        refine lv_iload hx hb dX6_lowEnd_50 (lv_at hl 3 rfl) ?_
        refine lv_istore (lv' := [(4, .int x5), (0, .ref (G.1 21)), (3, .int x3), (5, .int x5)]) hx hb dX6_lowEnd_52 hl (by decide) rfl (fun ls hl => ?_)
        exact wX6_lowEnd_b54 hF hSt hret hag25 x3 x5 x5 M43 H locs ls hH (lv_sub hl [1, 2, 0, 3] rfl) h
def pX6_lowEnd_L25 (post : Int32 → zM → Prop) (x3 : Int32) (x4 : Int32) (x5 : Int32) (M : zM) : Prop :=
  ∃ I : Nat → Int32 → Int32 → Int32 → zM → Prop, (∃ n, I n x3 x4 x5 M) ∧ ∀ n x3 x4 x5 M, I n x3 x4 x5 M → pX6_lowEnd_b25 post (fun x3 x4 x5 M => ∃ k, k < n ∧ I k x3 x4 x5 M) x3 x4 x5 M
set_option maxHeartbeats 4000000 in
theorem wX6_lowEnd_L25 {post : Int32 → zM → Prop}  (hF : CallFix p m c cX6_lowEnd 6 s args wsX6_lowEnd RX6) (hSt : zSt G s) (hret : zRi p l e ({ frames := 5, cells := 0, slots := 0, locals := 116 } : Room) s m args below meth c Q cX6_lowEnd G false O post) (x3 : Int32) (x4 : Int32) (x5 : Int32) (M : zM) (H : Heap) (locs : List Loc) (ls : Array Slot) (hH : zH G false s H locs M O) (hl : lv_has ls 6 [(0, .ref (G.1 21)), (3, .int x3), (4, .int x4), (5, .int x5)]) (h : pX6_lowEnd_L25 post x3 x4 x5 M) : W p l e ({ frames := 5, cells := 0, slots := 0, locals := 116 } : Room) s m args below meth c H locs 0 0 Q (F0 m 25 ls []) := by
  obtain ⟨I, ⟨n, hI⟩, hs⟩ := h
  have key : ∀ (n : Nat) (x3 : Int32) (x4 : Int32) (x5 : Int32) (M : zM) (H : Heap) (locs : List Loc) (ls : Array Slot), I n x3 x4 x5 M → zH G false s H locs M O → lv_has ls 6 [(0, .ref (G.1 21)), (3, .int x3), (4, .int x4), (5, .int x5)] → W p l e ({ frames := 5, cells := 0, slots := 0, locals := 116 } : Room) s m args below meth c H locs 0 0 Q (F0 m 25 ls []) := by
    intro n
    induction n using Nat.strongRecOn with
    | _ n ih =>
      intro x3 x4 x5 M H locs ls hI hH hl
      exact wX6_lowEnd_b25 hF hSt hret (fun x3 x4 x5 M H locs ls h hH hl => by obtain ⟨k, hk, hI⟩ := h; exact ih k hk x3 x4 x5 M H locs ls hI hH hl) x3 x4 x5 M H locs ls hH hl (hs n x3 x4 x5 M hI)
  exact key n x3 x4 x5 M H locs ls hI hH hl
def pX6_lowEnd (M : zM) (x1 : Int32) (x2 : Int32) (x3 : Int32) (post : Int32 → zM → Prop) : Prop :=
  pX6_work (zsi (zsi M 21 17 x1) 21 18 x2)  (fun M11 => pX6_lowEnd_L25 post x3 (-1 : Int32) ((M11.1 21 1) - (1 : Int32)) M11)
set_option maxHeartbeats 4000000 in
set_option maxRecDepth 100000 in
theorem wX6_lowEnd {M : zM} {post : Int32 → zM → Prop} (hF : CallFix p m c cX6_lowEnd 6 s args wsX6_lowEnd RX6) (hSt : zSt G s) (hret : zRi p l e ({ frames := 5, cells := 0, slots := 0, locals := 116 } : Room) s m args below meth c Q cX6_lowEnd G false O post) (x1 : Int32) (x2 : Int32) (x3 : Int32) (H : Heap) (locs : List Loc) (ls : Array Slot) (hH : zH G false s H locs M O) (hl : lv_has ls 6 [(0, .ref (G.1 21)), (1, .int x1), (2, .int x2), (3, .int x3)]) (h : pX6_lowEnd M x1 x2 x3 post) : W p l e ({ frames := 5, cells := 0, slots := 0, locals := 116 } : Room) s m args below meth c H locs 0 0 Q (F0 m 0 ls []) := by
  obtain ⟨hx, hb, hml, hown, hts⟩ := id hF
  unfold pX6_lowEnd at h
  refine lv_aload_n hx hb dX6_lowEnd_0 rfl (lv_at hl 0 rfl) ?_
  refine lv_iload_n hx hb dX6_lowEnd_1 rfl (lv_at hl 1 rfl) ?_
  refine zput hF hSt hH 21 (by decide) rfl (zE_21 _ _ _) (C := RX6) (T := TX6) (N := 31) rfl znX6_lowEnd_X6 tyX6 tyX6_ok nmX6 17 (by decide) (List.mem_of_getElem? (i := 1) rfl) rfl (by decide +kernel) (Nat.le_of_ble_eq_true rfl) (x := x1) rfl dX6_lowEnd_2 (fun H locs hH => ?_)
  refine lv_aload_n hx hb dX6_lowEnd_5 rfl (lv_at hl 0 rfl) ?_
  refine lv_iload_n hx hb dX6_lowEnd_6 rfl (lv_at hl 2 rfl) ?_
  refine zput hF hSt hH 21 (by decide) rfl (zE_21 _ _ _) (C := RX6) (T := TX6) (N := 31) rfl znX6_lowEnd_X6 tyX6 tyX6_ok nmX6 18 (by decide) (List.mem_of_getElem? (i := 2) rfl) rfl (by decide +kernel) (Nat.le_of_ble_eq_true rfl) (x := x2) rfl dX6_lowEnd_7 (fun H locs hH => ?_)
  refine lv_aload_n hx hb dX6_lowEnd_10 rfl (lv_at hl 0 rfl) ?_
  refine zcallv hH (va_runV (As := []) (rest := []) hF (kX6_work l G (zsi (zsi M 21 17 x1) 21 18 x2) O _ h) (cwV 0 hts gX6_lowEnd_X6_work rfl rfl rfl ⟨rfl, zdX6_work⟩ ⟨Nat.le_of_ble_eq_true rfl, Nat.le_of_ble_eq_true rfl⟩) (zpreV hSt hH 21 (by decide) rfl (zE_21 _ _ _) (q := (RX6, TX6, 31)) rfl []) rfl rfl hl.1 rfl (lv_room (Nat.le_of_ble_eq_true rfl)) dX6_lowEnd_11 ⟨Nat.zero_le _, Nat.zero_le _⟩) (fun M11 H locs h hH => ?_)
  refine lv_iconst (v := (-1 : Int32)) hx hb dX6_lowEnd_14 (by decide) ?_
  refine lv_istore (lv' := [(4, .int (-1 : Int32)), (0, .ref (G.1 21)), (1, .int x1), (2, .int x2), (3, .int x3)]) hx hb dX6_lowEnd_15 hl (by decide) rfl (fun ls hl => ?_)
  refine lv_aload_n hx hb dX6_lowEnd_17 rfl (lv_at hl 1 rfl) ?_
  refine zget (v := .int (M11.1 21 1)) hF hSt hH 21 (by decide) rfl (zE_21 _ _ _) (C := RX6) (T := TX6) (N := 31) rfl znX6_lowEnd_X6 1 (by decide) (List.mem_of_getElem? (i := 3) rfl) rfl dX6_lowEnd_18 ?_
  refine lv_iconst (v := (1 : Int32)) hx hb dX6_lowEnd_21 (by decide) ?_
  refine lv_isub hx hb dX6_lowEnd_22 ?_
  refine lv_istore (lv' := [(5, .int ((M11.1 21 1) - (1 : Int32))), (4, .int (-1 : Int32)), (0, .ref (G.1 21)), (1, .int x1), (2, .int x2), (3, .int x3)]) hx hb dX6_lowEnd_23 hl (by decide) rfl (fun ls hl => ?_)
  exact wX6_lowEnd_L25 hF hSt hret x3 (-1 : Int32) ((M11.1 21 1) - (1 : Int32)) M11 H locs ls hH (lv_sub hl [2, 5, 1, 0] rfl) h
set_option maxRecDepth 100000 in
theorem kX6_lowEnd (l : Launch) (G : zG) (M O : zM) (x1 : Int32) (x2 : Int32) (x3 : Int32) (post : Int32 → zM → Prop) (h : pX6_lowEnd M x1 x2 x3 post) : Met l yX6_lowEnd wsX6_lowEnd ({ frames := 5, cells := 0, slots := 0, locals := 116 } : Room) (zPc G false M O [.ref (G.1 21), .int x1, .int x2, .int x3]) (va_Qi post (zB G false O) (zAA G)) 0 0 (zAA G) :=
  zmet_i (by decide) rfl (Nat.le_of_ble_eq_true rfl) (fun hF hSt hret H locs ls hH hl => wX6_lowEnd hF hSt hret x1 x2 x3 H locs ls hH hl h)
end
theorem znX6_breaksAt_X6 : ∀ w ∈ wsX60, w ∈ wsX6_breaksAt := fun _ h => List.mem_cons_of_mem _ (List.mem_append_right _ h)
theorem zdX6_breaksAt : yX6_breaksAt.cls ≠ "java/lang/invoke/MethodHandle" ∧ yX6_breaksAt.cls ≠ "java/lang/invoke/VarHandle" ∧ (parseMethodDescriptor yX6_breaksAt.desc).map (fun d => d.parameters.length) = some 3 := by decide +kernel
-- MixingRelaysModel breaksAt(III)Z
section
variable {p : Program} {l : Launch} {e : Env} {s : State} {m : MethodId} {args : Array Value} {below : List Frame} {meth : Method} {c : Code} {Q : State → Prop} {G : zG} {O : zM}
def pX6_breaksAt_b34 (post : Int32 → zM → Prop) (t0 : Int32) (M : zM) : Prop :=
  (t0 = 0 ∨ t0 = 1) ∧ post t0 M
set_option maxHeartbeats 4000000 in
set_option maxRecDepth 100000 in
theorem wX6_breaksAt_b34 {post : Int32 → zM → Prop}  (hF : CallFix p m c cX6_breaksAt 4 s args wsX6_breaksAt RX6) (hSt : zSt G s) (hret : zRz p l e ({ frames := 6, cells := 0, slots := 0, locals := 141 } : Room) s m args below meth c Q cX6_breaksAt G false O post) (t0 : Int32) (M : zM) (H : Heap) (locs : List Loc) (ls : Array Slot) (hH : zH G false s H locs M O) (hl : lv_has ls 4 []) (h : pX6_breaksAt_b34 post t0 M) : W p l e ({ frames := 6, cells := 0, slots := 0, locals := 141 } : Room) s m args below meth c H locs 0 0 Q (F0 m 34 ls [.int t0]) := by
  obtain ⟨hx, hb, hml, hown, hts⟩ := id hF
  unfold pX6_breaksAt_b34 at h
  exact hret _ _ _ _ _ _ dX6_breaksAt_34 h hH
def pX6_breaksAt (M : zM) (x1 : Int32) (x2 : Int32) (x3 : Int32) (post : Int32 → zM → Prop) : Prop :=
  pX6_lowEnd (zsi (zsi M 21 28 x1) 21 29 x2) x1 x2 x3 (fun r15 M15 => (((zsi M15 21 30 r15).1 21 30) = (-1 : Int32) → pX6_breaksAt_b34 post (0 : Int32) (zsi M15 21 30 r15)) ∧ (¬ (((zsi M15 21 30 r15).1 21 30) = (-1 : Int32)) → pX6_breaksAt_b34 post (1 : Int32) (zsi M15 21 30 r15)))
set_option maxHeartbeats 4000000 in
set_option maxRecDepth 100000 in
theorem wX6_breaksAt {M : zM} {post : Int32 → zM → Prop} (hF : CallFix p m c cX6_breaksAt 4 s args wsX6_breaksAt RX6) (hSt : zSt G s) (hret : zRz p l e ({ frames := 6, cells := 0, slots := 0, locals := 141 } : Room) s m args below meth c Q cX6_breaksAt G false O post) (x1 : Int32) (x2 : Int32) (x3 : Int32) (H : Heap) (locs : List Loc) (ls : Array Slot) (hH : zH G false s H locs M O) (hl : lv_has ls 4 [(0, .ref (G.1 21)), (1, .int x1), (2, .int x2), (3, .int x3)]) (h : pX6_breaksAt M x1 x2 x3 post) : W p l e ({ frames := 6, cells := 0, slots := 0, locals := 141 } : Room) s m args below meth c H locs 0 0 Q (F0 m 0 ls []) := by
  obtain ⟨hx, hb, hml, hown, hts⟩ := id hF
  unfold pX6_breaksAt at h
  refine lv_aload_n hx hb dX6_breaksAt_0 rfl (lv_at hl 0 rfl) ?_
  refine lv_iload_n hx hb dX6_breaksAt_1 rfl (lv_at hl 1 rfl) ?_
  refine zput hF hSt hH 21 (by decide) rfl (zE_21 _ _ _) (C := RX6) (T := TX6) (N := 31) rfl znX6_breaksAt_X6 tyX6 tyX6_ok nmX6 28 (by decide) (List.mem_of_getElem? (i := 1) rfl) rfl (by decide +kernel) (Nat.le_of_ble_eq_true rfl) (x := x1) rfl dX6_breaksAt_2 (fun H locs hH => ?_)
  refine lv_aload_n hx hb dX6_breaksAt_5 rfl (lv_at hl 0 rfl) ?_
  refine lv_iload_n hx hb dX6_breaksAt_6 rfl (lv_at hl 2 rfl) ?_
  refine zput hF hSt hH 21 (by decide) rfl (zE_21 _ _ _) (C := RX6) (T := TX6) (N := 31) rfl znX6_breaksAt_X6 tyX6 tyX6_ok nmX6 29 (by decide) (List.mem_of_getElem? (i := 2) rfl) rfl (by decide +kernel) (Nat.le_of_ble_eq_true rfl) (x := x2) rfl dX6_breaksAt_7 (fun H locs hH => ?_)
  refine lv_aload_n hx hb dX6_breaksAt_10 rfl (lv_at hl 0 rfl) ?_
  refine lv_aload_n hx hb dX6_breaksAt_11 rfl (lv_at hl 0 rfl) ?_
  refine lv_iload_n hx hb dX6_breaksAt_12 rfl (lv_at hl 1 rfl) ?_
  refine lv_iload_n hx hb dX6_breaksAt_13 rfl (lv_at hl 2 rfl) ?_
  refine lv_iload_n hx hb dX6_breaksAt_14 rfl (lv_at hl 3 rfl) ?_
  refine zcalli hH (va_runV (As := [.int x1, .int x2, .int x3]) (rest := [.ref (G.1 21)]) hF (kX6_lowEnd l G (zsi (zsi M 21 28 x1) 21 29 x2) O x1 x2 x3 _ h) (cwV 3 hts gX6_breaksAt_X6_lowEnd rfl rfl rfl ⟨rfl, zdX6_lowEnd⟩ ⟨Nat.le_of_ble_eq_true rfl, Nat.le_of_ble_eq_true rfl⟩) (zpreV hSt hH 21 (by decide) rfl (zE_21 _ _ _) (q := (RX6, TX6, 31)) rfl [.int x1, .int x2, .int x3]) rfl rfl hl.1 rfl (lv_room (Nat.le_of_ble_eq_true rfl)) dX6_breaksAt_15 ⟨Nat.zero_le _, Nat.zero_le _⟩) (fun r15 M15 H locs h hH => ?_)
  refine zput hF hSt hH 21 (by decide) rfl (zE_21 _ _ _) (C := RX6) (T := TX6) (N := 31) rfl znX6_breaksAt_X6 tyX6 tyX6_ok nmX6 30 (by decide) (List.mem_of_getElem? (i := 3) rfl) rfl (by decide +kernel) (Nat.le_of_ble_eq_true rfl) (x := r15) rfl dX6_breaksAt_18 (fun H locs hH => ?_)
  refine lv_aload_n hx hb dX6_breaksAt_21 rfl (lv_at hl 0 rfl) ?_
  refine zget (v := .int ((zsi M15 21 30 r15).1 21 30)) hF hSt hH 21 (by decide) rfl (zE_21 _ _ _) (C := RX6) (T := TX6) (N := 31) rfl znX6_breaksAt_X6 30 (by decide) (List.mem_of_getElem? (i := 3) rfl) rfl dX6_breaksAt_22 ?_
  refine lv_iconst (v := (-1 : Int32)) hx hb dX6_breaksAt_25 (by decide) ?_
  refine lv_icmp_eq (tgt := 33) hx hb dX6_breaksAt_26 (by decide) (fun q26 => ?_) (fun q26 => ?_)
  · have h := h.1 q26
    refine lv_iconst (v := (0 : Int32)) hx hb dX6_breaksAt_33 (by decide) ?_
    exact wX6_breaksAt_b34 hF hSt hret (0 : Int32) (zsi M15 21 30 r15) H locs ls hH (lv_sub hl [] rfl) h
  · have h := h.2 q26
    refine lv_iconst (v := (1 : Int32)) hx hb dX6_breaksAt_29 (by decide) ?_
    refine lv_goto (tgt := 34) hx hb dX6_breaksAt_30 (by decide) ?_
    exact wX6_breaksAt_b34 hF hSt hret (1 : Int32) (zsi M15 21 30 r15) H locs ls hH (lv_sub hl [] rfl) h
set_option maxRecDepth 100000 in
theorem kX6_breaksAt (l : Launch) (G : zG) (M O : zM) (x1 : Int32) (x2 : Int32) (x3 : Int32) (post : Int32 → zM → Prop) (h : pX6_breaksAt M x1 x2 x3 post) : Met l yX6_breaksAt wsX6_breaksAt ({ frames := 6, cells := 0, slots := 0, locals := 141 } : Room) (zPc G false M O [.ref (G.1 21), .int x1, .int x2, .int x3]) (va_Qi post (zB G false O) (zAA G)) 0 0 (zAA G) :=
  zmet_z (by decide) rfl (Nat.le_of_ble_eq_true rfl) (fun hF hSt hret H locs ls hH hl => wX6_breaksAt hF hSt hret x1 x2 x3 H locs ls hH hl h)
end
theorem znX6_hasBreak_X6 : ∀ w ∈ wsX60, w ∈ wsX6_hasBreak := fun _ h => List.mem_cons_of_mem _ (List.mem_append_right _ h)
theorem zdX6_hasBreak : yX6_hasBreak.cls ≠ "java/lang/invoke/MethodHandle" ∧ yX6_hasBreak.cls ≠ "java/lang/invoke/VarHandle" ∧ (parseMethodDescriptor yX6_hasBreak.desc).map (fun d => d.parameters.length) = some 2 := by decide +kernel
-- MixingRelaysModel hasBreak(II)Z
section
variable {p : Program} {l : Launch} {e : Env} {s : State} {m : MethodId} {args : Array Value} {below : List Frame} {meth : Method} {c : Code} {Q : State → Prop} {G : zG} {O : zM}
def pX6_hasBreak_b126 (post : Int32 → zM → Prop) (M : zM) : Prop :=
  ((0 : Int32) = 0 ∨ (0 : Int32) = 1) ∧ post (0 : Int32) M
set_option maxHeartbeats 4000000 in
set_option maxRecDepth 100000 in
theorem wX6_hasBreak_b126 {post : Int32 → zM → Prop}  (hF : CallFix p m c cX6_hasBreak 5 s args wsX6_hasBreak RX6) (hSt : zSt G s) (hret : zRz p l e ({ frames := 7, cells := 0, slots := 0, locals := 164 } : Room) s m args below meth c Q cX6_hasBreak G false O post) (M : zM) (H : Heap) (locs : List Loc) (ls : Array Slot) (hH : zH G false s H locs M O) (hl : lv_has ls 5 []) (h : pX6_hasBreak_b126 post M) : W p l e ({ frames := 7, cells := 0, slots := 0, locals := 164 } : Room) s m args below meth c H locs 0 0 Q (F0 m 126 ls []) := by
  obtain ⟨hx, hb, hml, hown, hts⟩ := id hF
  unfold pX6_hasBreak_b126 at h
  refine lv_iconst (v := (0 : Int32)) hx hb dX6_hasBreak_126 (by decide) ?_
  exact hret _ _ _ _ _ _ dX6_hasBreak_127 h hH
def pX6_hasBreak_b120 (post : Int32 → zM → Prop) (ag55 : Int32 → Int32 → Int32 → zM → Prop) (x1 : Int32) (x2 : Int32) (x3 : Int32) (M : zM) : Prop :=
  ag55 x1 x2 (x3 + (1 : Int32)) M
set_option maxHeartbeats 4000000 in
set_option maxRecDepth 100000 in
theorem wX6_hasBreak_b120 {post : Int32 → zM → Prop} {ag55 : Int32 → Int32 → Int32 → zM → Prop} (hF : CallFix p m c cX6_hasBreak 5 s args wsX6_hasBreak RX6) (hSt : zSt G s) (hret : zRz p l e ({ frames := 7, cells := 0, slots := 0, locals := 164 } : Room) s m args below meth c Q cX6_hasBreak G false O post) (hag55 : ∀ (x1 : Int32) (x2 : Int32) (x3 : Int32) (M : zM) (H : Heap) (locs : List Loc) (ls : Array Slot), ag55 x1 x2 x3 M → zH G false s H locs M O → lv_has ls 5 [(0, .ref (G.1 21)), (1, .int x1), (2, .int x2), (3, .int x3)] → W p l e ({ frames := 7, cells := 0, slots := 0, locals := 164 } : Room) s m args below meth c H locs 0 0 Q (F0 m 55 ls [])) (x1 : Int32) (x2 : Int32) (x3 : Int32) (M : zM) (H : Heap) (locs : List Loc) (ls : Array Slot) (hH : zH G false s H locs M O) (hl : lv_has ls 5 [(0, .ref (G.1 21)), (1, .int x1), (2, .int x2), (3, .int x3)]) (h : pX6_hasBreak_b120 post ag55 x1 x2 x3 M) : W p l e ({ frames := 7, cells := 0, slots := 0, locals := 164 } : Room) s m args below meth c H locs 0 0 Q (F0 m 120 ls []) := by
  obtain ⟨hx, hb, hml, hown, hts⟩ := id hF
  unfold pX6_hasBreak_b120 at h
  refine lv_iinc (v := (x3 + (1 : Int32))) (lv' := [(3, .int (x3 + (1 : Int32))), (0, .ref (G.1 21)), (1, .int x1), (2, .int x2)]) hx hb dX6_hasBreak_120 hl (k := 3) rfl rfl (by decide) rfl (fun ls hl => ?_)
  refine lv_goto (tgt := 55) hx hb dX6_hasBreak_123 (by decide) ?_
  exact hag55 x1 x2 (x3 + (1 : Int32)) M H locs ls h hH (lv_sub hl [1, 2, 3, 0] rfl)
def pX6_hasBreak_b114 (post : Int32 → zM → Prop) (ag55 : Int32 → Int32 → Int32 → zM → Prop) (ag73 : Int32 → Int32 → Int32 → Int32 → zM → Prop) (x1 : Int32) (x2 : Int32) (x3 : Int32) (x4 : Int32) (M : zM) : Prop :=
  ag73 x1 x2 x3 (x4 + (1 : Int32)) M
set_option maxHeartbeats 4000000 in
set_option maxRecDepth 100000 in
theorem wX6_hasBreak_b114 {post : Int32 → zM → Prop} {ag55 : Int32 → Int32 → Int32 → zM → Prop} {ag73 : Int32 → Int32 → Int32 → Int32 → zM → Prop} (hF : CallFix p m c cX6_hasBreak 5 s args wsX6_hasBreak RX6) (hSt : zSt G s) (hret : zRz p l e ({ frames := 7, cells := 0, slots := 0, locals := 164 } : Room) s m args below meth c Q cX6_hasBreak G false O post) (hag55 : ∀ (x1 : Int32) (x2 : Int32) (x3 : Int32) (M : zM) (H : Heap) (locs : List Loc) (ls : Array Slot), ag55 x1 x2 x3 M → zH G false s H locs M O → lv_has ls 5 [(0, .ref (G.1 21)), (1, .int x1), (2, .int x2), (3, .int x3)] → W p l e ({ frames := 7, cells := 0, slots := 0, locals := 164 } : Room) s m args below meth c H locs 0 0 Q (F0 m 55 ls [])) (hag73 : ∀ (x1 : Int32) (x2 : Int32) (x3 : Int32) (x4 : Int32) (M : zM) (H : Heap) (locs : List Loc) (ls : Array Slot), ag73 x1 x2 x3 x4 M → zH G false s H locs M O → lv_has ls 5 [(0, .ref (G.1 21)), (1, .int x1), (2, .int x2), (3, .int x3), (4, .int x4)] → W p l e ({ frames := 7, cells := 0, slots := 0, locals := 164 } : Room) s m args below meth c H locs 0 0 Q (F0 m 73 ls [])) (x1 : Int32) (x2 : Int32) (x3 : Int32) (x4 : Int32) (M : zM) (H : Heap) (locs : List Loc) (ls : Array Slot) (hH : zH G false s H locs M O) (hl : lv_has ls 5 [(0, .ref (G.1 21)), (1, .int x1), (2, .int x2), (3, .int x3), (4, .int x4)]) (h : pX6_hasBreak_b114 post ag55 ag73 x1 x2 x3 x4 M) : W p l e ({ frames := 7, cells := 0, slots := 0, locals := 164 } : Room) s m args below meth c H locs 0 0 Q (F0 m 114 ls []) := by
  obtain ⟨hx, hb, hml, hown, hts⟩ := id hF
  unfold pX6_hasBreak_b114 at h
  refine lv_iinc (v := (x4 + (1 : Int32))) (lv' := [(4, .int (x4 + (1 : Int32))), (0, .ref (G.1 21)), (1, .int x1), (2, .int x2), (3, .int x3)]) hx hb dX6_hasBreak_114 hl (k := 4) rfl rfl (by decide) rfl (fun ls hl => ?_)
  refine lv_goto (tgt := 73) hx hb dX6_hasBreak_117 (by decide) ?_
  exact hag73 x1 x2 x3 (x4 + (1 : Int32)) M H locs ls h hH (lv_sub hl [1, 2, 3, 4, 0] rfl)
def pX6_hasBreak_b73 (post : Int32 → zM → Prop) (ag55 : Int32 → Int32 → Int32 → zM → Prop) (ag73 : Int32 → Int32 → Int32 → Int32 → zM → Prop) (x1 : Int32) (x2 : Int32) (x3 : Int32) (x4 : Int32) (M : zM) : Prop :=
  ((M.1 21 2) ≤ x4 → pX6_hasBreak_b120 post ag55 x1 x2 x3 M) ∧ (¬ ((M.1 21 2) ≤ x4) → vp_in x3 30 ∧ (¬ ((M.1 27 x3.toNatClampNeg) = 0) → pX6_hasBreak_b120 post ag55 x1 x2 x3 M) ∧ ((M.1 27 x3.toNatClampNeg) = 0 → vp_in x4 30 ∧ (¬ ((M.1 27 x4.toNatClampNeg) = 0) → pX6_hasBreak_b114 post ag55 ag73 x1 x2 x3 x4 M) ∧ ((M.1 27 x4.toNatClampNeg) = 0 → pX6_breaksAt M x3 x4 x2 (fun r106 M106 => (r106 = 0 → pX6_hasBreak_b114 post ag55 ag73 x1 x2 x3 x4 M106) ∧ (¬ (r106 = 0) → ((1 : Int32) = 0 ∨ (1 : Int32) = 1) ∧ post (1 : Int32) M106)))))
set_option maxHeartbeats 4000000 in
set_option maxRecDepth 100000 in
theorem wX6_hasBreak_b73 {post : Int32 → zM → Prop} {ag55 : Int32 → Int32 → Int32 → zM → Prop} {ag73 : Int32 → Int32 → Int32 → Int32 → zM → Prop} (hF : CallFix p m c cX6_hasBreak 5 s args wsX6_hasBreak RX6) (hSt : zSt G s) (hret : zRz p l e ({ frames := 7, cells := 0, slots := 0, locals := 164 } : Room) s m args below meth c Q cX6_hasBreak G false O post) (hag55 : ∀ (x1 : Int32) (x2 : Int32) (x3 : Int32) (M : zM) (H : Heap) (locs : List Loc) (ls : Array Slot), ag55 x1 x2 x3 M → zH G false s H locs M O → lv_has ls 5 [(0, .ref (G.1 21)), (1, .int x1), (2, .int x2), (3, .int x3)] → W p l e ({ frames := 7, cells := 0, slots := 0, locals := 164 } : Room) s m args below meth c H locs 0 0 Q (F0 m 55 ls [])) (hag73 : ∀ (x1 : Int32) (x2 : Int32) (x3 : Int32) (x4 : Int32) (M : zM) (H : Heap) (locs : List Loc) (ls : Array Slot), ag73 x1 x2 x3 x4 M → zH G false s H locs M O → lv_has ls 5 [(0, .ref (G.1 21)), (1, .int x1), (2, .int x2), (3, .int x3), (4, .int x4)] → W p l e ({ frames := 7, cells := 0, slots := 0, locals := 164 } : Room) s m args below meth c H locs 0 0 Q (F0 m 73 ls [])) (x1 : Int32) (x2 : Int32) (x3 : Int32) (x4 : Int32) (M : zM) (H : Heap) (locs : List Loc) (ls : Array Slot) (hH : zH G false s H locs M O) (hl : lv_has ls 5 [(0, .ref (G.1 21)), (1, .int x1), (2, .int x2), (3, .int x3), (4, .int x4)]) (h : pX6_hasBreak_b73 post ag55 ag73 x1 x2 x3 x4 M) : W p l e ({ frames := 7, cells := 0, slots := 0, locals := 164 } : Room) s m args below meth c H locs 0 0 Q (F0 m 73 ls []) := by
  obtain ⟨hx, hb, hml, hown, hts⟩ := id hF
  unfold pX6_hasBreak_b73 at h
  refine lv_iload hx hb dX6_hasBreak_73 (lv_at hl 4 rfl) ?_
  refine lv_aload_n hx hb dX6_hasBreak_75 rfl (lv_at hl 0 rfl) ?_
  refine zget (v := .int (M.1 21 2)) hF hSt hH 21 (by decide) rfl (zE_21 _ _ _) (C := RX6) (T := TX6) (N := 31) rfl znX6_hasBreak_X6 2 (by decide) (List.mem_of_getElem? (i := 1) rfl) rfl dX6_hasBreak_76 ?_
  refine lv_icmp_ge (tgt := 120) hx hb dX6_hasBreak_79 (by decide) (fun q79 => ?_) (fun q79 => ?_)
  · have h := h.1 q79
    exact wX6_hasBreak_b120 hF hSt hret hag55 x1 x2 x3 M H locs ls hH (lv_sub hl [0, 1, 2, 3] rfl) h
  · have h := h.2 q79
    refine lv_aload_n hx hb dX6_hasBreak_82 rfl (lv_at hl 0 rfl) ?_
    refine zget (v := .ref (G.1 27)) hF hSt hH 21 (by decide) rfl (zE_21 _ _ _) (C := RX6) (T := TX6) (N := 31) rfl znX6_hasBreak_X6 9 (by decide) (List.mem_of_getElem? (i := 2) rfl) rfl dX6_hasBreak_83 ?_
    refine lv_iload_n hx hb dX6_hasBreak_86 rfl (lv_at hl 3 rfl) ?_
    obtain ⟨q87, h⟩ := h
    refine zzald hF hSt hH 27 (by decide) rfl (zE_27 _ _ _) q87 dX6_hasBreak_87 ?_
    refine lv_if_ne (tgt := 120) hx hb dX6_hasBreak_88 (by decide) (fun q88 => ?_) (fun q88 => ?_)
    · have h := h.1 q88
      exact wX6_hasBreak_b120 hF hSt hret hag55 x1 x2 x3 M H locs ls hH (lv_sub hl [0, 1, 2, 3] rfl) h
    · have h := h.2 q88
      refine lv_aload_n hx hb dX6_hasBreak_91 rfl (lv_at hl 0 rfl) ?_
      refine zget (v := .ref (G.1 27)) hF hSt hH 21 (by decide) rfl (zE_21 _ _ _) (C := RX6) (T := TX6) (N := 31) rfl znX6_hasBreak_X6 9 (by decide) (List.mem_of_getElem? (i := 2) rfl) rfl dX6_hasBreak_92 ?_
      refine lv_iload hx hb dX6_hasBreak_95 (lv_at hl 4 rfl) ?_
      obtain ⟨q97, h⟩ := h
      refine zzald hF hSt hH 27 (by decide) rfl (zE_27 _ _ _) q97 dX6_hasBreak_97 ?_
      refine lv_if_ne (tgt := 114) hx hb dX6_hasBreak_98 (by decide) (fun q98 => ?_) (fun q98 => ?_)
      · have h := h.1 q98
        exact wX6_hasBreak_b114 hF hSt hret hag55 hag73 x1 x2 x3 x4 M H locs ls hH (lv_sub hl [0, 1, 2, 3, 4] rfl) h
      · have h := h.2 q98
        refine lv_aload_n hx hb dX6_hasBreak_101 rfl (lv_at hl 0 rfl) ?_
        refine lv_iload_n hx hb dX6_hasBreak_102 rfl (lv_at hl 3 rfl) ?_
        refine lv_iload hx hb dX6_hasBreak_103 (lv_at hl 4 rfl) ?_
        refine lv_iload_n hx hb dX6_hasBreak_105 rfl (lv_at hl 2 rfl) ?_
        refine zcalli hH (va_runV (As := [.int x3, .int x4, .int x2]) (rest := []) hF (kX6_breaksAt l G M O x3 x4 x2 _ h) (cwV 3 hts gX6_hasBreak_X6_breaksAt rfl rfl rfl ⟨rfl, zdX6_breaksAt⟩ ⟨Nat.le_of_ble_eq_true rfl, Nat.le_of_ble_eq_true rfl⟩) (zpreV hSt hH 21 (by decide) rfl (zE_21 _ _ _) (q := (RX6, TX6, 31)) rfl [.int x3, .int x4, .int x2]) rfl rfl hl.1 rfl (lv_room (Nat.le_of_ble_eq_true rfl)) dX6_hasBreak_106 ⟨Nat.zero_le _, Nat.zero_le _⟩) (fun r106 M106 H locs h hH => ?_)
        refine lv_if_eq (tgt := 114) hx hb dX6_hasBreak_109 (by decide) (fun q109 => ?_) (fun q109 => ?_)
        · have h := h.1 q109
          exact wX6_hasBreak_b114 hF hSt hret hag55 hag73 x1 x2 x3 x4 M106 H locs ls hH (lv_sub hl [0, 1, 2, 3, 4] rfl) h
        · have h := h.2 q109
          refine lv_iconst (v := (1 : Int32)) hx hb dX6_hasBreak_112 (by decide) ?_
          exact hret _ _ _ _ _ _ dX6_hasBreak_113 h hH
def pX6_hasBreak_L73 (post : Int32 → zM → Prop) (ag55 : Int32 → Int32 → Int32 → zM → Prop) (x1 : Int32) (x2 : Int32) (x3 : Int32) (x4 : Int32) (M : zM) : Prop :=
  ∃ I : Nat → Int32 → Int32 → Int32 → Int32 → zM → Prop, (∃ n, I n x1 x2 x3 x4 M) ∧ ∀ n x1 x2 x3 x4 M, I n x1 x2 x3 x4 M → pX6_hasBreak_b73 post ag55 (fun x1 x2 x3 x4 M => ∃ k, k < n ∧ I k x1 x2 x3 x4 M) x1 x2 x3 x4 M
set_option maxHeartbeats 4000000 in
theorem wX6_hasBreak_L73 {post : Int32 → zM → Prop} {ag55 : Int32 → Int32 → Int32 → zM → Prop} (hF : CallFix p m c cX6_hasBreak 5 s args wsX6_hasBreak RX6) (hSt : zSt G s) (hret : zRz p l e ({ frames := 7, cells := 0, slots := 0, locals := 164 } : Room) s m args below meth c Q cX6_hasBreak G false O post) (hag55 : ∀ (x1 : Int32) (x2 : Int32) (x3 : Int32) (M : zM) (H : Heap) (locs : List Loc) (ls : Array Slot), ag55 x1 x2 x3 M → zH G false s H locs M O → lv_has ls 5 [(0, .ref (G.1 21)), (1, .int x1), (2, .int x2), (3, .int x3)] → W p l e ({ frames := 7, cells := 0, slots := 0, locals := 164 } : Room) s m args below meth c H locs 0 0 Q (F0 m 55 ls [])) (x1 : Int32) (x2 : Int32) (x3 : Int32) (x4 : Int32) (M : zM) (H : Heap) (locs : List Loc) (ls : Array Slot) (hH : zH G false s H locs M O) (hl : lv_has ls 5 [(0, .ref (G.1 21)), (1, .int x1), (2, .int x2), (3, .int x3), (4, .int x4)]) (h : pX6_hasBreak_L73 post ag55 x1 x2 x3 x4 M) : W p l e ({ frames := 7, cells := 0, slots := 0, locals := 164 } : Room) s m args below meth c H locs 0 0 Q (F0 m 73 ls []) := by
  obtain ⟨I, ⟨n, hI⟩, hs⟩ := h
  have key : ∀ (n : Nat) (x1 : Int32) (x2 : Int32) (x3 : Int32) (x4 : Int32) (M : zM) (H : Heap) (locs : List Loc) (ls : Array Slot), I n x1 x2 x3 x4 M → zH G false s H locs M O → lv_has ls 5 [(0, .ref (G.1 21)), (1, .int x1), (2, .int x2), (3, .int x3), (4, .int x4)] → W p l e ({ frames := 7, cells := 0, slots := 0, locals := 164 } : Room) s m args below meth c H locs 0 0 Q (F0 m 73 ls []) := by
    intro n
    induction n using Nat.strongRecOn with
    | _ n ih =>
      intro x1 x2 x3 x4 M H locs ls hI hH hl
      exact wX6_hasBreak_b73 hF hSt hret hag55 (fun x1 x2 x3 x4 M H locs ls h hH hl => by obtain ⟨k, hk, hI⟩ := h; exact ih k hk x1 x2 x3 x4 M H locs ls hI hH hl) x1 x2 x3 x4 M H locs ls hH hl (hs n x1 x2 x3 x4 M hI)
  exact key n x1 x2 x3 x4 M H locs ls hI hH hl
def pX6_hasBreak_b55 (post : Int32 → zM → Prop) (ag55 : Int32 → Int32 → Int32 → zM → Prop) (x1 : Int32) (x2 : Int32) (x3 : Int32) (M : zM) : Prop :=
  ((M.1 21 2) ≤ x3 → pX6_hasBreak_b126 post M) ∧ (¬ ((M.1 21 2) ≤ x3) → (x1 ≤ (1 : Int32) → pX6_hasBreak_b126 post M) ∧ (¬ (x1 ≤ (1 : Int32)) → pX6_hasBreak_L73 post ag55 x1 x2 x3 (x3 + (1 : Int32)) M))
set_option maxHeartbeats 4000000 in
set_option maxRecDepth 100000 in
theorem wX6_hasBreak_b55 {post : Int32 → zM → Prop} {ag55 : Int32 → Int32 → Int32 → zM → Prop} (hF : CallFix p m c cX6_hasBreak 5 s args wsX6_hasBreak RX6) (hSt : zSt G s) (hret : zRz p l e ({ frames := 7, cells := 0, slots := 0, locals := 164 } : Room) s m args below meth c Q cX6_hasBreak G false O post) (hag55 : ∀ (x1 : Int32) (x2 : Int32) (x3 : Int32) (M : zM) (H : Heap) (locs : List Loc) (ls : Array Slot), ag55 x1 x2 x3 M → zH G false s H locs M O → lv_has ls 5 [(0, .ref (G.1 21)), (1, .int x1), (2, .int x2), (3, .int x3)] → W p l e ({ frames := 7, cells := 0, slots := 0, locals := 164 } : Room) s m args below meth c H locs 0 0 Q (F0 m 55 ls [])) (x1 : Int32) (x2 : Int32) (x3 : Int32) (M : zM) (H : Heap) (locs : List Loc) (ls : Array Slot) (hH : zH G false s H locs M O) (hl : lv_has ls 5 [(0, .ref (G.1 21)), (1, .int x1), (2, .int x2), (3, .int x3)]) (h : pX6_hasBreak_b55 post ag55 x1 x2 x3 M) : W p l e ({ frames := 7, cells := 0, slots := 0, locals := 164 } : Room) s m args below meth c H locs 0 0 Q (F0 m 55 ls []) := by
  obtain ⟨hx, hb, hml, hown, hts⟩ := id hF
  unfold pX6_hasBreak_b55 at h
  refine lv_iload_n hx hb dX6_hasBreak_55 rfl (lv_at hl 3 rfl) ?_
  refine lv_aload_n hx hb dX6_hasBreak_56 rfl (lv_at hl 0 rfl) ?_
  refine zget (v := .int (M.1 21 2)) hF hSt hH 21 (by decide) rfl (zE_21 _ _ _) (C := RX6) (T := TX6) (N := 31) rfl znX6_hasBreak_X6 2 (by decide) (List.mem_of_getElem? (i := 1) rfl) rfl dX6_hasBreak_57 ?_
  refine lv_icmp_ge (tgt := 126) hx hb dX6_hasBreak_60 (by decide) (fun q60 => ?_) (fun q60 => ?_)
  · have h := h.1 q60
    exact wX6_hasBreak_b126 hF hSt hret M H locs ls hH (lv_sub hl [] rfl) h
  · have h := h.2 q60
    refine lv_iload_n hx hb dX6_hasBreak_63 rfl (lv_at hl 1 rfl) ?_
    refine lv_iconst (v := (1 : Int32)) hx hb dX6_hasBreak_64 (by decide) ?_
    refine lv_icmp_le (tgt := 126) hx hb dX6_hasBreak_65 (by decide) (fun q65 => ?_) (fun q65 => ?_)
    · have h := h.1 q65
      exact wX6_hasBreak_b126 hF hSt hret M H locs ls hH (lv_sub hl [] rfl) h
    · have h := h.2 q65
      refine lv_iload_n hx hb dX6_hasBreak_68 rfl (lv_at hl 3 rfl) ?_
      refine lv_iconst (v := (1 : Int32)) hx hb dX6_hasBreak_69 (by decide) ?_
      refine lv_iadd hx hb dX6_hasBreak_70 ?_
      refine lv_istore (lv' := [(4, .int (x3 + (1 : Int32))), (0, .ref (G.1 21)), (1, .int x1), (2, .int x2), (3, .int x3)]) hx hb dX6_hasBreak_71 hl (by decide) rfl (fun ls hl => ?_)
      exact wX6_hasBreak_L73 hF hSt hret hag55 x1 x2 x3 (x3 + (1 : Int32)) M H locs ls hH (lv_sub hl [1, 2, 3, 4, 0] rfl) h
def pX6_hasBreak_L55 (post : Int32 → zM → Prop) (x1 : Int32) (x2 : Int32) (x3 : Int32) (M : zM) : Prop :=
  ∃ I : Nat → Int32 → Int32 → Int32 → zM → Prop, (∃ n, I n x1 x2 x3 M) ∧ ∀ n x1 x2 x3 M, I n x1 x2 x3 M → pX6_hasBreak_b55 post (fun x1 x2 x3 M => ∃ k, k < n ∧ I k x1 x2 x3 M) x1 x2 x3 M
set_option maxHeartbeats 4000000 in
theorem wX6_hasBreak_L55 {post : Int32 → zM → Prop}  (hF : CallFix p m c cX6_hasBreak 5 s args wsX6_hasBreak RX6) (hSt : zSt G s) (hret : zRz p l e ({ frames := 7, cells := 0, slots := 0, locals := 164 } : Room) s m args below meth c Q cX6_hasBreak G false O post) (x1 : Int32) (x2 : Int32) (x3 : Int32) (M : zM) (H : Heap) (locs : List Loc) (ls : Array Slot) (hH : zH G false s H locs M O) (hl : lv_has ls 5 [(0, .ref (G.1 21)), (1, .int x1), (2, .int x2), (3, .int x3)]) (h : pX6_hasBreak_L55 post x1 x2 x3 M) : W p l e ({ frames := 7, cells := 0, slots := 0, locals := 164 } : Room) s m args below meth c H locs 0 0 Q (F0 m 55 ls []) := by
  obtain ⟨I, ⟨n, hI⟩, hs⟩ := h
  have key : ∀ (n : Nat) (x1 : Int32) (x2 : Int32) (x3 : Int32) (M : zM) (H : Heap) (locs : List Loc) (ls : Array Slot), I n x1 x2 x3 M → zH G false s H locs M O → lv_has ls 5 [(0, .ref (G.1 21)), (1, .int x1), (2, .int x2), (3, .int x3)] → W p l e ({ frames := 7, cells := 0, slots := 0, locals := 164 } : Room) s m args below meth c H locs 0 0 Q (F0 m 55 ls []) := by
    intro n
    induction n using Nat.strongRecOn with
    | _ n ih =>
      intro x1 x2 x3 M H locs ls hI hH hl
      exact wX6_hasBreak_b55 hF hSt hret (fun x1 x2 x3 M H locs ls h hH hl => by obtain ⟨k, hk, hI⟩ := h; exact ih k hk x1 x2 x3 M H locs ls hI hH hl) x1 x2 x3 M H locs ls hH hl (hs n x1 x2 x3 M hI)
  exact key n x1 x2 x3 M H locs ls hI hH hl
def pX6_hasBreak_b53 (post : Int32 → zM → Prop) (x1 : Int32) (x2 : Int32) (M : zM) : Prop :=
  pX6_hasBreak_L55 post x1 x2 (0 : Int32) M
set_option maxHeartbeats 4000000 in
set_option maxRecDepth 100000 in
theorem wX6_hasBreak_b53 {post : Int32 → zM → Prop}  (hF : CallFix p m c cX6_hasBreak 5 s args wsX6_hasBreak RX6) (hSt : zSt G s) (hret : zRz p l e ({ frames := 7, cells := 0, slots := 0, locals := 164 } : Room) s m args below meth c Q cX6_hasBreak G false O post) (x1 : Int32) (x2 : Int32) (M : zM) (H : Heap) (locs : List Loc) (ls : Array Slot) (hH : zH G false s H locs M O) (hl : lv_has ls 5 [(0, .ref (G.1 21)), (1, .int x1), (2, .int x2)]) (h : pX6_hasBreak_b53 post x1 x2 M) : W p l e ({ frames := 7, cells := 0, slots := 0, locals := 164 } : Room) s m args below meth c H locs 0 0 Q (F0 m 53 ls []) := by
  obtain ⟨hx, hb, hml, hown, hts⟩ := id hF
  unfold pX6_hasBreak_b53 at h
  refine lv_iconst (v := (0 : Int32)) hx hb dX6_hasBreak_53 (by decide) ?_
  refine lv_istore_n (lv' := [(3, .int (0 : Int32)), (0, .ref (G.1 21)), (1, .int x1), (2, .int x2)]) hx hb dX6_hasBreak_54 rfl hl (by decide) rfl (fun ls hl => ?_)
  exact wX6_hasBreak_L55 hF hSt hret x1 x2 (0 : Int32) M H locs ls hH (lv_sub hl [1, 2, 3, 0] rfl) h
def pX6_hasBreak_b47 (post : Int32 → zM → Prop) (ag14 : Int32 → Int32 → Int32 → zM → Prop) (x1 : Int32) (x2 : Int32) (x3 : Int32) (M : zM) : Prop :=
  ag14 x1 x2 (x3 + (1 : Int32)) M
set_option maxHeartbeats 4000000 in
set_option maxRecDepth 100000 in
theorem wX6_hasBreak_b47 {post : Int32 → zM → Prop} {ag14 : Int32 → Int32 → Int32 → zM → Prop} (hF : CallFix p m c cX6_hasBreak 5 s args wsX6_hasBreak RX6) (hSt : zSt G s) (hret : zRz p l e ({ frames := 7, cells := 0, slots := 0, locals := 164 } : Room) s m args below meth c Q cX6_hasBreak G false O post) (hag14 : ∀ (x1 : Int32) (x2 : Int32) (x3 : Int32) (M : zM) (H : Heap) (locs : List Loc) (ls : Array Slot), ag14 x1 x2 x3 M → zH G false s H locs M O → lv_has ls 5 [(0, .ref (G.1 21)), (1, .int x1), (2, .int x2), (3, .int x3)] → W p l e ({ frames := 7, cells := 0, slots := 0, locals := 164 } : Room) s m args below meth c H locs 0 0 Q (F0 m 14 ls [])) (x1 : Int32) (x2 : Int32) (x3 : Int32) (M : zM) (H : Heap) (locs : List Loc) (ls : Array Slot) (hH : zH G false s H locs M O) (hl : lv_has ls 5 [(0, .ref (G.1 21)), (1, .int x1), (2, .int x2), (3, .int x3)]) (h : pX6_hasBreak_b47 post ag14 x1 x2 x3 M) : W p l e ({ frames := 7, cells := 0, slots := 0, locals := 164 } : Room) s m args below meth c H locs 0 0 Q (F0 m 47 ls []) := by
  obtain ⟨hx, hb, hml, hown, hts⟩ := id hF
  unfold pX6_hasBreak_b47 at h
  refine lv_iinc (v := (x3 + (1 : Int32))) (lv' := [(3, .int (x3 + (1 : Int32))), (0, .ref (G.1 21)), (1, .int x1), (2, .int x2)]) hx hb dX6_hasBreak_47 hl (k := 3) rfl rfl (by decide) rfl (fun ls hl => ?_)
  refine lv_goto (tgt := 14) hx hb dX6_hasBreak_50 (by decide) ?_
  exact hag14 x1 x2 (x3 + (1 : Int32)) M H locs ls h hH (lv_sub hl [1, 2, 3, 0] rfl)
def pX6_hasBreak_b14 (post : Int32 → zM → Prop) (ag14 : Int32 → Int32 → Int32 → zM → Prop) (x1 : Int32) (x2 : Int32) (x3 : Int32) (M : zM) : Prop :=
  ((M.1 21 2) ≤ x3 → pX6_hasBreak_b53 post x1 x2 M) ∧ (¬ ((M.1 21 2) ≤ x3) → (x1 ≤ 0 → pX6_hasBreak_b53 post x1 x2 M) ∧ (¬ (x1 ≤ 0) → vp_in x3 30 ∧ (¬ ((M.1 27 x3.toNatClampNeg) = 0) → pX6_hasBreak_b47 post ag14 x1 x2 x3 M) ∧ ((M.1 27 x3.toNatClampNeg) = 0 → pX6_breaksAt M x3 (-1 : Int32) x2 (fun r39 M39 => (r39 = 0 → pX6_hasBreak_b47 post ag14 x1 x2 x3 M39) ∧ (¬ (r39 = 0) → ((1 : Int32) = 0 ∨ (1 : Int32) = 1) ∧ post (1 : Int32) M39)))))
set_option maxHeartbeats 4000000 in
set_option maxRecDepth 100000 in
theorem wX6_hasBreak_b14 {post : Int32 → zM → Prop} {ag14 : Int32 → Int32 → Int32 → zM → Prop} (hF : CallFix p m c cX6_hasBreak 5 s args wsX6_hasBreak RX6) (hSt : zSt G s) (hret : zRz p l e ({ frames := 7, cells := 0, slots := 0, locals := 164 } : Room) s m args below meth c Q cX6_hasBreak G false O post) (hag14 : ∀ (x1 : Int32) (x2 : Int32) (x3 : Int32) (M : zM) (H : Heap) (locs : List Loc) (ls : Array Slot), ag14 x1 x2 x3 M → zH G false s H locs M O → lv_has ls 5 [(0, .ref (G.1 21)), (1, .int x1), (2, .int x2), (3, .int x3)] → W p l e ({ frames := 7, cells := 0, slots := 0, locals := 164 } : Room) s m args below meth c H locs 0 0 Q (F0 m 14 ls [])) (x1 : Int32) (x2 : Int32) (x3 : Int32) (M : zM) (H : Heap) (locs : List Loc) (ls : Array Slot) (hH : zH G false s H locs M O) (hl : lv_has ls 5 [(0, .ref (G.1 21)), (1, .int x1), (2, .int x2), (3, .int x3)]) (h : pX6_hasBreak_b14 post ag14 x1 x2 x3 M) : W p l e ({ frames := 7, cells := 0, slots := 0, locals := 164 } : Room) s m args below meth c H locs 0 0 Q (F0 m 14 ls []) := by
  obtain ⟨hx, hb, hml, hown, hts⟩ := id hF
  unfold pX6_hasBreak_b14 at h
  refine lv_iload_n hx hb dX6_hasBreak_14 rfl (lv_at hl 3 rfl) ?_
  refine lv_aload_n hx hb dX6_hasBreak_15 rfl (lv_at hl 0 rfl) ?_
  refine zget (v := .int (M.1 21 2)) hF hSt hH 21 (by decide) rfl (zE_21 _ _ _) (C := RX6) (T := TX6) (N := 31) rfl znX6_hasBreak_X6 2 (by decide) (List.mem_of_getElem? (i := 1) rfl) rfl dX6_hasBreak_16 ?_
  refine lv_icmp_ge (tgt := 53) hx hb dX6_hasBreak_19 (by decide) (fun q19 => ?_) (fun q19 => ?_)
  · have h := h.1 q19
    exact wX6_hasBreak_b53 hF hSt hret x1 x2 M H locs ls hH (lv_sub hl [0, 1, 2] rfl) h
  · have h := h.2 q19
    refine lv_iload_n hx hb dX6_hasBreak_22 rfl (lv_at hl 1 rfl) ?_
    refine lv_if_le (tgt := 53) hx hb dX6_hasBreak_23 (by decide) (fun q23 => ?_) (fun q23 => ?_)
    · have h := h.1 q23
      exact wX6_hasBreak_b53 hF hSt hret x1 x2 M H locs ls hH (lv_sub hl [0, 1, 2] rfl) h
    · have h := h.2 q23
      refine lv_aload_n hx hb dX6_hasBreak_26 rfl (lv_at hl 0 rfl) ?_
      refine zget (v := .ref (G.1 27)) hF hSt hH 21 (by decide) rfl (zE_21 _ _ _) (C := RX6) (T := TX6) (N := 31) rfl znX6_hasBreak_X6 9 (by decide) (List.mem_of_getElem? (i := 2) rfl) rfl dX6_hasBreak_27 ?_
      refine lv_iload_n hx hb dX6_hasBreak_30 rfl (lv_at hl 3 rfl) ?_
      obtain ⟨q31, h⟩ := h
      refine zzald hF hSt hH 27 (by decide) rfl (zE_27 _ _ _) q31 dX6_hasBreak_31 ?_
      refine lv_if_ne (tgt := 47) hx hb dX6_hasBreak_32 (by decide) (fun q32 => ?_) (fun q32 => ?_)
      · have h := h.1 q32
        exact wX6_hasBreak_b47 hF hSt hret hag14 x1 x2 x3 M H locs ls hH (lv_sub hl [0, 1, 2, 3] rfl) h
      · have h := h.2 q32
        refine lv_aload_n hx hb dX6_hasBreak_35 rfl (lv_at hl 0 rfl) ?_
        refine lv_iload_n hx hb dX6_hasBreak_36 rfl (lv_at hl 3 rfl) ?_
        refine lv_iconst (v := (-1 : Int32)) hx hb dX6_hasBreak_37 (by decide) ?_
        refine lv_iload_n hx hb dX6_hasBreak_38 rfl (lv_at hl 2 rfl) ?_
        refine zcalli hH (va_runV (As := [.int x3, .int (-1 : Int32), .int x2]) (rest := []) hF (kX6_breaksAt l G M O x3 (-1 : Int32) x2 _ h) (cwV 3 hts gX6_hasBreak_X6_breaksAt rfl rfl rfl ⟨rfl, zdX6_breaksAt⟩ ⟨Nat.le_of_ble_eq_true rfl, Nat.le_of_ble_eq_true rfl⟩) (zpreV hSt hH 21 (by decide) rfl (zE_21 _ _ _) (q := (RX6, TX6, 31)) rfl [.int x3, .int (-1 : Int32), .int x2]) rfl rfl hl.1 rfl (lv_room (Nat.le_of_ble_eq_true rfl)) dX6_hasBreak_39 ⟨Nat.zero_le _, Nat.zero_le _⟩) (fun r39 M39 H locs h hH => ?_)
        refine lv_if_eq (tgt := 47) hx hb dX6_hasBreak_42 (by decide) (fun q42 => ?_) (fun q42 => ?_)
        · have h := h.1 q42
          exact wX6_hasBreak_b47 hF hSt hret hag14 x1 x2 x3 M39 H locs ls hH (lv_sub hl [0, 1, 2, 3] rfl) h
        · have h := h.2 q42
          refine lv_iconst (v := (1 : Int32)) hx hb dX6_hasBreak_45 (by decide) ?_
          exact hret _ _ _ _ _ _ dX6_hasBreak_46 h hH
def pX6_hasBreak_L14 (post : Int32 → zM → Prop) (x1 : Int32) (x2 : Int32) (x3 : Int32) (M : zM) : Prop :=
  ∃ I : Nat → Int32 → Int32 → Int32 → zM → Prop, (∃ n, I n x1 x2 x3 M) ∧ ∀ n x1 x2 x3 M, I n x1 x2 x3 M → pX6_hasBreak_b14 post (fun x1 x2 x3 M => ∃ k, k < n ∧ I k x1 x2 x3 M) x1 x2 x3 M
set_option maxHeartbeats 4000000 in
theorem wX6_hasBreak_L14 {post : Int32 → zM → Prop}  (hF : CallFix p m c cX6_hasBreak 5 s args wsX6_hasBreak RX6) (hSt : zSt G s) (hret : zRz p l e ({ frames := 7, cells := 0, slots := 0, locals := 164 } : Room) s m args below meth c Q cX6_hasBreak G false O post) (x1 : Int32) (x2 : Int32) (x3 : Int32) (M : zM) (H : Heap) (locs : List Loc) (ls : Array Slot) (hH : zH G false s H locs M O) (hl : lv_has ls 5 [(0, .ref (G.1 21)), (1, .int x1), (2, .int x2), (3, .int x3)]) (h : pX6_hasBreak_L14 post x1 x2 x3 M) : W p l e ({ frames := 7, cells := 0, slots := 0, locals := 164 } : Room) s m args below meth c H locs 0 0 Q (F0 m 14 ls []) := by
  obtain ⟨I, ⟨n, hI⟩, hs⟩ := h
  have key : ∀ (n : Nat) (x1 : Int32) (x2 : Int32) (x3 : Int32) (M : zM) (H : Heap) (locs : List Loc) (ls : Array Slot), I n x1 x2 x3 M → zH G false s H locs M O → lv_has ls 5 [(0, .ref (G.1 21)), (1, .int x1), (2, .int x2), (3, .int x3)] → W p l e ({ frames := 7, cells := 0, slots := 0, locals := 164 } : Room) s m args below meth c H locs 0 0 Q (F0 m 14 ls []) := by
    intro n
    induction n using Nat.strongRecOn with
    | _ n ih =>
      intro x1 x2 x3 M H locs ls hI hH hl
      exact wX6_hasBreak_b14 hF hSt hret (fun x1 x2 x3 M H locs ls h hH hl => by obtain ⟨k, hk, hI⟩ := h; exact ih k hk x1 x2 x3 M H locs ls hI hH hl) x1 x2 x3 M H locs ls hH hl (hs n x1 x2 x3 M hI)
  exact key n x1 x2 x3 M H locs ls hI hH hl
def pX6_hasBreak (M : zM) (x1 : Int32) (x2 : Int32) (post : Int32 → zM → Prop) : Prop :=
  pX6_breaksAt M (-1 : Int32) (-1 : Int32) x2 (fun r4 M4 => (r4 = 0 → pX6_hasBreak_L14 post x1 x2 (0 : Int32) M4) ∧ (¬ (r4 = 0) → ((1 : Int32) = 0 ∨ (1 : Int32) = 1) ∧ post (1 : Int32) M4))
set_option maxHeartbeats 4000000 in
set_option maxRecDepth 100000 in
theorem wX6_hasBreak {M : zM} {post : Int32 → zM → Prop} (hF : CallFix p m c cX6_hasBreak 5 s args wsX6_hasBreak RX6) (hSt : zSt G s) (hret : zRz p l e ({ frames := 7, cells := 0, slots := 0, locals := 164 } : Room) s m args below meth c Q cX6_hasBreak G false O post) (x1 : Int32) (x2 : Int32) (H : Heap) (locs : List Loc) (ls : Array Slot) (hH : zH G false s H locs M O) (hl : lv_has ls 5 [(0, .ref (G.1 21)), (1, .int x1), (2, .int x2)]) (h : pX6_hasBreak M x1 x2 post) : W p l e ({ frames := 7, cells := 0, slots := 0, locals := 164 } : Room) s m args below meth c H locs 0 0 Q (F0 m 0 ls []) := by
  obtain ⟨hx, hb, hml, hown, hts⟩ := id hF
  unfold pX6_hasBreak at h
  refine lv_aload_n hx hb dX6_hasBreak_0 rfl (lv_at hl 0 rfl) ?_
  refine lv_iconst (v := (-1 : Int32)) hx hb dX6_hasBreak_1 (by decide) ?_
  refine lv_iconst (v := (-1 : Int32)) hx hb dX6_hasBreak_2 (by decide) ?_
  refine lv_iload_n hx hb dX6_hasBreak_3 rfl (lv_at hl 2 rfl) ?_
  refine zcalli hH (va_runV (As := [.int (-1 : Int32), .int (-1 : Int32), .int x2]) (rest := []) hF (kX6_breaksAt l G M O (-1 : Int32) (-1 : Int32) x2 _ h) (cwV 3 hts gX6_hasBreak_X6_breaksAt rfl rfl rfl ⟨rfl, zdX6_breaksAt⟩ ⟨Nat.le_of_ble_eq_true rfl, Nat.le_of_ble_eq_true rfl⟩) (zpreV hSt hH 21 (by decide) rfl (zE_21 _ _ _) (q := (RX6, TX6, 31)) rfl [.int (-1 : Int32), .int (-1 : Int32), .int x2]) rfl rfl hl.1 rfl (lv_room (Nat.le_of_ble_eq_true rfl)) dX6_hasBreak_4 ⟨Nat.zero_le _, Nat.zero_le _⟩) (fun r4 M4 H locs h hH => ?_)
  refine lv_if_eq (tgt := 12) hx hb dX6_hasBreak_7 (by decide) (fun q7 => ?_) (fun q7 => ?_)
  · have h := h.1 q7
    refine lv_iconst (v := (0 : Int32)) hx hb dX6_hasBreak_12 (by decide) ?_
    refine lv_istore_n (lv' := [(3, .int (0 : Int32)), (0, .ref (G.1 21)), (1, .int x1), (2, .int x2)]) hx hb dX6_hasBreak_13 rfl hl (by decide) rfl (fun ls hl => ?_)
    exact wX6_hasBreak_L14 hF hSt hret x1 x2 (0 : Int32) M4 H locs ls hH (lv_sub hl [1, 2, 3, 0] rfl) h
  · have h := h.2 q7
    refine lv_iconst (v := (1 : Int32)) hx hb dX6_hasBreak_10 (by decide) ?_
    exact hret _ _ _ _ _ _ dX6_hasBreak_11 h hH
set_option maxRecDepth 100000 in
theorem kX6_hasBreak (l : Launch) (G : zG) (M O : zM) (x1 : Int32) (x2 : Int32) (post : Int32 → zM → Prop) (h : pX6_hasBreak M x1 x2 post) : Met l yX6_hasBreak wsX6_hasBreak ({ frames := 7, cells := 0, slots := 0, locals := 164 } : Room) (zPc G false M O [.ref (G.1 21), .int x1, .int x2]) (va_Qi post (zB G false O) (zAA G)) 0 0 (zAA G) :=
  zmet_z (by decide) rfl (Nat.le_of_ble_eq_true rfl) (fun hF hSt hret H locs ls hH hl => wX6_hasBreak hF hSt hret x1 x2 H locs ls hH hl h)
end
theorem znX6_safe_X6 : ∀ w ∈ wsX60, w ∈ wsX6_safe := fun _ h => List.mem_cons_of_mem _ (List.mem_append_right _ h)
theorem zdX6_safe : yX6_safe.cls ≠ "java/lang/invoke/MethodHandle" ∧ yX6_safe.cls ≠ "java/lang/invoke/VarHandle" ∧ (parseMethodDescriptor yX6_safe.desc).map (fun d => d.parameters.length) = some 2 := by decide +kernel
-- MixingRelaysModel safe(II)I
section
variable {p : Program} {l : Launch} {e : Env} {s : State} {m : MethodId} {args : Array Value} {below : List Frame} {meth : Method} {c : Code} {Q : State → Prop} {G : zG} {O : zM}
def pX6_safe_b21 (post : Int32 → zM → Prop) (M : zM) : Prop :=
  post (-2 : Int32) M
set_option maxHeartbeats 4000000 in
set_option maxRecDepth 100000 in
theorem wX6_safe_b21 {post : Int32 → zM → Prop}  (hF : CallFix p m c cX6_safe 3 s args wsX6_safe RX6) (hSt : zSt G s) (hret : zRi p l e ({ frames := 8, cells := 0, slots := 0, locals := 188 } : Room) s m args below meth c Q cX6_safe G false O post) (M : zM) (H : Heap) (locs : List Loc) (ls : Array Slot) (hH : zH G false s H locs M O) (hl : lv_has ls 3 []) (h : pX6_safe_b21 post M) : W p l e ({ frames := 8, cells := 0, slots := 0, locals := 188 } : Room) s m args below meth c H locs 0 0 Q (F0 m 21 ls []) := by
  obtain ⟨hx, hb, hml, hown, hts⟩ := id hF
  unfold pX6_safe_b21 at h
  refine lv_bipush (v := (-2 : Int32)) hx hb dX6_safe_21 (by decide) ?_
  exact hret _ _ _ _ _ _ dX6_safe_23 h hH
def pX6_safe_b38 (post : Int32 → zM → Prop) (t0 : Int32) (M : zM) : Prop :=
  post t0 M
set_option maxHeartbeats 4000000 in
set_option maxRecDepth 100000 in
theorem wX6_safe_b38 {post : Int32 → zM → Prop}  (hF : CallFix p m c cX6_safe 3 s args wsX6_safe RX6) (hSt : zSt G s) (hret : zRi p l e ({ frames := 8, cells := 0, slots := 0, locals := 188 } : Room) s m args below meth c Q cX6_safe G false O post) (t0 : Int32) (M : zM) (H : Heap) (locs : List Loc) (ls : Array Slot) (hH : zH G false s H locs M O) (hl : lv_has ls 3 []) (h : pX6_safe_b38 post t0 M) : W p l e ({ frames := 8, cells := 0, slots := 0, locals := 188 } : Room) s m args below meth c H locs 0 0 Q (F0 m 38 ls [.int t0]) := by
  obtain ⟨hx, hb, hml, hown, hts⟩ := id hF
  unfold pX6_safe_b38 at h
  exact hret _ _ _ _ _ _ dX6_safe_38 h hH
def pX6_safe (M : zM) (x1 : Int32) (x2 : Int32) (post : Int32 → zM → Prop) : Prop :=
  pX6_in x1 (0 : Int32) (2 : Int32) (fun r3 => (r3 = 0 → pX6_safe_b21 post M) ∧ (¬ (r3 = 0) → pX6_in x2 (0 : Int32) (M.1 21 3) (fun r15 => (¬ (r15 = 0) → pX6_hasBreak M x1 x2 (fun r27 M27 => (r27 = 0 → pX6_safe_b38 post (1 : Int32) M27) ∧ (¬ (r27 = 0) → pX6_safe_b38 post (0 : Int32) M27))) ∧ (r15 = 0 → pX6_safe_b21 post M))))
set_option maxHeartbeats 4000000 in
set_option maxRecDepth 100000 in
theorem wX6_safe {M : zM} {post : Int32 → zM → Prop} (hF : CallFix p m c cX6_safe 3 s args wsX6_safe RX6) (hSt : zSt G s) (hret : zRi p l e ({ frames := 8, cells := 0, slots := 0, locals := 188 } : Room) s m args below meth c Q cX6_safe G false O post) (x1 : Int32) (x2 : Int32) (H : Heap) (locs : List Loc) (ls : Array Slot) (hH : zH G false s H locs M O) (hl : lv_has ls 3 [(0, .ref (G.1 21)), (1, .int x1), (2, .int x2)]) (h : pX6_safe M x1 x2 post) : W p l e ({ frames := 8, cells := 0, slots := 0, locals := 188 } : Room) s m args below meth c H locs 0 0 Q (F0 m 0 ls []) := by
  obtain ⟨hx, hb, hml, hown, hts⟩ := id hF
  unfold pX6_safe at h
  refine lv_iload_n hx hb dX6_safe_0 rfl (lv_at hl 1 rfl) ?_
  refine lv_iconst (v := (0 : Int32)) hx hb dX6_safe_1 (by decide) ?_
  refine lv_iconst (v := (2 : Int32)) hx hb dX6_safe_2 (by decide) ?_
  refine zcalliP hH (va_runS (As := [.int x1, .int (0 : Int32), .int (2 : Int32)]) (rest := []) hF (kX6_in l G M O x1 (0 : Int32) (2 : Int32) _ h) (va_cwS 3 hts gX6_safe_X6_in rfl rfl rfl zdX6_in ⟨Nat.le_of_ble_eq_true rfl, Nat.le_of_ble_eq_true rfl⟩) (zpreS hSt hH [.int x1, .int (0 : Int32), .int (2 : Int32)]) rfl rfl hl.1 rfl (lv_room (Nat.le_of_ble_eq_true rfl)) dX6_safe_3 ⟨Nat.zero_le _, Nat.zero_le _⟩) (fun r3 H locs h hH => ?_)
  refine lv_if_eq (tgt := 21) hx hb dX6_safe_6 (by decide) (fun q6 => ?_) (fun q6 => ?_)
  · have h := h.1 q6
    exact wX6_safe_b21 hF hSt hret M H locs ls hH (lv_sub hl [] rfl) h
  · have h := h.2 q6
    refine lv_iload_n hx hb dX6_safe_9 rfl (lv_at hl 2 rfl) ?_
    refine lv_iconst (v := (0 : Int32)) hx hb dX6_safe_10 (by decide) ?_
    refine lv_aload_n hx hb dX6_safe_11 rfl (lv_at hl 0 rfl) ?_
    refine zget (v := .int (M.1 21 3)) hF hSt hH 21 (by decide) rfl (zE_21 _ _ _) (C := RX6) (T := TX6) (N := 31) rfl znX6_safe_X6 3 (by decide) (List.mem_of_getElem? (i := 1) rfl) rfl dX6_safe_12 ?_
    refine zcalliP hH (va_runS (As := [.int x2, .int (0 : Int32), .int (M.1 21 3)]) (rest := []) hF (kX6_in l G M O x2 (0 : Int32) (M.1 21 3) _ h) (va_cwS 3 hts gX6_safe_X6_in rfl rfl rfl zdX6_in ⟨Nat.le_of_ble_eq_true rfl, Nat.le_of_ble_eq_true rfl⟩) (zpreS hSt hH [.int x2, .int (0 : Int32), .int (M.1 21 3)]) rfl rfl hl.1 rfl (lv_room (Nat.le_of_ble_eq_true rfl)) dX6_safe_15 ⟨Nat.zero_le _, Nat.zero_le _⟩) (fun r15 H locs h hH => ?_)
    refine lv_if_ne (tgt := 24) hx hb dX6_safe_18 (by decide) (fun q18 => ?_) (fun q18 => ?_)
    · have h := h.1 q18
      refine lv_aload_n hx hb dX6_safe_24 rfl (lv_at hl 0 rfl) ?_
      refine lv_iload_n hx hb dX6_safe_25 rfl (lv_at hl 1 rfl) ?_
      refine lv_iload_n hx hb dX6_safe_26 rfl (lv_at hl 2 rfl) ?_
      refine zcalli hH (va_runV (As := [.int x1, .int x2]) (rest := []) hF (kX6_hasBreak l G M O x1 x2 _ h) (cwV 2 hts gX6_safe_X6_hasBreak rfl rfl rfl ⟨rfl, zdX6_hasBreak⟩ ⟨Nat.le_of_ble_eq_true rfl, Nat.le_of_ble_eq_true rfl⟩) (zpreV hSt hH 21 (by decide) rfl (zE_21 _ _ _) (q := (RX6, TX6, 31)) rfl [.int x1, .int x2]) rfl rfl hl.1 rfl (lv_room (Nat.le_of_ble_eq_true rfl)) dX6_safe_27 ⟨Nat.zero_le _, Nat.zero_le _⟩) (fun r27 M27 H locs h hH => ?_)
      refine lv_if_eq (tgt := 37) hx hb dX6_safe_30 (by decide) (fun q30 => ?_) (fun q30 => ?_)
      · have h := h.1 q30
        refine lv_iconst (v := (1 : Int32)) hx hb dX6_safe_37 (by decide) ?_
        exact wX6_safe_b38 hF hSt hret (1 : Int32) M27 H locs ls hH (lv_sub hl [] rfl) h
      · have h := h.2 q30
        refine lv_iconst (v := (0 : Int32)) hx hb dX6_safe_33 (by decide) ?_
        refine lv_goto (tgt := 38) hx hb dX6_safe_34 (by decide) ?_
        exact wX6_safe_b38 hF hSt hret (0 : Int32) M27 H locs ls hH (lv_sub hl [] rfl) h
    · have h := h.2 q18
      exact wX6_safe_b21 hF hSt hret M H locs ls hH (lv_sub hl [] rfl) h
set_option maxRecDepth 100000 in
theorem kX6_safe (l : Launch) (G : zG) (M O : zM) (x1 : Int32) (x2 : Int32) (post : Int32 → zM → Prop) (h : pX6_safe M x1 x2 post) : Met l yX6_safe wsX6_safe ({ frames := 8, cells := 0, slots := 0, locals := 188 } : Room) (zPc G false M O [.ref (G.1 21), .int x1, .int x2]) (va_Qi post (zB G false O) (zAA G)) 0 0 (zAA G) :=
  zmet_i (by decide) rfl (Nat.le_of_ble_eq_true rfl) (fun hF hSt hret H locs ls hH hl => wX6_safe hF hSt hret x1 x2 H locs ls hH hl h)
end
theorem znX6_breaks_X6 : ∀ w ∈ wsX60, w ∈ wsX6_breaks := fun _ h => List.mem_cons_of_mem _ (List.mem_append_right _ h)
theorem zdX6_breaks : yX6_breaks.cls ≠ "java/lang/invoke/MethodHandle" ∧ yX6_breaks.cls ≠ "java/lang/invoke/VarHandle" ∧ (parseMethodDescriptor yX6_breaks.desc).map (fun d => d.parameters.length) = some 3 := by decide +kernel
-- MixingRelaysModel breaks(III)I
section
variable {p : Program} {l : Launch} {e : Env} {s : State} {m : MethodId} {args : Array Value} {below : List Frame} {meth : Method} {c : Code} {Q : State → Prop} {G : zG} {O : zM}
def pX6_breaks_b32 (post : Int32 → zM → Prop) (M : zM) : Prop :=
  post (-2 : Int32) M
set_option maxHeartbeats 4000000 in
set_option maxRecDepth 100000 in
theorem wX6_breaks_b32 {post : Int32 → zM → Prop}  (hF : CallFix p m c cX6_breaks 4 s args wsX6_breaks RX6) (hSt : zSt G s) (hret : zRi p l e ({ frames := 8, cells := 0, slots := 0, locals := 188 } : Room) s m args below meth c Q cX6_breaks G false O post) (M : zM) (H : Heap) (locs : List Loc) (ls : Array Slot) (hH : zH G false s H locs M O) (hl : lv_has ls 4 []) (h : pX6_breaks_b32 post M) : W p l e ({ frames := 8, cells := 0, slots := 0, locals := 188 } : Room) s m args below meth c H locs 0 0 Q (F0 m 32 ls []) := by
  obtain ⟨hx, hb, hml, hown, hts⟩ := id hF
  unfold pX6_breaks_b32 at h
  refine lv_bipush (v := (-2 : Int32)) hx hb dX6_breaks_32 (by decide) ?_
  exact hret _ _ _ _ _ _ dX6_breaks_34 h hH
def pX6_breaks_b73 (post : Int32 → zM → Prop) (t0 : Int32) (M : zM) : Prop :=
  post t0 M
set_option maxHeartbeats 4000000 in
set_option maxRecDepth 100000 in
theorem wX6_breaks_b73 {post : Int32 → zM → Prop}  (hF : CallFix p m c cX6_breaks 4 s args wsX6_breaks RX6) (hSt : zSt G s) (hret : zRi p l e ({ frames := 8, cells := 0, slots := 0, locals := 188 } : Room) s m args below meth c Q cX6_breaks G false O post) (t0 : Int32) (M : zM) (H : Heap) (locs : List Loc) (ls : Array Slot) (hH : zH G false s H locs M O) (hl : lv_has ls 4 []) (h : pX6_breaks_b73 post t0 M) : W p l e ({ frames := 8, cells := 0, slots := 0, locals := 188 } : Room) s m args below meth c H locs 0 0 Q (F0 m 73 ls [.int t0]) := by
  obtain ⟨hx, hb, hml, hown, hts⟩ := id hF
  unfold pX6_breaks_b73 at h
  exact hret _ _ _ _ _ _ dX6_breaks_73 h hH
def pX6_breaks (M : zM) (x1 : Int32) (x2 : Int32) (x3 : Int32) (post : Int32 → zM → Prop) : Prop :=
  pX6_in x3 (0 : Int32) (2 : Int32) (fun r3 => (¬ (r3 = 0) → pX6_in x1 (0 : Int32) (2 : Int32) (fun r14 => (r14 = 0 → pX6_breaks_b32 post M) ∧ (¬ (r14 = 0) → pX6_in x2 (0 : Int32) (M.1 21 3) (fun r26 => (¬ (r26 = 0) → pX6_hasBreak M x1 x2 (fun r38 M38 => (¬ (r38 = 0) → (¬ (x3 = 0) → (¬ (x3 = (1 : Int32)) → pX6_breaks_b73 post (M38.1 21 30) M38) ∧ (x3 = (1 : Int32) → pX6_breaks_b73 post (M38.1 21 29) M38)) ∧ (x3 = 0 → pX6_breaks_b73 post (M38.1 21 28) M38)) ∧ (r38 = 0 → post (-1 : Int32) M38))) ∧ (r26 = 0 → pX6_breaks_b32 post M))))) ∧ (r3 = 0 → post (-1 : Int32) M))
set_option maxHeartbeats 4000000 in
set_option maxRecDepth 100000 in
theorem wX6_breaks {M : zM} {post : Int32 → zM → Prop} (hF : CallFix p m c cX6_breaks 4 s args wsX6_breaks RX6) (hSt : zSt G s) (hret : zRi p l e ({ frames := 8, cells := 0, slots := 0, locals := 188 } : Room) s m args below meth c Q cX6_breaks G false O post) (x1 : Int32) (x2 : Int32) (x3 : Int32) (H : Heap) (locs : List Loc) (ls : Array Slot) (hH : zH G false s H locs M O) (hl : lv_has ls 4 [(0, .ref (G.1 21)), (1, .int x1), (2, .int x2), (3, .int x3)]) (h : pX6_breaks M x1 x2 x3 post) : W p l e ({ frames := 8, cells := 0, slots := 0, locals := 188 } : Room) s m args below meth c H locs 0 0 Q (F0 m 0 ls []) := by
  obtain ⟨hx, hb, hml, hown, hts⟩ := id hF
  unfold pX6_breaks at h
  refine lv_iload_n hx hb dX6_breaks_0 rfl (lv_at hl 3 rfl) ?_
  refine lv_iconst (v := (0 : Int32)) hx hb dX6_breaks_1 (by decide) ?_
  refine lv_iconst (v := (2 : Int32)) hx hb dX6_breaks_2 (by decide) ?_
  refine zcalliP hH (va_runS (As := [.int x3, .int (0 : Int32), .int (2 : Int32)]) (rest := []) hF (kX6_in l G M O x3 (0 : Int32) (2 : Int32) _ h) (va_cwS 3 hts gX6_breaks_X6_in rfl rfl rfl zdX6_in ⟨Nat.le_of_ble_eq_true rfl, Nat.le_of_ble_eq_true rfl⟩) (zpreS hSt hH [.int x3, .int (0 : Int32), .int (2 : Int32)]) rfl rfl hl.1 rfl (lv_room (Nat.le_of_ble_eq_true rfl)) dX6_breaks_3 ⟨Nat.zero_le _, Nat.zero_le _⟩) (fun r3 H locs h hH => ?_)
  refine lv_if_ne (tgt := 11) hx hb dX6_breaks_6 (by decide) (fun q6 => ?_) (fun q6 => ?_)
  · have h := h.1 q6
    refine lv_iload_n hx hb dX6_breaks_11 rfl (lv_at hl 1 rfl) ?_
    refine lv_iconst (v := (0 : Int32)) hx hb dX6_breaks_12 (by decide) ?_
    refine lv_iconst (v := (2 : Int32)) hx hb dX6_breaks_13 (by decide) ?_
    refine zcalliP hH (va_runS (As := [.int x1, .int (0 : Int32), .int (2 : Int32)]) (rest := []) hF (kX6_in l G M O x1 (0 : Int32) (2 : Int32) _ h) (va_cwS 3 hts gX6_breaks_X6_in rfl rfl rfl zdX6_in ⟨Nat.le_of_ble_eq_true rfl, Nat.le_of_ble_eq_true rfl⟩) (zpreS hSt hH [.int x1, .int (0 : Int32), .int (2 : Int32)]) rfl rfl hl.1 rfl (lv_room (Nat.le_of_ble_eq_true rfl)) dX6_breaks_14 ⟨Nat.zero_le _, Nat.zero_le _⟩) (fun r14 H locs h hH => ?_)
    refine lv_if_eq (tgt := 32) hx hb dX6_breaks_17 (by decide) (fun q17 => ?_) (fun q17 => ?_)
    · have h := h.1 q17
      exact wX6_breaks_b32 hF hSt hret M H locs ls hH (lv_sub hl [] rfl) h
    · have h := h.2 q17
      refine lv_iload_n hx hb dX6_breaks_20 rfl (lv_at hl 2 rfl) ?_
      refine lv_iconst (v := (0 : Int32)) hx hb dX6_breaks_21 (by decide) ?_
      refine lv_aload_n hx hb dX6_breaks_22 rfl (lv_at hl 0 rfl) ?_
      refine zget (v := .int (M.1 21 3)) hF hSt hH 21 (by decide) rfl (zE_21 _ _ _) (C := RX6) (T := TX6) (N := 31) rfl znX6_breaks_X6 3 (by decide) (List.mem_of_getElem? (i := 1) rfl) rfl dX6_breaks_23 ?_
      refine zcalliP hH (va_runS (As := [.int x2, .int (0 : Int32), .int (M.1 21 3)]) (rest := []) hF (kX6_in l G M O x2 (0 : Int32) (M.1 21 3) _ h) (va_cwS 3 hts gX6_breaks_X6_in rfl rfl rfl zdX6_in ⟨Nat.le_of_ble_eq_true rfl, Nat.le_of_ble_eq_true rfl⟩) (zpreS hSt hH [.int x2, .int (0 : Int32), .int (M.1 21 3)]) rfl rfl hl.1 rfl (lv_room (Nat.le_of_ble_eq_true rfl)) dX6_breaks_26 ⟨Nat.zero_le _, Nat.zero_le _⟩) (fun r26 H locs h hH => ?_)
      refine lv_if_ne (tgt := 35) hx hb dX6_breaks_29 (by decide) (fun q29 => ?_) (fun q29 => ?_)
      · have h := h.1 q29
        refine lv_aload_n hx hb dX6_breaks_35 rfl (lv_at hl 0 rfl) ?_
        refine lv_iload_n hx hb dX6_breaks_36 rfl (lv_at hl 1 rfl) ?_
        refine lv_iload_n hx hb dX6_breaks_37 rfl (lv_at hl 2 rfl) ?_
        refine zcalli hH (va_runV (As := [.int x1, .int x2]) (rest := []) hF (kX6_hasBreak l G M O x1 x2 _ h) (cwV 2 hts gX6_breaks_X6_hasBreak rfl rfl rfl ⟨rfl, zdX6_hasBreak⟩ ⟨Nat.le_of_ble_eq_true rfl, Nat.le_of_ble_eq_true rfl⟩) (zpreV hSt hH 21 (by decide) rfl (zE_21 _ _ _) (q := (RX6, TX6, 31)) rfl [.int x1, .int x2]) rfl rfl hl.1 rfl (lv_room (Nat.le_of_ble_eq_true rfl)) dX6_breaks_38 ⟨Nat.zero_le _, Nat.zero_le _⟩) (fun r38 M38 H locs h hH => ?_)
        refine lv_if_ne (tgt := 46) hx hb dX6_breaks_41 (by decide) (fun q41 => ?_) (fun q41 => ?_)
        · have h := h.1 q41
          refine lv_iload_n hx hb dX6_breaks_46 rfl (lv_at hl 3 rfl) ?_
          refine lv_if_ne (tgt := 57) hx hb dX6_breaks_47 (by decide) (fun q47 => ?_) (fun q47 => ?_)
          · have h := h.1 q47
            refine lv_iload_n hx hb dX6_breaks_57 rfl (lv_at hl 3 rfl) ?_
            refine lv_iconst (v := (1 : Int32)) hx hb dX6_breaks_58 (by decide) ?_
            refine lv_icmp_ne (tgt := 69) hx hb dX6_breaks_59 (by decide) (fun q59 => ?_) (fun q59 => ?_)
            · have h := h.1 q59
              refine lv_aload_n hx hb dX6_breaks_69 rfl (lv_at hl 0 rfl) ?_
              refine zget (v := .int (M38.1 21 30)) hF hSt hH 21 (by decide) rfl (zE_21 _ _ _) (C := RX6) (T := TX6) (N := 31) rfl znX6_breaks_X6 30 (by decide) (List.mem_of_getElem? (i := 4) rfl) rfl dX6_breaks_70 ?_
              exact wX6_breaks_b73 hF hSt hret (M38.1 21 30) M38 H locs ls hH (lv_sub hl [] rfl) h
            · have h := h.2 q59
              refine lv_aload_n hx hb dX6_breaks_62 rfl (lv_at hl 0 rfl) ?_
              refine zget (v := .int (M38.1 21 29)) hF hSt hH 21 (by decide) rfl (zE_21 _ _ _) (C := RX6) (T := TX6) (N := 31) rfl znX6_breaks_X6 29 (by decide) (List.mem_of_getElem? (i := 3) rfl) rfl dX6_breaks_63 ?_
              refine lv_goto (tgt := 73) hx hb dX6_breaks_66 (by decide) ?_
              exact wX6_breaks_b73 hF hSt hret (M38.1 21 29) M38 H locs ls hH (lv_sub hl [] rfl) h
          · have h := h.2 q47
            refine lv_aload_n hx hb dX6_breaks_50 rfl (lv_at hl 0 rfl) ?_
            refine zget (v := .int (M38.1 21 28)) hF hSt hH 21 (by decide) rfl (zE_21 _ _ _) (C := RX6) (T := TX6) (N := 31) rfl znX6_breaks_X6 28 (by decide) (List.mem_of_getElem? (i := 2) rfl) rfl dX6_breaks_51 ?_
            refine lv_goto (tgt := 73) hx hb dX6_breaks_54 (by decide) ?_
            exact wX6_breaks_b73 hF hSt hret (M38.1 21 28) M38 H locs ls hH (lv_sub hl [] rfl) h
        · have h := h.2 q41
          refine lv_iconst (v := (-1 : Int32)) hx hb dX6_breaks_44 (by decide) ?_
          exact hret _ _ _ _ _ _ dX6_breaks_45 h hH
      · have h := h.2 q29
        exact wX6_breaks_b32 hF hSt hret M H locs ls hH (lv_sub hl [] rfl) h
  · have h := h.2 q6
    refine lv_iconst (v := (-1 : Int32)) hx hb dX6_breaks_9 (by decide) ?_
    exact hret _ _ _ _ _ _ dX6_breaks_10 h hH
set_option maxRecDepth 100000 in
theorem kX6_breaks (l : Launch) (G : zG) (M O : zM) (x1 : Int32) (x2 : Int32) (x3 : Int32) (post : Int32 → zM → Prop) (h : pX6_breaks M x1 x2 x3 post) : Met l yX6_breaks wsX6_breaks ({ frames := 8, cells := 0, slots := 0, locals := 188 } : Room) (zPc G false M O [.ref (G.1 21), .int x1, .int x2, .int x3]) (va_Qi post (zB G false O) (zAA G)) 0 0 (zAA G) :=
  zmet_i (by decide) rfl (Nat.le_of_ble_eq_true rfl) (fun hF hSt hret H locs ls hH hl => wX6_breaks hF hSt hret x1 x2 x3 H locs ls hH hl h)
end
