section
-- ===== PART A: goes FIRST, ahead of the names: the tables' words, and 'selects' of the private methods out of them =====
/-- a private method of a class that the tables say can be made, by its rows of tables_1 -/
def lw_okq (q : MethodName × Nat) : Prop := (q.1.cls ≠ "java/lang/invoke/MethodHandle" ∧ q.1.cls ≠ "java/lang/invoke/VarHandle") ∧ Cond.instantiable q.1.cls q.2 ∈ tables_1 ∧ Cond.privateMethod q.1 ∈ tables_1 ∧ Cond.instanceMethod q.1 ∈ tables_1
theorem lw_p0 : lw_okq (⟨"MixingRelays", "refusalOf", "(I)I"⟩, 5) := ⟨⟨by decide +kernel, by decide +kernel⟩, List.mem_of_getElem? (i := 13) (by decide +kernel), List.mem_of_getElem? (i := 327) (by decide +kernel), List.mem_of_getElem? (i := 328) (by decide +kernel)⟩
theorem lw_p1 : lw_okq (⟨"MixingRelays$Ways", "reach", "()V"⟩, 4) := ⟨⟨by decide +kernel, by decide +kernel⟩, List.mem_of_getElem? (i := 116) (by decide +kernel), List.mem_of_getElem? (i := 335) (by decide +kernel), List.mem_of_getElem? (i := 336) (by decide +kernel)⟩
theorem lw_p2 : lw_okq (⟨"MixingRelays$Ways", "reachBy", "(I)V"⟩, 4) := ⟨⟨by decide +kernel, by decide +kernel⟩, List.mem_of_getElem? (i := 116) (by decide +kernel), List.mem_of_getElem? (i := 340) (by decide +kernel), List.mem_of_getElem? (i := 341) (by decide +kernel)⟩
theorem lw_p3 : lw_okq (⟨"MixingRelays$Ways", "turnWayTo", "(I)V"⟩, 4) := ⟨⟨by decide +kernel, by decide +kernel⟩, List.mem_of_getElem? (i := 116) (by decide +kernel), List.mem_of_getElem? (i := 344) (by decide +kernel), List.mem_of_getElem? (i := 345) (by decide +kernel)⟩
theorem lw_p4 : lw_okq (⟨"MixingRelays$Net", "mixed", "(I[J[J)J"⟩, 16) := ⟨⟨by decide +kernel, by decide +kernel⟩, List.mem_of_getElem? (i := 21) (by decide +kernel), List.mem_of_getElem? (i := 374) (by decide +kernel), List.mem_of_getElem? (i := 375) (by decide +kernel)⟩
theorem lw_p5 : lw_okq (⟨"MixingRelays$Span", "take", "(I)V"⟩, 4) := ⟨⟨by decide +kernel, by decide +kernel⟩, List.mem_of_getElem? (i := 135) (by decide +kernel), List.mem_of_getElem? (i := 405) (by decide +kernel), List.mem_of_getElem? (i := 406) (by decide +kernel)⟩
theorem lw_p6 : lw_okq (⟨"MixingRelays", "refusalOf", "(II)I"⟩, 5) := ⟨⟨by decide +kernel, by decide +kernel⟩, List.mem_of_getElem? (i := 13) (by decide +kernel), List.mem_of_getElem? (i := 424) (by decide +kernel), List.mem_of_getElem? (i := 425) (by decide +kernel)⟩
theorem lw_p7 : lw_okq (⟨"MixingRelays$Mixer", "noteRanks", "()V"⟩, 4) := ⟨⟨by decide +kernel, by decide +kernel⟩, List.mem_of_getElem? (i := 155) (by decide +kernel), List.mem_of_getElem? (i := 512) (by decide +kernel), List.mem_of_getElem? (i := 513) (by decide +kernel)⟩
theorem lw_p8 : lw_okq (⟨"MixingRelays$Mixer", "unmix", "(I)Z"⟩, 4) := ⟨⟨by decide +kernel, by decide +kernel⟩, List.mem_of_getElem? (i := 155) (by decide +kernel), List.mem_of_getElem? (i := 519) (by decide +kernel), List.mem_of_getElem? (i := 520) (by decide +kernel)⟩
theorem lw_p9 : lw_okq (⟨"MixingRelays$Mixer", "ranksHold", "()Z"⟩, 4) := ⟨⟨by decide +kernel, by decide +kernel⟩, List.mem_of_getElem? (i := 155) (by decide +kernel), List.mem_of_getElem? (i := 529) (by decide +kernel), List.mem_of_getElem? (i := 530) (by decide +kernel)⟩
theorem lw_p10 : lw_okq (⟨"MixingRelays$Breaker", "weakens", "(II)Z"⟩, 5) := ⟨⟨by decide +kernel, by decide +kernel⟩, List.mem_of_getElem? (i := 174) (by decide +kernel), List.mem_of_getElem? (i := 545) (by decide +kernel), List.mem_of_getElem? (i := 546) (by decide +kernel)⟩
theorem lw_p11 : lw_okq (⟨"MixingRelays$Breaker", "searchOne", "(I)Z"⟩, 5) := ⟨⟨by decide +kernel, by decide +kernel⟩, List.mem_of_getElem? (i := 174) (by decide +kernel), List.mem_of_getElem? (i := 552) (by decide +kernel), List.mem_of_getElem? (i := 553) (by decide +kernel)⟩
theorem lw_p12 : lw_okq (⟨"MixingRelays$Breaker", "searchTwo", "(I)Z"⟩, 5) := ⟨⟨by decide +kernel, by decide +kernel⟩, List.mem_of_getElem? (i := 174) (by decide +kernel), List.mem_of_getElem? (i := 556) (by decide +kernel), List.mem_of_getElem? (i := 557) (by decide +kernel)⟩
theorem lw_p13 : lw_okq (⟨"MixingRelaysModel", "isRelay", "(I)Z"⟩, 31) := ⟨⟨by decide +kernel, by decide +kernel⟩, List.mem_of_getElem? (i := 583) (by decide +kernel), List.mem_of_getElem? (i := 708) (by decide +kernel), List.mem_of_getElem? (i := 709) (by decide +kernel)⟩
theorem lw_p14 : lw_okq (⟨"MixingRelaysModel", "isLine", "(I)Z"⟩, 31) := ⟨⟨by decide +kernel, by decide +kernel⟩, List.mem_of_getElem? (i := 583) (by decide +kernel), List.mem_of_getElem? (i := 728) (by decide +kernel), List.mem_of_getElem? (i := 729) (by decide +kernel)⟩
theorem lw_p15 : lw_okq (⟨"MixingRelaysModel", "ins", "(I)I"⟩, 31) := ⟨⟨by decide +kernel, by decide +kernel⟩, List.mem_of_getElem? (i := 583) (by decide +kernel), List.mem_of_getElem? (i := 732) (by decide +kernel), List.mem_of_getElem? (i := 733) (by decide +kernel)⟩
def lw_privs_1 : List (MethodName × Nat) := [(⟨"MixingRelays", "refusalOf", "(I)I"⟩, 5), (⟨"MixingRelays$Ways", "reach", "()V"⟩, 4), (⟨"MixingRelays$Ways", "reachBy", "(I)V"⟩, 4), (⟨"MixingRelays$Ways", "turnWayTo", "(I)V"⟩, 4), (⟨"MixingRelays$Net", "mixed", "(I[J[J)J"⟩, 16), (⟨"MixingRelays$Span", "take", "(I)V"⟩, 4), (⟨"MixingRelays", "refusalOf", "(II)I"⟩, 5), (⟨"MixingRelays$Mixer", "noteRanks", "()V"⟩, 4), (⟨"MixingRelays$Mixer", "unmix", "(I)Z"⟩, 4), (⟨"MixingRelays$Mixer", "ranksHold", "()Z"⟩, 4), (⟨"MixingRelays$Breaker", "weakens", "(II)Z"⟩, 5), (⟨"MixingRelays$Breaker", "searchOne", "(I)Z"⟩, 5), (⟨"MixingRelays$Breaker", "searchTwo", "(I)Z"⟩, 5), (⟨"MixingRelaysModel", "isRelay", "(I)Z"⟩, 31), (⟨"MixingRelaysModel", "isLine", "(I)Z"⟩, 31), (⟨"MixingRelaysModel", "ins", "(I)I"⟩, 31)]
theorem lw_r1 : ∀ q ∈ lw_privs_1, lw_okq q := List.forall_mem_cons.mpr ⟨lw_p0, List.forall_mem_cons.mpr ⟨lw_p1, List.forall_mem_cons.mpr ⟨lw_p2, List.forall_mem_cons.mpr ⟨lw_p3, List.forall_mem_cons.mpr ⟨lw_p4, List.forall_mem_cons.mpr ⟨lw_p5, List.forall_mem_cons.mpr ⟨lw_p6, List.forall_mem_cons.mpr ⟨lw_p7, List.forall_mem_cons.mpr ⟨lw_p8, List.forall_mem_cons.mpr ⟨lw_p9, List.forall_mem_cons.mpr ⟨lw_p10, List.forall_mem_cons.mpr ⟨lw_p11, List.forall_mem_cons.mpr ⟨lw_p12, List.forall_mem_cons.mpr ⟨lw_p13, List.forall_mem_cons.mpr ⟨lw_p14, List.forall_mem_cons.mpr ⟨lw_p15, fun _ h => absurd h List.not_mem_nil⟩⟩⟩⟩⟩⟩⟩⟩⟩⟩⟩⟩⟩⟩⟩⟩
theorem lw_p16 : lw_okq (⟨"MixingRelaysModel", "waysIn", "(I)I"⟩, 31) := ⟨⟨by decide +kernel, by decide +kernel⟩, List.mem_of_getElem? (i := 583) (by decide +kernel), List.mem_of_getElem? (i := 736) (by decide +kernel), List.mem_of_getElem? (i := 737) (by decide +kernel)⟩
theorem lw_p17 : lw_okq (⟨"MixingRelaysModel", "isPassing", "(I)Z"⟩, 31) := ⟨⟨by decide +kernel, by decide +kernel⟩, List.mem_of_getElem? (i := 583) (by decide +kernel), List.mem_of_getElem? (i := 756) (by decide +kernel), List.mem_of_getElem? (i := 757) (by decide +kernel)⟩
theorem lw_p18 : lw_okq (⟨"MixingRelaysModel", "flowOf", "(I)I"⟩, 31) := ⟨⟨by decide +kernel, by decide +kernel⟩, List.mem_of_getElem? (i := 583) (by decide +kernel), List.mem_of_getElem? (i := 764) (by decide +kernel), List.mem_of_getElem? (i := 765) (by decide +kernel)⟩
theorem lw_p19 : lw_okq (⟨"MixingRelaysModel", "seek", "()V"⟩, 31) := ⟨⟨by decide +kernel, by decide +kernel⟩, List.mem_of_getElem? (i := 583) (by decide +kernel), List.mem_of_getElem? (i := 768) (by decide +kernel), List.mem_of_getElem? (i := 769) (by decide +kernel)⟩
theorem lw_p20 : lw_okq (⟨"MixingRelaysModel", "work", "()V"⟩, 31) := ⟨⟨by decide +kernel, by decide +kernel⟩, List.mem_of_getElem? (i := 583) (by decide +kernel), List.mem_of_getElem? (i := 784) (by decide +kernel), List.mem_of_getElem? (i := 785) (by decide +kernel)⟩
theorem lw_p21 : lw_okq (⟨"MixingRelaysModel", "workLine", "(I)V"⟩, 31) := ⟨⟨by decide +kernel, by decide +kernel⟩, List.mem_of_getElem? (i := 583) (by decide +kernel), List.mem_of_getElem? (i := 788) (by decide +kernel), List.mem_of_getElem? (i := 789) (by decide +kernel)⟩
theorem lw_p22 : lw_okq (⟨"MixingRelaysModel", "lineIn", "(II)I"⟩, 31) := ⟨⟨by decide +kernel, by decide +kernel⟩, List.mem_of_getElem? (i := 583) (by decide +kernel), List.mem_of_getElem? (i := 792) (by decide +kernel), List.mem_of_getElem? (i := 793) (by decide +kernel)⟩
theorem lw_p23 : lw_okq (⟨"MixingRelaysModel", "rankOf", "(I)I"⟩, 31) := ⟨⟨by decide +kernel, by decide +kernel⟩, List.mem_of_getElem? (i := 583) (by decide +kernel), List.mem_of_getElem? (i := 808) (by decide +kernel), List.mem_of_getElem? (i := 809) (by decide +kernel)⟩
theorem lw_p24 : lw_okq (⟨"MixingRelaysModel", "study", "(I)V"⟩, 31) := ⟨⟨by decide +kernel, by decide +kernel⟩, List.mem_of_getElem? (i := 583) (by decide +kernel), List.mem_of_getElem? (i := 812) (by decide +kernel), List.mem_of_getElem? (i := 813) (by decide +kernel)⟩
theorem lw_p25 : lw_okq (⟨"MixingRelaysModel", "steps", "()Z"⟩, 31) := ⟨⟨by decide +kernel, by decide +kernel⟩, List.mem_of_getElem? (i := 583) (by decide +kernel), List.mem_of_getElem? (i := 816) (by decide +kernel), List.mem_of_getElem? (i := 817) (by decide +kernel)⟩
theorem lw_p26 : lw_okq (⟨"MixingRelaysModel", "reduce", "()V"⟩, 31) := ⟨⟨by decide +kernel, by decide +kernel⟩, List.mem_of_getElem? (i := 583) (by decide +kernel), List.mem_of_getElem? (i := 820) (by decide +kernel), List.mem_of_getElem? (i := 821) (by decide +kernel)⟩
theorem lw_p27 : lw_okq (⟨"MixingRelaysModel", "solvesFor", "(I)Z"⟩, 31) := ⟨⟨by decide +kernel, by decide +kernel⟩, List.mem_of_getElem? (i := 583) (by decide +kernel), List.mem_of_getElem? (i := 832) (by decide +kernel), List.mem_of_getElem? (i := 833) (by decide +kernel)⟩
theorem lw_p28 : lw_okq (⟨"MixingRelaysModel", "getsOf", "(I)J"⟩, 31) := ⟨⟨by decide +kernel, by decide +kernel⟩, List.mem_of_getElem? (i := 583) (by decide +kernel), List.mem_of_getElem? (i := 844) (by decide +kernel), List.mem_of_getElem? (i := 845) (by decide +kernel)⟩
theorem lw_p29 : lw_okq (⟨"MixingRelaysModel", "goes", "(II)Z"⟩, 31) := ⟨⟨by decide +kernel, by decide +kernel⟩, List.mem_of_getElem? (i := 583) (by decide +kernel), List.mem_of_getElem? (i := 852) (by decide +kernel), List.mem_of_getElem? (i := 853) (by decide +kernel)⟩
theorem lw_p30 : lw_okq (⟨"MixingRelaysModel", "isSolvable", "(I)Z"⟩, 31) := ⟨⟨by decide +kernel, by decide +kernel⟩, List.mem_of_getElem? (i := 583) (by decide +kernel), List.mem_of_getElem? (i := 856) (by decide +kernel), List.mem_of_getElem? (i := 857) (by decide +kernel)⟩
theorem lw_p31 : lw_okq (⟨"MixingRelaysModel", "hasAll", "(I)Z"⟩, 31) := ⟨⟨by decide +kernel, by decide +kernel⟩, List.mem_of_getElem? (i := 583) (by decide +kernel), List.mem_of_getElem? (i := 868) (by decide +kernel), List.mem_of_getElem? (i := 869) (by decide +kernel)⟩
def lw_privs_2 : List (MethodName × Nat) := [(⟨"MixingRelaysModel", "waysIn", "(I)I"⟩, 31), (⟨"MixingRelaysModel", "isPassing", "(I)Z"⟩, 31), (⟨"MixingRelaysModel", "flowOf", "(I)I"⟩, 31), (⟨"MixingRelaysModel", "seek", "()V"⟩, 31), (⟨"MixingRelaysModel", "work", "()V"⟩, 31), (⟨"MixingRelaysModel", "workLine", "(I)V"⟩, 31), (⟨"MixingRelaysModel", "lineIn", "(II)I"⟩, 31), (⟨"MixingRelaysModel", "rankOf", "(I)I"⟩, 31), (⟨"MixingRelaysModel", "study", "(I)V"⟩, 31), (⟨"MixingRelaysModel", "steps", "()Z"⟩, 31), (⟨"MixingRelaysModel", "reduce", "()V"⟩, 31), (⟨"MixingRelaysModel", "solvesFor", "(I)Z"⟩, 31), (⟨"MixingRelaysModel", "getsOf", "(I)J"⟩, 31), (⟨"MixingRelaysModel", "goes", "(II)Z"⟩, 31), (⟨"MixingRelaysModel", "isSolvable", "(I)Z"⟩, 31), (⟨"MixingRelaysModel", "hasAll", "(I)Z"⟩, 31)]
theorem lw_r2 : ∀ q ∈ lw_privs_2, lw_okq q := List.forall_mem_cons.mpr ⟨lw_p16, List.forall_mem_cons.mpr ⟨lw_p17, List.forall_mem_cons.mpr ⟨lw_p18, List.forall_mem_cons.mpr ⟨lw_p19, List.forall_mem_cons.mpr ⟨lw_p20, List.forall_mem_cons.mpr ⟨lw_p21, List.forall_mem_cons.mpr ⟨lw_p22, List.forall_mem_cons.mpr ⟨lw_p23, List.forall_mem_cons.mpr ⟨lw_p24, List.forall_mem_cons.mpr ⟨lw_p25, List.forall_mem_cons.mpr ⟨lw_p26, List.forall_mem_cons.mpr ⟨lw_p27, List.forall_mem_cons.mpr ⟨lw_p28, List.forall_mem_cons.mpr ⟨lw_p29, List.forall_mem_cons.mpr ⟨lw_p30, List.forall_mem_cons.mpr ⟨lw_p31, fun _ h => absurd h List.not_mem_nil⟩⟩⟩⟩⟩⟩⟩⟩⟩⟩⟩⟩⟩⟩⟩⟩
theorem lw_p32 : lw_okq (⟨"MixingRelaysModel", "ends", "()I"⟩, 31) := ⟨⟨by decide +kernel, by decide +kernel⟩, List.mem_of_getElem? (i := 583) (by decide +kernel), List.mem_of_getElem? (i := 881) (by decide +kernel), List.mem_of_getElem? (i := 882) (by decide +kernel)⟩
theorem lw_p33 : lw_okq (⟨"MixingRelaysModel", "leaves", "(I)Z"⟩, 31) := ⟨⟨by decide +kernel, by decide +kernel⟩, List.mem_of_getElem? (i := 583) (by decide +kernel), List.mem_of_getElem? (i := 891) (by decide +kernel), List.mem_of_getElem? (i := 892) (by decide +kernel)⟩
theorem lw_p34 : lw_okq (⟨"MixingRelaysModel", "isAsBefore", "()Z"⟩, 31) := ⟨⟨by decide +kernel, by decide +kernel⟩, List.mem_of_getElem? (i := 583) (by decide +kernel), List.mem_of_getElem? (i := 895) (by decide +kernel), List.mem_of_getElem? (i := 896) (by decide +kernel)⟩
theorem lw_p35 : lw_okq (⟨"MixingRelaysModel", "hasBreak", "(II)Z"⟩, 31) := ⟨⟨by decide +kernel, by decide +kernel⟩, List.mem_of_getElem? (i := 583) (by decide +kernel), List.mem_of_getElem? (i := 903) (by decide +kernel), List.mem_of_getElem? (i := 904) (by decide +kernel)⟩
theorem lw_p36 : lw_okq (⟨"MixingRelaysModel", "breaksAt", "(III)Z"⟩, 31) := ⟨⟨by decide +kernel, by decide +kernel⟩, List.mem_of_getElem? (i := 583) (by decide +kernel), List.mem_of_getElem? (i := 907) (by decide +kernel), List.mem_of_getElem? (i := 908) (by decide +kernel)⟩
theorem lw_p37 : lw_okq (⟨"MixingRelaysModel", "lowEnd", "(III)I"⟩, 31) := ⟨⟨by decide +kernel, by decide +kernel⟩, List.mem_of_getElem? (i := 583) (by decide +kernel), List.mem_of_getElem? (i := 911) (by decide +kernel), List.mem_of_getElem? (i := 912) (by decide +kernel)⟩
def lw_privs_3 : List (MethodName × Nat) := [(⟨"MixingRelaysModel", "ends", "()I"⟩, 31), (⟨"MixingRelaysModel", "leaves", "(I)Z"⟩, 31), (⟨"MixingRelaysModel", "isAsBefore", "()Z"⟩, 31), (⟨"MixingRelaysModel", "hasBreak", "(II)Z"⟩, 31), (⟨"MixingRelaysModel", "breaksAt", "(III)Z"⟩, 31), (⟨"MixingRelaysModel", "lowEnd", "(III)I"⟩, 31)]
theorem lw_r3 : ∀ q ∈ lw_privs_3, lw_okq q := List.forall_mem_cons.mpr ⟨lw_p32, List.forall_mem_cons.mpr ⟨lw_p33, List.forall_mem_cons.mpr ⟨lw_p34, List.forall_mem_cons.mpr ⟨lw_p35, List.forall_mem_cons.mpr ⟨lw_p36, List.forall_mem_cons.mpr ⟨lw_p37, fun _ h => absurd h List.not_mem_nil⟩⟩⟩⟩⟩⟩
def lw_privs : List (MethodName × Nat) := lw_privs_1 ++ (lw_privs_2 ++ (lw_privs_3))
def lw_tbl : List Cond := k2_sels lw_privs ++ tables_1
theorem lw_privs_ok : ∀ q ∈ lw_privs, lw_okq q := by
  show ∀ q ∈ lw_privs_1 ++ (lw_privs_2 ++ (lw_privs_3)), lw_okq q
  exact List.forall_mem_append.mpr ⟨lw_r1, List.forall_mem_append.mpr ⟨lw_r2, lw_r3⟩⟩
end
section
/-! ===== BEGIN words of one list among another's, by their places ===== -/
theorem goodIn_r {big : List Cond} (ws : List Cond) (ps : List Nat) (hp : ws = ps.filterMap (fun i => big[i]?)) (h : ws.all goodWord = true) : GoodIn big ws := by
  intro w hw
  have h1 := List.all_eq_true.mp h w hw
  rw [hp] at hw
  obtain ⟨i, -, hi⟩ := List.mem_filterMap.mp hw
  have hm : w ∈ big := by first | exact List.mem_of_getElem? hi | exact List.getElem?_mem hi
  exact ⟨hm, good_of_word h1⟩
theorem goodIn_app {big a b : List Cond} (ha : GoodIn big a) (hb : GoodIn big b) : GoodIn big (a ++ b) := fun w h => (List.mem_append.mp h).elim (ha w) (hb w)
theorem goodIn_ca {big a b : List Cond} {c : Cond} (ha : GoodIn big (c :: a)) (hb : GoodIn big b) : GoodIn big (c :: (a ++ b)) := fun w h => (List.mem_cons.mp h).elim (fun e => ha w (List.mem_cons.mpr (Or.inl e))) (fun h => (List.mem_append.mp h).elim (fun h => ha w (List.mem_cons.mpr (Or.inr h))) (hb w))
theorem goodIn_sub {big ws : List Cond} (hm : ∀ w ∈ ws, w ∈ big) (h : ws.all goodWord = true) : GoodIn big ws := fun w hw => ⟨hm w hw, good_of_word (List.all_eq_true.mp h w hw)⟩
/-! ===== END ===== -/

/-! ===== BEGIN printed: names, fields, word lists, decode rows ===== -/
def RX0 : String := "MixingRelays$Breaker"
def TX0 : u_T := fun k => match k with
  | 0 => ("MixingRelays$Breaker", "net", "LMixingRelays$Net;", true)
  | 1 => ("MixingRelays$Breaker", "span", "LMixingRelays$Span;", true)
  | 2 => ("MixingRelays$Breaker", "lesser", "I", false)
  | 3 => ("MixingRelays$Breaker", "greater", "I", false)
  | _ => ("MixingRelays$Breaker", "weakEnd", "I", false)
def tyX0 : Nat → FieldType := fun k => match k with
  | 0 => .object "MixingRelays$Net"
  | 1 => .object "MixingRelays$Span"
  | 2 => .int
  | 3 => .int
  | _ => .int
abbrev wsX00 : List Cond := u_ws RX0 TX0 5
theorem nmX0 : ∀ a, a < 5 → ∀ b, b < 5 → a ≠ b → (TX0 a).2.1 ≠ (TX0 b).2.1 := by decide +kernel
theorem tyX0_ok : ∀ k, k < 5 → parseFieldDescriptor (TX0 k).2.2.1 = some (tyX0 k) := by decide +kernel
abbrev cX0_init : ByteArray := prog_2_method_1_code
def yX0_init : MethodName := ⟨RX0, "<init>", "(LMixingRelays$Net;LMixingRelays$Span;)V"⟩
abbrev cX0_search : ByteArray := prog_2_method_2_code
def yX0_search : MethodName := ⟨RX0, "search", "(II)Z"⟩
abbrev cX0_searchOne : ByteArray := prog_2_method_3_code
def yX0_searchOne : MethodName := ⟨RX0, "searchOne", "(I)Z"⟩
abbrev cX0_searchTwo : ByteArray := prog_2_method_4_code
def yX0_searchTwo : MethodName := ⟨RX0, "searchTwo", "(I)Z"⟩
abbrev cX0_weakens : ByteArray := prog_2_method_5_code
def yX0_weakens : MethodName := ⟨RX0, "weakens", "(II)Z"⟩
def RX1 : String := "MixingRelays$Mixer"
def TX1 : u_T := fun k => match k with
  | 0 => ("MixingRelays$Mixer", "net", "LMixingRelays$Net;", true)
  | 1 => ("MixingRelays$Mixer", "span", "LMixingRelays$Span;", true)
  | 2 => ("MixingRelays$Mixer", "saved", "[I", true)
  | _ => ("MixingRelays$Mixer", "ranks", "[I", true)
def tyX1 : Nat → FieldType := fun k => match k with
  | 0 => .object "MixingRelays$Net"
  | 1 => .object "MixingRelays$Span"
  | 2 => .array .int
  | _ => .array .int
abbrev wsX10 : List Cond := u_ws RX1 TX1 4
theorem nmX1 : ∀ a, a < 4 → ∀ b, b < 4 → a ≠ b → (TX1 a).2.1 ≠ (TX1 b).2.1 := by decide +kernel
theorem tyX1_ok : ∀ k, k < 4 → parseFieldDescriptor (TX1 k).2.2.1 = some (tyX1 k) := by decide +kernel
abbrev cX1_init : ByteArray := prog_3_method_1_code
def yX1_init : MethodName := ⟨RX1, "<init>", "(LMixingRelays$Net;LMixingRelays$Span;)V"⟩
abbrev cX1_drawWith : ByteArray := prog_3_method_2_code
def yX1_drawWith : MethodName := ⟨RX1, "drawWith", "(I)I"⟩
abbrev cX1_firstSeed : ByteArray := prog_3_method_3_code
def yX1_firstSeed : MethodName := ⟨RX1, "firstSeed", "()I"⟩
abbrev cX1_unmixAll : ByteArray := prog_3_method_4_code
def yX1_unmixAll : MethodName := ⟨RX1, "unmixAll", "()I"⟩
abbrev cX1_unmix : ByteArray := prog_3_method_5_code
def yX1_unmix : MethodName := ⟨RX1, "unmix", "(I)Z"⟩
abbrev cX1_noteRanks : ByteArray := prog_3_method_6_code
def yX1_noteRanks : MethodName := ⟨RX1, "noteRanks", "()V"⟩
abbrev cX1_ranksHold : ByteArray := prog_3_method_7_code
def yX1_ranksHold : MethodName := ⟨RX1, "ranksHold", "()Z"⟩
def RX2 : String := "MixingRelays$Net"
def TX2 : u_T := fun k => match k with
  | 0 => ("MixingRelays$Net", "relays", "I", false)
  | 1 => ("MixingRelays$Net", "lines", "I", false)
  | 2 => ("MixingRelays$Net", "pieces", "I", false)
  | 3 => ("MixingRelays$Net", "ends", "I", false)
  | 4 => ("MixingRelays$Net", "kept", "I", false)
  | 5 => ("MixingRelays$Net", "down", "I", false)
  | 6 => ("MixingRelays$Net", "from", "[I", true)
  | 7 => ("MixingRelays$Net", "to", "[I", true)
  | 8 => ("MixingRelays$Net", "bends", "[J", true)
  | 9 => ("MixingRelays$Net", "bytes", "[J", true)
  | 10 => ("MixingRelays$Net", "factors", "[I", true)
  | 11 => ("MixingRelays$Net", "leading", "[I", true)
  | 12 => ("MixingRelays$Net", "leadingCount", "[I", true)
  | 13 => ("MixingRelays$Net", "order", "[I", true)
  | 14 => ("MixingRelays$Net", "vectors", "[J", true)
  | _ => ("MixingRelays$Net", "carried", "[J", true)
def tyX2 : Nat → FieldType := fun k => match k with
  | 0 => .int
  | 1 => .int
  | 2 => .int
  | 3 => .int
  | 4 => .int
  | 5 => .int
  | 6 => .array .int
  | 7 => .array .int
  | 8 => .array .long
  | 9 => .array .long
  | 10 => .array .int
  | 11 => .array .int
  | 12 => .array .int
  | 13 => .array .int
  | 14 => .array .long
  | _ => .array .long
abbrev wsX20 : List Cond := u_ws RX2 TX2 16
theorem nmX2 : ∀ a, a < 16 → ∀ b, b < 16 → a ≠ b → (TX2 a).2.1 ≠ (TX2 b).2.1 := by decide +kernel
theorem tyX2_ok : ∀ k, k < 16 → parseFieldDescriptor (TX2 k).2.2.1 = some (tyX2 k) := by decide +kernel
abbrev cX2_init : ByteArray := prog_4_method_1_code
def yX2_init : MethodName := ⟨RX2, "<init>", "()V"⟩
abbrev cX2_isRelay : ByteArray := prog_4_method_2_code
def yX2_isRelay : MethodName := ⟨RX2, "isRelay", "(I)Z"⟩
abbrev cX2_isLine : ByteArray := prog_4_method_3_code
def yX2_isLine : MethodName := ⟨RX2, "isLine", "(I)Z"⟩
abbrev cX2_isPiece : ByteArray := prog_4_method_4_code
def yX2_isPiece : MethodName := ⟨RX2, "isPiece", "(I)Z"⟩
abbrev cX2_insOf : ByteArray := prog_4_method_5_code
def yX2_insOf : MethodName := ⟨RX2, "insOf", "(I)I"⟩
abbrev cX2_addLine : ByteArray := prog_4_method_6_code
def yX2_addLine : MethodName := ⟨RX2, "addLine", "(II)I"⟩
abbrev cX2_isPassing : ByteArray := prog_4_method_7_code
def yX2_isPassing : MethodName := ⟨RX2, "isPassing", "(I)Z"⟩
abbrev cX2_passingLines : ByteArray := prog_4_method_8_code
def yX2_passingLines : MethodName := ⟨RX2, "passingLines", "()I"⟩
abbrev cX2_allFactors : ByteArray := prog_4_method_9_code
def yX2_allFactors : MethodName := ⟨RX2, "allFactors", "()I"⟩
abbrev cX2_spreadVectors : ByteArray := prog_4_method_10_code
def yX2_spreadVectors : MethodName := ⟨RX2, "spreadVectors", "(I)V"⟩
abbrev cX2_spreadBytes : ByteArray := prog_4_method_11_code
def yX2_spreadBytes : MethodName := ⟨RX2, "spreadBytes", "()V"⟩
abbrev cX2_mixed : ByteArray := prog_4_method_12_code
def yX2_mixed : MethodName := ⟨RX2, "mixed", "(I[J[J)J"⟩
def RX3 : String := "MixingRelays$Span"
def TX3 : u_T := fun k => match k with
  | 0 => ("MixingRelays$Span", "net", "LMixingRelays$Net;", true)
  | 1 => ("MixingRelays$Span", "rows", "[J", true)
  | 2 => ("MixingRelays$Span", "newLines", "[I", true)
  | _ => ("MixingRelays$Span", "size", "I", false)
def tyX3 : Nat → FieldType := fun k => match k with
  | 0 => .object "MixingRelays$Net"
  | 1 => .array .long
  | 2 => .array .int
  | _ => .int
abbrev wsX30 : List Cond := u_ws RX3 TX3 4
theorem nmX3 : ∀ a, a < 4 → ∀ b, b < 4 → a ≠ b → (TX3 a).2.1 ≠ (TX3 b).2.1 := by decide +kernel
theorem tyX3_ok : ∀ k, k < 4 → parseFieldDescriptor (TX3 k).2.2.1 = some (tyX3 k) := by decide +kernel
abbrev cX3_init : ByteArray := prog_5_method_1_code
def yX3_init : MethodName := ⟨RX3, "<init>", "(LMixingRelays$Net;)V"⟩
abbrev cX3_rankNow : ByteArray := prog_5_method_2_code
def yX3_rankNow : MethodName := ⟨RX3, "rankNow", "(I)I"⟩
abbrev cX3_gather : ByteArray := prog_5_method_3_code
def yX3_gather : MethodName := ⟨RX3, "gather", "(I)I"⟩
abbrev cX3_take : ByteArray := prog_5_method_4_code
def yX3_take : MethodName := ⟨RX3, "take", "(I)V"⟩
abbrev cX3_lastPieceIn : ByteArray := prog_5_method_5_code
def yX3_lastPieceIn : MethodName := ⟨RX3, "lastPieceIn", "(JI)I"⟩
abbrev cX3_worksOut : ByteArray := prog_5_method_6_code
def yX3_worksOut : MethodName := ⟨RX3, "worksOut", "(I)Z"⟩
abbrev cX3_keyNumber : ByteArray := prog_5_method_7_code
def yX3_keyNumber : MethodName := ⟨RX3, "keyNumber", "(II)I"⟩
abbrev cX3_bytesFor : ByteArray := prog_5_method_8_code
def yX3_bytesFor : MethodName := ⟨RX3, "bytesFor", "(I)J"⟩
abbrev cX3_lackNumber : ByteArray := prog_5_method_9_code
def yX3_lackNumber : MethodName := ⟨RX3, "lackNumber", "(II)I"⟩
abbrev cX3_isMisled : ByteArray := prog_5_method_10_code
def yX3_isMisled : MethodName := ⟨RX3, "isMisled", "()Z"⟩
abbrev cX3_unfinishedEnds : ByteArray := prog_5_method_11_code
def yX3_unfinishedEnds : MethodName := ⟨RX3, "unfinishedEnds", "()I"⟩
def RX4 : String := "MixingRelays$Ways"
def TX4 : u_T := fun k => match k with
  | 0 => ("MixingRelays$Ways", "net", "LMixingRelays$Net;", true)
  | 1 => ("MixingRelays$Ways", "cameBy", "[I", true)
  | 2 => ("MixingRelays$Ways", "taken", "I", false)
  | _ => ("MixingRelays$Ways", "reached", "I", false)
def tyX4 : Nat → FieldType := fun k => match k with
  | 0 => .object "MixingRelays$Net"
  | 1 => .array .int
  | 2 => .int
  | _ => .int
abbrev wsX40 : List Cond := u_ws RX4 TX4 4
theorem nmX4 : ∀ a, a < 4 → ∀ b, b < 4 → a ≠ b → (TX4 a).2.1 ≠ (TX4 b).2.1 := by decide +kernel
theorem tyX4_ok : ∀ k, k < 4 → parseFieldDescriptor (TX4 k).2.2.1 = some (tyX4 k) := by decide +kernel
abbrev cX4_init : ByteArray := prog_6_method_1_code
def yX4_init : MethodName := ⟨RX4, "<init>", "(LMixingRelays$Net;)V"⟩
abbrev cX4_mostTo : ByteArray := prog_6_method_2_code
def yX4_mostTo : MethodName := ⟨RX4, "mostTo", "(I)I"⟩
abbrev cX4_cutLine : ByteArray := prog_6_method_3_code
def yX4_cutLine : MethodName := ⟨RX4, "cutLine", "(I)I"⟩
abbrev cX4_reach : ByteArray := prog_6_method_4_code
def yX4_reach : MethodName := ⟨RX4, "reach", "()V"⟩
abbrev cX4_reachBy : ByteArray := prog_6_method_5_code
def yX4_reachBy : MethodName := ⟨RX4, "reachBy", "(I)V"⟩
abbrev cX4_turnWayTo : ByteArray := prog_6_method_6_code
def yX4_turnWayTo : MethodName := ⟨RX4, "turnWayTo", "(I)V"⟩
def RX5 : String := "MixingRelays"
def TX5 : u_T := fun k => match k with
  | 0 => ("MixingRelays", "net", "LMixingRelays$Net;", true)
  | 1 => ("MixingRelays", "ways", "LMixingRelays$Ways;", true)
  | 2 => ("MixingRelays", "span", "LMixingRelays$Span;", true)
  | 3 => ("MixingRelays", "mixer", "LMixingRelays$Mixer;", true)
  | _ => ("MixingRelays", "breaker", "LMixingRelays$Breaker;", true)
def tyX5 : Nat → FieldType := fun k => match k with
  | 0 => .object "MixingRelays$Net"
  | 1 => .object "MixingRelays$Ways"
  | 2 => .object "MixingRelays$Span"
  | 3 => .object "MixingRelays$Mixer"
  | _ => .object "MixingRelays$Breaker"
abbrev wsX50 : List Cond := u_ws RX5 TX5 5
theorem nmX5 : ∀ a, a < 5 → ∀ b, b < 5 → a ≠ b → (TX5 a).2.1 ≠ (TX5 b).2.1 := by decide +kernel
theorem tyX5_ok : ∀ k, k < 5 → parseFieldDescriptor (TX5 k).2.2.1 = some (tyX5 k) := by decide +kernel
abbrev cX5_init : ByteArray := prog_1_method_1_code
def yX5_init : MethodName := ⟨RX5, "<init>", "()V"⟩
abbrev cX5_relay : ByteArray := prog_1_method_2_code
def yX5_relay : MethodName := ⟨RX5, "relay", "()I"⟩
abbrev cX5_line : ByteArray := prog_1_method_3_code
def yX5_line : MethodName := ⟨RX5, "line", "(II)I"⟩
abbrev cX5_pieces : ByteArray := prog_1_method_4_code
def yX5_pieces : MethodName := ⟨RX5, "pieces", "(I)I"⟩
abbrev cX5_piece : ByteArray := prog_1_method_5_code
def yX5_piece : MethodName := ⟨RX5, "piece", "(IJ)I"⟩
abbrev cX5_end : ByteArray := prog_1_method_6_code
def yX5_end : MethodName := ⟨RX5, "end", "(II)I"⟩
abbrev cX5_factor : ByteArray := prog_1_method_7_code
def yX5_factor : MethodName := ⟨RX5, "factor", "(III)I"⟩
abbrev cX5_keep : ByteArray := prog_1_method_8_code
def yX5_keep : MethodName := ⟨RX5, "keep", "(II)I"⟩
abbrev cX5_broken : ByteArray := prog_1_method_9_code
def yX5_broken : MethodName := ⟨RX5, "broken", "(II)I"⟩
abbrev cX5_bend : ByteArray := prog_1_method_10_code
def yX5_bend : MethodName := ⟨RX5, "bend", "(IJ)I"⟩
abbrev cX5_about : ByteArray := prog_1_method_11_code
def yX5_about : MethodName := ⟨RX5, "about", "(II)I"⟩
abbrev cX5_times : ByteArray := prog_1_method_12_code
def yX5_times : MethodName := ⟨RX5, "times", "(II)I"⟩
abbrev cX5_inverse : ByteArray := prog_1_method_13_code
def yX5_inverse : MethodName := ⟨RX5, "inverse", "(I)I"⟩
abbrev cX5_flow : ByteArray := prog_1_method_14_code
def yX5_flow : MethodName := ⟨RX5, "flow", "(I)I"⟩
abbrev cX5_cut : ByteArray := prog_1_method_15_code
def yX5_cut : MethodName := ⟨RX5, "cut", "(II)I"⟩
abbrev cX5_rate : ByteArray := prog_1_method_16_code
def yX5_rate : MethodName := ⟨RX5, "rate", "()I"⟩
abbrev cX5_vector : ByteArray := prog_1_method_17_code
def yX5_vector : MethodName := ⟨RX5, "vector", "(II)I"⟩
abbrev cX5_carries : ByteArray := prog_1_method_18_code
def yX5_carries : MethodName := ⟨RX5, "carries", "(I)J"⟩
abbrev cX5_rank : ByteArray := prog_1_method_19_code
def yX5_rank : MethodName := ⟨RX5, "rank", "(I)I"⟩
abbrev cX5_fresh : ByteArray := prog_1_method_20_code
def yX5_fresh : MethodName := ⟨RX5, "fresh", "(II)I"⟩
abbrev cX5_solves : ByteArray := prog_1_method_21_code
def yX5_solves : MethodName := ⟨RX5, "solves", "(II)I"⟩
abbrev cX5_key : ByteArray := prog_1_method_22_code
def yX5_key : MethodName := ⟨RX5, "key", "(III)I"⟩
abbrev cX5_gets : ByteArray := prog_1_method_23_code
def yX5_gets : MethodName := ⟨RX5, "gets", "(II)J"⟩
abbrev cX5_lack : ByteArray := prog_1_method_24_code
def yX5_lack : MethodName := ⟨RX5, "lack", "(III)I"⟩
abbrev cX5_wrong : ByteArray := prog_1_method_25_code
def yX5_wrong : MethodName := ⟨RX5, "wrong", "()I"⟩
abbrev cX5_left : ByteArray := prog_1_method_26_code
def yX5_left : MethodName := ⟨RX5, "left", "()I"⟩
abbrev cX5_draw : ByteArray := prog_1_method_27_code
def yX5_draw : MethodName := ⟨RX5, "draw", "(I)I"⟩
abbrev cX5_find : ByteArray := prog_1_method_28_code
def yX5_find : MethodName := ⟨RX5, "find", "()I"⟩
abbrev cX5_leave : ByteArray := prog_1_method_29_code
def yX5_leave : MethodName := ⟨RX5, "leave", "()I"⟩
abbrev cX5_safe : ByteArray := prog_1_method_30_code
def yX5_safe : MethodName := ⟨RX5, "safe", "(II)I"⟩
abbrev cX5_breaks : ByteArray := prog_1_method_31_code
def yX5_breaks : MethodName := ⟨RX5, "breaks", "(III)I"⟩
abbrev cX5_count : ByteArray := prog_1_method_32_code
def yX5_count : MethodName := ⟨RX5, "count", "(I)I"⟩
abbrev cX5_refusalOf : ByteArray := prog_1_method_33_code
def yX5_refusalOf : MethodName := ⟨RX5, "refusalOf", "(I)I"⟩
abbrev cX5_refusalOf_ : ByteArray := prog_1_method_34_code
def yX5_refusalOf_ : MethodName := ⟨RX5, "refusalOf", "(II)I"⟩
abbrev cX5_isFlag : ByteArray := prog_1_method_35_code
def yX5_isFlag : MethodName := ⟨RX5, "isFlag", "(I)Z"⟩
abbrev cX5_isNumber : ByteArray := prog_1_method_36_code
def yX5_isNumber : MethodName := ⟨RX5, "isNumber", "(I)Z"⟩
abbrev cX5_isBreakCount : ByteArray := prog_1_method_37_code
def yX5_isBreakCount : MethodName := ⟨RX5, "isBreakCount", "(I)Z"⟩
abbrev cX5_asFlag : ByteArray := prog_1_method_38_code
def yX5_asFlag : MethodName := ⟨RX5, "asFlag", "(Z)I"⟩
abbrev cX5_flag : ByteArray := prog_1_method_39_code
def yX5_flag : MethodName := ⟨RX5, "flag", "(II)I"⟩
abbrev cX5_withFlag : ByteArray := prog_1_method_40_code
def yX5_withFlag : MethodName := ⟨RX5, "withFlag", "(III)I"⟩
abbrev cX5_slot : ByteArray := prog_1_method_41_code
def yX5_slot : MethodName := ⟨RX5, "slot", "(II)I"⟩
abbrev cX5_byteOf : ByteArray := prog_1_method_42_code
def yX5_byteOf : MethodName := ⟨RX5, "byteOf", "(JI)I"⟩
abbrev cX5_scaled : ByteArray := prog_1_method_43_code
def yX5_scaled : MethodName := ⟨RX5, "scaled", "(JI)J"⟩
abbrev cX5_product : ByteArray := prog_1_method_44_code
def yX5_product : MethodName := ⟨RX5, "product", "(II)I"⟩
abbrev cX5_inverseOf : ByteArray := prog_1_method_45_code
def yX5_inverseOf : MethodName := ⟨RX5, "inverseOf", "(I)I"⟩
def RX6 : String := "MixingRelaysModel"
def TX6 : u_T := fun k => match k with
  | 0 => ("MixingRelaysModel", "thrown", "I", false)
  | 1 => ("MixingRelaysModel", "relays", "I", false)
  | 2 => ("MixingRelaysModel", "lines", "I", false)
  | 3 => ("MixingRelaysModel", "h", "I", false)
  | 4 => ("MixingRelaysModel", "pieces", "[J", true)
  | 5 => ("MixingRelaysModel", "isEnd", "[Z", true)
  | 6 => ("MixingRelaysModel", "from", "[I", true)
  | 7 => ("MixingRelaysModel", "to", "[I", true)
  | 8 => ("MixingRelaysModel", "kept", "[Z", true)
  | 9 => ("MixingRelaysModel", "broken", "[Z", true)
  | 10 => ("MixingRelaysModel", "bent", "[J", true)
  | 11 => ("MixingRelaysModel", "factors", "[I", true)
  | 12 => ("MixingRelaysModel", "used", "[Z", true)
  | 13 => ("MixingRelaysModel", "come", "[Z", true)
  | 14 => ("MixingRelaysModel", "by", "[I", true)
  | 15 => ("MixingRelaysModel", "vectors", "[I", true)
  | 16 => ("MixingRelaysModel", "carried", "[J", true)
  | 17 => ("MixingRelaysModel", "alsoA", "I", false)
  | 18 => ("MixingRelaysModel", "alsoB", "I", false)
  | 19 => ("MixingRelaysModel", "rows", "[I", true)
  | 20 => ("MixingRelaysModel", "lead", "[I", true)
  | 21 => ("MixingRelaysModel", "fresh", "[I", true)
  | 22 => ("MixingRelaysModel", "rank", "I", false)
  | 23 => ("MixingRelaysModel", "row", "[I", true)
  | 24 => ("MixingRelaysModel", "lacks", "[I", true)
  | 25 => ("MixingRelaysModel", "matrix", "[I", true)
  | 26 => ("MixingRelaysModel", "before", "[I", true)
  | 27 => ("MixingRelaysModel", "ranks", "[I", true)
  | 28 => ("MixingRelaysModel", "breakA", "I", false)
  | 29 => ("MixingRelaysModel", "breakB", "I", false)
  | _ => ("MixingRelaysModel", "breakEnd", "I", false)
def tyX6 : Nat → FieldType := fun k => match k with
  | 0 => .int
  | 1 => .int
  | 2 => .int
  | 3 => .int
  | 4 => .array .long
  | 5 => .array .boolean
  | 6 => .array .int
  | 7 => .array .int
  | 8 => .array .boolean
  | 9 => .array .boolean
  | 10 => .array .long
  | 11 => .array .int
  | 12 => .array .boolean
  | 13 => .array .boolean
  | 14 => .array .int
  | 15 => .array .int
  | 16 => .array .long
  | 17 => .int
  | 18 => .int
  | 19 => .array .int
  | 20 => .array .int
  | 21 => .array .int
  | 22 => .int
  | 23 => .array .int
  | 24 => .array .int
  | 25 => .array .int
  | 26 => .array .int
  | 27 => .array .int
  | 28 => .int
  | 29 => .int
  | _ => .int
abbrev wsX60 : List Cond := u_ws RX6 TX6 31
theorem nmX6 : ∀ a, a < 31 → ∀ b, b < 31 → a ≠ b → (TX6 a).2.1 ≠ (TX6 b).2.1 := by decide +kernel
theorem tyX6_ok : ∀ k, k < 31 → parseFieldDescriptor (TX6 k).2.2.1 = some (tyX6 k) := by decide +kernel
abbrev cX6_init : ByteArray := prog_8_method_1_code
def yX6_init : MethodName := ⟨RX6, "<init>", "()V"⟩
abbrev cX6_in : ByteArray := prog_8_method_3_code
def yX6_in : MethodName := ⟨RX6, "in", "(III)Z"⟩
abbrev cX6_product : ByteArray := prog_8_method_4_code
def yX6_product : MethodName := ⟨RX6, "product", "(II)I"⟩
abbrev cX6_inverseOf : ByteArray := prog_8_method_5_code
def yX6_inverseOf : MethodName := ⟨RX6, "inverseOf", "(I)I"⟩
abbrev cX6_product_ : ByteArray := prog_8_method_6_code
def yX6_product_ : MethodName := ⟨RX6, "product", "(IJ)J"⟩
abbrev cX6_times : ByteArray := prog_8_method_7_code
def yX6_times : MethodName := ⟨RX6, "times", "(II)I"⟩
abbrev cX6_inverse : ByteArray := prog_8_method_8_code
def yX6_inverse : MethodName := ⟨RX6, "inverse", "(I)I"⟩
abbrev cX6_isRelay : ByteArray := prog_8_method_9_code
def yX6_isRelay : MethodName := ⟨RX6, "isRelay", "(I)Z"⟩
abbrev cX6_isLine : ByteArray := prog_8_method_10_code
def yX6_isLine : MethodName := ⟨RX6, "isLine", "(I)Z"⟩
abbrev cX6_waysIn : ByteArray := prog_8_method_11_code
def yX6_waysIn : MethodName := ⟨RX6, "waysIn", "(I)I"⟩
abbrev cX6_ins : ByteArray := prog_8_method_12_code
def yX6_ins : MethodName := ⟨RX6, "ins", "(I)I"⟩
abbrev cX6_lineIn : ByteArray := prog_8_method_13_code
def yX6_lineIn : MethodName := ⟨RX6, "lineIn", "(II)I"⟩
abbrev cX6_relay : ByteArray := prog_8_method_14_code
def yX6_relay : MethodName := ⟨RX6, "relay", "()I"⟩
abbrev cX6_line : ByteArray := prog_8_method_15_code
def yX6_line : MethodName := ⟨RX6, "line", "(II)I"⟩
abbrev cX6_pieces : ByteArray := prog_8_method_16_code
def yX6_pieces : MethodName := ⟨RX6, "pieces", "(I)I"⟩
abbrev cX6_piece : ByteArray := prog_8_method_17_code
def yX6_piece : MethodName := ⟨RX6, "piece", "(IJ)I"⟩
abbrev cX6_end : ByteArray := prog_8_method_18_code
def yX6_end : MethodName := ⟨RX6, "end", "(II)I"⟩
abbrev cX6_factor : ByteArray := prog_8_method_19_code
def yX6_factor : MethodName := ⟨RX6, "factor", "(III)I"⟩
abbrev cX6_keep : ByteArray := prog_8_method_20_code
def yX6_keep : MethodName := ⟨RX6, "keep", "(II)I"⟩
abbrev cX6_broken : ByteArray := prog_8_method_21_code
def yX6_broken : MethodName := ⟨RX6, "broken", "(II)I"⟩
abbrev cX6_bend : ByteArray := prog_8_method_22_code
def yX6_bend : MethodName := ⟨RX6, "bend", "(IJ)I"⟩
abbrev cX6_isPassing : ByteArray := prog_8_method_23_code
def yX6_isPassing : MethodName := ⟨RX6, "isPassing", "(I)Z"⟩
abbrev cX6_about : ByteArray := prog_8_method_24_code
def yX6_about : MethodName := ⟨RX6, "about", "(II)I"⟩
abbrev cX6_seek : ByteArray := prog_8_method_25_code
def yX6_seek : MethodName := ⟨RX6, "seek", "()V"⟩
abbrev cX6_flowOf : ByteArray := prog_8_method_26_code
def yX6_flowOf : MethodName := ⟨RX6, "flowOf", "(I)I"⟩
abbrev cX6_flow : ByteArray := prog_8_method_27_code
def yX6_flow : MethodName := ⟨RX6, "flow", "(I)I"⟩
abbrev cX6_cut : ByteArray := prog_8_method_28_code
def yX6_cut : MethodName := ⟨RX6, "cut", "(II)I"⟩
abbrev cX6_rate : ByteArray := prog_8_method_29_code
def yX6_rate : MethodName := ⟨RX6, "rate", "()I"⟩
abbrev cX6_work : ByteArray := prog_8_method_30_code
def yX6_work : MethodName := ⟨RX6, "work", "()V"⟩
abbrev cX6_workLine : ByteArray := prog_8_method_31_code
def yX6_workLine : MethodName := ⟨RX6, "workLine", "(I)V"⟩
abbrev cX6_vector : ByteArray := prog_8_method_32_code
def yX6_vector : MethodName := ⟨RX6, "vector", "(II)I"⟩
abbrev cX6_carries : ByteArray := prog_8_method_33_code
def yX6_carries : MethodName := ⟨RX6, "carries", "(I)J"⟩
abbrev cX6_reduce : ByteArray := prog_8_method_34_code
def yX6_reduce : MethodName := ⟨RX6, "reduce", "()V"⟩
abbrev cX6_steps : ByteArray := prog_8_method_35_code
def yX6_steps : MethodName := ⟨RX6, "steps", "()Z"⟩
abbrev cX6_study : ByteArray := prog_8_method_36_code
def yX6_study : MethodName := ⟨RX6, "study", "(I)V"⟩
abbrev cX6_rankOf : ByteArray := prog_8_method_37_code
def yX6_rankOf : MethodName := ⟨RX6, "rankOf", "(I)I"⟩
abbrev cX6_solvesFor : ByteArray := prog_8_method_38_code
def yX6_solvesFor : MethodName := ⟨RX6, "solvesFor", "(I)Z"⟩
abbrev cX6_rank : ByteArray := prog_8_method_39_code
def yX6_rank : MethodName := ⟨RX6, "rank", "(I)I"⟩
abbrev cX6_fresh : ByteArray := prog_8_method_40_code
def yX6_fresh : MethodName := ⟨RX6, "fresh", "(II)I"⟩
abbrev cX6_solves : ByteArray := prog_8_method_41_code
def yX6_solves : MethodName := ⟨RX6, "solves", "(II)I"⟩
abbrev cX6_key : ByteArray := prog_8_method_42_code
def yX6_key : MethodName := ⟨RX6, "key", "(III)I"⟩
abbrev cX6_getsOf : ByteArray := prog_8_method_43_code
def yX6_getsOf : MethodName := ⟨RX6, "getsOf", "(I)J"⟩
abbrev cX6_gets : ByteArray := prog_8_method_44_code
def yX6_gets : MethodName := ⟨RX6, "gets", "(II)J"⟩
abbrev cX6_goes : ByteArray := prog_8_method_45_code
def yX6_goes : MethodName := ⟨RX6, "goes", "(II)Z"⟩
abbrev cX6_isSolvable : ByteArray := prog_8_method_46_code
def yX6_isSolvable : MethodName := ⟨RX6, "isSolvable", "(I)Z"⟩
abbrev cX6_lack : ByteArray := prog_8_method_47_code
def yX6_lack : MethodName := ⟨RX6, "lack", "(III)I"⟩
abbrev cX6_hasAll : ByteArray := prog_8_method_48_code
def yX6_hasAll : MethodName := ⟨RX6, "hasAll", "(I)Z"⟩
abbrev cX6_wrong : ByteArray := prog_8_method_49_code
def yX6_wrong : MethodName := ⟨RX6, "wrong", "()I"⟩
abbrev cX6_left : ByteArray := prog_8_method_50_code
def yX6_left : MethodName := ⟨RX6, "left", "()I"⟩
abbrev cX6_draw : ByteArray := prog_8_method_51_code
def yX6_draw : MethodName := ⟨RX6, "draw", "(I)I"⟩
abbrev cX6_ends : ByteArray := prog_8_method_52_code
def yX6_ends : MethodName := ⟨RX6, "ends", "()I"⟩
abbrev cX6_find : ByteArray := prog_8_method_53_code
def yX6_find : MethodName := ⟨RX6, "find", "()I"⟩
abbrev cX6_isAsBefore : ByteArray := prog_8_method_54_code
def yX6_isAsBefore : MethodName := ⟨RX6, "isAsBefore", "()Z"⟩
abbrev cX6_leaves : ByteArray := prog_8_method_55_code
def yX6_leaves : MethodName := ⟨RX6, "leaves", "(I)Z"⟩
abbrev cX6_leave : ByteArray := prog_8_method_56_code
def yX6_leave : MethodName := ⟨RX6, "leave", "()I"⟩
abbrev cX6_lowEnd : ByteArray := prog_8_method_57_code
def yX6_lowEnd : MethodName := ⟨RX6, "lowEnd", "(III)I"⟩
abbrev cX6_breaksAt : ByteArray := prog_8_method_58_code
def yX6_breaksAt : MethodName := ⟨RX6, "breaksAt", "(III)Z"⟩
abbrev cX6_hasBreak : ByteArray := prog_8_method_59_code
def yX6_hasBreak : MethodName := ⟨RX6, "hasBreak", "(II)Z"⟩
abbrev cX6_safe : ByteArray := prog_8_method_60_code
def yX6_safe : MethodName := ⟨RX6, "safe", "(II)I"⟩
abbrev cX6_breaks : ByteArray := prog_8_method_61_code
def yX6_breaks : MethodName := ⟨RX6, "breaks", "(III)I"⟩
abbrev cX6_count : ByteArray := prog_8_method_62_code
def yX6_count : MethodName := ⟨RX6, "count", "(I)I"⟩
def RJ6 : String := "java/lang/Integer"
def TJ6 : u_T := fun k => match k with
  | _ => ("", "", "", false)
def tyJ6 : Nat → FieldType := fun k => match k with
  | _ => .int
abbrev wsJ60 : List Cond := u_ws RJ6 TJ6 0
theorem nmJ6 : ∀ a, a < 0 → ∀ b, b < 0 → a ≠ b → (TJ6 a).2.1 ≠ (TJ6 b).2.1 := by decide +kernel
theorem tyJ6_ok : ∀ k, k < 0 → parseFieldDescriptor (TJ6 k).2.2.1 = some (tyJ6 k) := by decide +kernel
abbrev cJ6_bitCount_0f7a4 : ByteArray := prog_9_method_49_code
def yJ6_bitCount_0f7a4 : MethodName := ⟨RJ6, "bitCount", "(I)I"⟩
def RJ9 : String := "java/lang/Math"
def TJ9 : u_T := fun k => match k with
  | _ => ("", "", "", false)
def tyJ9 : Nat → FieldType := fun k => match k with
  | _ => .int
abbrev wsJ90 : List Cond := u_ws RJ9 TJ9 0
theorem nmJ9 : ∀ a, a < 0 → ∀ b, b < 0 → a ≠ b → (TJ9 a).2.1 ≠ (TJ9 b).2.1 := by decide +kernel
theorem tyJ9_ok : ∀ k, k < 0 → parseFieldDescriptor (TJ9 k).2.2.1 = some (tyJ9 k) := by decide +kernel
abbrev cJ9_min_7cf53 : ByteArray := prog_10_method_69_code
def yJ9_min_7cf53 : MethodName := ⟨RJ9, "min", "(II)I"⟩
def RJ10 : String := "java/lang/System"
def TJ10 : u_T := fun k => match k with
  | _ => ("", "", "", false)
def tyJ10 : Nat → FieldType := fun k => match k with
  | _ => .int
abbrev wsJ100 : List Cond := u_ws RJ10 TJ10 0
theorem nmJ10 : ∀ a, a < 0 → ∀ b, b < 0 → a ≠ b → (TJ10 a).2.1 ≠ (TJ10 b).2.1 := by decide +kernel
theorem tyJ10_ok : ∀ k, k < 0 → parseFieldDescriptor (TJ10 k).2.2.1 = some (tyJ10 k) := by decide +kernel
def RJ7 : String := "java/util/Arrays"
def TJ7 : u_T := fun k => match k with
  | _ => ("", "", "", false)
def tyJ7 : Nat → FieldType := fun k => match k with
  | _ => .int
abbrev wsJ70 : List Cond := u_ws RJ7 TJ7 0
theorem nmJ7 : ∀ a, a < 0 → ∀ b, b < 0 → a ≠ b → (TJ7 a).2.1 ≠ (TJ7 b).2.1 := by decide +kernel
theorem tyJ7_ok : ∀ k, k < 0 → parseFieldDescriptor (TJ7 k).2.2.1 = some (tyJ7 k) := by decide +kernel
abbrev cJ7_rangeCheck_23922 : ByteArray := prog_12_method_30_code
def yJ7_rangeCheck_23922 : MethodName := ⟨RJ7, "rangeCheck", "(III)V"⟩
abbrev cJ7_fill_d0a16 : ByteArray := prog_12_method_101_code
def yJ7_fill_d0a16 : MethodName := ⟨RJ7, "fill", "([JJ)V"⟩
abbrev cJ7_fill_fda19 : ByteArray := prog_12_method_104_code
def yJ7_fill_fda19 : MethodName := ⟨RJ7, "fill", "([IIII)V"⟩
def RL : String := "MixingRelaysLaw"
abbrev cL_law : ByteArray := code
def yL_law : MethodName := ⟨RL, "law", "([I)Z"⟩
def wsX0_init : List Cond := .code yX0_init cX0_init 3 none :: ([.methodLink RX0 3 objectInit, .instanceMethod objectInit, .code objectInit ⟨#[0xb1]⟩ 1 none, .fieldLink RX0 9 "MixingRelays$Breaker" "lesser" "I", .fieldLink RX0 15 "MixingRelays$Breaker" "greater" "I", .fieldLink RX0 18 "MixingRelays$Breaker" "weakEnd" "I", .fieldLink RX0 21 "MixingRelays$Breaker" "net" "LMixingRelays$Net;", .fieldLink RX0 25 "MixingRelays$Breaker" "span" "LMixingRelays$Span;"] ++ wsX00)
def wsX5_flag : List Cond := .code yX5_flag cX5_flag 2 (some .int) :: ([])
def wsX2_insOf : List Cond := .code yX2_insOf cX2_insOf 2 (some .int) :: ([.fieldLink RX2 30 "MixingRelays$Net" "from" "[I", .fieldLink RX2 18 "MixingRelays$Net" "pieces" "I", .fieldLink RX2 50 "MixingRelays$Net" "leadingCount" "[I"] ++ wsX20)
def wsX5_slot : List Cond := .code yX5_slot cX5_slot 2 (some .int) :: ([])
def wsX5_scaled : List Cond := .code yX5_scaled cX5_scaled 11 (some .long) :: ([.constantLong RX5 236 (72340172838076673), .constantLong RX5 238 (9187201950435737471), .constantLong RX5 240 (27)])
def wsX2_mixed : List Cond := .code yX2_mixed cX2_mixed 11 (some .long) :: ([.fieldLink RX2 30 "MixingRelays$Net" "from" "[I", .fieldLink RX2 47 "MixingRelays$Net" "leading" "[I", .fieldLink RX2 44 "MixingRelays$Net" "factors" "[I", .methodLink RX2 66 yX2_insOf, .instanceMethod yX2_insOf, .selects RX2 yX2_insOf yX2_insOf, .initialized RX2, .code yX2_insOf cX2_insOf 2 (some .int), .fieldLink RX2 18 "MixingRelays$Net" "pieces" "I", .fieldLink RX2 50 "MixingRelays$Net" "leadingCount" "[I", .static yX5_slot, .initialized RX5, .code yX5_slot cX5_slot 2 (some .int), .static yX5_scaled, .code yX5_scaled cX5_scaled 11 (some .long), .constantLong RX5 236 (72340172838076673), .constantLong RX5 238 (9187201950435737471), .constantLong RX5 240 (27)] ++ wsX20)
def wsX2_spreadVectors_r1 : List Cond := [Cond.fieldLink RX2 15 "MixingRelays$Net" "lines" "I", Cond.fieldLink RX2 53 "MixingRelays$Net" "order" "[I", Cond.fieldLink RX2 56 "MixingRelays$Net" "vectors" "[J", Cond.static yX5_flag, Cond.initialized RX5, Cond.code yX5_flag cX5_flag 2 (some .int), Cond.methodLink RX2 84 yX2_mixed, Cond.instanceMethod yX2_mixed, Cond.selects RX2 yX2_mixed yX2_mixed, Cond.initialized RX2, Cond.code yX2_mixed cX2_mixed 11 (some .long), Cond.fieldLink RX2 30 "MixingRelays$Net" "from" "[I", Cond.fieldLink RX2 47 "MixingRelays$Net" "leading" "[I", Cond.fieldLink RX2 44 "MixingRelays$Net" "factors" "[I", Cond.methodLink RX2 66 yX2_insOf, Cond.instanceMethod yX2_insOf, Cond.selects RX2 yX2_insOf yX2_insOf, Cond.code yX2_insOf cX2_insOf 2 (some .int), Cond.fieldLink RX2 18 "MixingRelays$Net" "pieces" "I", Cond.fieldLink RX2 50 "MixingRelays$Net" "leadingCount" "[I", Cond.static yX5_slot, Cond.code yX5_slot cX5_slot 2 (some .int), Cond.static yX5_scaled, Cond.code yX5_scaled cX5_scaled 11 (some .long)]
def wsX2_spreadVectors_r2 : List Cond := [Cond.constantLong RX5 236 (72340172838076673), Cond.constantLong RX5 238 (9187201950435737471), Cond.constantLong RX5 240 (27)]
def wsX2_spreadVectors : List Cond := .code yX2_spreadVectors cX2_spreadVectors 4 none :: ((wsX2_spreadVectors_r1 ++ wsX2_spreadVectors_r2) ++ wsX20)
def wsJ7_fill_d0a16 : List Cond := .code yJ7_fill_d0a16 cJ7_fill_d0a16 5 none :: ([])
def wsX5_byteOf : List Cond := .code yX5_byteOf cX5_byteOf 3 (some .int) :: ([])
def wsX3_lastPieceIn : List Cond := .code yX3_lastPieceIn cX3_lastPieceIn 4 (some .int) :: ([.static yX5_byteOf, .initialized RX5, .code yX5_byteOf cX5_byteOf 3 (some .int)])
def wsX5_product : List Cond := .code yX5_product cX5_product 2 (some .int) :: ([.methodLink RX5 242 yX5_scaled, .static yX5_scaled, .initialized RX5, .code yX5_scaled cX5_scaled 11 (some .long), .constantLong RX5 236 (72340172838076673), .constantLong RX5 238 (9187201950435737471), .constantLong RX5 240 (27)])
def wsX5_inverseOf : List Cond := .code yX5_inverseOf cX5_inverseOf 4 (some .int) :: ([.methodLink RX5 131 yX5_product, .static yX5_product, .initialized RX5, .code yX5_product cX5_product 2 (some .int), .methodLink RX5 242 yX5_scaled, .static yX5_scaled, .code yX5_scaled cX5_scaled 11 (some .long), .constantLong RX5 236 (72340172838076673), .constantLong RX5 238 (9187201950435737471), .constantLong RX5 240 (27)])
def wsX3_take : List Cond := .code yX3_take cX3_take 6 none :: ([.fieldLink RX3 23 "MixingRelays$Span" "net" "LMixingRelays$Net;", .fieldLink RX3 62 "MixingRelays$Net" "vectors" "[J", .fieldLink RX3 19 "MixingRelays$Span" "size" "I", .fieldLink RX3 49 "MixingRelays$Net" "pieces" "I", .fieldLink RX3 9 "MixingRelays$Span" "rows" "[J", .fieldLink RX3 15 "MixingRelays$Span" "newLines" "[I", .static yX5_byteOf, .initialized RX5, .code yX5_byteOf cX5_byteOf 3 (some .int), .static yX5_scaled, .code yX5_scaled cX5_scaled 11 (some .long), .constantLong RX5 236 (72340172838076673), .constantLong RX5 238 (9187201950435737471), .constantLong RX5 240 (27), .methodLink RX3 76 yX3_lastPieceIn, .static yX3_lastPieceIn, .initialized RX3, .code yX3_lastPieceIn cX3_lastPieceIn 4 (some .int), .static yX5_inverseOf, .code yX5_inverseOf cX5_inverseOf 4 (some .int), .methodLink RX5 131 yX5_product, .static yX5_product, .code yX5_product cX5_product 2 (some .int), .methodLink RX5 242 yX5_scaled] ++ wsX30 ++ wsX20)
def wsX3_gather_r1 : List Cond := [Cond.fieldLink RX3 19 "MixingRelays$Span" "size" "I", Cond.fieldLink RX3 9 "MixingRelays$Span" "rows" "[J", Cond.fieldLink RX3 23 "MixingRelays$Span" "net" "LMixingRelays$Net;", Cond.fieldLink RX3 46 "MixingRelays$Net" "leadingCount" "[I", Cond.fieldLink RX3 49 "MixingRelays$Net" "pieces" "I", Cond.fieldLink RX3 52 "MixingRelays$Net" "leading" "[I", Cond.methodLink RX3 40 yJ7_fill_d0a16, Cond.static yJ7_fill_d0a16, Cond.initialized RJ7, Cond.code yJ7_fill_d0a16 cJ7_fill_d0a16 5 none, Cond.static yX5_slot, Cond.initialized RX5, Cond.code yX5_slot cX5_slot 2 (some .int), Cond.methodLink RX3 59 yX3_take, Cond.instanceMethod yX3_take, Cond.selects RX3 yX3_take yX3_take, Cond.initialized RX3, Cond.code yX3_take cX3_take 6 none, Cond.fieldLink RX3 62 "MixingRelays$Net" "vectors" "[J", Cond.fieldLink RX3 15 "MixingRelays$Span" "newLines" "[I", Cond.static yX5_byteOf, Cond.code yX5_byteOf cX5_byteOf 3 (some .int), Cond.static yX5_scaled, Cond.code yX5_scaled cX5_scaled 11 (some .long)]
def wsX3_gather_r2 : List Cond := [Cond.constantLong RX5 236 (72340172838076673), Cond.constantLong RX5 238 (9187201950435737471), Cond.constantLong RX5 240 (27), Cond.methodLink RX3 76 yX3_lastPieceIn, Cond.static yX3_lastPieceIn, Cond.code yX3_lastPieceIn cX3_lastPieceIn 4 (some .int), Cond.static yX5_inverseOf, Cond.code yX5_inverseOf cX5_inverseOf 4 (some .int), Cond.methodLink RX5 131 yX5_product, Cond.static yX5_product, Cond.code yX5_product cX5_product 2 (some .int), Cond.methodLink RX5 242 yX5_scaled]
def wsX3_gather : List Cond := .code yX3_gather cX3_gather 3 (some .int) :: ((wsX3_gather_r1 ++ wsX3_gather_r2) ++ wsX30 ++ wsX20)
def wsX0_weakens_r1 : List Cond := [Cond.fieldLink RX0 21 "MixingRelays$Breaker" "net" "LMixingRelays$Net;", Cond.fieldLink RX0 45 "MixingRelays$Net" "down" "I", Cond.fieldLink RX0 56 "MixingRelays$Net" "relays" "I", Cond.fieldLink RX0 59 "MixingRelays$Net" "ends" "I", Cond.fieldLink RX0 25 "MixingRelays$Breaker" "span" "LMixingRelays$Span;", Cond.fieldLink RX0 18 "MixingRelays$Breaker" "weakEnd" "I", Cond.methodLink RX0 52 yX2_spreadVectors, Cond.instanceMethod yX2_spreadVectors, Cond.selects RX2 yX2_spreadVectors yX2_spreadVectors, Cond.initialized RX2, Cond.code yX2_spreadVectors cX2_spreadVectors 4 none, Cond.fieldLink RX2 15 "MixingRelays$Net" "lines" "I", Cond.fieldLink RX2 53 "MixingRelays$Net" "order" "[I", Cond.fieldLink RX2 56 "MixingRelays$Net" "vectors" "[J", Cond.static yX5_flag, Cond.initialized RX5, Cond.code yX5_flag cX5_flag 2 (some .int), Cond.methodLink RX2 84 yX2_mixed, Cond.instanceMethod yX2_mixed, Cond.selects RX2 yX2_mixed yX2_mixed, Cond.code yX2_mixed cX2_mixed 11 (some .long), Cond.fieldLink RX2 30 "MixingRelays$Net" "from" "[I", Cond.fieldLink RX2 47 "MixingRelays$Net" "leading" "[I", Cond.fieldLink RX2 44 "MixingRelays$Net" "factors" "[I"]
def wsX0_weakens_r2 : List Cond := [Cond.methodLink RX2 66 yX2_insOf, Cond.instanceMethod yX2_insOf, Cond.selects RX2 yX2_insOf yX2_insOf, Cond.code yX2_insOf cX2_insOf 2 (some .int), Cond.fieldLink RX2 18 "MixingRelays$Net" "pieces" "I", Cond.fieldLink RX2 50 "MixingRelays$Net" "leadingCount" "[I", Cond.static yX5_slot, Cond.code yX5_slot cX5_slot 2 (some .int), Cond.static yX5_scaled, Cond.code yX5_scaled cX5_scaled 11 (some .long), Cond.constantLong RX5 236 (72340172838076673), Cond.constantLong RX5 238 (9187201950435737471), Cond.constantLong RX5 240 (27), Cond.methodLink RX0 62 yX3_gather, Cond.instanceMethod yX3_gather, Cond.selects RX3 yX3_gather yX3_gather, Cond.initialized RX3, Cond.code yX3_gather cX3_gather 3 (some .int), Cond.fieldLink RX3 19 "MixingRelays$Span" "size" "I", Cond.fieldLink RX3 9 "MixingRelays$Span" "rows" "[J", Cond.fieldLink RX3 23 "MixingRelays$Span" "net" "LMixingRelays$Net;", Cond.fieldLink RX3 46 "MixingRelays$Net" "leadingCount" "[I", Cond.fieldLink RX3 49 "MixingRelays$Net" "pieces" "I", Cond.fieldLink RX3 52 "MixingRelays$Net" "leading" "[I"]
def wsX0_weakens_r3 : List Cond := [Cond.methodLink RX3 40 yJ7_fill_d0a16, Cond.static yJ7_fill_d0a16, Cond.initialized RJ7, Cond.code yJ7_fill_d0a16 cJ7_fill_d0a16 5 none, Cond.methodLink RX3 59 yX3_take, Cond.instanceMethod yX3_take, Cond.selects RX3 yX3_take yX3_take, Cond.code yX3_take cX3_take 6 none, Cond.fieldLink RX3 62 "MixingRelays$Net" "vectors" "[J", Cond.fieldLink RX3 15 "MixingRelays$Span" "newLines" "[I", Cond.static yX5_byteOf, Cond.code yX5_byteOf cX5_byteOf 3 (some .int), Cond.methodLink RX3 76 yX3_lastPieceIn, Cond.static yX3_lastPieceIn, Cond.code yX3_lastPieceIn cX3_lastPieceIn 4 (some .int), Cond.static yX5_inverseOf, Cond.code yX5_inverseOf cX5_inverseOf 4 (some .int), Cond.methodLink RX5 131 yX5_product, Cond.static yX5_product, Cond.code yX5_product cX5_product 2 (some .int), Cond.methodLink RX5 242 yX5_scaled]
def wsX0_weakens : List Cond := .code yX0_weakens cX0_weakens 4 (some .boolean) :: ((wsX0_weakens_r1 ++ (wsX0_weakens_r2 ++ wsX0_weakens_r3)) ++ wsX00 ++ wsX20 ++ wsX30)
def wsX0_searchOne_r1 : List Cond := [Cond.fieldLink RX0 21 "MixingRelays$Breaker" "net" "LMixingRelays$Net;", Cond.fieldLink RX0 40 "MixingRelays$Net" "lines" "I", Cond.fieldLink RX0 45 "MixingRelays$Net" "down" "I", Cond.fieldLink RX0 9 "MixingRelays$Breaker" "lesser" "I", Cond.static yX5_flag, Cond.initialized RX5, Cond.code yX5_flag cX5_flag 2 (some .int), Cond.methodLink RX0 29 yX0_weakens, Cond.instanceMethod yX0_weakens, Cond.selects RX0 yX0_weakens yX0_weakens, Cond.initialized RX0, Cond.code yX0_weakens cX0_weakens 4 (some .boolean), Cond.fieldLink RX0 56 "MixingRelays$Net" "relays" "I", Cond.fieldLink RX0 59 "MixingRelays$Net" "ends" "I", Cond.fieldLink RX0 25 "MixingRelays$Breaker" "span" "LMixingRelays$Span;", Cond.fieldLink RX0 18 "MixingRelays$Breaker" "weakEnd" "I", Cond.methodLink RX0 52 yX2_spreadVectors, Cond.instanceMethod yX2_spreadVectors, Cond.selects RX2 yX2_spreadVectors yX2_spreadVectors, Cond.initialized RX2, Cond.code yX2_spreadVectors cX2_spreadVectors 4 none, Cond.fieldLink RX2 15 "MixingRelays$Net" "lines" "I", Cond.fieldLink RX2 53 "MixingRelays$Net" "order" "[I", Cond.fieldLink RX2 56 "MixingRelays$Net" "vectors" "[J"]
def wsX0_searchOne_r2 : List Cond := [Cond.methodLink RX2 84 yX2_mixed, Cond.instanceMethod yX2_mixed, Cond.selects RX2 yX2_mixed yX2_mixed, Cond.code yX2_mixed cX2_mixed 11 (some .long), Cond.fieldLink RX2 30 "MixingRelays$Net" "from" "[I", Cond.fieldLink RX2 47 "MixingRelays$Net" "leading" "[I", Cond.fieldLink RX2 44 "MixingRelays$Net" "factors" "[I", Cond.methodLink RX2 66 yX2_insOf, Cond.instanceMethod yX2_insOf, Cond.selects RX2 yX2_insOf yX2_insOf, Cond.code yX2_insOf cX2_insOf 2 (some .int), Cond.fieldLink RX2 18 "MixingRelays$Net" "pieces" "I", Cond.fieldLink RX2 50 "MixingRelays$Net" "leadingCount" "[I", Cond.static yX5_slot, Cond.code yX5_slot cX5_slot 2 (some .int), Cond.static yX5_scaled, Cond.code yX5_scaled cX5_scaled 11 (some .long), Cond.constantLong RX5 236 (72340172838076673), Cond.constantLong RX5 238 (9187201950435737471), Cond.constantLong RX5 240 (27), Cond.methodLink RX0 62 yX3_gather, Cond.instanceMethod yX3_gather, Cond.selects RX3 yX3_gather yX3_gather, Cond.initialized RX3]
def wsX0_searchOne_r3 : List Cond := [Cond.code yX3_gather cX3_gather 3 (some .int), Cond.fieldLink RX3 19 "MixingRelays$Span" "size" "I", Cond.fieldLink RX3 9 "MixingRelays$Span" "rows" "[J", Cond.fieldLink RX3 23 "MixingRelays$Span" "net" "LMixingRelays$Net;", Cond.fieldLink RX3 46 "MixingRelays$Net" "leadingCount" "[I", Cond.fieldLink RX3 49 "MixingRelays$Net" "pieces" "I", Cond.fieldLink RX3 52 "MixingRelays$Net" "leading" "[I", Cond.methodLink RX3 40 yJ7_fill_d0a16, Cond.static yJ7_fill_d0a16, Cond.initialized RJ7, Cond.code yJ7_fill_d0a16 cJ7_fill_d0a16 5 none, Cond.methodLink RX3 59 yX3_take, Cond.instanceMethod yX3_take, Cond.selects RX3 yX3_take yX3_take, Cond.code yX3_take cX3_take 6 none, Cond.fieldLink RX3 62 "MixingRelays$Net" "vectors" "[J", Cond.fieldLink RX3 15 "MixingRelays$Span" "newLines" "[I", Cond.static yX5_byteOf, Cond.code yX5_byteOf cX5_byteOf 3 (some .int), Cond.methodLink RX3 76 yX3_lastPieceIn, Cond.static yX3_lastPieceIn, Cond.code yX3_lastPieceIn cX3_lastPieceIn 4 (some .int), Cond.static yX5_inverseOf, Cond.code yX5_inverseOf cX5_inverseOf 4 (some .int)]
def wsX0_searchOne_r4 : List Cond := [Cond.methodLink RX5 131 yX5_product, Cond.static yX5_product, Cond.code yX5_product cX5_product 2 (some .int), Cond.methodLink RX5 242 yX5_scaled]
def wsX0_searchOne : List Cond := .code yX0_searchOne cX0_searchOne 3 (some .boolean) :: ((wsX0_searchOne_r1 ++ (wsX0_searchOne_r2 ++ (wsX0_searchOne_r3 ++ wsX0_searchOne_r4))) ++ wsX00 ++ wsX20 ++ wsX30)
def wsX0_searchTwo_r1 : List Cond := [Cond.fieldLink RX0 21 "MixingRelays$Breaker" "net" "LMixingRelays$Net;", Cond.fieldLink RX0 40 "MixingRelays$Net" "lines" "I", Cond.fieldLink RX0 45 "MixingRelays$Net" "down" "I", Cond.fieldLink RX0 9 "MixingRelays$Breaker" "lesser" "I", Cond.fieldLink RX0 15 "MixingRelays$Breaker" "greater" "I", Cond.methodLink RX0 29 yX0_weakens, Cond.instanceMethod yX0_weakens, Cond.selects RX0 yX0_weakens yX0_weakens, Cond.initialized RX0, Cond.code yX0_weakens cX0_weakens 4 (some .boolean), Cond.fieldLink RX0 56 "MixingRelays$Net" "relays" "I", Cond.fieldLink RX0 59 "MixingRelays$Net" "ends" "I", Cond.fieldLink RX0 25 "MixingRelays$Breaker" "span" "LMixingRelays$Span;", Cond.fieldLink RX0 18 "MixingRelays$Breaker" "weakEnd" "I", Cond.methodLink RX0 52 yX2_spreadVectors, Cond.instanceMethod yX2_spreadVectors, Cond.selects RX2 yX2_spreadVectors yX2_spreadVectors, Cond.initialized RX2, Cond.code yX2_spreadVectors cX2_spreadVectors 4 none, Cond.fieldLink RX2 15 "MixingRelays$Net" "lines" "I", Cond.fieldLink RX2 53 "MixingRelays$Net" "order" "[I", Cond.fieldLink RX2 56 "MixingRelays$Net" "vectors" "[J", Cond.static yX5_flag, Cond.initialized RX5]
def wsX0_searchTwo_r2 : List Cond := [Cond.code yX5_flag cX5_flag 2 (some .int), Cond.methodLink RX2 84 yX2_mixed, Cond.instanceMethod yX2_mixed, Cond.selects RX2 yX2_mixed yX2_mixed, Cond.code yX2_mixed cX2_mixed 11 (some .long), Cond.fieldLink RX2 30 "MixingRelays$Net" "from" "[I", Cond.fieldLink RX2 47 "MixingRelays$Net" "leading" "[I", Cond.fieldLink RX2 44 "MixingRelays$Net" "factors" "[I", Cond.methodLink RX2 66 yX2_insOf, Cond.instanceMethod yX2_insOf, Cond.selects RX2 yX2_insOf yX2_insOf, Cond.code yX2_insOf cX2_insOf 2 (some .int), Cond.fieldLink RX2 18 "MixingRelays$Net" "pieces" "I", Cond.fieldLink RX2 50 "MixingRelays$Net" "leadingCount" "[I", Cond.static yX5_slot, Cond.code yX5_slot cX5_slot 2 (some .int), Cond.static yX5_scaled, Cond.code yX5_scaled cX5_scaled 11 (some .long), Cond.constantLong RX5 236 (72340172838076673), Cond.constantLong RX5 238 (9187201950435737471), Cond.constantLong RX5 240 (27), Cond.methodLink RX0 62 yX3_gather, Cond.instanceMethod yX3_gather, Cond.selects RX3 yX3_gather yX3_gather]
def wsX0_searchTwo_r3 : List Cond := [Cond.initialized RX3, Cond.code yX3_gather cX3_gather 3 (some .int), Cond.fieldLink RX3 19 "MixingRelays$Span" "size" "I", Cond.fieldLink RX3 9 "MixingRelays$Span" "rows" "[J", Cond.fieldLink RX3 23 "MixingRelays$Span" "net" "LMixingRelays$Net;", Cond.fieldLink RX3 46 "MixingRelays$Net" "leadingCount" "[I", Cond.fieldLink RX3 49 "MixingRelays$Net" "pieces" "I", Cond.fieldLink RX3 52 "MixingRelays$Net" "leading" "[I", Cond.methodLink RX3 40 yJ7_fill_d0a16, Cond.static yJ7_fill_d0a16, Cond.initialized RJ7, Cond.code yJ7_fill_d0a16 cJ7_fill_d0a16 5 none, Cond.methodLink RX3 59 yX3_take, Cond.instanceMethod yX3_take, Cond.selects RX3 yX3_take yX3_take, Cond.code yX3_take cX3_take 6 none, Cond.fieldLink RX3 62 "MixingRelays$Net" "vectors" "[J", Cond.fieldLink RX3 15 "MixingRelays$Span" "newLines" "[I", Cond.static yX5_byteOf, Cond.code yX5_byteOf cX5_byteOf 3 (some .int), Cond.methodLink RX3 76 yX3_lastPieceIn, Cond.static yX3_lastPieceIn, Cond.code yX3_lastPieceIn cX3_lastPieceIn 4 (some .int), Cond.static yX5_inverseOf]
def wsX0_searchTwo_r4 : List Cond := [Cond.code yX5_inverseOf cX5_inverseOf 4 (some .int), Cond.methodLink RX5 131 yX5_product, Cond.static yX5_product, Cond.code yX5_product cX5_product 2 (some .int), Cond.methodLink RX5 242 yX5_scaled]
def wsX0_searchTwo : List Cond := .code yX0_searchTwo cX0_searchTwo 5 (some .boolean) :: ((wsX0_searchTwo_r1 ++ (wsX0_searchTwo_r2 ++ (wsX0_searchTwo_r3 ++ wsX0_searchTwo_r4))) ++ wsX00 ++ wsX20 ++ wsX30)
def wsX0_search_r1 : List Cond := [Cond.fieldLink RX0 9 "MixingRelays$Breaker" "lesser" "I", Cond.fieldLink RX0 15 "MixingRelays$Breaker" "greater" "I", Cond.methodLink RX0 29 yX0_weakens, Cond.instanceMethod yX0_weakens, Cond.selects RX0 yX0_weakens yX0_weakens, Cond.initialized RX0, Cond.code yX0_weakens cX0_weakens 4 (some .boolean), Cond.fieldLink RX0 21 "MixingRelays$Breaker" "net" "LMixingRelays$Net;", Cond.fieldLink RX0 45 "MixingRelays$Net" "down" "I", Cond.fieldLink RX0 56 "MixingRelays$Net" "relays" "I", Cond.fieldLink RX0 59 "MixingRelays$Net" "ends" "I", Cond.fieldLink RX0 25 "MixingRelays$Breaker" "span" "LMixingRelays$Span;", Cond.fieldLink RX0 18 "MixingRelays$Breaker" "weakEnd" "I", Cond.methodLink RX0 52 yX2_spreadVectors, Cond.instanceMethod yX2_spreadVectors, Cond.selects RX2 yX2_spreadVectors yX2_spreadVectors, Cond.initialized RX2, Cond.code yX2_spreadVectors cX2_spreadVectors 4 none, Cond.fieldLink RX2 15 "MixingRelays$Net" "lines" "I", Cond.fieldLink RX2 53 "MixingRelays$Net" "order" "[I", Cond.fieldLink RX2 56 "MixingRelays$Net" "vectors" "[J", Cond.static yX5_flag, Cond.initialized RX5, Cond.code yX5_flag cX5_flag 2 (some .int)]
def wsX0_search_r2 : List Cond := [Cond.methodLink RX2 84 yX2_mixed, Cond.instanceMethod yX2_mixed, Cond.selects RX2 yX2_mixed yX2_mixed, Cond.code yX2_mixed cX2_mixed 11 (some .long), Cond.fieldLink RX2 30 "MixingRelays$Net" "from" "[I", Cond.fieldLink RX2 47 "MixingRelays$Net" "leading" "[I", Cond.fieldLink RX2 44 "MixingRelays$Net" "factors" "[I", Cond.methodLink RX2 66 yX2_insOf, Cond.instanceMethod yX2_insOf, Cond.selects RX2 yX2_insOf yX2_insOf, Cond.code yX2_insOf cX2_insOf 2 (some .int), Cond.fieldLink RX2 18 "MixingRelays$Net" "pieces" "I", Cond.fieldLink RX2 50 "MixingRelays$Net" "leadingCount" "[I", Cond.static yX5_slot, Cond.code yX5_slot cX5_slot 2 (some .int), Cond.static yX5_scaled, Cond.code yX5_scaled cX5_scaled 11 (some .long), Cond.constantLong RX5 236 (72340172838076673), Cond.constantLong RX5 238 (9187201950435737471), Cond.constantLong RX5 240 (27), Cond.methodLink RX0 62 yX3_gather, Cond.instanceMethod yX3_gather, Cond.selects RX3 yX3_gather yX3_gather, Cond.initialized RX3]
def wsX0_search_r3 : List Cond := [Cond.code yX3_gather cX3_gather 3 (some .int), Cond.fieldLink RX3 19 "MixingRelays$Span" "size" "I", Cond.fieldLink RX3 9 "MixingRelays$Span" "rows" "[J", Cond.fieldLink RX3 23 "MixingRelays$Span" "net" "LMixingRelays$Net;", Cond.fieldLink RX3 46 "MixingRelays$Net" "leadingCount" "[I", Cond.fieldLink RX3 49 "MixingRelays$Net" "pieces" "I", Cond.fieldLink RX3 52 "MixingRelays$Net" "leading" "[I", Cond.methodLink RX3 40 yJ7_fill_d0a16, Cond.static yJ7_fill_d0a16, Cond.initialized RJ7, Cond.code yJ7_fill_d0a16 cJ7_fill_d0a16 5 none, Cond.methodLink RX3 59 yX3_take, Cond.instanceMethod yX3_take, Cond.selects RX3 yX3_take yX3_take, Cond.code yX3_take cX3_take 6 none, Cond.fieldLink RX3 62 "MixingRelays$Net" "vectors" "[J", Cond.fieldLink RX3 15 "MixingRelays$Span" "newLines" "[I", Cond.static yX5_byteOf, Cond.code yX5_byteOf cX5_byteOf 3 (some .int), Cond.methodLink RX3 76 yX3_lastPieceIn, Cond.static yX3_lastPieceIn, Cond.code yX3_lastPieceIn cX3_lastPieceIn 4 (some .int), Cond.static yX5_inverseOf, Cond.code yX5_inverseOf cX5_inverseOf 4 (some .int)]
def wsX0_search_r4 : List Cond := [Cond.methodLink RX5 131 yX5_product, Cond.static yX5_product, Cond.code yX5_product cX5_product 2 (some .int), Cond.methodLink RX5 242 yX5_scaled, Cond.methodLink RX0 33 yX0_searchOne, Cond.instanceMethod yX0_searchOne, Cond.selects RX0 yX0_searchOne yX0_searchOne, Cond.code yX0_searchOne cX0_searchOne 3 (some .boolean), Cond.fieldLink RX0 40 "MixingRelays$Net" "lines" "I", Cond.methodLink RX0 37 yX0_searchTwo, Cond.instanceMethod yX0_searchTwo, Cond.selects RX0 yX0_searchTwo yX0_searchTwo, Cond.code yX0_searchTwo cX0_searchTwo 5 (some .boolean)]
def wsX0_search : List Cond := .code yX0_search cX0_search 3 (some .boolean) :: ((wsX0_search_r1 ++ (wsX0_search_r2 ++ (wsX0_search_r3 ++ wsX0_search_r4))) ++ wsX00 ++ wsX20 ++ wsX30)
def wsX1_init : List Cond := .code yX1_init cX1_init 3 none :: ([.methodLink RX1 3 objectInit, .instanceMethod objectInit, .code objectInit ⟨#[0xb1]⟩ 1 none, .arrayClass .int, .fieldLink RX1 9 "MixingRelays$Mixer" "saved" "[I", .fieldLink RX1 15 "MixingRelays$Mixer" "ranks" "[I", .fieldLink RX1 18 "MixingRelays$Mixer" "net" "LMixingRelays$Net;", .fieldLink RX1 22 "MixingRelays$Mixer" "span" "LMixingRelays$Span;"] ++ wsX10)
def wsX1_drawWith : List Cond := .code yX1_drawWith cX1_drawWith 7 (some .int) :: ([.fieldLink RX1 18 "MixingRelays$Mixer" "net" "LMixingRelays$Net;", .fieldLink RX1 26 "MixingRelays$Net" "lines" "I", .fieldLink RX1 32 "MixingRelays$Net" "kept" "I", .constant RX1 43 (1103515245), .fieldLink RX1 44 "MixingRelays$Net" "factors" "[I", .static yX5_flag, .initialized RX5, .code yX5_flag cX5_flag 2 (some .int), .methodLink RX1 39 yX2_insOf, .instanceMethod yX2_insOf, .selects RX2 yX2_insOf yX2_insOf, .initialized RX2, .code yX2_insOf cX2_insOf 2 (some .int), .fieldLink RX2 30 "MixingRelays$Net" "from" "[I", .fieldLink RX2 18 "MixingRelays$Net" "pieces" "I", .fieldLink RX2 50 "MixingRelays$Net" "leadingCount" "[I", .static yX5_slot, .code yX5_slot cX5_slot 2 (some .int)] ++ wsX10 ++ wsX20)
def wsX3_unfinishedEnds_r1 : List Cond := [Cond.fieldLink RX3 23 "MixingRelays$Span" "net" "LMixingRelays$Net;", Cond.fieldLink RX3 27 "MixingRelays$Net" "down" "I", Cond.fieldLink RX3 104 "MixingRelays$Net" "relays" "I", Cond.fieldLink RX3 107 "MixingRelays$Net" "ends" "I", Cond.fieldLink RX3 49 "MixingRelays$Net" "pieces" "I", Cond.methodLink RX3 32 yX2_spreadVectors, Cond.instanceMethod yX2_spreadVectors, Cond.selects RX2 yX2_spreadVectors yX2_spreadVectors, Cond.initialized RX2, Cond.code yX2_spreadVectors cX2_spreadVectors 4 none, Cond.fieldLink RX2 15 "MixingRelays$Net" "lines" "I", Cond.fieldLink RX2 53 "MixingRelays$Net" "order" "[I", Cond.fieldLink RX2 56 "MixingRelays$Net" "vectors" "[J", Cond.static yX5_flag, Cond.initialized RX5, Cond.code yX5_flag cX5_flag 2 (some .int), Cond.methodLink RX2 84 yX2_mixed, Cond.instanceMethod yX2_mixed, Cond.selects RX2 yX2_mixed yX2_mixed, Cond.code yX2_mixed cX2_mixed 11 (some .long), Cond.fieldLink RX2 30 "MixingRelays$Net" "from" "[I", Cond.fieldLink RX2 47 "MixingRelays$Net" "leading" "[I", Cond.fieldLink RX2 44 "MixingRelays$Net" "factors" "[I", Cond.methodLink RX2 66 yX2_insOf]
def wsX3_unfinishedEnds_r2 : List Cond := [Cond.instanceMethod yX2_insOf, Cond.selects RX2 yX2_insOf yX2_insOf, Cond.code yX2_insOf cX2_insOf 2 (some .int), Cond.fieldLink RX2 18 "MixingRelays$Net" "pieces" "I", Cond.fieldLink RX2 50 "MixingRelays$Net" "leadingCount" "[I", Cond.static yX5_slot, Cond.code yX5_slot cX5_slot 2 (some .int), Cond.static yX5_scaled, Cond.code yX5_scaled cX5_scaled 11 (some .long), Cond.constantLong RX5 236 (72340172838076673), Cond.constantLong RX5 238 (9187201950435737471), Cond.constantLong RX5 240 (27), Cond.methodLink RX3 36 yX3_gather, Cond.instanceMethod yX3_gather, Cond.selects RX3 yX3_gather yX3_gather, Cond.initialized RX3, Cond.code yX3_gather cX3_gather 3 (some .int), Cond.fieldLink RX3 19 "MixingRelays$Span" "size" "I", Cond.fieldLink RX3 9 "MixingRelays$Span" "rows" "[J", Cond.fieldLink RX3 46 "MixingRelays$Net" "leadingCount" "[I", Cond.fieldLink RX3 52 "MixingRelays$Net" "leading" "[I", Cond.methodLink RX3 40 yJ7_fill_d0a16, Cond.static yJ7_fill_d0a16, Cond.initialized RJ7]
def wsX3_unfinishedEnds_r3 : List Cond := [Cond.code yJ7_fill_d0a16 cJ7_fill_d0a16 5 none, Cond.methodLink RX3 59 yX3_take, Cond.instanceMethod yX3_take, Cond.selects RX3 yX3_take yX3_take, Cond.code yX3_take cX3_take 6 none, Cond.fieldLink RX3 62 "MixingRelays$Net" "vectors" "[J", Cond.fieldLink RX3 15 "MixingRelays$Span" "newLines" "[I", Cond.static yX5_byteOf, Cond.code yX5_byteOf cX5_byteOf 3 (some .int), Cond.methodLink RX3 76 yX3_lastPieceIn, Cond.static yX3_lastPieceIn, Cond.code yX3_lastPieceIn cX3_lastPieceIn 4 (some .int), Cond.static yX5_inverseOf, Cond.code yX5_inverseOf cX5_inverseOf 4 (some .int), Cond.methodLink RX5 131 yX5_product, Cond.static yX5_product, Cond.code yX5_product cX5_product 2 (some .int), Cond.methodLink RX5 242 yX5_scaled]
def wsX3_unfinishedEnds : List Cond := .code yX3_unfinishedEnds cX3_unfinishedEnds 3 (some .int) :: ((wsX3_unfinishedEnds_r1 ++ (wsX3_unfinishedEnds_r2 ++ wsX3_unfinishedEnds_r3)) ++ wsX30 ++ wsX20)
def wsX1_firstSeed_r1 : List Cond := [Cond.fieldLink RX1 18 "MixingRelays$Mixer" "net" "LMixingRelays$Net;", Cond.fieldLink RX1 44 "MixingRelays$Net" "factors" "[I", Cond.fieldLink RX1 9 "MixingRelays$Mixer" "saved" "[I", Cond.methodLink RX1 50 arraycopyName, Cond.native arraycopyName, Cond.static arraycopyName, Cond.initialized "java/lang/System", Cond.fieldLink RX1 22 "MixingRelays$Mixer" "span" "LMixingRelays$Span;", Cond.methodLink RX1 56 yX1_drawWith, Cond.instanceMethod yX1_drawWith, Cond.selects RX1 yX1_drawWith yX1_drawWith, Cond.initialized RX1, Cond.code yX1_drawWith cX1_drawWith 7 (some .int), Cond.fieldLink RX1 26 "MixingRelays$Net" "lines" "I", Cond.fieldLink RX1 32 "MixingRelays$Net" "kept" "I", Cond.constant RX1 43 (1103515245), Cond.static yX5_flag, Cond.initialized RX5, Cond.code yX5_flag cX5_flag 2 (some .int), Cond.methodLink RX1 39 yX2_insOf, Cond.instanceMethod yX2_insOf, Cond.selects RX2 yX2_insOf yX2_insOf, Cond.initialized RX2, Cond.code yX2_insOf cX2_insOf 2 (some .int)]
def wsX1_firstSeed_r2 : List Cond := [Cond.fieldLink RX2 30 "MixingRelays$Net" "from" "[I", Cond.fieldLink RX2 18 "MixingRelays$Net" "pieces" "I", Cond.fieldLink RX2 50 "MixingRelays$Net" "leadingCount" "[I", Cond.static yX5_slot, Cond.code yX5_slot cX5_slot 2 (some .int), Cond.methodLink RX1 59 yX3_unfinishedEnds, Cond.instanceMethod yX3_unfinishedEnds, Cond.selects RX3 yX3_unfinishedEnds yX3_unfinishedEnds, Cond.initialized RX3, Cond.code yX3_unfinishedEnds cX3_unfinishedEnds 3 (some .int), Cond.fieldLink RX3 23 "MixingRelays$Span" "net" "LMixingRelays$Net;", Cond.fieldLink RX3 27 "MixingRelays$Net" "down" "I", Cond.fieldLink RX3 104 "MixingRelays$Net" "relays" "I", Cond.fieldLink RX3 107 "MixingRelays$Net" "ends" "I", Cond.fieldLink RX3 49 "MixingRelays$Net" "pieces" "I", Cond.methodLink RX3 32 yX2_spreadVectors, Cond.instanceMethod yX2_spreadVectors, Cond.selects RX2 yX2_spreadVectors yX2_spreadVectors, Cond.code yX2_spreadVectors cX2_spreadVectors 4 none, Cond.fieldLink RX2 15 "MixingRelays$Net" "lines" "I", Cond.fieldLink RX2 53 "MixingRelays$Net" "order" "[I", Cond.fieldLink RX2 56 "MixingRelays$Net" "vectors" "[J", Cond.methodLink RX2 84 yX2_mixed, Cond.instanceMethod yX2_mixed]
def wsX1_firstSeed_r3 : List Cond := [Cond.selects RX2 yX2_mixed yX2_mixed, Cond.code yX2_mixed cX2_mixed 11 (some .long), Cond.fieldLink RX2 47 "MixingRelays$Net" "leading" "[I", Cond.fieldLink RX2 44 "MixingRelays$Net" "factors" "[I", Cond.methodLink RX2 66 yX2_insOf, Cond.static yX5_scaled, Cond.code yX5_scaled cX5_scaled 11 (some .long), Cond.constantLong RX5 236 (72340172838076673), Cond.constantLong RX5 238 (9187201950435737471), Cond.constantLong RX5 240 (27), Cond.methodLink RX3 36 yX3_gather, Cond.instanceMethod yX3_gather, Cond.selects RX3 yX3_gather yX3_gather, Cond.code yX3_gather cX3_gather 3 (some .int), Cond.fieldLink RX3 19 "MixingRelays$Span" "size" "I", Cond.fieldLink RX3 9 "MixingRelays$Span" "rows" "[J", Cond.fieldLink RX3 46 "MixingRelays$Net" "leadingCount" "[I", Cond.fieldLink RX3 52 "MixingRelays$Net" "leading" "[I", Cond.methodLink RX3 40 yJ7_fill_d0a16, Cond.static yJ7_fill_d0a16, Cond.initialized RJ7, Cond.code yJ7_fill_d0a16 cJ7_fill_d0a16 5 none, Cond.methodLink RX3 59 yX3_take, Cond.instanceMethod yX3_take]
def wsX1_firstSeed_r4 : List Cond := [Cond.selects RX3 yX3_take yX3_take, Cond.code yX3_take cX3_take 6 none, Cond.fieldLink RX3 62 "MixingRelays$Net" "vectors" "[J", Cond.fieldLink RX3 15 "MixingRelays$Span" "newLines" "[I", Cond.static yX5_byteOf, Cond.code yX5_byteOf cX5_byteOf 3 (some .int), Cond.methodLink RX3 76 yX3_lastPieceIn, Cond.static yX3_lastPieceIn, Cond.code yX3_lastPieceIn cX3_lastPieceIn 4 (some .int), Cond.static yX5_inverseOf, Cond.code yX5_inverseOf cX5_inverseOf 4 (some .int), Cond.methodLink RX5 131 yX5_product, Cond.static yX5_product, Cond.code yX5_product cX5_product 2 (some .int), Cond.methodLink RX5 242 yX5_scaled]
def wsX1_firstSeed : List Cond := .code yX1_firstSeed cX1_firstSeed 2 (some .int) :: ((wsX1_firstSeed_r1 ++ (wsX1_firstSeed_r2 ++ (wsX1_firstSeed_r3 ++ wsX1_firstSeed_r4))) ++ wsX10 ++ wsX20 ++ wsX30)
def wsX1_noteRanks_r1 : List Cond := [Cond.fieldLink RX1 18 "MixingRelays$Mixer" "net" "LMixingRelays$Net;", Cond.fieldLink RX1 92 "MixingRelays$Net" "down" "I", Cond.fieldLink RX1 99 "MixingRelays$Net" "relays" "I", Cond.fieldLink RX1 15 "MixingRelays$Mixer" "ranks" "[I", Cond.fieldLink RX1 22 "MixingRelays$Mixer" "span" "LMixingRelays$Span;", Cond.methodLink RX1 95 yX2_spreadVectors, Cond.instanceMethod yX2_spreadVectors, Cond.selects RX2 yX2_spreadVectors yX2_spreadVectors, Cond.initialized RX2, Cond.code yX2_spreadVectors cX2_spreadVectors 4 none, Cond.fieldLink RX2 15 "MixingRelays$Net" "lines" "I", Cond.fieldLink RX2 53 "MixingRelays$Net" "order" "[I", Cond.fieldLink RX2 56 "MixingRelays$Net" "vectors" "[J", Cond.static yX5_flag, Cond.initialized RX5, Cond.code yX5_flag cX5_flag 2 (some .int), Cond.methodLink RX2 84 yX2_mixed, Cond.instanceMethod yX2_mixed, Cond.selects RX2 yX2_mixed yX2_mixed, Cond.code yX2_mixed cX2_mixed 11 (some .long), Cond.fieldLink RX2 30 "MixingRelays$Net" "from" "[I", Cond.fieldLink RX2 47 "MixingRelays$Net" "leading" "[I", Cond.fieldLink RX2 44 "MixingRelays$Net" "factors" "[I", Cond.methodLink RX2 66 yX2_insOf]
def wsX1_noteRanks_r2 : List Cond := [Cond.instanceMethod yX2_insOf, Cond.selects RX2 yX2_insOf yX2_insOf, Cond.code yX2_insOf cX2_insOf 2 (some .int), Cond.fieldLink RX2 18 "MixingRelays$Net" "pieces" "I", Cond.fieldLink RX2 50 "MixingRelays$Net" "leadingCount" "[I", Cond.static yX5_slot, Cond.code yX5_slot cX5_slot 2 (some .int), Cond.static yX5_scaled, Cond.code yX5_scaled cX5_scaled 11 (some .long), Cond.constantLong RX5 236 (72340172838076673), Cond.constantLong RX5 238 (9187201950435737471), Cond.constantLong RX5 240 (27), Cond.methodLink RX1 102 yX3_gather, Cond.instanceMethod yX3_gather, Cond.selects RX3 yX3_gather yX3_gather, Cond.initialized RX3, Cond.code yX3_gather cX3_gather 3 (some .int), Cond.fieldLink RX3 19 "MixingRelays$Span" "size" "I", Cond.fieldLink RX3 9 "MixingRelays$Span" "rows" "[J", Cond.fieldLink RX3 23 "MixingRelays$Span" "net" "LMixingRelays$Net;", Cond.fieldLink RX3 46 "MixingRelays$Net" "leadingCount" "[I", Cond.fieldLink RX3 49 "MixingRelays$Net" "pieces" "I", Cond.fieldLink RX3 52 "MixingRelays$Net" "leading" "[I", Cond.methodLink RX3 40 yJ7_fill_d0a16]
def wsX1_noteRanks_r3 : List Cond := [Cond.static yJ7_fill_d0a16, Cond.initialized RJ7, Cond.code yJ7_fill_d0a16 cJ7_fill_d0a16 5 none, Cond.methodLink RX3 59 yX3_take, Cond.instanceMethod yX3_take, Cond.selects RX3 yX3_take yX3_take, Cond.code yX3_take cX3_take 6 none, Cond.fieldLink RX3 62 "MixingRelays$Net" "vectors" "[J", Cond.fieldLink RX3 15 "MixingRelays$Span" "newLines" "[I", Cond.static yX5_byteOf, Cond.code yX5_byteOf cX5_byteOf 3 (some .int), Cond.methodLink RX3 76 yX3_lastPieceIn, Cond.static yX3_lastPieceIn, Cond.code yX3_lastPieceIn cX3_lastPieceIn 4 (some .int), Cond.static yX5_inverseOf, Cond.code yX5_inverseOf cX5_inverseOf 4 (some .int), Cond.methodLink RX5 131 yX5_product, Cond.static yX5_product, Cond.code yX5_product cX5_product 2 (some .int), Cond.methodLink RX5 242 yX5_scaled]
def wsX1_noteRanks : List Cond := .code yX1_noteRanks cX1_noteRanks 2 none :: ((wsX1_noteRanks_r1 ++ (wsX1_noteRanks_r2 ++ wsX1_noteRanks_r3)) ++ wsX10 ++ wsX20 ++ wsX30)
def wsX5_asFlag : List Cond := .code yX5_asFlag cX5_asFlag 1 (some .int) :: ([])
def wsX2_isPassing : List Cond := .code yX2_isPassing cX2_isPassing 4 (some .boolean) :: ([.fieldLink RX2 30 "MixingRelays$Net" "from" "[I", .fieldLink RX2 44 "MixingRelays$Net" "factors" "[I", .methodLink RX2 66 yX2_insOf, .instanceMethod yX2_insOf, .selects RX2 yX2_insOf yX2_insOf, .initialized RX2, .code yX2_insOf cX2_insOf 2 (some .int), .fieldLink RX2 18 "MixingRelays$Net" "pieces" "I", .fieldLink RX2 50 "MixingRelays$Net" "leadingCount" "[I", .static yX5_slot, .initialized RX5, .code yX5_slot cX5_slot 2 (some .int), .static yX5_asFlag, .code yX5_asFlag cX5_asFlag 1 (some .int)] ++ wsX20)
def wsJ7_rangeCheck_23922 : List Cond := .code yJ7_rangeCheck_23922 cJ7_rangeCheck_23922 3 none :: ([])
def wsJ7_fill_fda19 : List Cond := .code yJ7_fill_fda19 cJ7_fill_fda19 5 none :: ([.methodLink RJ7 13 yJ7_rangeCheck_23922, .static yJ7_rangeCheck_23922, .initialized RJ7, .code yJ7_rangeCheck_23922 cJ7_rangeCheck_23922 3 none])
def wsX1_ranksHold_r1 : List Cond := [Cond.fieldLink RX1 18 "MixingRelays$Mixer" "net" "LMixingRelays$Net;", Cond.fieldLink RX1 92 "MixingRelays$Net" "down" "I", Cond.fieldLink RX1 99 "MixingRelays$Net" "relays" "I", Cond.fieldLink RX1 105 "MixingRelays$Net" "ends" "I", Cond.fieldLink RX1 22 "MixingRelays$Mixer" "span" "LMixingRelays$Span;", Cond.fieldLink RX1 15 "MixingRelays$Mixer" "ranks" "[I", Cond.methodLink RX1 95 yX2_spreadVectors, Cond.instanceMethod yX2_spreadVectors, Cond.selects RX2 yX2_spreadVectors yX2_spreadVectors, Cond.initialized RX2, Cond.code yX2_spreadVectors cX2_spreadVectors 4 none, Cond.fieldLink RX2 15 "MixingRelays$Net" "lines" "I", Cond.fieldLink RX2 53 "MixingRelays$Net" "order" "[I", Cond.fieldLink RX2 56 "MixingRelays$Net" "vectors" "[J", Cond.static yX5_flag, Cond.initialized RX5, Cond.code yX5_flag cX5_flag 2 (some .int), Cond.methodLink RX2 84 yX2_mixed, Cond.instanceMethod yX2_mixed, Cond.selects RX2 yX2_mixed yX2_mixed, Cond.code yX2_mixed cX2_mixed 11 (some .long), Cond.fieldLink RX2 30 "MixingRelays$Net" "from" "[I", Cond.fieldLink RX2 47 "MixingRelays$Net" "leading" "[I", Cond.fieldLink RX2 44 "MixingRelays$Net" "factors" "[I"]
def wsX1_ranksHold_r2 : List Cond := [Cond.methodLink RX2 66 yX2_insOf, Cond.instanceMethod yX2_insOf, Cond.selects RX2 yX2_insOf yX2_insOf, Cond.code yX2_insOf cX2_insOf 2 (some .int), Cond.fieldLink RX2 18 "MixingRelays$Net" "pieces" "I", Cond.fieldLink RX2 50 "MixingRelays$Net" "leadingCount" "[I", Cond.static yX5_slot, Cond.code yX5_slot cX5_slot 2 (some .int), Cond.static yX5_scaled, Cond.code yX5_scaled cX5_scaled 11 (some .long), Cond.constantLong RX5 236 (72340172838076673), Cond.constantLong RX5 238 (9187201950435737471), Cond.constantLong RX5 240 (27), Cond.methodLink RX1 102 yX3_gather, Cond.instanceMethod yX3_gather, Cond.selects RX3 yX3_gather yX3_gather, Cond.initialized RX3, Cond.code yX3_gather cX3_gather 3 (some .int), Cond.fieldLink RX3 19 "MixingRelays$Span" "size" "I", Cond.fieldLink RX3 9 "MixingRelays$Span" "rows" "[J", Cond.fieldLink RX3 23 "MixingRelays$Span" "net" "LMixingRelays$Net;", Cond.fieldLink RX3 46 "MixingRelays$Net" "leadingCount" "[I", Cond.fieldLink RX3 49 "MixingRelays$Net" "pieces" "I", Cond.fieldLink RX3 52 "MixingRelays$Net" "leading" "[I"]
def wsX1_ranksHold_r3 : List Cond := [Cond.methodLink RX3 40 yJ7_fill_d0a16, Cond.static yJ7_fill_d0a16, Cond.initialized RJ7, Cond.code yJ7_fill_d0a16 cJ7_fill_d0a16 5 none, Cond.methodLink RX3 59 yX3_take, Cond.instanceMethod yX3_take, Cond.selects RX3 yX3_take yX3_take, Cond.code yX3_take cX3_take 6 none, Cond.fieldLink RX3 62 "MixingRelays$Net" "vectors" "[J", Cond.fieldLink RX3 15 "MixingRelays$Span" "newLines" "[I", Cond.static yX5_byteOf, Cond.code yX5_byteOf cX5_byteOf 3 (some .int), Cond.methodLink RX3 76 yX3_lastPieceIn, Cond.static yX3_lastPieceIn, Cond.code yX3_lastPieceIn cX3_lastPieceIn 4 (some .int), Cond.static yX5_inverseOf, Cond.code yX5_inverseOf cX5_inverseOf 4 (some .int), Cond.methodLink RX5 131 yX5_product, Cond.static yX5_product, Cond.code yX5_product cX5_product 2 (some .int), Cond.methodLink RX5 242 yX5_scaled]
def wsX1_ranksHold : List Cond := .code yX1_ranksHold cX1_ranksHold 2 (some .boolean) :: ((wsX1_ranksHold_r1 ++ (wsX1_ranksHold_r2 ++ wsX1_ranksHold_r3)) ++ wsX10 ++ wsX20 ++ wsX30)
def wsX1_unmix_r1 : List Cond := [Cond.fieldLink RX1 18 "MixingRelays$Mixer" "net" "LMixingRelays$Net;", Cond.fieldLink RX1 44 "MixingRelays$Net" "factors" "[I", Cond.fieldLink RX1 9 "MixingRelays$Mixer" "saved" "[I", Cond.methodLink RX1 50 arraycopyName, Cond.native arraycopyName, Cond.static arraycopyName, Cond.initialized "java/lang/System", Cond.static yX5_slot, Cond.initialized RX5, Cond.code yX5_slot cX5_slot 2 (some .int), Cond.methodLink RX1 39 yX2_insOf, Cond.instanceMethod yX2_insOf, Cond.selects RX2 yX2_insOf yX2_insOf, Cond.initialized RX2, Cond.code yX2_insOf cX2_insOf 2 (some .int), Cond.fieldLink RX2 30 "MixingRelays$Net" "from" "[I", Cond.fieldLink RX2 18 "MixingRelays$Net" "pieces" "I", Cond.fieldLink RX2 50 "MixingRelays$Net" "leadingCount" "[I", Cond.methodLink RX1 82 yJ7_fill_fda19, Cond.static yJ7_fill_fda19, Cond.initialized RJ7, Cond.code yJ7_fill_fda19 cJ7_fill_fda19 5 none, Cond.methodLink RJ7 13 yJ7_rangeCheck_23922, Cond.static yJ7_rangeCheck_23922]
def wsX1_unmix_r2 : List Cond := [Cond.code yJ7_rangeCheck_23922 cJ7_rangeCheck_23922 3 none, Cond.methodLink RX1 88 yX1_ranksHold, Cond.instanceMethod yX1_ranksHold, Cond.selects RX1 yX1_ranksHold yX1_ranksHold, Cond.initialized RX1, Cond.code yX1_ranksHold cX1_ranksHold 2 (some .boolean), Cond.fieldLink RX1 92 "MixingRelays$Net" "down" "I", Cond.fieldLink RX1 99 "MixingRelays$Net" "relays" "I", Cond.fieldLink RX1 105 "MixingRelays$Net" "ends" "I", Cond.fieldLink RX1 22 "MixingRelays$Mixer" "span" "LMixingRelays$Span;", Cond.fieldLink RX1 15 "MixingRelays$Mixer" "ranks" "[I", Cond.methodLink RX1 95 yX2_spreadVectors, Cond.instanceMethod yX2_spreadVectors, Cond.selects RX2 yX2_spreadVectors yX2_spreadVectors, Cond.code yX2_spreadVectors cX2_spreadVectors 4 none, Cond.fieldLink RX2 15 "MixingRelays$Net" "lines" "I", Cond.fieldLink RX2 53 "MixingRelays$Net" "order" "[I", Cond.fieldLink RX2 56 "MixingRelays$Net" "vectors" "[J", Cond.static yX5_flag, Cond.code yX5_flag cX5_flag 2 (some .int), Cond.methodLink RX2 84 yX2_mixed, Cond.instanceMethod yX2_mixed, Cond.selects RX2 yX2_mixed yX2_mixed, Cond.code yX2_mixed cX2_mixed 11 (some .long)]
def wsX1_unmix_r3 : List Cond := [Cond.fieldLink RX2 47 "MixingRelays$Net" "leading" "[I", Cond.fieldLink RX2 44 "MixingRelays$Net" "factors" "[I", Cond.methodLink RX2 66 yX2_insOf, Cond.static yX5_scaled, Cond.code yX5_scaled cX5_scaled 11 (some .long), Cond.constantLong RX5 236 (72340172838076673), Cond.constantLong RX5 238 (9187201950435737471), Cond.constantLong RX5 240 (27), Cond.methodLink RX1 102 yX3_gather, Cond.instanceMethod yX3_gather, Cond.selects RX3 yX3_gather yX3_gather, Cond.initialized RX3, Cond.code yX3_gather cX3_gather 3 (some .int), Cond.fieldLink RX3 19 "MixingRelays$Span" "size" "I", Cond.fieldLink RX3 9 "MixingRelays$Span" "rows" "[J", Cond.fieldLink RX3 23 "MixingRelays$Span" "net" "LMixingRelays$Net;", Cond.fieldLink RX3 46 "MixingRelays$Net" "leadingCount" "[I", Cond.fieldLink RX3 49 "MixingRelays$Net" "pieces" "I", Cond.fieldLink RX3 52 "MixingRelays$Net" "leading" "[I", Cond.methodLink RX3 40 yJ7_fill_d0a16, Cond.static yJ7_fill_d0a16, Cond.code yJ7_fill_d0a16 cJ7_fill_d0a16 5 none, Cond.methodLink RX3 59 yX3_take, Cond.instanceMethod yX3_take]
def wsX1_unmix_r4 : List Cond := [Cond.selects RX3 yX3_take yX3_take, Cond.code yX3_take cX3_take 6 none, Cond.fieldLink RX3 62 "MixingRelays$Net" "vectors" "[J", Cond.fieldLink RX3 15 "MixingRelays$Span" "newLines" "[I", Cond.static yX5_byteOf, Cond.code yX5_byteOf cX5_byteOf 3 (some .int), Cond.methodLink RX3 76 yX3_lastPieceIn, Cond.static yX3_lastPieceIn, Cond.code yX3_lastPieceIn cX3_lastPieceIn 4 (some .int), Cond.static yX5_inverseOf, Cond.code yX5_inverseOf cX5_inverseOf 4 (some .int), Cond.methodLink RX5 131 yX5_product, Cond.static yX5_product, Cond.code yX5_product cX5_product 2 (some .int), Cond.methodLink RX5 242 yX5_scaled]
def wsX1_unmix : List Cond := .code yX1_unmix cX1_unmix 5 (some .boolean) :: ((wsX1_unmix_r1 ++ (wsX1_unmix_r2 ++ (wsX1_unmix_r3 ++ wsX1_unmix_r4))) ++ wsX10 ++ wsX20 ++ wsX30)
def wsX1_unmixAll_r1 : List Cond := [Cond.fieldLink RX1 18 "MixingRelays$Mixer" "net" "LMixingRelays$Net;", Cond.fieldLink RX1 26 "MixingRelays$Net" "lines" "I", Cond.fieldLink RX1 68 "MixingRelays$Net" "from" "[I", Cond.fieldLink RX1 32 "MixingRelays$Net" "kept" "I", Cond.methodLink RX1 65 yX1_noteRanks, Cond.instanceMethod yX1_noteRanks, Cond.selects RX1 yX1_noteRanks yX1_noteRanks, Cond.initialized RX1, Cond.code yX1_noteRanks cX1_noteRanks 2 none, Cond.fieldLink RX1 92 "MixingRelays$Net" "down" "I", Cond.fieldLink RX1 99 "MixingRelays$Net" "relays" "I", Cond.fieldLink RX1 15 "MixingRelays$Mixer" "ranks" "[I", Cond.fieldLink RX1 22 "MixingRelays$Mixer" "span" "LMixingRelays$Span;", Cond.methodLink RX1 95 yX2_spreadVectors, Cond.instanceMethod yX2_spreadVectors, Cond.selects RX2 yX2_spreadVectors yX2_spreadVectors, Cond.initialized RX2, Cond.code yX2_spreadVectors cX2_spreadVectors 4 none, Cond.fieldLink RX2 15 "MixingRelays$Net" "lines" "I", Cond.fieldLink RX2 53 "MixingRelays$Net" "order" "[I", Cond.fieldLink RX2 56 "MixingRelays$Net" "vectors" "[J", Cond.static yX5_flag, Cond.initialized RX5, Cond.code yX5_flag cX5_flag 2 (some .int)]
def wsX1_unmixAll_r2 : List Cond := [Cond.methodLink RX2 84 yX2_mixed, Cond.instanceMethod yX2_mixed, Cond.selects RX2 yX2_mixed yX2_mixed, Cond.code yX2_mixed cX2_mixed 11 (some .long), Cond.fieldLink RX2 30 "MixingRelays$Net" "from" "[I", Cond.fieldLink RX2 47 "MixingRelays$Net" "leading" "[I", Cond.fieldLink RX2 44 "MixingRelays$Net" "factors" "[I", Cond.methodLink RX2 66 yX2_insOf, Cond.instanceMethod yX2_insOf, Cond.selects RX2 yX2_insOf yX2_insOf, Cond.code yX2_insOf cX2_insOf 2 (some .int), Cond.fieldLink RX2 18 "MixingRelays$Net" "pieces" "I", Cond.fieldLink RX2 50 "MixingRelays$Net" "leadingCount" "[I", Cond.static yX5_slot, Cond.code yX5_slot cX5_slot 2 (some .int), Cond.static yX5_scaled, Cond.code yX5_scaled cX5_scaled 11 (some .long), Cond.constantLong RX5 236 (72340172838076673), Cond.constantLong RX5 238 (9187201950435737471), Cond.constantLong RX5 240 (27), Cond.methodLink RX1 102 yX3_gather, Cond.instanceMethod yX3_gather, Cond.selects RX3 yX3_gather yX3_gather, Cond.initialized RX3]
def wsX1_unmixAll_r3 : List Cond := [Cond.code yX3_gather cX3_gather 3 (some .int), Cond.fieldLink RX3 19 "MixingRelays$Span" "size" "I", Cond.fieldLink RX3 9 "MixingRelays$Span" "rows" "[J", Cond.fieldLink RX3 23 "MixingRelays$Span" "net" "LMixingRelays$Net;", Cond.fieldLink RX3 46 "MixingRelays$Net" "leadingCount" "[I", Cond.fieldLink RX3 49 "MixingRelays$Net" "pieces" "I", Cond.fieldLink RX3 52 "MixingRelays$Net" "leading" "[I", Cond.methodLink RX3 40 yJ7_fill_d0a16, Cond.static yJ7_fill_d0a16, Cond.initialized RJ7, Cond.code yJ7_fill_d0a16 cJ7_fill_d0a16 5 none, Cond.methodLink RX3 59 yX3_take, Cond.instanceMethod yX3_take, Cond.selects RX3 yX3_take yX3_take, Cond.code yX3_take cX3_take 6 none, Cond.fieldLink RX3 62 "MixingRelays$Net" "vectors" "[J", Cond.fieldLink RX3 15 "MixingRelays$Span" "newLines" "[I", Cond.static yX5_byteOf, Cond.code yX5_byteOf cX5_byteOf 3 (some .int), Cond.methodLink RX3 76 yX3_lastPieceIn, Cond.static yX3_lastPieceIn, Cond.code yX3_lastPieceIn cX3_lastPieceIn 4 (some .int), Cond.static yX5_inverseOf, Cond.code yX5_inverseOf cX5_inverseOf 4 (some .int)]
def wsX1_unmixAll_r4 : List Cond := [Cond.methodLink RX5 131 yX5_product, Cond.static yX5_product, Cond.code yX5_product cX5_product 2 (some .int), Cond.methodLink RX5 242 yX5_scaled, Cond.methodLink RX1 71 yX2_isPassing, Cond.instanceMethod yX2_isPassing, Cond.selects RX2 yX2_isPassing yX2_isPassing, Cond.code yX2_isPassing cX2_isPassing 4 (some .boolean), Cond.static yX5_asFlag, Cond.code yX5_asFlag cX5_asFlag 1 (some .int), Cond.methodLink RX1 75 yX1_unmix, Cond.instanceMethod yX1_unmix, Cond.selects RX1 yX1_unmix yX1_unmix, Cond.code yX1_unmix cX1_unmix 5 (some .boolean), Cond.fieldLink RX1 44 "MixingRelays$Net" "factors" "[I", Cond.fieldLink RX1 9 "MixingRelays$Mixer" "saved" "[I", Cond.methodLink RX1 50 arraycopyName, Cond.native arraycopyName, Cond.static arraycopyName, Cond.initialized "java/lang/System", Cond.methodLink RX1 39 yX2_insOf, Cond.methodLink RX1 82 yJ7_fill_fda19, Cond.static yJ7_fill_fda19, Cond.code yJ7_fill_fda19 cJ7_fill_fda19 5 none]
def wsX1_unmixAll_r5 : List Cond := [Cond.methodLink RJ7 13 yJ7_rangeCheck_23922, Cond.static yJ7_rangeCheck_23922, Cond.code yJ7_rangeCheck_23922 cJ7_rangeCheck_23922 3 none, Cond.methodLink RX1 88 yX1_ranksHold, Cond.instanceMethod yX1_ranksHold, Cond.selects RX1 yX1_ranksHold yX1_ranksHold, Cond.code yX1_ranksHold cX1_ranksHold 2 (some .boolean), Cond.fieldLink RX1 105 "MixingRelays$Net" "ends" "I"]
def wsX1_unmixAll : List Cond := .code yX1_unmixAll cX1_unmixAll 3 (some .int) :: ((wsX1_unmixAll_r1 ++ (wsX1_unmixAll_r2 ++ (wsX1_unmixAll_r3 ++ (wsX1_unmixAll_r4 ++ wsX1_unmixAll_r5)))) ++ wsX10 ++ wsX20 ++ wsX30)
def wsX2_init : List Cond := .code yX2_init cX2_init 1 none :: ([.methodLink RX2 3 objectInit, .instanceMethod objectInit, .code objectInit ⟨#[0xb1]⟩ 1 none, .fieldLink RX2 9 "MixingRelays$Net" "relays" "I", .fieldLink RX2 15 "MixingRelays$Net" "lines" "I", .fieldLink RX2 18 "MixingRelays$Net" "pieces" "I", .fieldLink RX2 21 "MixingRelays$Net" "ends" "I", .fieldLink RX2 24 "MixingRelays$Net" "kept" "I", .fieldLink RX2 27 "MixingRelays$Net" "down" "I", .arrayClass .int, .fieldLink RX2 30 "MixingRelays$Net" "from" "[I", .fieldLink RX2 34 "MixingRelays$Net" "to" "[I", .arrayClass .long, .fieldLink RX2 37 "MixingRelays$Net" "bends" "[J", .fieldLink RX2 41 "MixingRelays$Net" "bytes" "[J", .fieldLink RX2 44 "MixingRelays$Net" "factors" "[I", .fieldLink RX2 47 "MixingRelays$Net" "leading" "[I", .fieldLink RX2 50 "MixingRelays$Net" "leadingCount" "[I", .fieldLink RX2 53 "MixingRelays$Net" "order" "[I", .fieldLink RX2 56 "MixingRelays$Net" "vectors" "[J", .fieldLink RX2 59 "MixingRelays$Net" "carried" "[J"] ++ wsX20)
def wsX2_isRelay : List Cond := .code yX2_isRelay cX2_isRelay 2 (some .boolean) :: ([.fieldLink RX2 9 "MixingRelays$Net" "relays" "I"] ++ wsX20)
def wsX2_isLine : List Cond := .code yX2_isLine cX2_isLine 2 (some .boolean) :: ([.fieldLink RX2 15 "MixingRelays$Net" "lines" "I"] ++ wsX20)
def wsX2_isPiece : List Cond := .code yX2_isPiece cX2_isPiece 2 (some .boolean) :: ([.fieldLink RX2 18 "MixingRelays$Net" "pieces" "I"] ++ wsX20)
def wsX2_addLine : List Cond := .code yX2_addLine cX2_addLine 5 (some .int) :: ([.fieldLink RX2 15 "MixingRelays$Net" "lines" "I", .fieldLink RX2 30 "MixingRelays$Net" "from" "[I", .fieldLink RX2 34 "MixingRelays$Net" "to" "[I", .fieldLink RX2 47 "MixingRelays$Net" "leading" "[I", .fieldLink RX2 50 "MixingRelays$Net" "leadingCount" "[I", .fieldLink RX2 53 "MixingRelays$Net" "order" "[I", .static yX5_slot, .initialized RX5, .code yX5_slot cX5_slot 2 (some .int)] ++ wsX20)
def wsX2_passingLines : List Cond := .code yX2_passingLines cX2_passingLines 3 (some .int) :: ([.fieldLink RX2 15 "MixingRelays$Net" "lines" "I", .methodLink RX2 74 yX2_isPassing, .instanceMethod yX2_isPassing, .selects RX2 yX2_isPassing yX2_isPassing, .initialized RX2, .code yX2_isPassing cX2_isPassing 4 (some .boolean), .fieldLink RX2 30 "MixingRelays$Net" "from" "[I", .fieldLink RX2 44 "MixingRelays$Net" "factors" "[I", .methodLink RX2 66 yX2_insOf, .instanceMethod yX2_insOf, .selects RX2 yX2_insOf yX2_insOf, .code yX2_insOf cX2_insOf 2 (some .int), .fieldLink RX2 18 "MixingRelays$Net" "pieces" "I", .fieldLink RX2 50 "MixingRelays$Net" "leadingCount" "[I", .static yX5_slot, .initialized RX5, .code yX5_slot cX5_slot 2 (some .int), .static yX5_asFlag, .code yX5_asFlag cX5_asFlag 1 (some .int)] ++ wsX20)
def wsX2_allFactors : List Cond := .code yX2_allFactors cX2_allFactors 3 (some .int) :: ([.fieldLink RX2 15 "MixingRelays$Net" "lines" "I", .methodLink RX2 66 yX2_insOf, .instanceMethod yX2_insOf, .selects RX2 yX2_insOf yX2_insOf, .initialized RX2, .code yX2_insOf cX2_insOf 2 (some .int), .fieldLink RX2 30 "MixingRelays$Net" "from" "[I", .fieldLink RX2 18 "MixingRelays$Net" "pieces" "I", .fieldLink RX2 50 "MixingRelays$Net" "leadingCount" "[I"] ++ wsX20)
def wsX2_spreadBytes_r1 : List Cond := [Cond.fieldLink RX2 15 "MixingRelays$Net" "lines" "I", Cond.fieldLink RX2 53 "MixingRelays$Net" "order" "[I", Cond.fieldLink RX2 59 "MixingRelays$Net" "carried" "[J", Cond.fieldLink RX2 27 "MixingRelays$Net" "down" "I", Cond.fieldLink RX2 41 "MixingRelays$Net" "bytes" "[J", Cond.fieldLink RX2 37 "MixingRelays$Net" "bends" "[J", Cond.static yX5_flag, Cond.initialized RX5, Cond.code yX5_flag cX5_flag 2 (some .int), Cond.methodLink RX2 84 yX2_mixed, Cond.instanceMethod yX2_mixed, Cond.selects RX2 yX2_mixed yX2_mixed, Cond.initialized RX2, Cond.code yX2_mixed cX2_mixed 11 (some .long), Cond.fieldLink RX2 30 "MixingRelays$Net" "from" "[I", Cond.fieldLink RX2 47 "MixingRelays$Net" "leading" "[I", Cond.fieldLink RX2 44 "MixingRelays$Net" "factors" "[I", Cond.methodLink RX2 66 yX2_insOf, Cond.instanceMethod yX2_insOf, Cond.selects RX2 yX2_insOf yX2_insOf, Cond.code yX2_insOf cX2_insOf 2 (some .int), Cond.fieldLink RX2 18 "MixingRelays$Net" "pieces" "I", Cond.fieldLink RX2 50 "MixingRelays$Net" "leadingCount" "[I", Cond.static yX5_slot]
def wsX2_spreadBytes_r2 : List Cond := [Cond.code yX5_slot cX5_slot 2 (some .int), Cond.static yX5_scaled, Cond.code yX5_scaled cX5_scaled 11 (some .long), Cond.constantLong RX5 236 (72340172838076673), Cond.constantLong RX5 238 (9187201950435737471), Cond.constantLong RX5 240 (27)]
def wsX2_spreadBytes : List Cond := .code yX2_spreadBytes cX2_spreadBytes 3 none :: ((wsX2_spreadBytes_r1 ++ wsX2_spreadBytes_r2) ++ wsX20)
def wsX3_init : List Cond := .code yX3_init cX3_init 2 none :: ([.methodLink RX3 3 objectInit, .instanceMethod objectInit, .code objectInit ⟨#[0xb1]⟩ 1 none, .arrayClass .long, .fieldLink RX3 9 "MixingRelays$Span" "rows" "[J", .arrayClass .int, .fieldLink RX3 15 "MixingRelays$Span" "newLines" "[I", .fieldLink RX3 19 "MixingRelays$Span" "size" "I", .fieldLink RX3 23 "MixingRelays$Span" "net" "LMixingRelays$Net;"] ++ wsX30)
def wsX3_rankNow_r1 : List Cond := [Cond.fieldLink RX3 23 "MixingRelays$Span" "net" "LMixingRelays$Net;", Cond.fieldLink RX3 27 "MixingRelays$Net" "down" "I", Cond.methodLink RX3 32 yX2_spreadVectors, Cond.instanceMethod yX2_spreadVectors, Cond.selects RX2 yX2_spreadVectors yX2_spreadVectors, Cond.initialized RX2, Cond.code yX2_spreadVectors cX2_spreadVectors 4 none, Cond.fieldLink RX2 15 "MixingRelays$Net" "lines" "I", Cond.fieldLink RX2 53 "MixingRelays$Net" "order" "[I", Cond.fieldLink RX2 56 "MixingRelays$Net" "vectors" "[J", Cond.static yX5_flag, Cond.initialized RX5, Cond.code yX5_flag cX5_flag 2 (some .int), Cond.methodLink RX2 84 yX2_mixed, Cond.instanceMethod yX2_mixed, Cond.selects RX2 yX2_mixed yX2_mixed, Cond.code yX2_mixed cX2_mixed 11 (some .long), Cond.fieldLink RX2 30 "MixingRelays$Net" "from" "[I", Cond.fieldLink RX2 47 "MixingRelays$Net" "leading" "[I", Cond.fieldLink RX2 44 "MixingRelays$Net" "factors" "[I", Cond.methodLink RX2 66 yX2_insOf, Cond.instanceMethod yX2_insOf, Cond.selects RX2 yX2_insOf yX2_insOf, Cond.code yX2_insOf cX2_insOf 2 (some .int)]
def wsX3_rankNow_r2 : List Cond := [Cond.fieldLink RX2 18 "MixingRelays$Net" "pieces" "I", Cond.fieldLink RX2 50 "MixingRelays$Net" "leadingCount" "[I", Cond.static yX5_slot, Cond.code yX5_slot cX5_slot 2 (some .int), Cond.static yX5_scaled, Cond.code yX5_scaled cX5_scaled 11 (some .long), Cond.constantLong RX5 236 (72340172838076673), Cond.constantLong RX5 238 (9187201950435737471), Cond.constantLong RX5 240 (27), Cond.methodLink RX3 36 yX3_gather, Cond.instanceMethod yX3_gather, Cond.selects RX3 yX3_gather yX3_gather, Cond.initialized RX3, Cond.code yX3_gather cX3_gather 3 (some .int), Cond.fieldLink RX3 19 "MixingRelays$Span" "size" "I", Cond.fieldLink RX3 9 "MixingRelays$Span" "rows" "[J", Cond.fieldLink RX3 46 "MixingRelays$Net" "leadingCount" "[I", Cond.fieldLink RX3 49 "MixingRelays$Net" "pieces" "I", Cond.fieldLink RX3 52 "MixingRelays$Net" "leading" "[I", Cond.methodLink RX3 40 yJ7_fill_d0a16, Cond.static yJ7_fill_d0a16, Cond.initialized RJ7, Cond.code yJ7_fill_d0a16 cJ7_fill_d0a16 5 none, Cond.methodLink RX3 59 yX3_take]
def wsX3_rankNow_r3 : List Cond := [Cond.instanceMethod yX3_take, Cond.selects RX3 yX3_take yX3_take, Cond.code yX3_take cX3_take 6 none, Cond.fieldLink RX3 62 "MixingRelays$Net" "vectors" "[J", Cond.fieldLink RX3 15 "MixingRelays$Span" "newLines" "[I", Cond.static yX5_byteOf, Cond.code yX5_byteOf cX5_byteOf 3 (some .int), Cond.methodLink RX3 76 yX3_lastPieceIn, Cond.static yX3_lastPieceIn, Cond.code yX3_lastPieceIn cX3_lastPieceIn 4 (some .int), Cond.static yX5_inverseOf, Cond.code yX5_inverseOf cX5_inverseOf 4 (some .int), Cond.methodLink RX5 131 yX5_product, Cond.static yX5_product, Cond.code yX5_product cX5_product 2 (some .int), Cond.methodLink RX5 242 yX5_scaled]
def wsX3_rankNow : List Cond := .code yX3_rankNow cX3_rankNow 2 (some .int) :: ((wsX3_rankNow_r1 ++ (wsX3_rankNow_r2 ++ wsX3_rankNow_r3)) ++ wsX30 ++ wsX20)
def wsX3_worksOut : List Cond := .code yX3_worksOut cX3_worksOut 2 (some .boolean) :: ([.fieldLink RX3 9 "MixingRelays$Span" "rows" "[J", .constantLong RX3 82 (4294967295)] ++ wsX30)
def wsX3_keyNumber : List Cond := .code yX3_keyNumber cX3_keyNumber 3 (some .int) :: ([.fieldLink RX3 9 "MixingRelays$Span" "rows" "[J", .static yX5_byteOf, .initialized RX5, .code yX5_byteOf cX5_byteOf 3 (some .int)] ++ wsX30)
def wsX3_bytesFor : List Cond := .code yX3_bytesFor cX3_bytesFor 5 (some .long) :: ([.fieldLink RX3 19 "MixingRelays$Span" "size" "I", .fieldLink RX3 23 "MixingRelays$Span" "net" "LMixingRelays$Net;", .fieldLink RX3 84 "MixingRelays$Net" "carried" "[J", .fieldLink RX3 15 "MixingRelays$Span" "newLines" "[I", .methodLink RX3 87 yX3_keyNumber, .instanceMethod yX3_keyNumber, .selects RX3 yX3_keyNumber yX3_keyNumber, .initialized RX3, .code yX3_keyNumber cX3_keyNumber 3 (some .int), .fieldLink RX3 9 "MixingRelays$Span" "rows" "[J", .static yX5_byteOf, .initialized RX5, .code yX5_byteOf cX5_byteOf 3 (some .int), .static yX5_scaled, .code yX5_scaled cX5_scaled 11 (some .long), .constantLong RX5 236 (72340172838076673), .constantLong RX5 238 (9187201950435737471), .constantLong RX5 240 (27)] ++ wsX30 ++ wsX20)
def wsX3_lackNumber : List Cond := .code yX3_lackNumber cX3_lackNumber 5 (some .int) :: ([.fieldLink RX3 9 "MixingRelays$Span" "rows" "[J", .methodLink RX3 76 yX3_lastPieceIn, .static yX3_lastPieceIn, .initialized RX3, .code yX3_lastPieceIn cX3_lastPieceIn 4 (some .int), .static yX5_byteOf, .initialized RX5, .code yX5_byteOf cX5_byteOf 3 (some .int), .static yX5_inverseOf, .code yX5_inverseOf cX5_inverseOf 4 (some .int), .methodLink RX5 131 yX5_product, .static yX5_product, .code yX5_product cX5_product 2 (some .int), .methodLink RX5 242 yX5_scaled, .static yX5_scaled, .code yX5_scaled cX5_scaled 11 (some .long), .constantLong RX5 236 (72340172838076673), .constantLong RX5 238 (9187201950435737471), .constantLong RX5 240 (27)] ++ wsX30)
def wsX3_isMisled_r1 : List Cond := [Cond.fieldLink RX3 23 "MixingRelays$Span" "net" "LMixingRelays$Net;", Cond.fieldLink RX3 49 "MixingRelays$Net" "pieces" "I", Cond.fieldLink RX3 101 "MixingRelays$Net" "bytes" "[J", Cond.methodLink RX3 93 yX3_worksOut, Cond.instanceMethod yX3_worksOut, Cond.selects RX3 yX3_worksOut yX3_worksOut, Cond.initialized RX3, Cond.code yX3_worksOut cX3_worksOut 2 (some .boolean), Cond.fieldLink RX3 9 "MixingRelays$Span" "rows" "[J", Cond.constantLong RX3 82 (4294967295), Cond.methodLink RX3 97 yX3_bytesFor, Cond.instanceMethod yX3_bytesFor, Cond.selects RX3 yX3_bytesFor yX3_bytesFor, Cond.code yX3_bytesFor cX3_bytesFor 5 (some .long), Cond.fieldLink RX3 19 "MixingRelays$Span" "size" "I", Cond.fieldLink RX3 84 "MixingRelays$Net" "carried" "[J", Cond.fieldLink RX3 15 "MixingRelays$Span" "newLines" "[I", Cond.methodLink RX3 87 yX3_keyNumber, Cond.instanceMethod yX3_keyNumber, Cond.selects RX3 yX3_keyNumber yX3_keyNumber, Cond.code yX3_keyNumber cX3_keyNumber 3 (some .int), Cond.static yX5_byteOf, Cond.initialized RX5, Cond.code yX5_byteOf cX5_byteOf 3 (some .int)]
def wsX3_isMisled_r2 : List Cond := [Cond.static yX5_scaled, Cond.code yX5_scaled cX5_scaled 11 (some .long), Cond.constantLong RX5 236 (72340172838076673), Cond.constantLong RX5 238 (9187201950435737471), Cond.constantLong RX5 240 (27)]
def wsX3_isMisled : List Cond := .code yX3_isMisled cX3_isMisled 2 (some .boolean) :: ((wsX3_isMisled_r1 ++ wsX3_isMisled_r2) ++ wsX30 ++ wsX20)
def wsX4_init : List Cond := .code yX4_init cX4_init 2 none :: ([.methodLink RX4 3 objectInit, .instanceMethod objectInit, .code objectInit ⟨#[0xb1]⟩ 1 none, .arrayClass .int, .fieldLink RX4 9 "MixingRelays$Ways" "cameBy" "[I", .fieldLink RX4 15 "MixingRelays$Ways" "taken" "I", .fieldLink RX4 19 "MixingRelays$Ways" "reached" "I", .fieldLink RX4 22 "MixingRelays$Ways" "net" "LMixingRelays$Net;"] ++ wsX40)
def wsX4_reachBy : List Cond := .code yX4_reachBy cX4_reachBy 5 none :: ([.fieldLink RX4 15 "MixingRelays$Ways" "taken" "I", .fieldLink RX4 22 "MixingRelays$Ways" "net" "LMixingRelays$Net;", .fieldLink RX4 48 "MixingRelays$Net" "to" "[I", .fieldLink RX4 45 "MixingRelays$Net" "from" "[I", .fieldLink RX4 19 "MixingRelays$Ways" "reached" "I", .fieldLink RX4 9 "MixingRelays$Ways" "cameBy" "[I", .static yX5_flag, .initialized RX5, .code yX5_flag cX5_flag 2 (some .int)] ++ wsX40 ++ wsX20)
def wsX4_reach : List Cond := .code yX4_reach cX4_reach 4 none :: ([.fieldLink RX4 19 "MixingRelays$Ways" "reached" "I", .fieldLink RX4 22 "MixingRelays$Ways" "net" "LMixingRelays$Net;", .fieldLink RX4 51 "MixingRelays$Net" "relays" "I", .fieldLink RX4 26 "MixingRelays$Net" "lines" "I", .fieldLink RX4 42 "MixingRelays$Net" "down" "I", .static yX5_flag, .initialized RX5, .code yX5_flag cX5_flag 2 (some .int), .methodLink RX4 54 yX4_reachBy, .instanceMethod yX4_reachBy, .selects RX4 yX4_reachBy yX4_reachBy, .initialized RX4, .code yX4_reachBy cX4_reachBy 5 none, .fieldLink RX4 15 "MixingRelays$Ways" "taken" "I", .fieldLink RX4 48 "MixingRelays$Net" "to" "[I", .fieldLink RX4 45 "MixingRelays$Net" "from" "[I", .fieldLink RX4 9 "MixingRelays$Ways" "cameBy" "[I"] ++ wsX40 ++ wsX20)
def wsX4_turnWayTo : List Cond := .code yX4_turnWayTo cX4_turnWayTo 5 none :: ([.fieldLink RX4 22 "MixingRelays$Ways" "net" "LMixingRelays$Net;", .fieldLink RX4 51 "MixingRelays$Net" "relays" "I", .fieldLink RX4 9 "MixingRelays$Ways" "cameBy" "[I", .fieldLink RX4 15 "MixingRelays$Ways" "taken" "I", .fieldLink RX4 48 "MixingRelays$Net" "to" "[I", .fieldLink RX4 45 "MixingRelays$Net" "from" "[I"] ++ wsX40 ++ wsX20)
def wsX4_mostTo_r1 : List Cond := [Cond.fieldLink RX4 15 "MixingRelays$Ways" "taken" "I", Cond.fieldLink RX4 22 "MixingRelays$Ways" "net" "LMixingRelays$Net;", Cond.fieldLink RX4 26 "MixingRelays$Net" "lines" "I", Cond.fieldLink RX4 19 "MixingRelays$Ways" "reached" "I", Cond.methodLink RX4 31 yX4_reach, Cond.instanceMethod yX4_reach, Cond.selects RX4 yX4_reach yX4_reach, Cond.initialized RX4, Cond.code yX4_reach cX4_reach 4 none, Cond.fieldLink RX4 51 "MixingRelays$Net" "relays" "I", Cond.fieldLink RX4 42 "MixingRelays$Net" "down" "I", Cond.static yX5_flag, Cond.initialized RX5, Cond.code yX5_flag cX5_flag 2 (some .int), Cond.methodLink RX4 54 yX4_reachBy, Cond.instanceMethod yX4_reachBy, Cond.selects RX4 yX4_reachBy yX4_reachBy, Cond.code yX4_reachBy cX4_reachBy 5 none, Cond.fieldLink RX4 48 "MixingRelays$Net" "to" "[I", Cond.fieldLink RX4 45 "MixingRelays$Net" "from" "[I", Cond.fieldLink RX4 9 "MixingRelays$Ways" "cameBy" "[I", Cond.methodLink RX4 38 yX4_turnWayTo, Cond.instanceMethod yX4_turnWayTo, Cond.selects RX4 yX4_turnWayTo yX4_turnWayTo]
def wsX4_mostTo_r2 : List Cond := [Cond.code yX4_turnWayTo cX4_turnWayTo 5 none]
def wsX4_mostTo : List Cond := .code yX4_mostTo cX4_mostTo 4 (some .int) :: ((wsX4_mostTo_r1 ++ wsX4_mostTo_r2) ++ wsX40 ++ wsX20)
def wsX4_cutLine : List Cond := .code yX4_cutLine cX4_cutLine 4 (some .int) :: ([.fieldLink RX4 22 "MixingRelays$Ways" "net" "LMixingRelays$Net;", .fieldLink RX4 26 "MixingRelays$Net" "lines" "I", .fieldLink RX4 42 "MixingRelays$Net" "down" "I", .fieldLink RX4 19 "MixingRelays$Ways" "reached" "I", .fieldLink RX4 45 "MixingRelays$Net" "from" "[I", .fieldLink RX4 48 "MixingRelays$Net" "to" "[I", .static yX5_flag, .initialized RX5, .code yX5_flag cX5_flag 2 (some .int)] ++ wsX40 ++ wsX20)
def wsX5_init_r1 : List Cond := [Cond.methodLink RX5 1 objectInit, Cond.instanceMethod objectInit, Cond.code objectInit ⟨#[0xb1]⟩ 1 none, Cond.classLink RX5 7 RX2, Cond.instantiable RX2 16, Cond.initialized RX2, Cond.fieldLink RX5 10 "MixingRelays" "net" "LMixingRelays$Net;", Cond.classLink RX5 16 RX4, Cond.instantiable RX4 4, Cond.initialized RX4, Cond.fieldLink RX5 21 "MixingRelays" "ways" "LMixingRelays$Ways;", Cond.classLink RX5 25 RX3, Cond.instantiable RX3 4, Cond.initialized RX3, Cond.fieldLink RX5 28 "MixingRelays" "span" "LMixingRelays$Span;", Cond.classLink RX5 32 RX1, Cond.instantiable RX1 4, Cond.initialized RX1, Cond.fieldLink RX5 37 "MixingRelays" "mixer" "LMixingRelays$Mixer;", Cond.classLink RX5 41 RX0, Cond.instantiable RX0 5, Cond.initialized RX0, Cond.fieldLink RX5 44 "MixingRelays" "breaker" "LMixingRelays$Breaker;", Cond.instanceMethod yX2_init]
def wsX5_init_r2 : List Cond := [Cond.code yX2_init cX2_init 1 none, Cond.methodLink RX2 3 objectInit, Cond.fieldLink RX2 9 "MixingRelays$Net" "relays" "I", Cond.fieldLink RX2 15 "MixingRelays$Net" "lines" "I", Cond.fieldLink RX2 18 "MixingRelays$Net" "pieces" "I", Cond.fieldLink RX2 21 "MixingRelays$Net" "ends" "I", Cond.fieldLink RX2 24 "MixingRelays$Net" "kept" "I", Cond.fieldLink RX2 27 "MixingRelays$Net" "down" "I", Cond.arrayClass .int, Cond.fieldLink RX2 30 "MixingRelays$Net" "from" "[I", Cond.fieldLink RX2 34 "MixingRelays$Net" "to" "[I", Cond.arrayClass .long, Cond.fieldLink RX2 37 "MixingRelays$Net" "bends" "[J", Cond.fieldLink RX2 41 "MixingRelays$Net" "bytes" "[J", Cond.fieldLink RX2 44 "MixingRelays$Net" "factors" "[I", Cond.fieldLink RX2 47 "MixingRelays$Net" "leading" "[I", Cond.fieldLink RX2 50 "MixingRelays$Net" "leadingCount" "[I", Cond.fieldLink RX2 53 "MixingRelays$Net" "order" "[I", Cond.fieldLink RX2 56 "MixingRelays$Net" "vectors" "[J", Cond.fieldLink RX2 59 "MixingRelays$Net" "carried" "[J", Cond.methodLink RX5 18 yX4_init, Cond.instanceMethod yX4_init, Cond.code yX4_init cX4_init 2 none, Cond.methodLink RX4 3 objectInit]
def wsX5_init_r3 : List Cond := [Cond.fieldLink RX4 9 "MixingRelays$Ways" "cameBy" "[I", Cond.fieldLink RX4 15 "MixingRelays$Ways" "taken" "I", Cond.fieldLink RX4 19 "MixingRelays$Ways" "reached" "I", Cond.fieldLink RX4 22 "MixingRelays$Ways" "net" "LMixingRelays$Net;", Cond.methodLink RX5 27 yX3_init, Cond.instanceMethod yX3_init, Cond.code yX3_init cX3_init 2 none, Cond.methodLink RX3 3 objectInit, Cond.fieldLink RX3 9 "MixingRelays$Span" "rows" "[J", Cond.fieldLink RX3 15 "MixingRelays$Span" "newLines" "[I", Cond.fieldLink RX3 19 "MixingRelays$Span" "size" "I", Cond.fieldLink RX3 23 "MixingRelays$Span" "net" "LMixingRelays$Net;", Cond.methodLink RX5 34 yX1_init, Cond.instanceMethod yX1_init, Cond.code yX1_init cX1_init 3 none, Cond.methodLink RX1 3 objectInit, Cond.fieldLink RX1 9 "MixingRelays$Mixer" "saved" "[I", Cond.fieldLink RX1 15 "MixingRelays$Mixer" "ranks" "[I", Cond.fieldLink RX1 18 "MixingRelays$Mixer" "net" "LMixingRelays$Net;", Cond.fieldLink RX1 22 "MixingRelays$Mixer" "span" "LMixingRelays$Span;", Cond.methodLink RX5 43 yX0_init, Cond.instanceMethod yX0_init, Cond.code yX0_init cX0_init 3 none, Cond.methodLink RX0 3 objectInit]
def wsX5_init_r4 : List Cond := [Cond.fieldLink RX0 9 "MixingRelays$Breaker" "lesser" "I", Cond.fieldLink RX0 15 "MixingRelays$Breaker" "greater" "I", Cond.fieldLink RX0 18 "MixingRelays$Breaker" "weakEnd" "I", Cond.fieldLink RX0 21 "MixingRelays$Breaker" "net" "LMixingRelays$Net;", Cond.fieldLink RX0 25 "MixingRelays$Breaker" "span" "LMixingRelays$Span;"]
def wsX5_init : List Cond := .code yX5_init cX5_init 1 none :: ((wsX5_init_r1 ++ (wsX5_init_r2 ++ (wsX5_init_r3 ++ wsX5_init_r4))) ++ wsX20 ++ wsX50 ++ wsX40 ++ wsX30 ++ wsX10 ++ wsX00)
def wsX5_relay : List Cond := .code yX5_relay cX5_relay 1 (some .int) :: ([.fieldLink RX5 10 "MixingRelays" "net" "LMixingRelays$Net;", .fieldLink RX5 48 "MixingRelays$Net" "relays" "I"] ++ wsX50 ++ wsX20)
def wsX5_line : List Cond := .code yX5_line cX5_line 3 (some .int) :: ([.fieldLink RX5 10 "MixingRelays" "net" "LMixingRelays$Net;", .fieldLink RX5 56 "MixingRelays$Net" "lines" "I", .methodLink RX5 52 yX2_isRelay, .instanceMethod yX2_isRelay, .selects RX2 yX2_isRelay yX2_isRelay, .initialized RX2, .code yX2_isRelay cX2_isRelay 2 (some .boolean), .fieldLink RX2 9 "MixingRelays$Net" "relays" "I", .methodLink RX5 59 yX2_addLine, .instanceMethod yX2_addLine, .selects RX2 yX2_addLine yX2_addLine, .code yX2_addLine cX2_addLine 5 (some .int), .fieldLink RX2 15 "MixingRelays$Net" "lines" "I", .fieldLink RX2 30 "MixingRelays$Net" "from" "[I", .fieldLink RX2 34 "MixingRelays$Net" "to" "[I", .fieldLink RX2 47 "MixingRelays$Net" "leading" "[I", .fieldLink RX2 50 "MixingRelays$Net" "leadingCount" "[I", .fieldLink RX2 53 "MixingRelays$Net" "order" "[I", .static yX5_slot, .initialized RX5, .code yX5_slot cX5_slot 2 (some .int)] ++ wsX50 ++ wsX20)
def wsX5_pieces : List Cond := .code yX5_pieces cX5_pieces 3 (some .int) :: ([.fieldLink RX5 10 "MixingRelays" "net" "LMixingRelays$Net;", .fieldLink RX5 56 "MixingRelays$Net" "lines" "I", .fieldLink RX5 63 "MixingRelays$Net" "pieces" "I", .fieldLink RX5 66 "MixingRelays$Net" "bytes" "[J", .methodLink RX5 70 yJ7_fill_d0a16, .static yJ7_fill_d0a16, .initialized RJ7, .code yJ7_fill_d0a16 cJ7_fill_d0a16 5 none] ++ wsX50 ++ wsX20)
def wsX5_piece : List Cond := .code yX5_piece cX5_piece 4 (some .int) :: ([.fieldLink RX5 10 "MixingRelays" "net" "LMixingRelays$Net;", .fieldLink RX5 66 "MixingRelays$Net" "bytes" "[J", .methodLink RX5 76 yX2_isPiece, .instanceMethod yX2_isPiece, .selects RX2 yX2_isPiece yX2_isPiece, .initialized RX2, .code yX2_isPiece cX2_isPiece 2 (some .boolean), .fieldLink RX2 18 "MixingRelays$Net" "pieces" "I"] ++ wsX50 ++ wsX20)
def wsX5_isFlag : List Cond := .code yX5_isFlag cX5_isFlag 1 (some .boolean) :: ([])
def wsX5_withFlag : List Cond := .code yX5_withFlag cX5_withFlag 3 (some .int) :: ([])
def wsX5_end : List Cond := .code yX5_end cX5_end 4 (some .int) :: ([.fieldLink RX5 10 "MixingRelays" "net" "LMixingRelays$Net;", .fieldLink RX5 82 "MixingRelays$Net" "ends" "I", .methodLink RX5 52 yX2_isRelay, .instanceMethod yX2_isRelay, .selects RX2 yX2_isRelay yX2_isRelay, .initialized RX2, .code yX2_isRelay cX2_isRelay 2 (some .boolean), .fieldLink RX2 9 "MixingRelays$Net" "relays" "I", .methodLink RX5 79 yX5_isFlag, .static yX5_isFlag, .initialized RX5, .code yX5_isFlag cX5_isFlag 1 (some .boolean), .methodLink RX5 85 yX5_flag, .static yX5_flag, .code yX5_flag cX5_flag 2 (some .int), .methodLink RX5 88 yX5_withFlag, .static yX5_withFlag, .code yX5_withFlag cX5_withFlag 3 (some .int)] ++ wsX50 ++ wsX20)
def wsX5_isNumber : List Cond := .code yX5_isNumber cX5_isNumber 1 (some .boolean) :: ([])
def wsX5_factor : List Cond := .code yX5_factor cX5_factor 6 (some .int) :: ([.fieldLink RX5 10 "MixingRelays" "net" "LMixingRelays$Net;", .fieldLink RX5 105 "MixingRelays$Net" "factors" "[I", .methodLink RX5 92 yX2_isLine, .instanceMethod yX2_isLine, .selects RX2 yX2_isLine yX2_isLine, .initialized RX2, .code yX2_isLine cX2_isLine 2 (some .boolean), .fieldLink RX2 15 "MixingRelays$Net" "lines" "I", .methodLink RX5 95 yX2_insOf, .instanceMethod yX2_insOf, .selects RX2 yX2_insOf yX2_insOf, .code yX2_insOf cX2_insOf 2 (some .int), .fieldLink RX2 30 "MixingRelays$Net" "from" "[I", .fieldLink RX2 18 "MixingRelays$Net" "pieces" "I", .fieldLink RX2 50 "MixingRelays$Net" "leadingCount" "[I", .methodLink RX5 99 yX5_isNumber, .static yX5_isNumber, .initialized RX5, .code yX5_isNumber cX5_isNumber 1 (some .boolean), .methodLink RX5 102 yX5_slot, .static yX5_slot, .code yX5_slot cX5_slot 2 (some .int)] ++ wsX50 ++ wsX20)
def wsX5_keep : List Cond := .code yX5_keep cX5_keep 4 (some .int) :: ([.fieldLink RX5 10 "MixingRelays" "net" "LMixingRelays$Net;", .fieldLink RX5 109 "MixingRelays$Net" "kept" "I", .methodLink RX5 92 yX2_isLine, .instanceMethod yX2_isLine, .selects RX2 yX2_isLine yX2_isLine, .initialized RX2, .code yX2_isLine cX2_isLine 2 (some .boolean), .fieldLink RX2 15 "MixingRelays$Net" "lines" "I", .methodLink RX5 79 yX5_isFlag, .static yX5_isFlag, .initialized RX5, .code yX5_isFlag cX5_isFlag 1 (some .boolean), .methodLink RX5 85 yX5_flag, .static yX5_flag, .code yX5_flag cX5_flag 2 (some .int), .methodLink RX5 88 yX5_withFlag, .static yX5_withFlag, .code yX5_withFlag cX5_withFlag 3 (some .int)] ++ wsX50 ++ wsX20)
def wsX5_broken : List Cond := .code yX5_broken cX5_broken 4 (some .int) :: ([.fieldLink RX5 10 "MixingRelays" "net" "LMixingRelays$Net;", .fieldLink RX5 112 "MixingRelays$Net" "down" "I", .methodLink RX5 92 yX2_isLine, .instanceMethod yX2_isLine, .selects RX2 yX2_isLine yX2_isLine, .initialized RX2, .code yX2_isLine cX2_isLine 2 (some .boolean), .fieldLink RX2 15 "MixingRelays$Net" "lines" "I", .methodLink RX5 79 yX5_isFlag, .static yX5_isFlag, .initialized RX5, .code yX5_isFlag cX5_isFlag 1 (some .boolean), .methodLink RX5 85 yX5_flag, .static yX5_flag, .code yX5_flag cX5_flag 2 (some .int), .methodLink RX5 88 yX5_withFlag, .static yX5_withFlag, .code yX5_withFlag cX5_withFlag 3 (some .int)] ++ wsX50 ++ wsX20)
def wsX5_bend : List Cond := .code yX5_bend cX5_bend 5 (some .int) :: ([.fieldLink RX5 10 "MixingRelays" "net" "LMixingRelays$Net;", .fieldLink RX5 115 "MixingRelays$Net" "bends" "[J", .methodLink RX5 92 yX2_isLine, .instanceMethod yX2_isLine, .selects RX2 yX2_isLine yX2_isLine, .initialized RX2, .code yX2_isLine cX2_isLine 2 (some .boolean), .fieldLink RX2 15 "MixingRelays$Net" "lines" "I", .methodLink RX5 118 yX5_asFlag, .static yX5_asFlag, .initialized RX5, .code yX5_asFlag cX5_asFlag 1 (some .int)] ++ wsX50 ++ wsX20)
def wsX5_about_r1 : List Cond := [Cond.fieldLink RX5 10 "MixingRelays" "net" "LMixingRelays$Net;", Cond.fieldLink RX5 122 "MixingRelays$Net" "from" "[I", Cond.fieldLink RX5 125 "MixingRelays$Net" "to" "[I", Cond.fieldLink RX5 109 "MixingRelays$Net" "kept" "I", Cond.fieldLink RX5 112 "MixingRelays$Net" "down" "I", Cond.fieldLink RX5 115 "MixingRelays$Net" "bends" "[J", Cond.methodLink RX5 92 yX2_isLine, Cond.instanceMethod yX2_isLine, Cond.selects RX2 yX2_isLine yX2_isLine, Cond.initialized RX2, Cond.code yX2_isLine cX2_isLine 2 (some .boolean), Cond.fieldLink RX2 15 "MixingRelays$Net" "lines" "I", Cond.methodLink RX5 95 yX2_insOf, Cond.instanceMethod yX2_insOf, Cond.selects RX2 yX2_insOf yX2_insOf, Cond.code yX2_insOf cX2_insOf 2 (some .int), Cond.fieldLink RX2 30 "MixingRelays$Net" "from" "[I", Cond.fieldLink RX2 18 "MixingRelays$Net" "pieces" "I", Cond.fieldLink RX2 50 "MixingRelays$Net" "leadingCount" "[I", Cond.methodLink RX5 85 yX5_flag, Cond.static yX5_flag, Cond.initialized RX5, Cond.code yX5_flag cX5_flag 2 (some .int), Cond.methodLink RX5 118 yX5_asFlag]
def wsX5_about_r2 : List Cond := [Cond.static yX5_asFlag, Cond.code yX5_asFlag cX5_asFlag 1 (some .int), Cond.methodLink RX5 128 yX2_isPassing, Cond.instanceMethod yX2_isPassing, Cond.selects RX2 yX2_isPassing yX2_isPassing, Cond.code yX2_isPassing cX2_isPassing 4 (some .boolean), Cond.fieldLink RX2 44 "MixingRelays$Net" "factors" "[I", Cond.methodLink RX2 66 yX2_insOf, Cond.static yX5_slot, Cond.code yX5_slot cX5_slot 2 (some .int)]
def wsX5_about : List Cond := .code yX5_about cX5_about 3 (some .int) :: ((wsX5_about_r1 ++ wsX5_about_r2) ++ wsX50 ++ wsX20)
def wsX5_times : List Cond := .code yX5_times cX5_times 3 (some .int) :: ([.methodLink RX5 99 yX5_isNumber, .static yX5_isNumber, .initialized RX5, .code yX5_isNumber cX5_isNumber 1 (some .boolean), .methodLink RX5 131 yX5_product, .static yX5_product, .code yX5_product cX5_product 2 (some .int), .methodLink RX5 242 yX5_scaled, .static yX5_scaled, .code yX5_scaled cX5_scaled 11 (some .long), .constantLong RX5 236 (72340172838076673), .constantLong RX5 238 (9187201950435737471), .constantLong RX5 240 (27)])
def wsX5_inverse : List Cond := .code yX5_inverse cX5_inverse 2 (some .int) :: ([.methodLink RX5 99 yX5_isNumber, .static yX5_isNumber, .initialized RX5, .code yX5_isNumber cX5_isNumber 1 (some .boolean), .methodLink RX5 134 yX5_inverseOf, .static yX5_inverseOf, .code yX5_inverseOf cX5_inverseOf 4 (some .int), .methodLink RX5 131 yX5_product, .static yX5_product, .code yX5_product cX5_product 2 (some .int), .methodLink RX5 242 yX5_scaled, .static yX5_scaled, .code yX5_scaled cX5_scaled 11 (some .long), .constantLong RX5 236 (72340172838076673), .constantLong RX5 238 (9187201950435737471), .constantLong RX5 240 (27)])
def wsX5_refusalOf : List Cond := .code yX5_refusalOf cX5_refusalOf 2 (some .int) :: ([.fieldLink RX5 10 "MixingRelays" "net" "LMixingRelays$Net;", .methodLink RX5 52 yX2_isRelay, .instanceMethod yX2_isRelay, .selects RX2 yX2_isRelay yX2_isRelay, .initialized RX2, .code yX2_isRelay cX2_isRelay 2 (some .boolean), .fieldLink RX2 9 "MixingRelays$Net" "relays" "I"] ++ wsX50 ++ wsX20)
def wsX5_flow_r1 : List Cond := [Cond.fieldLink RX5 21 "MixingRelays" "ways" "LMixingRelays$Ways;", Cond.methodLink RX5 137 yX5_refusalOf, Cond.instanceMethod yX5_refusalOf, Cond.selects RX5 yX5_refusalOf yX5_refusalOf, Cond.initialized RX5, Cond.code yX5_refusalOf cX5_refusalOf 2 (some .int), Cond.fieldLink RX5 10 "MixingRelays" "net" "LMixingRelays$Net;", Cond.methodLink RX5 52 yX2_isRelay, Cond.instanceMethod yX2_isRelay, Cond.selects RX2 yX2_isRelay yX2_isRelay, Cond.initialized RX2, Cond.code yX2_isRelay cX2_isRelay 2 (some .boolean), Cond.fieldLink RX2 9 "MixingRelays$Net" "relays" "I", Cond.methodLink RX5 140 yX4_mostTo, Cond.instanceMethod yX4_mostTo, Cond.selects RX4 yX4_mostTo yX4_mostTo, Cond.initialized RX4, Cond.code yX4_mostTo cX4_mostTo 4 (some .int), Cond.fieldLink RX4 15 "MixingRelays$Ways" "taken" "I", Cond.fieldLink RX4 22 "MixingRelays$Ways" "net" "LMixingRelays$Net;", Cond.fieldLink RX4 26 "MixingRelays$Net" "lines" "I", Cond.fieldLink RX4 19 "MixingRelays$Ways" "reached" "I", Cond.methodLink RX4 31 yX4_reach, Cond.instanceMethod yX4_reach]
def wsX5_flow_r2 : List Cond := [Cond.selects RX4 yX4_reach yX4_reach, Cond.code yX4_reach cX4_reach 4 none, Cond.fieldLink RX4 51 "MixingRelays$Net" "relays" "I", Cond.fieldLink RX4 42 "MixingRelays$Net" "down" "I", Cond.static yX5_flag, Cond.code yX5_flag cX5_flag 2 (some .int), Cond.methodLink RX4 54 yX4_reachBy, Cond.instanceMethod yX4_reachBy, Cond.selects RX4 yX4_reachBy yX4_reachBy, Cond.code yX4_reachBy cX4_reachBy 5 none, Cond.fieldLink RX4 48 "MixingRelays$Net" "to" "[I", Cond.fieldLink RX4 45 "MixingRelays$Net" "from" "[I", Cond.fieldLink RX4 9 "MixingRelays$Ways" "cameBy" "[I", Cond.methodLink RX4 38 yX4_turnWayTo, Cond.instanceMethod yX4_turnWayTo, Cond.selects RX4 yX4_turnWayTo yX4_turnWayTo, Cond.code yX4_turnWayTo cX4_turnWayTo 5 none]
def wsX5_flow : List Cond := .code yX5_flow cX5_flow 3 (some .int) :: ((wsX5_flow_r1 ++ wsX5_flow_r2) ++ wsX50 ++ wsX20 ++ wsX40)
def wsX5_cut_r1 : List Cond := [Cond.fieldLink RX5 21 "MixingRelays" "ways" "LMixingRelays$Ways;", Cond.methodLink RX5 137 yX5_refusalOf, Cond.instanceMethod yX5_refusalOf, Cond.selects RX5 yX5_refusalOf yX5_refusalOf, Cond.initialized RX5, Cond.code yX5_refusalOf cX5_refusalOf 2 (some .int), Cond.fieldLink RX5 10 "MixingRelays" "net" "LMixingRelays$Net;", Cond.methodLink RX5 52 yX2_isRelay, Cond.instanceMethod yX2_isRelay, Cond.selects RX2 yX2_isRelay yX2_isRelay, Cond.initialized RX2, Cond.code yX2_isRelay cX2_isRelay 2 (some .boolean), Cond.fieldLink RX2 9 "MixingRelays$Net" "relays" "I", Cond.methodLink RX5 140 yX4_mostTo, Cond.instanceMethod yX4_mostTo, Cond.selects RX4 yX4_mostTo yX4_mostTo, Cond.initialized RX4, Cond.code yX4_mostTo cX4_mostTo 4 (some .int), Cond.fieldLink RX4 15 "MixingRelays$Ways" "taken" "I", Cond.fieldLink RX4 22 "MixingRelays$Ways" "net" "LMixingRelays$Net;", Cond.fieldLink RX4 26 "MixingRelays$Net" "lines" "I", Cond.fieldLink RX4 19 "MixingRelays$Ways" "reached" "I", Cond.methodLink RX4 31 yX4_reach, Cond.instanceMethod yX4_reach]
def wsX5_cut_r2 : List Cond := [Cond.selects RX4 yX4_reach yX4_reach, Cond.code yX4_reach cX4_reach 4 none, Cond.fieldLink RX4 51 "MixingRelays$Net" "relays" "I", Cond.fieldLink RX4 42 "MixingRelays$Net" "down" "I", Cond.static yX5_flag, Cond.code yX5_flag cX5_flag 2 (some .int), Cond.methodLink RX4 54 yX4_reachBy, Cond.instanceMethod yX4_reachBy, Cond.selects RX4 yX4_reachBy yX4_reachBy, Cond.code yX4_reachBy cX4_reachBy 5 none, Cond.fieldLink RX4 48 "MixingRelays$Net" "to" "[I", Cond.fieldLink RX4 45 "MixingRelays$Net" "from" "[I", Cond.fieldLink RX4 9 "MixingRelays$Ways" "cameBy" "[I", Cond.methodLink RX4 38 yX4_turnWayTo, Cond.instanceMethod yX4_turnWayTo, Cond.selects RX4 yX4_turnWayTo yX4_turnWayTo, Cond.code yX4_turnWayTo cX4_turnWayTo 5 none, Cond.methodLink RX5 143 yX4_cutLine, Cond.instanceMethod yX4_cutLine, Cond.selects RX4 yX4_cutLine yX4_cutLine, Cond.code yX4_cutLine cX4_cutLine 4 (some .int)]
def wsX5_cut : List Cond := .code yX5_cut cX5_cut 4 (some .int) :: ((wsX5_cut_r1 ++ wsX5_cut_r2) ++ wsX50 ++ wsX20 ++ wsX40)
def wsX5_rate_r1 : List Cond := [Cond.fieldLink RX5 10 "MixingRelays" "net" "LMixingRelays$Net;", Cond.fieldLink RX5 48 "MixingRelays$Net" "relays" "I", Cond.fieldLink RX5 82 "MixingRelays$Net" "ends" "I", Cond.fieldLink RX5 21 "MixingRelays" "ways" "LMixingRelays$Ways;", Cond.methodLink RX5 146 Lib.Math.min.name, Cond.static Lib.Math.min.name, Cond.initialized "java/lang/Math", Cond.code Lib.Math.min.name Lib.Math.min.code 2 (some .int), Cond.methodLink RX5 85 yX5_flag, Cond.static yX5_flag, Cond.initialized RX5, Cond.code yX5_flag cX5_flag 2 (some .int), Cond.methodLink RX5 140 yX4_mostTo, Cond.instanceMethod yX4_mostTo, Cond.selects RX4 yX4_mostTo yX4_mostTo, Cond.initialized RX4, Cond.code yX4_mostTo cX4_mostTo 4 (some .int), Cond.fieldLink RX4 15 "MixingRelays$Ways" "taken" "I", Cond.fieldLink RX4 22 "MixingRelays$Ways" "net" "LMixingRelays$Net;", Cond.fieldLink RX4 26 "MixingRelays$Net" "lines" "I", Cond.fieldLink RX4 19 "MixingRelays$Ways" "reached" "I", Cond.methodLink RX4 31 yX4_reach, Cond.instanceMethod yX4_reach, Cond.selects RX4 yX4_reach yX4_reach]
def wsX5_rate_r2 : List Cond := [Cond.code yX4_reach cX4_reach 4 none, Cond.fieldLink RX4 51 "MixingRelays$Net" "relays" "I", Cond.fieldLink RX4 42 "MixingRelays$Net" "down" "I", Cond.methodLink RX4 54 yX4_reachBy, Cond.instanceMethod yX4_reachBy, Cond.selects RX4 yX4_reachBy yX4_reachBy, Cond.code yX4_reachBy cX4_reachBy 5 none, Cond.fieldLink RX4 48 "MixingRelays$Net" "to" "[I", Cond.fieldLink RX4 45 "MixingRelays$Net" "from" "[I", Cond.fieldLink RX4 9 "MixingRelays$Ways" "cameBy" "[I", Cond.methodLink RX4 38 yX4_turnWayTo, Cond.instanceMethod yX4_turnWayTo, Cond.selects RX4 yX4_turnWayTo yX4_turnWayTo, Cond.code yX4_turnWayTo cX4_turnWayTo 5 none]
def wsX5_rate : List Cond := .code yX5_rate cX5_rate 4 (some .int) :: ((wsX5_rate_r1 ++ wsX5_rate_r2) ++ wsX50 ++ wsX20 ++ wsX40)
def wsX5_vector_r1 : List Cond := [Cond.fieldLink RX5 10 "MixingRelays" "net" "LMixingRelays$Net;", Cond.fieldLink RX5 112 "MixingRelays$Net" "down" "I", Cond.fieldLink RX5 155 "MixingRelays$Net" "vectors" "[J", Cond.methodLink RX5 92 yX2_isLine, Cond.instanceMethod yX2_isLine, Cond.selects RX2 yX2_isLine yX2_isLine, Cond.initialized RX2, Cond.code yX2_isLine cX2_isLine 2 (some .boolean), Cond.fieldLink RX2 15 "MixingRelays$Net" "lines" "I", Cond.methodLink RX5 76 yX2_isPiece, Cond.instanceMethod yX2_isPiece, Cond.selects RX2 yX2_isPiece yX2_isPiece, Cond.code yX2_isPiece cX2_isPiece 2 (some .boolean), Cond.fieldLink RX2 18 "MixingRelays$Net" "pieces" "I", Cond.methodLink RX5 151 yX2_spreadVectors, Cond.instanceMethod yX2_spreadVectors, Cond.selects RX2 yX2_spreadVectors yX2_spreadVectors, Cond.code yX2_spreadVectors cX2_spreadVectors 4 none, Cond.fieldLink RX2 53 "MixingRelays$Net" "order" "[I", Cond.fieldLink RX2 56 "MixingRelays$Net" "vectors" "[J", Cond.static yX5_flag, Cond.initialized RX5, Cond.code yX5_flag cX5_flag 2 (some .int), Cond.methodLink RX2 84 yX2_mixed]
def wsX5_vector_r2 : List Cond := [Cond.instanceMethod yX2_mixed, Cond.selects RX2 yX2_mixed yX2_mixed, Cond.code yX2_mixed cX2_mixed 11 (some .long), Cond.fieldLink RX2 30 "MixingRelays$Net" "from" "[I", Cond.fieldLink RX2 47 "MixingRelays$Net" "leading" "[I", Cond.fieldLink RX2 44 "MixingRelays$Net" "factors" "[I", Cond.methodLink RX2 66 yX2_insOf, Cond.instanceMethod yX2_insOf, Cond.selects RX2 yX2_insOf yX2_insOf, Cond.code yX2_insOf cX2_insOf 2 (some .int), Cond.fieldLink RX2 50 "MixingRelays$Net" "leadingCount" "[I", Cond.static yX5_slot, Cond.code yX5_slot cX5_slot 2 (some .int), Cond.static yX5_scaled, Cond.code yX5_scaled cX5_scaled 11 (some .long), Cond.constantLong RX5 236 (72340172838076673), Cond.constantLong RX5 238 (9187201950435737471), Cond.constantLong RX5 240 (27), Cond.methodLink RX5 158 yX5_byteOf, Cond.static yX5_byteOf, Cond.code yX5_byteOf cX5_byteOf 3 (some .int)]
def wsX5_vector : List Cond := .code yX5_vector cX5_vector 3 (some .int) :: ((wsX5_vector_r1 ++ wsX5_vector_r2) ++ wsX50 ++ wsX20)
def wsX5_carries_r1 : List Cond := [Cond.fieldLink RX5 10 "MixingRelays" "net" "LMixingRelays$Net;", Cond.fieldLink RX5 165 "MixingRelays$Net" "carried" "[J", Cond.methodLink RX5 92 yX2_isLine, Cond.instanceMethod yX2_isLine, Cond.selects RX2 yX2_isLine yX2_isLine, Cond.initialized RX2, Cond.code yX2_isLine cX2_isLine 2 (some .boolean), Cond.fieldLink RX2 15 "MixingRelays$Net" "lines" "I", Cond.methodLink RX5 162 yX2_spreadBytes, Cond.instanceMethod yX2_spreadBytes, Cond.selects RX2 yX2_spreadBytes yX2_spreadBytes, Cond.code yX2_spreadBytes cX2_spreadBytes 3 none, Cond.fieldLink RX2 53 "MixingRelays$Net" "order" "[I", Cond.fieldLink RX2 59 "MixingRelays$Net" "carried" "[J", Cond.fieldLink RX2 27 "MixingRelays$Net" "down" "I", Cond.fieldLink RX2 41 "MixingRelays$Net" "bytes" "[J", Cond.fieldLink RX2 37 "MixingRelays$Net" "bends" "[J", Cond.static yX5_flag, Cond.initialized RX5, Cond.code yX5_flag cX5_flag 2 (some .int), Cond.methodLink RX2 84 yX2_mixed, Cond.instanceMethod yX2_mixed, Cond.selects RX2 yX2_mixed yX2_mixed, Cond.code yX2_mixed cX2_mixed 11 (some .long)]
def wsX5_carries_r2 : List Cond := [Cond.fieldLink RX2 30 "MixingRelays$Net" "from" "[I", Cond.fieldLink RX2 47 "MixingRelays$Net" "leading" "[I", Cond.fieldLink RX2 44 "MixingRelays$Net" "factors" "[I", Cond.methodLink RX2 66 yX2_insOf, Cond.instanceMethod yX2_insOf, Cond.selects RX2 yX2_insOf yX2_insOf, Cond.code yX2_insOf cX2_insOf 2 (some .int), Cond.fieldLink RX2 18 "MixingRelays$Net" "pieces" "I", Cond.fieldLink RX2 50 "MixingRelays$Net" "leadingCount" "[I", Cond.static yX5_slot, Cond.code yX5_slot cX5_slot 2 (some .int), Cond.static yX5_scaled, Cond.code yX5_scaled cX5_scaled 11 (some .long), Cond.constantLong RX5 236 (72340172838076673), Cond.constantLong RX5 238 (9187201950435737471), Cond.constantLong RX5 240 (27)]
def wsX5_carries : List Cond := .code yX5_carries cX5_carries 2 (some .long) :: ((wsX5_carries_r1 ++ wsX5_carries_r2) ++ wsX50 ++ wsX20)
def wsX5_rank_r1 : List Cond := [Cond.fieldLink RX5 28 "MixingRelays" "span" "LMixingRelays$Span;", Cond.methodLink RX5 137 yX5_refusalOf, Cond.instanceMethod yX5_refusalOf, Cond.selects RX5 yX5_refusalOf yX5_refusalOf, Cond.initialized RX5, Cond.code yX5_refusalOf cX5_refusalOf 2 (some .int), Cond.fieldLink RX5 10 "MixingRelays" "net" "LMixingRelays$Net;", Cond.methodLink RX5 52 yX2_isRelay, Cond.instanceMethod yX2_isRelay, Cond.selects RX2 yX2_isRelay yX2_isRelay, Cond.initialized RX2, Cond.code yX2_isRelay cX2_isRelay 2 (some .boolean), Cond.fieldLink RX2 9 "MixingRelays$Net" "relays" "I", Cond.methodLink RX5 168 yX3_rankNow, Cond.instanceMethod yX3_rankNow, Cond.selects RX3 yX3_rankNow yX3_rankNow, Cond.initialized RX3, Cond.code yX3_rankNow cX3_rankNow 2 (some .int), Cond.fieldLink RX3 23 "MixingRelays$Span" "net" "LMixingRelays$Net;", Cond.fieldLink RX3 27 "MixingRelays$Net" "down" "I", Cond.methodLink RX3 32 yX2_spreadVectors, Cond.instanceMethod yX2_spreadVectors, Cond.selects RX2 yX2_spreadVectors yX2_spreadVectors, Cond.code yX2_spreadVectors cX2_spreadVectors 4 none]
def wsX5_rank_r2 : List Cond := [Cond.fieldLink RX2 15 "MixingRelays$Net" "lines" "I", Cond.fieldLink RX2 53 "MixingRelays$Net" "order" "[I", Cond.fieldLink RX2 56 "MixingRelays$Net" "vectors" "[J", Cond.static yX5_flag, Cond.code yX5_flag cX5_flag 2 (some .int), Cond.methodLink RX2 84 yX2_mixed, Cond.instanceMethod yX2_mixed, Cond.selects RX2 yX2_mixed yX2_mixed, Cond.code yX2_mixed cX2_mixed 11 (some .long), Cond.fieldLink RX2 30 "MixingRelays$Net" "from" "[I", Cond.fieldLink RX2 47 "MixingRelays$Net" "leading" "[I", Cond.fieldLink RX2 44 "MixingRelays$Net" "factors" "[I", Cond.methodLink RX2 66 yX2_insOf, Cond.instanceMethod yX2_insOf, Cond.selects RX2 yX2_insOf yX2_insOf, Cond.code yX2_insOf cX2_insOf 2 (some .int), Cond.fieldLink RX2 18 "MixingRelays$Net" "pieces" "I", Cond.fieldLink RX2 50 "MixingRelays$Net" "leadingCount" "[I", Cond.static yX5_slot, Cond.code yX5_slot cX5_slot 2 (some .int), Cond.static yX5_scaled, Cond.code yX5_scaled cX5_scaled 11 (some .long), Cond.constantLong RX5 236 (72340172838076673), Cond.constantLong RX5 238 (9187201950435737471)]
def wsX5_rank_r3 : List Cond := [Cond.constantLong RX5 240 (27), Cond.methodLink RX3 36 yX3_gather, Cond.instanceMethod yX3_gather, Cond.selects RX3 yX3_gather yX3_gather, Cond.code yX3_gather cX3_gather 3 (some .int), Cond.fieldLink RX3 19 "MixingRelays$Span" "size" "I", Cond.fieldLink RX3 9 "MixingRelays$Span" "rows" "[J", Cond.fieldLink RX3 46 "MixingRelays$Net" "leadingCount" "[I", Cond.fieldLink RX3 49 "MixingRelays$Net" "pieces" "I", Cond.fieldLink RX3 52 "MixingRelays$Net" "leading" "[I", Cond.methodLink RX3 40 yJ7_fill_d0a16, Cond.static yJ7_fill_d0a16, Cond.initialized RJ7, Cond.code yJ7_fill_d0a16 cJ7_fill_d0a16 5 none, Cond.methodLink RX3 59 yX3_take, Cond.instanceMethod yX3_take, Cond.selects RX3 yX3_take yX3_take, Cond.code yX3_take cX3_take 6 none, Cond.fieldLink RX3 62 "MixingRelays$Net" "vectors" "[J", Cond.fieldLink RX3 15 "MixingRelays$Span" "newLines" "[I", Cond.static yX5_byteOf, Cond.code yX5_byteOf cX5_byteOf 3 (some .int), Cond.methodLink RX3 76 yX3_lastPieceIn, Cond.static yX3_lastPieceIn]
def wsX5_rank_r4 : List Cond := [Cond.code yX3_lastPieceIn cX3_lastPieceIn 4 (some .int), Cond.static yX5_inverseOf, Cond.code yX5_inverseOf cX5_inverseOf 4 (some .int), Cond.methodLink RX5 131 yX5_product, Cond.static yX5_product, Cond.code yX5_product cX5_product 2 (some .int), Cond.methodLink RX5 242 yX5_scaled]
def wsX5_rank : List Cond := .code yX5_rank cX5_rank 3 (some .int) :: ((wsX5_rank_r1 ++ (wsX5_rank_r2 ++ (wsX5_rank_r3 ++ wsX5_rank_r4))) ++ wsX50 ++ wsX20 ++ wsX30)
def wsX5_fresh_r1 : List Cond := [Cond.fieldLink RX5 28 "MixingRelays" "span" "LMixingRelays$Span;", Cond.fieldLink RX5 171 "MixingRelays$Span" "newLines" "[I", Cond.methodLink RX5 137 yX5_refusalOf, Cond.instanceMethod yX5_refusalOf, Cond.selects RX5 yX5_refusalOf yX5_refusalOf, Cond.initialized RX5, Cond.code yX5_refusalOf cX5_refusalOf 2 (some .int), Cond.fieldLink RX5 10 "MixingRelays" "net" "LMixingRelays$Net;", Cond.methodLink RX5 52 yX2_isRelay, Cond.instanceMethod yX2_isRelay, Cond.selects RX2 yX2_isRelay yX2_isRelay, Cond.initialized RX2, Cond.code yX2_isRelay cX2_isRelay 2 (some .boolean), Cond.fieldLink RX2 9 "MixingRelays$Net" "relays" "I", Cond.methodLink RX5 168 yX3_rankNow, Cond.instanceMethod yX3_rankNow, Cond.selects RX3 yX3_rankNow yX3_rankNow, Cond.initialized RX3, Cond.code yX3_rankNow cX3_rankNow 2 (some .int), Cond.fieldLink RX3 23 "MixingRelays$Span" "net" "LMixingRelays$Net;", Cond.fieldLink RX3 27 "MixingRelays$Net" "down" "I", Cond.methodLink RX3 32 yX2_spreadVectors, Cond.instanceMethod yX2_spreadVectors, Cond.selects RX2 yX2_spreadVectors yX2_spreadVectors]
def wsX5_fresh_r2 : List Cond := [Cond.code yX2_spreadVectors cX2_spreadVectors 4 none, Cond.fieldLink RX2 15 "MixingRelays$Net" "lines" "I", Cond.fieldLink RX2 53 "MixingRelays$Net" "order" "[I", Cond.fieldLink RX2 56 "MixingRelays$Net" "vectors" "[J", Cond.static yX5_flag, Cond.code yX5_flag cX5_flag 2 (some .int), Cond.methodLink RX2 84 yX2_mixed, Cond.instanceMethod yX2_mixed, Cond.selects RX2 yX2_mixed yX2_mixed, Cond.code yX2_mixed cX2_mixed 11 (some .long), Cond.fieldLink RX2 30 "MixingRelays$Net" "from" "[I", Cond.fieldLink RX2 47 "MixingRelays$Net" "leading" "[I", Cond.fieldLink RX2 44 "MixingRelays$Net" "factors" "[I", Cond.methodLink RX2 66 yX2_insOf, Cond.instanceMethod yX2_insOf, Cond.selects RX2 yX2_insOf yX2_insOf, Cond.code yX2_insOf cX2_insOf 2 (some .int), Cond.fieldLink RX2 18 "MixingRelays$Net" "pieces" "I", Cond.fieldLink RX2 50 "MixingRelays$Net" "leadingCount" "[I", Cond.static yX5_slot, Cond.code yX5_slot cX5_slot 2 (some .int), Cond.static yX5_scaled, Cond.code yX5_scaled cX5_scaled 11 (some .long), Cond.constantLong RX5 236 (72340172838076673)]
def wsX5_fresh_r3 : List Cond := [Cond.constantLong RX5 238 (9187201950435737471), Cond.constantLong RX5 240 (27), Cond.methodLink RX3 36 yX3_gather, Cond.instanceMethod yX3_gather, Cond.selects RX3 yX3_gather yX3_gather, Cond.code yX3_gather cX3_gather 3 (some .int), Cond.fieldLink RX3 19 "MixingRelays$Span" "size" "I", Cond.fieldLink RX3 9 "MixingRelays$Span" "rows" "[J", Cond.fieldLink RX3 46 "MixingRelays$Net" "leadingCount" "[I", Cond.fieldLink RX3 49 "MixingRelays$Net" "pieces" "I", Cond.fieldLink RX3 52 "MixingRelays$Net" "leading" "[I", Cond.methodLink RX3 40 yJ7_fill_d0a16, Cond.static yJ7_fill_d0a16, Cond.initialized RJ7, Cond.code yJ7_fill_d0a16 cJ7_fill_d0a16 5 none, Cond.methodLink RX3 59 yX3_take, Cond.instanceMethod yX3_take, Cond.selects RX3 yX3_take yX3_take, Cond.code yX3_take cX3_take 6 none, Cond.fieldLink RX3 62 "MixingRelays$Net" "vectors" "[J", Cond.fieldLink RX3 15 "MixingRelays$Span" "newLines" "[I", Cond.static yX5_byteOf, Cond.code yX5_byteOf cX5_byteOf 3 (some .int), Cond.methodLink RX3 76 yX3_lastPieceIn]
def wsX5_fresh_r4 : List Cond := [Cond.static yX3_lastPieceIn, Cond.code yX3_lastPieceIn cX3_lastPieceIn 4 (some .int), Cond.static yX5_inverseOf, Cond.code yX5_inverseOf cX5_inverseOf 4 (some .int), Cond.methodLink RX5 131 yX5_product, Cond.static yX5_product, Cond.code yX5_product cX5_product 2 (some .int), Cond.methodLink RX5 242 yX5_scaled]
def wsX5_fresh : List Cond := .code yX5_fresh cX5_fresh 5 (some .int) :: ((wsX5_fresh_r1 ++ (wsX5_fresh_r2 ++ (wsX5_fresh_r3 ++ wsX5_fresh_r4))) ++ wsX50 ++ wsX30 ++ wsX20)
def wsX5_refusalOf_ : List Cond := .code yX5_refusalOf_ cX5_refusalOf_ 3 (some .int) :: ([.fieldLink RX5 10 "MixingRelays" "net" "LMixingRelays$Net;", .methodLink RX5 76 yX2_isPiece, .instanceMethod yX2_isPiece, .selects RX2 yX2_isPiece yX2_isPiece, .initialized RX2, .code yX2_isPiece cX2_isPiece 2 (some .boolean), .fieldLink RX2 18 "MixingRelays$Net" "pieces" "I", .methodLink RX5 137 yX5_refusalOf, .instanceMethod yX5_refusalOf, .selects RX5 yX5_refusalOf yX5_refusalOf, .initialized RX5, .code yX5_refusalOf cX5_refusalOf 2 (some .int), .methodLink RX5 52 yX2_isRelay, .instanceMethod yX2_isRelay, .selects RX2 yX2_isRelay yX2_isRelay, .code yX2_isRelay cX2_isRelay 2 (some .boolean), .fieldLink RX2 9 "MixingRelays$Net" "relays" "I"] ++ wsX50 ++ wsX20)
def wsX5_solves_r1 : List Cond := [Cond.fieldLink RX5 28 "MixingRelays" "span" "LMixingRelays$Span;", Cond.methodLink RX5 174 yX5_refusalOf_, Cond.instanceMethod yX5_refusalOf_, Cond.selects RX5 yX5_refusalOf_ yX5_refusalOf_, Cond.initialized RX5, Cond.code yX5_refusalOf_ cX5_refusalOf_ 3 (some .int), Cond.fieldLink RX5 10 "MixingRelays" "net" "LMixingRelays$Net;", Cond.methodLink RX5 76 yX2_isPiece, Cond.instanceMethod yX2_isPiece, Cond.selects RX2 yX2_isPiece yX2_isPiece, Cond.initialized RX2, Cond.code yX2_isPiece cX2_isPiece 2 (some .boolean), Cond.fieldLink RX2 18 "MixingRelays$Net" "pieces" "I", Cond.methodLink RX5 137 yX5_refusalOf, Cond.instanceMethod yX5_refusalOf, Cond.selects RX5 yX5_refusalOf yX5_refusalOf, Cond.code yX5_refusalOf cX5_refusalOf 2 (some .int), Cond.methodLink RX5 52 yX2_isRelay, Cond.instanceMethod yX2_isRelay, Cond.selects RX2 yX2_isRelay yX2_isRelay, Cond.code yX2_isRelay cX2_isRelay 2 (some .boolean), Cond.fieldLink RX2 9 "MixingRelays$Net" "relays" "I", Cond.methodLink RX5 168 yX3_rankNow, Cond.instanceMethod yX3_rankNow]
def wsX5_solves_r2 : List Cond := [Cond.selects RX3 yX3_rankNow yX3_rankNow, Cond.initialized RX3, Cond.code yX3_rankNow cX3_rankNow 2 (some .int), Cond.fieldLink RX3 23 "MixingRelays$Span" "net" "LMixingRelays$Net;", Cond.fieldLink RX3 27 "MixingRelays$Net" "down" "I", Cond.methodLink RX3 32 yX2_spreadVectors, Cond.instanceMethod yX2_spreadVectors, Cond.selects RX2 yX2_spreadVectors yX2_spreadVectors, Cond.code yX2_spreadVectors cX2_spreadVectors 4 none, Cond.fieldLink RX2 15 "MixingRelays$Net" "lines" "I", Cond.fieldLink RX2 53 "MixingRelays$Net" "order" "[I", Cond.fieldLink RX2 56 "MixingRelays$Net" "vectors" "[J", Cond.static yX5_flag, Cond.code yX5_flag cX5_flag 2 (some .int), Cond.methodLink RX2 84 yX2_mixed, Cond.instanceMethod yX2_mixed, Cond.selects RX2 yX2_mixed yX2_mixed, Cond.code yX2_mixed cX2_mixed 11 (some .long), Cond.fieldLink RX2 30 "MixingRelays$Net" "from" "[I", Cond.fieldLink RX2 47 "MixingRelays$Net" "leading" "[I", Cond.fieldLink RX2 44 "MixingRelays$Net" "factors" "[I", Cond.methodLink RX2 66 yX2_insOf, Cond.instanceMethod yX2_insOf, Cond.selects RX2 yX2_insOf yX2_insOf]
def wsX5_solves_r3 : List Cond := [Cond.code yX2_insOf cX2_insOf 2 (some .int), Cond.fieldLink RX2 50 "MixingRelays$Net" "leadingCount" "[I", Cond.static yX5_slot, Cond.code yX5_slot cX5_slot 2 (some .int), Cond.static yX5_scaled, Cond.code yX5_scaled cX5_scaled 11 (some .long), Cond.constantLong RX5 236 (72340172838076673), Cond.constantLong RX5 238 (9187201950435737471), Cond.constantLong RX5 240 (27), Cond.methodLink RX3 36 yX3_gather, Cond.instanceMethod yX3_gather, Cond.selects RX3 yX3_gather yX3_gather, Cond.code yX3_gather cX3_gather 3 (some .int), Cond.fieldLink RX3 19 "MixingRelays$Span" "size" "I", Cond.fieldLink RX3 9 "MixingRelays$Span" "rows" "[J", Cond.fieldLink RX3 46 "MixingRelays$Net" "leadingCount" "[I", Cond.fieldLink RX3 49 "MixingRelays$Net" "pieces" "I", Cond.fieldLink RX3 52 "MixingRelays$Net" "leading" "[I", Cond.methodLink RX3 40 yJ7_fill_d0a16, Cond.static yJ7_fill_d0a16, Cond.initialized RJ7, Cond.code yJ7_fill_d0a16 cJ7_fill_d0a16 5 none, Cond.methodLink RX3 59 yX3_take, Cond.instanceMethod yX3_take]
def wsX5_solves_r4 : List Cond := [Cond.selects RX3 yX3_take yX3_take, Cond.code yX3_take cX3_take 6 none, Cond.fieldLink RX3 62 "MixingRelays$Net" "vectors" "[J", Cond.fieldLink RX3 15 "MixingRelays$Span" "newLines" "[I", Cond.static yX5_byteOf, Cond.code yX5_byteOf cX5_byteOf 3 (some .int), Cond.methodLink RX3 76 yX3_lastPieceIn, Cond.static yX3_lastPieceIn, Cond.code yX3_lastPieceIn cX3_lastPieceIn 4 (some .int), Cond.static yX5_inverseOf, Cond.code yX5_inverseOf cX5_inverseOf 4 (some .int), Cond.methodLink RX5 131 yX5_product, Cond.static yX5_product, Cond.code yX5_product cX5_product 2 (some .int), Cond.methodLink RX5 242 yX5_scaled, Cond.methodLink RX5 176 yX3_worksOut, Cond.instanceMethod yX3_worksOut, Cond.selects RX3 yX3_worksOut yX3_worksOut, Cond.code yX3_worksOut cX3_worksOut 2 (some .boolean), Cond.constantLong RX3 82 (4294967295), Cond.methodLink RX5 118 yX5_asFlag, Cond.static yX5_asFlag, Cond.code yX5_asFlag cX5_asFlag 1 (some .int)]
def wsX5_solves : List Cond := .code yX5_solves cX5_solves 4 (some .int) :: ((wsX5_solves_r1 ++ (wsX5_solves_r2 ++ (wsX5_solves_r3 ++ wsX5_solves_r4))) ++ wsX50 ++ wsX20 ++ wsX30)
def wsX5_key_r1 : List Cond := [Cond.fieldLink RX5 28 "MixingRelays" "span" "LMixingRelays$Span;", Cond.methodLink RX5 174 yX5_refusalOf_, Cond.instanceMethod yX5_refusalOf_, Cond.selects RX5 yX5_refusalOf_ yX5_refusalOf_, Cond.initialized RX5, Cond.code yX5_refusalOf_ cX5_refusalOf_ 3 (some .int), Cond.fieldLink RX5 10 "MixingRelays" "net" "LMixingRelays$Net;", Cond.methodLink RX5 76 yX2_isPiece, Cond.instanceMethod yX2_isPiece, Cond.selects RX2 yX2_isPiece yX2_isPiece, Cond.initialized RX2, Cond.code yX2_isPiece cX2_isPiece 2 (some .boolean), Cond.fieldLink RX2 18 "MixingRelays$Net" "pieces" "I", Cond.methodLink RX5 137 yX5_refusalOf, Cond.instanceMethod yX5_refusalOf, Cond.selects RX5 yX5_refusalOf yX5_refusalOf, Cond.code yX5_refusalOf cX5_refusalOf 2 (some .int), Cond.methodLink RX5 52 yX2_isRelay, Cond.instanceMethod yX2_isRelay, Cond.selects RX2 yX2_isRelay yX2_isRelay, Cond.code yX2_isRelay cX2_isRelay 2 (some .boolean), Cond.fieldLink RX2 9 "MixingRelays$Net" "relays" "I", Cond.methodLink RX5 168 yX3_rankNow, Cond.instanceMethod yX3_rankNow]
def wsX5_key_r2 : List Cond := [Cond.selects RX3 yX3_rankNow yX3_rankNow, Cond.initialized RX3, Cond.code yX3_rankNow cX3_rankNow 2 (some .int), Cond.fieldLink RX3 23 "MixingRelays$Span" "net" "LMixingRelays$Net;", Cond.fieldLink RX3 27 "MixingRelays$Net" "down" "I", Cond.methodLink RX3 32 yX2_spreadVectors, Cond.instanceMethod yX2_spreadVectors, Cond.selects RX2 yX2_spreadVectors yX2_spreadVectors, Cond.code yX2_spreadVectors cX2_spreadVectors 4 none, Cond.fieldLink RX2 15 "MixingRelays$Net" "lines" "I", Cond.fieldLink RX2 53 "MixingRelays$Net" "order" "[I", Cond.fieldLink RX2 56 "MixingRelays$Net" "vectors" "[J", Cond.static yX5_flag, Cond.code yX5_flag cX5_flag 2 (some .int), Cond.methodLink RX2 84 yX2_mixed, Cond.instanceMethod yX2_mixed, Cond.selects RX2 yX2_mixed yX2_mixed, Cond.code yX2_mixed cX2_mixed 11 (some .long), Cond.fieldLink RX2 30 "MixingRelays$Net" "from" "[I", Cond.fieldLink RX2 47 "MixingRelays$Net" "leading" "[I", Cond.fieldLink RX2 44 "MixingRelays$Net" "factors" "[I", Cond.methodLink RX2 66 yX2_insOf, Cond.instanceMethod yX2_insOf, Cond.selects RX2 yX2_insOf yX2_insOf]
def wsX5_key_r3 : List Cond := [Cond.code yX2_insOf cX2_insOf 2 (some .int), Cond.fieldLink RX2 50 "MixingRelays$Net" "leadingCount" "[I", Cond.static yX5_slot, Cond.code yX5_slot cX5_slot 2 (some .int), Cond.static yX5_scaled, Cond.code yX5_scaled cX5_scaled 11 (some .long), Cond.constantLong RX5 236 (72340172838076673), Cond.constantLong RX5 238 (9187201950435737471), Cond.constantLong RX5 240 (27), Cond.methodLink RX3 36 yX3_gather, Cond.instanceMethod yX3_gather, Cond.selects RX3 yX3_gather yX3_gather, Cond.code yX3_gather cX3_gather 3 (some .int), Cond.fieldLink RX3 19 "MixingRelays$Span" "size" "I", Cond.fieldLink RX3 9 "MixingRelays$Span" "rows" "[J", Cond.fieldLink RX3 46 "MixingRelays$Net" "leadingCount" "[I", Cond.fieldLink RX3 49 "MixingRelays$Net" "pieces" "I", Cond.fieldLink RX3 52 "MixingRelays$Net" "leading" "[I", Cond.methodLink RX3 40 yJ7_fill_d0a16, Cond.static yJ7_fill_d0a16, Cond.initialized RJ7, Cond.code yJ7_fill_d0a16 cJ7_fill_d0a16 5 none, Cond.methodLink RX3 59 yX3_take, Cond.instanceMethod yX3_take]
def wsX5_key_r4 : List Cond := [Cond.selects RX3 yX3_take yX3_take, Cond.code yX3_take cX3_take 6 none, Cond.fieldLink RX3 62 "MixingRelays$Net" "vectors" "[J", Cond.fieldLink RX3 15 "MixingRelays$Span" "newLines" "[I", Cond.static yX5_byteOf, Cond.code yX5_byteOf cX5_byteOf 3 (some .int), Cond.methodLink RX3 76 yX3_lastPieceIn, Cond.static yX3_lastPieceIn, Cond.code yX3_lastPieceIn cX3_lastPieceIn 4 (some .int), Cond.static yX5_inverseOf, Cond.code yX5_inverseOf cX5_inverseOf 4 (some .int), Cond.methodLink RX5 131 yX5_product, Cond.static yX5_product, Cond.code yX5_product cX5_product 2 (some .int), Cond.methodLink RX5 242 yX5_scaled, Cond.methodLink RX5 176 yX3_worksOut, Cond.instanceMethod yX3_worksOut, Cond.selects RX3 yX3_worksOut yX3_worksOut, Cond.code yX3_worksOut cX3_worksOut 2 (some .boolean), Cond.constantLong RX3 82 (4294967295), Cond.methodLink RX5 179 yX3_keyNumber, Cond.instanceMethod yX3_keyNumber, Cond.selects RX3 yX3_keyNumber yX3_keyNumber, Cond.code yX3_keyNumber cX3_keyNumber 3 (some .int)]
def wsX5_key : List Cond := .code yX5_key cX5_key 6 (some .int) :: ((wsX5_key_r1 ++ (wsX5_key_r2 ++ (wsX5_key_r3 ++ wsX5_key_r4))) ++ wsX50 ++ wsX20 ++ wsX30)
def wsX5_gets_r1 : List Cond := [Cond.fieldLink RX5 28 "MixingRelays" "span" "LMixingRelays$Span;", Cond.fieldLink RX5 10 "MixingRelays" "net" "LMixingRelays$Net;", Cond.methodLink RX5 174 yX5_refusalOf_, Cond.instanceMethod yX5_refusalOf_, Cond.selects RX5 yX5_refusalOf_ yX5_refusalOf_, Cond.initialized RX5, Cond.code yX5_refusalOf_ cX5_refusalOf_ 3 (some .int), Cond.methodLink RX5 76 yX2_isPiece, Cond.instanceMethod yX2_isPiece, Cond.selects RX2 yX2_isPiece yX2_isPiece, Cond.initialized RX2, Cond.code yX2_isPiece cX2_isPiece 2 (some .boolean), Cond.fieldLink RX2 18 "MixingRelays$Net" "pieces" "I", Cond.methodLink RX5 137 yX5_refusalOf, Cond.instanceMethod yX5_refusalOf, Cond.selects RX5 yX5_refusalOf yX5_refusalOf, Cond.code yX5_refusalOf cX5_refusalOf 2 (some .int), Cond.methodLink RX5 52 yX2_isRelay, Cond.instanceMethod yX2_isRelay, Cond.selects RX2 yX2_isRelay yX2_isRelay, Cond.code yX2_isRelay cX2_isRelay 2 (some .boolean), Cond.fieldLink RX2 9 "MixingRelays$Net" "relays" "I", Cond.methodLink RX5 168 yX3_rankNow, Cond.instanceMethod yX3_rankNow]
def wsX5_gets_r2 : List Cond := [Cond.selects RX3 yX3_rankNow yX3_rankNow, Cond.initialized RX3, Cond.code yX3_rankNow cX3_rankNow 2 (some .int), Cond.fieldLink RX3 23 "MixingRelays$Span" "net" "LMixingRelays$Net;", Cond.fieldLink RX3 27 "MixingRelays$Net" "down" "I", Cond.methodLink RX3 32 yX2_spreadVectors, Cond.instanceMethod yX2_spreadVectors, Cond.selects RX2 yX2_spreadVectors yX2_spreadVectors, Cond.code yX2_spreadVectors cX2_spreadVectors 4 none, Cond.fieldLink RX2 15 "MixingRelays$Net" "lines" "I", Cond.fieldLink RX2 53 "MixingRelays$Net" "order" "[I", Cond.fieldLink RX2 56 "MixingRelays$Net" "vectors" "[J", Cond.static yX5_flag, Cond.code yX5_flag cX5_flag 2 (some .int), Cond.methodLink RX2 84 yX2_mixed, Cond.instanceMethod yX2_mixed, Cond.selects RX2 yX2_mixed yX2_mixed, Cond.code yX2_mixed cX2_mixed 11 (some .long), Cond.fieldLink RX2 30 "MixingRelays$Net" "from" "[I", Cond.fieldLink RX2 47 "MixingRelays$Net" "leading" "[I", Cond.fieldLink RX2 44 "MixingRelays$Net" "factors" "[I", Cond.methodLink RX2 66 yX2_insOf, Cond.instanceMethod yX2_insOf, Cond.selects RX2 yX2_insOf yX2_insOf]
def wsX5_gets_r3 : List Cond := [Cond.code yX2_insOf cX2_insOf 2 (some .int), Cond.fieldLink RX2 50 "MixingRelays$Net" "leadingCount" "[I", Cond.static yX5_slot, Cond.code yX5_slot cX5_slot 2 (some .int), Cond.static yX5_scaled, Cond.code yX5_scaled cX5_scaled 11 (some .long), Cond.constantLong RX5 236 (72340172838076673), Cond.constantLong RX5 238 (9187201950435737471), Cond.constantLong RX5 240 (27), Cond.methodLink RX3 36 yX3_gather, Cond.instanceMethod yX3_gather, Cond.selects RX3 yX3_gather yX3_gather, Cond.code yX3_gather cX3_gather 3 (some .int), Cond.fieldLink RX3 19 "MixingRelays$Span" "size" "I", Cond.fieldLink RX3 9 "MixingRelays$Span" "rows" "[J", Cond.fieldLink RX3 46 "MixingRelays$Net" "leadingCount" "[I", Cond.fieldLink RX3 49 "MixingRelays$Net" "pieces" "I", Cond.fieldLink RX3 52 "MixingRelays$Net" "leading" "[I", Cond.methodLink RX3 40 yJ7_fill_d0a16, Cond.static yJ7_fill_d0a16, Cond.initialized RJ7, Cond.code yJ7_fill_d0a16 cJ7_fill_d0a16 5 none, Cond.methodLink RX3 59 yX3_take, Cond.instanceMethod yX3_take]
def wsX5_gets_r4 : List Cond := [Cond.selects RX3 yX3_take yX3_take, Cond.code yX3_take cX3_take 6 none, Cond.fieldLink RX3 62 "MixingRelays$Net" "vectors" "[J", Cond.fieldLink RX3 15 "MixingRelays$Span" "newLines" "[I", Cond.static yX5_byteOf, Cond.code yX5_byteOf cX5_byteOf 3 (some .int), Cond.methodLink RX3 76 yX3_lastPieceIn, Cond.static yX3_lastPieceIn, Cond.code yX3_lastPieceIn cX3_lastPieceIn 4 (some .int), Cond.static yX5_inverseOf, Cond.code yX5_inverseOf cX5_inverseOf 4 (some .int), Cond.methodLink RX5 131 yX5_product, Cond.static yX5_product, Cond.code yX5_product cX5_product 2 (some .int), Cond.methodLink RX5 242 yX5_scaled, Cond.methodLink RX5 176 yX3_worksOut, Cond.instanceMethod yX3_worksOut, Cond.selects RX3 yX3_worksOut yX3_worksOut, Cond.code yX3_worksOut cX3_worksOut 2 (some .boolean), Cond.constantLong RX3 82 (4294967295), Cond.methodLink RX5 162 yX2_spreadBytes, Cond.instanceMethod yX2_spreadBytes, Cond.selects RX2 yX2_spreadBytes yX2_spreadBytes, Cond.code yX2_spreadBytes cX2_spreadBytes 3 none]
def wsX5_gets_r5 : List Cond := [Cond.fieldLink RX2 59 "MixingRelays$Net" "carried" "[J", Cond.fieldLink RX2 27 "MixingRelays$Net" "down" "I", Cond.fieldLink RX2 41 "MixingRelays$Net" "bytes" "[J", Cond.fieldLink RX2 37 "MixingRelays$Net" "bends" "[J", Cond.methodLink RX5 182 yX3_bytesFor, Cond.instanceMethod yX3_bytesFor, Cond.selects RX3 yX3_bytesFor yX3_bytesFor, Cond.code yX3_bytesFor cX3_bytesFor 5 (some .long), Cond.fieldLink RX3 84 "MixingRelays$Net" "carried" "[J", Cond.methodLink RX3 87 yX3_keyNumber, Cond.instanceMethod yX3_keyNumber, Cond.selects RX3 yX3_keyNumber yX3_keyNumber, Cond.code yX3_keyNumber cX3_keyNumber 3 (some .int)]
def wsX5_gets : List Cond := .code yX5_gets cX5_gets 3 (some .long) :: ((wsX5_gets_r1 ++ (wsX5_gets_r2 ++ (wsX5_gets_r3 ++ (wsX5_gets_r4 ++ wsX5_gets_r5)))) ++ wsX50 ++ wsX20 ++ wsX30)
def wsX5_lack_r1 : List Cond := [Cond.fieldLink RX5 10 "MixingRelays" "net" "LMixingRelays$Net;", Cond.fieldLink RX5 28 "MixingRelays" "span" "LMixingRelays$Span;", Cond.methodLink RX5 76 yX2_isPiece, Cond.instanceMethod yX2_isPiece, Cond.selects RX2 yX2_isPiece yX2_isPiece, Cond.initialized RX2, Cond.code yX2_isPiece cX2_isPiece 2 (some .boolean), Cond.fieldLink RX2 18 "MixingRelays$Net" "pieces" "I", Cond.methodLink RX5 174 yX5_refusalOf_, Cond.instanceMethod yX5_refusalOf_, Cond.selects RX5 yX5_refusalOf_ yX5_refusalOf_, Cond.initialized RX5, Cond.code yX5_refusalOf_ cX5_refusalOf_ 3 (some .int), Cond.methodLink RX5 137 yX5_refusalOf, Cond.instanceMethod yX5_refusalOf, Cond.selects RX5 yX5_refusalOf yX5_refusalOf, Cond.code yX5_refusalOf cX5_refusalOf 2 (some .int), Cond.methodLink RX5 52 yX2_isRelay, Cond.instanceMethod yX2_isRelay, Cond.selects RX2 yX2_isRelay yX2_isRelay, Cond.code yX2_isRelay cX2_isRelay 2 (some .boolean), Cond.fieldLink RX2 9 "MixingRelays$Net" "relays" "I", Cond.methodLink RX5 168 yX3_rankNow, Cond.instanceMethod yX3_rankNow]
end
section
def wsX5_lack_r2 : List Cond := [Cond.selects RX3 yX3_rankNow yX3_rankNow, Cond.initialized RX3, Cond.code yX3_rankNow cX3_rankNow 2 (some .int), Cond.fieldLink RX3 23 "MixingRelays$Span" "net" "LMixingRelays$Net;", Cond.fieldLink RX3 27 "MixingRelays$Net" "down" "I", Cond.methodLink RX3 32 yX2_spreadVectors, Cond.instanceMethod yX2_spreadVectors, Cond.selects RX2 yX2_spreadVectors yX2_spreadVectors, Cond.code yX2_spreadVectors cX2_spreadVectors 4 none, Cond.fieldLink RX2 15 "MixingRelays$Net" "lines" "I", Cond.fieldLink RX2 53 "MixingRelays$Net" "order" "[I", Cond.fieldLink RX2 56 "MixingRelays$Net" "vectors" "[J", Cond.static yX5_flag, Cond.code yX5_flag cX5_flag 2 (some .int), Cond.methodLink RX2 84 yX2_mixed, Cond.instanceMethod yX2_mixed, Cond.selects RX2 yX2_mixed yX2_mixed, Cond.code yX2_mixed cX2_mixed 11 (some .long), Cond.fieldLink RX2 30 "MixingRelays$Net" "from" "[I", Cond.fieldLink RX2 47 "MixingRelays$Net" "leading" "[I", Cond.fieldLink RX2 44 "MixingRelays$Net" "factors" "[I", Cond.methodLink RX2 66 yX2_insOf, Cond.instanceMethod yX2_insOf, Cond.selects RX2 yX2_insOf yX2_insOf]
def wsX5_lack_r3 : List Cond := [Cond.code yX2_insOf cX2_insOf 2 (some .int), Cond.fieldLink RX2 50 "MixingRelays$Net" "leadingCount" "[I", Cond.static yX5_slot, Cond.code yX5_slot cX5_slot 2 (some .int), Cond.static yX5_scaled, Cond.code yX5_scaled cX5_scaled 11 (some .long), Cond.constantLong RX5 236 (72340172838076673), Cond.constantLong RX5 238 (9187201950435737471), Cond.constantLong RX5 240 (27), Cond.methodLink RX3 36 yX3_gather, Cond.instanceMethod yX3_gather, Cond.selects RX3 yX3_gather yX3_gather, Cond.code yX3_gather cX3_gather 3 (some .int), Cond.fieldLink RX3 19 "MixingRelays$Span" "size" "I", Cond.fieldLink RX3 9 "MixingRelays$Span" "rows" "[J", Cond.fieldLink RX3 46 "MixingRelays$Net" "leadingCount" "[I", Cond.fieldLink RX3 49 "MixingRelays$Net" "pieces" "I", Cond.fieldLink RX3 52 "MixingRelays$Net" "leading" "[I", Cond.methodLink RX3 40 yJ7_fill_d0a16, Cond.static yJ7_fill_d0a16, Cond.initialized RJ7, Cond.code yJ7_fill_d0a16 cJ7_fill_d0a16 5 none, Cond.methodLink RX3 59 yX3_take, Cond.instanceMethod yX3_take]
def wsX5_lack_r4 : List Cond := [Cond.selects RX3 yX3_take yX3_take, Cond.code yX3_take cX3_take 6 none, Cond.fieldLink RX3 62 "MixingRelays$Net" "vectors" "[J", Cond.fieldLink RX3 15 "MixingRelays$Span" "newLines" "[I", Cond.static yX5_byteOf, Cond.code yX5_byteOf cX5_byteOf 3 (some .int), Cond.methodLink RX3 76 yX3_lastPieceIn, Cond.static yX3_lastPieceIn, Cond.code yX3_lastPieceIn cX3_lastPieceIn 4 (some .int), Cond.static yX5_inverseOf, Cond.code yX5_inverseOf cX5_inverseOf 4 (some .int), Cond.methodLink RX5 131 yX5_product, Cond.static yX5_product, Cond.code yX5_product cX5_product 2 (some .int), Cond.methodLink RX5 242 yX5_scaled, Cond.methodLink RX5 176 yX3_worksOut, Cond.instanceMethod yX3_worksOut, Cond.selects RX3 yX3_worksOut yX3_worksOut, Cond.code yX3_worksOut cX3_worksOut 2 (some .boolean), Cond.constantLong RX3 82 (4294967295), Cond.methodLink RX5 186 yX3_lackNumber, Cond.instanceMethod yX3_lackNumber, Cond.selects RX3 yX3_lackNumber yX3_lackNumber, Cond.code yX3_lackNumber cX3_lackNumber 5 (some .int)]
def wsX5_lack : List Cond := .code yX5_lack cX5_lack 5 (some .int) :: ((wsX5_lack_r1 ++ (wsX5_lack_r2 ++ (wsX5_lack_r3 ++ wsX5_lack_r4))) ++ wsX50 ++ wsX20 ++ wsX30)
def wsX5_wrong_r1 : List Cond := [Cond.fieldLink RX5 10 "MixingRelays" "net" "LMixingRelays$Net;", Cond.fieldLink RX5 112 "MixingRelays$Net" "down" "I", Cond.fieldLink RX5 48 "MixingRelays$Net" "relays" "I", Cond.fieldLink RX5 82 "MixingRelays$Net" "ends" "I", Cond.fieldLink RX5 28 "MixingRelays" "span" "LMixingRelays$Span;", Cond.methodLink RX5 151 yX2_spreadVectors, Cond.instanceMethod yX2_spreadVectors, Cond.selects RX2 yX2_spreadVectors yX2_spreadVectors, Cond.initialized RX2, Cond.code yX2_spreadVectors cX2_spreadVectors 4 none, Cond.fieldLink RX2 15 "MixingRelays$Net" "lines" "I", Cond.fieldLink RX2 53 "MixingRelays$Net" "order" "[I", Cond.fieldLink RX2 56 "MixingRelays$Net" "vectors" "[J", Cond.static yX5_flag, Cond.initialized RX5, Cond.code yX5_flag cX5_flag 2 (some .int), Cond.methodLink RX2 84 yX2_mixed, Cond.instanceMethod yX2_mixed, Cond.selects RX2 yX2_mixed yX2_mixed, Cond.code yX2_mixed cX2_mixed 11 (some .long), Cond.fieldLink RX2 30 "MixingRelays$Net" "from" "[I", Cond.fieldLink RX2 47 "MixingRelays$Net" "leading" "[I", Cond.fieldLink RX2 44 "MixingRelays$Net" "factors" "[I", Cond.methodLink RX2 66 yX2_insOf]
def wsX5_wrong_r2 : List Cond := [Cond.instanceMethod yX2_insOf, Cond.selects RX2 yX2_insOf yX2_insOf, Cond.code yX2_insOf cX2_insOf 2 (some .int), Cond.fieldLink RX2 18 "MixingRelays$Net" "pieces" "I", Cond.fieldLink RX2 50 "MixingRelays$Net" "leadingCount" "[I", Cond.static yX5_slot, Cond.code yX5_slot cX5_slot 2 (some .int), Cond.static yX5_scaled, Cond.code yX5_scaled cX5_scaled 11 (some .long), Cond.constantLong RX5 236 (72340172838076673), Cond.constantLong RX5 238 (9187201950435737471), Cond.constantLong RX5 240 (27), Cond.methodLink RX5 162 yX2_spreadBytes, Cond.instanceMethod yX2_spreadBytes, Cond.selects RX2 yX2_spreadBytes yX2_spreadBytes, Cond.code yX2_spreadBytes cX2_spreadBytes 3 none, Cond.fieldLink RX2 59 "MixingRelays$Net" "carried" "[J", Cond.fieldLink RX2 27 "MixingRelays$Net" "down" "I", Cond.fieldLink RX2 41 "MixingRelays$Net" "bytes" "[J", Cond.fieldLink RX2 37 "MixingRelays$Net" "bends" "[J", Cond.methodLink RX5 85 yX5_flag, Cond.methodLink RX5 189 yX3_gather, Cond.instanceMethod yX3_gather, Cond.selects RX3 yX3_gather yX3_gather]
def wsX5_wrong_r3 : List Cond := [Cond.initialized RX3, Cond.code yX3_gather cX3_gather 3 (some .int), Cond.fieldLink RX3 19 "MixingRelays$Span" "size" "I", Cond.fieldLink RX3 9 "MixingRelays$Span" "rows" "[J", Cond.fieldLink RX3 23 "MixingRelays$Span" "net" "LMixingRelays$Net;", Cond.fieldLink RX3 46 "MixingRelays$Net" "leadingCount" "[I", Cond.fieldLink RX3 49 "MixingRelays$Net" "pieces" "I", Cond.fieldLink RX3 52 "MixingRelays$Net" "leading" "[I", Cond.methodLink RX3 40 yJ7_fill_d0a16, Cond.static yJ7_fill_d0a16, Cond.initialized RJ7, Cond.code yJ7_fill_d0a16 cJ7_fill_d0a16 5 none, Cond.methodLink RX3 59 yX3_take, Cond.instanceMethod yX3_take, Cond.selects RX3 yX3_take yX3_take, Cond.code yX3_take cX3_take 6 none, Cond.fieldLink RX3 62 "MixingRelays$Net" "vectors" "[J", Cond.fieldLink RX3 15 "MixingRelays$Span" "newLines" "[I", Cond.static yX5_byteOf, Cond.code yX5_byteOf cX5_byteOf 3 (some .int), Cond.methodLink RX3 76 yX3_lastPieceIn, Cond.static yX3_lastPieceIn, Cond.code yX3_lastPieceIn cX3_lastPieceIn 4 (some .int), Cond.static yX5_inverseOf]
def wsX5_wrong_r4 : List Cond := [Cond.code yX5_inverseOf cX5_inverseOf 4 (some .int), Cond.methodLink RX5 131 yX5_product, Cond.static yX5_product, Cond.code yX5_product cX5_product 2 (some .int), Cond.methodLink RX5 242 yX5_scaled, Cond.methodLink RX5 192 yX3_isMisled, Cond.instanceMethod yX3_isMisled, Cond.selects RX3 yX3_isMisled yX3_isMisled, Cond.code yX3_isMisled cX3_isMisled 2 (some .boolean), Cond.fieldLink RX3 101 "MixingRelays$Net" "bytes" "[J", Cond.methodLink RX3 93 yX3_worksOut, Cond.instanceMethod yX3_worksOut, Cond.selects RX3 yX3_worksOut yX3_worksOut, Cond.code yX3_worksOut cX3_worksOut 2 (some .boolean), Cond.constantLong RX3 82 (4294967295), Cond.methodLink RX3 97 yX3_bytesFor, Cond.instanceMethod yX3_bytesFor, Cond.selects RX3 yX3_bytesFor yX3_bytesFor, Cond.code yX3_bytesFor cX3_bytesFor 5 (some .long), Cond.fieldLink RX3 84 "MixingRelays$Net" "carried" "[J", Cond.methodLink RX3 87 yX3_keyNumber, Cond.instanceMethod yX3_keyNumber, Cond.selects RX3 yX3_keyNumber yX3_keyNumber, Cond.code yX3_keyNumber cX3_keyNumber 3 (some .int)]
def wsX5_wrong_r5 : List Cond := [Cond.methodLink RX5 118 yX5_asFlag, Cond.static yX5_asFlag, Cond.code yX5_asFlag cX5_asFlag 1 (some .int)]
def wsX5_wrong : List Cond := .code yX5_wrong cX5_wrong 3 (some .int) :: ((wsX5_wrong_r1 ++ (wsX5_wrong_r2 ++ (wsX5_wrong_r3 ++ (wsX5_wrong_r4 ++ wsX5_wrong_r5)))) ++ wsX50 ++ wsX20 ++ wsX30)
def wsX5_left_r1 : List Cond := [Cond.fieldLink RX5 28 "MixingRelays" "span" "LMixingRelays$Span;", Cond.methodLink RX5 196 yX3_unfinishedEnds, Cond.instanceMethod yX3_unfinishedEnds, Cond.selects RX3 yX3_unfinishedEnds yX3_unfinishedEnds, Cond.initialized RX3, Cond.code yX3_unfinishedEnds cX3_unfinishedEnds 3 (some .int), Cond.fieldLink RX3 23 "MixingRelays$Span" "net" "LMixingRelays$Net;", Cond.fieldLink RX3 27 "MixingRelays$Net" "down" "I", Cond.fieldLink RX3 104 "MixingRelays$Net" "relays" "I", Cond.fieldLink RX3 107 "MixingRelays$Net" "ends" "I", Cond.fieldLink RX3 49 "MixingRelays$Net" "pieces" "I", Cond.methodLink RX3 32 yX2_spreadVectors, Cond.instanceMethod yX2_spreadVectors, Cond.selects RX2 yX2_spreadVectors yX2_spreadVectors, Cond.initialized RX2, Cond.code yX2_spreadVectors cX2_spreadVectors 4 none, Cond.fieldLink RX2 15 "MixingRelays$Net" "lines" "I", Cond.fieldLink RX2 53 "MixingRelays$Net" "order" "[I", Cond.fieldLink RX2 56 "MixingRelays$Net" "vectors" "[J", Cond.static yX5_flag, Cond.initialized RX5, Cond.code yX5_flag cX5_flag 2 (some .int), Cond.methodLink RX2 84 yX2_mixed, Cond.instanceMethod yX2_mixed]
def wsX5_left_r2 : List Cond := [Cond.selects RX2 yX2_mixed yX2_mixed, Cond.code yX2_mixed cX2_mixed 11 (some .long), Cond.fieldLink RX2 30 "MixingRelays$Net" "from" "[I", Cond.fieldLink RX2 47 "MixingRelays$Net" "leading" "[I", Cond.fieldLink RX2 44 "MixingRelays$Net" "factors" "[I", Cond.methodLink RX2 66 yX2_insOf, Cond.instanceMethod yX2_insOf, Cond.selects RX2 yX2_insOf yX2_insOf, Cond.code yX2_insOf cX2_insOf 2 (some .int), Cond.fieldLink RX2 18 "MixingRelays$Net" "pieces" "I", Cond.fieldLink RX2 50 "MixingRelays$Net" "leadingCount" "[I", Cond.static yX5_slot, Cond.code yX5_slot cX5_slot 2 (some .int), Cond.static yX5_scaled, Cond.code yX5_scaled cX5_scaled 11 (some .long), Cond.constantLong RX5 236 (72340172838076673), Cond.constantLong RX5 238 (9187201950435737471), Cond.constantLong RX5 240 (27), Cond.methodLink RX3 36 yX3_gather, Cond.instanceMethod yX3_gather, Cond.selects RX3 yX3_gather yX3_gather, Cond.code yX3_gather cX3_gather 3 (some .int), Cond.fieldLink RX3 19 "MixingRelays$Span" "size" "I", Cond.fieldLink RX3 9 "MixingRelays$Span" "rows" "[J"]
def wsX5_left_r3 : List Cond := [Cond.fieldLink RX3 46 "MixingRelays$Net" "leadingCount" "[I", Cond.fieldLink RX3 52 "MixingRelays$Net" "leading" "[I", Cond.methodLink RX3 40 yJ7_fill_d0a16, Cond.static yJ7_fill_d0a16, Cond.initialized RJ7, Cond.code yJ7_fill_d0a16 cJ7_fill_d0a16 5 none, Cond.methodLink RX3 59 yX3_take, Cond.instanceMethod yX3_take, Cond.selects RX3 yX3_take yX3_take, Cond.code yX3_take cX3_take 6 none, Cond.fieldLink RX3 62 "MixingRelays$Net" "vectors" "[J", Cond.fieldLink RX3 15 "MixingRelays$Span" "newLines" "[I", Cond.static yX5_byteOf, Cond.code yX5_byteOf cX5_byteOf 3 (some .int), Cond.methodLink RX3 76 yX3_lastPieceIn, Cond.static yX3_lastPieceIn, Cond.code yX3_lastPieceIn cX3_lastPieceIn 4 (some .int), Cond.static yX5_inverseOf, Cond.code yX5_inverseOf cX5_inverseOf 4 (some .int), Cond.methodLink RX5 131 yX5_product, Cond.static yX5_product, Cond.code yX5_product cX5_product 2 (some .int), Cond.methodLink RX5 242 yX5_scaled]
def wsX5_left : List Cond := .code yX5_left cX5_left 1 (some .int) :: ((wsX5_left_r1 ++ (wsX5_left_r2 ++ wsX5_left_r3)) ++ wsX50 ++ wsX30 ++ wsX20)
def wsX5_draw : List Cond := .code yX5_draw cX5_draw 2 (some .int) :: ([.fieldLink RX5 37 "MixingRelays" "mixer" "LMixingRelays$Mixer;", .methodLink RX5 200 yX1_drawWith, .instanceMethod yX1_drawWith, .selects RX1 yX1_drawWith yX1_drawWith, .initialized RX1, .code yX1_drawWith cX1_drawWith 7 (some .int), .fieldLink RX1 18 "MixingRelays$Mixer" "net" "LMixingRelays$Net;", .fieldLink RX1 26 "MixingRelays$Net" "lines" "I", .fieldLink RX1 32 "MixingRelays$Net" "kept" "I", .constant RX1 43 (1103515245), .fieldLink RX1 44 "MixingRelays$Net" "factors" "[I", .static yX5_flag, .initialized RX5, .code yX5_flag cX5_flag 2 (some .int), .methodLink RX1 39 yX2_insOf, .instanceMethod yX2_insOf, .selects RX2 yX2_insOf yX2_insOf, .initialized RX2, .code yX2_insOf cX2_insOf 2 (some .int), .fieldLink RX2 30 "MixingRelays$Net" "from" "[I", .fieldLink RX2 18 "MixingRelays$Net" "pieces" "I", .fieldLink RX2 50 "MixingRelays$Net" "leadingCount" "[I", .static yX5_slot, .code yX5_slot cX5_slot 2 (some .int)] ++ wsX50 ++ wsX10 ++ wsX20)
def wsX5_find_r1 : List Cond := [Cond.fieldLink RX5 10 "MixingRelays" "net" "LMixingRelays$Net;", Cond.fieldLink RX5 82 "MixingRelays$Net" "ends" "I", Cond.fieldLink RX5 37 "MixingRelays" "mixer" "LMixingRelays$Mixer;", Cond.methodLink RX5 203 yX1_firstSeed, Cond.instanceMethod yX1_firstSeed, Cond.selects RX1 yX1_firstSeed yX1_firstSeed, Cond.initialized RX1, Cond.code yX1_firstSeed cX1_firstSeed 2 (some .int), Cond.fieldLink RX1 18 "MixingRelays$Mixer" "net" "LMixingRelays$Net;", Cond.fieldLink RX1 44 "MixingRelays$Net" "factors" "[I", Cond.fieldLink RX1 9 "MixingRelays$Mixer" "saved" "[I", Cond.methodLink RX1 50 arraycopyName, Cond.native arraycopyName, Cond.static arraycopyName, Cond.initialized "java/lang/System", Cond.fieldLink RX1 22 "MixingRelays$Mixer" "span" "LMixingRelays$Span;", Cond.methodLink RX1 56 yX1_drawWith, Cond.instanceMethod yX1_drawWith, Cond.selects RX1 yX1_drawWith yX1_drawWith, Cond.code yX1_drawWith cX1_drawWith 7 (some .int), Cond.fieldLink RX1 26 "MixingRelays$Net" "lines" "I", Cond.fieldLink RX1 32 "MixingRelays$Net" "kept" "I", Cond.constant RX1 43 (1103515245), Cond.static yX5_flag]
def wsX5_find_r2 : List Cond := [Cond.initialized RX5, Cond.code yX5_flag cX5_flag 2 (some .int), Cond.methodLink RX1 39 yX2_insOf, Cond.instanceMethod yX2_insOf, Cond.selects RX2 yX2_insOf yX2_insOf, Cond.initialized RX2, Cond.code yX2_insOf cX2_insOf 2 (some .int), Cond.fieldLink RX2 30 "MixingRelays$Net" "from" "[I", Cond.fieldLink RX2 18 "MixingRelays$Net" "pieces" "I", Cond.fieldLink RX2 50 "MixingRelays$Net" "leadingCount" "[I", Cond.static yX5_slot, Cond.code yX5_slot cX5_slot 2 (some .int), Cond.methodLink RX1 59 yX3_unfinishedEnds, Cond.instanceMethod yX3_unfinishedEnds, Cond.selects RX3 yX3_unfinishedEnds yX3_unfinishedEnds, Cond.initialized RX3, Cond.code yX3_unfinishedEnds cX3_unfinishedEnds 3 (some .int), Cond.fieldLink RX3 23 "MixingRelays$Span" "net" "LMixingRelays$Net;", Cond.fieldLink RX3 27 "MixingRelays$Net" "down" "I", Cond.fieldLink RX3 104 "MixingRelays$Net" "relays" "I", Cond.fieldLink RX3 107 "MixingRelays$Net" "ends" "I", Cond.fieldLink RX3 49 "MixingRelays$Net" "pieces" "I", Cond.methodLink RX3 32 yX2_spreadVectors, Cond.instanceMethod yX2_spreadVectors]
def wsX5_find_r3 : List Cond := [Cond.selects RX2 yX2_spreadVectors yX2_spreadVectors, Cond.code yX2_spreadVectors cX2_spreadVectors 4 none, Cond.fieldLink RX2 15 "MixingRelays$Net" "lines" "I", Cond.fieldLink RX2 53 "MixingRelays$Net" "order" "[I", Cond.fieldLink RX2 56 "MixingRelays$Net" "vectors" "[J", Cond.methodLink RX2 84 yX2_mixed, Cond.instanceMethod yX2_mixed, Cond.selects RX2 yX2_mixed yX2_mixed, Cond.code yX2_mixed cX2_mixed 11 (some .long), Cond.fieldLink RX2 47 "MixingRelays$Net" "leading" "[I", Cond.fieldLink RX2 44 "MixingRelays$Net" "factors" "[I", Cond.methodLink RX2 66 yX2_insOf, Cond.static yX5_scaled, Cond.code yX5_scaled cX5_scaled 11 (some .long), Cond.constantLong RX5 236 (72340172838076673), Cond.constantLong RX5 238 (9187201950435737471), Cond.constantLong RX5 240 (27), Cond.methodLink RX3 36 yX3_gather, Cond.instanceMethod yX3_gather, Cond.selects RX3 yX3_gather yX3_gather, Cond.code yX3_gather cX3_gather 3 (some .int), Cond.fieldLink RX3 19 "MixingRelays$Span" "size" "I", Cond.fieldLink RX3 9 "MixingRelays$Span" "rows" "[J", Cond.fieldLink RX3 46 "MixingRelays$Net" "leadingCount" "[I"]
def wsX5_find_r4 : List Cond := [Cond.fieldLink RX3 52 "MixingRelays$Net" "leading" "[I", Cond.methodLink RX3 40 yJ7_fill_d0a16, Cond.static yJ7_fill_d0a16, Cond.initialized RJ7, Cond.code yJ7_fill_d0a16 cJ7_fill_d0a16 5 none, Cond.methodLink RX3 59 yX3_take, Cond.instanceMethod yX3_take, Cond.selects RX3 yX3_take yX3_take, Cond.code yX3_take cX3_take 6 none, Cond.fieldLink RX3 62 "MixingRelays$Net" "vectors" "[J", Cond.fieldLink RX3 15 "MixingRelays$Span" "newLines" "[I", Cond.static yX5_byteOf, Cond.code yX5_byteOf cX5_byteOf 3 (some .int), Cond.methodLink RX3 76 yX3_lastPieceIn, Cond.static yX3_lastPieceIn, Cond.code yX3_lastPieceIn cX3_lastPieceIn 4 (some .int), Cond.static yX5_inverseOf, Cond.code yX5_inverseOf cX5_inverseOf 4 (some .int), Cond.methodLink RX5 131 yX5_product, Cond.static yX5_product, Cond.code yX5_product cX5_product 2 (some .int), Cond.methodLink RX5 242 yX5_scaled]
def wsX5_find : List Cond := .code yX5_find cX5_find 1 (some .int) :: ((wsX5_find_r1 ++ (wsX5_find_r2 ++ (wsX5_find_r3 ++ wsX5_find_r4))) ++ wsX50 ++ wsX20 ++ wsX10 ++ wsX30)
def wsX5_leave_r1 : List Cond := [Cond.fieldLink RX5 37 "MixingRelays" "mixer" "LMixingRelays$Mixer;", Cond.methodLink RX5 206 yX1_unmixAll, Cond.instanceMethod yX1_unmixAll, Cond.selects RX1 yX1_unmixAll yX1_unmixAll, Cond.initialized RX1, Cond.code yX1_unmixAll cX1_unmixAll 3 (some .int), Cond.fieldLink RX1 18 "MixingRelays$Mixer" "net" "LMixingRelays$Net;", Cond.fieldLink RX1 26 "MixingRelays$Net" "lines" "I", Cond.fieldLink RX1 68 "MixingRelays$Net" "from" "[I", Cond.fieldLink RX1 32 "MixingRelays$Net" "kept" "I", Cond.methodLink RX1 65 yX1_noteRanks, Cond.instanceMethod yX1_noteRanks, Cond.selects RX1 yX1_noteRanks yX1_noteRanks, Cond.code yX1_noteRanks cX1_noteRanks 2 none, Cond.fieldLink RX1 92 "MixingRelays$Net" "down" "I", Cond.fieldLink RX1 99 "MixingRelays$Net" "relays" "I", Cond.fieldLink RX1 15 "MixingRelays$Mixer" "ranks" "[I", Cond.fieldLink RX1 22 "MixingRelays$Mixer" "span" "LMixingRelays$Span;", Cond.methodLink RX1 95 yX2_spreadVectors, Cond.instanceMethod yX2_spreadVectors, Cond.selects RX2 yX2_spreadVectors yX2_spreadVectors, Cond.initialized RX2, Cond.code yX2_spreadVectors cX2_spreadVectors 4 none, Cond.fieldLink RX2 15 "MixingRelays$Net" "lines" "I"]
def wsX5_leave_r2 : List Cond := [Cond.fieldLink RX2 53 "MixingRelays$Net" "order" "[I", Cond.fieldLink RX2 56 "MixingRelays$Net" "vectors" "[J", Cond.static yX5_flag, Cond.initialized RX5, Cond.code yX5_flag cX5_flag 2 (some .int), Cond.methodLink RX2 84 yX2_mixed, Cond.instanceMethod yX2_mixed, Cond.selects RX2 yX2_mixed yX2_mixed, Cond.code yX2_mixed cX2_mixed 11 (some .long), Cond.fieldLink RX2 30 "MixingRelays$Net" "from" "[I", Cond.fieldLink RX2 47 "MixingRelays$Net" "leading" "[I", Cond.fieldLink RX2 44 "MixingRelays$Net" "factors" "[I", Cond.methodLink RX2 66 yX2_insOf, Cond.instanceMethod yX2_insOf, Cond.selects RX2 yX2_insOf yX2_insOf, Cond.code yX2_insOf cX2_insOf 2 (some .int), Cond.fieldLink RX2 18 "MixingRelays$Net" "pieces" "I", Cond.fieldLink RX2 50 "MixingRelays$Net" "leadingCount" "[I", Cond.static yX5_slot, Cond.code yX5_slot cX5_slot 2 (some .int), Cond.static yX5_scaled, Cond.code yX5_scaled cX5_scaled 11 (some .long), Cond.constantLong RX5 236 (72340172838076673), Cond.constantLong RX5 238 (9187201950435737471)]
def wsX5_leave_r3 : List Cond := [Cond.constantLong RX5 240 (27), Cond.methodLink RX1 102 yX3_gather, Cond.instanceMethod yX3_gather, Cond.selects RX3 yX3_gather yX3_gather, Cond.initialized RX3, Cond.code yX3_gather cX3_gather 3 (some .int), Cond.fieldLink RX3 19 "MixingRelays$Span" "size" "I", Cond.fieldLink RX3 9 "MixingRelays$Span" "rows" "[J", Cond.fieldLink RX3 23 "MixingRelays$Span" "net" "LMixingRelays$Net;", Cond.fieldLink RX3 46 "MixingRelays$Net" "leadingCount" "[I", Cond.fieldLink RX3 49 "MixingRelays$Net" "pieces" "I", Cond.fieldLink RX3 52 "MixingRelays$Net" "leading" "[I", Cond.methodLink RX3 40 yJ7_fill_d0a16, Cond.static yJ7_fill_d0a16, Cond.initialized RJ7, Cond.code yJ7_fill_d0a16 cJ7_fill_d0a16 5 none, Cond.methodLink RX3 59 yX3_take, Cond.instanceMethod yX3_take, Cond.selects RX3 yX3_take yX3_take, Cond.code yX3_take cX3_take 6 none, Cond.fieldLink RX3 62 "MixingRelays$Net" "vectors" "[J", Cond.fieldLink RX3 15 "MixingRelays$Span" "newLines" "[I", Cond.static yX5_byteOf, Cond.code yX5_byteOf cX5_byteOf 3 (some .int)]
def wsX5_leave_r4 : List Cond := [Cond.methodLink RX3 76 yX3_lastPieceIn, Cond.static yX3_lastPieceIn, Cond.code yX3_lastPieceIn cX3_lastPieceIn 4 (some .int), Cond.static yX5_inverseOf, Cond.code yX5_inverseOf cX5_inverseOf 4 (some .int), Cond.methodLink RX5 131 yX5_product, Cond.static yX5_product, Cond.code yX5_product cX5_product 2 (some .int), Cond.methodLink RX5 242 yX5_scaled, Cond.methodLink RX1 71 yX2_isPassing, Cond.instanceMethod yX2_isPassing, Cond.selects RX2 yX2_isPassing yX2_isPassing, Cond.code yX2_isPassing cX2_isPassing 4 (some .boolean), Cond.static yX5_asFlag, Cond.code yX5_asFlag cX5_asFlag 1 (some .int), Cond.methodLink RX1 75 yX1_unmix, Cond.instanceMethod yX1_unmix, Cond.selects RX1 yX1_unmix yX1_unmix, Cond.code yX1_unmix cX1_unmix 5 (some .boolean), Cond.fieldLink RX1 44 "MixingRelays$Net" "factors" "[I", Cond.fieldLink RX1 9 "MixingRelays$Mixer" "saved" "[I", Cond.methodLink RX1 50 arraycopyName, Cond.native arraycopyName, Cond.static arraycopyName]
def wsX5_leave_r5 : List Cond := [Cond.initialized "java/lang/System", Cond.methodLink RX1 39 yX2_insOf, Cond.methodLink RX1 82 yJ7_fill_fda19, Cond.static yJ7_fill_fda19, Cond.code yJ7_fill_fda19 cJ7_fill_fda19 5 none, Cond.methodLink RJ7 13 yJ7_rangeCheck_23922, Cond.static yJ7_rangeCheck_23922, Cond.code yJ7_rangeCheck_23922 cJ7_rangeCheck_23922 3 none, Cond.methodLink RX1 88 yX1_ranksHold, Cond.instanceMethod yX1_ranksHold, Cond.selects RX1 yX1_ranksHold yX1_ranksHold, Cond.code yX1_ranksHold cX1_ranksHold 2 (some .boolean), Cond.fieldLink RX1 105 "MixingRelays$Net" "ends" "I"]
def wsX5_leave : List Cond := .code yX5_leave cX5_leave 1 (some .int) :: ((wsX5_leave_r1 ++ (wsX5_leave_r2 ++ (wsX5_leave_r3 ++ (wsX5_leave_r4 ++ wsX5_leave_r5)))) ++ wsX50 ++ wsX10 ++ wsX20 ++ wsX30)
def wsX5_isBreakCount : List Cond := .code yX5_isBreakCount cX5_isBreakCount 1 (some .boolean) :: ([])
def wsX5_safe_r1 : List Cond := [Cond.fieldLink RX5 10 "MixingRelays" "net" "LMixingRelays$Net;", Cond.fieldLink RX5 63 "MixingRelays$Net" "pieces" "I", Cond.fieldLink RX5 44 "MixingRelays" "breaker" "LMixingRelays$Breaker;", Cond.methodLink RX5 209 yX5_isBreakCount, Cond.static yX5_isBreakCount, Cond.initialized RX5, Cond.code yX5_isBreakCount cX5_isBreakCount 1 (some .boolean), Cond.methodLink RX5 212 yX0_search, Cond.instanceMethod yX0_search, Cond.selects RX0 yX0_search yX0_search, Cond.initialized RX0, Cond.code yX0_search cX0_search 3 (some .boolean), Cond.fieldLink RX0 9 "MixingRelays$Breaker" "lesser" "I", Cond.fieldLink RX0 15 "MixingRelays$Breaker" "greater" "I", Cond.methodLink RX0 29 yX0_weakens, Cond.instanceMethod yX0_weakens, Cond.selects RX0 yX0_weakens yX0_weakens, Cond.code yX0_weakens cX0_weakens 4 (some .boolean), Cond.fieldLink RX0 21 "MixingRelays$Breaker" "net" "LMixingRelays$Net;", Cond.fieldLink RX0 45 "MixingRelays$Net" "down" "I", Cond.fieldLink RX0 56 "MixingRelays$Net" "relays" "I", Cond.fieldLink RX0 59 "MixingRelays$Net" "ends" "I", Cond.fieldLink RX0 25 "MixingRelays$Breaker" "span" "LMixingRelays$Span;", Cond.fieldLink RX0 18 "MixingRelays$Breaker" "weakEnd" "I"]
def wsX5_safe_r2 : List Cond := [Cond.methodLink RX0 52 yX2_spreadVectors, Cond.instanceMethod yX2_spreadVectors, Cond.selects RX2 yX2_spreadVectors yX2_spreadVectors, Cond.initialized RX2, Cond.code yX2_spreadVectors cX2_spreadVectors 4 none, Cond.fieldLink RX2 15 "MixingRelays$Net" "lines" "I", Cond.fieldLink RX2 53 "MixingRelays$Net" "order" "[I", Cond.fieldLink RX2 56 "MixingRelays$Net" "vectors" "[J", Cond.static yX5_flag, Cond.code yX5_flag cX5_flag 2 (some .int), Cond.methodLink RX2 84 yX2_mixed, Cond.instanceMethod yX2_mixed, Cond.selects RX2 yX2_mixed yX2_mixed, Cond.code yX2_mixed cX2_mixed 11 (some .long), Cond.fieldLink RX2 30 "MixingRelays$Net" "from" "[I", Cond.fieldLink RX2 47 "MixingRelays$Net" "leading" "[I", Cond.fieldLink RX2 44 "MixingRelays$Net" "factors" "[I", Cond.methodLink RX2 66 yX2_insOf, Cond.instanceMethod yX2_insOf, Cond.selects RX2 yX2_insOf yX2_insOf, Cond.code yX2_insOf cX2_insOf 2 (some .int), Cond.fieldLink RX2 18 "MixingRelays$Net" "pieces" "I", Cond.fieldLink RX2 50 "MixingRelays$Net" "leadingCount" "[I", Cond.static yX5_slot]
def wsX5_safe_r3 : List Cond := [Cond.code yX5_slot cX5_slot 2 (some .int), Cond.static yX5_scaled, Cond.code yX5_scaled cX5_scaled 11 (some .long), Cond.constantLong RX5 236 (72340172838076673), Cond.constantLong RX5 238 (9187201950435737471), Cond.constantLong RX5 240 (27), Cond.methodLink RX0 62 yX3_gather, Cond.instanceMethod yX3_gather, Cond.selects RX3 yX3_gather yX3_gather, Cond.initialized RX3, Cond.code yX3_gather cX3_gather 3 (some .int), Cond.fieldLink RX3 19 "MixingRelays$Span" "size" "I", Cond.fieldLink RX3 9 "MixingRelays$Span" "rows" "[J", Cond.fieldLink RX3 23 "MixingRelays$Span" "net" "LMixingRelays$Net;", Cond.fieldLink RX3 46 "MixingRelays$Net" "leadingCount" "[I", Cond.fieldLink RX3 49 "MixingRelays$Net" "pieces" "I", Cond.fieldLink RX3 52 "MixingRelays$Net" "leading" "[I", Cond.methodLink RX3 40 yJ7_fill_d0a16, Cond.static yJ7_fill_d0a16, Cond.initialized RJ7, Cond.code yJ7_fill_d0a16 cJ7_fill_d0a16 5 none, Cond.methodLink RX3 59 yX3_take, Cond.instanceMethod yX3_take, Cond.selects RX3 yX3_take yX3_take]
def wsX5_safe_r4 : List Cond := [Cond.code yX3_take cX3_take 6 none, Cond.fieldLink RX3 62 "MixingRelays$Net" "vectors" "[J", Cond.fieldLink RX3 15 "MixingRelays$Span" "newLines" "[I", Cond.static yX5_byteOf, Cond.code yX5_byteOf cX5_byteOf 3 (some .int), Cond.methodLink RX3 76 yX3_lastPieceIn, Cond.static yX3_lastPieceIn, Cond.code yX3_lastPieceIn cX3_lastPieceIn 4 (some .int), Cond.static yX5_inverseOf, Cond.code yX5_inverseOf cX5_inverseOf 4 (some .int), Cond.methodLink RX5 131 yX5_product, Cond.static yX5_product, Cond.code yX5_product cX5_product 2 (some .int), Cond.methodLink RX5 242 yX5_scaled, Cond.methodLink RX0 33 yX0_searchOne, Cond.instanceMethod yX0_searchOne, Cond.selects RX0 yX0_searchOne yX0_searchOne, Cond.code yX0_searchOne cX0_searchOne 3 (some .boolean), Cond.fieldLink RX0 40 "MixingRelays$Net" "lines" "I", Cond.methodLink RX0 37 yX0_searchTwo, Cond.instanceMethod yX0_searchTwo, Cond.selects RX0 yX0_searchTwo yX0_searchTwo, Cond.code yX0_searchTwo cX0_searchTwo 5 (some .boolean), Cond.methodLink RX5 118 yX5_asFlag]
def wsX5_safe_r5 : List Cond := [Cond.static yX5_asFlag, Cond.code yX5_asFlag cX5_asFlag 1 (some .int)]
def wsX5_safe : List Cond := .code yX5_safe cX5_safe 3 (some .int) :: ((wsX5_safe_r1 ++ (wsX5_safe_r2 ++ (wsX5_safe_r3 ++ (wsX5_safe_r4 ++ wsX5_safe_r5)))) ++ wsX50 ++ wsX20 ++ wsX00 ++ wsX30)
def wsX5_breaks_r1 : List Cond := [Cond.fieldLink RX5 10 "MixingRelays" "net" "LMixingRelays$Net;", Cond.fieldLink RX5 63 "MixingRelays$Net" "pieces" "I", Cond.fieldLink RX5 44 "MixingRelays" "breaker" "LMixingRelays$Breaker;", Cond.fieldLink RX5 216 "MixingRelays$Breaker" "lesser" "I", Cond.fieldLink RX5 219 "MixingRelays$Breaker" "greater" "I", Cond.fieldLink RX5 222 "MixingRelays$Breaker" "weakEnd" "I", Cond.methodLink RX5 209 yX5_isBreakCount, Cond.static yX5_isBreakCount, Cond.initialized RX5, Cond.code yX5_isBreakCount cX5_isBreakCount 1 (some .boolean), Cond.methodLink RX5 212 yX0_search, Cond.instanceMethod yX0_search, Cond.selects RX0 yX0_search yX0_search, Cond.initialized RX0, Cond.code yX0_search cX0_search 3 (some .boolean), Cond.fieldLink RX0 9 "MixingRelays$Breaker" "lesser" "I", Cond.fieldLink RX0 15 "MixingRelays$Breaker" "greater" "I", Cond.methodLink RX0 29 yX0_weakens, Cond.instanceMethod yX0_weakens, Cond.selects RX0 yX0_weakens yX0_weakens, Cond.code yX0_weakens cX0_weakens 4 (some .boolean), Cond.fieldLink RX0 21 "MixingRelays$Breaker" "net" "LMixingRelays$Net;", Cond.fieldLink RX0 45 "MixingRelays$Net" "down" "I", Cond.fieldLink RX0 56 "MixingRelays$Net" "relays" "I"]
def wsX5_breaks_r2 : List Cond := [Cond.fieldLink RX0 59 "MixingRelays$Net" "ends" "I", Cond.fieldLink RX0 25 "MixingRelays$Breaker" "span" "LMixingRelays$Span;", Cond.fieldLink RX0 18 "MixingRelays$Breaker" "weakEnd" "I", Cond.methodLink RX0 52 yX2_spreadVectors, Cond.instanceMethod yX2_spreadVectors, Cond.selects RX2 yX2_spreadVectors yX2_spreadVectors, Cond.initialized RX2, Cond.code yX2_spreadVectors cX2_spreadVectors 4 none, Cond.fieldLink RX2 15 "MixingRelays$Net" "lines" "I", Cond.fieldLink RX2 53 "MixingRelays$Net" "order" "[I", Cond.fieldLink RX2 56 "MixingRelays$Net" "vectors" "[J", Cond.static yX5_flag, Cond.code yX5_flag cX5_flag 2 (some .int), Cond.methodLink RX2 84 yX2_mixed, Cond.instanceMethod yX2_mixed, Cond.selects RX2 yX2_mixed yX2_mixed, Cond.code yX2_mixed cX2_mixed 11 (some .long), Cond.fieldLink RX2 30 "MixingRelays$Net" "from" "[I", Cond.fieldLink RX2 47 "MixingRelays$Net" "leading" "[I", Cond.fieldLink RX2 44 "MixingRelays$Net" "factors" "[I", Cond.methodLink RX2 66 yX2_insOf, Cond.instanceMethod yX2_insOf, Cond.selects RX2 yX2_insOf yX2_insOf, Cond.code yX2_insOf cX2_insOf 2 (some .int)]
def wsX5_breaks_r3 : List Cond := [Cond.fieldLink RX2 18 "MixingRelays$Net" "pieces" "I", Cond.fieldLink RX2 50 "MixingRelays$Net" "leadingCount" "[I", Cond.static yX5_slot, Cond.code yX5_slot cX5_slot 2 (some .int), Cond.static yX5_scaled, Cond.code yX5_scaled cX5_scaled 11 (some .long), Cond.constantLong RX5 236 (72340172838076673), Cond.constantLong RX5 238 (9187201950435737471), Cond.constantLong RX5 240 (27), Cond.methodLink RX0 62 yX3_gather, Cond.instanceMethod yX3_gather, Cond.selects RX3 yX3_gather yX3_gather, Cond.initialized RX3, Cond.code yX3_gather cX3_gather 3 (some .int), Cond.fieldLink RX3 19 "MixingRelays$Span" "size" "I", Cond.fieldLink RX3 9 "MixingRelays$Span" "rows" "[J", Cond.fieldLink RX3 23 "MixingRelays$Span" "net" "LMixingRelays$Net;", Cond.fieldLink RX3 46 "MixingRelays$Net" "leadingCount" "[I", Cond.fieldLink RX3 49 "MixingRelays$Net" "pieces" "I", Cond.fieldLink RX3 52 "MixingRelays$Net" "leading" "[I", Cond.methodLink RX3 40 yJ7_fill_d0a16, Cond.static yJ7_fill_d0a16, Cond.initialized RJ7, Cond.code yJ7_fill_d0a16 cJ7_fill_d0a16 5 none]
def wsX5_breaks_r4 : List Cond := [Cond.methodLink RX3 59 yX3_take, Cond.instanceMethod yX3_take, Cond.selects RX3 yX3_take yX3_take, Cond.code yX3_take cX3_take 6 none, Cond.fieldLink RX3 62 "MixingRelays$Net" "vectors" "[J", Cond.fieldLink RX3 15 "MixingRelays$Span" "newLines" "[I", Cond.static yX5_byteOf, Cond.code yX5_byteOf cX5_byteOf 3 (some .int), Cond.methodLink RX3 76 yX3_lastPieceIn, Cond.static yX3_lastPieceIn, Cond.code yX3_lastPieceIn cX3_lastPieceIn 4 (some .int), Cond.static yX5_inverseOf, Cond.code yX5_inverseOf cX5_inverseOf 4 (some .int), Cond.methodLink RX5 131 yX5_product, Cond.static yX5_product, Cond.code yX5_product cX5_product 2 (some .int), Cond.methodLink RX5 242 yX5_scaled, Cond.methodLink RX0 33 yX0_searchOne, Cond.instanceMethod yX0_searchOne, Cond.selects RX0 yX0_searchOne yX0_searchOne, Cond.code yX0_searchOne cX0_searchOne 3 (some .boolean), Cond.fieldLink RX0 40 "MixingRelays$Net" "lines" "I", Cond.methodLink RX0 37 yX0_searchTwo, Cond.instanceMethod yX0_searchTwo]
def wsX5_breaks_r5 : List Cond := [Cond.selects RX0 yX0_searchTwo yX0_searchTwo, Cond.code yX0_searchTwo cX0_searchTwo 5 (some .boolean)]
def wsX5_breaks : List Cond := .code yX5_breaks cX5_breaks 4 (some .int) :: ((wsX5_breaks_r1 ++ (wsX5_breaks_r2 ++ (wsX5_breaks_r3 ++ (wsX5_breaks_r4 ++ wsX5_breaks_r5)))) ++ wsX50 ++ wsX20 ++ wsX00 ++ wsX30)
def wsJ6_bitCount_0f7a4 : List Cond := .code yJ6_bitCount_0f7a4 cJ6_bitCount_0f7a4 1 (some .int) :: ([.constant RJ6 265 (1431655765), .constant RJ6 266 (858993459), .constant RJ6 267 (252645135)])
def wsX5_count_r1 : List Cond := [Cond.fieldLink RX5 10 "MixingRelays" "net" "LMixingRelays$Net;", Cond.fieldLink RX5 48 "MixingRelays$Net" "relays" "I", Cond.fieldLink RX5 56 "MixingRelays$Net" "lines" "I", Cond.fieldLink RX5 63 "MixingRelays$Net" "pieces" "I", Cond.fieldLink RX5 82 "MixingRelays$Net" "ends" "I", Cond.fieldLink RX5 112 "MixingRelays$Net" "down" "I", Cond.methodLink RX5 225 yJ6_bitCount_0f7a4, Cond.static yJ6_bitCount_0f7a4, Cond.initialized RJ6, Cond.code yJ6_bitCount_0f7a4 cJ6_bitCount_0f7a4 1 (some .int), Cond.constant RJ6 265 (1431655765), Cond.constant RJ6 266 (858993459), Cond.constant RJ6 267 (252645135), Cond.methodLink RX5 230 yX2_passingLines, Cond.instanceMethod yX2_passingLines, Cond.selects RX2 yX2_passingLines yX2_passingLines, Cond.initialized RX2, Cond.code yX2_passingLines cX2_passingLines 3 (some .int), Cond.fieldLink RX2 15 "MixingRelays$Net" "lines" "I", Cond.methodLink RX2 74 yX2_isPassing, Cond.instanceMethod yX2_isPassing, Cond.selects RX2 yX2_isPassing yX2_isPassing, Cond.code yX2_isPassing cX2_isPassing 4 (some .boolean), Cond.fieldLink RX2 30 "MixingRelays$Net" "from" "[I"]
def wsX5_count_r2 : List Cond := [Cond.fieldLink RX2 44 "MixingRelays$Net" "factors" "[I", Cond.methodLink RX2 66 yX2_insOf, Cond.instanceMethod yX2_insOf, Cond.selects RX2 yX2_insOf yX2_insOf, Cond.code yX2_insOf cX2_insOf 2 (some .int), Cond.fieldLink RX2 18 "MixingRelays$Net" "pieces" "I", Cond.fieldLink RX2 50 "MixingRelays$Net" "leadingCount" "[I", Cond.static yX5_slot, Cond.initialized RX5, Cond.code yX5_slot cX5_slot 2 (some .int), Cond.static yX5_asFlag, Cond.code yX5_asFlag cX5_asFlag 1 (some .int), Cond.methodLink RX5 233 yX2_allFactors, Cond.instanceMethod yX2_allFactors, Cond.selects RX2 yX2_allFactors yX2_allFactors, Cond.code yX2_allFactors cX2_allFactors 3 (some .int)]
def wsX5_count : List Cond := .code yX5_count cX5_count 2 (some .int) :: ((wsX5_count_r1 ++ wsX5_count_r2) ++ wsX50 ++ wsX20)
def wsX6_init_r1 : List Cond := [Cond.methodLink RX6 1 objectInit, Cond.instanceMethod objectInit, Cond.code objectInit ⟨#[0xb1]⟩ 1 none, Cond.fieldLink RX6 7 "MixingRelaysModel" "relays" "I", Cond.fieldLink RX6 13 "MixingRelaysModel" "h" "I", Cond.arrayClass .long, Cond.fieldLink RX6 16 "MixingRelaysModel" "pieces" "[J", Cond.arrayClass .boolean, Cond.fieldLink RX6 20 "MixingRelaysModel" "isEnd" "[Z", Cond.arrayClass .int, Cond.fieldLink RX6 24 "MixingRelaysModel" "from" "[I", Cond.fieldLink RX6 28 "MixingRelaysModel" "to" "[I", Cond.fieldLink RX6 31 "MixingRelaysModel" "kept" "[Z", Cond.fieldLink RX6 34 "MixingRelaysModel" "broken" "[Z", Cond.fieldLink RX6 37 "MixingRelaysModel" "bent" "[J", Cond.fieldLink RX6 40 "MixingRelaysModel" "factors" "[I", Cond.fieldLink RX6 43 "MixingRelaysModel" "used" "[Z", Cond.fieldLink RX6 46 "MixingRelaysModel" "come" "[Z", Cond.fieldLink RX6 49 "MixingRelaysModel" "by" "[I", Cond.fieldLink RX6 52 "MixingRelaysModel" "vectors" "[I", Cond.fieldLink RX6 55 "MixingRelaysModel" "carried" "[J", Cond.fieldLink RX6 58 "MixingRelaysModel" "alsoA" "I", Cond.fieldLink RX6 61 "MixingRelaysModel" "alsoB" "I", Cond.fieldLink RX6 64 "MixingRelaysModel" "rows" "[I"]
def wsX6_init_r2 : List Cond := [Cond.fieldLink RX6 67 "MixingRelaysModel" "lead" "[I", Cond.fieldLink RX6 70 "MixingRelaysModel" "fresh" "[I", Cond.fieldLink RX6 73 "MixingRelaysModel" "row" "[I", Cond.fieldLink RX6 76 "MixingRelaysModel" "lacks" "[I", Cond.fieldLink RX6 79 "MixingRelaysModel" "matrix" "[I", Cond.fieldLink RX6 82 "MixingRelaysModel" "before" "[I", Cond.fieldLink RX6 85 "MixingRelaysModel" "ranks" "[I"]
def wsX6_init : List Cond := .code yX6_init cX6_init 1 none :: ((wsX6_init_r1 ++ wsX6_init_r2) ++ wsX60)
def wsX6_in : List Cond := .code yX6_in cX6_in 3 (some .boolean) :: ([])
def wsX6_product : List Cond := .code yX6_product cX6_product 5 (some .int) :: ([])
def wsX6_inverseOf : List Cond := .code yX6_inverseOf cX6_inverseOf 2 (some .int) :: ([.methodLink RX6 91 yX6_product, .static yX6_product, .initialized RX6, .code yX6_product cX6_product 5 (some .int)])
def wsX6_product_ : List Cond := .code yX6_product_ cX6_product_ 6 (some .long) :: ([.constantLong RX6 95 (255), .methodLink RX6 91 yX6_product, .static yX6_product, .initialized RX6, .code yX6_product cX6_product 5 (some .int)])
def wsX6_times : List Cond := .code yX6_times cX6_times 3 (some .int) :: ([.methodLink RX6 97 yX6_in, .static yX6_in, .initialized RX6, .code yX6_in cX6_in 3 (some .boolean), .methodLink RX6 91 yX6_product, .static yX6_product, .code yX6_product cX6_product 5 (some .int)])
def wsX6_inverse : List Cond := .code yX6_inverse cX6_inverse 2 (some .int) :: ([.methodLink RX6 97 yX6_in, .static yX6_in, .initialized RX6, .code yX6_in cX6_in 3 (some .boolean), .methodLink RX6 101 yX6_inverseOf, .static yX6_inverseOf, .code yX6_inverseOf cX6_inverseOf 2 (some .int), .methodLink RX6 91 yX6_product, .static yX6_product, .code yX6_product cX6_product 5 (some .int)])
def wsX6_isRelay : List Cond := .code yX6_isRelay cX6_isRelay 2 (some .boolean) :: ([.fieldLink RX6 7 "MixingRelaysModel" "relays" "I", .methodLink RX6 97 yX6_in, .static yX6_in, .initialized RX6, .code yX6_in cX6_in 3 (some .boolean)] ++ wsX60)
def wsX6_isLine : List Cond := .code yX6_isLine cX6_isLine 2 (some .boolean) :: ([.fieldLink RX6 105 "MixingRelaysModel" "lines" "I", .methodLink RX6 97 yX6_in, .static yX6_in, .initialized RX6, .code yX6_in cX6_in 3 (some .boolean)] ++ wsX60)
def wsX6_waysIn : List Cond := .code yX6_waysIn cX6_waysIn 4 (some .int) :: ([.fieldLink RX6 105 "MixingRelaysModel" "lines" "I", .fieldLink RX6 28 "MixingRelaysModel" "to" "[I"] ++ wsX60)
def wsX6_ins : List Cond := .code yX6_ins cX6_ins 2 (some .int) :: ([.fieldLink RX6 24 "MixingRelaysModel" "from" "[I", .fieldLink RX6 13 "MixingRelaysModel" "h" "I", .methodLink RX6 108 yX6_waysIn, .instanceMethod yX6_waysIn, .selects RX6 yX6_waysIn yX6_waysIn, .initialized RX6, .code yX6_waysIn cX6_waysIn 4 (some .int), .fieldLink RX6 105 "MixingRelaysModel" "lines" "I", .fieldLink RX6 28 "MixingRelaysModel" "to" "[I"] ++ wsX60)
def wsX6_lineIn : List Cond := .code yX6_lineIn cX6_lineIn 5 (some .int) :: ([.fieldLink RX6 105 "MixingRelaysModel" "lines" "I", .fieldLink RX6 28 "MixingRelaysModel" "to" "[I"] ++ wsX60)
def wsX6_relay : List Cond := .code yX6_relay cX6_relay 1 (some .int) :: ([.fieldLink RX6 7 "MixingRelaysModel" "relays" "I"] ++ wsX60)
def wsX6_line : List Cond := .code yX6_line cX6_line 3 (some .int) :: ([.fieldLink RX6 105 "MixingRelaysModel" "lines" "I", .fieldLink RX6 24 "MixingRelaysModel" "from" "[I", .fieldLink RX6 28 "MixingRelaysModel" "to" "[I", .methodLink RX6 111 yX6_isRelay, .instanceMethod yX6_isRelay, .selects RX6 yX6_isRelay yX6_isRelay, .initialized RX6, .code yX6_isRelay cX6_isRelay 2 (some .boolean), .fieldLink RX6 7 "MixingRelaysModel" "relays" "I", .methodLink RX6 97 yX6_in, .static yX6_in, .code yX6_in cX6_in 3 (some .boolean)] ++ wsX60)
def wsX6_pieces : List Cond := .code yX6_pieces cX6_pieces 4 (some .int) :: ([.fieldLink RX6 105 "MixingRelaysModel" "lines" "I", .fieldLink RX6 13 "MixingRelaysModel" "h" "I", .fieldLink RX6 16 "MixingRelaysModel" "pieces" "[J", .methodLink RX6 97 yX6_in, .static yX6_in, .initialized RX6, .code yX6_in cX6_in 3 (some .boolean)] ++ wsX60)
def wsX6_piece : List Cond := .code yX6_piece cX6_piece 4 (some .int) :: ([.fieldLink RX6 13 "MixingRelaysModel" "h" "I", .fieldLink RX6 16 "MixingRelaysModel" "pieces" "[J", .methodLink RX6 97 yX6_in, .static yX6_in, .initialized RX6, .code yX6_in cX6_in 3 (some .boolean)] ++ wsX60)
def wsX6_end : List Cond := .code yX6_end cX6_end 4 (some .int) :: ([.fieldLink RX6 20 "MixingRelaysModel" "isEnd" "[Z", .methodLink RX6 111 yX6_isRelay, .instanceMethod yX6_isRelay, .selects RX6 yX6_isRelay yX6_isRelay, .initialized RX6, .code yX6_isRelay cX6_isRelay 2 (some .boolean), .fieldLink RX6 7 "MixingRelaysModel" "relays" "I", .methodLink RX6 97 yX6_in, .static yX6_in, .code yX6_in cX6_in 3 (some .boolean)] ++ wsX60)
def wsX6_factor : List Cond := .code yX6_factor cX6_factor 5 (some .int) :: ([.fieldLink RX6 40 "MixingRelaysModel" "factors" "[I", .methodLink RX6 115 yX6_isLine, .instanceMethod yX6_isLine, .selects RX6 yX6_isLine yX6_isLine, .initialized RX6, .code yX6_isLine cX6_isLine 2 (some .boolean), .fieldLink RX6 105 "MixingRelaysModel" "lines" "I", .methodLink RX6 97 yX6_in, .static yX6_in, .code yX6_in cX6_in 3 (some .boolean), .methodLink RX6 118 yX6_ins, .instanceMethod yX6_ins, .selects RX6 yX6_ins yX6_ins, .code yX6_ins cX6_ins 2 (some .int), .fieldLink RX6 24 "MixingRelaysModel" "from" "[I", .fieldLink RX6 13 "MixingRelaysModel" "h" "I", .methodLink RX6 108 yX6_waysIn, .instanceMethod yX6_waysIn, .selects RX6 yX6_waysIn yX6_waysIn, .code yX6_waysIn cX6_waysIn 4 (some .int), .fieldLink RX6 28 "MixingRelaysModel" "to" "[I"] ++ wsX60)
def wsX6_keep : List Cond := .code yX6_keep cX6_keep 4 (some .int) :: ([.fieldLink RX6 31 "MixingRelaysModel" "kept" "[Z", .methodLink RX6 115 yX6_isLine, .instanceMethod yX6_isLine, .selects RX6 yX6_isLine yX6_isLine, .initialized RX6, .code yX6_isLine cX6_isLine 2 (some .boolean), .fieldLink RX6 105 "MixingRelaysModel" "lines" "I", .methodLink RX6 97 yX6_in, .static yX6_in, .code yX6_in cX6_in 3 (some .boolean)] ++ wsX60)
def wsX6_broken : List Cond := .code yX6_broken cX6_broken 4 (some .int) :: ([.fieldLink RX6 34 "MixingRelaysModel" "broken" "[Z", .methodLink RX6 115 yX6_isLine, .instanceMethod yX6_isLine, .selects RX6 yX6_isLine yX6_isLine, .initialized RX6, .code yX6_isLine cX6_isLine 2 (some .boolean), .fieldLink RX6 105 "MixingRelaysModel" "lines" "I", .methodLink RX6 97 yX6_in, .static yX6_in, .code yX6_in cX6_in 3 (some .boolean)] ++ wsX60)
def wsX6_bend : List Cond := .code yX6_bend cX6_bend 5 (some .int) :: ([.fieldLink RX6 37 "MixingRelaysModel" "bent" "[J", .methodLink RX6 115 yX6_isLine, .instanceMethod yX6_isLine, .selects RX6 yX6_isLine yX6_isLine, .initialized RX6, .code yX6_isLine cX6_isLine 2 (some .boolean), .fieldLink RX6 105 "MixingRelaysModel" "lines" "I", .methodLink RX6 97 yX6_in, .static yX6_in, .code yX6_in cX6_in 3 (some .boolean)] ++ wsX60)
def wsX6_isPassing : List Cond := .code yX6_isPassing cX6_isPassing 4 (some .boolean) :: ([.fieldLink RX6 40 "MixingRelaysModel" "factors" "[I", .fieldLink RX6 24 "MixingRelaysModel" "from" "[I", .methodLink RX6 118 yX6_ins, .instanceMethod yX6_ins, .selects RX6 yX6_ins yX6_ins, .initialized RX6, .code yX6_ins cX6_ins 2 (some .int), .fieldLink RX6 13 "MixingRelaysModel" "h" "I", .methodLink RX6 108 yX6_waysIn, .instanceMethod yX6_waysIn, .selects RX6 yX6_waysIn yX6_waysIn, .code yX6_waysIn cX6_waysIn 4 (some .int), .fieldLink RX6 105 "MixingRelaysModel" "lines" "I", .fieldLink RX6 28 "MixingRelaysModel" "to" "[I"] ++ wsX60)
def wsX6_about_r1 : List Cond := [Cond.fieldLink RX6 24 "MixingRelaysModel" "from" "[I", Cond.fieldLink RX6 28 "MixingRelaysModel" "to" "[I", Cond.fieldLink RX6 31 "MixingRelaysModel" "kept" "[Z", Cond.fieldLink RX6 34 "MixingRelaysModel" "broken" "[Z", Cond.fieldLink RX6 37 "MixingRelaysModel" "bent" "[J", Cond.methodLink RX6 115 yX6_isLine, Cond.instanceMethod yX6_isLine, Cond.selects RX6 yX6_isLine yX6_isLine, Cond.initialized RX6, Cond.code yX6_isLine cX6_isLine 2 (some .boolean), Cond.fieldLink RX6 105 "MixingRelaysModel" "lines" "I", Cond.methodLink RX6 97 yX6_in, Cond.static yX6_in, Cond.code yX6_in cX6_in 3 (some .boolean), Cond.methodLink RX6 118 yX6_ins, Cond.instanceMethod yX6_ins, Cond.selects RX6 yX6_ins yX6_ins, Cond.code yX6_ins cX6_ins 2 (some .int), Cond.fieldLink RX6 13 "MixingRelaysModel" "h" "I", Cond.methodLink RX6 108 yX6_waysIn, Cond.instanceMethod yX6_waysIn, Cond.selects RX6 yX6_waysIn yX6_waysIn, Cond.code yX6_waysIn cX6_waysIn 4 (some .int), Cond.methodLink RX6 121 yX6_isPassing]
def wsX6_about_r2 : List Cond := [Cond.instanceMethod yX6_isPassing, Cond.selects RX6 yX6_isPassing yX6_isPassing, Cond.code yX6_isPassing cX6_isPassing 4 (some .boolean), Cond.fieldLink RX6 40 "MixingRelaysModel" "factors" "[I"]
def wsX6_about : List Cond := .code yX6_about cX6_about 3 (some .int) :: ((wsX6_about_r1 ++ wsX6_about_r2) ++ wsX60)
def wsX6_seek : List Cond := .code yX6_seek cX6_seek 5 none :: ([.fieldLink RX6 46 "MixingRelaysModel" "come" "[Z", .fieldLink RX6 49 "MixingRelaysModel" "by" "[I", .fieldLink RX6 105 "MixingRelaysModel" "lines" "I", .fieldLink RX6 34 "MixingRelaysModel" "broken" "[Z", .fieldLink RX6 43 "MixingRelaysModel" "used" "[Z", .fieldLink RX6 28 "MixingRelaysModel" "to" "[I", .fieldLink RX6 24 "MixingRelaysModel" "from" "[I"] ++ wsX60)
def wsX6_flowOf : List Cond := .code yX6_flowOf cX6_flowOf 5 (some .int) :: ([.fieldLink RX6 43 "MixingRelaysModel" "used" "[Z", .fieldLink RX6 46 "MixingRelaysModel" "come" "[Z", .fieldLink RX6 49 "MixingRelaysModel" "by" "[I", .fieldLink RX6 28 "MixingRelaysModel" "to" "[I", .fieldLink RX6 24 "MixingRelaysModel" "from" "[I", .methodLink RX6 124 yX6_seek, .instanceMethod yX6_seek, .selects RX6 yX6_seek yX6_seek, .initialized RX6, .code yX6_seek cX6_seek 5 none, .fieldLink RX6 105 "MixingRelaysModel" "lines" "I", .fieldLink RX6 34 "MixingRelaysModel" "broken" "[Z"] ++ wsX60)
def wsX6_flow : List Cond := .code yX6_flow cX6_flow 2 (some .int) :: ([.methodLink RX6 111 yX6_isRelay, .instanceMethod yX6_isRelay, .selects RX6 yX6_isRelay yX6_isRelay, .initialized RX6, .code yX6_isRelay cX6_isRelay 2 (some .boolean), .fieldLink RX6 7 "MixingRelaysModel" "relays" "I", .methodLink RX6 97 yX6_in, .static yX6_in, .code yX6_in cX6_in 3 (some .boolean), .methodLink RX6 127 yX6_flowOf, .instanceMethod yX6_flowOf, .selects RX6 yX6_flowOf yX6_flowOf, .code yX6_flowOf cX6_flowOf 5 (some .int), .fieldLink RX6 43 "MixingRelaysModel" "used" "[Z", .fieldLink RX6 46 "MixingRelaysModel" "come" "[Z", .fieldLink RX6 49 "MixingRelaysModel" "by" "[I", .fieldLink RX6 28 "MixingRelaysModel" "to" "[I", .fieldLink RX6 24 "MixingRelaysModel" "from" "[I", .methodLink RX6 124 yX6_seek, .instanceMethod yX6_seek, .selects RX6 yX6_seek yX6_seek, .code yX6_seek cX6_seek 5 none, .fieldLink RX6 105 "MixingRelaysModel" "lines" "I", .fieldLink RX6 34 "MixingRelaysModel" "broken" "[Z"] ++ wsX60)
def wsX6_cut : List Cond := .code yX6_cut cX6_cut 6 (some .int) :: ([.fieldLink RX6 105 "MixingRelaysModel" "lines" "I", .fieldLink RX6 34 "MixingRelaysModel" "broken" "[Z", .fieldLink RX6 46 "MixingRelaysModel" "come" "[Z", .fieldLink RX6 24 "MixingRelaysModel" "from" "[I", .fieldLink RX6 28 "MixingRelaysModel" "to" "[I", .methodLink RX6 111 yX6_isRelay, .instanceMethod yX6_isRelay, .selects RX6 yX6_isRelay yX6_isRelay, .initialized RX6, .code yX6_isRelay cX6_isRelay 2 (some .boolean), .fieldLink RX6 7 "MixingRelaysModel" "relays" "I", .methodLink RX6 97 yX6_in, .static yX6_in, .code yX6_in cX6_in 3 (some .boolean), .methodLink RX6 127 yX6_flowOf, .instanceMethod yX6_flowOf, .selects RX6 yX6_flowOf yX6_flowOf, .code yX6_flowOf cX6_flowOf 5 (some .int), .fieldLink RX6 43 "MixingRelaysModel" "used" "[Z", .fieldLink RX6 49 "MixingRelaysModel" "by" "[I", .methodLink RX6 124 yX6_seek, .instanceMethod yX6_seek, .selects RX6 yX6_seek yX6_seek, .code yX6_seek cX6_seek 5 none] ++ wsX60)
def wsX6_rate : List Cond := .code yX6_rate cX6_rate 4 (some .int) :: ([.fieldLink RX6 7 "MixingRelaysModel" "relays" "I", .fieldLink RX6 20 "MixingRelaysModel" "isEnd" "[Z", .methodLink RX6 127 yX6_flowOf, .instanceMethod yX6_flowOf, .selects RX6 yX6_flowOf yX6_flowOf, .initialized RX6, .code yX6_flowOf cX6_flowOf 5 (some .int), .fieldLink RX6 43 "MixingRelaysModel" "used" "[Z", .fieldLink RX6 46 "MixingRelaysModel" "come" "[Z", .fieldLink RX6 49 "MixingRelaysModel" "by" "[I", .fieldLink RX6 28 "MixingRelaysModel" "to" "[I", .fieldLink RX6 24 "MixingRelaysModel" "from" "[I", .methodLink RX6 124 yX6_seek, .instanceMethod yX6_seek, .selects RX6 yX6_seek yX6_seek, .code yX6_seek cX6_seek 5 none, .fieldLink RX6 105 "MixingRelaysModel" "lines" "I", .fieldLink RX6 34 "MixingRelaysModel" "broken" "[Z"] ++ wsX60)
def wsX6_workLine_r1 : List Cond := [Cond.fieldLink RX6 55 "MixingRelaysModel" "carried" "[J", Cond.fieldLink RX6 52 "MixingRelaysModel" "vectors" "[I", Cond.fieldLink RX6 34 "MixingRelaysModel" "broken" "[Z", Cond.fieldLink RX6 58 "MixingRelaysModel" "alsoA" "I", Cond.fieldLink RX6 61 "MixingRelaysModel" "alsoB" "I", Cond.fieldLink RX6 40 "MixingRelaysModel" "factors" "[I", Cond.fieldLink RX6 24 "MixingRelaysModel" "from" "[I", Cond.fieldLink RX6 16 "MixingRelaysModel" "pieces" "[J", Cond.fieldLink RX6 13 "MixingRelaysModel" "h" "I", Cond.fieldLink RX6 37 "MixingRelaysModel" "bent" "[J", Cond.methodLink RX6 118 yX6_ins, Cond.instanceMethod yX6_ins, Cond.selects RX6 yX6_ins yX6_ins, Cond.initialized RX6, Cond.code yX6_ins cX6_ins 2 (some .int), Cond.methodLink RX6 108 yX6_waysIn, Cond.instanceMethod yX6_waysIn, Cond.selects RX6 yX6_waysIn yX6_waysIn, Cond.code yX6_waysIn cX6_waysIn 4 (some .int), Cond.fieldLink RX6 105 "MixingRelaysModel" "lines" "I", Cond.fieldLink RX6 28 "MixingRelaysModel" "to" "[I", Cond.methodLink RX6 134 yX6_lineIn, Cond.instanceMethod yX6_lineIn, Cond.selects RX6 yX6_lineIn yX6_lineIn]
def wsX6_workLine_r2 : List Cond := [Cond.code yX6_lineIn cX6_lineIn 5 (some .int), Cond.methodLink RX6 137 yX6_product_, Cond.static yX6_product_, Cond.code yX6_product_ cX6_product_ 6 (some .long), Cond.constantLong RX6 95 (255), Cond.methodLink RX6 91 yX6_product, Cond.static yX6_product, Cond.code yX6_product cX6_product 5 (some .int)]
def wsX6_workLine : List Cond := .code yX6_workLine cX6_workLine 7 none :: ((wsX6_workLine_r1 ++ wsX6_workLine_r2) ++ wsX60)
def wsX6_work_r1 : List Cond := [Cond.fieldLink RX6 7 "MixingRelaysModel" "relays" "I", Cond.fieldLink RX6 105 "MixingRelaysModel" "lines" "I", Cond.fieldLink RX6 24 "MixingRelaysModel" "from" "[I", Cond.methodLink RX6 130 yX6_workLine, Cond.instanceMethod yX6_workLine, Cond.selects RX6 yX6_workLine yX6_workLine, Cond.initialized RX6, Cond.code yX6_workLine cX6_workLine 7 none, Cond.fieldLink RX6 55 "MixingRelaysModel" "carried" "[J", Cond.fieldLink RX6 52 "MixingRelaysModel" "vectors" "[I", Cond.fieldLink RX6 34 "MixingRelaysModel" "broken" "[Z", Cond.fieldLink RX6 58 "MixingRelaysModel" "alsoA" "I", Cond.fieldLink RX6 61 "MixingRelaysModel" "alsoB" "I", Cond.fieldLink RX6 40 "MixingRelaysModel" "factors" "[I", Cond.fieldLink RX6 16 "MixingRelaysModel" "pieces" "[J", Cond.fieldLink RX6 13 "MixingRelaysModel" "h" "I", Cond.fieldLink RX6 37 "MixingRelaysModel" "bent" "[J", Cond.methodLink RX6 118 yX6_ins, Cond.instanceMethod yX6_ins, Cond.selects RX6 yX6_ins yX6_ins, Cond.code yX6_ins cX6_ins 2 (some .int), Cond.methodLink RX6 108 yX6_waysIn, Cond.instanceMethod yX6_waysIn, Cond.selects RX6 yX6_waysIn yX6_waysIn]
def wsX6_work_r2 : List Cond := [Cond.code yX6_waysIn cX6_waysIn 4 (some .int), Cond.fieldLink RX6 28 "MixingRelaysModel" "to" "[I", Cond.methodLink RX6 134 yX6_lineIn, Cond.instanceMethod yX6_lineIn, Cond.selects RX6 yX6_lineIn yX6_lineIn, Cond.code yX6_lineIn cX6_lineIn 5 (some .int), Cond.methodLink RX6 137 yX6_product_, Cond.static yX6_product_, Cond.code yX6_product_ cX6_product_ 6 (some .long), Cond.constantLong RX6 95 (255), Cond.methodLink RX6 91 yX6_product, Cond.static yX6_product, Cond.code yX6_product cX6_product 5 (some .int)]
def wsX6_work : List Cond := .code yX6_work cX6_work 3 none :: ((wsX6_work_r1 ++ wsX6_work_r2) ++ wsX60)
def wsX6_vector_r1 : List Cond := [Cond.fieldLink RX6 13 "MixingRelaysModel" "h" "I", Cond.fieldLink RX6 52 "MixingRelaysModel" "vectors" "[I", Cond.methodLink RX6 115 yX6_isLine, Cond.instanceMethod yX6_isLine, Cond.selects RX6 yX6_isLine yX6_isLine, Cond.initialized RX6, Cond.code yX6_isLine cX6_isLine 2 (some .boolean), Cond.fieldLink RX6 105 "MixingRelaysModel" "lines" "I", Cond.methodLink RX6 97 yX6_in, Cond.static yX6_in, Cond.code yX6_in cX6_in 3 (some .boolean), Cond.methodLink RX6 140 yX6_work, Cond.instanceMethod yX6_work, Cond.selects RX6 yX6_work yX6_work, Cond.code yX6_work cX6_work 3 none, Cond.fieldLink RX6 7 "MixingRelaysModel" "relays" "I", Cond.fieldLink RX6 24 "MixingRelaysModel" "from" "[I", Cond.methodLink RX6 130 yX6_workLine, Cond.instanceMethod yX6_workLine, Cond.selects RX6 yX6_workLine yX6_workLine, Cond.code yX6_workLine cX6_workLine 7 none, Cond.fieldLink RX6 55 "MixingRelaysModel" "carried" "[J", Cond.fieldLink RX6 34 "MixingRelaysModel" "broken" "[Z", Cond.fieldLink RX6 58 "MixingRelaysModel" "alsoA" "I"]
def wsX6_vector_r2 : List Cond := [Cond.fieldLink RX6 61 "MixingRelaysModel" "alsoB" "I", Cond.fieldLink RX6 40 "MixingRelaysModel" "factors" "[I", Cond.fieldLink RX6 16 "MixingRelaysModel" "pieces" "[J", Cond.fieldLink RX6 37 "MixingRelaysModel" "bent" "[J", Cond.methodLink RX6 118 yX6_ins, Cond.instanceMethod yX6_ins, Cond.selects RX6 yX6_ins yX6_ins, Cond.code yX6_ins cX6_ins 2 (some .int), Cond.methodLink RX6 108 yX6_waysIn, Cond.instanceMethod yX6_waysIn, Cond.selects RX6 yX6_waysIn yX6_waysIn, Cond.code yX6_waysIn cX6_waysIn 4 (some .int), Cond.fieldLink RX6 28 "MixingRelaysModel" "to" "[I", Cond.methodLink RX6 134 yX6_lineIn, Cond.instanceMethod yX6_lineIn, Cond.selects RX6 yX6_lineIn yX6_lineIn, Cond.code yX6_lineIn cX6_lineIn 5 (some .int), Cond.methodLink RX6 137 yX6_product_, Cond.static yX6_product_, Cond.code yX6_product_ cX6_product_ 6 (some .long), Cond.constantLong RX6 95 (255), Cond.methodLink RX6 91 yX6_product, Cond.static yX6_product, Cond.code yX6_product cX6_product 5 (some .int)]
def wsX6_vector : List Cond := .code yX6_vector cX6_vector 3 (some .int) :: ((wsX6_vector_r1 ++ wsX6_vector_r2) ++ wsX60)
def wsX6_carries_r1 : List Cond := [Cond.fieldLink RX6 55 "MixingRelaysModel" "carried" "[J", Cond.methodLink RX6 115 yX6_isLine, Cond.instanceMethod yX6_isLine, Cond.selects RX6 yX6_isLine yX6_isLine, Cond.initialized RX6, Cond.code yX6_isLine cX6_isLine 2 (some .boolean), Cond.fieldLink RX6 105 "MixingRelaysModel" "lines" "I", Cond.methodLink RX6 97 yX6_in, Cond.static yX6_in, Cond.code yX6_in cX6_in 3 (some .boolean), Cond.methodLink RX6 140 yX6_work, Cond.instanceMethod yX6_work, Cond.selects RX6 yX6_work yX6_work, Cond.code yX6_work cX6_work 3 none, Cond.fieldLink RX6 7 "MixingRelaysModel" "relays" "I", Cond.fieldLink RX6 24 "MixingRelaysModel" "from" "[I", Cond.methodLink RX6 130 yX6_workLine, Cond.instanceMethod yX6_workLine, Cond.selects RX6 yX6_workLine yX6_workLine, Cond.code yX6_workLine cX6_workLine 7 none, Cond.fieldLink RX6 52 "MixingRelaysModel" "vectors" "[I", Cond.fieldLink RX6 34 "MixingRelaysModel" "broken" "[Z", Cond.fieldLink RX6 58 "MixingRelaysModel" "alsoA" "I", Cond.fieldLink RX6 61 "MixingRelaysModel" "alsoB" "I"]
def wsX6_carries_r2 : List Cond := [Cond.fieldLink RX6 40 "MixingRelaysModel" "factors" "[I", Cond.fieldLink RX6 16 "MixingRelaysModel" "pieces" "[J", Cond.fieldLink RX6 13 "MixingRelaysModel" "h" "I", Cond.fieldLink RX6 37 "MixingRelaysModel" "bent" "[J", Cond.methodLink RX6 118 yX6_ins, Cond.instanceMethod yX6_ins, Cond.selects RX6 yX6_ins yX6_ins, Cond.code yX6_ins cX6_ins 2 (some .int), Cond.methodLink RX6 108 yX6_waysIn, Cond.instanceMethod yX6_waysIn, Cond.selects RX6 yX6_waysIn yX6_waysIn, Cond.code yX6_waysIn cX6_waysIn 4 (some .int), Cond.fieldLink RX6 28 "MixingRelaysModel" "to" "[I", Cond.methodLink RX6 134 yX6_lineIn, Cond.instanceMethod yX6_lineIn, Cond.selects RX6 yX6_lineIn yX6_lineIn, Cond.code yX6_lineIn cX6_lineIn 5 (some .int), Cond.methodLink RX6 137 yX6_product_, Cond.static yX6_product_, Cond.code yX6_product_ cX6_product_ 6 (some .long), Cond.constantLong RX6 95 (255), Cond.methodLink RX6 91 yX6_product, Cond.static yX6_product, Cond.code yX6_product cX6_product 5 (some .int)]
def wsX6_carries : List Cond := .code yX6_carries cX6_carries 2 (some .long) :: ((wsX6_carries_r1 ++ wsX6_carries_r2) ++ wsX60)
def wsX6_reduce : List Cond := .code yX6_reduce cX6_reduce 4 none :: ([.fieldLink RX6 143 "MixingRelaysModel" "rank" "I", .fieldLink RX6 73 "MixingRelaysModel" "row" "[I", .fieldLink RX6 67 "MixingRelaysModel" "lead" "[I", .fieldLink RX6 64 "MixingRelaysModel" "rows" "[I", .methodLink RX6 91 yX6_product, .static yX6_product, .initialized RX6, .code yX6_product cX6_product 5 (some .int)] ++ wsX60)
def wsX6_steps : List Cond := .code yX6_steps cX6_steps 6 (some .boolean) :: ([.fieldLink RX6 13 "MixingRelaysModel" "h" "I", .fieldLink RX6 73 "MixingRelaysModel" "row" "[I", .fieldLink RX6 143 "MixingRelaysModel" "rank" "I", .fieldLink RX6 64 "MixingRelaysModel" "rows" "[I", .fieldLink RX6 67 "MixingRelaysModel" "lead" "[I", .methodLink RX6 146 yX6_reduce, .instanceMethod yX6_reduce, .selects RX6 yX6_reduce yX6_reduce, .initialized RX6, .code yX6_reduce cX6_reduce 4 none, .methodLink RX6 91 yX6_product, .static yX6_product, .code yX6_product cX6_product 5 (some .int), .methodLink RX6 101 yX6_inverseOf, .static yX6_inverseOf, .code yX6_inverseOf cX6_inverseOf 2 (some .int)] ++ wsX60)
def wsX6_study : List Cond := .code yX6_study cX6_study 4 none :: ([.fieldLink RX6 143 "MixingRelaysModel" "rank" "I", .fieldLink RX6 105 "MixingRelaysModel" "lines" "I", .fieldLink RX6 28 "MixingRelaysModel" "to" "[I", .fieldLink RX6 73 "MixingRelaysModel" "row" "[I", .fieldLink RX6 13 "MixingRelaysModel" "h" "I", .fieldLink RX6 52 "MixingRelaysModel" "vectors" "[I", .fieldLink RX6 70 "MixingRelaysModel" "fresh" "[I", .methodLink RX6 149 yX6_steps, .instanceMethod yX6_steps, .selects RX6 yX6_steps yX6_steps, .initialized RX6, .code yX6_steps cX6_steps 6 (some .boolean), .fieldLink RX6 64 "MixingRelaysModel" "rows" "[I", .fieldLink RX6 67 "MixingRelaysModel" "lead" "[I", .methodLink RX6 146 yX6_reduce, .instanceMethod yX6_reduce, .selects RX6 yX6_reduce yX6_reduce, .code yX6_reduce cX6_reduce 4 none, .methodLink RX6 91 yX6_product, .static yX6_product, .code yX6_product cX6_product 5 (some .int), .methodLink RX6 101 yX6_inverseOf, .static yX6_inverseOf, .code yX6_inverseOf cX6_inverseOf 2 (some .int)] ++ wsX60)
def wsX6_rankOf_r1 : List Cond := [Cond.fieldLink RX6 143 "MixingRelaysModel" "rank" "I", Cond.methodLink RX6 153 yX6_study, Cond.instanceMethod yX6_study, Cond.selects RX6 yX6_study yX6_study, Cond.initialized RX6, Cond.code yX6_study cX6_study 4 none, Cond.fieldLink RX6 105 "MixingRelaysModel" "lines" "I", Cond.fieldLink RX6 28 "MixingRelaysModel" "to" "[I", Cond.fieldLink RX6 73 "MixingRelaysModel" "row" "[I", Cond.fieldLink RX6 13 "MixingRelaysModel" "h" "I", Cond.fieldLink RX6 52 "MixingRelaysModel" "vectors" "[I", Cond.fieldLink RX6 70 "MixingRelaysModel" "fresh" "[I", Cond.methodLink RX6 149 yX6_steps, Cond.instanceMethod yX6_steps, Cond.selects RX6 yX6_steps yX6_steps, Cond.code yX6_steps cX6_steps 6 (some .boolean), Cond.fieldLink RX6 64 "MixingRelaysModel" "rows" "[I", Cond.fieldLink RX6 67 "MixingRelaysModel" "lead" "[I", Cond.methodLink RX6 146 yX6_reduce, Cond.instanceMethod yX6_reduce, Cond.selects RX6 yX6_reduce yX6_reduce, Cond.code yX6_reduce cX6_reduce 4 none, Cond.methodLink RX6 91 yX6_product, Cond.static yX6_product]
def wsX6_rankOf_r2 : List Cond := [Cond.code yX6_product cX6_product 5 (some .int), Cond.methodLink RX6 101 yX6_inverseOf, Cond.static yX6_inverseOf, Cond.code yX6_inverseOf cX6_inverseOf 2 (some .int)]
def wsX6_rankOf : List Cond := .code yX6_rankOf cX6_rankOf 2 (some .int) :: ((wsX6_rankOf_r1 ++ wsX6_rankOf_r2) ++ wsX60)
def wsX6_solvesFor : List Cond := .code yX6_solvesFor cX6_solvesFor 3 (some .boolean) :: ([.fieldLink RX6 73 "MixingRelaysModel" "row" "[I", .fieldLink RX6 13 "MixingRelaysModel" "h" "I", .methodLink RX6 146 yX6_reduce, .instanceMethod yX6_reduce, .selects RX6 yX6_reduce yX6_reduce, .initialized RX6, .code yX6_reduce cX6_reduce 4 none, .fieldLink RX6 143 "MixingRelaysModel" "rank" "I", .fieldLink RX6 67 "MixingRelaysModel" "lead" "[I", .fieldLink RX6 64 "MixingRelaysModel" "rows" "[I", .methodLink RX6 91 yX6_product, .static yX6_product, .code yX6_product cX6_product 5 (some .int)] ++ wsX60)
def wsX6_rank_r1 : List Cond := [Cond.methodLink RX6 111 yX6_isRelay, Cond.instanceMethod yX6_isRelay, Cond.selects RX6 yX6_isRelay yX6_isRelay, Cond.initialized RX6, Cond.code yX6_isRelay cX6_isRelay 2 (some .boolean), Cond.fieldLink RX6 7 "MixingRelaysModel" "relays" "I", Cond.methodLink RX6 97 yX6_in, Cond.static yX6_in, Cond.code yX6_in cX6_in 3 (some .boolean), Cond.methodLink RX6 140 yX6_work, Cond.instanceMethod yX6_work, Cond.selects RX6 yX6_work yX6_work, Cond.code yX6_work cX6_work 3 none, Cond.fieldLink RX6 105 "MixingRelaysModel" "lines" "I", Cond.fieldLink RX6 24 "MixingRelaysModel" "from" "[I", Cond.methodLink RX6 130 yX6_workLine, Cond.instanceMethod yX6_workLine, Cond.selects RX6 yX6_workLine yX6_workLine, Cond.code yX6_workLine cX6_workLine 7 none, Cond.fieldLink RX6 55 "MixingRelaysModel" "carried" "[J", Cond.fieldLink RX6 52 "MixingRelaysModel" "vectors" "[I", Cond.fieldLink RX6 34 "MixingRelaysModel" "broken" "[Z", Cond.fieldLink RX6 58 "MixingRelaysModel" "alsoA" "I", Cond.fieldLink RX6 61 "MixingRelaysModel" "alsoB" "I"]
def wsX6_rank_r2 : List Cond := [Cond.fieldLink RX6 40 "MixingRelaysModel" "factors" "[I", Cond.fieldLink RX6 16 "MixingRelaysModel" "pieces" "[J", Cond.fieldLink RX6 13 "MixingRelaysModel" "h" "I", Cond.fieldLink RX6 37 "MixingRelaysModel" "bent" "[J", Cond.methodLink RX6 118 yX6_ins, Cond.instanceMethod yX6_ins, Cond.selects RX6 yX6_ins yX6_ins, Cond.code yX6_ins cX6_ins 2 (some .int), Cond.methodLink RX6 108 yX6_waysIn, Cond.instanceMethod yX6_waysIn, Cond.selects RX6 yX6_waysIn yX6_waysIn, Cond.code yX6_waysIn cX6_waysIn 4 (some .int), Cond.fieldLink RX6 28 "MixingRelaysModel" "to" "[I", Cond.methodLink RX6 134 yX6_lineIn, Cond.instanceMethod yX6_lineIn, Cond.selects RX6 yX6_lineIn yX6_lineIn, Cond.code yX6_lineIn cX6_lineIn 5 (some .int), Cond.methodLink RX6 137 yX6_product_, Cond.static yX6_product_, Cond.code yX6_product_ cX6_product_ 6 (some .long), Cond.constantLong RX6 95 (255), Cond.methodLink RX6 91 yX6_product, Cond.static yX6_product, Cond.code yX6_product cX6_product 5 (some .int)]
def wsX6_rank_r3 : List Cond := [Cond.methodLink RX6 156 yX6_rankOf, Cond.instanceMethod yX6_rankOf, Cond.selects RX6 yX6_rankOf yX6_rankOf, Cond.code yX6_rankOf cX6_rankOf 2 (some .int), Cond.fieldLink RX6 143 "MixingRelaysModel" "rank" "I", Cond.methodLink RX6 153 yX6_study, Cond.instanceMethod yX6_study, Cond.selects RX6 yX6_study yX6_study, Cond.code yX6_study cX6_study 4 none, Cond.fieldLink RX6 73 "MixingRelaysModel" "row" "[I", Cond.fieldLink RX6 70 "MixingRelaysModel" "fresh" "[I", Cond.methodLink RX6 149 yX6_steps, Cond.instanceMethod yX6_steps, Cond.selects RX6 yX6_steps yX6_steps, Cond.code yX6_steps cX6_steps 6 (some .boolean), Cond.fieldLink RX6 64 "MixingRelaysModel" "rows" "[I", Cond.fieldLink RX6 67 "MixingRelaysModel" "lead" "[I", Cond.methodLink RX6 146 yX6_reduce, Cond.instanceMethod yX6_reduce, Cond.selects RX6 yX6_reduce yX6_reduce, Cond.code yX6_reduce cX6_reduce 4 none, Cond.methodLink RX6 101 yX6_inverseOf, Cond.static yX6_inverseOf, Cond.code yX6_inverseOf cX6_inverseOf 2 (some .int)]
def wsX6_rank : List Cond := .code yX6_rank cX6_rank 2 (some .int) :: ((wsX6_rank_r1 ++ (wsX6_rank_r2 ++ wsX6_rank_r3)) ++ wsX60)
def wsX6_fresh_r1 : List Cond := [Cond.fieldLink RX6 70 "MixingRelaysModel" "fresh" "[I", Cond.methodLink RX6 111 yX6_isRelay, Cond.instanceMethod yX6_isRelay, Cond.selects RX6 yX6_isRelay yX6_isRelay, Cond.initialized RX6, Cond.code yX6_isRelay cX6_isRelay 2 (some .boolean), Cond.fieldLink RX6 7 "MixingRelaysModel" "relays" "I", Cond.methodLink RX6 97 yX6_in, Cond.static yX6_in, Cond.code yX6_in cX6_in 3 (some .boolean), Cond.methodLink RX6 140 yX6_work, Cond.instanceMethod yX6_work, Cond.selects RX6 yX6_work yX6_work, Cond.code yX6_work cX6_work 3 none, Cond.fieldLink RX6 105 "MixingRelaysModel" "lines" "I", Cond.fieldLink RX6 24 "MixingRelaysModel" "from" "[I", Cond.methodLink RX6 130 yX6_workLine, Cond.instanceMethod yX6_workLine, Cond.selects RX6 yX6_workLine yX6_workLine, Cond.code yX6_workLine cX6_workLine 7 none, Cond.fieldLink RX6 55 "MixingRelaysModel" "carried" "[J", Cond.fieldLink RX6 52 "MixingRelaysModel" "vectors" "[I", Cond.fieldLink RX6 34 "MixingRelaysModel" "broken" "[Z", Cond.fieldLink RX6 58 "MixingRelaysModel" "alsoA" "I"]
def wsX6_fresh_r2 : List Cond := [Cond.fieldLink RX6 61 "MixingRelaysModel" "alsoB" "I", Cond.fieldLink RX6 40 "MixingRelaysModel" "factors" "[I", Cond.fieldLink RX6 16 "MixingRelaysModel" "pieces" "[J", Cond.fieldLink RX6 13 "MixingRelaysModel" "h" "I", Cond.fieldLink RX6 37 "MixingRelaysModel" "bent" "[J", Cond.methodLink RX6 118 yX6_ins, Cond.instanceMethod yX6_ins, Cond.selects RX6 yX6_ins yX6_ins, Cond.code yX6_ins cX6_ins 2 (some .int), Cond.methodLink RX6 108 yX6_waysIn, Cond.instanceMethod yX6_waysIn, Cond.selects RX6 yX6_waysIn yX6_waysIn, Cond.code yX6_waysIn cX6_waysIn 4 (some .int), Cond.fieldLink RX6 28 "MixingRelaysModel" "to" "[I", Cond.methodLink RX6 134 yX6_lineIn, Cond.instanceMethod yX6_lineIn, Cond.selects RX6 yX6_lineIn yX6_lineIn, Cond.code yX6_lineIn cX6_lineIn 5 (some .int), Cond.methodLink RX6 137 yX6_product_, Cond.static yX6_product_, Cond.code yX6_product_ cX6_product_ 6 (some .long), Cond.constantLong RX6 95 (255), Cond.methodLink RX6 91 yX6_product, Cond.static yX6_product]
def wsX6_fresh_r3 : List Cond := [Cond.code yX6_product cX6_product 5 (some .int), Cond.methodLink RX6 156 yX6_rankOf, Cond.instanceMethod yX6_rankOf, Cond.selects RX6 yX6_rankOf yX6_rankOf, Cond.code yX6_rankOf cX6_rankOf 2 (some .int), Cond.fieldLink RX6 143 "MixingRelaysModel" "rank" "I", Cond.methodLink RX6 153 yX6_study, Cond.instanceMethod yX6_study, Cond.selects RX6 yX6_study yX6_study, Cond.code yX6_study cX6_study 4 none, Cond.fieldLink RX6 73 "MixingRelaysModel" "row" "[I", Cond.methodLink RX6 149 yX6_steps, Cond.instanceMethod yX6_steps, Cond.selects RX6 yX6_steps yX6_steps, Cond.code yX6_steps cX6_steps 6 (some .boolean), Cond.fieldLink RX6 64 "MixingRelaysModel" "rows" "[I", Cond.fieldLink RX6 67 "MixingRelaysModel" "lead" "[I", Cond.methodLink RX6 146 yX6_reduce, Cond.instanceMethod yX6_reduce, Cond.selects RX6 yX6_reduce yX6_reduce, Cond.code yX6_reduce cX6_reduce 4 none, Cond.methodLink RX6 101 yX6_inverseOf, Cond.static yX6_inverseOf, Cond.code yX6_inverseOf cX6_inverseOf 2 (some .int)]
def wsX6_fresh : List Cond := .code yX6_fresh cX6_fresh 3 (some .int) :: ((wsX6_fresh_r1 ++ (wsX6_fresh_r2 ++ wsX6_fresh_r3)) ++ wsX60)
def wsX6_solves_r1 : List Cond := [Cond.fieldLink RX6 13 "MixingRelaysModel" "h" "I", Cond.methodLink RX6 111 yX6_isRelay, Cond.instanceMethod yX6_isRelay, Cond.selects RX6 yX6_isRelay yX6_isRelay, Cond.initialized RX6, Cond.code yX6_isRelay cX6_isRelay 2 (some .boolean), Cond.fieldLink RX6 7 "MixingRelaysModel" "relays" "I", Cond.methodLink RX6 97 yX6_in, Cond.static yX6_in, Cond.code yX6_in cX6_in 3 (some .boolean), Cond.methodLink RX6 140 yX6_work, Cond.instanceMethod yX6_work, Cond.selects RX6 yX6_work yX6_work, Cond.code yX6_work cX6_work 3 none, Cond.fieldLink RX6 105 "MixingRelaysModel" "lines" "I", Cond.fieldLink RX6 24 "MixingRelaysModel" "from" "[I", Cond.methodLink RX6 130 yX6_workLine, Cond.instanceMethod yX6_workLine, Cond.selects RX6 yX6_workLine yX6_workLine, Cond.code yX6_workLine cX6_workLine 7 none, Cond.fieldLink RX6 55 "MixingRelaysModel" "carried" "[J", Cond.fieldLink RX6 52 "MixingRelaysModel" "vectors" "[I", Cond.fieldLink RX6 34 "MixingRelaysModel" "broken" "[Z", Cond.fieldLink RX6 58 "MixingRelaysModel" "alsoA" "I"]
def wsX6_solves_r2 : List Cond := [Cond.fieldLink RX6 61 "MixingRelaysModel" "alsoB" "I", Cond.fieldLink RX6 40 "MixingRelaysModel" "factors" "[I", Cond.fieldLink RX6 16 "MixingRelaysModel" "pieces" "[J", Cond.fieldLink RX6 37 "MixingRelaysModel" "bent" "[J", Cond.methodLink RX6 118 yX6_ins, Cond.instanceMethod yX6_ins, Cond.selects RX6 yX6_ins yX6_ins, Cond.code yX6_ins cX6_ins 2 (some .int), Cond.methodLink RX6 108 yX6_waysIn, Cond.instanceMethod yX6_waysIn, Cond.selects RX6 yX6_waysIn yX6_waysIn, Cond.code yX6_waysIn cX6_waysIn 4 (some .int), Cond.fieldLink RX6 28 "MixingRelaysModel" "to" "[I", Cond.methodLink RX6 134 yX6_lineIn, Cond.instanceMethod yX6_lineIn, Cond.selects RX6 yX6_lineIn yX6_lineIn, Cond.code yX6_lineIn cX6_lineIn 5 (some .int), Cond.methodLink RX6 137 yX6_product_, Cond.static yX6_product_, Cond.code yX6_product_ cX6_product_ 6 (some .long), Cond.constantLong RX6 95 (255), Cond.methodLink RX6 91 yX6_product, Cond.static yX6_product, Cond.code yX6_product cX6_product 5 (some .int)]
def wsX6_solves_r3 : List Cond := [Cond.methodLink RX6 153 yX6_study, Cond.instanceMethod yX6_study, Cond.selects RX6 yX6_study yX6_study, Cond.code yX6_study cX6_study 4 none, Cond.fieldLink RX6 143 "MixingRelaysModel" "rank" "I", Cond.fieldLink RX6 73 "MixingRelaysModel" "row" "[I", Cond.fieldLink RX6 70 "MixingRelaysModel" "fresh" "[I", Cond.methodLink RX6 149 yX6_steps, Cond.instanceMethod yX6_steps, Cond.selects RX6 yX6_steps yX6_steps, Cond.code yX6_steps cX6_steps 6 (some .boolean), Cond.fieldLink RX6 64 "MixingRelaysModel" "rows" "[I", Cond.fieldLink RX6 67 "MixingRelaysModel" "lead" "[I", Cond.methodLink RX6 146 yX6_reduce, Cond.instanceMethod yX6_reduce, Cond.selects RX6 yX6_reduce yX6_reduce, Cond.code yX6_reduce cX6_reduce 4 none, Cond.methodLink RX6 101 yX6_inverseOf, Cond.static yX6_inverseOf, Cond.code yX6_inverseOf cX6_inverseOf 2 (some .int), Cond.methodLink RX6 159 yX6_solvesFor, Cond.instanceMethod yX6_solvesFor, Cond.selects RX6 yX6_solvesFor yX6_solvesFor, Cond.code yX6_solvesFor cX6_solvesFor 3 (some .boolean)]
def wsX6_solves : List Cond := .code yX6_solves cX6_solves 3 (some .int) :: ((wsX6_solves_r1 ++ (wsX6_solves_r2 ++ wsX6_solves_r3)) ++ wsX60)
def wsX6_key_r1 : List Cond := [Cond.fieldLink RX6 13 "MixingRelaysModel" "h" "I", Cond.fieldLink RX6 143 "MixingRelaysModel" "rank" "I", Cond.fieldLink RX6 73 "MixingRelaysModel" "row" "[I", Cond.methodLink RX6 111 yX6_isRelay, Cond.instanceMethod yX6_isRelay, Cond.selects RX6 yX6_isRelay yX6_isRelay, Cond.initialized RX6, Cond.code yX6_isRelay cX6_isRelay 2 (some .boolean), Cond.fieldLink RX6 7 "MixingRelaysModel" "relays" "I", Cond.methodLink RX6 97 yX6_in, Cond.static yX6_in, Cond.code yX6_in cX6_in 3 (some .boolean), Cond.methodLink RX6 140 yX6_work, Cond.instanceMethod yX6_work, Cond.selects RX6 yX6_work yX6_work, Cond.code yX6_work cX6_work 3 none, Cond.fieldLink RX6 105 "MixingRelaysModel" "lines" "I", Cond.fieldLink RX6 24 "MixingRelaysModel" "from" "[I", Cond.methodLink RX6 130 yX6_workLine, Cond.instanceMethod yX6_workLine, Cond.selects RX6 yX6_workLine yX6_workLine, Cond.code yX6_workLine cX6_workLine 7 none, Cond.fieldLink RX6 55 "MixingRelaysModel" "carried" "[J", Cond.fieldLink RX6 52 "MixingRelaysModel" "vectors" "[I"]
def wsX6_key_r2 : List Cond := [Cond.fieldLink RX6 34 "MixingRelaysModel" "broken" "[Z", Cond.fieldLink RX6 58 "MixingRelaysModel" "alsoA" "I", Cond.fieldLink RX6 61 "MixingRelaysModel" "alsoB" "I", Cond.fieldLink RX6 40 "MixingRelaysModel" "factors" "[I", Cond.fieldLink RX6 16 "MixingRelaysModel" "pieces" "[J", Cond.fieldLink RX6 37 "MixingRelaysModel" "bent" "[J", Cond.methodLink RX6 118 yX6_ins, Cond.instanceMethod yX6_ins, Cond.selects RX6 yX6_ins yX6_ins, Cond.code yX6_ins cX6_ins 2 (some .int), Cond.methodLink RX6 108 yX6_waysIn, Cond.instanceMethod yX6_waysIn, Cond.selects RX6 yX6_waysIn yX6_waysIn, Cond.code yX6_waysIn cX6_waysIn 4 (some .int), Cond.fieldLink RX6 28 "MixingRelaysModel" "to" "[I", Cond.methodLink RX6 134 yX6_lineIn, Cond.instanceMethod yX6_lineIn, Cond.selects RX6 yX6_lineIn yX6_lineIn, Cond.code yX6_lineIn cX6_lineIn 5 (some .int), Cond.methodLink RX6 137 yX6_product_, Cond.static yX6_product_, Cond.code yX6_product_ cX6_product_ 6 (some .long), Cond.constantLong RX6 95 (255), Cond.methodLink RX6 91 yX6_product]
def wsX6_key_r3 : List Cond := [Cond.static yX6_product, Cond.code yX6_product cX6_product 5 (some .int), Cond.methodLink RX6 153 yX6_study, Cond.instanceMethod yX6_study, Cond.selects RX6 yX6_study yX6_study, Cond.code yX6_study cX6_study 4 none, Cond.fieldLink RX6 70 "MixingRelaysModel" "fresh" "[I", Cond.methodLink RX6 149 yX6_steps, Cond.instanceMethod yX6_steps, Cond.selects RX6 yX6_steps yX6_steps, Cond.code yX6_steps cX6_steps 6 (some .boolean), Cond.fieldLink RX6 64 "MixingRelaysModel" "rows" "[I", Cond.fieldLink RX6 67 "MixingRelaysModel" "lead" "[I", Cond.methodLink RX6 146 yX6_reduce, Cond.instanceMethod yX6_reduce, Cond.selects RX6 yX6_reduce yX6_reduce, Cond.code yX6_reduce cX6_reduce 4 none, Cond.methodLink RX6 101 yX6_inverseOf, Cond.static yX6_inverseOf, Cond.code yX6_inverseOf cX6_inverseOf 2 (some .int), Cond.methodLink RX6 159 yX6_solvesFor, Cond.instanceMethod yX6_solvesFor, Cond.selects RX6 yX6_solvesFor yX6_solvesFor, Cond.code yX6_solvesFor cX6_solvesFor 3 (some .boolean)]
def wsX6_key : List Cond := .code yX6_key cX6_key 4 (some .int) :: ((wsX6_key_r1 ++ (wsX6_key_r2 ++ wsX6_key_r3)) ++ wsX60)
def wsX6_getsOf : List Cond := .code yX6_getsOf cX6_getsOf 5 (some .long) :: ([.fieldLink RX6 143 "MixingRelaysModel" "rank" "I", .fieldLink RX6 73 "MixingRelaysModel" "row" "[I", .fieldLink RX6 55 "MixingRelaysModel" "carried" "[J", .fieldLink RX6 70 "MixingRelaysModel" "fresh" "[I", .methodLink RX6 159 yX6_solvesFor, .instanceMethod yX6_solvesFor, .selects RX6 yX6_solvesFor yX6_solvesFor, .initialized RX6, .code yX6_solvesFor cX6_solvesFor 3 (some .boolean), .fieldLink RX6 13 "MixingRelaysModel" "h" "I", .methodLink RX6 146 yX6_reduce, .instanceMethod yX6_reduce, .selects RX6 yX6_reduce yX6_reduce, .code yX6_reduce cX6_reduce 4 none, .fieldLink RX6 67 "MixingRelaysModel" "lead" "[I", .fieldLink RX6 64 "MixingRelaysModel" "rows" "[I", .methodLink RX6 91 yX6_product, .static yX6_product, .code yX6_product cX6_product 5 (some .int), .methodLink RX6 137 yX6_product_, .static yX6_product_, .code yX6_product_ cX6_product_ 6 (some .long), .constantLong RX6 95 (255)] ++ wsX60)
def wsX6_gets_r1 : List Cond := [Cond.fieldLink RX6 13 "MixingRelaysModel" "h" "I", Cond.methodLink RX6 111 yX6_isRelay, Cond.instanceMethod yX6_isRelay, Cond.selects RX6 yX6_isRelay yX6_isRelay, Cond.initialized RX6, Cond.code yX6_isRelay cX6_isRelay 2 (some .boolean), Cond.fieldLink RX6 7 "MixingRelaysModel" "relays" "I", Cond.methodLink RX6 97 yX6_in, Cond.static yX6_in, Cond.code yX6_in cX6_in 3 (some .boolean), Cond.methodLink RX6 140 yX6_work, Cond.instanceMethod yX6_work, Cond.selects RX6 yX6_work yX6_work, Cond.code yX6_work cX6_work 3 none, Cond.fieldLink RX6 105 "MixingRelaysModel" "lines" "I", Cond.fieldLink RX6 24 "MixingRelaysModel" "from" "[I", Cond.methodLink RX6 130 yX6_workLine, Cond.instanceMethod yX6_workLine, Cond.selects RX6 yX6_workLine yX6_workLine, Cond.code yX6_workLine cX6_workLine 7 none, Cond.fieldLink RX6 55 "MixingRelaysModel" "carried" "[J", Cond.fieldLink RX6 52 "MixingRelaysModel" "vectors" "[I", Cond.fieldLink RX6 34 "MixingRelaysModel" "broken" "[Z", Cond.fieldLink RX6 58 "MixingRelaysModel" "alsoA" "I"]
def wsX6_gets_r2 : List Cond := [Cond.fieldLink RX6 61 "MixingRelaysModel" "alsoB" "I", Cond.fieldLink RX6 40 "MixingRelaysModel" "factors" "[I", Cond.fieldLink RX6 16 "MixingRelaysModel" "pieces" "[J", Cond.fieldLink RX6 37 "MixingRelaysModel" "bent" "[J", Cond.methodLink RX6 118 yX6_ins, Cond.instanceMethod yX6_ins, Cond.selects RX6 yX6_ins yX6_ins, Cond.code yX6_ins cX6_ins 2 (some .int), Cond.methodLink RX6 108 yX6_waysIn, Cond.instanceMethod yX6_waysIn, Cond.selects RX6 yX6_waysIn yX6_waysIn, Cond.code yX6_waysIn cX6_waysIn 4 (some .int), Cond.fieldLink RX6 28 "MixingRelaysModel" "to" "[I", Cond.methodLink RX6 134 yX6_lineIn, Cond.instanceMethod yX6_lineIn, Cond.selects RX6 yX6_lineIn yX6_lineIn, Cond.code yX6_lineIn cX6_lineIn 5 (some .int), Cond.methodLink RX6 137 yX6_product_, Cond.static yX6_product_, Cond.code yX6_product_ cX6_product_ 6 (some .long), Cond.constantLong RX6 95 (255), Cond.methodLink RX6 91 yX6_product, Cond.static yX6_product, Cond.code yX6_product cX6_product 5 (some .int)]
def wsX6_gets_r3 : List Cond := [Cond.methodLink RX6 153 yX6_study, Cond.instanceMethod yX6_study, Cond.selects RX6 yX6_study yX6_study, Cond.code yX6_study cX6_study 4 none, Cond.fieldLink RX6 143 "MixingRelaysModel" "rank" "I", Cond.fieldLink RX6 73 "MixingRelaysModel" "row" "[I", Cond.fieldLink RX6 70 "MixingRelaysModel" "fresh" "[I", Cond.methodLink RX6 149 yX6_steps, Cond.instanceMethod yX6_steps, Cond.selects RX6 yX6_steps yX6_steps, Cond.code yX6_steps cX6_steps 6 (some .boolean), Cond.fieldLink RX6 64 "MixingRelaysModel" "rows" "[I", Cond.fieldLink RX6 67 "MixingRelaysModel" "lead" "[I", Cond.methodLink RX6 146 yX6_reduce, Cond.instanceMethod yX6_reduce, Cond.selects RX6 yX6_reduce yX6_reduce, Cond.code yX6_reduce cX6_reduce 4 none, Cond.methodLink RX6 101 yX6_inverseOf, Cond.static yX6_inverseOf, Cond.code yX6_inverseOf cX6_inverseOf 2 (some .int), Cond.methodLink RX6 162 yX6_getsOf, Cond.instanceMethod yX6_getsOf, Cond.selects RX6 yX6_getsOf yX6_getsOf, Cond.code yX6_getsOf cX6_getsOf 5 (some .long)]
def wsX6_gets_r4 : List Cond := [Cond.methodLink RX6 159 yX6_solvesFor, Cond.instanceMethod yX6_solvesFor, Cond.selects RX6 yX6_solvesFor yX6_solvesFor, Cond.code yX6_solvesFor cX6_solvesFor 3 (some .boolean)]
def wsX6_gets : List Cond := .code yX6_gets cX6_gets 3 (some .long) :: ((wsX6_gets_r1 ++ (wsX6_gets_r2 ++ (wsX6_gets_r3 ++ wsX6_gets_r4))) ++ wsX60)
def wsX6_isSolvable : List Cond := .code yX6_isSolvable cX6_isSolvable 9 (some .boolean) :: ([.fieldLink RX6 13 "MixingRelaysModel" "h" "I", .fieldLink RX6 79 "MixingRelaysModel" "matrix" "[I", .methodLink RX6 101 yX6_inverseOf, .static yX6_inverseOf, .initialized RX6, .code yX6_inverseOf cX6_inverseOf 2 (some .int), .methodLink RX6 91 yX6_product, .static yX6_product, .code yX6_product cX6_product 5 (some .int)] ++ wsX60)
def wsX6_goes : List Cond := .code yX6_goes cX6_goes 6 (some .boolean) :: ([.fieldLink RX6 143 "MixingRelaysModel" "rank" "I", .fieldLink RX6 79 "MixingRelaysModel" "matrix" "[I", .fieldLink RX6 13 "MixingRelaysModel" "h" "I", .fieldLink RX6 64 "MixingRelaysModel" "rows" "[I", .fieldLink RX6 76 "MixingRelaysModel" "lacks" "[I", .methodLink RX6 91 yX6_product, .static yX6_product, .initialized RX6, .code yX6_product cX6_product 5 (some .int), .methodLink RX6 166 yX6_isSolvable, .instanceMethod yX6_isSolvable, .selects RX6 yX6_isSolvable yX6_isSolvable, .code yX6_isSolvable cX6_isSolvable 9 (some .boolean), .methodLink RX6 101 yX6_inverseOf, .static yX6_inverseOf, .code yX6_inverseOf cX6_inverseOf 2 (some .int)] ++ wsX60)
def wsX6_lack_r1 : List Cond := [Cond.fieldLink RX6 13 "MixingRelaysModel" "h" "I", Cond.fieldLink RX6 76 "MixingRelaysModel" "lacks" "[I", Cond.methodLink RX6 111 yX6_isRelay, Cond.instanceMethod yX6_isRelay, Cond.selects RX6 yX6_isRelay yX6_isRelay, Cond.initialized RX6, Cond.code yX6_isRelay cX6_isRelay 2 (some .boolean), Cond.fieldLink RX6 7 "MixingRelaysModel" "relays" "I", Cond.methodLink RX6 97 yX6_in, Cond.static yX6_in, Cond.code yX6_in cX6_in 3 (some .boolean), Cond.methodLink RX6 140 yX6_work, Cond.instanceMethod yX6_work, Cond.selects RX6 yX6_work yX6_work, Cond.code yX6_work cX6_work 3 none, Cond.fieldLink RX6 105 "MixingRelaysModel" "lines" "I", Cond.fieldLink RX6 24 "MixingRelaysModel" "from" "[I", Cond.methodLink RX6 130 yX6_workLine, Cond.instanceMethod yX6_workLine, Cond.selects RX6 yX6_workLine yX6_workLine, Cond.code yX6_workLine cX6_workLine 7 none, Cond.fieldLink RX6 55 "MixingRelaysModel" "carried" "[J", Cond.fieldLink RX6 52 "MixingRelaysModel" "vectors" "[I", Cond.fieldLink RX6 34 "MixingRelaysModel" "broken" "[Z"]
def wsX6_lack_r2 : List Cond := [Cond.fieldLink RX6 58 "MixingRelaysModel" "alsoA" "I", Cond.fieldLink RX6 61 "MixingRelaysModel" "alsoB" "I", Cond.fieldLink RX6 40 "MixingRelaysModel" "factors" "[I", Cond.fieldLink RX6 16 "MixingRelaysModel" "pieces" "[J", Cond.fieldLink RX6 37 "MixingRelaysModel" "bent" "[J", Cond.methodLink RX6 118 yX6_ins, Cond.instanceMethod yX6_ins, Cond.selects RX6 yX6_ins yX6_ins, Cond.code yX6_ins cX6_ins 2 (some .int), Cond.methodLink RX6 108 yX6_waysIn, Cond.instanceMethod yX6_waysIn, Cond.selects RX6 yX6_waysIn yX6_waysIn, Cond.code yX6_waysIn cX6_waysIn 4 (some .int), Cond.fieldLink RX6 28 "MixingRelaysModel" "to" "[I", Cond.methodLink RX6 134 yX6_lineIn, Cond.instanceMethod yX6_lineIn, Cond.selects RX6 yX6_lineIn yX6_lineIn, Cond.code yX6_lineIn cX6_lineIn 5 (some .int), Cond.methodLink RX6 137 yX6_product_, Cond.static yX6_product_, Cond.code yX6_product_ cX6_product_ 6 (some .long), Cond.constantLong RX6 95 (255), Cond.methodLink RX6 91 yX6_product, Cond.static yX6_product]
def wsX6_lack_r3 : List Cond := [Cond.code yX6_product cX6_product 5 (some .int), Cond.methodLink RX6 153 yX6_study, Cond.instanceMethod yX6_study, Cond.selects RX6 yX6_study yX6_study, Cond.code yX6_study cX6_study 4 none, Cond.fieldLink RX6 143 "MixingRelaysModel" "rank" "I", Cond.fieldLink RX6 73 "MixingRelaysModel" "row" "[I", Cond.fieldLink RX6 70 "MixingRelaysModel" "fresh" "[I", Cond.methodLink RX6 149 yX6_steps, Cond.instanceMethod yX6_steps, Cond.selects RX6 yX6_steps yX6_steps, Cond.code yX6_steps cX6_steps 6 (some .boolean), Cond.fieldLink RX6 64 "MixingRelaysModel" "rows" "[I", Cond.fieldLink RX6 67 "MixingRelaysModel" "lead" "[I", Cond.methodLink RX6 146 yX6_reduce, Cond.instanceMethod yX6_reduce, Cond.selects RX6 yX6_reduce yX6_reduce, Cond.code yX6_reduce cX6_reduce 4 none, Cond.methodLink RX6 101 yX6_inverseOf, Cond.static yX6_inverseOf, Cond.code yX6_inverseOf cX6_inverseOf 2 (some .int), Cond.methodLink RX6 159 yX6_solvesFor, Cond.instanceMethod yX6_solvesFor, Cond.selects RX6 yX6_solvesFor yX6_solvesFor]
def wsX6_lack_r4 : List Cond := [Cond.code yX6_solvesFor cX6_solvesFor 3 (some .boolean), Cond.methodLink RX6 169 yX6_goes, Cond.instanceMethod yX6_goes, Cond.selects RX6 yX6_goes yX6_goes, Cond.code yX6_goes cX6_goes 6 (some .boolean), Cond.fieldLink RX6 79 "MixingRelaysModel" "matrix" "[I", Cond.methodLink RX6 166 yX6_isSolvable, Cond.instanceMethod yX6_isSolvable, Cond.selects RX6 yX6_isSolvable yX6_isSolvable, Cond.code yX6_isSolvable cX6_isSolvable 9 (some .boolean)]
def wsX6_lack : List Cond := .code yX6_lack cX6_lack 5 (some .int) :: ((wsX6_lack_r1 ++ (wsX6_lack_r2 ++ (wsX6_lack_r3 ++ wsX6_lack_r4))) ++ wsX60)
def wsX6_hasAll_r1 : List Cond := [Cond.fieldLink RX6 13 "MixingRelaysModel" "h" "I", Cond.methodLink RX6 153 yX6_study, Cond.instanceMethod yX6_study, Cond.selects RX6 yX6_study yX6_study, Cond.initialized RX6, Cond.code yX6_study cX6_study 4 none, Cond.fieldLink RX6 143 "MixingRelaysModel" "rank" "I", Cond.fieldLink RX6 105 "MixingRelaysModel" "lines" "I", Cond.fieldLink RX6 28 "MixingRelaysModel" "to" "[I", Cond.fieldLink RX6 73 "MixingRelaysModel" "row" "[I", Cond.fieldLink RX6 52 "MixingRelaysModel" "vectors" "[I", Cond.fieldLink RX6 70 "MixingRelaysModel" "fresh" "[I", Cond.methodLink RX6 149 yX6_steps, Cond.instanceMethod yX6_steps, Cond.selects RX6 yX6_steps yX6_steps, Cond.code yX6_steps cX6_steps 6 (some .boolean), Cond.fieldLink RX6 64 "MixingRelaysModel" "rows" "[I", Cond.fieldLink RX6 67 "MixingRelaysModel" "lead" "[I", Cond.methodLink RX6 146 yX6_reduce, Cond.instanceMethod yX6_reduce, Cond.selects RX6 yX6_reduce yX6_reduce, Cond.code yX6_reduce cX6_reduce 4 none, Cond.methodLink RX6 91 yX6_product, Cond.static yX6_product]
def wsX6_hasAll_r2 : List Cond := [Cond.code yX6_product cX6_product 5 (some .int), Cond.methodLink RX6 101 yX6_inverseOf, Cond.static yX6_inverseOf, Cond.code yX6_inverseOf cX6_inverseOf 2 (some .int), Cond.methodLink RX6 159 yX6_solvesFor, Cond.instanceMethod yX6_solvesFor, Cond.selects RX6 yX6_solvesFor yX6_solvesFor, Cond.code yX6_solvesFor cX6_solvesFor 3 (some .boolean)]
def wsX6_hasAll : List Cond := .code yX6_hasAll cX6_hasAll 3 (some .boolean) :: ((wsX6_hasAll_r1 ++ wsX6_hasAll_r2) ++ wsX60)
def wsX6_wrong_r1 : List Cond := [Cond.fieldLink RX6 7 "MixingRelaysModel" "relays" "I", Cond.fieldLink RX6 20 "MixingRelaysModel" "isEnd" "[Z", Cond.fieldLink RX6 13 "MixingRelaysModel" "h" "I", Cond.fieldLink RX6 16 "MixingRelaysModel" "pieces" "[J", Cond.methodLink RX6 140 yX6_work, Cond.instanceMethod yX6_work, Cond.selects RX6 yX6_work yX6_work, Cond.initialized RX6, Cond.code yX6_work cX6_work 3 none, Cond.fieldLink RX6 105 "MixingRelaysModel" "lines" "I", Cond.fieldLink RX6 24 "MixingRelaysModel" "from" "[I", Cond.methodLink RX6 130 yX6_workLine, Cond.instanceMethod yX6_workLine, Cond.selects RX6 yX6_workLine yX6_workLine, Cond.code yX6_workLine cX6_workLine 7 none, Cond.fieldLink RX6 55 "MixingRelaysModel" "carried" "[J", Cond.fieldLink RX6 52 "MixingRelaysModel" "vectors" "[I", Cond.fieldLink RX6 34 "MixingRelaysModel" "broken" "[Z", Cond.fieldLink RX6 58 "MixingRelaysModel" "alsoA" "I", Cond.fieldLink RX6 61 "MixingRelaysModel" "alsoB" "I", Cond.fieldLink RX6 40 "MixingRelaysModel" "factors" "[I", Cond.fieldLink RX6 37 "MixingRelaysModel" "bent" "[J", Cond.methodLink RX6 118 yX6_ins, Cond.instanceMethod yX6_ins]
def wsX6_wrong_r2 : List Cond := [Cond.selects RX6 yX6_ins yX6_ins, Cond.code yX6_ins cX6_ins 2 (some .int), Cond.methodLink RX6 108 yX6_waysIn, Cond.instanceMethod yX6_waysIn, Cond.selects RX6 yX6_waysIn yX6_waysIn, Cond.code yX6_waysIn cX6_waysIn 4 (some .int), Cond.fieldLink RX6 28 "MixingRelaysModel" "to" "[I", Cond.methodLink RX6 134 yX6_lineIn, Cond.instanceMethod yX6_lineIn, Cond.selects RX6 yX6_lineIn yX6_lineIn, Cond.code yX6_lineIn cX6_lineIn 5 (some .int), Cond.methodLink RX6 137 yX6_product_, Cond.static yX6_product_, Cond.code yX6_product_ cX6_product_ 6 (some .long), Cond.constantLong RX6 95 (255), Cond.methodLink RX6 91 yX6_product, Cond.static yX6_product, Cond.code yX6_product cX6_product 5 (some .int), Cond.methodLink RX6 153 yX6_study, Cond.instanceMethod yX6_study, Cond.selects RX6 yX6_study yX6_study, Cond.code yX6_study cX6_study 4 none, Cond.fieldLink RX6 143 "MixingRelaysModel" "rank" "I", Cond.fieldLink RX6 73 "MixingRelaysModel" "row" "[I"]
def wsX6_wrong_r3 : List Cond := [Cond.fieldLink RX6 70 "MixingRelaysModel" "fresh" "[I", Cond.methodLink RX6 149 yX6_steps, Cond.instanceMethod yX6_steps, Cond.selects RX6 yX6_steps yX6_steps, Cond.code yX6_steps cX6_steps 6 (some .boolean), Cond.fieldLink RX6 64 "MixingRelaysModel" "rows" "[I", Cond.fieldLink RX6 67 "MixingRelaysModel" "lead" "[I", Cond.methodLink RX6 146 yX6_reduce, Cond.instanceMethod yX6_reduce, Cond.selects RX6 yX6_reduce yX6_reduce, Cond.code yX6_reduce cX6_reduce 4 none, Cond.methodLink RX6 101 yX6_inverseOf, Cond.static yX6_inverseOf, Cond.code yX6_inverseOf cX6_inverseOf 2 (some .int), Cond.methodLink RX6 159 yX6_solvesFor, Cond.instanceMethod yX6_solvesFor, Cond.selects RX6 yX6_solvesFor yX6_solvesFor, Cond.code yX6_solvesFor cX6_solvesFor 3 (some .boolean), Cond.methodLink RX6 162 yX6_getsOf, Cond.instanceMethod yX6_getsOf, Cond.selects RX6 yX6_getsOf yX6_getsOf, Cond.code yX6_getsOf cX6_getsOf 5 (some .long)]
def wsX6_wrong : List Cond := .code yX6_wrong cX6_wrong 5 (some .int) :: ((wsX6_wrong_r1 ++ (wsX6_wrong_r2 ++ wsX6_wrong_r3)) ++ wsX60)
def wsX6_left_r1 : List Cond := [Cond.fieldLink RX6 7 "MixingRelaysModel" "relays" "I", Cond.fieldLink RX6 20 "MixingRelaysModel" "isEnd" "[Z", Cond.methodLink RX6 140 yX6_work, Cond.instanceMethod yX6_work, Cond.selects RX6 yX6_work yX6_work, Cond.initialized RX6, Cond.code yX6_work cX6_work 3 none, Cond.fieldLink RX6 105 "MixingRelaysModel" "lines" "I", Cond.fieldLink RX6 24 "MixingRelaysModel" "from" "[I", Cond.methodLink RX6 130 yX6_workLine, Cond.instanceMethod yX6_workLine, Cond.selects RX6 yX6_workLine yX6_workLine, Cond.code yX6_workLine cX6_workLine 7 none, Cond.fieldLink RX6 55 "MixingRelaysModel" "carried" "[J", Cond.fieldLink RX6 52 "MixingRelaysModel" "vectors" "[I", Cond.fieldLink RX6 34 "MixingRelaysModel" "broken" "[Z", Cond.fieldLink RX6 58 "MixingRelaysModel" "alsoA" "I", Cond.fieldLink RX6 61 "MixingRelaysModel" "alsoB" "I", Cond.fieldLink RX6 40 "MixingRelaysModel" "factors" "[I", Cond.fieldLink RX6 16 "MixingRelaysModel" "pieces" "[J", Cond.fieldLink RX6 13 "MixingRelaysModel" "h" "I", Cond.fieldLink RX6 37 "MixingRelaysModel" "bent" "[J", Cond.methodLink RX6 118 yX6_ins, Cond.instanceMethod yX6_ins]
def wsX6_left_r2 : List Cond := [Cond.selects RX6 yX6_ins yX6_ins, Cond.code yX6_ins cX6_ins 2 (some .int), Cond.methodLink RX6 108 yX6_waysIn, Cond.instanceMethod yX6_waysIn, Cond.selects RX6 yX6_waysIn yX6_waysIn, Cond.code yX6_waysIn cX6_waysIn 4 (some .int), Cond.fieldLink RX6 28 "MixingRelaysModel" "to" "[I", Cond.methodLink RX6 134 yX6_lineIn, Cond.instanceMethod yX6_lineIn, Cond.selects RX6 yX6_lineIn yX6_lineIn, Cond.code yX6_lineIn cX6_lineIn 5 (some .int), Cond.methodLink RX6 137 yX6_product_, Cond.static yX6_product_, Cond.code yX6_product_ cX6_product_ 6 (some .long), Cond.constantLong RX6 95 (255), Cond.methodLink RX6 91 yX6_product, Cond.static yX6_product, Cond.code yX6_product cX6_product 5 (some .int), Cond.methodLink RX6 173 yX6_hasAll, Cond.instanceMethod yX6_hasAll, Cond.selects RX6 yX6_hasAll yX6_hasAll, Cond.code yX6_hasAll cX6_hasAll 3 (some .boolean), Cond.methodLink RX6 153 yX6_study, Cond.instanceMethod yX6_study]
def wsX6_left_r3 : List Cond := [Cond.selects RX6 yX6_study yX6_study, Cond.code yX6_study cX6_study 4 none, Cond.fieldLink RX6 143 "MixingRelaysModel" "rank" "I", Cond.fieldLink RX6 73 "MixingRelaysModel" "row" "[I", Cond.fieldLink RX6 70 "MixingRelaysModel" "fresh" "[I", Cond.methodLink RX6 149 yX6_steps, Cond.instanceMethod yX6_steps, Cond.selects RX6 yX6_steps yX6_steps, Cond.code yX6_steps cX6_steps 6 (some .boolean), Cond.fieldLink RX6 64 "MixingRelaysModel" "rows" "[I", Cond.fieldLink RX6 67 "MixingRelaysModel" "lead" "[I", Cond.methodLink RX6 146 yX6_reduce, Cond.instanceMethod yX6_reduce, Cond.selects RX6 yX6_reduce yX6_reduce, Cond.code yX6_reduce cX6_reduce 4 none, Cond.methodLink RX6 101 yX6_inverseOf, Cond.static yX6_inverseOf, Cond.code yX6_inverseOf cX6_inverseOf 2 (some .int), Cond.methodLink RX6 159 yX6_solvesFor, Cond.instanceMethod yX6_solvesFor, Cond.selects RX6 yX6_solvesFor yX6_solvesFor, Cond.code yX6_solvesFor cX6_solvesFor 3 (some .boolean)]
def wsX6_left : List Cond := .code yX6_left cX6_left 3 (some .int) :: ((wsX6_left_r1 ++ (wsX6_left_r2 ++ wsX6_left_r3)) ++ wsX60)
def wsX6_draw : List Cond := .code yX6_draw cX6_draw 6 (some .int) :: ([.fieldLink RX6 105 "MixingRelaysModel" "lines" "I", .fieldLink RX6 31 "MixingRelaysModel" "kept" "[Z", .constant RX6 176 (1103515245), .fieldLink RX6 40 "MixingRelaysModel" "factors" "[I", .methodLink RX6 118 yX6_ins, .instanceMethod yX6_ins, .selects RX6 yX6_ins yX6_ins, .initialized RX6, .code yX6_ins cX6_ins 2 (some .int), .fieldLink RX6 24 "MixingRelaysModel" "from" "[I", .fieldLink RX6 13 "MixingRelaysModel" "h" "I", .methodLink RX6 108 yX6_waysIn, .instanceMethod yX6_waysIn, .selects RX6 yX6_waysIn yX6_waysIn, .code yX6_waysIn cX6_waysIn 4 (some .int), .fieldLink RX6 28 "MixingRelaysModel" "to" "[I"] ++ wsX60)
def wsX6_ends : List Cond := .code yX6_ends cX6_ends 3 (some .int) :: ([.fieldLink RX6 7 "MixingRelaysModel" "relays" "I", .fieldLink RX6 20 "MixingRelaysModel" "isEnd" "[Z"] ++ wsX60)
def wsX6_find_r1 : List Cond := [Cond.fieldLink RX6 82 "MixingRelaysModel" "before" "[I", Cond.fieldLink RX6 40 "MixingRelaysModel" "factors" "[I", Cond.methodLink RX6 177 yX6_ends, Cond.instanceMethod yX6_ends, Cond.selects RX6 yX6_ends yX6_ends, Cond.initialized RX6, Cond.code yX6_ends cX6_ends 3 (some .int), Cond.fieldLink RX6 7 "MixingRelaysModel" "relays" "I", Cond.fieldLink RX6 20 "MixingRelaysModel" "isEnd" "[Z", Cond.methodLink RX6 181 yX6_draw, Cond.instanceMethod yX6_draw, Cond.selects RX6 yX6_draw yX6_draw, Cond.code yX6_draw cX6_draw 6 (some .int), Cond.fieldLink RX6 105 "MixingRelaysModel" "lines" "I", Cond.fieldLink RX6 31 "MixingRelaysModel" "kept" "[Z", Cond.constant RX6 176 (1103515245), Cond.methodLink RX6 118 yX6_ins, Cond.instanceMethod yX6_ins, Cond.selects RX6 yX6_ins yX6_ins, Cond.code yX6_ins cX6_ins 2 (some .int), Cond.fieldLink RX6 24 "MixingRelaysModel" "from" "[I", Cond.fieldLink RX6 13 "MixingRelaysModel" "h" "I", Cond.methodLink RX6 108 yX6_waysIn, Cond.instanceMethod yX6_waysIn]
def wsX6_find_r2 : List Cond := [Cond.selects RX6 yX6_waysIn yX6_waysIn, Cond.code yX6_waysIn cX6_waysIn 4 (some .int), Cond.fieldLink RX6 28 "MixingRelaysModel" "to" "[I", Cond.methodLink RX6 184 yX6_left, Cond.instanceMethod yX6_left, Cond.selects RX6 yX6_left yX6_left, Cond.code yX6_left cX6_left 3 (some .int), Cond.methodLink RX6 140 yX6_work, Cond.instanceMethod yX6_work, Cond.selects RX6 yX6_work yX6_work, Cond.code yX6_work cX6_work 3 none, Cond.methodLink RX6 130 yX6_workLine, Cond.instanceMethod yX6_workLine, Cond.selects RX6 yX6_workLine yX6_workLine, Cond.code yX6_workLine cX6_workLine 7 none, Cond.fieldLink RX6 55 "MixingRelaysModel" "carried" "[J", Cond.fieldLink RX6 52 "MixingRelaysModel" "vectors" "[I", Cond.fieldLink RX6 34 "MixingRelaysModel" "broken" "[Z", Cond.fieldLink RX6 58 "MixingRelaysModel" "alsoA" "I", Cond.fieldLink RX6 61 "MixingRelaysModel" "alsoB" "I", Cond.fieldLink RX6 16 "MixingRelaysModel" "pieces" "[J", Cond.fieldLink RX6 37 "MixingRelaysModel" "bent" "[J", Cond.methodLink RX6 134 yX6_lineIn, Cond.instanceMethod yX6_lineIn]
def wsX6_find_r3 : List Cond := [Cond.selects RX6 yX6_lineIn yX6_lineIn, Cond.code yX6_lineIn cX6_lineIn 5 (some .int), Cond.methodLink RX6 137 yX6_product_, Cond.static yX6_product_, Cond.code yX6_product_ cX6_product_ 6 (some .long), Cond.constantLong RX6 95 (255), Cond.methodLink RX6 91 yX6_product, Cond.static yX6_product, Cond.code yX6_product cX6_product 5 (some .int), Cond.methodLink RX6 173 yX6_hasAll, Cond.instanceMethod yX6_hasAll, Cond.selects RX6 yX6_hasAll yX6_hasAll, Cond.code yX6_hasAll cX6_hasAll 3 (some .boolean), Cond.methodLink RX6 153 yX6_study, Cond.instanceMethod yX6_study, Cond.selects RX6 yX6_study yX6_study, Cond.code yX6_study cX6_study 4 none, Cond.fieldLink RX6 143 "MixingRelaysModel" "rank" "I", Cond.fieldLink RX6 73 "MixingRelaysModel" "row" "[I", Cond.fieldLink RX6 70 "MixingRelaysModel" "fresh" "[I", Cond.methodLink RX6 149 yX6_steps, Cond.instanceMethod yX6_steps, Cond.selects RX6 yX6_steps yX6_steps, Cond.code yX6_steps cX6_steps 6 (some .boolean)]
def wsX6_find_r4 : List Cond := [Cond.fieldLink RX6 64 "MixingRelaysModel" "rows" "[I", Cond.fieldLink RX6 67 "MixingRelaysModel" "lead" "[I", Cond.methodLink RX6 146 yX6_reduce, Cond.instanceMethod yX6_reduce, Cond.selects RX6 yX6_reduce yX6_reduce, Cond.code yX6_reduce cX6_reduce 4 none, Cond.methodLink RX6 101 yX6_inverseOf, Cond.static yX6_inverseOf, Cond.code yX6_inverseOf cX6_inverseOf 2 (some .int), Cond.methodLink RX6 159 yX6_solvesFor, Cond.instanceMethod yX6_solvesFor, Cond.selects RX6 yX6_solvesFor yX6_solvesFor, Cond.code yX6_solvesFor cX6_solvesFor 3 (some .boolean)]
def wsX6_find : List Cond := .code yX6_find cX6_find 3 (some .int) :: ((wsX6_find_r1 ++ (wsX6_find_r2 ++ (wsX6_find_r3 ++ wsX6_find_r4))) ++ wsX60)
def wsX6_isAsBefore_r1 : List Cond := [Cond.fieldLink RX6 7 "MixingRelaysModel" "relays" "I", Cond.fieldLink RX6 20 "MixingRelaysModel" "isEnd" "[Z", Cond.fieldLink RX6 85 "MixingRelaysModel" "ranks" "[I", Cond.methodLink RX6 140 yX6_work, Cond.instanceMethod yX6_work, Cond.selects RX6 yX6_work yX6_work, Cond.initialized RX6, Cond.code yX6_work cX6_work 3 none, Cond.fieldLink RX6 105 "MixingRelaysModel" "lines" "I", Cond.fieldLink RX6 24 "MixingRelaysModel" "from" "[I", Cond.methodLink RX6 130 yX6_workLine, Cond.instanceMethod yX6_workLine, Cond.selects RX6 yX6_workLine yX6_workLine, Cond.code yX6_workLine cX6_workLine 7 none, Cond.fieldLink RX6 55 "MixingRelaysModel" "carried" "[J", Cond.fieldLink RX6 52 "MixingRelaysModel" "vectors" "[I", Cond.fieldLink RX6 34 "MixingRelaysModel" "broken" "[Z", Cond.fieldLink RX6 58 "MixingRelaysModel" "alsoA" "I", Cond.fieldLink RX6 61 "MixingRelaysModel" "alsoB" "I", Cond.fieldLink RX6 40 "MixingRelaysModel" "factors" "[I", Cond.fieldLink RX6 16 "MixingRelaysModel" "pieces" "[J", Cond.fieldLink RX6 13 "MixingRelaysModel" "h" "I", Cond.fieldLink RX6 37 "MixingRelaysModel" "bent" "[J", Cond.methodLink RX6 118 yX6_ins]
def wsX6_isAsBefore_r2 : List Cond := [Cond.instanceMethod yX6_ins, Cond.selects RX6 yX6_ins yX6_ins, Cond.code yX6_ins cX6_ins 2 (some .int), Cond.methodLink RX6 108 yX6_waysIn, Cond.instanceMethod yX6_waysIn, Cond.selects RX6 yX6_waysIn yX6_waysIn, Cond.code yX6_waysIn cX6_waysIn 4 (some .int), Cond.fieldLink RX6 28 "MixingRelaysModel" "to" "[I", Cond.methodLink RX6 134 yX6_lineIn, Cond.instanceMethod yX6_lineIn, Cond.selects RX6 yX6_lineIn yX6_lineIn, Cond.code yX6_lineIn cX6_lineIn 5 (some .int), Cond.methodLink RX6 137 yX6_product_, Cond.static yX6_product_, Cond.code yX6_product_ cX6_product_ 6 (some .long), Cond.constantLong RX6 95 (255), Cond.methodLink RX6 91 yX6_product, Cond.static yX6_product, Cond.code yX6_product cX6_product 5 (some .int), Cond.methodLink RX6 156 yX6_rankOf, Cond.instanceMethod yX6_rankOf, Cond.selects RX6 yX6_rankOf yX6_rankOf, Cond.code yX6_rankOf cX6_rankOf 2 (some .int), Cond.fieldLink RX6 143 "MixingRelaysModel" "rank" "I"]
def wsX6_isAsBefore_r3 : List Cond := [Cond.methodLink RX6 153 yX6_study, Cond.instanceMethod yX6_study, Cond.selects RX6 yX6_study yX6_study, Cond.code yX6_study cX6_study 4 none, Cond.fieldLink RX6 73 "MixingRelaysModel" "row" "[I", Cond.fieldLink RX6 70 "MixingRelaysModel" "fresh" "[I", Cond.methodLink RX6 149 yX6_steps, Cond.instanceMethod yX6_steps, Cond.selects RX6 yX6_steps yX6_steps, Cond.code yX6_steps cX6_steps 6 (some .boolean), Cond.fieldLink RX6 64 "MixingRelaysModel" "rows" "[I", Cond.fieldLink RX6 67 "MixingRelaysModel" "lead" "[I", Cond.methodLink RX6 146 yX6_reduce, Cond.instanceMethod yX6_reduce, Cond.selects RX6 yX6_reduce yX6_reduce, Cond.code yX6_reduce cX6_reduce 4 none, Cond.methodLink RX6 101 yX6_inverseOf, Cond.static yX6_inverseOf, Cond.code yX6_inverseOf cX6_inverseOf 2 (some .int)]
def wsX6_isAsBefore : List Cond := .code yX6_isAsBefore cX6_isAsBefore 2 (some .boolean) :: ((wsX6_isAsBefore_r1 ++ (wsX6_isAsBefore_r2 ++ wsX6_isAsBefore_r3)) ++ wsX60)
def wsX6_leaves_r1 : List Cond := [Cond.fieldLink RX6 82 "MixingRelaysModel" "before" "[I", Cond.fieldLink RX6 40 "MixingRelaysModel" "factors" "[I", Cond.methodLink RX6 118 yX6_ins, Cond.instanceMethod yX6_ins, Cond.selects RX6 yX6_ins yX6_ins, Cond.initialized RX6, Cond.code yX6_ins cX6_ins 2 (some .int), Cond.fieldLink RX6 24 "MixingRelaysModel" "from" "[I", Cond.fieldLink RX6 13 "MixingRelaysModel" "h" "I", Cond.methodLink RX6 108 yX6_waysIn, Cond.instanceMethod yX6_waysIn, Cond.selects RX6 yX6_waysIn yX6_waysIn, Cond.code yX6_waysIn cX6_waysIn 4 (some .int), Cond.fieldLink RX6 105 "MixingRelaysModel" "lines" "I", Cond.fieldLink RX6 28 "MixingRelaysModel" "to" "[I", Cond.methodLink RX6 187 yX6_isAsBefore, Cond.instanceMethod yX6_isAsBefore, Cond.selects RX6 yX6_isAsBefore yX6_isAsBefore, Cond.code yX6_isAsBefore cX6_isAsBefore 2 (some .boolean), Cond.fieldLink RX6 7 "MixingRelaysModel" "relays" "I", Cond.fieldLink RX6 20 "MixingRelaysModel" "isEnd" "[Z", Cond.fieldLink RX6 85 "MixingRelaysModel" "ranks" "[I", Cond.methodLink RX6 140 yX6_work, Cond.instanceMethod yX6_work]
def wsX6_leaves_r2 : List Cond := [Cond.selects RX6 yX6_work yX6_work, Cond.code yX6_work cX6_work 3 none, Cond.methodLink RX6 130 yX6_workLine, Cond.instanceMethod yX6_workLine, Cond.selects RX6 yX6_workLine yX6_workLine, Cond.code yX6_workLine cX6_workLine 7 none, Cond.fieldLink RX6 55 "MixingRelaysModel" "carried" "[J", Cond.fieldLink RX6 52 "MixingRelaysModel" "vectors" "[I", Cond.fieldLink RX6 34 "MixingRelaysModel" "broken" "[Z", Cond.fieldLink RX6 58 "MixingRelaysModel" "alsoA" "I", Cond.fieldLink RX6 61 "MixingRelaysModel" "alsoB" "I", Cond.fieldLink RX6 16 "MixingRelaysModel" "pieces" "[J", Cond.fieldLink RX6 37 "MixingRelaysModel" "bent" "[J", Cond.methodLink RX6 134 yX6_lineIn, Cond.instanceMethod yX6_lineIn, Cond.selects RX6 yX6_lineIn yX6_lineIn, Cond.code yX6_lineIn cX6_lineIn 5 (some .int), Cond.methodLink RX6 137 yX6_product_, Cond.static yX6_product_, Cond.code yX6_product_ cX6_product_ 6 (some .long), Cond.constantLong RX6 95 (255), Cond.methodLink RX6 91 yX6_product, Cond.static yX6_product, Cond.code yX6_product cX6_product 5 (some .int)]
def wsX6_leaves_r3 : List Cond := [Cond.methodLink RX6 156 yX6_rankOf, Cond.instanceMethod yX6_rankOf, Cond.selects RX6 yX6_rankOf yX6_rankOf, Cond.code yX6_rankOf cX6_rankOf 2 (some .int), Cond.fieldLink RX6 143 "MixingRelaysModel" "rank" "I", Cond.methodLink RX6 153 yX6_study, Cond.instanceMethod yX6_study, Cond.selects RX6 yX6_study yX6_study, Cond.code yX6_study cX6_study 4 none, Cond.fieldLink RX6 73 "MixingRelaysModel" "row" "[I", Cond.fieldLink RX6 70 "MixingRelaysModel" "fresh" "[I", Cond.methodLink RX6 149 yX6_steps, Cond.instanceMethod yX6_steps, Cond.selects RX6 yX6_steps yX6_steps, Cond.code yX6_steps cX6_steps 6 (some .boolean), Cond.fieldLink RX6 64 "MixingRelaysModel" "rows" "[I", Cond.fieldLink RX6 67 "MixingRelaysModel" "lead" "[I", Cond.methodLink RX6 146 yX6_reduce, Cond.instanceMethod yX6_reduce, Cond.selects RX6 yX6_reduce yX6_reduce, Cond.code yX6_reduce cX6_reduce 4 none, Cond.methodLink RX6 101 yX6_inverseOf, Cond.static yX6_inverseOf, Cond.code yX6_inverseOf cX6_inverseOf 2 (some .int)]
def wsX6_leaves : List Cond := .code yX6_leaves cX6_leaves 5 (some .boolean) :: ((wsX6_leaves_r1 ++ (wsX6_leaves_r2 ++ wsX6_leaves_r3)) ++ wsX60)
def wsX6_leave_r1 : List Cond := [Cond.fieldLink RX6 7 "MixingRelaysModel" "relays" "I", Cond.fieldLink RX6 85 "MixingRelaysModel" "ranks" "[I", Cond.fieldLink RX6 20 "MixingRelaysModel" "isEnd" "[Z", Cond.fieldLink RX6 105 "MixingRelaysModel" "lines" "I", Cond.fieldLink RX6 24 "MixingRelaysModel" "from" "[I", Cond.fieldLink RX6 31 "MixingRelaysModel" "kept" "[Z", Cond.methodLink RX6 140 yX6_work, Cond.instanceMethod yX6_work, Cond.selects RX6 yX6_work yX6_work, Cond.initialized RX6, Cond.code yX6_work cX6_work 3 none, Cond.methodLink RX6 130 yX6_workLine, Cond.instanceMethod yX6_workLine, Cond.selects RX6 yX6_workLine yX6_workLine, Cond.code yX6_workLine cX6_workLine 7 none, Cond.fieldLink RX6 55 "MixingRelaysModel" "carried" "[J", Cond.fieldLink RX6 52 "MixingRelaysModel" "vectors" "[I", Cond.fieldLink RX6 34 "MixingRelaysModel" "broken" "[Z", Cond.fieldLink RX6 58 "MixingRelaysModel" "alsoA" "I", Cond.fieldLink RX6 61 "MixingRelaysModel" "alsoB" "I", Cond.fieldLink RX6 40 "MixingRelaysModel" "factors" "[I", Cond.fieldLink RX6 16 "MixingRelaysModel" "pieces" "[J", Cond.fieldLink RX6 13 "MixingRelaysModel" "h" "I", Cond.fieldLink RX6 37 "MixingRelaysModel" "bent" "[J"]
def wsX6_leave_r2 : List Cond := [Cond.methodLink RX6 118 yX6_ins, Cond.instanceMethod yX6_ins, Cond.selects RX6 yX6_ins yX6_ins, Cond.code yX6_ins cX6_ins 2 (some .int), Cond.methodLink RX6 108 yX6_waysIn, Cond.instanceMethod yX6_waysIn, Cond.selects RX6 yX6_waysIn yX6_waysIn, Cond.code yX6_waysIn cX6_waysIn 4 (some .int), Cond.fieldLink RX6 28 "MixingRelaysModel" "to" "[I", Cond.methodLink RX6 134 yX6_lineIn, Cond.instanceMethod yX6_lineIn, Cond.selects RX6 yX6_lineIn yX6_lineIn, Cond.code yX6_lineIn cX6_lineIn 5 (some .int), Cond.methodLink RX6 137 yX6_product_, Cond.static yX6_product_, Cond.code yX6_product_ cX6_product_ 6 (some .long), Cond.constantLong RX6 95 (255), Cond.methodLink RX6 91 yX6_product, Cond.static yX6_product, Cond.code yX6_product cX6_product 5 (some .int), Cond.methodLink RX6 156 yX6_rankOf, Cond.instanceMethod yX6_rankOf, Cond.selects RX6 yX6_rankOf yX6_rankOf, Cond.code yX6_rankOf cX6_rankOf 2 (some .int)]
def wsX6_leave_r3 : List Cond := [Cond.fieldLink RX6 143 "MixingRelaysModel" "rank" "I", Cond.methodLink RX6 153 yX6_study, Cond.instanceMethod yX6_study, Cond.selects RX6 yX6_study yX6_study, Cond.code yX6_study cX6_study 4 none, Cond.fieldLink RX6 73 "MixingRelaysModel" "row" "[I", Cond.fieldLink RX6 70 "MixingRelaysModel" "fresh" "[I", Cond.methodLink RX6 149 yX6_steps, Cond.instanceMethod yX6_steps, Cond.selects RX6 yX6_steps yX6_steps, Cond.code yX6_steps cX6_steps 6 (some .boolean), Cond.fieldLink RX6 64 "MixingRelaysModel" "rows" "[I", Cond.fieldLink RX6 67 "MixingRelaysModel" "lead" "[I", Cond.methodLink RX6 146 yX6_reduce, Cond.instanceMethod yX6_reduce, Cond.selects RX6 yX6_reduce yX6_reduce, Cond.code yX6_reduce cX6_reduce 4 none, Cond.methodLink RX6 101 yX6_inverseOf, Cond.static yX6_inverseOf, Cond.code yX6_inverseOf cX6_inverseOf 2 (some .int), Cond.methodLink RX6 121 yX6_isPassing, Cond.instanceMethod yX6_isPassing, Cond.selects RX6 yX6_isPassing yX6_isPassing, Cond.code yX6_isPassing cX6_isPassing 4 (some .boolean)]
def wsX6_leave_r4 : List Cond := [Cond.methodLink RX6 190 yX6_leaves, Cond.instanceMethod yX6_leaves, Cond.selects RX6 yX6_leaves yX6_leaves, Cond.code yX6_leaves cX6_leaves 5 (some .boolean), Cond.fieldLink RX6 82 "MixingRelaysModel" "before" "[I", Cond.methodLink RX6 187 yX6_isAsBefore, Cond.instanceMethod yX6_isAsBefore, Cond.selects RX6 yX6_isAsBefore yX6_isAsBefore, Cond.code yX6_isAsBefore cX6_isAsBefore 2 (some .boolean)]
def wsX6_leave : List Cond := .code yX6_leave cX6_leave 3 (some .int) :: ((wsX6_leave_r1 ++ (wsX6_leave_r2 ++ (wsX6_leave_r3 ++ wsX6_leave_r4))) ++ wsX60)
def wsX6_lowEnd_r1 : List Cond := [Cond.fieldLink RX6 58 "MixingRelaysModel" "alsoA" "I", Cond.fieldLink RX6 61 "MixingRelaysModel" "alsoB" "I", Cond.fieldLink RX6 7 "MixingRelaysModel" "relays" "I", Cond.fieldLink RX6 20 "MixingRelaysModel" "isEnd" "[Z", Cond.methodLink RX6 140 yX6_work, Cond.instanceMethod yX6_work, Cond.selects RX6 yX6_work yX6_work, Cond.initialized RX6, Cond.code yX6_work cX6_work 3 none, Cond.fieldLink RX6 105 "MixingRelaysModel" "lines" "I", Cond.fieldLink RX6 24 "MixingRelaysModel" "from" "[I", Cond.methodLink RX6 130 yX6_workLine, Cond.instanceMethod yX6_workLine, Cond.selects RX6 yX6_workLine yX6_workLine, Cond.code yX6_workLine cX6_workLine 7 none, Cond.fieldLink RX6 55 "MixingRelaysModel" "carried" "[J", Cond.fieldLink RX6 52 "MixingRelaysModel" "vectors" "[I", Cond.fieldLink RX6 34 "MixingRelaysModel" "broken" "[Z", Cond.fieldLink RX6 40 "MixingRelaysModel" "factors" "[I", Cond.fieldLink RX6 16 "MixingRelaysModel" "pieces" "[J", Cond.fieldLink RX6 13 "MixingRelaysModel" "h" "I", Cond.fieldLink RX6 37 "MixingRelaysModel" "bent" "[J", Cond.methodLink RX6 118 yX6_ins, Cond.instanceMethod yX6_ins]
def wsX6_lowEnd_r2 : List Cond := [Cond.selects RX6 yX6_ins yX6_ins, Cond.code yX6_ins cX6_ins 2 (some .int), Cond.methodLink RX6 108 yX6_waysIn, Cond.instanceMethod yX6_waysIn, Cond.selects RX6 yX6_waysIn yX6_waysIn, Cond.code yX6_waysIn cX6_waysIn 4 (some .int), Cond.fieldLink RX6 28 "MixingRelaysModel" "to" "[I", Cond.methodLink RX6 134 yX6_lineIn, Cond.instanceMethod yX6_lineIn, Cond.selects RX6 yX6_lineIn yX6_lineIn, Cond.code yX6_lineIn cX6_lineIn 5 (some .int), Cond.methodLink RX6 137 yX6_product_, Cond.static yX6_product_, Cond.code yX6_product_ cX6_product_ 6 (some .long), Cond.constantLong RX6 95 (255), Cond.methodLink RX6 91 yX6_product, Cond.static yX6_product, Cond.code yX6_product cX6_product 5 (some .int), Cond.methodLink RX6 156 yX6_rankOf, Cond.instanceMethod yX6_rankOf, Cond.selects RX6 yX6_rankOf yX6_rankOf, Cond.code yX6_rankOf cX6_rankOf 2 (some .int), Cond.fieldLink RX6 143 "MixingRelaysModel" "rank" "I", Cond.methodLink RX6 153 yX6_study]
def wsX6_lowEnd_r3 : List Cond := [Cond.instanceMethod yX6_study, Cond.selects RX6 yX6_study yX6_study, Cond.code yX6_study cX6_study 4 none, Cond.fieldLink RX6 73 "MixingRelaysModel" "row" "[I", Cond.fieldLink RX6 70 "MixingRelaysModel" "fresh" "[I", Cond.methodLink RX6 149 yX6_steps, Cond.instanceMethod yX6_steps, Cond.selects RX6 yX6_steps yX6_steps, Cond.code yX6_steps cX6_steps 6 (some .boolean), Cond.fieldLink RX6 64 "MixingRelaysModel" "rows" "[I", Cond.fieldLink RX6 67 "MixingRelaysModel" "lead" "[I", Cond.methodLink RX6 146 yX6_reduce, Cond.instanceMethod yX6_reduce, Cond.selects RX6 yX6_reduce yX6_reduce, Cond.code yX6_reduce cX6_reduce 4 none, Cond.methodLink RX6 101 yX6_inverseOf, Cond.static yX6_inverseOf, Cond.code yX6_inverseOf cX6_inverseOf 2 (some .int)]
def wsX6_lowEnd : List Cond := .code yX6_lowEnd cX6_lowEnd 6 (some .int) :: ((wsX6_lowEnd_r1 ++ (wsX6_lowEnd_r2 ++ wsX6_lowEnd_r3)) ++ wsX60)
def wsX6_breaksAt_r1 : List Cond := [Cond.fieldLink RX6 193 "MixingRelaysModel" "breakA" "I", Cond.fieldLink RX6 196 "MixingRelaysModel" "breakB" "I", Cond.fieldLink RX6 203 "MixingRelaysModel" "breakEnd" "I", Cond.methodLink RX6 199 yX6_lowEnd, Cond.instanceMethod yX6_lowEnd, Cond.selects RX6 yX6_lowEnd yX6_lowEnd, Cond.initialized RX6, Cond.code yX6_lowEnd cX6_lowEnd 6 (some .int), Cond.fieldLink RX6 58 "MixingRelaysModel" "alsoA" "I", Cond.fieldLink RX6 61 "MixingRelaysModel" "alsoB" "I", Cond.fieldLink RX6 7 "MixingRelaysModel" "relays" "I", Cond.fieldLink RX6 20 "MixingRelaysModel" "isEnd" "[Z", Cond.methodLink RX6 140 yX6_work, Cond.instanceMethod yX6_work, Cond.selects RX6 yX6_work yX6_work, Cond.code yX6_work cX6_work 3 none, Cond.fieldLink RX6 105 "MixingRelaysModel" "lines" "I", Cond.fieldLink RX6 24 "MixingRelaysModel" "from" "[I", Cond.methodLink RX6 130 yX6_workLine, Cond.instanceMethod yX6_workLine, Cond.selects RX6 yX6_workLine yX6_workLine, Cond.code yX6_workLine cX6_workLine 7 none, Cond.fieldLink RX6 55 "MixingRelaysModel" "carried" "[J", Cond.fieldLink RX6 52 "MixingRelaysModel" "vectors" "[I"]
def wsX6_breaksAt_r2 : List Cond := [Cond.fieldLink RX6 34 "MixingRelaysModel" "broken" "[Z", Cond.fieldLink RX6 40 "MixingRelaysModel" "factors" "[I", Cond.fieldLink RX6 16 "MixingRelaysModel" "pieces" "[J", Cond.fieldLink RX6 13 "MixingRelaysModel" "h" "I", Cond.fieldLink RX6 37 "MixingRelaysModel" "bent" "[J", Cond.methodLink RX6 118 yX6_ins, Cond.instanceMethod yX6_ins, Cond.selects RX6 yX6_ins yX6_ins, Cond.code yX6_ins cX6_ins 2 (some .int), Cond.methodLink RX6 108 yX6_waysIn, Cond.instanceMethod yX6_waysIn, Cond.selects RX6 yX6_waysIn yX6_waysIn, Cond.code yX6_waysIn cX6_waysIn 4 (some .int), Cond.fieldLink RX6 28 "MixingRelaysModel" "to" "[I", Cond.methodLink RX6 134 yX6_lineIn, Cond.instanceMethod yX6_lineIn, Cond.selects RX6 yX6_lineIn yX6_lineIn, Cond.code yX6_lineIn cX6_lineIn 5 (some .int), Cond.methodLink RX6 137 yX6_product_, Cond.static yX6_product_, Cond.code yX6_product_ cX6_product_ 6 (some .long), Cond.constantLong RX6 95 (255), Cond.methodLink RX6 91 yX6_product, Cond.static yX6_product]
def wsX6_breaksAt_r3 : List Cond := [Cond.code yX6_product cX6_product 5 (some .int), Cond.methodLink RX6 156 yX6_rankOf, Cond.instanceMethod yX6_rankOf, Cond.selects RX6 yX6_rankOf yX6_rankOf, Cond.code yX6_rankOf cX6_rankOf 2 (some .int), Cond.fieldLink RX6 143 "MixingRelaysModel" "rank" "I", Cond.methodLink RX6 153 yX6_study, Cond.instanceMethod yX6_study, Cond.selects RX6 yX6_study yX6_study, Cond.code yX6_study cX6_study 4 none, Cond.fieldLink RX6 73 "MixingRelaysModel" "row" "[I", Cond.fieldLink RX6 70 "MixingRelaysModel" "fresh" "[I", Cond.methodLink RX6 149 yX6_steps, Cond.instanceMethod yX6_steps, Cond.selects RX6 yX6_steps yX6_steps, Cond.code yX6_steps cX6_steps 6 (some .boolean), Cond.fieldLink RX6 64 "MixingRelaysModel" "rows" "[I", Cond.fieldLink RX6 67 "MixingRelaysModel" "lead" "[I", Cond.methodLink RX6 146 yX6_reduce, Cond.instanceMethod yX6_reduce, Cond.selects RX6 yX6_reduce yX6_reduce, Cond.code yX6_reduce cX6_reduce 4 none, Cond.methodLink RX6 101 yX6_inverseOf, Cond.static yX6_inverseOf]
def wsX6_breaksAt_r4 : List Cond := [Cond.code yX6_inverseOf cX6_inverseOf 2 (some .int)]
def wsX6_breaksAt : List Cond := .code yX6_breaksAt cX6_breaksAt 4 (some .boolean) :: ((wsX6_breaksAt_r1 ++ (wsX6_breaksAt_r2 ++ (wsX6_breaksAt_r3 ++ wsX6_breaksAt_r4))) ++ wsX60)
def wsX6_hasBreak_r1 : List Cond := [Cond.fieldLink RX6 105 "MixingRelaysModel" "lines" "I", Cond.fieldLink RX6 34 "MixingRelaysModel" "broken" "[Z", Cond.methodLink RX6 206 yX6_breaksAt, Cond.instanceMethod yX6_breaksAt, Cond.selects RX6 yX6_breaksAt yX6_breaksAt, Cond.initialized RX6, Cond.code yX6_breaksAt cX6_breaksAt 4 (some .boolean), Cond.fieldLink RX6 193 "MixingRelaysModel" "breakA" "I", Cond.fieldLink RX6 196 "MixingRelaysModel" "breakB" "I", Cond.fieldLink RX6 203 "MixingRelaysModel" "breakEnd" "I", Cond.methodLink RX6 199 yX6_lowEnd, Cond.instanceMethod yX6_lowEnd, Cond.selects RX6 yX6_lowEnd yX6_lowEnd, Cond.code yX6_lowEnd cX6_lowEnd 6 (some .int), Cond.fieldLink RX6 58 "MixingRelaysModel" "alsoA" "I", Cond.fieldLink RX6 61 "MixingRelaysModel" "alsoB" "I", Cond.fieldLink RX6 7 "MixingRelaysModel" "relays" "I", Cond.fieldLink RX6 20 "MixingRelaysModel" "isEnd" "[Z", Cond.methodLink RX6 140 yX6_work, Cond.instanceMethod yX6_work, Cond.selects RX6 yX6_work yX6_work, Cond.code yX6_work cX6_work 3 none, Cond.fieldLink RX6 24 "MixingRelaysModel" "from" "[I", Cond.methodLink RX6 130 yX6_workLine]
def wsX6_hasBreak_r2 : List Cond := [Cond.instanceMethod yX6_workLine, Cond.selects RX6 yX6_workLine yX6_workLine, Cond.code yX6_workLine cX6_workLine 7 none, Cond.fieldLink RX6 55 "MixingRelaysModel" "carried" "[J", Cond.fieldLink RX6 52 "MixingRelaysModel" "vectors" "[I", Cond.fieldLink RX6 40 "MixingRelaysModel" "factors" "[I", Cond.fieldLink RX6 16 "MixingRelaysModel" "pieces" "[J", Cond.fieldLink RX6 13 "MixingRelaysModel" "h" "I", Cond.fieldLink RX6 37 "MixingRelaysModel" "bent" "[J", Cond.methodLink RX6 118 yX6_ins, Cond.instanceMethod yX6_ins, Cond.selects RX6 yX6_ins yX6_ins, Cond.code yX6_ins cX6_ins 2 (some .int), Cond.methodLink RX6 108 yX6_waysIn, Cond.instanceMethod yX6_waysIn, Cond.selects RX6 yX6_waysIn yX6_waysIn, Cond.code yX6_waysIn cX6_waysIn 4 (some .int), Cond.fieldLink RX6 28 "MixingRelaysModel" "to" "[I", Cond.methodLink RX6 134 yX6_lineIn, Cond.instanceMethod yX6_lineIn, Cond.selects RX6 yX6_lineIn yX6_lineIn, Cond.code yX6_lineIn cX6_lineIn 5 (some .int), Cond.methodLink RX6 137 yX6_product_, Cond.static yX6_product_]
def wsX6_hasBreak_r3 : List Cond := [Cond.code yX6_product_ cX6_product_ 6 (some .long), Cond.constantLong RX6 95 (255), Cond.methodLink RX6 91 yX6_product, Cond.static yX6_product, Cond.code yX6_product cX6_product 5 (some .int), Cond.methodLink RX6 156 yX6_rankOf, Cond.instanceMethod yX6_rankOf, Cond.selects RX6 yX6_rankOf yX6_rankOf, Cond.code yX6_rankOf cX6_rankOf 2 (some .int), Cond.fieldLink RX6 143 "MixingRelaysModel" "rank" "I", Cond.methodLink RX6 153 yX6_study, Cond.instanceMethod yX6_study, Cond.selects RX6 yX6_study yX6_study, Cond.code yX6_study cX6_study 4 none, Cond.fieldLink RX6 73 "MixingRelaysModel" "row" "[I", Cond.fieldLink RX6 70 "MixingRelaysModel" "fresh" "[I", Cond.methodLink RX6 149 yX6_steps, Cond.instanceMethod yX6_steps, Cond.selects RX6 yX6_steps yX6_steps, Cond.code yX6_steps cX6_steps 6 (some .boolean), Cond.fieldLink RX6 64 "MixingRelaysModel" "rows" "[I", Cond.fieldLink RX6 67 "MixingRelaysModel" "lead" "[I", Cond.methodLink RX6 146 yX6_reduce, Cond.instanceMethod yX6_reduce]
def wsX6_hasBreak_r4 : List Cond := [Cond.selects RX6 yX6_reduce yX6_reduce, Cond.code yX6_reduce cX6_reduce 4 none, Cond.methodLink RX6 101 yX6_inverseOf, Cond.static yX6_inverseOf, Cond.code yX6_inverseOf cX6_inverseOf 2 (some .int)]
def wsX6_hasBreak : List Cond := .code yX6_hasBreak cX6_hasBreak 5 (some .boolean) :: ((wsX6_hasBreak_r1 ++ (wsX6_hasBreak_r2 ++ (wsX6_hasBreak_r3 ++ wsX6_hasBreak_r4))) ++ wsX60)
def wsX6_safe_r1 : List Cond := [Cond.fieldLink RX6 13 "MixingRelaysModel" "h" "I", Cond.methodLink RX6 97 yX6_in, Cond.static yX6_in, Cond.initialized RX6, Cond.code yX6_in cX6_in 3 (some .boolean), Cond.methodLink RX6 209 yX6_hasBreak, Cond.instanceMethod yX6_hasBreak, Cond.selects RX6 yX6_hasBreak yX6_hasBreak, Cond.code yX6_hasBreak cX6_hasBreak 5 (some .boolean), Cond.fieldLink RX6 105 "MixingRelaysModel" "lines" "I", Cond.fieldLink RX6 34 "MixingRelaysModel" "broken" "[Z", Cond.methodLink RX6 206 yX6_breaksAt, Cond.instanceMethod yX6_breaksAt, Cond.selects RX6 yX6_breaksAt yX6_breaksAt, Cond.code yX6_breaksAt cX6_breaksAt 4 (some .boolean), Cond.fieldLink RX6 193 "MixingRelaysModel" "breakA" "I", Cond.fieldLink RX6 196 "MixingRelaysModel" "breakB" "I", Cond.fieldLink RX6 203 "MixingRelaysModel" "breakEnd" "I", Cond.methodLink RX6 199 yX6_lowEnd, Cond.instanceMethod yX6_lowEnd, Cond.selects RX6 yX6_lowEnd yX6_lowEnd, Cond.code yX6_lowEnd cX6_lowEnd 6 (some .int), Cond.fieldLink RX6 58 "MixingRelaysModel" "alsoA" "I", Cond.fieldLink RX6 61 "MixingRelaysModel" "alsoB" "I"]
def wsX6_safe_r2 : List Cond := [Cond.fieldLink RX6 7 "MixingRelaysModel" "relays" "I", Cond.fieldLink RX6 20 "MixingRelaysModel" "isEnd" "[Z", Cond.methodLink RX6 140 yX6_work, Cond.instanceMethod yX6_work, Cond.selects RX6 yX6_work yX6_work, Cond.code yX6_work cX6_work 3 none, Cond.fieldLink RX6 24 "MixingRelaysModel" "from" "[I", Cond.methodLink RX6 130 yX6_workLine, Cond.instanceMethod yX6_workLine, Cond.selects RX6 yX6_workLine yX6_workLine, Cond.code yX6_workLine cX6_workLine 7 none, Cond.fieldLink RX6 55 "MixingRelaysModel" "carried" "[J", Cond.fieldLink RX6 52 "MixingRelaysModel" "vectors" "[I", Cond.fieldLink RX6 40 "MixingRelaysModel" "factors" "[I", Cond.fieldLink RX6 16 "MixingRelaysModel" "pieces" "[J", Cond.fieldLink RX6 37 "MixingRelaysModel" "bent" "[J", Cond.methodLink RX6 118 yX6_ins, Cond.instanceMethod yX6_ins, Cond.selects RX6 yX6_ins yX6_ins, Cond.code yX6_ins cX6_ins 2 (some .int), Cond.methodLink RX6 108 yX6_waysIn, Cond.instanceMethod yX6_waysIn, Cond.selects RX6 yX6_waysIn yX6_waysIn, Cond.code yX6_waysIn cX6_waysIn 4 (some .int)]
def wsX6_safe_r3 : List Cond := [Cond.fieldLink RX6 28 "MixingRelaysModel" "to" "[I", Cond.methodLink RX6 134 yX6_lineIn, Cond.instanceMethod yX6_lineIn, Cond.selects RX6 yX6_lineIn yX6_lineIn, Cond.code yX6_lineIn cX6_lineIn 5 (some .int), Cond.methodLink RX6 137 yX6_product_, Cond.static yX6_product_, Cond.code yX6_product_ cX6_product_ 6 (some .long), Cond.constantLong RX6 95 (255), Cond.methodLink RX6 91 yX6_product, Cond.static yX6_product, Cond.code yX6_product cX6_product 5 (some .int), Cond.methodLink RX6 156 yX6_rankOf, Cond.instanceMethod yX6_rankOf, Cond.selects RX6 yX6_rankOf yX6_rankOf, Cond.code yX6_rankOf cX6_rankOf 2 (some .int), Cond.fieldLink RX6 143 "MixingRelaysModel" "rank" "I", Cond.methodLink RX6 153 yX6_study, Cond.instanceMethod yX6_study, Cond.selects RX6 yX6_study yX6_study, Cond.code yX6_study cX6_study 4 none, Cond.fieldLink RX6 73 "MixingRelaysModel" "row" "[I", Cond.fieldLink RX6 70 "MixingRelaysModel" "fresh" "[I", Cond.methodLink RX6 149 yX6_steps]
def wsX6_safe_r4 : List Cond := [Cond.instanceMethod yX6_steps, Cond.selects RX6 yX6_steps yX6_steps, Cond.code yX6_steps cX6_steps 6 (some .boolean), Cond.fieldLink RX6 64 "MixingRelaysModel" "rows" "[I", Cond.fieldLink RX6 67 "MixingRelaysModel" "lead" "[I", Cond.methodLink RX6 146 yX6_reduce, Cond.instanceMethod yX6_reduce, Cond.selects RX6 yX6_reduce yX6_reduce, Cond.code yX6_reduce cX6_reduce 4 none, Cond.methodLink RX6 101 yX6_inverseOf, Cond.static yX6_inverseOf, Cond.code yX6_inverseOf cX6_inverseOf 2 (some .int)]
def wsX6_safe : List Cond := .code yX6_safe cX6_safe 3 (some .int) :: ((wsX6_safe_r1 ++ (wsX6_safe_r2 ++ (wsX6_safe_r3 ++ wsX6_safe_r4))) ++ wsX60)
def wsX6_breaks_r1 : List Cond := [Cond.fieldLink RX6 13 "MixingRelaysModel" "h" "I", Cond.fieldLink RX6 193 "MixingRelaysModel" "breakA" "I", Cond.fieldLink RX6 196 "MixingRelaysModel" "breakB" "I", Cond.fieldLink RX6 203 "MixingRelaysModel" "breakEnd" "I", Cond.methodLink RX6 97 yX6_in, Cond.static yX6_in, Cond.initialized RX6, Cond.code yX6_in cX6_in 3 (some .boolean), Cond.methodLink RX6 209 yX6_hasBreak, Cond.instanceMethod yX6_hasBreak, Cond.selects RX6 yX6_hasBreak yX6_hasBreak, Cond.code yX6_hasBreak cX6_hasBreak 5 (some .boolean), Cond.fieldLink RX6 105 "MixingRelaysModel" "lines" "I", Cond.fieldLink RX6 34 "MixingRelaysModel" "broken" "[Z", Cond.methodLink RX6 206 yX6_breaksAt, Cond.instanceMethod yX6_breaksAt, Cond.selects RX6 yX6_breaksAt yX6_breaksAt, Cond.code yX6_breaksAt cX6_breaksAt 4 (some .boolean), Cond.methodLink RX6 199 yX6_lowEnd, Cond.instanceMethod yX6_lowEnd, Cond.selects RX6 yX6_lowEnd yX6_lowEnd, Cond.code yX6_lowEnd cX6_lowEnd 6 (some .int), Cond.fieldLink RX6 58 "MixingRelaysModel" "alsoA" "I", Cond.fieldLink RX6 61 "MixingRelaysModel" "alsoB" "I"]
def wsX6_breaks_r2 : List Cond := [Cond.fieldLink RX6 7 "MixingRelaysModel" "relays" "I", Cond.fieldLink RX6 20 "MixingRelaysModel" "isEnd" "[Z", Cond.methodLink RX6 140 yX6_work, Cond.instanceMethod yX6_work, Cond.selects RX6 yX6_work yX6_work, Cond.code yX6_work cX6_work 3 none, Cond.fieldLink RX6 24 "MixingRelaysModel" "from" "[I", Cond.methodLink RX6 130 yX6_workLine, Cond.instanceMethod yX6_workLine, Cond.selects RX6 yX6_workLine yX6_workLine, Cond.code yX6_workLine cX6_workLine 7 none, Cond.fieldLink RX6 55 "MixingRelaysModel" "carried" "[J", Cond.fieldLink RX6 52 "MixingRelaysModel" "vectors" "[I", Cond.fieldLink RX6 40 "MixingRelaysModel" "factors" "[I", Cond.fieldLink RX6 16 "MixingRelaysModel" "pieces" "[J", Cond.fieldLink RX6 37 "MixingRelaysModel" "bent" "[J", Cond.methodLink RX6 118 yX6_ins, Cond.instanceMethod yX6_ins, Cond.selects RX6 yX6_ins yX6_ins, Cond.code yX6_ins cX6_ins 2 (some .int), Cond.methodLink RX6 108 yX6_waysIn, Cond.instanceMethod yX6_waysIn, Cond.selects RX6 yX6_waysIn yX6_waysIn, Cond.code yX6_waysIn cX6_waysIn 4 (some .int)]
def wsX6_breaks_r3 : List Cond := [Cond.fieldLink RX6 28 "MixingRelaysModel" "to" "[I", Cond.methodLink RX6 134 yX6_lineIn, Cond.instanceMethod yX6_lineIn, Cond.selects RX6 yX6_lineIn yX6_lineIn, Cond.code yX6_lineIn cX6_lineIn 5 (some .int), Cond.methodLink RX6 137 yX6_product_, Cond.static yX6_product_, Cond.code yX6_product_ cX6_product_ 6 (some .long), Cond.constantLong RX6 95 (255), Cond.methodLink RX6 91 yX6_product, Cond.static yX6_product, Cond.code yX6_product cX6_product 5 (some .int), Cond.methodLink RX6 156 yX6_rankOf, Cond.instanceMethod yX6_rankOf, Cond.selects RX6 yX6_rankOf yX6_rankOf, Cond.code yX6_rankOf cX6_rankOf 2 (some .int), Cond.fieldLink RX6 143 "MixingRelaysModel" "rank" "I", Cond.methodLink RX6 153 yX6_study, Cond.instanceMethod yX6_study, Cond.selects RX6 yX6_study yX6_study, Cond.code yX6_study cX6_study 4 none, Cond.fieldLink RX6 73 "MixingRelaysModel" "row" "[I", Cond.fieldLink RX6 70 "MixingRelaysModel" "fresh" "[I", Cond.methodLink RX6 149 yX6_steps]
def wsX6_breaks_r4 : List Cond := [Cond.instanceMethod yX6_steps, Cond.selects RX6 yX6_steps yX6_steps, Cond.code yX6_steps cX6_steps 6 (some .boolean), Cond.fieldLink RX6 64 "MixingRelaysModel" "rows" "[I", Cond.fieldLink RX6 67 "MixingRelaysModel" "lead" "[I", Cond.methodLink RX6 146 yX6_reduce, Cond.instanceMethod yX6_reduce, Cond.selects RX6 yX6_reduce yX6_reduce, Cond.code yX6_reduce cX6_reduce 4 none, Cond.methodLink RX6 101 yX6_inverseOf, Cond.static yX6_inverseOf, Cond.code yX6_inverseOf cX6_inverseOf 2 (some .int)]
def wsX6_breaks : List Cond := .code yX6_breaks cX6_breaks 4 (some .int) :: ((wsX6_breaks_r1 ++ (wsX6_breaks_r2 ++ (wsX6_breaks_r3 ++ wsX6_breaks_r4))) ++ wsX60)
def wsX6_count_r1 : List Cond := [Cond.fieldLink RX6 7 "MixingRelaysModel" "relays" "I", Cond.fieldLink RX6 105 "MixingRelaysModel" "lines" "I", Cond.fieldLink RX6 13 "MixingRelaysModel" "h" "I", Cond.fieldLink RX6 34 "MixingRelaysModel" "broken" "[Z", Cond.methodLink RX6 177 yX6_ends, Cond.instanceMethod yX6_ends, Cond.selects RX6 yX6_ends yX6_ends, Cond.initialized RX6, Cond.code yX6_ends cX6_ends 3 (some .int), Cond.fieldLink RX6 20 "MixingRelaysModel" "isEnd" "[Z", Cond.methodLink RX6 121 yX6_isPassing, Cond.instanceMethod yX6_isPassing, Cond.selects RX6 yX6_isPassing yX6_isPassing, Cond.code yX6_isPassing cX6_isPassing 4 (some .boolean), Cond.fieldLink RX6 40 "MixingRelaysModel" "factors" "[I", Cond.fieldLink RX6 24 "MixingRelaysModel" "from" "[I", Cond.methodLink RX6 118 yX6_ins, Cond.instanceMethod yX6_ins, Cond.selects RX6 yX6_ins yX6_ins, Cond.code yX6_ins cX6_ins 2 (some .int), Cond.methodLink RX6 108 yX6_waysIn, Cond.instanceMethod yX6_waysIn, Cond.selects RX6 yX6_waysIn yX6_waysIn, Cond.code yX6_waysIn cX6_waysIn 4 (some .int)]
def wsX6_count_r2 : List Cond := [Cond.fieldLink RX6 28 "MixingRelaysModel" "to" "[I"]
def wsX6_count : List Cond := .code yX6_count cX6_count 4 (some .int) :: ((wsX6_count_r1 ++ wsX6_count_r2) ++ wsX60)
def wsJ9_min_7cf53 : List Cond := .code yJ9_min_7cf53 cJ9_min_7cf53 2 (some .int) :: ([])
theorem dX0_init_0 : decode cX0_init 0 = .ok (.aload_n 0, 1) := by decide +kernel
theorem dX0_init_1 : decode cX0_init 1 = .ok (.invokespecial 3, 3) := by decide +kernel
theorem dX0_init_4 : decode cX0_init 4 = .ok (.aload_n 0, 1) := by decide +kernel
theorem dX0_init_5 : decode cX0_init 5 = .ok (.iconst (-1), 1) := by decide +kernel
theorem dX0_init_6 : decode cX0_init 6 = .ok (.putfield 9, 3) := by decide +kernel
theorem dX0_init_9 : decode cX0_init 9 = .ok (.aload_n 0, 1) := by decide +kernel
theorem dX0_init_10 : decode cX0_init 10 = .ok (.iconst (-1), 1) := by decide +kernel
theorem dX0_init_11 : decode cX0_init 11 = .ok (.putfield 15, 3) := by decide +kernel
theorem dX0_init_14 : decode cX0_init 14 = .ok (.aload_n 0, 1) := by decide +kernel
theorem dX0_init_15 : decode cX0_init 15 = .ok (.iconst (-1), 1) := by decide +kernel
theorem dX0_init_16 : decode cX0_init 16 = .ok (.putfield 18, 3) := by decide +kernel
theorem dX0_init_19 : decode cX0_init 19 = .ok (.aload_n 0, 1) := by decide +kernel
theorem dX0_init_20 : decode cX0_init 20 = .ok (.aload_n 1, 1) := by decide +kernel
theorem dX0_init_21 : decode cX0_init 21 = .ok (.putfield 21, 3) := by decide +kernel
theorem dX0_init_24 : decode cX0_init 24 = .ok (.aload_n 0, 1) := by decide +kernel
theorem dX0_init_25 : decode cX0_init 25 = .ok (.aload_n 2, 1) := by decide +kernel
theorem dX0_init_26 : decode cX0_init 26 = .ok (.putfield 25, 3) := by decide +kernel
theorem dX0_init_29 : decode cX0_init 29 = .ok (.return_, 1) := by decide +kernel
set_option maxRecDepth 20000 in
theorem ggX0_search_X0_weakens : GoodIn wsX0_search wsX0_weakens := goodIn_r _ [7, 8, 9, 10, 11, 12, 13, 14, 15, 16, 17, 18, 19, 20, 21, 22, 23, 24, 25, 26, 27, 28, 29, 30, 31, 32, 33, 34, 35, 36, 37, 38, 39, 40, 41, 42, 43, 44, 45, 46, 47, 48, 49, 50, 51, 52, 53, 54, 55, 56, 57, 58, 59, 60, 61, 62, 63, 64, 65, 66, 67, 68, 69, 70, 71, 72, 73, 74, 75, 76, 86, 87, 88, 89, 90, 91, 92, 93, 94, 95, 96, 97, 98, 99, 100, 101, 102, 103, 104, 105, 106, 107, 108, 109, 110] (by decide +kernel) (by decide +kernel)
set_option maxRecDepth 20000 in
theorem gX0_search_X0_weakens : GoodIn wsX0_search (wsV RX0 29 RX0 yX0_weakens wsX0_weakens) := goodIn_app (goodIn_of _ (by decide +kernel)) ggX0_search_X0_weakens
set_option maxRecDepth 20000 in
theorem ggX0_search_X0_searchOne : GoodIn wsX0_search wsX0_searchOne := goodIn_r _ [80, 8, 81, 9, 1, 22, 23, 24, 3, 4, 5, 6, 7, 10, 11, 12, 13, 14, 15, 16, 17, 18, 19, 20, 21, 25, 26, 27, 28, 29, 30, 31, 32, 33, 34, 35, 36, 37, 38, 39, 40, 41, 42, 43, 44, 45, 46, 47, 48, 49, 50, 51, 52, 53, 54, 55, 56, 57, 58, 59, 60, 61, 62, 63, 64, 65, 66, 67, 68, 69, 70, 71, 72, 73, 74, 75, 76, 86, 87, 88, 89, 90, 91, 92, 93, 94, 95, 96, 97, 98, 99, 100, 101, 102, 103, 104, 105, 106, 107, 108, 109, 110] (by decide +kernel) (by decide +kernel)
set_option maxRecDepth 20000 in
theorem gX0_search_X0_searchOne : GoodIn wsX0_search (wsV RX0 33 RX0 yX0_searchOne wsX0_searchOne) := goodIn_app (goodIn_of _ (by decide +kernel)) ggX0_search_X0_searchOne
set_option maxRecDepth 20000 in
theorem ggX0_search_X0_searchTwo : GoodIn wsX0_search wsX0_searchTwo := goodIn_r _ [85, 8, 81, 9, 1, 2, 3, 4, 5, 6, 7, 10, 11, 12, 13, 14, 15, 16, 17, 18, 19, 20, 21, 22, 23, 24, 25, 26, 27, 28, 29, 30, 31, 32, 33, 34, 35, 36, 37, 38, 39, 40, 41, 42, 43, 44, 45, 46, 47, 48, 49, 50, 51, 52, 53, 54, 55, 56, 57, 58, 59, 60, 61, 62, 63, 64, 65, 66, 67, 68, 69, 70, 71, 72, 73, 74, 75, 76, 86, 87, 88, 89, 90, 91, 92, 93, 94, 95, 96, 97, 98, 99, 100, 101, 102, 103, 104, 105, 106, 107, 108, 109, 110] (by decide +kernel) (by decide +kernel)
set_option maxRecDepth 20000 in
theorem gX0_search_X0_searchTwo : GoodIn wsX0_search (wsV RX0 37 RX0 yX0_searchTwo wsX0_searchTwo) := goodIn_app (goodIn_of _ (by decide +kernel)) ggX0_search_X0_searchTwo
theorem dX0_search_0 : decode cX0_search 0 = .ok (.aload_n 0, 1) := by decide +kernel
theorem dX0_search_1 : decode cX0_search 1 = .ok (.iconst (-1), 1) := by decide +kernel
theorem dX0_search_2 : decode cX0_search 2 = .ok (.putfield 9, 3) := by decide +kernel
theorem dX0_search_5 : decode cX0_search 5 = .ok (.aload_n 0, 1) := by decide +kernel
theorem dX0_search_6 : decode cX0_search 6 = .ok (.iconst (-1), 1) := by decide +kernel
theorem dX0_search_7 : decode cX0_search 7 = .ok (.putfield 15, 3) := by decide +kernel
theorem dX0_search_10 : decode cX0_search 10 = .ok (.aload_n 0, 1) := by decide +kernel
theorem dX0_search_11 : decode cX0_search 11 = .ok (.iconst 0, 1) := by decide +kernel
theorem dX0_search_12 : decode cX0_search 12 = .ok (.iload_n 2, 1) := by decide +kernel
theorem dX0_search_13 : decode cX0_search 13 = .ok (.invokevirtual 29, 3) := by decide +kernel
theorem dX0_search_16 : decode cX0_search 16 = .ok (.ifCond .ne 29, 3) := by decide +kernel
theorem dX0_search_19 : decode cX0_search 19 = .ok (.iload_n 1, 1) := by decide +kernel
theorem dX0_search_20 : decode cX0_search 20 = .ok (.iconst 1, 1) := by decide +kernel
theorem dX0_search_21 : decode cX0_search 21 = .ok (.if_icmp .lt 11, 3) := by decide +kernel
theorem dX0_search_24 : decode cX0_search 24 = .ok (.aload_n 0, 1) := by decide +kernel
theorem dX0_search_25 : decode cX0_search 25 = .ok (.iload_n 2, 1) := by decide +kernel
theorem dX0_search_26 : decode cX0_search 26 = .ok (.invokevirtual 33, 3) := by decide +kernel
theorem dX0_search_29 : decode cX0_search 29 = .ok (.ifCond .ne 16, 3) := by decide +kernel
theorem dX0_search_32 : decode cX0_search 32 = .ok (.iload_n 1, 1) := by decide +kernel
theorem dX0_search_33 : decode cX0_search 33 = .ok (.iconst 2, 1) := by decide +kernel
theorem dX0_search_34 : decode cX0_search 34 = .ok (.if_icmp .lt 15, 3) := by decide +kernel
theorem dX0_search_37 : decode cX0_search 37 = .ok (.aload_n 0, 1) := by decide +kernel
theorem dX0_search_38 : decode cX0_search 38 = .ok (.iload_n 2, 1) := by decide +kernel
theorem dX0_search_39 : decode cX0_search 39 = .ok (.invokevirtual 37, 3) := by decide +kernel
theorem dX0_search_42 : decode cX0_search 42 = .ok (.ifCond .eq 7, 3) := by decide +kernel
theorem dX0_search_45 : decode cX0_search 45 = .ok (.iconst 1, 1) := by decide +kernel
theorem dX0_search_46 : decode cX0_search 46 = .ok (.goto 4, 3) := by decide +kernel
theorem dX0_search_49 : decode cX0_search 49 = .ok (.iconst 0, 1) := by decide +kernel
theorem dX0_search_50 : decode cX0_search 50 = .ok (.ireturn, 1) := by decide +kernel
set_option maxRecDepth 20000 in
theorem ggX0_searchOne_X5_flag : GoodIn wsX0_searchOne wsX5_flag := goodIn_r _ [7] (by decide +kernel) (by decide +kernel)
set_option maxRecDepth 20000 in
theorem gX0_searchOne_X5_flag_n48 : GoodIn wsX0_searchOne (wsX5_flag) := ggX0_searchOne_X5_flag
set_option maxRecDepth 20000 in
theorem ggX0_searchOne_X0_weakens : GoodIn wsX0_searchOne wsX0_weakens := goodIn_r _ [12, 1, 3, 13, 14, 15, 16, 17, 18, 19, 20, 21, 22, 23, 24, 5, 6, 7, 25, 26, 27, 28, 29, 30, 31, 32, 33, 34, 35, 36, 37, 38, 39, 40, 41, 42, 43, 44, 45, 46, 47, 48, 49, 50, 51, 52, 53, 54, 55, 56, 57, 58, 59, 60, 61, 62, 63, 64, 65, 66, 67, 68, 69, 70, 71, 72, 73, 74, 75, 76, 77, 78, 79, 80, 81, 82, 83, 84, 85, 86, 87, 88, 89, 90, 91, 92, 93, 94, 95, 96, 97, 98, 99, 100, 101] (by decide +kernel) (by decide +kernel)
set_option maxRecDepth 20000 in
theorem gX0_searchOne_X0_weakens : GoodIn wsX0_searchOne (wsV RX0 29 RX0 yX0_weakens wsX0_weakens) := goodIn_app (goodIn_of _ (by decide +kernel)) ggX0_searchOne_X0_weakens
theorem dX0_searchOne_0 : decode cX0_searchOne 0 = .ok (.iconst 0, 1) := by decide +kernel
theorem dX0_searchOne_1 : decode cX0_searchOne 1 = .ok (.istore_n 2, 1) := by decide +kernel
theorem dX0_searchOne_2 : decode cX0_searchOne 2 = .ok (.iload_n 2, 1) := by decide +kernel
theorem dX0_searchOne_3 : decode cX0_searchOne 3 = .ok (.aload_n 0, 1) := by decide +kernel
theorem dX0_searchOne_4 : decode cX0_searchOne 4 = .ok (.getfield 21, 3) := by decide +kernel
theorem dX0_searchOne_7 : decode cX0_searchOne 7 = .ok (.getfield 40, 3) := by decide +kernel
theorem dX0_searchOne_10 : decode cX0_searchOne 10 = .ok (.if_icmp .ge 41, 3) := by decide +kernel
theorem dX0_searchOne_13 : decode cX0_searchOne 13 = .ok (.aload_n 0, 1) := by decide +kernel
theorem dX0_searchOne_14 : decode cX0_searchOne 14 = .ok (.getfield 21, 3) := by decide +kernel
theorem dX0_searchOne_17 : decode cX0_searchOne 17 = .ok (.getfield 45, 3) := by decide +kernel
theorem dX0_searchOne_20 : decode cX0_searchOne 20 = .ok (.iload_n 2, 1) := by decide +kernel
theorem dX0_searchOne_21 : decode cX0_searchOne 21 = .ok (.invokestatic 48, 3) := by decide +kernel
theorem dX0_searchOne_24 : decode cX0_searchOne 24 = .ok (.ifCond .ne 21, 3) := by decide +kernel
theorem dX0_searchOne_27 : decode cX0_searchOne 27 = .ok (.aload_n 0, 1) := by decide +kernel
theorem dX0_searchOne_28 : decode cX0_searchOne 28 = .ok (.iconst 1, 1) := by decide +kernel
theorem dX0_searchOne_29 : decode cX0_searchOne 29 = .ok (.iload_n 2, 1) := by decide +kernel
theorem dX0_searchOne_30 : decode cX0_searchOne 30 = .ok (.ishl, 1) := by decide +kernel
theorem dX0_searchOne_31 : decode cX0_searchOne 31 = .ok (.iload_n 1, 1) := by decide +kernel
theorem dX0_searchOne_32 : decode cX0_searchOne 32 = .ok (.invokevirtual 29, 3) := by decide +kernel
theorem dX0_searchOne_35 : decode cX0_searchOne 35 = .ok (.ifCond .eq 10, 3) := by decide +kernel
theorem dX0_searchOne_38 : decode cX0_searchOne 38 = .ok (.aload_n 0, 1) := by decide +kernel
theorem dX0_searchOne_39 : decode cX0_searchOne 39 = .ok (.iload_n 2, 1) := by decide +kernel
theorem dX0_searchOne_40 : decode cX0_searchOne 40 = .ok (.putfield 9, 3) := by decide +kernel
theorem dX0_searchOne_43 : decode cX0_searchOne 43 = .ok (.iconst 1, 1) := by decide +kernel
theorem dX0_searchOne_44 : decode cX0_searchOne 44 = .ok (.ireturn, 1) := by decide +kernel
theorem dX0_searchOne_45 : decode cX0_searchOne 45 = .ok (.iinc 2 1, 3) := by decide +kernel
theorem dX0_searchOne_48 : decode cX0_searchOne 48 = .ok (.goto (-46), 3) := by decide +kernel
theorem dX0_searchOne_51 : decode cX0_searchOne 51 = .ok (.iconst 0, 1) := by decide +kernel
theorem dX0_searchOne_52 : decode cX0_searchOne 52 = .ok (.ireturn, 1) := by decide +kernel
set_option maxRecDepth 20000 in
theorem ggX0_searchTwo_X0_weakens : GoodIn wsX0_searchTwo wsX0_weakens := goodIn_r _ [10, 1, 3, 11, 12, 13, 14, 15, 16, 17, 18, 19, 20, 21, 22, 23, 24, 25, 26, 27, 28, 29, 30, 31, 32, 33, 34, 35, 36, 37, 38, 39, 40, 41, 42, 43, 44, 45, 46, 47, 48, 49, 50, 51, 52, 53, 54, 55, 56, 57, 58, 59, 60, 61, 62, 63, 64, 65, 66, 67, 68, 69, 70, 71, 72, 73, 74, 75, 76, 77, 78, 79, 80, 81, 82, 83, 84, 85, 86, 87, 88, 89, 90, 91, 92, 93, 94, 95, 96, 97, 98, 99, 100, 101, 102] (by decide +kernel) (by decide +kernel)
set_option maxRecDepth 20000 in
theorem gX0_searchTwo_X0_weakens : GoodIn wsX0_searchTwo (wsV RX0 29 RX0 yX0_weakens wsX0_weakens) := goodIn_app (goodIn_of _ (by decide +kernel)) ggX0_searchTwo_X0_weakens
theorem dX0_searchTwo_0 : decode cX0_searchTwo 0 = .ok (.iconst 0, 1) := by decide +kernel
theorem dX0_searchTwo_1 : decode cX0_searchTwo 1 = .ok (.istore_n 2, 1) := by decide +kernel
theorem dX0_searchTwo_2 : decode cX0_searchTwo 2 = .ok (.iload_n 2, 1) := by decide +kernel
theorem dX0_searchTwo_3 : decode cX0_searchTwo 3 = .ok (.aload_n 0, 1) := by decide +kernel
theorem dX0_searchTwo_4 : decode cX0_searchTwo 4 = .ok (.getfield 21, 3) := by decide +kernel
theorem dX0_searchTwo_7 : decode cX0_searchTwo 7 = .ok (.getfield 40, 3) := by decide +kernel
theorem dX0_searchTwo_10 : decode cX0_searchTwo 10 = .ok (.if_icmp .ge 74, 3) := by decide +kernel
theorem dX0_searchTwo_13 : decode cX0_searchTwo 13 = .ok (.iload_n 2, 1) := by decide +kernel
theorem dX0_searchTwo_14 : decode cX0_searchTwo 14 = .ok (.iconst 1, 1) := by decide +kernel
theorem dX0_searchTwo_15 : decode cX0_searchTwo 15 = .ok (.iadd, 1) := by decide +kernel
theorem dX0_searchTwo_16 : decode cX0_searchTwo 16 = .ok (.istore_n 3, 1) := by decide +kernel
theorem dX0_searchTwo_17 : decode cX0_searchTwo 17 = .ok (.iload_n 3, 1) := by decide +kernel
theorem dX0_searchTwo_18 : decode cX0_searchTwo 18 = .ok (.aload_n 0, 1) := by decide +kernel
theorem dX0_searchTwo_19 : decode cX0_searchTwo 19 = .ok (.getfield 21, 3) := by decide +kernel
theorem dX0_searchTwo_22 : decode cX0_searchTwo 22 = .ok (.getfield 40, 3) := by decide +kernel
theorem dX0_searchTwo_25 : decode cX0_searchTwo 25 = .ok (.if_icmp .ge 53, 3) := by decide +kernel
theorem dX0_searchTwo_28 : decode cX0_searchTwo 28 = .ok (.iconst 1, 1) := by decide +kernel
theorem dX0_searchTwo_29 : decode cX0_searchTwo 29 = .ok (.iload_n 2, 1) := by decide +kernel
theorem dX0_searchTwo_30 : decode cX0_searchTwo 30 = .ok (.ishl, 1) := by decide +kernel
theorem dX0_searchTwo_31 : decode cX0_searchTwo 31 = .ok (.iconst 1, 1) := by decide +kernel
theorem dX0_searchTwo_32 : decode cX0_searchTwo 32 = .ok (.iload_n 3, 1) := by decide +kernel
theorem dX0_searchTwo_33 : decode cX0_searchTwo 33 = .ok (.ishl, 1) := by decide +kernel
theorem dX0_searchTwo_34 : decode cX0_searchTwo 34 = .ok (.ior, 1) := by decide +kernel
theorem dX0_searchTwo_35 : decode cX0_searchTwo 35 = .ok (.istore 4, 2) := by decide +kernel
theorem dX0_searchTwo_37 : decode cX0_searchTwo 37 = .ok (.aload_n 0, 1) := by decide +kernel
theorem dX0_searchTwo_38 : decode cX0_searchTwo 38 = .ok (.getfield 21, 3) := by decide +kernel
theorem dX0_searchTwo_41 : decode cX0_searchTwo 41 = .ok (.getfield 45, 3) := by decide +kernel
theorem dX0_searchTwo_44 : decode cX0_searchTwo 44 = .ok (.iload 4, 2) := by decide +kernel
theorem dX0_searchTwo_46 : decode cX0_searchTwo 46 = .ok (.iand, 1) := by decide +kernel
theorem dX0_searchTwo_47 : decode cX0_searchTwo 47 = .ok (.ifCond .ne 25, 3) := by decide +kernel
theorem dX0_searchTwo_50 : decode cX0_searchTwo 50 = .ok (.aload_n 0, 1) := by decide +kernel
theorem dX0_searchTwo_51 : decode cX0_searchTwo 51 = .ok (.iload 4, 2) := by decide +kernel
theorem dX0_searchTwo_53 : decode cX0_searchTwo 53 = .ok (.iload_n 1, 1) := by decide +kernel
theorem dX0_searchTwo_54 : decode cX0_searchTwo 54 = .ok (.invokevirtual 29, 3) := by decide +kernel
theorem dX0_searchTwo_57 : decode cX0_searchTwo 57 = .ok (.ifCond .eq 15, 3) := by decide +kernel
theorem dX0_searchTwo_60 : decode cX0_searchTwo 60 = .ok (.aload_n 0, 1) := by decide +kernel
theorem dX0_searchTwo_61 : decode cX0_searchTwo 61 = .ok (.iload_n 2, 1) := by decide +kernel
theorem dX0_searchTwo_62 : decode cX0_searchTwo 62 = .ok (.putfield 9, 3) := by decide +kernel
theorem dX0_searchTwo_65 : decode cX0_searchTwo 65 = .ok (.aload_n 0, 1) := by decide +kernel
theorem dX0_searchTwo_66 : decode cX0_searchTwo 66 = .ok (.iload_n 3, 1) := by decide +kernel
theorem dX0_searchTwo_67 : decode cX0_searchTwo 67 = .ok (.putfield 15, 3) := by decide +kernel
theorem dX0_searchTwo_70 : decode cX0_searchTwo 70 = .ok (.iconst 1, 1) := by decide +kernel
theorem dX0_searchTwo_71 : decode cX0_searchTwo 71 = .ok (.ireturn, 1) := by decide +kernel
theorem dX0_searchTwo_72 : decode cX0_searchTwo 72 = .ok (.iinc 3 1, 3) := by decide +kernel
theorem dX0_searchTwo_75 : decode cX0_searchTwo 75 = .ok (.goto (-58), 3) := by decide +kernel
theorem dX0_searchTwo_78 : decode cX0_searchTwo 78 = .ok (.iinc 2 1, 3) := by decide +kernel
theorem dX0_searchTwo_81 : decode cX0_searchTwo 81 = .ok (.goto (-79), 3) := by decide +kernel
theorem dX0_searchTwo_84 : decode cX0_searchTwo 84 = .ok (.iconst 0, 1) := by decide +kernel
theorem dX0_searchTwo_85 : decode cX0_searchTwo 85 = .ok (.ireturn, 1) := by decide +kernel
set_option maxRecDepth 20000 in
theorem ggX0_weakens_X2_spreadVectors : GoodIn wsX0_weakens wsX2_spreadVectors := goodIn_r _ [11, 12, 13, 14, 15, 16, 17, 18, 19, 20, 10, 21, 22, 23, 24, 25, 26, 27, 28, 29, 30, 31, 32, 33, 34, 35, 36, 37, 75, 76, 77, 78, 79, 80, 81, 82, 83, 84, 85, 86, 87, 88, 89, 90] (by decide +kernel) (by decide +kernel)
set_option maxRecDepth 20000 in
theorem gX0_weakens_X2_spreadVectors : GoodIn wsX0_weakens (wsV RX0 52 RX2 yX2_spreadVectors wsX2_spreadVectors) := goodIn_app (goodIn_of _ (by decide +kernel)) ggX0_weakens_X2_spreadVectors
set_option maxRecDepth 20000 in
theorem ggX0_weakens_X5_flag : GoodIn wsX0_weakens wsX5_flag := goodIn_r _ [17] (by decide +kernel) (by decide +kernel)
set_option maxRecDepth 20000 in
theorem gX0_weakens_X5_flag_n48 : GoodIn wsX0_weakens (wsX5_flag) := ggX0_weakens_X5_flag
set_option maxRecDepth 20000 in
theorem ggX0_weakens_X3_gather : GoodIn wsX0_weakens wsX3_gather := goodIn_r _ [42, 43, 44, 45, 46, 47, 48, 49, 50, 51, 52, 31, 16, 32, 53, 54, 55, 41, 56, 57, 58, 59, 60, 33, 34, 35, 36, 37, 61, 62, 63, 64, 65, 66, 67, 68, 69, 91, 92, 93, 94, 75, 76, 77, 78, 79, 80, 81, 82, 83, 84, 85, 86, 87, 88, 89, 90] (by decide +kernel) (by decide +kernel)
set_option maxRecDepth 20000 in
theorem gX0_weakens_X3_gather : GoodIn wsX0_weakens (wsV RX0 62 RX3 yX3_gather wsX3_gather) := goodIn_app (goodIn_of _ (by decide +kernel)) ggX0_weakens_X3_gather
theorem dX0_weakens_0 : decode cX0_weakens 0 = .ok (.aload_n 0, 1) := by decide +kernel
theorem dX0_weakens_1 : decode cX0_weakens 1 = .ok (.getfield 21, 3) := by decide +kernel
theorem dX0_weakens_4 : decode cX0_weakens 4 = .ok (.aload_n 0, 1) := by decide +kernel
theorem dX0_weakens_5 : decode cX0_weakens 5 = .ok (.getfield 21, 3) := by decide +kernel
theorem dX0_weakens_8 : decode cX0_weakens 8 = .ok (.getfield 45, 3) := by decide +kernel
theorem dX0_weakens_11 : decode cX0_weakens 11 = .ok (.iload_n 1, 1) := by decide +kernel
theorem dX0_weakens_12 : decode cX0_weakens 12 = .ok (.ior, 1) := by decide +kernel
theorem dX0_weakens_13 : decode cX0_weakens 13 = .ok (.invokevirtual 52, 3) := by decide +kernel
theorem dX0_weakens_16 : decode cX0_weakens 16 = .ok (.iconst 1, 1) := by decide +kernel
theorem dX0_weakens_17 : decode cX0_weakens 17 = .ok (.istore_n 3, 1) := by decide +kernel
theorem dX0_weakens_18 : decode cX0_weakens 18 = .ok (.iload_n 3, 1) := by decide +kernel
theorem dX0_weakens_19 : decode cX0_weakens 19 = .ok (.aload_n 0, 1) := by decide +kernel
theorem dX0_weakens_20 : decode cX0_weakens 20 = .ok (.getfield 21, 3) := by decide +kernel
theorem dX0_weakens_23 : decode cX0_weakens 23 = .ok (.getfield 56, 3) := by decide +kernel
theorem dX0_weakens_26 : decode cX0_weakens 26 = .ok (.if_icmp .ge 43, 3) := by decide +kernel
theorem dX0_weakens_29 : decode cX0_weakens 29 = .ok (.aload_n 0, 1) := by decide +kernel
theorem dX0_weakens_30 : decode cX0_weakens 30 = .ok (.getfield 21, 3) := by decide +kernel
theorem dX0_weakens_33 : decode cX0_weakens 33 = .ok (.getfield 59, 3) := by decide +kernel
theorem dX0_weakens_36 : decode cX0_weakens 36 = .ok (.iload_n 3, 1) := by decide +kernel
theorem dX0_weakens_37 : decode cX0_weakens 37 = .ok (.invokestatic 48, 3) := by decide +kernel
theorem dX0_weakens_40 : decode cX0_weakens 40 = .ok (.iconst 1, 1) := by decide +kernel
theorem dX0_weakens_41 : decode cX0_weakens 41 = .ok (.if_icmp .ne 22, 3) := by decide +kernel
theorem dX0_weakens_44 : decode cX0_weakens 44 = .ok (.aload_n 0, 1) := by decide +kernel
theorem dX0_weakens_45 : decode cX0_weakens 45 = .ok (.getfield 25, 3) := by decide +kernel
theorem dX0_weakens_48 : decode cX0_weakens 48 = .ok (.iload_n 3, 1) := by decide +kernel
theorem dX0_weakens_49 : decode cX0_weakens 49 = .ok (.invokevirtual 62, 3) := by decide +kernel
theorem dX0_weakens_52 : decode cX0_weakens 52 = .ok (.iload_n 2, 1) := by decide +kernel
theorem dX0_weakens_53 : decode cX0_weakens 53 = .ok (.if_icmp .ge 10, 3) := by decide +kernel
theorem dX0_weakens_56 : decode cX0_weakens 56 = .ok (.aload_n 0, 1) := by decide +kernel
theorem dX0_weakens_57 : decode cX0_weakens 57 = .ok (.iload_n 3, 1) := by decide +kernel
theorem dX0_weakens_58 : decode cX0_weakens 58 = .ok (.putfield 18, 3) := by decide +kernel
theorem dX0_weakens_61 : decode cX0_weakens 61 = .ok (.iconst 1, 1) := by decide +kernel
theorem dX0_weakens_62 : decode cX0_weakens 62 = .ok (.ireturn, 1) := by decide +kernel
theorem dX0_weakens_63 : decode cX0_weakens 63 = .ok (.iinc 3 1, 3) := by decide +kernel
theorem dX0_weakens_66 : decode cX0_weakens 66 = .ok (.goto (-48), 3) := by decide +kernel
theorem dX0_weakens_69 : decode cX0_weakens 69 = .ok (.iconst 0, 1) := by decide +kernel
theorem dX0_weakens_70 : decode cX0_weakens 70 = .ok (.ireturn, 1) := by decide +kernel
theorem dX1_init_0 : decode cX1_init 0 = .ok (.aload_n 0, 1) := by decide +kernel
theorem dX1_init_1 : decode cX1_init 1 = .ok (.invokespecial 3, 3) := by decide +kernel
theorem dX1_init_4 : decode cX1_init 4 = .ok (.aload_n 0, 1) := by decide +kernel
theorem dX1_init_5 : decode cX1_init 5 = .ok (.sipush 900, 3) := by decide +kernel
theorem dX1_init_8 : decode cX1_init 8 = .ok (.newarray .int, 2) := by decide +kernel
theorem dX1_init_10 : decode cX1_init 10 = .ok (.putfield 9, 3) := by decide +kernel
theorem dX1_init_13 : decode cX1_init 13 = .ok (.aload_n 0, 1) := by decide +kernel
theorem dX1_init_14 : decode cX1_init 14 = .ok (.bipush 12, 2) := by decide +kernel
theorem dX1_init_16 : decode cX1_init 16 = .ok (.newarray .int, 2) := by decide +kernel
theorem dX1_init_18 : decode cX1_init 18 = .ok (.putfield 15, 3) := by decide +kernel
theorem dX1_init_21 : decode cX1_init 21 = .ok (.aload_n 0, 1) := by decide +kernel
theorem dX1_init_22 : decode cX1_init 22 = .ok (.aload_n 1, 1) := by decide +kernel
theorem dX1_init_23 : decode cX1_init 23 = .ok (.putfield 18, 3) := by decide +kernel
theorem dX1_init_26 : decode cX1_init 26 = .ok (.aload_n 0, 1) := by decide +kernel
theorem dX1_init_27 : decode cX1_init 27 = .ok (.aload_n 2, 1) := by decide +kernel
theorem dX1_init_28 : decode cX1_init 28 = .ok (.putfield 22, 3) := by decide +kernel
theorem dX1_init_31 : decode cX1_init 31 = .ok (.return_, 1) := by decide +kernel
set_option maxRecDepth 20000 in
theorem ggX1_drawWith_X5_flag : GoodIn wsX1_drawWith wsX5_flag := goodIn_r _ [8] (by decide +kernel) (by decide +kernel)
set_option maxRecDepth 20000 in
theorem gX1_drawWith_X5_flag_n35 : GoodIn wsX1_drawWith (wsX5_flag) := ggX1_drawWith_X5_flag
set_option maxRecDepth 20000 in
theorem ggX1_drawWith_X2_insOf : GoodIn wsX1_drawWith wsX2_insOf := goodIn_r _ [13, 14, 15, 16, 23, 24, 25, 26, 27, 28, 29, 30, 31, 32, 33, 34, 35, 36, 37, 38] (by decide +kernel) (by decide +kernel)
set_option maxRecDepth 20000 in
theorem gX1_drawWith_X2_insOf : GoodIn wsX1_drawWith (wsV RX1 39 RX2 yX2_insOf wsX2_insOf) := goodIn_app (goodIn_of _ (by decide +kernel)) ggX1_drawWith_X2_insOf
set_option maxRecDepth 20000 in
theorem ggX1_drawWith_X5_slot : GoodIn wsX1_drawWith wsX5_slot := goodIn_r _ [18] (by decide +kernel) (by decide +kernel)
set_option maxRecDepth 20000 in
theorem gX1_drawWith_X5_slot_n47 : GoodIn wsX1_drawWith (wsX5_slot) := ggX1_drawWith_X5_slot
theorem dX1_drawWith_0 : decode cX1_drawWith 0 = .ok (.iload_n 1, 1) := by decide +kernel
theorem dX1_drawWith_1 : decode cX1_drawWith 1 = .ok (.istore_n 2, 1) := by decide +kernel
theorem dX1_drawWith_2 : decode cX1_drawWith 2 = .ok (.iconst 0, 1) := by decide +kernel
theorem dX1_drawWith_3 : decode cX1_drawWith 3 = .ok (.istore_n 3, 1) := by decide +kernel
theorem dX1_drawWith_4 : decode cX1_drawWith 4 = .ok (.iconst 0, 1) := by decide +kernel
theorem dX1_drawWith_5 : decode cX1_drawWith 5 = .ok (.istore 4, 2) := by decide +kernel
theorem dX1_drawWith_7 : decode cX1_drawWith 7 = .ok (.iload 4, 2) := by decide +kernel
theorem dX1_drawWith_9 : decode cX1_drawWith 9 = .ok (.aload_n 0, 1) := by decide +kernel
theorem dX1_drawWith_10 : decode cX1_drawWith 10 = .ok (.getfield 18, 3) := by decide +kernel
theorem dX1_drawWith_13 : decode cX1_drawWith 13 = .ok (.getfield 26, 3) := by decide +kernel
theorem dX1_drawWith_16 : decode cX1_drawWith 16 = .ok (.if_icmp .ge 91, 3) := by decide +kernel
theorem dX1_drawWith_19 : decode cX1_drawWith 19 = .ok (.aload_n 0, 1) := by decide +kernel
theorem dX1_drawWith_20 : decode cX1_drawWith 20 = .ok (.getfield 18, 3) := by decide +kernel
theorem dX1_drawWith_23 : decode cX1_drawWith 23 = .ok (.getfield 32, 3) := by decide +kernel
theorem dX1_drawWith_26 : decode cX1_drawWith 26 = .ok (.iload 4, 2) := by decide +kernel
theorem dX1_drawWith_28 : decode cX1_drawWith 28 = .ok (.invokestatic 35, 3) := by decide +kernel
theorem dX1_drawWith_31 : decode cX1_drawWith 31 = .ok (.iconst 1, 1) := by decide +kernel
theorem dX1_drawWith_32 : decode cX1_drawWith 32 = .ok (.if_icmp .ne 7, 3) := by decide +kernel
theorem dX1_drawWith_35 : decode cX1_drawWith 35 = .ok (.iconst 0, 1) := by decide +kernel
theorem dX1_drawWith_36 : decode cX1_drawWith 36 = .ok (.goto 12, 3) := by decide +kernel
theorem dX1_drawWith_39 : decode cX1_drawWith 39 = .ok (.aload_n 0, 1) := by decide +kernel
theorem dX1_drawWith_40 : decode cX1_drawWith 40 = .ok (.getfield 18, 3) := by decide +kernel
theorem dX1_drawWith_43 : decode cX1_drawWith 43 = .ok (.iload 4, 2) := by decide +kernel
theorem dX1_drawWith_45 : decode cX1_drawWith 45 = .ok (.invokevirtual 39, 3) := by decide +kernel
theorem dX1_drawWith_48 : decode cX1_drawWith 48 = .ok (.istore 5, 2) := by decide +kernel
theorem dX1_drawWith_50 : decode cX1_drawWith 50 = .ok (.iconst 0, 1) := by decide +kernel
theorem dX1_drawWith_51 : decode cX1_drawWith 51 = .ok (.istore 6, 2) := by decide +kernel
theorem dX1_drawWith_53 : decode cX1_drawWith 53 = .ok (.iload 6, 2) := by decide +kernel
theorem dX1_drawWith_55 : decode cX1_drawWith 55 = .ok (.iload 5, 2) := by decide +kernel
theorem dX1_drawWith_57 : decode cX1_drawWith 57 = .ok (.if_icmp .ge 44, 3) := by decide +kernel
theorem dX1_drawWith_60 : decode cX1_drawWith 60 = .ok (.ldc 43, 2) := by decide +kernel
theorem dX1_drawWith_62 : decode cX1_drawWith 62 = .ok (.iload_n 2, 1) := by decide +kernel
theorem dX1_drawWith_63 : decode cX1_drawWith 63 = .ok (.imul, 1) := by decide +kernel
theorem dX1_drawWith_64 : decode cX1_drawWith 64 = .ok (.sipush 12345, 3) := by decide +kernel
theorem dX1_drawWith_67 : decode cX1_drawWith 67 = .ok (.iadd, 1) := by decide +kernel
theorem dX1_drawWith_68 : decode cX1_drawWith 68 = .ok (.istore_n 2, 1) := by decide +kernel
theorem dX1_drawWith_69 : decode cX1_drawWith 69 = .ok (.aload_n 0, 1) := by decide +kernel
theorem dX1_drawWith_70 : decode cX1_drawWith 70 = .ok (.getfield 18, 3) := by decide +kernel
theorem dX1_drawWith_73 : decode cX1_drawWith 73 = .ok (.getfield 44, 3) := by decide +kernel
theorem dX1_drawWith_76 : decode cX1_drawWith 76 = .ok (.iload 4, 2) := by decide +kernel
theorem dX1_drawWith_78 : decode cX1_drawWith 78 = .ok (.iload 6, 2) := by decide +kernel
theorem dX1_drawWith_80 : decode cX1_drawWith 80 = .ok (.invokestatic 47, 3) := by decide +kernel
theorem dX1_drawWith_83 : decode cX1_drawWith 83 = .ok (.iload_n 2, 1) := by decide +kernel
theorem dX1_drawWith_84 : decode cX1_drawWith 84 = .ok (.bipush 16, 2) := by decide +kernel
theorem dX1_drawWith_86 : decode cX1_drawWith 86 = .ok (.iushr, 1) := by decide +kernel
theorem dX1_drawWith_87 : decode cX1_drawWith 87 = .ok (.sipush 255, 3) := by decide +kernel
theorem dX1_drawWith_90 : decode cX1_drawWith 90 = .ok (.iand, 1) := by decide +kernel
theorem dX1_drawWith_91 : decode cX1_drawWith 91 = .ok (.iastore, 1) := by decide +kernel
theorem dX1_drawWith_92 : decode cX1_drawWith 92 = .ok (.iinc 3 1, 3) := by decide +kernel
theorem dX1_drawWith_95 : decode cX1_drawWith 95 = .ok (.iinc 6 1, 3) := by decide +kernel
theorem dX1_drawWith_98 : decode cX1_drawWith 98 = .ok (.goto (-45), 3) := by decide +kernel
theorem dX1_drawWith_101 : decode cX1_drawWith 101 = .ok (.iinc 4 1, 3) := by decide +kernel
theorem dX1_drawWith_104 : decode cX1_drawWith 104 = .ok (.goto (-97), 3) := by decide +kernel
theorem dX1_drawWith_107 : decode cX1_drawWith 107 = .ok (.iload_n 3, 1) := by decide +kernel
theorem dX1_drawWith_108 : decode cX1_drawWith 108 = .ok (.ireturn, 1) := by decide +kernel
set_option maxRecDepth 20000 in
theorem ggX1_firstSeed_X1_drawWith : GoodIn wsX1_firstSeed wsX1_drawWith := goodIn_r _ [13, 1, 14, 15, 16, 2, 17, 18, 19, 20, 21, 22, 23, 24, 25, 26, 27, 28, 29, 88, 89, 90, 91, 92, 93, 94, 95, 96, 97, 98, 99, 100, 101, 102, 103, 104, 105, 106, 107] (by decide +kernel) (by decide +kernel)
set_option maxRecDepth 20000 in
theorem gX1_firstSeed_X1_drawWith : GoodIn wsX1_firstSeed (wsV RX1 56 RX1 yX1_drawWith wsX1_drawWith) := goodIn_app (goodIn_of _ (by decide +kernel)) ggX1_firstSeed_X1_drawWith
set_option maxRecDepth 20000 in
theorem ggX1_firstSeed_X3_unfinishedEnds : GoodIn wsX1_firstSeed wsX3_unfinishedEnds := goodIn_r _ [34, 35, 36, 37, 38, 39, 40, 41, 42, 23, 43, 44, 45, 46, 17, 18, 19, 47, 48, 49, 50, 25, 51, 52, 53, 21, 22, 24, 26, 27, 28, 29, 54, 55, 56, 57, 58, 59, 60, 61, 33, 62, 63, 64, 65, 66, 67, 68, 69, 70, 71, 72, 73, 74, 75, 76, 77, 78, 79, 80, 81, 82, 83, 84, 85, 86, 87, 108, 109, 110, 111, 92, 93, 94, 95, 96, 97, 98, 99, 100, 101, 102, 103, 104, 105, 106, 107] (by decide +kernel) (by decide +kernel)
set_option maxRecDepth 20000 in
theorem gX1_firstSeed_X3_unfinishedEnds : GoodIn wsX1_firstSeed (wsV RX1 59 RX3 yX3_unfinishedEnds wsX3_unfinishedEnds) := goodIn_app (goodIn_of _ (by decide +kernel)) ggX1_firstSeed_X3_unfinishedEnds
theorem dX1_firstSeed_0 : decode cX1_firstSeed 0 = .ok (.aload_n 0, 1) := by decide +kernel
theorem dX1_firstSeed_1 : decode cX1_firstSeed 1 = .ok (.getfield 18, 3) := by decide +kernel
theorem dX1_firstSeed_4 : decode cX1_firstSeed 4 = .ok (.getfield 44, 3) := by decide +kernel
theorem dX1_firstSeed_7 : decode cX1_firstSeed 7 = .ok (.iconst 0, 1) := by decide +kernel
theorem dX1_firstSeed_8 : decode cX1_firstSeed 8 = .ok (.aload_n 0, 1) := by decide +kernel
theorem dX1_firstSeed_9 : decode cX1_firstSeed 9 = .ok (.getfield 9, 3) := by decide +kernel
theorem dX1_firstSeed_12 : decode cX1_firstSeed 12 = .ok (.iconst 0, 1) := by decide +kernel
theorem dX1_firstSeed_13 : decode cX1_firstSeed 13 = .ok (.aload_n 0, 1) := by decide +kernel
theorem dX1_firstSeed_14 : decode cX1_firstSeed 14 = .ok (.getfield 9, 3) := by decide +kernel
theorem dX1_firstSeed_17 : decode cX1_firstSeed 17 = .ok (.arraylength, 1) := by decide +kernel
theorem dX1_firstSeed_18 : decode cX1_firstSeed 18 = .ok (.invokestatic 50, 3) := by decide +kernel
theorem dX1_firstSeed_21 : decode cX1_firstSeed 21 = .ok (.iconst 1, 1) := by decide +kernel
theorem dX1_firstSeed_22 : decode cX1_firstSeed 22 = .ok (.istore_n 1, 1) := by decide +kernel
theorem dX1_firstSeed_23 : decode cX1_firstSeed 23 = .ok (.iload_n 1, 1) := by decide +kernel
theorem dX1_firstSeed_24 : decode cX1_firstSeed 24 = .ok (.bipush 40, 2) := by decide +kernel
theorem dX1_firstSeed_26 : decode cX1_firstSeed 26 = .ok (.if_icmp .gt 27, 3) := by decide +kernel
theorem dX1_firstSeed_29 : decode cX1_firstSeed 29 = .ok (.aload_n 0, 1) := by decide +kernel
theorem dX1_firstSeed_30 : decode cX1_firstSeed 30 = .ok (.iload_n 1, 1) := by decide +kernel
theorem dX1_firstSeed_31 : decode cX1_firstSeed 31 = .ok (.invokevirtual 56, 3) := by decide +kernel
theorem dX1_firstSeed_34 : decode cX1_firstSeed 34 = .ok (.pop, 1) := by decide +kernel
theorem dX1_firstSeed_35 : decode cX1_firstSeed 35 = .ok (.aload_n 0, 1) := by decide +kernel
theorem dX1_firstSeed_36 : decode cX1_firstSeed 36 = .ok (.getfield 22, 3) := by decide +kernel
theorem dX1_firstSeed_39 : decode cX1_firstSeed 39 = .ok (.invokevirtual 59, 3) := by decide +kernel
theorem dX1_firstSeed_42 : decode cX1_firstSeed 42 = .ok (.ifCond .ne 5, 3) := by decide +kernel
theorem dX1_firstSeed_45 : decode cX1_firstSeed 45 = .ok (.iload_n 1, 1) := by decide +kernel
theorem dX1_firstSeed_46 : decode cX1_firstSeed 46 = .ok (.ireturn, 1) := by decide +kernel
theorem dX1_firstSeed_47 : decode cX1_firstSeed 47 = .ok (.iinc 1 1, 3) := by decide +kernel
theorem dX1_firstSeed_50 : decode cX1_firstSeed 50 = .ok (.goto (-27), 3) := by decide +kernel
theorem dX1_firstSeed_53 : decode cX1_firstSeed 53 = .ok (.aload_n 0, 1) := by decide +kernel
theorem dX1_firstSeed_54 : decode cX1_firstSeed 54 = .ok (.getfield 9, 3) := by decide +kernel
theorem dX1_firstSeed_57 : decode cX1_firstSeed 57 = .ok (.iconst 0, 1) := by decide +kernel
theorem dX1_firstSeed_58 : decode cX1_firstSeed 58 = .ok (.aload_n 0, 1) := by decide +kernel
theorem dX1_firstSeed_59 : decode cX1_firstSeed 59 = .ok (.getfield 18, 3) := by decide +kernel
theorem dX1_firstSeed_62 : decode cX1_firstSeed 62 = .ok (.getfield 44, 3) := by decide +kernel
theorem dX1_firstSeed_65 : decode cX1_firstSeed 65 = .ok (.iconst 0, 1) := by decide +kernel
theorem dX1_firstSeed_66 : decode cX1_firstSeed 66 = .ok (.aload_n 0, 1) := by decide +kernel
theorem dX1_firstSeed_67 : decode cX1_firstSeed 67 = .ok (.getfield 9, 3) := by decide +kernel
theorem dX1_firstSeed_70 : decode cX1_firstSeed 70 = .ok (.arraylength, 1) := by decide +kernel
theorem dX1_firstSeed_71 : decode cX1_firstSeed 71 = .ok (.invokestatic 50, 3) := by decide +kernel
theorem dX1_firstSeed_74 : decode cX1_firstSeed 74 = .ok (.iconst (-1), 1) := by decide +kernel
theorem dX1_firstSeed_75 : decode cX1_firstSeed 75 = .ok (.ireturn, 1) := by decide +kernel
set_option maxRecDepth 20000 in
theorem ggX1_unmixAll_X1_noteRanks : GoodIn wsX1_unmixAll wsX1_noteRanks := goodIn_r _ [9, 1, 10, 11, 12, 13, 14, 15, 16, 17, 18, 19, 20, 21, 22, 23, 24, 25, 26, 27, 28, 29, 30, 31, 32, 33, 34, 35, 36, 37, 38, 39, 40, 41, 42, 43, 44, 45, 46, 47, 48, 49, 50, 51, 52, 53, 54, 55, 56, 57, 58, 59, 60, 61, 62, 63, 64, 65, 66, 67, 68, 69, 70, 71, 72, 73, 74, 75, 76, 105, 106, 107, 108, 109, 110, 111, 112, 113, 114, 115, 116, 117, 118, 119, 120, 121, 122, 123, 124, 125, 126, 127, 128] (by decide +kernel) (by decide +kernel)
set_option maxRecDepth 20000 in
theorem gX1_unmixAll_X1_noteRanks : GoodIn wsX1_unmixAll (wsV RX1 65 RX1 yX1_noteRanks wsX1_noteRanks) := goodIn_app (goodIn_of _ (by decide +kernel)) ggX1_unmixAll_X1_noteRanks
set_option maxRecDepth 20000 in
theorem ggX1_unmixAll_X5_flag : GoodIn wsX1_unmixAll wsX5_flag := goodIn_r _ [24] (by decide +kernel) (by decide +kernel)
set_option maxRecDepth 20000 in
theorem gX1_unmixAll_X5_flag_n35 : GoodIn wsX1_unmixAll (wsX5_flag) := ggX1_unmixAll_X5_flag
set_option maxRecDepth 20000 in
theorem ggX1_unmixAll_X2_isPassing : GoodIn wsX1_unmixAll wsX2_isPassing := goodIn_r _ [80, 29, 31, 32, 33, 34, 17, 35, 36, 37, 38, 23, 39, 81, 82, 109, 110, 111, 112, 113, 114, 115, 116, 117, 118, 119, 120, 121, 122, 123, 124] (by decide +kernel) (by decide +kernel)
set_option maxRecDepth 20000 in
theorem gX1_unmixAll_X2_isPassing : GoodIn wsX1_unmixAll (wsV RX1 71 RX2 yX2_isPassing wsX2_isPassing) := goodIn_app (goodIn_of _ (by decide +kernel)) ggX1_unmixAll_X2_isPassing
set_option maxRecDepth 20000 in
theorem ggX1_unmixAll_X1_unmix : GoodIn wsX1_unmixAll wsX1_unmix := goodIn_r _ [86, 1, 87, 88, 89, 90, 91, 92, 38, 23, 39, 93, 33, 34, 17, 35, 29, 36, 37, 94, 95, 58, 96, 97, 98, 99, 100, 101, 102, 8, 103, 10, 11, 104, 13, 12, 14, 15, 16, 18, 19, 20, 21, 22, 24, 25, 26, 27, 28, 30, 31, 32, 40, 41, 42, 43, 44, 45, 46, 47, 48, 49, 50, 51, 52, 53, 54, 55, 56, 57, 59, 60, 61, 62, 63, 64, 65, 66, 67, 68, 69, 70, 71, 72, 73, 74, 75, 76, 105, 106, 107, 108, 109, 110, 111, 112, 113, 114, 115, 116, 117, 118, 119, 120, 121, 122, 123, 124, 125, 126, 127, 128] (by decide +kernel) (by decide +kernel)
set_option maxRecDepth 20000 in
theorem gX1_unmixAll_X1_unmix : GoodIn wsX1_unmixAll (wsV RX1 75 RX1 yX1_unmix wsX1_unmix) := goodIn_app (goodIn_of _ (by decide +kernel)) ggX1_unmixAll_X1_unmix
set_option maxRecDepth 20000 in
theorem ggX1_unmixAll_X5_asFlag : GoodIn wsX1_unmixAll wsX5_asFlag := goodIn_r _ [82] (by decide +kernel) (by decide +kernel)
set_option maxRecDepth 20000 in
theorem gX1_unmixAll_X5_asFlag_n78 : GoodIn wsX1_unmixAll (wsX5_asFlag) := ggX1_unmixAll_X5_asFlag
theorem dX1_unmixAll_0 : decode cX1_unmixAll 0 = .ok (.aload_n 0, 1) := by decide +kernel
theorem dX1_unmixAll_1 : decode cX1_unmixAll 1 = .ok (.invokevirtual 65, 3) := by decide +kernel
theorem dX1_unmixAll_4 : decode cX1_unmixAll 4 = .ok (.iconst 0, 1) := by decide +kernel
theorem dX1_unmixAll_5 : decode cX1_unmixAll 5 = .ok (.istore_n 1, 1) := by decide +kernel
theorem dX1_unmixAll_6 : decode cX1_unmixAll 6 = .ok (.aload_n 0, 1) := by decide +kernel
theorem dX1_unmixAll_7 : decode cX1_unmixAll 7 = .ok (.getfield 18, 3) := by decide +kernel
theorem dX1_unmixAll_10 : decode cX1_unmixAll 10 = .ok (.getfield 26, 3) := by decide +kernel
theorem dX1_unmixAll_13 : decode cX1_unmixAll 13 = .ok (.iconst 1, 1) := by decide +kernel
theorem dX1_unmixAll_14 : decode cX1_unmixAll 14 = .ok (.isub, 1) := by decide +kernel
theorem dX1_unmixAll_15 : decode cX1_unmixAll 15 = .ok (.istore_n 2, 1) := by decide +kernel
theorem dX1_unmixAll_16 : decode cX1_unmixAll 16 = .ok (.iload_n 2, 1) := by decide +kernel
theorem dX1_unmixAll_17 : decode cX1_unmixAll 17 = .ok (.ifCond .lt 57, 3) := by decide +kernel
theorem dX1_unmixAll_20 : decode cX1_unmixAll 20 = .ok (.aload_n 0, 1) := by decide +kernel
theorem dX1_unmixAll_21 : decode cX1_unmixAll 21 = .ok (.getfield 18, 3) := by decide +kernel
theorem dX1_unmixAll_24 : decode cX1_unmixAll 24 = .ok (.getfield 68, 3) := by decide +kernel
theorem dX1_unmixAll_27 : decode cX1_unmixAll 27 = .ok (.iload_n 2, 1) := by decide +kernel
theorem dX1_unmixAll_28 : decode cX1_unmixAll 28 = .ok (.iaload, 1) := by decide +kernel
theorem dX1_unmixAll_29 : decode cX1_unmixAll 29 = .ok (.ifCond .eq 39, 3) := by decide +kernel
theorem dX1_unmixAll_32 : decode cX1_unmixAll 32 = .ok (.aload_n 0, 1) := by decide +kernel
theorem dX1_unmixAll_33 : decode cX1_unmixAll 33 = .ok (.getfield 18, 3) := by decide +kernel
theorem dX1_unmixAll_36 : decode cX1_unmixAll 36 = .ok (.getfield 32, 3) := by decide +kernel
theorem dX1_unmixAll_39 : decode cX1_unmixAll 39 = .ok (.iload_n 2, 1) := by decide +kernel
theorem dX1_unmixAll_40 : decode cX1_unmixAll 40 = .ok (.invokestatic 35, 3) := by decide +kernel
theorem dX1_unmixAll_43 : decode cX1_unmixAll 43 = .ok (.ifCond .ne 25, 3) := by decide +kernel
theorem dX1_unmixAll_46 : decode cX1_unmixAll 46 = .ok (.aload_n 0, 1) := by decide +kernel
theorem dX1_unmixAll_47 : decode cX1_unmixAll 47 = .ok (.getfield 18, 3) := by decide +kernel
theorem dX1_unmixAll_50 : decode cX1_unmixAll 50 = .ok (.iload_n 2, 1) := by decide +kernel
theorem dX1_unmixAll_51 : decode cX1_unmixAll 51 = .ok (.invokevirtual 71, 3) := by decide +kernel
theorem dX1_unmixAll_54 : decode cX1_unmixAll 54 = .ok (.ifCond .ne 14, 3) := by decide +kernel
theorem dX1_unmixAll_57 : decode cX1_unmixAll 57 = .ok (.iload_n 1, 1) := by decide +kernel
theorem dX1_unmixAll_58 : decode cX1_unmixAll 58 = .ok (.aload_n 0, 1) := by decide +kernel
theorem dX1_unmixAll_59 : decode cX1_unmixAll 59 = .ok (.iload_n 2, 1) := by decide +kernel
theorem dX1_unmixAll_60 : decode cX1_unmixAll 60 = .ok (.invokevirtual 75, 3) := by decide +kernel
theorem dX1_unmixAll_63 : decode cX1_unmixAll 63 = .ok (.invokestatic 78, 3) := by decide +kernel
theorem dX1_unmixAll_66 : decode cX1_unmixAll 66 = .ok (.iadd, 1) := by decide +kernel
theorem dX1_unmixAll_67 : decode cX1_unmixAll 67 = .ok (.istore_n 1, 1) := by decide +kernel
theorem dX1_unmixAll_68 : decode cX1_unmixAll 68 = .ok (.iinc 2 (-1), 3) := by decide +kernel
theorem dX1_unmixAll_71 : decode cX1_unmixAll 71 = .ok (.goto (-55), 3) := by decide +kernel
theorem dX1_unmixAll_74 : decode cX1_unmixAll 74 = .ok (.iload_n 1, 1) := by decide +kernel
theorem dX1_unmixAll_75 : decode cX1_unmixAll 75 = .ok (.ireturn, 1) := by decide +kernel
set_option maxRecDepth 20000 in
theorem ggX1_unmix_X5_slot : GoodIn wsX1_unmix wsX5_slot := goodIn_r _ [10] (by decide +kernel) (by decide +kernel)
set_option maxRecDepth 20000 in
theorem gX1_unmix_X5_slot_n47 : GoodIn wsX1_unmix (wsX5_slot) := ggX1_unmix_X5_slot
set_option maxRecDepth 20000 in
theorem ggX1_unmix_X2_insOf : GoodIn wsX1_unmix wsX2_insOf := goodIn_r _ [15, 16, 17, 18, 92, 93, 94, 95, 96, 97, 98, 99, 100, 101, 102, 103, 104, 105, 106, 107] (by decide +kernel) (by decide +kernel)
set_option maxRecDepth 20000 in
theorem gX1_unmix_X2_insOf : GoodIn wsX1_unmix (wsV RX1 39 RX2 yX2_insOf wsX2_insOf) := goodIn_app (goodIn_of _ (by decide +kernel)) ggX1_unmix_X2_insOf
set_option maxRecDepth 20000 in
theorem ggX1_unmix_J7_fill_fda19 : GoodIn wsX1_unmix wsJ7_fill_fda19 := goodIn_r _ [22, 23, 24, 21, 25] (by decide +kernel) (by decide +kernel)
set_option maxRecDepth 20000 in
theorem gX1_unmix_J7_fill_fda19 : GoodIn wsX1_unmix (va_wsS RX1 82 yJ7_fill_fda19 wsJ7_fill_fda19) := goodIn_app (goodIn_of _ (by decide +kernel)) ggX1_unmix_J7_fill_fda19
set_option maxRecDepth 20000 in
theorem ggX1_unmix_X1_ranksHold : GoodIn wsX1_unmix wsX1_ranksHold := goodIn_r _ [30, 1, 31, 32, 33, 34, 35, 36, 37, 38, 14, 39, 40, 41, 42, 43, 9, 44, 45, 46, 47, 48, 16, 49, 50, 51, 12, 13, 15, 17, 18, 8, 10, 52, 53, 54, 55, 56, 57, 58, 59, 60, 61, 62, 63, 64, 65, 66, 67, 68, 69, 21, 70, 71, 72, 73, 74, 75, 76, 77, 78, 79, 80, 81, 82, 83, 84, 85, 86, 87, 88, 89, 90, 91, 92, 93, 94, 95, 96, 97, 98, 99, 100, 101, 102, 103, 104, 105, 106, 107, 108, 109, 110, 111] (by decide +kernel) (by decide +kernel)
set_option maxRecDepth 20000 in
theorem gX1_unmix_X1_ranksHold : GoodIn wsX1_unmix (wsV RX1 88 RX1 yX1_ranksHold wsX1_ranksHold) := goodIn_app (goodIn_of _ (by decide +kernel)) ggX1_unmix_X1_ranksHold
theorem dX1_unmix_0 : decode cX1_unmix 0 = .ok (.iload_n 1, 1) := by decide +kernel
theorem dX1_unmix_1 : decode cX1_unmix 1 = .ok (.iconst 0, 1) := by decide +kernel
theorem dX1_unmix_2 : decode cX1_unmix 2 = .ok (.invokestatic 47, 3) := by decide +kernel
theorem dX1_unmix_5 : decode cX1_unmix 5 = .ok (.istore_n 2, 1) := by decide +kernel
theorem dX1_unmix_6 : decode cX1_unmix 6 = .ok (.aload_n 0, 1) := by decide +kernel
theorem dX1_unmix_7 : decode cX1_unmix 7 = .ok (.getfield 18, 3) := by decide +kernel
theorem dX1_unmix_10 : decode cX1_unmix 10 = .ok (.iload_n 1, 1) := by decide +kernel
theorem dX1_unmix_11 : decode cX1_unmix 11 = .ok (.invokevirtual 39, 3) := by decide +kernel
theorem dX1_unmix_14 : decode cX1_unmix 14 = .ok (.istore_n 3, 1) := by decide +kernel
theorem dX1_unmix_15 : decode cX1_unmix 15 = .ok (.aload_n 0, 1) := by decide +kernel
theorem dX1_unmix_16 : decode cX1_unmix 16 = .ok (.getfield 18, 3) := by decide +kernel
theorem dX1_unmix_19 : decode cX1_unmix 19 = .ok (.getfield 44, 3) := by decide +kernel
theorem dX1_unmix_22 : decode cX1_unmix 22 = .ok (.iload_n 2, 1) := by decide +kernel
theorem dX1_unmix_23 : decode cX1_unmix 23 = .ok (.aload_n 0, 1) := by decide +kernel
theorem dX1_unmix_24 : decode cX1_unmix 24 = .ok (.getfield 9, 3) := by decide +kernel
theorem dX1_unmix_27 : decode cX1_unmix 27 = .ok (.iload_n 2, 1) := by decide +kernel
theorem dX1_unmix_28 : decode cX1_unmix 28 = .ok (.iload_n 3, 1) := by decide +kernel
theorem dX1_unmix_29 : decode cX1_unmix 29 = .ok (.invokestatic 50, 3) := by decide +kernel
theorem dX1_unmix_32 : decode cX1_unmix 32 = .ok (.iconst 0, 1) := by decide +kernel
theorem dX1_unmix_33 : decode cX1_unmix 33 = .ok (.istore 4, 2) := by decide +kernel
theorem dX1_unmix_35 : decode cX1_unmix 35 = .ok (.iload 4, 2) := by decide +kernel
theorem dX1_unmix_37 : decode cX1_unmix 37 = .ok (.iload_n 3, 1) := by decide +kernel
theorem dX1_unmix_38 : decode cX1_unmix 38 = .ok (.if_icmp .ge 46, 3) := by decide +kernel
theorem dX1_unmix_41 : decode cX1_unmix 41 = .ok (.aload_n 0, 1) := by decide +kernel
theorem dX1_unmix_42 : decode cX1_unmix 42 = .ok (.getfield 18, 3) := by decide +kernel
theorem dX1_unmix_45 : decode cX1_unmix 45 = .ok (.getfield 44, 3) := by decide +kernel
theorem dX1_unmix_48 : decode cX1_unmix 48 = .ok (.iload_n 2, 1) := by decide +kernel
theorem dX1_unmix_49 : decode cX1_unmix 49 = .ok (.iload_n 2, 1) := by decide +kernel
theorem dX1_unmix_50 : decode cX1_unmix 50 = .ok (.iload_n 3, 1) := by decide +kernel
theorem dX1_unmix_51 : decode cX1_unmix 51 = .ok (.iadd, 1) := by decide +kernel
theorem dX1_unmix_52 : decode cX1_unmix 52 = .ok (.iconst 0, 1) := by decide +kernel
theorem dX1_unmix_53 : decode cX1_unmix 53 = .ok (.invokestatic 82, 3) := by decide +kernel
theorem dX1_unmix_56 : decode cX1_unmix 56 = .ok (.aload_n 0, 1) := by decide +kernel
theorem dX1_unmix_57 : decode cX1_unmix 57 = .ok (.getfield 18, 3) := by decide +kernel
theorem dX1_unmix_60 : decode cX1_unmix 60 = .ok (.getfield 44, 3) := by decide +kernel
theorem dX1_unmix_63 : decode cX1_unmix 63 = .ok (.iload_n 2, 1) := by decide +kernel
theorem dX1_unmix_64 : decode cX1_unmix 64 = .ok (.iload 4, 2) := by decide +kernel
theorem dX1_unmix_66 : decode cX1_unmix 66 = .ok (.iadd, 1) := by decide +kernel
theorem dX1_unmix_67 : decode cX1_unmix 67 = .ok (.iconst 1, 1) := by decide +kernel
theorem dX1_unmix_68 : decode cX1_unmix 68 = .ok (.iastore, 1) := by decide +kernel
theorem dX1_unmix_69 : decode cX1_unmix 69 = .ok (.aload_n 0, 1) := by decide +kernel
theorem dX1_unmix_70 : decode cX1_unmix 70 = .ok (.invokevirtual 88, 3) := by decide +kernel
theorem dX1_unmix_73 : decode cX1_unmix 73 = .ok (.ifCond .eq 5, 3) := by decide +kernel
theorem dX1_unmix_76 : decode cX1_unmix 76 = .ok (.iconst 1, 1) := by decide +kernel
theorem dX1_unmix_77 : decode cX1_unmix 77 = .ok (.ireturn, 1) := by decide +kernel
theorem dX1_unmix_78 : decode cX1_unmix 78 = .ok (.iinc 4 1, 3) := by decide +kernel
theorem dX1_unmix_81 : decode cX1_unmix 81 = .ok (.goto (-46), 3) := by decide +kernel
theorem dX1_unmix_84 : decode cX1_unmix 84 = .ok (.aload_n 0, 1) := by decide +kernel
theorem dX1_unmix_85 : decode cX1_unmix 85 = .ok (.getfield 9, 3) := by decide +kernel
theorem dX1_unmix_88 : decode cX1_unmix 88 = .ok (.iload_n 2, 1) := by decide +kernel
theorem dX1_unmix_89 : decode cX1_unmix 89 = .ok (.aload_n 0, 1) := by decide +kernel
theorem dX1_unmix_90 : decode cX1_unmix 90 = .ok (.getfield 18, 3) := by decide +kernel
theorem dX1_unmix_93 : decode cX1_unmix 93 = .ok (.getfield 44, 3) := by decide +kernel
theorem dX1_unmix_96 : decode cX1_unmix 96 = .ok (.iload_n 2, 1) := by decide +kernel
theorem dX1_unmix_97 : decode cX1_unmix 97 = .ok (.iload_n 3, 1) := by decide +kernel
theorem dX1_unmix_98 : decode cX1_unmix 98 = .ok (.invokestatic 50, 3) := by decide +kernel
theorem dX1_unmix_101 : decode cX1_unmix 101 = .ok (.iconst 0, 1) := by decide +kernel
theorem dX1_unmix_102 : decode cX1_unmix 102 = .ok (.ireturn, 1) := by decide +kernel
set_option maxRecDepth 20000 in
theorem ggX1_noteRanks_X2_spreadVectors : GoodIn wsX1_noteRanks wsX2_spreadVectors := goodIn_r _ [10, 11, 12, 13, 14, 15, 16, 17, 18, 19, 9, 20, 21, 22, 23, 24, 25, 26, 27, 28, 29, 30, 31, 32, 33, 34, 35, 36, 73, 74, 75, 76, 77, 78, 79, 80, 81, 82, 83, 84, 85, 86, 87, 88] (by decide +kernel) (by decide +kernel)
set_option maxRecDepth 20000 in
theorem gX1_noteRanks_X2_spreadVectors : GoodIn wsX1_noteRanks (wsV RX1 95 RX2 yX2_spreadVectors wsX2_spreadVectors) := goodIn_app (goodIn_of _ (by decide +kernel)) ggX1_noteRanks_X2_spreadVectors
set_option maxRecDepth 20000 in
theorem ggX1_noteRanks_X3_gather : GoodIn wsX1_noteRanks wsX3_gather := goodIn_r _ [41, 42, 43, 44, 45, 46, 47, 48, 49, 50, 51, 30, 15, 31, 52, 53, 54, 40, 55, 56, 57, 58, 59, 32, 33, 34, 35, 36, 60, 61, 62, 63, 64, 65, 66, 67, 68, 89, 90, 91, 92, 73, 74, 75, 76, 77, 78, 79, 80, 81, 82, 83, 84, 85, 86, 87, 88] (by decide +kernel) (by decide +kernel)
set_option maxRecDepth 20000 in
theorem gX1_noteRanks_X3_gather : GoodIn wsX1_noteRanks (wsV RX1 102 RX3 yX3_gather wsX3_gather) := goodIn_app (goodIn_of _ (by decide +kernel)) ggX1_noteRanks_X3_gather
theorem dX1_noteRanks_0 : decode cX1_noteRanks 0 = .ok (.aload_n 0, 1) := by decide +kernel
theorem dX1_noteRanks_1 : decode cX1_noteRanks 1 = .ok (.getfield 18, 3) := by decide +kernel
theorem dX1_noteRanks_4 : decode cX1_noteRanks 4 = .ok (.aload_n 0, 1) := by decide +kernel
theorem dX1_noteRanks_5 : decode cX1_noteRanks 5 = .ok (.getfield 18, 3) := by decide +kernel
theorem dX1_noteRanks_8 : decode cX1_noteRanks 8 = .ok (.getfield 92, 3) := by decide +kernel
theorem dX1_noteRanks_11 : decode cX1_noteRanks 11 = .ok (.invokevirtual 95, 3) := by decide +kernel
theorem dX1_noteRanks_14 : decode cX1_noteRanks 14 = .ok (.iconst 1, 1) := by decide +kernel
theorem dX1_noteRanks_15 : decode cX1_noteRanks 15 = .ok (.istore_n 1, 1) := by decide +kernel
theorem dX1_noteRanks_16 : decode cX1_noteRanks 16 = .ok (.iload_n 1, 1) := by decide +kernel
theorem dX1_noteRanks_17 : decode cX1_noteRanks 17 = .ok (.aload_n 0, 1) := by decide +kernel
theorem dX1_noteRanks_18 : decode cX1_noteRanks 18 = .ok (.getfield 18, 3) := by decide +kernel
theorem dX1_noteRanks_21 : decode cX1_noteRanks 21 = .ok (.getfield 99, 3) := by decide +kernel
theorem dX1_noteRanks_24 : decode cX1_noteRanks 24 = .ok (.if_icmp .ge 23, 3) := by decide +kernel
theorem dX1_noteRanks_27 : decode cX1_noteRanks 27 = .ok (.aload_n 0, 1) := by decide +kernel
theorem dX1_noteRanks_28 : decode cX1_noteRanks 28 = .ok (.getfield 15, 3) := by decide +kernel
theorem dX1_noteRanks_31 : decode cX1_noteRanks 31 = .ok (.iload_n 1, 1) := by decide +kernel
theorem dX1_noteRanks_32 : decode cX1_noteRanks 32 = .ok (.aload_n 0, 1) := by decide +kernel
theorem dX1_noteRanks_33 : decode cX1_noteRanks 33 = .ok (.getfield 22, 3) := by decide +kernel
theorem dX1_noteRanks_36 : decode cX1_noteRanks 36 = .ok (.iload_n 1, 1) := by decide +kernel
theorem dX1_noteRanks_37 : decode cX1_noteRanks 37 = .ok (.invokevirtual 102, 3) := by decide +kernel
theorem dX1_noteRanks_40 : decode cX1_noteRanks 40 = .ok (.iastore, 1) := by decide +kernel
theorem dX1_noteRanks_41 : decode cX1_noteRanks 41 = .ok (.iinc 1 1, 3) := by decide +kernel
theorem dX1_noteRanks_44 : decode cX1_noteRanks 44 = .ok (.goto (-28), 3) := by decide +kernel
theorem dX1_noteRanks_47 : decode cX1_noteRanks 47 = .ok (.return_, 1) := by decide +kernel
set_option maxRecDepth 20000 in
theorem ggX1_ranksHold_X2_spreadVectors : GoodIn wsX1_ranksHold wsX2_spreadVectors := goodIn_r _ [11, 12, 13, 14, 15, 16, 17, 18, 19, 20, 10, 21, 22, 23, 24, 25, 26, 27, 28, 29, 30, 31, 32, 33, 34, 35, 36, 37, 74, 75, 76, 77, 78, 79, 80, 81, 82, 83, 84, 85, 86, 87, 88, 89] (by decide +kernel) (by decide +kernel)
set_option maxRecDepth 20000 in
theorem gX1_ranksHold_X2_spreadVectors : GoodIn wsX1_ranksHold (wsV RX1 95 RX2 yX2_spreadVectors wsX2_spreadVectors) := goodIn_app (goodIn_of _ (by decide +kernel)) ggX1_ranksHold_X2_spreadVectors
set_option maxRecDepth 20000 in
theorem ggX1_ranksHold_X5_flag : GoodIn wsX1_ranksHold wsX5_flag := goodIn_r _ [17] (by decide +kernel) (by decide +kernel)
set_option maxRecDepth 20000 in
theorem gX1_ranksHold_X5_flag_n35 : GoodIn wsX1_ranksHold (wsX5_flag) := ggX1_ranksHold_X5_flag
set_option maxRecDepth 20000 in
theorem ggX1_ranksHold_X3_gather : GoodIn wsX1_ranksHold wsX3_gather := goodIn_r _ [42, 43, 44, 45, 46, 47, 48, 49, 50, 51, 52, 31, 16, 32, 53, 54, 55, 41, 56, 57, 58, 59, 60, 33, 34, 35, 36, 37, 61, 62, 63, 64, 65, 66, 67, 68, 69, 90, 91, 92, 93, 74, 75, 76, 77, 78, 79, 80, 81, 82, 83, 84, 85, 86, 87, 88, 89] (by decide +kernel) (by decide +kernel)
set_option maxRecDepth 20000 in
theorem gX1_ranksHold_X3_gather : GoodIn wsX1_ranksHold (wsV RX1 102 RX3 yX3_gather wsX3_gather) := goodIn_app (goodIn_of _ (by decide +kernel)) ggX1_ranksHold_X3_gather
theorem dX1_ranksHold_0 : decode cX1_ranksHold 0 = .ok (.aload_n 0, 1) := by decide +kernel
theorem dX1_ranksHold_1 : decode cX1_ranksHold 1 = .ok (.getfield 18, 3) := by decide +kernel
theorem dX1_ranksHold_4 : decode cX1_ranksHold 4 = .ok (.aload_n 0, 1) := by decide +kernel
theorem dX1_ranksHold_5 : decode cX1_ranksHold 5 = .ok (.getfield 18, 3) := by decide +kernel
theorem dX1_ranksHold_8 : decode cX1_ranksHold 8 = .ok (.getfield 92, 3) := by decide +kernel
theorem dX1_ranksHold_11 : decode cX1_ranksHold 11 = .ok (.invokevirtual 95, 3) := by decide +kernel
theorem dX1_ranksHold_14 : decode cX1_ranksHold 14 = .ok (.iconst 1, 1) := by decide +kernel
theorem dX1_ranksHold_15 : decode cX1_ranksHold 15 = .ok (.istore_n 1, 1) := by decide +kernel
theorem dX1_ranksHold_16 : decode cX1_ranksHold 16 = .ok (.iload_n 1, 1) := by decide +kernel
end
section
theorem dX1_ranksHold_17 : decode cX1_ranksHold 17 = .ok (.aload_n 0, 1) := by decide +kernel
theorem dX1_ranksHold_18 : decode cX1_ranksHold 18 = .ok (.getfield 18, 3) := by decide +kernel
theorem dX1_ranksHold_21 : decode cX1_ranksHold 21 = .ok (.getfield 99, 3) := by decide +kernel
theorem dX1_ranksHold_24 : decode cX1_ranksHold 24 = .ok (.if_icmp .ge 43, 3) := by decide +kernel
theorem dX1_ranksHold_27 : decode cX1_ranksHold 27 = .ok (.aload_n 0, 1) := by decide +kernel
theorem dX1_ranksHold_28 : decode cX1_ranksHold 28 = .ok (.getfield 18, 3) := by decide +kernel
theorem dX1_ranksHold_31 : decode cX1_ranksHold 31 = .ok (.getfield 105, 3) := by decide +kernel
theorem dX1_ranksHold_34 : decode cX1_ranksHold 34 = .ok (.iload_n 1, 1) := by decide +kernel
theorem dX1_ranksHold_35 : decode cX1_ranksHold 35 = .ok (.invokestatic 35, 3) := by decide +kernel
theorem dX1_ranksHold_38 : decode cX1_ranksHold 38 = .ok (.iconst 1, 1) := by decide +kernel
theorem dX1_ranksHold_39 : decode cX1_ranksHold 39 = .ok (.if_icmp .ne 22, 3) := by decide +kernel
theorem dX1_ranksHold_42 : decode cX1_ranksHold 42 = .ok (.aload_n 0, 1) := by decide +kernel
theorem dX1_ranksHold_43 : decode cX1_ranksHold 43 = .ok (.getfield 22, 3) := by decide +kernel
theorem dX1_ranksHold_46 : decode cX1_ranksHold 46 = .ok (.iload_n 1, 1) := by decide +kernel
theorem dX1_ranksHold_47 : decode cX1_ranksHold 47 = .ok (.invokevirtual 102, 3) := by decide +kernel
theorem dX1_ranksHold_50 : decode cX1_ranksHold 50 = .ok (.aload_n 0, 1) := by decide +kernel
theorem dX1_ranksHold_51 : decode cX1_ranksHold 51 = .ok (.getfield 15, 3) := by decide +kernel
theorem dX1_ranksHold_54 : decode cX1_ranksHold 54 = .ok (.iload_n 1, 1) := by decide +kernel
theorem dX1_ranksHold_55 : decode cX1_ranksHold 55 = .ok (.iaload, 1) := by decide +kernel
theorem dX1_ranksHold_56 : decode cX1_ranksHold 56 = .ok (.if_icmp .eq 5, 3) := by decide +kernel
theorem dX1_ranksHold_59 : decode cX1_ranksHold 59 = .ok (.iconst 0, 1) := by decide +kernel
theorem dX1_ranksHold_60 : decode cX1_ranksHold 60 = .ok (.ireturn, 1) := by decide +kernel
theorem dX1_ranksHold_61 : decode cX1_ranksHold 61 = .ok (.iinc 1 1, 3) := by decide +kernel
theorem dX1_ranksHold_64 : decode cX1_ranksHold 64 = .ok (.goto (-48), 3) := by decide +kernel
theorem dX1_ranksHold_67 : decode cX1_ranksHold 67 = .ok (.iconst 1, 1) := by decide +kernel
theorem dX1_ranksHold_68 : decode cX1_ranksHold 68 = .ok (.ireturn, 1) := by decide +kernel
theorem dX2_init_0 : decode cX2_init 0 = .ok (.aload_n 0, 1) := by decide +kernel
theorem dX2_init_1 : decode cX2_init 1 = .ok (.invokespecial 3, 3) := by decide +kernel
theorem dX2_init_4 : decode cX2_init 4 = .ok (.aload_n 0, 1) := by decide +kernel
theorem dX2_init_5 : decode cX2_init 5 = .ok (.iconst 1, 1) := by decide +kernel
theorem dX2_init_6 : decode cX2_init 6 = .ok (.putfield 9, 3) := by decide +kernel
theorem dX2_init_9 : decode cX2_init 9 = .ok (.aload_n 0, 1) := by decide +kernel
theorem dX2_init_10 : decode cX2_init 10 = .ok (.iconst 0, 1) := by decide +kernel
theorem dX2_init_11 : decode cX2_init 11 = .ok (.putfield 15, 3) := by decide +kernel
theorem dX2_init_14 : decode cX2_init 14 = .ok (.aload_n 0, 1) := by decide +kernel
theorem dX2_init_15 : decode cX2_init 15 = .ok (.iconst 1, 1) := by decide +kernel
theorem dX2_init_16 : decode cX2_init 16 = .ok (.putfield 18, 3) := by decide +kernel
theorem dX2_init_19 : decode cX2_init 19 = .ok (.aload_n 0, 1) := by decide +kernel
theorem dX2_init_20 : decode cX2_init 20 = .ok (.iconst 0, 1) := by decide +kernel
theorem dX2_init_21 : decode cX2_init 21 = .ok (.putfield 21, 3) := by decide +kernel
theorem dX2_init_24 : decode cX2_init 24 = .ok (.aload_n 0, 1) := by decide +kernel
theorem dX2_init_25 : decode cX2_init 25 = .ok (.iconst 0, 1) := by decide +kernel
theorem dX2_init_26 : decode cX2_init 26 = .ok (.putfield 24, 3) := by decide +kernel
theorem dX2_init_29 : decode cX2_init 29 = .ok (.aload_n 0, 1) := by decide +kernel
theorem dX2_init_30 : decode cX2_init 30 = .ok (.iconst 0, 1) := by decide +kernel
theorem dX2_init_31 : decode cX2_init 31 = .ok (.putfield 27, 3) := by decide +kernel
theorem dX2_init_34 : decode cX2_init 34 = .ok (.aload_n 0, 1) := by decide +kernel
theorem dX2_init_35 : decode cX2_init 35 = .ok (.bipush 30, 2) := by decide +kernel
theorem dX2_init_37 : decode cX2_init 37 = .ok (.newarray .int, 2) := by decide +kernel
theorem dX2_init_39 : decode cX2_init 39 = .ok (.putfield 30, 3) := by decide +kernel
theorem dX2_init_42 : decode cX2_init 42 = .ok (.aload_n 0, 1) := by decide +kernel
theorem dX2_init_43 : decode cX2_init 43 = .ok (.bipush 30, 2) := by decide +kernel
theorem dX2_init_45 : decode cX2_init 45 = .ok (.newarray .int, 2) := by decide +kernel
theorem dX2_init_47 : decode cX2_init 47 = .ok (.putfield 34, 3) := by decide +kernel
theorem dX2_init_50 : decode cX2_init 50 = .ok (.aload_n 0, 1) := by decide +kernel
theorem dX2_init_51 : decode cX2_init 51 = .ok (.bipush 30, 2) := by decide +kernel
theorem dX2_init_53 : decode cX2_init 53 = .ok (.newarray .long, 2) := by decide +kernel
theorem dX2_init_55 : decode cX2_init 55 = .ok (.putfield 37, 3) := by decide +kernel
theorem dX2_init_58 : decode cX2_init 58 = .ok (.aload_n 0, 1) := by decide +kernel
theorem dX2_init_59 : decode cX2_init 59 = .ok (.iconst 4, 1) := by decide +kernel
theorem dX2_init_60 : decode cX2_init 60 = .ok (.newarray .long, 2) := by decide +kernel
theorem dX2_init_62 : decode cX2_init 62 = .ok (.putfield 41, 3) := by decide +kernel
theorem dX2_init_65 : decode cX2_init 65 = .ok (.aload_n 0, 1) := by decide +kernel
theorem dX2_init_66 : decode cX2_init 66 = .ok (.sipush 900, 3) := by decide +kernel
theorem dX2_init_69 : decode cX2_init 69 = .ok (.newarray .int, 2) := by decide +kernel
theorem dX2_init_71 : decode cX2_init 71 = .ok (.putfield 44, 3) := by decide +kernel
theorem dX2_init_74 : decode cX2_init 74 = .ok (.aload_n 0, 1) := by decide +kernel
theorem dX2_init_75 : decode cX2_init 75 = .ok (.sipush 360, 3) := by decide +kernel
theorem dX2_init_78 : decode cX2_init 78 = .ok (.newarray .int, 2) := by decide +kernel
theorem dX2_init_80 : decode cX2_init 80 = .ok (.putfield 47, 3) := by decide +kernel
theorem dX2_init_83 : decode cX2_init 83 = .ok (.aload_n 0, 1) := by decide +kernel
theorem dX2_init_84 : decode cX2_init 84 = .ok (.bipush 12, 2) := by decide +kernel
theorem dX2_init_86 : decode cX2_init 86 = .ok (.newarray .int, 2) := by decide +kernel
theorem dX2_init_88 : decode cX2_init 88 = .ok (.putfield 50, 3) := by decide +kernel
theorem dX2_init_91 : decode cX2_init 91 = .ok (.aload_n 0, 1) := by decide +kernel
theorem dX2_init_92 : decode cX2_init 92 = .ok (.bipush 30, 2) := by decide +kernel
theorem dX2_init_94 : decode cX2_init 94 = .ok (.newarray .int, 2) := by decide +kernel
theorem dX2_init_96 : decode cX2_init 96 = .ok (.putfield 53, 3) := by decide +kernel
theorem dX2_init_99 : decode cX2_init 99 = .ok (.aload_n 0, 1) := by decide +kernel
theorem dX2_init_100 : decode cX2_init 100 = .ok (.bipush 30, 2) := by decide +kernel
theorem dX2_init_102 : decode cX2_init 102 = .ok (.newarray .long, 2) := by decide +kernel
theorem dX2_init_104 : decode cX2_init 104 = .ok (.putfield 56, 3) := by decide +kernel
theorem dX2_init_107 : decode cX2_init 107 = .ok (.aload_n 0, 1) := by decide +kernel
theorem dX2_init_108 : decode cX2_init 108 = .ok (.bipush 30, 2) := by decide +kernel
theorem dX2_init_110 : decode cX2_init 110 = .ok (.newarray .long, 2) := by decide +kernel
theorem dX2_init_112 : decode cX2_init 112 = .ok (.putfield 59, 3) := by decide +kernel
theorem dX2_init_115 : decode cX2_init 115 = .ok (.return_, 1) := by decide +kernel
theorem dX2_isRelay_0 : decode cX2_isRelay 0 = .ok (.iload_n 1, 1) := by decide +kernel
theorem dX2_isRelay_1 : decode cX2_isRelay 1 = .ok (.ifCond .lt 15, 3) := by decide +kernel
theorem dX2_isRelay_4 : decode cX2_isRelay 4 = .ok (.iload_n 1, 1) := by decide +kernel
theorem dX2_isRelay_5 : decode cX2_isRelay 5 = .ok (.aload_n 0, 1) := by decide +kernel
theorem dX2_isRelay_6 : decode cX2_isRelay 6 = .ok (.getfield 9, 3) := by decide +kernel
theorem dX2_isRelay_9 : decode cX2_isRelay 9 = .ok (.if_icmp .ge 7, 3) := by decide +kernel
theorem dX2_isRelay_12 : decode cX2_isRelay 12 = .ok (.iconst 1, 1) := by decide +kernel
theorem dX2_isRelay_13 : decode cX2_isRelay 13 = .ok (.goto 4, 3) := by decide +kernel
theorem dX2_isRelay_16 : decode cX2_isRelay 16 = .ok (.iconst 0, 1) := by decide +kernel
theorem dX2_isRelay_17 : decode cX2_isRelay 17 = .ok (.ireturn, 1) := by decide +kernel
theorem dX2_isLine_0 : decode cX2_isLine 0 = .ok (.iload_n 1, 1) := by decide +kernel
theorem dX2_isLine_1 : decode cX2_isLine 1 = .ok (.ifCond .lt 15, 3) := by decide +kernel
theorem dX2_isLine_4 : decode cX2_isLine 4 = .ok (.iload_n 1, 1) := by decide +kernel
theorem dX2_isLine_5 : decode cX2_isLine 5 = .ok (.aload_n 0, 1) := by decide +kernel
theorem dX2_isLine_6 : decode cX2_isLine 6 = .ok (.getfield 15, 3) := by decide +kernel
theorem dX2_isLine_9 : decode cX2_isLine 9 = .ok (.if_icmp .ge 7, 3) := by decide +kernel
theorem dX2_isLine_12 : decode cX2_isLine 12 = .ok (.iconst 1, 1) := by decide +kernel
theorem dX2_isLine_13 : decode cX2_isLine 13 = .ok (.goto 4, 3) := by decide +kernel
theorem dX2_isLine_16 : decode cX2_isLine 16 = .ok (.iconst 0, 1) := by decide +kernel
theorem dX2_isLine_17 : decode cX2_isLine 17 = .ok (.ireturn, 1) := by decide +kernel
theorem dX2_isPiece_0 : decode cX2_isPiece 0 = .ok (.iload_n 1, 1) := by decide +kernel
theorem dX2_isPiece_1 : decode cX2_isPiece 1 = .ok (.ifCond .lt 15, 3) := by decide +kernel
theorem dX2_isPiece_4 : decode cX2_isPiece 4 = .ok (.iload_n 1, 1) := by decide +kernel
theorem dX2_isPiece_5 : decode cX2_isPiece 5 = .ok (.aload_n 0, 1) := by decide +kernel
theorem dX2_isPiece_6 : decode cX2_isPiece 6 = .ok (.getfield 18, 3) := by decide +kernel
theorem dX2_isPiece_9 : decode cX2_isPiece 9 = .ok (.if_icmp .ge 7, 3) := by decide +kernel
theorem dX2_isPiece_12 : decode cX2_isPiece 12 = .ok (.iconst 1, 1) := by decide +kernel
theorem dX2_isPiece_13 : decode cX2_isPiece 13 = .ok (.goto 4, 3) := by decide +kernel
theorem dX2_isPiece_16 : decode cX2_isPiece 16 = .ok (.iconst 0, 1) := by decide +kernel
theorem dX2_isPiece_17 : decode cX2_isPiece 17 = .ok (.ireturn, 1) := by decide +kernel
theorem dX2_insOf_0 : decode cX2_insOf 0 = .ok (.aload_n 0, 1) := by decide +kernel
theorem dX2_insOf_1 : decode cX2_insOf 1 = .ok (.getfield 30, 3) := by decide +kernel
theorem dX2_insOf_4 : decode cX2_insOf 4 = .ok (.iload_n 1, 1) := by decide +kernel
theorem dX2_insOf_5 : decode cX2_insOf 5 = .ok (.iaload, 1) := by decide +kernel
theorem dX2_insOf_6 : decode cX2_insOf 6 = .ok (.ifCond .ne 10, 3) := by decide +kernel
theorem dX2_insOf_9 : decode cX2_insOf 9 = .ok (.aload_n 0, 1) := by decide +kernel
theorem dX2_insOf_10 : decode cX2_insOf 10 = .ok (.getfield 18, 3) := by decide +kernel
theorem dX2_insOf_13 : decode cX2_insOf 13 = .ok (.goto 14, 3) := by decide +kernel
theorem dX2_insOf_16 : decode cX2_insOf 16 = .ok (.aload_n 0, 1) := by decide +kernel
theorem dX2_insOf_17 : decode cX2_insOf 17 = .ok (.getfield 50, 3) := by decide +kernel
theorem dX2_insOf_20 : decode cX2_insOf 20 = .ok (.aload_n 0, 1) := by decide +kernel
theorem dX2_insOf_21 : decode cX2_insOf 21 = .ok (.getfield 30, 3) := by decide +kernel
theorem dX2_insOf_24 : decode cX2_insOf 24 = .ok (.iload_n 1, 1) := by decide +kernel
theorem dX2_insOf_25 : decode cX2_insOf 25 = .ok (.iaload, 1) := by decide +kernel
theorem dX2_insOf_26 : decode cX2_insOf 26 = .ok (.iaload, 1) := by decide +kernel
theorem dX2_insOf_27 : decode cX2_insOf 27 = .ok (.ireturn, 1) := by decide +kernel
set_option maxRecDepth 20000 in
theorem ggX2_addLine_X5_slot : GoodIn wsX2_addLine wsX5_slot := goodIn_r _ [9] (by decide +kernel) (by decide +kernel)
set_option maxRecDepth 20000 in
theorem gX2_addLine_X5_slot_n62 : GoodIn wsX2_addLine (wsX5_slot) := ggX2_addLine_X5_slot
theorem dX2_addLine_0 : decode cX2_addLine 0 = .ok (.aload_n 0, 1) := by decide +kernel
theorem dX2_addLine_1 : decode cX2_addLine 1 = .ok (.getfield 15, 3) := by decide +kernel
theorem dX2_addLine_4 : decode cX2_addLine 4 = .ok (.istore_n 3, 1) := by decide +kernel
theorem dX2_addLine_5 : decode cX2_addLine 5 = .ok (.aload_n 0, 1) := by decide +kernel
theorem dX2_addLine_6 : decode cX2_addLine 6 = .ok (.getfield 30, 3) := by decide +kernel
theorem dX2_addLine_9 : decode cX2_addLine 9 = .ok (.iload_n 3, 1) := by decide +kernel
theorem dX2_addLine_10 : decode cX2_addLine 10 = .ok (.iload_n 1, 1) := by decide +kernel
theorem dX2_addLine_11 : decode cX2_addLine 11 = .ok (.iastore, 1) := by decide +kernel
theorem dX2_addLine_12 : decode cX2_addLine 12 = .ok (.aload_n 0, 1) := by decide +kernel
theorem dX2_addLine_13 : decode cX2_addLine 13 = .ok (.getfield 34, 3) := by decide +kernel
theorem dX2_addLine_16 : decode cX2_addLine 16 = .ok (.iload_n 3, 1) := by decide +kernel
theorem dX2_addLine_17 : decode cX2_addLine 17 = .ok (.iload_n 2, 1) := by decide +kernel
theorem dX2_addLine_18 : decode cX2_addLine 18 = .ok (.iastore, 1) := by decide +kernel
theorem dX2_addLine_19 : decode cX2_addLine 19 = .ok (.aload_n 0, 1) := by decide +kernel
theorem dX2_addLine_20 : decode cX2_addLine 20 = .ok (.getfield 47, 3) := by decide +kernel
theorem dX2_addLine_23 : decode cX2_addLine 23 = .ok (.iload_n 2, 1) := by decide +kernel
theorem dX2_addLine_24 : decode cX2_addLine 24 = .ok (.aload_n 0, 1) := by decide +kernel
theorem dX2_addLine_25 : decode cX2_addLine 25 = .ok (.getfield 50, 3) := by decide +kernel
theorem dX2_addLine_28 : decode cX2_addLine 28 = .ok (.iload_n 2, 1) := by decide +kernel
theorem dX2_addLine_29 : decode cX2_addLine 29 = .ok (.iaload, 1) := by decide +kernel
theorem dX2_addLine_30 : decode cX2_addLine 30 = .ok (.invokestatic 62, 3) := by decide +kernel
theorem dX2_addLine_33 : decode cX2_addLine 33 = .ok (.iload_n 3, 1) := by decide +kernel
theorem dX2_addLine_34 : decode cX2_addLine 34 = .ok (.iastore, 1) := by decide +kernel
theorem dX2_addLine_35 : decode cX2_addLine 35 = .ok (.aload_n 0, 1) := by decide +kernel
theorem dX2_addLine_36 : decode cX2_addLine 36 = .ok (.getfield 50, 3) := by decide +kernel
theorem dX2_addLine_39 : decode cX2_addLine 39 = .ok (.iload_n 2, 1) := by decide +kernel
theorem dX2_addLine_40 : decode cX2_addLine 40 = .ok (.dup2, 1) := by decide +kernel
theorem dX2_addLine_41 : decode cX2_addLine 41 = .ok (.iaload, 1) := by decide +kernel
theorem dX2_addLine_42 : decode cX2_addLine 42 = .ok (.iconst 1, 1) := by decide +kernel
theorem dX2_addLine_43 : decode cX2_addLine 43 = .ok (.iadd, 1) := by decide +kernel
theorem dX2_addLine_44 : decode cX2_addLine 44 = .ok (.iastore, 1) := by decide +kernel
theorem dX2_addLine_45 : decode cX2_addLine 45 = .ok (.iload_n 3, 1) := by decide +kernel
theorem dX2_addLine_46 : decode cX2_addLine 46 = .ok (.istore 4, 2) := by decide +kernel
theorem dX2_addLine_48 : decode cX2_addLine 48 = .ok (.iload 4, 2) := by decide +kernel
theorem dX2_addLine_50 : decode cX2_addLine 50 = .ok (.ifCond .le 43, 3) := by decide +kernel
theorem dX2_addLine_53 : decode cX2_addLine 53 = .ok (.aload_n 0, 1) := by decide +kernel
theorem dX2_addLine_54 : decode cX2_addLine 54 = .ok (.getfield 30, 3) := by decide +kernel
theorem dX2_addLine_57 : decode cX2_addLine 57 = .ok (.aload_n 0, 1) := by decide +kernel
theorem dX2_addLine_58 : decode cX2_addLine 58 = .ok (.getfield 53, 3) := by decide +kernel
theorem dX2_addLine_61 : decode cX2_addLine 61 = .ok (.iload 4, 2) := by decide +kernel
theorem dX2_addLine_63 : decode cX2_addLine 63 = .ok (.iconst 1, 1) := by decide +kernel
theorem dX2_addLine_64 : decode cX2_addLine 64 = .ok (.isub, 1) := by decide +kernel
theorem dX2_addLine_65 : decode cX2_addLine 65 = .ok (.iaload, 1) := by decide +kernel
theorem dX2_addLine_66 : decode cX2_addLine 66 = .ok (.iaload, 1) := by decide +kernel
theorem dX2_addLine_67 : decode cX2_addLine 67 = .ok (.iload_n 1, 1) := by decide +kernel
theorem dX2_addLine_68 : decode cX2_addLine 68 = .ok (.if_icmp .le 25, 3) := by decide +kernel
theorem dX2_addLine_71 : decode cX2_addLine 71 = .ok (.aload_n 0, 1) := by decide +kernel
theorem dX2_addLine_72 : decode cX2_addLine 72 = .ok (.getfield 53, 3) := by decide +kernel
theorem dX2_addLine_75 : decode cX2_addLine 75 = .ok (.iload 4, 2) := by decide +kernel
theorem dX2_addLine_77 : decode cX2_addLine 77 = .ok (.aload_n 0, 1) := by decide +kernel
theorem dX2_addLine_78 : decode cX2_addLine 78 = .ok (.getfield 53, 3) := by decide +kernel
theorem dX2_addLine_81 : decode cX2_addLine 81 = .ok (.iload 4, 2) := by decide +kernel
theorem dX2_addLine_83 : decode cX2_addLine 83 = .ok (.iconst 1, 1) := by decide +kernel
theorem dX2_addLine_84 : decode cX2_addLine 84 = .ok (.isub, 1) := by decide +kernel
theorem dX2_addLine_85 : decode cX2_addLine 85 = .ok (.iaload, 1) := by decide +kernel
theorem dX2_addLine_86 : decode cX2_addLine 86 = .ok (.iastore, 1) := by decide +kernel
theorem dX2_addLine_87 : decode cX2_addLine 87 = .ok (.iinc 4 (-1), 3) := by decide +kernel
theorem dX2_addLine_90 : decode cX2_addLine 90 = .ok (.goto (-42), 3) := by decide +kernel
theorem dX2_addLine_93 : decode cX2_addLine 93 = .ok (.aload_n 0, 1) := by decide +kernel
theorem dX2_addLine_94 : decode cX2_addLine 94 = .ok (.getfield 53, 3) := by decide +kernel
theorem dX2_addLine_97 : decode cX2_addLine 97 = .ok (.iload 4, 2) := by decide +kernel
theorem dX2_addLine_99 : decode cX2_addLine 99 = .ok (.iload_n 3, 1) := by decide +kernel
theorem dX2_addLine_100 : decode cX2_addLine 100 = .ok (.iastore, 1) := by decide +kernel
theorem dX2_addLine_101 : decode cX2_addLine 101 = .ok (.aload_n 0, 1) := by decide +kernel
theorem dX2_addLine_102 : decode cX2_addLine 102 = .ok (.dup, 1) := by decide +kernel
theorem dX2_addLine_103 : decode cX2_addLine 103 = .ok (.getfield 15, 3) := by decide +kernel
theorem dX2_addLine_106 : decode cX2_addLine 106 = .ok (.iconst 1, 1) := by decide +kernel
theorem dX2_addLine_107 : decode cX2_addLine 107 = .ok (.iadd, 1) := by decide +kernel
theorem dX2_addLine_108 : decode cX2_addLine 108 = .ok (.putfield 15, 3) := by decide +kernel
theorem dX2_addLine_111 : decode cX2_addLine 111 = .ok (.iload_n 3, 1) := by decide +kernel
theorem dX2_addLine_112 : decode cX2_addLine 112 = .ok (.ireturn, 1) := by decide +kernel
set_option maxRecDepth 20000 in
theorem ggX2_isPassing_X2_insOf : GoodIn wsX2_isPassing wsX2_insOf := goodIn_r _ [7, 1, 8, 9, 15, 16, 17, 18, 19, 20, 21, 22, 23, 24, 25, 26, 27, 28, 29, 30] (by decide +kernel) (by decide +kernel)
set_option maxRecDepth 20000 in
theorem gX2_isPassing_X2_insOf : GoodIn wsX2_isPassing (wsV RX2 66 RX2 yX2_insOf wsX2_insOf) := goodIn_app (goodIn_of _ (by decide +kernel)) ggX2_isPassing_X2_insOf
set_option maxRecDepth 20000 in
theorem ggX2_isPassing_X5_slot : GoodIn wsX2_isPassing wsX5_slot := goodIn_r _ [12] (by decide +kernel) (by decide +kernel)
set_option maxRecDepth 20000 in
theorem gX2_isPassing_X5_slot_n62 : GoodIn wsX2_isPassing (wsX5_slot) := ggX2_isPassing_X5_slot
set_option maxRecDepth 20000 in
theorem ggX2_isPassing_X5_asFlag : GoodIn wsX2_isPassing wsX5_asFlag := goodIn_r _ [14] (by decide +kernel) (by decide +kernel)
set_option maxRecDepth 20000 in
theorem gX2_isPassing_X5_asFlag_n70 : GoodIn wsX2_isPassing (wsX5_asFlag) := ggX2_isPassing_X5_asFlag
theorem dX2_isPassing_0 : decode cX2_isPassing 0 = .ok (.aload_n 0, 1) := by decide +kernel
theorem dX2_isPassing_1 : decode cX2_isPassing 1 = .ok (.getfield 30, 3) := by decide +kernel
theorem dX2_isPassing_4 : decode cX2_isPassing 4 = .ok (.iload_n 1, 1) := by decide +kernel
theorem dX2_isPassing_5 : decode cX2_isPassing 5 = .ok (.iaload, 1) := by decide +kernel
theorem dX2_isPassing_6 : decode cX2_isPassing 6 = .ok (.ifCond .ne 5, 3) := by decide +kernel
theorem dX2_isPassing_9 : decode cX2_isPassing 9 = .ok (.iconst 0, 1) := by decide +kernel
theorem dX2_isPassing_10 : decode cX2_isPassing 10 = .ok (.ireturn, 1) := by decide +kernel
theorem dX2_isPassing_11 : decode cX2_isPassing 11 = .ok (.iconst 0, 1) := by decide +kernel
theorem dX2_isPassing_12 : decode cX2_isPassing 12 = .ok (.istore_n 2, 1) := by decide +kernel
theorem dX2_isPassing_13 : decode cX2_isPassing 13 = .ok (.iconst 0, 1) := by decide +kernel
theorem dX2_isPassing_14 : decode cX2_isPassing 14 = .ok (.istore_n 3, 1) := by decide +kernel
theorem dX2_isPassing_15 : decode cX2_isPassing 15 = .ok (.iload_n 3, 1) := by decide +kernel
theorem dX2_isPassing_16 : decode cX2_isPassing 16 = .ok (.aload_n 0, 1) := by decide +kernel
theorem dX2_isPassing_17 : decode cX2_isPassing 17 = .ok (.iload_n 1, 1) := by decide +kernel
theorem dX2_isPassing_18 : decode cX2_isPassing 18 = .ok (.invokevirtual 66, 3) := by decide +kernel
theorem dX2_isPassing_21 : decode cX2_isPassing 21 = .ok (.if_icmp .ge 33, 3) := by decide +kernel
theorem dX2_isPassing_24 : decode cX2_isPassing 24 = .ok (.iload_n 2, 1) := by decide +kernel
theorem dX2_isPassing_25 : decode cX2_isPassing 25 = .ok (.aload_n 0, 1) := by decide +kernel
theorem dX2_isPassing_26 : decode cX2_isPassing 26 = .ok (.getfield 44, 3) := by decide +kernel
theorem dX2_isPassing_29 : decode cX2_isPassing 29 = .ok (.iload_n 1, 1) := by decide +kernel
theorem dX2_isPassing_30 : decode cX2_isPassing 30 = .ok (.iload_n 3, 1) := by decide +kernel
theorem dX2_isPassing_31 : decode cX2_isPassing 31 = .ok (.invokestatic 62, 3) := by decide +kernel
theorem dX2_isPassing_34 : decode cX2_isPassing 34 = .ok (.iaload, 1) := by decide +kernel
theorem dX2_isPassing_35 : decode cX2_isPassing 35 = .ok (.ifCond .eq 7, 3) := by decide +kernel
theorem dX2_isPassing_38 : decode cX2_isPassing 38 = .ok (.iconst 1, 1) := by decide +kernel
theorem dX2_isPassing_39 : decode cX2_isPassing 39 = .ok (.goto 4, 3) := by decide +kernel
theorem dX2_isPassing_42 : decode cX2_isPassing 42 = .ok (.iconst 0, 1) := by decide +kernel
theorem dX2_isPassing_43 : decode cX2_isPassing 43 = .ok (.invokestatic 70, 3) := by decide +kernel
theorem dX2_isPassing_46 : decode cX2_isPassing 46 = .ok (.iadd, 1) := by decide +kernel
theorem dX2_isPassing_47 : decode cX2_isPassing 47 = .ok (.istore_n 2, 1) := by decide +kernel
theorem dX2_isPassing_48 : decode cX2_isPassing 48 = .ok (.iinc 3 1, 3) := by decide +kernel
theorem dX2_isPassing_51 : decode cX2_isPassing 51 = .ok (.goto (-36), 3) := by decide +kernel
theorem dX2_isPassing_54 : decode cX2_isPassing 54 = .ok (.iload_n 2, 1) := by decide +kernel
theorem dX2_isPassing_55 : decode cX2_isPassing 55 = .ok (.iconst 1, 1) := by decide +kernel
theorem dX2_isPassing_56 : decode cX2_isPassing 56 = .ok (.if_icmp .gt 7, 3) := by decide +kernel
theorem dX2_isPassing_59 : decode cX2_isPassing 59 = .ok (.iconst 1, 1) := by decide +kernel
theorem dX2_isPassing_60 : decode cX2_isPassing 60 = .ok (.goto 4, 3) := by decide +kernel
theorem dX2_isPassing_63 : decode cX2_isPassing 63 = .ok (.iconst 0, 1) := by decide +kernel
theorem dX2_isPassing_64 : decode cX2_isPassing 64 = .ok (.ireturn, 1) := by decide +kernel
set_option maxRecDepth 20000 in
theorem ggX2_passingLines_X2_isPassing : GoodIn wsX2_passingLines wsX2_isPassing := goodIn_r _ [6, 7, 8, 9, 10, 11, 5, 12, 13, 14, 15, 16, 17, 18, 19, 20, 21, 22, 23, 24, 25, 26, 27, 28, 29, 30, 31, 32, 33, 34, 35] (by decide +kernel) (by decide +kernel)
set_option maxRecDepth 20000 in
theorem gX2_passingLines_X2_isPassing : GoodIn wsX2_passingLines (wsV RX2 74 RX2 yX2_isPassing wsX2_isPassing) := goodIn_app (goodIn_of _ (by decide +kernel)) ggX2_passingLines_X2_isPassing
set_option maxRecDepth 20000 in
theorem ggX2_passingLines_X5_asFlag : GoodIn wsX2_passingLines wsX5_asFlag := goodIn_r _ [19] (by decide +kernel) (by decide +kernel)
set_option maxRecDepth 20000 in
theorem gX2_passingLines_X5_asFlag_n70 : GoodIn wsX2_passingLines (wsX5_asFlag) := ggX2_passingLines_X5_asFlag
theorem dX2_passingLines_0 : decode cX2_passingLines 0 = .ok (.iconst 0, 1) := by decide +kernel
theorem dX2_passingLines_1 : decode cX2_passingLines 1 = .ok (.istore_n 1, 1) := by decide +kernel
theorem dX2_passingLines_2 : decode cX2_passingLines 2 = .ok (.iconst 0, 1) := by decide +kernel
theorem dX2_passingLines_3 : decode cX2_passingLines 3 = .ok (.istore_n 2, 1) := by decide +kernel
theorem dX2_passingLines_4 : decode cX2_passingLines 4 = .ok (.iload_n 2, 1) := by decide +kernel
theorem dX2_passingLines_5 : decode cX2_passingLines 5 = .ok (.aload_n 0, 1) := by decide +kernel
theorem dX2_passingLines_6 : decode cX2_passingLines 6 = .ok (.getfield 15, 3) := by decide +kernel
theorem dX2_passingLines_9 : decode cX2_passingLines 9 = .ok (.if_icmp .ge 20, 3) := by decide +kernel
theorem dX2_passingLines_12 : decode cX2_passingLines 12 = .ok (.iload_n 1, 1) := by decide +kernel
theorem dX2_passingLines_13 : decode cX2_passingLines 13 = .ok (.aload_n 0, 1) := by decide +kernel
theorem dX2_passingLines_14 : decode cX2_passingLines 14 = .ok (.iload_n 2, 1) := by decide +kernel
theorem dX2_passingLines_15 : decode cX2_passingLines 15 = .ok (.invokevirtual 74, 3) := by decide +kernel
theorem dX2_passingLines_18 : decode cX2_passingLines 18 = .ok (.invokestatic 70, 3) := by decide +kernel
theorem dX2_passingLines_21 : decode cX2_passingLines 21 = .ok (.iadd, 1) := by decide +kernel
theorem dX2_passingLines_22 : decode cX2_passingLines 22 = .ok (.istore_n 1, 1) := by decide +kernel
theorem dX2_passingLines_23 : decode cX2_passingLines 23 = .ok (.iinc 2 1, 3) := by decide +kernel
theorem dX2_passingLines_26 : decode cX2_passingLines 26 = .ok (.goto (-22), 3) := by decide +kernel
theorem dX2_passingLines_29 : decode cX2_passingLines 29 = .ok (.iload_n 1, 1) := by decide +kernel
theorem dX2_passingLines_30 : decode cX2_passingLines 30 = .ok (.ireturn, 1) := by decide +kernel
set_option maxRecDepth 20000 in
theorem ggX2_allFactors_X2_insOf : GoodIn wsX2_allFactors wsX2_insOf := goodIn_r _ [6, 7, 8, 9, 10, 11, 12, 13, 14, 15, 16, 17, 18, 19, 20, 21, 22, 23, 24, 25] (by decide +kernel) (by decide +kernel)
set_option maxRecDepth 20000 in
theorem gX2_allFactors_X2_insOf : GoodIn wsX2_allFactors (wsV RX2 66 RX2 yX2_insOf wsX2_insOf) := goodIn_app (goodIn_of _ (by decide +kernel)) ggX2_allFactors_X2_insOf
theorem dX2_allFactors_0 : decode cX2_allFactors 0 = .ok (.iconst 0, 1) := by decide +kernel
theorem dX2_allFactors_1 : decode cX2_allFactors 1 = .ok (.istore_n 1, 1) := by decide +kernel
theorem dX2_allFactors_2 : decode cX2_allFactors 2 = .ok (.iconst 0, 1) := by decide +kernel
theorem dX2_allFactors_3 : decode cX2_allFactors 3 = .ok (.istore_n 2, 1) := by decide +kernel
theorem dX2_allFactors_4 : decode cX2_allFactors 4 = .ok (.iload_n 2, 1) := by decide +kernel
theorem dX2_allFactors_5 : decode cX2_allFactors 5 = .ok (.aload_n 0, 1) := by decide +kernel
theorem dX2_allFactors_6 : decode cX2_allFactors 6 = .ok (.getfield 15, 3) := by decide +kernel
theorem dX2_allFactors_9 : decode cX2_allFactors 9 = .ok (.if_icmp .ge 17, 3) := by decide +kernel
theorem dX2_allFactors_12 : decode cX2_allFactors 12 = .ok (.iload_n 1, 1) := by decide +kernel
theorem dX2_allFactors_13 : decode cX2_allFactors 13 = .ok (.aload_n 0, 1) := by decide +kernel
theorem dX2_allFactors_14 : decode cX2_allFactors 14 = .ok (.iload_n 2, 1) := by decide +kernel
theorem dX2_allFactors_15 : decode cX2_allFactors 15 = .ok (.invokevirtual 66, 3) := by decide +kernel
theorem dX2_allFactors_18 : decode cX2_allFactors 18 = .ok (.iadd, 1) := by decide +kernel
theorem dX2_allFactors_19 : decode cX2_allFactors 19 = .ok (.istore_n 1, 1) := by decide +kernel
theorem dX2_allFactors_20 : decode cX2_allFactors 20 = .ok (.iinc 2 1, 3) := by decide +kernel
theorem dX2_allFactors_23 : decode cX2_allFactors 23 = .ok (.goto (-19), 3) := by decide +kernel
theorem dX2_allFactors_26 : decode cX2_allFactors 26 = .ok (.iload_n 1, 1) := by decide +kernel
theorem dX2_allFactors_27 : decode cX2_allFactors 27 = .ok (.ireturn, 1) := by decide +kernel
set_option maxRecDepth 20000 in
theorem ggX2_spreadVectors_X5_flag : GoodIn wsX2_spreadVectors wsX5_flag := goodIn_r _ [6] (by decide +kernel) (by decide +kernel)
set_option maxRecDepth 20000 in
theorem gX2_spreadVectors_X5_flag_n78 : GoodIn wsX2_spreadVectors (wsX5_flag) := ggX2_spreadVectors_X5_flag
set_option maxRecDepth 20000 in
theorem ggX2_spreadVectors_X2_mixed : GoodIn wsX2_spreadVectors wsX2_mixed := goodIn_r _ [11, 12, 13, 14, 15, 16, 17, 10, 18, 19, 20, 21, 5, 22, 23, 24, 25, 26, 27, 28, 29, 30, 31, 32, 33, 34, 35, 36, 37, 38, 39, 40, 41, 42, 43] (by decide +kernel) (by decide +kernel)
set_option maxRecDepth 20000 in
theorem gX2_spreadVectors_X2_mixed : GoodIn wsX2_spreadVectors (wsV RX2 84 RX2 yX2_mixed wsX2_mixed) := goodIn_app (goodIn_of _ (by decide +kernel)) ggX2_spreadVectors_X2_mixed
theorem dX2_spreadVectors_0 : decode cX2_spreadVectors 0 = .ok (.iconst 0, 1) := by decide +kernel
theorem dX2_spreadVectors_1 : decode cX2_spreadVectors 1 = .ok (.istore_n 2, 1) := by decide +kernel
theorem dX2_spreadVectors_2 : decode cX2_spreadVectors 2 = .ok (.iload_n 2, 1) := by decide +kernel
theorem dX2_spreadVectors_3 : decode cX2_spreadVectors 3 = .ok (.aload_n 0, 1) := by decide +kernel
theorem dX2_spreadVectors_4 : decode cX2_spreadVectors 4 = .ok (.getfield 15, 3) := by decide +kernel
theorem dX2_spreadVectors_7 : decode cX2_spreadVectors 7 = .ok (.if_icmp .ge 47, 3) := by decide +kernel
theorem dX2_spreadVectors_10 : decode cX2_spreadVectors 10 = .ok (.aload_n 0, 1) := by decide +kernel
theorem dX2_spreadVectors_11 : decode cX2_spreadVectors 11 = .ok (.getfield 53, 3) := by decide +kernel
theorem dX2_spreadVectors_14 : decode cX2_spreadVectors 14 = .ok (.iload_n 2, 1) := by decide +kernel
theorem dX2_spreadVectors_15 : decode cX2_spreadVectors 15 = .ok (.iaload, 1) := by decide +kernel
theorem dX2_spreadVectors_16 : decode cX2_spreadVectors 16 = .ok (.istore_n 3, 1) := by decide +kernel
theorem dX2_spreadVectors_17 : decode cX2_spreadVectors 17 = .ok (.aload_n 0, 1) := by decide +kernel
theorem dX2_spreadVectors_18 : decode cX2_spreadVectors 18 = .ok (.getfield 56, 3) := by decide +kernel
theorem dX2_spreadVectors_21 : decode cX2_spreadVectors 21 = .ok (.iload_n 3, 1) := by decide +kernel
theorem dX2_spreadVectors_22 : decode cX2_spreadVectors 22 = .ok (.iload_n 1, 1) := by decide +kernel
theorem dX2_spreadVectors_23 : decode cX2_spreadVectors 23 = .ok (.iload_n 3, 1) := by decide +kernel
theorem dX2_spreadVectors_24 : decode cX2_spreadVectors 24 = .ok (.invokestatic 78, 3) := by decide +kernel
theorem dX2_spreadVectors_27 : decode cX2_spreadVectors 27 = .ok (.iconst 1, 1) := by decide +kernel
theorem dX2_spreadVectors_28 : decode cX2_spreadVectors 28 = .ok (.if_icmp .ne 7, 3) := by decide +kernel
theorem dX2_spreadVectors_31 : decode cX2_spreadVectors 31 = .ok (.lconst 0, 1) := by decide +kernel
theorem dX2_spreadVectors_32 : decode cX2_spreadVectors 32 = .ok (.goto 15, 3) := by decide +kernel
theorem dX2_spreadVectors_35 : decode cX2_spreadVectors 35 = .ok (.aload_n 0, 1) := by decide +kernel
theorem dX2_spreadVectors_36 : decode cX2_spreadVectors 36 = .ok (.iload_n 3, 1) := by decide +kernel
theorem dX2_spreadVectors_37 : decode cX2_spreadVectors 37 = .ok (.getstatic 81, 3) := by decide +kernel
theorem dX2_spreadVectors_40 : decode cX2_spreadVectors 40 = .ok (.aload_n 0, 1) := by decide +kernel
theorem dX2_spreadVectors_41 : decode cX2_spreadVectors 41 = .ok (.getfield 56, 3) := by decide +kernel
theorem dX2_spreadVectors_44 : decode cX2_spreadVectors 44 = .ok (.invokevirtual 84, 3) := by decide +kernel
theorem dX2_spreadVectors_47 : decode cX2_spreadVectors 47 = .ok (.lastore, 1) := by decide +kernel
theorem dX2_spreadVectors_48 : decode cX2_spreadVectors 48 = .ok (.iinc 2 1, 3) := by decide +kernel
theorem dX2_spreadVectors_51 : decode cX2_spreadVectors 51 = .ok (.goto (-49), 3) := by decide +kernel
theorem dX2_spreadVectors_54 : decode cX2_spreadVectors 54 = .ok (.return_, 1) := by decide +kernel
set_option maxRecDepth 20000 in
theorem ggX2_spreadBytes_X5_flag : GoodIn wsX2_spreadBytes wsX5_flag := goodIn_r _ [9] (by decide +kernel) (by decide +kernel)
set_option maxRecDepth 20000 in
theorem gX2_spreadBytes_X5_flag_n78 : GoodIn wsX2_spreadBytes (wsX5_flag) := ggX2_spreadBytes_X5_flag
set_option maxRecDepth 20000 in
theorem ggX2_spreadBytes_X2_mixed : GoodIn wsX2_spreadBytes wsX2_mixed := goodIn_r _ [14, 15, 16, 17, 18, 19, 20, 13, 21, 22, 23, 24, 8, 25, 26, 27, 28, 29, 30, 31, 32, 33, 34, 35, 36, 37, 38, 39, 40, 41, 42, 43, 44, 45, 46] (by decide +kernel) (by decide +kernel)
set_option maxRecDepth 20000 in
theorem gX2_spreadBytes_X2_mixed : GoodIn wsX2_spreadBytes (wsV RX2 84 RX2 yX2_mixed wsX2_mixed) := goodIn_app (goodIn_of _ (by decide +kernel)) ggX2_spreadBytes_X2_mixed
theorem dX2_spreadBytes_0 : decode cX2_spreadBytes 0 = .ok (.iconst 0, 1) := by decide +kernel
theorem dX2_spreadBytes_1 : decode cX2_spreadBytes 1 = .ok (.istore_n 1, 1) := by decide +kernel
theorem dX2_spreadBytes_2 : decode cX2_spreadBytes 2 = .ok (.iload_n 1, 1) := by decide +kernel
theorem dX2_spreadBytes_3 : decode cX2_spreadBytes 3 = .ok (.aload_n 0, 1) := by decide +kernel
theorem dX2_spreadBytes_4 : decode cX2_spreadBytes 4 = .ok (.getfield 15, 3) := by decide +kernel
theorem dX2_spreadBytes_7 : decode cX2_spreadBytes 7 = .ok (.if_icmp .ge 58, 3) := by decide +kernel
theorem dX2_spreadBytes_10 : decode cX2_spreadBytes 10 = .ok (.aload_n 0, 1) := by decide +kernel
theorem dX2_spreadBytes_11 : decode cX2_spreadBytes 11 = .ok (.getfield 53, 3) := by decide +kernel
theorem dX2_spreadBytes_14 : decode cX2_spreadBytes 14 = .ok (.iload_n 1, 1) := by decide +kernel
theorem dX2_spreadBytes_15 : decode cX2_spreadBytes 15 = .ok (.iaload, 1) := by decide +kernel
theorem dX2_spreadBytes_16 : decode cX2_spreadBytes 16 = .ok (.istore_n 2, 1) := by decide +kernel
theorem dX2_spreadBytes_17 : decode cX2_spreadBytes 17 = .ok (.aload_n 0, 1) := by decide +kernel
theorem dX2_spreadBytes_18 : decode cX2_spreadBytes 18 = .ok (.getfield 59, 3) := by decide +kernel
theorem dX2_spreadBytes_21 : decode cX2_spreadBytes 21 = .ok (.iload_n 2, 1) := by decide +kernel
theorem dX2_spreadBytes_22 : decode cX2_spreadBytes 22 = .ok (.aload_n 0, 1) := by decide +kernel
theorem dX2_spreadBytes_23 : decode cX2_spreadBytes 23 = .ok (.getfield 27, 3) := by decide +kernel
theorem dX2_spreadBytes_26 : decode cX2_spreadBytes 26 = .ok (.iload_n 2, 1) := by decide +kernel
theorem dX2_spreadBytes_27 : decode cX2_spreadBytes 27 = .ok (.invokestatic 78, 3) := by decide +kernel
theorem dX2_spreadBytes_30 : decode cX2_spreadBytes 30 = .ok (.iconst 1, 1) := by decide +kernel
theorem dX2_spreadBytes_31 : decode cX2_spreadBytes 31 = .ok (.if_icmp .ne 7, 3) := by decide +kernel
theorem dX2_spreadBytes_34 : decode cX2_spreadBytes 34 = .ok (.lconst 0, 1) := by decide +kernel
theorem dX2_spreadBytes_35 : decode cX2_spreadBytes 35 = .ok (.goto 23, 3) := by decide +kernel
theorem dX2_spreadBytes_38 : decode cX2_spreadBytes 38 = .ok (.aload_n 0, 1) := by decide +kernel
theorem dX2_spreadBytes_39 : decode cX2_spreadBytes 39 = .ok (.iload_n 2, 1) := by decide +kernel
theorem dX2_spreadBytes_40 : decode cX2_spreadBytes 40 = .ok (.aload_n 0, 1) := by decide +kernel
theorem dX2_spreadBytes_41 : decode cX2_spreadBytes 41 = .ok (.getfield 41, 3) := by decide +kernel
theorem dX2_spreadBytes_44 : decode cX2_spreadBytes 44 = .ok (.aload_n 0, 1) := by decide +kernel
theorem dX2_spreadBytes_45 : decode cX2_spreadBytes 45 = .ok (.getfield 59, 3) := by decide +kernel
theorem dX2_spreadBytes_48 : decode cX2_spreadBytes 48 = .ok (.invokevirtual 84, 3) := by decide +kernel
theorem dX2_spreadBytes_51 : decode cX2_spreadBytes 51 = .ok (.aload_n 0, 1) := by decide +kernel
theorem dX2_spreadBytes_52 : decode cX2_spreadBytes 52 = .ok (.getfield 37, 3) := by decide +kernel
theorem dX2_spreadBytes_55 : decode cX2_spreadBytes 55 = .ok (.iload_n 2, 1) := by decide +kernel
theorem dX2_spreadBytes_56 : decode cX2_spreadBytes 56 = .ok (.laload, 1) := by decide +kernel
theorem dX2_spreadBytes_57 : decode cX2_spreadBytes 57 = .ok (.lxor, 1) := by decide +kernel
theorem dX2_spreadBytes_58 : decode cX2_spreadBytes 58 = .ok (.lastore, 1) := by decide +kernel
theorem dX2_spreadBytes_59 : decode cX2_spreadBytes 59 = .ok (.iinc 1 1, 3) := by decide +kernel
theorem dX2_spreadBytes_62 : decode cX2_spreadBytes 62 = .ok (.goto (-60), 3) := by decide +kernel
theorem dX2_spreadBytes_65 : decode cX2_spreadBytes 65 = .ok (.return_, 1) := by decide +kernel
set_option maxRecDepth 20000 in
theorem ggX2_mixed_X2_insOf : GoodIn wsX2_mixed wsX2_insOf := goodIn_r _ [8, 1, 9, 10, 19, 20, 21, 22, 23, 24, 25, 26, 27, 28, 29, 30, 31, 32, 33, 34] (by decide +kernel) (by decide +kernel)
set_option maxRecDepth 20000 in
theorem gX2_mixed_X2_insOf : GoodIn wsX2_mixed (wsV RX2 66 RX2 yX2_insOf wsX2_insOf) := goodIn_app (goodIn_of _ (by decide +kernel)) ggX2_mixed_X2_insOf
set_option maxRecDepth 20000 in
theorem ggX2_mixed_X5_slot : GoodIn wsX2_mixed wsX5_slot := goodIn_r _ [13] (by decide +kernel) (by decide +kernel)
set_option maxRecDepth 20000 in
theorem gX2_mixed_X5_slot_n62 : GoodIn wsX2_mixed (wsX5_slot) := ggX2_mixed_X5_slot
set_option maxRecDepth 20000 in
theorem ggX2_mixed_X5_scaled : GoodIn wsX2_mixed wsX5_scaled := goodIn_r _ [15, 16, 17, 18] (by decide +kernel) (by decide +kernel)
set_option maxRecDepth 20000 in
theorem gX2_mixed_X5_scaled_n88 : GoodIn wsX2_mixed (wsX5_scaled) := ggX2_mixed_X5_scaled
theorem dX2_mixed_0 : decode cX2_mixed 0 = .ok (.lconst 0, 1) := by decide +kernel
theorem dX2_mixed_1 : decode cX2_mixed 1 = .ok (.lstore 4, 2) := by decide +kernel
theorem dX2_mixed_3 : decode cX2_mixed 3 = .ok (.aload_n 0, 1) := by decide +kernel
theorem dX2_mixed_4 : decode cX2_mixed 4 = .ok (.getfield 30, 3) := by decide +kernel
theorem dX2_mixed_7 : decode cX2_mixed 7 = .ok (.iload_n 1, 1) := by decide +kernel
theorem dX2_mixed_8 : decode cX2_mixed 8 = .ok (.iaload, 1) := by decide +kernel
theorem dX2_mixed_9 : decode cX2_mixed 9 = .ok (.istore 6, 2) := by decide +kernel
theorem dX2_mixed_11 : decode cX2_mixed 11 = .ok (.aload_n 0, 1) := by decide +kernel
theorem dX2_mixed_12 : decode cX2_mixed 12 = .ok (.iload_n 1, 1) := by decide +kernel
theorem dX2_mixed_13 : decode cX2_mixed 13 = .ok (.invokevirtual 66, 3) := by decide +kernel
theorem dX2_mixed_16 : decode cX2_mixed 16 = .ok (.istore 7, 2) := by decide +kernel
theorem dX2_mixed_18 : decode cX2_mixed 18 = .ok (.iconst 0, 1) := by decide +kernel
theorem dX2_mixed_19 : decode cX2_mixed 19 = .ok (.istore 8, 2) := by decide +kernel
theorem dX2_mixed_21 : decode cX2_mixed 21 = .ok (.iload 8, 2) := by decide +kernel
theorem dX2_mixed_23 : decode cX2_mixed 23 = .ok (.iload 7, 2) := by decide +kernel
theorem dX2_mixed_25 : decode cX2_mixed 25 = .ok (.if_icmp .ge 58, 3) := by decide +kernel
theorem dX2_mixed_28 : decode cX2_mixed 28 = .ok (.iload 6, 2) := by decide +kernel
theorem dX2_mixed_30 : decode cX2_mixed 30 = .ok (.ifCond .ne 10, 3) := by decide +kernel
theorem dX2_mixed_33 : decode cX2_mixed 33 = .ok (.aload_n 2, 1) := by decide +kernel
theorem dX2_mixed_34 : decode cX2_mixed 34 = .ok (.iload 8, 2) := by decide +kernel
theorem dX2_mixed_36 : decode cX2_mixed 36 = .ok (.laload, 1) := by decide +kernel
theorem dX2_mixed_37 : decode cX2_mixed 37 = .ok (.goto 17, 3) := by decide +kernel
theorem dX2_mixed_40 : decode cX2_mixed 40 = .ok (.aload_n 3, 1) := by decide +kernel
theorem dX2_mixed_41 : decode cX2_mixed 41 = .ok (.aload_n 0, 1) := by decide +kernel
theorem dX2_mixed_42 : decode cX2_mixed 42 = .ok (.getfield 47, 3) := by decide +kernel
theorem dX2_mixed_45 : decode cX2_mixed 45 = .ok (.iload 6, 2) := by decide +kernel
theorem dX2_mixed_47 : decode cX2_mixed 47 = .ok (.iload 8, 2) := by decide +kernel
theorem dX2_mixed_49 : decode cX2_mixed 49 = .ok (.invokestatic 62, 3) := by decide +kernel
theorem dX2_mixed_52 : decode cX2_mixed 52 = .ok (.iaload, 1) := by decide +kernel
theorem dX2_mixed_53 : decode cX2_mixed 53 = .ok (.laload, 1) := by decide +kernel
theorem dX2_mixed_54 : decode cX2_mixed 54 = .ok (.lstore 9, 2) := by decide +kernel
theorem dX2_mixed_56 : decode cX2_mixed 56 = .ok (.lload 4, 2) := by decide +kernel
theorem dX2_mixed_58 : decode cX2_mixed 58 = .ok (.lload 9, 2) := by decide +kernel
theorem dX2_mixed_60 : decode cX2_mixed 60 = .ok (.aload_n 0, 1) := by decide +kernel
theorem dX2_mixed_61 : decode cX2_mixed 61 = .ok (.getfield 44, 3) := by decide +kernel
theorem dX2_mixed_64 : decode cX2_mixed 64 = .ok (.iload_n 1, 1) := by decide +kernel
theorem dX2_mixed_65 : decode cX2_mixed 65 = .ok (.iload 8, 2) := by decide +kernel
theorem dX2_mixed_67 : decode cX2_mixed 67 = .ok (.invokestatic 62, 3) := by decide +kernel
theorem dX2_mixed_70 : decode cX2_mixed 70 = .ok (.iaload, 1) := by decide +kernel
theorem dX2_mixed_71 : decode cX2_mixed 71 = .ok (.invokestatic 88, 3) := by decide +kernel
theorem dX2_mixed_74 : decode cX2_mixed 74 = .ok (.lxor, 1) := by decide +kernel
theorem dX2_mixed_75 : decode cX2_mixed 75 = .ok (.lstore 4, 2) := by decide +kernel
theorem dX2_mixed_77 : decode cX2_mixed 77 = .ok (.iinc 8 1, 3) := by decide +kernel
theorem dX2_mixed_80 : decode cX2_mixed 80 = .ok (.goto (-59), 3) := by decide +kernel
theorem dX2_mixed_83 : decode cX2_mixed 83 = .ok (.lload 4, 2) := by decide +kernel
theorem dX2_mixed_85 : decode cX2_mixed 85 = .ok (.lreturn, 1) := by decide +kernel
theorem dX3_init_0 : decode cX3_init 0 = .ok (.aload_n 0, 1) := by decide +kernel
theorem dX3_init_1 : decode cX3_init 1 = .ok (.invokespecial 3, 3) := by decide +kernel
theorem dX3_init_4 : decode cX3_init 4 = .ok (.aload_n 0, 1) := by decide +kernel
theorem dX3_init_5 : decode cX3_init 5 = .ok (.iconst 4, 1) := by decide +kernel
theorem dX3_init_6 : decode cX3_init 6 = .ok (.newarray .long, 2) := by decide +kernel
theorem dX3_init_8 : decode cX3_init 8 = .ok (.putfield 9, 3) := by decide +kernel
theorem dX3_init_11 : decode cX3_init 11 = .ok (.aload_n 0, 1) := by decide +kernel
theorem dX3_init_12 : decode cX3_init 12 = .ok (.iconst 4, 1) := by decide +kernel
theorem dX3_init_13 : decode cX3_init 13 = .ok (.newarray .int, 2) := by decide +kernel
theorem dX3_init_15 : decode cX3_init 15 = .ok (.putfield 15, 3) := by decide +kernel
theorem dX3_init_18 : decode cX3_init 18 = .ok (.aload_n 0, 1) := by decide +kernel
theorem dX3_init_19 : decode cX3_init 19 = .ok (.iconst 0, 1) := by decide +kernel
theorem dX3_init_20 : decode cX3_init 20 = .ok (.putfield 19, 3) := by decide +kernel
theorem dX3_init_23 : decode cX3_init 23 = .ok (.aload_n 0, 1) := by decide +kernel
theorem dX3_init_24 : decode cX3_init 24 = .ok (.aload_n 1, 1) := by decide +kernel
theorem dX3_init_25 : decode cX3_init 25 = .ok (.putfield 23, 3) := by decide +kernel
theorem dX3_init_28 : decode cX3_init 28 = .ok (.return_, 1) := by decide +kernel
set_option maxRecDepth 20000 in
theorem ggX3_rankNow_X2_spreadVectors : GoodIn wsX3_rankNow wsX2_spreadVectors := goodIn_r _ [7, 8, 9, 10, 11, 12, 13, 14, 15, 16, 6, 17, 18, 19, 20, 21, 22, 23, 24, 25, 26, 27, 28, 29, 30, 31, 32, 33, 69, 70, 71, 72, 73, 74, 75, 76, 77, 78, 79, 80, 81, 82, 83, 84] (by decide +kernel) (by decide +kernel)
set_option maxRecDepth 20000 in
theorem gX3_rankNow_X2_spreadVectors : GoodIn wsX3_rankNow (wsV RX3 32 RX2 yX2_spreadVectors wsX2_spreadVectors) := goodIn_app (goodIn_of _ (by decide +kernel)) ggX3_rankNow_X2_spreadVectors
set_option maxRecDepth 20000 in
theorem ggX3_rankNow_X3_gather : GoodIn wsX3_rankNow wsX3_gather := goodIn_r _ [38, 39, 40, 1, 41, 42, 43, 44, 45, 46, 47, 27, 12, 28, 48, 49, 50, 37, 51, 52, 53, 54, 55, 29, 30, 31, 32, 33, 56, 57, 58, 59, 60, 61, 62, 63, 64, 65, 66, 67, 68, 69, 70, 71, 72, 73, 74, 75, 76, 77, 78, 79, 80, 81, 82, 83, 84] (by decide +kernel) (by decide +kernel)
set_option maxRecDepth 20000 in
theorem gX3_rankNow_X3_gather : GoodIn wsX3_rankNow (wsV RX3 36 RX3 yX3_gather wsX3_gather) := goodIn_app (goodIn_of _ (by decide +kernel)) ggX3_rankNow_X3_gather
theorem dX3_rankNow_0 : decode cX3_rankNow 0 = .ok (.aload_n 0, 1) := by decide +kernel
theorem dX3_rankNow_1 : decode cX3_rankNow 1 = .ok (.getfield 23, 3) := by decide +kernel
theorem dX3_rankNow_4 : decode cX3_rankNow 4 = .ok (.aload_n 0, 1) := by decide +kernel
theorem dX3_rankNow_5 : decode cX3_rankNow 5 = .ok (.getfield 23, 3) := by decide +kernel
theorem dX3_rankNow_8 : decode cX3_rankNow 8 = .ok (.getfield 27, 3) := by decide +kernel
theorem dX3_rankNow_11 : decode cX3_rankNow 11 = .ok (.invokevirtual 32, 3) := by decide +kernel
theorem dX3_rankNow_14 : decode cX3_rankNow 14 = .ok (.aload_n 0, 1) := by decide +kernel
theorem dX3_rankNow_15 : decode cX3_rankNow 15 = .ok (.iload_n 1, 1) := by decide +kernel
theorem dX3_rankNow_16 : decode cX3_rankNow 16 = .ok (.invokevirtual 36, 3) := by decide +kernel
theorem dX3_rankNow_19 : decode cX3_rankNow 19 = .ok (.ireturn, 1) := by decide +kernel
set_option maxRecDepth 20000 in
theorem ggX3_gather_J7_fill_d0a16 : GoodIn wsX3_gather wsJ7_fill_d0a16 := goodIn_r _ [10] (by decide +kernel) (by decide +kernel)
set_option maxRecDepth 20000 in
theorem gX3_gather_J7_fill_d0a16 : GoodIn wsX3_gather (va_wsS RX3 40 yJ7_fill_d0a16 wsJ7_fill_d0a16) := goodIn_app (goodIn_of _ (by decide +kernel)) ggX3_gather_J7_fill_d0a16
set_option maxRecDepth 20000 in
theorem ggX3_gather_X5_slot : GoodIn wsX3_gather wsX5_slot := goodIn_r _ [13] (by decide +kernel) (by decide +kernel)
set_option maxRecDepth 20000 in
theorem gX3_gather_X5_slot_n55 : GoodIn wsX3_gather (wsX5_slot) := ggX3_gather_X5_slot
set_option maxRecDepth 20000 in
theorem ggX3_gather_X3_take : GoodIn wsX3_gather wsX3_take := goodIn_r _ [18, 3, 19, 1, 5, 2, 20, 21, 12, 22, 23, 24, 25, 26, 27, 28, 29, 17, 30, 31, 32, 33, 34, 35, 36, 37, 38, 39, 40, 41, 42, 43, 44, 45, 46, 47, 48, 49, 50, 51, 52, 53, 54, 55, 56] (by decide +kernel) (by decide +kernel)
set_option maxRecDepth 20000 in
theorem gX3_gather_X3_take : GoodIn wsX3_gather (wsV RX3 59 RX3 yX3_take wsX3_take) := goodIn_app (goodIn_of _ (by decide +kernel)) ggX3_gather_X3_take
theorem dX3_gather_0 : decode cX3_gather 0 = .ok (.aload_n 0, 1) := by decide +kernel
theorem dX3_gather_1 : decode cX3_gather 1 = .ok (.iconst 0, 1) := by decide +kernel
theorem dX3_gather_2 : decode cX3_gather 2 = .ok (.putfield 19, 3) := by decide +kernel
theorem dX3_gather_5 : decode cX3_gather 5 = .ok (.aload_n 0, 1) := by decide +kernel
theorem dX3_gather_6 : decode cX3_gather 6 = .ok (.getfield 9, 3) := by decide +kernel
theorem dX3_gather_9 : decode cX3_gather 9 = .ok (.lconst 0, 1) := by decide +kernel
theorem dX3_gather_10 : decode cX3_gather 10 = .ok (.invokestatic 40, 3) := by decide +kernel
theorem dX3_gather_13 : decode cX3_gather 13 = .ok (.iconst 0, 1) := by decide +kernel
theorem dX3_gather_14 : decode cX3_gather 14 = .ok (.istore_n 2, 1) := by decide +kernel
theorem dX3_gather_15 : decode cX3_gather 15 = .ok (.iload_n 2, 1) := by decide +kernel
theorem dX3_gather_16 : decode cX3_gather 16 = .ok (.aload_n 0, 1) := by decide +kernel
theorem dX3_gather_17 : decode cX3_gather 17 = .ok (.getfield 23, 3) := by decide +kernel
theorem dX3_gather_20 : decode cX3_gather 20 = .ok (.getfield 46, 3) := by decide +kernel
theorem dX3_gather_23 : decode cX3_gather 23 = .ok (.iload_n 1, 1) := by decide +kernel
theorem dX3_gather_24 : decode cX3_gather 24 = .ok (.iaload, 1) := by decide +kernel
theorem dX3_gather_25 : decode cX3_gather 25 = .ok (.if_icmp .ge 40, 3) := by decide +kernel
theorem dX3_gather_28 : decode cX3_gather 28 = .ok (.aload_n 0, 1) := by decide +kernel
theorem dX3_gather_29 : decode cX3_gather 29 = .ok (.getfield 19, 3) := by decide +kernel
theorem dX3_gather_32 : decode cX3_gather 32 = .ok (.aload_n 0, 1) := by decide +kernel
theorem dX3_gather_33 : decode cX3_gather 33 = .ok (.getfield 23, 3) := by decide +kernel
theorem dX3_gather_36 : decode cX3_gather 36 = .ok (.getfield 49, 3) := by decide +kernel
theorem dX3_gather_39 : decode cX3_gather 39 = .ok (.if_icmp .ge 26, 3) := by decide +kernel
theorem dX3_gather_42 : decode cX3_gather 42 = .ok (.aload_n 0, 1) := by decide +kernel
theorem dX3_gather_43 : decode cX3_gather 43 = .ok (.aload_n 0, 1) := by decide +kernel
theorem dX3_gather_44 : decode cX3_gather 44 = .ok (.getfield 23, 3) := by decide +kernel
theorem dX3_gather_47 : decode cX3_gather 47 = .ok (.getfield 52, 3) := by decide +kernel
theorem dX3_gather_50 : decode cX3_gather 50 = .ok (.iload_n 1, 1) := by decide +kernel
theorem dX3_gather_51 : decode cX3_gather 51 = .ok (.iload_n 2, 1) := by decide +kernel
theorem dX3_gather_52 : decode cX3_gather 52 = .ok (.invokestatic 55, 3) := by decide +kernel
theorem dX3_gather_55 : decode cX3_gather 55 = .ok (.iaload, 1) := by decide +kernel
theorem dX3_gather_56 : decode cX3_gather 56 = .ok (.invokevirtual 59, 3) := by decide +kernel
theorem dX3_gather_59 : decode cX3_gather 59 = .ok (.iinc 2 1, 3) := by decide +kernel
theorem dX3_gather_62 : decode cX3_gather 62 = .ok (.goto (-47), 3) := by decide +kernel
theorem dX3_gather_65 : decode cX3_gather 65 = .ok (.aload_n 0, 1) := by decide +kernel
theorem dX3_gather_66 : decode cX3_gather 66 = .ok (.getfield 19, 3) := by decide +kernel
theorem dX3_gather_69 : decode cX3_gather 69 = .ok (.ireturn, 1) := by decide +kernel
set_option maxRecDepth 20000 in
theorem ggX3_take_X5_byteOf : GoodIn wsX3_take wsX5_byteOf := goodIn_r _ [9] (by decide +kernel) (by decide +kernel)
set_option maxRecDepth 20000 in
theorem gX3_take_X5_byteOf_n68 : GoodIn wsX3_take (wsX5_byteOf) := ggX3_take_X5_byteOf
set_option maxRecDepth 20000 in
theorem ggX3_take_X5_scaled : GoodIn wsX3_take wsX5_scaled := goodIn_r _ [11, 12, 13, 14] (by decide +kernel) (by decide +kernel)
set_option maxRecDepth 20000 in
theorem gX3_take_X5_scaled_n72 : GoodIn wsX3_take (wsX5_scaled) := ggX3_take_X5_scaled
set_option maxRecDepth 20000 in
theorem ggX3_take_X3_lastPieceIn : GoodIn wsX3_take wsX3_lastPieceIn := goodIn_r _ [18, 7, 8, 9] (by decide +kernel) (by decide +kernel)
set_option maxRecDepth 20000 in
theorem gX3_take_X3_lastPieceIn : GoodIn wsX3_take (va_wsS RX3 76 yX3_lastPieceIn wsX3_lastPieceIn) := goodIn_app (goodIn_of _ (by decide +kernel)) ggX3_take_X3_lastPieceIn
set_option maxRecDepth 20000 in
theorem ggX3_take_X5_inverseOf : GoodIn wsX3_take wsX5_inverseOf := goodIn_r _ [20, 21, 22, 8, 23, 24, 10, 11, 12, 13, 14] (by decide +kernel) (by decide +kernel)
set_option maxRecDepth 20000 in
theorem gX3_take_X5_inverseOf_n79 : GoodIn wsX3_take (wsX5_inverseOf) := ggX3_take_X5_inverseOf
theorem dX3_take_0 : decode cX3_take 0 = .ok (.aload_n 0, 1) := by decide +kernel
theorem dX3_take_1 : decode cX3_take 1 = .ok (.getfield 23, 3) := by decide +kernel
theorem dX3_take_4 : decode cX3_take 4 = .ok (.getfield 62, 3) := by decide +kernel
theorem dX3_take_7 : decode cX3_take 7 = .ok (.iload_n 1, 1) := by decide +kernel
theorem dX3_take_8 : decode cX3_take 8 = .ok (.laload, 1) := by decide +kernel
theorem dX3_take_9 : decode cX3_take 9 = .ok (.getstatic 65, 3) := by decide +kernel
theorem dX3_take_12 : decode cX3_take 12 = .ok (.aload_n 0, 1) := by decide +kernel
theorem dX3_take_13 : decode cX3_take 13 = .ok (.getfield 19, 3) := by decide +kernel
theorem dX3_take_16 : decode cX3_take 16 = .ok (.laload, 1) := by decide +kernel
theorem dX3_take_17 : decode cX3_take 17 = .ok (.bipush 32, 2) := by decide +kernel
theorem dX3_take_19 : decode cX3_take 19 = .ok (.lshl, 1) := by decide +kernel
theorem dX3_take_20 : decode cX3_take 20 = .ok (.lor, 1) := by decide +kernel
theorem dX3_take_21 : decode cX3_take 21 = .ok (.lstore_n 2, 1) := by decide +kernel
theorem dX3_take_22 : decode cX3_take 22 = .ok (.iconst 0, 1) := by decide +kernel
theorem dX3_take_23 : decode cX3_take 23 = .ok (.istore 4, 2) := by decide +kernel
theorem dX3_take_25 : decode cX3_take 25 = .ok (.iload 4, 2) := by decide +kernel
theorem dX3_take_27 : decode cX3_take 27 = .ok (.aload_n 0, 1) := by decide +kernel
theorem dX3_take_28 : decode cX3_take 28 = .ok (.getfield 23, 3) := by decide +kernel
theorem dX3_take_31 : decode cX3_take 31 = .ok (.getfield 49, 3) := by decide +kernel
theorem dX3_take_34 : decode cX3_take 34 = .ok (.if_icmp .ge 28, 3) := by decide +kernel
theorem dX3_take_37 : decode cX3_take 37 = .ok (.lload_n 2, 1) := by decide +kernel
theorem dX3_take_38 : decode cX3_take 38 = .ok (.aload_n 0, 1) := by decide +kernel
theorem dX3_take_39 : decode cX3_take 39 = .ok (.getfield 9, 3) := by decide +kernel
theorem dX3_take_42 : decode cX3_take 42 = .ok (.iload 4, 2) := by decide +kernel
theorem dX3_take_44 : decode cX3_take 44 = .ok (.laload, 1) := by decide +kernel
theorem dX3_take_45 : decode cX3_take 45 = .ok (.lload_n 2, 1) := by decide +kernel
theorem dX3_take_46 : decode cX3_take 46 = .ok (.iload 4, 2) := by decide +kernel
theorem dX3_take_48 : decode cX3_take 48 = .ok (.invokestatic 68, 3) := by decide +kernel
theorem dX3_take_51 : decode cX3_take 51 = .ok (.invokestatic 72, 3) := by decide +kernel
theorem dX3_take_54 : decode cX3_take 54 = .ok (.lxor, 1) := by decide +kernel
theorem dX3_take_55 : decode cX3_take 55 = .ok (.lstore_n 2, 1) := by decide +kernel
theorem dX3_take_56 : decode cX3_take 56 = .ok (.iinc 4 1, 3) := by decide +kernel
theorem dX3_take_59 : decode cX3_take 59 = .ok (.goto (-34), 3) := by decide +kernel
theorem dX3_take_62 : decode cX3_take 62 = .ok (.lload_n 2, 1) := by decide +kernel
theorem dX3_take_63 : decode cX3_take 63 = .ok (.aload_n 0, 1) := by decide +kernel
theorem dX3_take_64 : decode cX3_take 64 = .ok (.getfield 23, 3) := by decide +kernel
theorem dX3_take_67 : decode cX3_take 67 = .ok (.getfield 49, 3) := by decide +kernel
theorem dX3_take_70 : decode cX3_take 70 = .ok (.invokestatic 76, 3) := by decide +kernel
theorem dX3_take_73 : decode cX3_take 73 = .ok (.istore 4, 2) := by decide +kernel
theorem dX3_take_75 : decode cX3_take 75 = .ok (.iload 4, 2) := by decide +kernel
theorem dX3_take_77 : decode cX3_take 77 = .ok (.iconst (-1), 1) := by decide +kernel
theorem dX3_take_78 : decode cX3_take 78 = .ok (.if_icmp .ne 4, 3) := by decide +kernel
theorem dX3_take_81 : decode cX3_take 81 = .ok (.return_, 1) := by decide +kernel
theorem dX3_take_82 : decode cX3_take 82 = .ok (.lload_n 2, 1) := by decide +kernel
theorem dX3_take_83 : decode cX3_take 83 = .ok (.lload_n 2, 1) := by decide +kernel
theorem dX3_take_84 : decode cX3_take 84 = .ok (.iload 4, 2) := by decide +kernel
theorem dX3_take_86 : decode cX3_take 86 = .ok (.invokestatic 68, 3) := by decide +kernel
theorem dX3_take_89 : decode cX3_take 89 = .ok (.invokestatic 79, 3) := by decide +kernel
theorem dX3_take_92 : decode cX3_take 92 = .ok (.invokestatic 72, 3) := by decide +kernel
theorem dX3_take_95 : decode cX3_take 95 = .ok (.lstore_n 2, 1) := by decide +kernel
theorem dX3_take_96 : decode cX3_take 96 = .ok (.iconst 0, 1) := by decide +kernel
theorem dX3_take_97 : decode cX3_take 97 = .ok (.istore 5, 2) := by decide +kernel
theorem dX3_take_99 : decode cX3_take 99 = .ok (.iload 5, 2) := by decide +kernel
theorem dX3_take_101 : decode cX3_take 101 = .ok (.aload_n 0, 1) := by decide +kernel
theorem dX3_take_102 : decode cX3_take 102 = .ok (.getfield 23, 3) := by decide +kernel
theorem dX3_take_105 : decode cX3_take 105 = .ok (.getfield 49, 3) := by decide +kernel
theorem dX3_take_108 : decode cX3_take 108 = .ok (.if_icmp .ge 35, 3) := by decide +kernel
theorem dX3_take_111 : decode cX3_take 111 = .ok (.aload_n 0, 1) := by decide +kernel
theorem dX3_take_112 : decode cX3_take 112 = .ok (.getfield 9, 3) := by decide +kernel
theorem dX3_take_115 : decode cX3_take 115 = .ok (.iload 5, 2) := by decide +kernel
theorem dX3_take_117 : decode cX3_take 117 = .ok (.dup2, 1) := by decide +kernel
theorem dX3_take_118 : decode cX3_take 118 = .ok (.laload, 1) := by decide +kernel
theorem dX3_take_119 : decode cX3_take 119 = .ok (.lload_n 2, 1) := by decide +kernel
theorem dX3_take_120 : decode cX3_take 120 = .ok (.aload_n 0, 1) := by decide +kernel
theorem dX3_take_121 : decode cX3_take 121 = .ok (.getfield 9, 3) := by decide +kernel
theorem dX3_take_124 : decode cX3_take 124 = .ok (.iload 5, 2) := by decide +kernel
theorem dX3_take_126 : decode cX3_take 126 = .ok (.laload, 1) := by decide +kernel
theorem dX3_take_127 : decode cX3_take 127 = .ok (.iload 4, 2) := by decide +kernel
theorem dX3_take_129 : decode cX3_take 129 = .ok (.invokestatic 68, 3) := by decide +kernel
theorem dX3_take_132 : decode cX3_take 132 = .ok (.invokestatic 72, 3) := by decide +kernel
theorem dX3_take_135 : decode cX3_take 135 = .ok (.lxor, 1) := by decide +kernel
theorem dX3_take_136 : decode cX3_take 136 = .ok (.lastore, 1) := by decide +kernel
theorem dX3_take_137 : decode cX3_take 137 = .ok (.iinc 5 1, 3) := by decide +kernel
theorem dX3_take_140 : decode cX3_take 140 = .ok (.goto (-41), 3) := by decide +kernel
theorem dX3_take_143 : decode cX3_take 143 = .ok (.aload_n 0, 1) := by decide +kernel
theorem dX3_take_144 : decode cX3_take 144 = .ok (.getfield 9, 3) := by decide +kernel
theorem dX3_take_147 : decode cX3_take 147 = .ok (.iload 4, 2) := by decide +kernel
theorem dX3_take_149 : decode cX3_take 149 = .ok (.lload_n 2, 1) := by decide +kernel
theorem dX3_take_150 : decode cX3_take 150 = .ok (.lastore, 1) := by decide +kernel
theorem dX3_take_151 : decode cX3_take 151 = .ok (.aload_n 0, 1) := by decide +kernel
theorem dX3_take_152 : decode cX3_take 152 = .ok (.getfield 15, 3) := by decide +kernel
theorem dX3_take_155 : decode cX3_take 155 = .ok (.aload_n 0, 1) := by decide +kernel
theorem dX3_take_156 : decode cX3_take 156 = .ok (.getfield 19, 3) := by decide +kernel
theorem dX3_take_159 : decode cX3_take 159 = .ok (.iload_n 1, 1) := by decide +kernel
theorem dX3_take_160 : decode cX3_take 160 = .ok (.iastore, 1) := by decide +kernel
theorem dX3_take_161 : decode cX3_take 161 = .ok (.aload_n 0, 1) := by decide +kernel
theorem dX3_take_162 : decode cX3_take 162 = .ok (.dup, 1) := by decide +kernel
theorem dX3_take_163 : decode cX3_take 163 = .ok (.getfield 19, 3) := by decide +kernel
theorem dX3_take_166 : decode cX3_take 166 = .ok (.iconst 1, 1) := by decide +kernel
theorem dX3_take_167 : decode cX3_take 167 = .ok (.iadd, 1) := by decide +kernel
theorem dX3_take_168 : decode cX3_take 168 = .ok (.putfield 19, 3) := by decide +kernel
theorem dX3_take_171 : decode cX3_take 171 = .ok (.return_, 1) := by decide +kernel
set_option maxRecDepth 20000 in
theorem ggX3_lastPieceIn_X5_byteOf : GoodIn wsX3_lastPieceIn wsX5_byteOf := goodIn_r _ [3] (by decide +kernel) (by decide +kernel)
set_option maxRecDepth 20000 in
theorem gX3_lastPieceIn_X5_byteOf_n68 : GoodIn wsX3_lastPieceIn (wsX5_byteOf) := ggX3_lastPieceIn_X5_byteOf
theorem dX3_lastPieceIn_0 : decode cX3_lastPieceIn 0 = .ok (.iload_n 2, 1) := by decide +kernel
theorem dX3_lastPieceIn_1 : decode cX3_lastPieceIn 1 = .ok (.iconst 1, 1) := by decide +kernel
theorem dX3_lastPieceIn_2 : decode cX3_lastPieceIn 2 = .ok (.isub, 1) := by decide +kernel
theorem dX3_lastPieceIn_3 : decode cX3_lastPieceIn 3 = .ok (.istore_n 3, 1) := by decide +kernel
theorem dX3_lastPieceIn_4 : decode cX3_lastPieceIn 4 = .ok (.iload_n 3, 1) := by decide +kernel
theorem dX3_lastPieceIn_5 : decode cX3_lastPieceIn 5 = .ok (.ifCond .lt 19, 3) := by decide +kernel
theorem dX3_lastPieceIn_8 : decode cX3_lastPieceIn 8 = .ok (.lload_n 0, 1) := by decide +kernel
theorem dX3_lastPieceIn_9 : decode cX3_lastPieceIn 9 = .ok (.iload_n 3, 1) := by decide +kernel
theorem dX3_lastPieceIn_10 : decode cX3_lastPieceIn 10 = .ok (.invokestatic 68, 3) := by decide +kernel
theorem dX3_lastPieceIn_13 : decode cX3_lastPieceIn 13 = .ok (.ifCond .eq 5, 3) := by decide +kernel
theorem dX3_lastPieceIn_16 : decode cX3_lastPieceIn 16 = .ok (.iload_n 3, 1) := by decide +kernel
theorem dX3_lastPieceIn_17 : decode cX3_lastPieceIn 17 = .ok (.ireturn, 1) := by decide +kernel
theorem dX3_lastPieceIn_18 : decode cX3_lastPieceIn 18 = .ok (.iinc 3 (-1), 3) := by decide +kernel
theorem dX3_lastPieceIn_21 : decode cX3_lastPieceIn 21 = .ok (.goto (-17), 3) := by decide +kernel
theorem dX3_lastPieceIn_24 : decode cX3_lastPieceIn 24 = .ok (.iconst (-1), 1) := by decide +kernel
theorem dX3_lastPieceIn_25 : decode cX3_lastPieceIn 25 = .ok (.ireturn, 1) := by decide +kernel
theorem dX3_worksOut_0 : decode cX3_worksOut 0 = .ok (.aload_n 0, 1) := by decide +kernel
theorem dX3_worksOut_1 : decode cX3_worksOut 1 = .ok (.getfield 9, 3) := by decide +kernel
theorem dX3_worksOut_4 : decode cX3_worksOut 4 = .ok (.iload_n 1, 1) := by decide +kernel
theorem dX3_worksOut_5 : decode cX3_worksOut 5 = .ok (.laload, 1) := by decide +kernel
theorem dX3_worksOut_6 : decode cX3_worksOut 6 = .ok (.ldc2_w 82, 3) := by decide +kernel
theorem dX3_worksOut_9 : decode cX3_worksOut 9 = .ok (.land, 1) := by decide +kernel
theorem dX3_worksOut_10 : decode cX3_worksOut 10 = .ok (.getstatic 65, 3) := by decide +kernel
theorem dX3_worksOut_13 : decode cX3_worksOut 13 = .ok (.iload_n 1, 1) := by decide +kernel
theorem dX3_worksOut_14 : decode cX3_worksOut 14 = .ok (.laload, 1) := by decide +kernel
theorem dX3_worksOut_15 : decode cX3_worksOut 15 = .ok (.lcmp, 1) := by decide +kernel
theorem dX3_worksOut_16 : decode cX3_worksOut 16 = .ok (.ifCond .ne 7, 3) := by decide +kernel
theorem dX3_worksOut_19 : decode cX3_worksOut 19 = .ok (.iconst 1, 1) := by decide +kernel
theorem dX3_worksOut_20 : decode cX3_worksOut 20 = .ok (.goto 4, 3) := by decide +kernel
theorem dX3_worksOut_23 : decode cX3_worksOut 23 = .ok (.iconst 0, 1) := by decide +kernel
theorem dX3_worksOut_24 : decode cX3_worksOut 24 = .ok (.ireturn, 1) := by decide +kernel
set_option maxRecDepth 20000 in
theorem ggX3_keyNumber_X5_byteOf : GoodIn wsX3_keyNumber wsX5_byteOf := goodIn_r _ [4] (by decide +kernel) (by decide +kernel)
set_option maxRecDepth 20000 in
theorem gX3_keyNumber_X5_byteOf_n68 : GoodIn wsX3_keyNumber (wsX5_byteOf) := ggX3_keyNumber_X5_byteOf
theorem dX3_keyNumber_0 : decode cX3_keyNumber 0 = .ok (.aload_n 0, 1) := by decide +kernel
theorem dX3_keyNumber_1 : decode cX3_keyNumber 1 = .ok (.getfield 9, 3) := by decide +kernel
theorem dX3_keyNumber_4 : decode cX3_keyNumber 4 = .ok (.iload_n 1, 1) := by decide +kernel
theorem dX3_keyNumber_5 : decode cX3_keyNumber 5 = .ok (.laload, 1) := by decide +kernel
theorem dX3_keyNumber_6 : decode cX3_keyNumber 6 = .ok (.iconst 4, 1) := by decide +kernel
theorem dX3_keyNumber_7 : decode cX3_keyNumber 7 = .ok (.iload_n 2, 1) := by decide +kernel
theorem dX3_keyNumber_8 : decode cX3_keyNumber 8 = .ok (.iadd, 1) := by decide +kernel
theorem dX3_keyNumber_9 : decode cX3_keyNumber 9 = .ok (.invokestatic 68, 3) := by decide +kernel
theorem dX3_keyNumber_12 : decode cX3_keyNumber 12 = .ok (.ireturn, 1) := by decide +kernel
set_option maxRecDepth 20000 in
theorem ggX3_bytesFor_X3_keyNumber : GoodIn wsX3_bytesFor wsX3_keyNumber := goodIn_r _ [9, 10, 11, 12, 13, 19, 20, 21, 22] (by decide +kernel) (by decide +kernel)
set_option maxRecDepth 20000 in
theorem gX3_bytesFor_X3_keyNumber : GoodIn wsX3_bytesFor (wsV RX3 87 RX3 yX3_keyNumber wsX3_keyNumber) := goodIn_app (goodIn_of _ (by decide +kernel)) ggX3_bytesFor_X3_keyNumber
set_option maxRecDepth 20000 in
theorem ggX3_bytesFor_X5_scaled : GoodIn wsX3_bytesFor wsX5_scaled := goodIn_r _ [15, 16, 17, 18] (by decide +kernel) (by decide +kernel)
set_option maxRecDepth 20000 in
theorem gX3_bytesFor_X5_scaled_n72 : GoodIn wsX3_bytesFor (wsX5_scaled) := ggX3_bytesFor_X5_scaled
theorem dX3_bytesFor_0 : decode cX3_bytesFor 0 = .ok (.lconst 0, 1) := by decide +kernel
theorem dX3_bytesFor_1 : decode cX3_bytesFor 1 = .ok (.lstore_n 2, 1) := by decide +kernel
end
section
theorem dX3_bytesFor_2 : decode cX3_bytesFor 2 = .ok (.iconst 0, 1) := by decide +kernel
theorem dX3_bytesFor_3 : decode cX3_bytesFor 3 = .ok (.istore 4, 2) := by decide +kernel
theorem dX3_bytesFor_5 : decode cX3_bytesFor 5 = .ok (.iload 4, 2) := by decide +kernel
theorem dX3_bytesFor_7 : decode cX3_bytesFor 7 = .ok (.aload_n 0, 1) := by decide +kernel
theorem dX3_bytesFor_8 : decode cX3_bytesFor 8 = .ok (.getfield 19, 3) := by decide +kernel
theorem dX3_bytesFor_11 : decode cX3_bytesFor 11 = .ok (.if_icmp .ge 37, 3) := by decide +kernel
theorem dX3_bytesFor_14 : decode cX3_bytesFor 14 = .ok (.lload_n 2, 1) := by decide +kernel
theorem dX3_bytesFor_15 : decode cX3_bytesFor 15 = .ok (.aload_n 0, 1) := by decide +kernel
theorem dX3_bytesFor_16 : decode cX3_bytesFor 16 = .ok (.getfield 23, 3) := by decide +kernel
theorem dX3_bytesFor_19 : decode cX3_bytesFor 19 = .ok (.getfield 84, 3) := by decide +kernel
theorem dX3_bytesFor_22 : decode cX3_bytesFor 22 = .ok (.aload_n 0, 1) := by decide +kernel
theorem dX3_bytesFor_23 : decode cX3_bytesFor 23 = .ok (.getfield 15, 3) := by decide +kernel
theorem dX3_bytesFor_26 : decode cX3_bytesFor 26 = .ok (.iload 4, 2) := by decide +kernel
theorem dX3_bytesFor_28 : decode cX3_bytesFor 28 = .ok (.iaload, 1) := by decide +kernel
theorem dX3_bytesFor_29 : decode cX3_bytesFor 29 = .ok (.laload, 1) := by decide +kernel
theorem dX3_bytesFor_30 : decode cX3_bytesFor 30 = .ok (.aload_n 0, 1) := by decide +kernel
theorem dX3_bytesFor_31 : decode cX3_bytesFor 31 = .ok (.iload_n 1, 1) := by decide +kernel
theorem dX3_bytesFor_32 : decode cX3_bytesFor 32 = .ok (.iload 4, 2) := by decide +kernel
theorem dX3_bytesFor_34 : decode cX3_bytesFor 34 = .ok (.invokevirtual 87, 3) := by decide +kernel
theorem dX3_bytesFor_37 : decode cX3_bytesFor 37 = .ok (.invokestatic 72, 3) := by decide +kernel
theorem dX3_bytesFor_40 : decode cX3_bytesFor 40 = .ok (.lxor, 1) := by decide +kernel
theorem dX3_bytesFor_41 : decode cX3_bytesFor 41 = .ok (.lstore_n 2, 1) := by decide +kernel
theorem dX3_bytesFor_42 : decode cX3_bytesFor 42 = .ok (.iinc 4 1, 3) := by decide +kernel
theorem dX3_bytesFor_45 : decode cX3_bytesFor 45 = .ok (.goto (-40), 3) := by decide +kernel
theorem dX3_bytesFor_48 : decode cX3_bytesFor 48 = .ok (.lload_n 2, 1) := by decide +kernel
theorem dX3_bytesFor_49 : decode cX3_bytesFor 49 = .ok (.lreturn, 1) := by decide +kernel
set_option maxRecDepth 20000 in
theorem ggX3_lackNumber_X3_lastPieceIn : GoodIn wsX3_lackNumber wsX3_lastPieceIn := goodIn_r _ [5, 6, 7, 8] (by decide +kernel) (by decide +kernel)
set_option maxRecDepth 20000 in
theorem gX3_lackNumber_X3_lastPieceIn : GoodIn wsX3_lackNumber (va_wsS RX3 76 yX3_lastPieceIn wsX3_lastPieceIn) := goodIn_app (goodIn_of _ (by decide +kernel)) ggX3_lackNumber_X3_lastPieceIn
set_option maxRecDepth 20000 in
theorem ggX3_lackNumber_X5_byteOf : GoodIn wsX3_lackNumber wsX5_byteOf := goodIn_r _ [8] (by decide +kernel) (by decide +kernel)
set_option maxRecDepth 20000 in
theorem gX3_lackNumber_X5_byteOf_n68 : GoodIn wsX3_lackNumber (wsX5_byteOf) := ggX3_lackNumber_X5_byteOf
set_option maxRecDepth 20000 in
theorem ggX3_lackNumber_X5_inverseOf : GoodIn wsX3_lackNumber wsX5_inverseOf := goodIn_r _ [10, 11, 12, 7, 13, 14, 15, 16, 17, 18, 19] (by decide +kernel) (by decide +kernel)
set_option maxRecDepth 20000 in
theorem gX3_lackNumber_X5_inverseOf_n79 : GoodIn wsX3_lackNumber (wsX5_inverseOf) := ggX3_lackNumber_X5_inverseOf
set_option maxRecDepth 20000 in
theorem ggX3_lackNumber_X5_product : GoodIn wsX3_lackNumber wsX5_product := goodIn_r _ [13, 14, 15, 7, 16, 17, 18, 19] (by decide +kernel) (by decide +kernel)
set_option maxRecDepth 20000 in
theorem gX3_lackNumber_X5_product_n90 : GoodIn wsX3_lackNumber (wsX5_product) := ggX3_lackNumber_X5_product
theorem dX3_lackNumber_0 : decode cX3_lackNumber 0 = .ok (.aload_n 0, 1) := by decide +kernel
theorem dX3_lackNumber_1 : decode cX3_lackNumber 1 = .ok (.getfield 9, 3) := by decide +kernel
theorem dX3_lackNumber_4 : decode cX3_lackNumber 4 = .ok (.iload_n 1, 1) := by decide +kernel
theorem dX3_lackNumber_5 : decode cX3_lackNumber 5 = .ok (.laload, 1) := by decide +kernel
theorem dX3_lackNumber_6 : decode cX3_lackNumber 6 = .ok (.lconst 0, 1) := by decide +kernel
theorem dX3_lackNumber_7 : decode cX3_lackNumber 7 = .ok (.lcmp, 1) := by decide +kernel
theorem dX3_lackNumber_8 : decode cX3_lackNumber 8 = .ok (.ifCond .ne 7, 3) := by decide +kernel
theorem dX3_lackNumber_11 : decode cX3_lackNumber 11 = .ok (.iload_n 1, 1) := by decide +kernel
theorem dX3_lackNumber_12 : decode cX3_lackNumber 12 = .ok (.goto 13, 3) := by decide +kernel
theorem dX3_lackNumber_15 : decode cX3_lackNumber 15 = .ok (.aload_n 0, 1) := by decide +kernel
theorem dX3_lackNumber_16 : decode cX3_lackNumber 16 = .ok (.getfield 9, 3) := by decide +kernel
theorem dX3_lackNumber_19 : decode cX3_lackNumber 19 = .ok (.iload_n 1, 1) := by decide +kernel
theorem dX3_lackNumber_20 : decode cX3_lackNumber 20 = .ok (.laload, 1) := by decide +kernel
theorem dX3_lackNumber_21 : decode cX3_lackNumber 21 = .ok (.iload_n 1, 1) := by decide +kernel
theorem dX3_lackNumber_22 : decode cX3_lackNumber 22 = .ok (.invokestatic 76, 3) := by decide +kernel
theorem dX3_lackNumber_25 : decode cX3_lackNumber 25 = .ok (.istore_n 3, 1) := by decide +kernel
theorem dX3_lackNumber_26 : decode cX3_lackNumber 26 = .ok (.iload_n 3, 1) := by decide +kernel
theorem dX3_lackNumber_27 : decode cX3_lackNumber 27 = .ok (.iconst (-1), 1) := by decide +kernel
theorem dX3_lackNumber_28 : decode cX3_lackNumber 28 = .ok (.if_icmp .ne 5, 3) := by decide +kernel
theorem dX3_lackNumber_31 : decode cX3_lackNumber 31 = .ok (.iconst (-1), 1) := by decide +kernel
theorem dX3_lackNumber_32 : decode cX3_lackNumber 32 = .ok (.ireturn, 1) := by decide +kernel
theorem dX3_lackNumber_33 : decode cX3_lackNumber 33 = .ok (.iload_n 3, 1) := by decide +kernel
theorem dX3_lackNumber_34 : decode cX3_lackNumber 34 = .ok (.iload_n 1, 1) := by decide +kernel
theorem dX3_lackNumber_35 : decode cX3_lackNumber 35 = .ok (.if_icmp .ne 7, 3) := by decide +kernel
theorem dX3_lackNumber_38 : decode cX3_lackNumber 38 = .ok (.iconst 1, 1) := by decide +kernel
theorem dX3_lackNumber_39 : decode cX3_lackNumber 39 = .ok (.goto 16, 3) := by decide +kernel
theorem dX3_lackNumber_42 : decode cX3_lackNumber 42 = .ok (.aload_n 0, 1) := by decide +kernel
theorem dX3_lackNumber_43 : decode cX3_lackNumber 43 = .ok (.getfield 9, 3) := by decide +kernel
theorem dX3_lackNumber_46 : decode cX3_lackNumber 46 = .ok (.iload_n 1, 1) := by decide +kernel
theorem dX3_lackNumber_47 : decode cX3_lackNumber 47 = .ok (.laload, 1) := by decide +kernel
theorem dX3_lackNumber_48 : decode cX3_lackNumber 48 = .ok (.iload_n 3, 1) := by decide +kernel
theorem dX3_lackNumber_49 : decode cX3_lackNumber 49 = .ok (.invokestatic 68, 3) := by decide +kernel
theorem dX3_lackNumber_52 : decode cX3_lackNumber 52 = .ok (.invokestatic 79, 3) := by decide +kernel
theorem dX3_lackNumber_55 : decode cX3_lackNumber 55 = .ok (.istore 4, 2) := by decide +kernel
theorem dX3_lackNumber_57 : decode cX3_lackNumber 57 = .ok (.iload_n 2, 1) := by decide +kernel
theorem dX3_lackNumber_58 : decode cX3_lackNumber 58 = .ok (.iload_n 3, 1) := by decide +kernel
theorem dX3_lackNumber_59 : decode cX3_lackNumber 59 = .ok (.if_icmp .ne 8, 3) := by decide +kernel
theorem dX3_lackNumber_62 : decode cX3_lackNumber 62 = .ok (.iload 4, 2) := by decide +kernel
theorem dX3_lackNumber_64 : decode cX3_lackNumber 64 = .ok (.goto 18, 3) := by decide +kernel
theorem dX3_lackNumber_67 : decode cX3_lackNumber 67 = .ok (.aload_n 0, 1) := by decide +kernel
theorem dX3_lackNumber_68 : decode cX3_lackNumber 68 = .ok (.getfield 9, 3) := by decide +kernel
theorem dX3_lackNumber_71 : decode cX3_lackNumber 71 = .ok (.iload_n 2, 1) := by decide +kernel
theorem dX3_lackNumber_72 : decode cX3_lackNumber 72 = .ok (.laload, 1) := by decide +kernel
theorem dX3_lackNumber_73 : decode cX3_lackNumber 73 = .ok (.iload_n 3, 1) := by decide +kernel
theorem dX3_lackNumber_74 : decode cX3_lackNumber 74 = .ok (.invokestatic 68, 3) := by decide +kernel
theorem dX3_lackNumber_77 : decode cX3_lackNumber 77 = .ok (.iload 4, 2) := by decide +kernel
theorem dX3_lackNumber_79 : decode cX3_lackNumber 79 = .ok (.invokestatic 90, 3) := by decide +kernel
theorem dX3_lackNumber_82 : decode cX3_lackNumber 82 = .ok (.ireturn, 1) := by decide +kernel
set_option maxRecDepth 20000 in
theorem ggX3_isMisled_X3_worksOut : GoodIn wsX3_isMisled wsX3_worksOut := goodIn_r _ [8, 9, 10, 30, 31, 32, 33] (by decide +kernel) (by decide +kernel)
set_option maxRecDepth 20000 in
theorem gX3_isMisled_X3_worksOut : GoodIn wsX3_isMisled (wsV RX3 93 RX3 yX3_worksOut wsX3_worksOut) := goodIn_app (goodIn_of _ (by decide +kernel)) ggX3_isMisled_X3_worksOut
set_option maxRecDepth 20000 in
theorem ggX3_isMisled_X3_bytesFor : GoodIn wsX3_isMisled wsX3_bytesFor := goodIn_r _ [14, 15, 1, 16, 17, 18, 19, 20, 7, 21, 9, 22, 23, 24, 25, 26, 27, 28, 29, 30, 31, 32, 33, 34, 35, 36, 37, 38, 39, 40, 41, 42, 43, 44, 45, 46, 47, 48, 49] (by decide +kernel) (by decide +kernel)
set_option maxRecDepth 20000 in
theorem gX3_isMisled_X3_bytesFor : GoodIn wsX3_isMisled (wsV RX3 97 RX3 yX3_bytesFor wsX3_bytesFor) := goodIn_app (goodIn_of _ (by decide +kernel)) ggX3_isMisled_X3_bytesFor
theorem dX3_isMisled_0 : decode cX3_isMisled 0 = .ok (.iconst 0, 1) := by decide +kernel
theorem dX3_isMisled_1 : decode cX3_isMisled 1 = .ok (.istore_n 1, 1) := by decide +kernel
theorem dX3_isMisled_2 : decode cX3_isMisled 2 = .ok (.iload_n 1, 1) := by decide +kernel
theorem dX3_isMisled_3 : decode cX3_isMisled 3 = .ok (.aload_n 0, 1) := by decide +kernel
theorem dX3_isMisled_4 : decode cX3_isMisled 4 = .ok (.getfield 23, 3) := by decide +kernel
theorem dX3_isMisled_7 : decode cX3_isMisled 7 = .ok (.getfield 49, 3) := by decide +kernel
theorem dX3_isMisled_10 : decode cX3_isMisled 10 = .ok (.if_icmp .ge 37, 3) := by decide +kernel
theorem dX3_isMisled_13 : decode cX3_isMisled 13 = .ok (.aload_n 0, 1) := by decide +kernel
theorem dX3_isMisled_14 : decode cX3_isMisled 14 = .ok (.iload_n 1, 1) := by decide +kernel
theorem dX3_isMisled_15 : decode cX3_isMisled 15 = .ok (.invokevirtual 93, 3) := by decide +kernel
theorem dX3_isMisled_18 : decode cX3_isMisled 18 = .ok (.ifCond .eq 23, 3) := by decide +kernel
theorem dX3_isMisled_21 : decode cX3_isMisled 21 = .ok (.aload_n 0, 1) := by decide +kernel
theorem dX3_isMisled_22 : decode cX3_isMisled 22 = .ok (.iload_n 1, 1) := by decide +kernel
theorem dX3_isMisled_23 : decode cX3_isMisled 23 = .ok (.invokevirtual 97, 3) := by decide +kernel
theorem dX3_isMisled_26 : decode cX3_isMisled 26 = .ok (.aload_n 0, 1) := by decide +kernel
theorem dX3_isMisled_27 : decode cX3_isMisled 27 = .ok (.getfield 23, 3) := by decide +kernel
theorem dX3_isMisled_30 : decode cX3_isMisled 30 = .ok (.getfield 101, 3) := by decide +kernel
theorem dX3_isMisled_33 : decode cX3_isMisled 33 = .ok (.iload_n 1, 1) := by decide +kernel
theorem dX3_isMisled_34 : decode cX3_isMisled 34 = .ok (.laload, 1) := by decide +kernel
theorem dX3_isMisled_35 : decode cX3_isMisled 35 = .ok (.lcmp, 1) := by decide +kernel
theorem dX3_isMisled_36 : decode cX3_isMisled 36 = .ok (.ifCond .eq 5, 3) := by decide +kernel
theorem dX3_isMisled_39 : decode cX3_isMisled 39 = .ok (.iconst 1, 1) := by decide +kernel
theorem dX3_isMisled_40 : decode cX3_isMisled 40 = .ok (.ireturn, 1) := by decide +kernel
theorem dX3_isMisled_41 : decode cX3_isMisled 41 = .ok (.iinc 1 1, 3) := by decide +kernel
theorem dX3_isMisled_44 : decode cX3_isMisled 44 = .ok (.goto (-42), 3) := by decide +kernel
theorem dX3_isMisled_47 : decode cX3_isMisled 47 = .ok (.iconst 0, 1) := by decide +kernel
theorem dX3_isMisled_48 : decode cX3_isMisled 48 = .ok (.ireturn, 1) := by decide +kernel
set_option maxRecDepth 20000 in
theorem ggX3_unfinishedEnds_X2_spreadVectors : GoodIn wsX3_unfinishedEnds wsX2_spreadVectors := goodIn_r _ [10, 11, 12, 13, 14, 15, 16, 17, 18, 19, 9, 20, 21, 22, 23, 24, 25, 26, 27, 28, 29, 30, 31, 32, 33, 34, 35, 36, 71, 72, 73, 74, 75, 76, 77, 78, 79, 80, 81, 82, 83, 84, 85, 86] (by decide +kernel) (by decide +kernel)
set_option maxRecDepth 20000 in
theorem gX3_unfinishedEnds_X2_spreadVectors : GoodIn wsX3_unfinishedEnds (wsV RX3 32 RX2 yX2_spreadVectors wsX2_spreadVectors) := goodIn_app (goodIn_of _ (by decide +kernel)) ggX3_unfinishedEnds_X2_spreadVectors
set_option maxRecDepth 20000 in
theorem ggX3_unfinishedEnds_X5_flag : GoodIn wsX3_unfinishedEnds wsX5_flag := goodIn_r _ [16] (by decide +kernel) (by decide +kernel)
set_option maxRecDepth 20000 in
theorem gX3_unfinishedEnds_X5_flag_n110 : GoodIn wsX3_unfinishedEnds (wsX5_flag) := ggX3_unfinishedEnds_X5_flag
set_option maxRecDepth 20000 in
theorem ggX3_unfinishedEnds_X3_gather : GoodIn wsX3_unfinishedEnds wsX3_gather := goodIn_r _ [41, 42, 43, 1, 44, 5, 45, 46, 47, 48, 49, 30, 15, 31, 50, 51, 52, 40, 53, 54, 55, 56, 57, 32, 33, 34, 35, 36, 58, 59, 60, 61, 62, 63, 64, 65, 66, 67, 68, 69, 70, 71, 72, 73, 74, 75, 76, 77, 78, 79, 80, 81, 82, 83, 84, 85, 86] (by decide +kernel) (by decide +kernel)
set_option maxRecDepth 20000 in
theorem gX3_unfinishedEnds_X3_gather : GoodIn wsX3_unfinishedEnds (wsV RX3 36 RX3 yX3_gather wsX3_gather) := goodIn_app (goodIn_of _ (by decide +kernel)) ggX3_unfinishedEnds_X3_gather
theorem dX3_unfinishedEnds_0 : decode cX3_unfinishedEnds 0 = .ok (.aload_n 0, 1) := by decide +kernel
theorem dX3_unfinishedEnds_1 : decode cX3_unfinishedEnds 1 = .ok (.getfield 23, 3) := by decide +kernel
theorem dX3_unfinishedEnds_4 : decode cX3_unfinishedEnds 4 = .ok (.aload_n 0, 1) := by decide +kernel
theorem dX3_unfinishedEnds_5 : decode cX3_unfinishedEnds 5 = .ok (.getfield 23, 3) := by decide +kernel
theorem dX3_unfinishedEnds_8 : decode cX3_unfinishedEnds 8 = .ok (.getfield 27, 3) := by decide +kernel
theorem dX3_unfinishedEnds_11 : decode cX3_unfinishedEnds 11 = .ok (.invokevirtual 32, 3) := by decide +kernel
theorem dX3_unfinishedEnds_14 : decode cX3_unfinishedEnds 14 = .ok (.iconst 0, 1) := by decide +kernel
theorem dX3_unfinishedEnds_15 : decode cX3_unfinishedEnds 15 = .ok (.istore_n 1, 1) := by decide +kernel
theorem dX3_unfinishedEnds_16 : decode cX3_unfinishedEnds 16 = .ok (.iconst 1, 1) := by decide +kernel
theorem dX3_unfinishedEnds_17 : decode cX3_unfinishedEnds 17 = .ok (.istore_n 2, 1) := by decide +kernel
theorem dX3_unfinishedEnds_18 : decode cX3_unfinishedEnds 18 = .ok (.iload_n 2, 1) := by decide +kernel
theorem dX3_unfinishedEnds_19 : decode cX3_unfinishedEnds 19 = .ok (.aload_n 0, 1) := by decide +kernel
theorem dX3_unfinishedEnds_20 : decode cX3_unfinishedEnds 20 = .ok (.getfield 23, 3) := by decide +kernel
theorem dX3_unfinishedEnds_23 : decode cX3_unfinishedEnds 23 = .ok (.getfield 104, 3) := by decide +kernel
theorem dX3_unfinishedEnds_26 : decode cX3_unfinishedEnds 26 = .ok (.if_icmp .ge 42, 3) := by decide +kernel
theorem dX3_unfinishedEnds_29 : decode cX3_unfinishedEnds 29 = .ok (.aload_n 0, 1) := by decide +kernel
theorem dX3_unfinishedEnds_30 : decode cX3_unfinishedEnds 30 = .ok (.getfield 23, 3) := by decide +kernel
theorem dX3_unfinishedEnds_33 : decode cX3_unfinishedEnds 33 = .ok (.getfield 107, 3) := by decide +kernel
theorem dX3_unfinishedEnds_36 : decode cX3_unfinishedEnds 36 = .ok (.iload_n 2, 1) := by decide +kernel
theorem dX3_unfinishedEnds_37 : decode cX3_unfinishedEnds 37 = .ok (.invokestatic 110, 3) := by decide +kernel
theorem dX3_unfinishedEnds_40 : decode cX3_unfinishedEnds 40 = .ok (.iconst 1, 1) := by decide +kernel
theorem dX3_unfinishedEnds_41 : decode cX3_unfinishedEnds 41 = .ok (.if_icmp .ne 21, 3) := by decide +kernel
theorem dX3_unfinishedEnds_44 : decode cX3_unfinishedEnds 44 = .ok (.aload_n 0, 1) := by decide +kernel
theorem dX3_unfinishedEnds_45 : decode cX3_unfinishedEnds 45 = .ok (.iload_n 2, 1) := by decide +kernel
theorem dX3_unfinishedEnds_46 : decode cX3_unfinishedEnds 46 = .ok (.invokevirtual 36, 3) := by decide +kernel
theorem dX3_unfinishedEnds_49 : decode cX3_unfinishedEnds 49 = .ok (.aload_n 0, 1) := by decide +kernel
theorem dX3_unfinishedEnds_50 : decode cX3_unfinishedEnds 50 = .ok (.getfield 23, 3) := by decide +kernel
theorem dX3_unfinishedEnds_53 : decode cX3_unfinishedEnds 53 = .ok (.getfield 49, 3) := by decide +kernel
theorem dX3_unfinishedEnds_56 : decode cX3_unfinishedEnds 56 = .ok (.if_icmp .ge 6, 3) := by decide +kernel
theorem dX3_unfinishedEnds_59 : decode cX3_unfinishedEnds 59 = .ok (.iinc 1 1, 3) := by decide +kernel
theorem dX3_unfinishedEnds_62 : decode cX3_unfinishedEnds 62 = .ok (.iinc 2 1, 3) := by decide +kernel
theorem dX3_unfinishedEnds_65 : decode cX3_unfinishedEnds 65 = .ok (.goto (-47), 3) := by decide +kernel
theorem dX3_unfinishedEnds_68 : decode cX3_unfinishedEnds 68 = .ok (.iload_n 1, 1) := by decide +kernel
theorem dX3_unfinishedEnds_69 : decode cX3_unfinishedEnds 69 = .ok (.ireturn, 1) := by decide +kernel
theorem dX4_init_0 : decode cX4_init 0 = .ok (.aload_n 0, 1) := by decide +kernel
theorem dX4_init_1 : decode cX4_init 1 = .ok (.invokespecial 3, 3) := by decide +kernel
theorem dX4_init_4 : decode cX4_init 4 = .ok (.aload_n 0, 1) := by decide +kernel
theorem dX4_init_5 : decode cX4_init 5 = .ok (.bipush 12, 2) := by decide +kernel
theorem dX4_init_7 : decode cX4_init 7 = .ok (.newarray .int, 2) := by decide +kernel
theorem dX4_init_9 : decode cX4_init 9 = .ok (.putfield 9, 3) := by decide +kernel
theorem dX4_init_12 : decode cX4_init 12 = .ok (.aload_n 0, 1) := by decide +kernel
theorem dX4_init_13 : decode cX4_init 13 = .ok (.iconst 0, 1) := by decide +kernel
theorem dX4_init_14 : decode cX4_init 14 = .ok (.putfield 15, 3) := by decide +kernel
theorem dX4_init_17 : decode cX4_init 17 = .ok (.aload_n 0, 1) := by decide +kernel
theorem dX4_init_18 : decode cX4_init 18 = .ok (.iconst 0, 1) := by decide +kernel
theorem dX4_init_19 : decode cX4_init 19 = .ok (.putfield 19, 3) := by decide +kernel
theorem dX4_init_22 : decode cX4_init 22 = .ok (.aload_n 0, 1) := by decide +kernel
theorem dX4_init_23 : decode cX4_init 23 = .ok (.aload_n 1, 1) := by decide +kernel
theorem dX4_init_24 : decode cX4_init 24 = .ok (.putfield 22, 3) := by decide +kernel
theorem dX4_init_27 : decode cX4_init 27 = .ok (.return_, 1) := by decide +kernel
set_option maxRecDepth 20000 in
theorem ggX4_mostTo_X4_reach : GoodIn wsX4_mostTo wsX4_reach := goodIn_r _ [9, 4, 2, 10, 3, 11, 12, 13, 14, 15, 16, 17, 8, 18, 1, 19, 20, 21, 26, 27, 28, 29, 30, 31, 32, 33, 34, 35, 36, 37, 38, 39, 40, 41, 42, 43, 44, 45] (by decide +kernel) (by decide +kernel)
set_option maxRecDepth 20000 in
theorem gX4_mostTo_X4_reach : GoodIn wsX4_mostTo (wsV RX4 31 RX4 yX4_reach wsX4_reach) := goodIn_app (goodIn_of _ (by decide +kernel)) ggX4_mostTo_X4_reach
set_option maxRecDepth 20000 in
theorem ggX4_mostTo_X5_flag : GoodIn wsX4_mostTo wsX5_flag := goodIn_r _ [14] (by decide +kernel) (by decide +kernel)
set_option maxRecDepth 20000 in
theorem gX4_mostTo_X5_flag_n34 : GoodIn wsX4_mostTo (wsX5_flag) := ggX4_mostTo_X5_flag
set_option maxRecDepth 20000 in
theorem ggX4_mostTo_X4_turnWayTo : GoodIn wsX4_mostTo wsX4_turnWayTo := goodIn_r _ [25, 2, 10, 21, 1, 19, 20, 26, 27, 28, 29, 30, 31, 32, 33, 34, 35, 36, 37, 38, 39, 40, 41, 42, 43, 44, 45] (by decide +kernel) (by decide +kernel)
set_option maxRecDepth 20000 in
theorem gX4_mostTo_X4_turnWayTo : GoodIn wsX4_mostTo (wsV RX4 38 RX4 yX4_turnWayTo wsX4_turnWayTo) := goodIn_app (goodIn_of _ (by decide +kernel)) ggX4_mostTo_X4_turnWayTo
theorem dX4_mostTo_0 : decode cX4_mostTo 0 = .ok (.aload_n 0, 1) := by decide +kernel
theorem dX4_mostTo_1 : decode cX4_mostTo 1 = .ok (.iconst 0, 1) := by decide +kernel
theorem dX4_mostTo_2 : decode cX4_mostTo 2 = .ok (.putfield 15, 3) := by decide +kernel
theorem dX4_mostTo_5 : decode cX4_mostTo 5 = .ok (.iconst 0, 1) := by decide +kernel
theorem dX4_mostTo_6 : decode cX4_mostTo 6 = .ok (.istore_n 2, 1) := by decide +kernel
theorem dX4_mostTo_7 : decode cX4_mostTo 7 = .ok (.iconst 0, 1) := by decide +kernel
theorem dX4_mostTo_8 : decode cX4_mostTo 8 = .ok (.istore_n 3, 1) := by decide +kernel
theorem dX4_mostTo_9 : decode cX4_mostTo 9 = .ok (.iload_n 3, 1) := by decide +kernel
theorem dX4_mostTo_10 : decode cX4_mostTo 10 = .ok (.aload_n 0, 1) := by decide +kernel
theorem dX4_mostTo_11 : decode cX4_mostTo 11 = .ok (.getfield 22, 3) := by decide +kernel
theorem dX4_mostTo_14 : decode cX4_mostTo 14 = .ok (.getfield 26, 3) := by decide +kernel
theorem dX4_mostTo_17 : decode cX4_mostTo 17 = .ok (.if_icmp .gt 35, 3) := by decide +kernel
theorem dX4_mostTo_20 : decode cX4_mostTo 20 = .ok (.aload_n 0, 1) := by decide +kernel
theorem dX4_mostTo_21 : decode cX4_mostTo 21 = .ok (.invokevirtual 31, 3) := by decide +kernel
theorem dX4_mostTo_24 : decode cX4_mostTo 24 = .ok (.aload_n 0, 1) := by decide +kernel
theorem dX4_mostTo_25 : decode cX4_mostTo 25 = .ok (.getfield 19, 3) := by decide +kernel
theorem dX4_mostTo_28 : decode cX4_mostTo 28 = .ok (.iload_n 1, 1) := by decide +kernel
theorem dX4_mostTo_29 : decode cX4_mostTo 29 = .ok (.invokestatic 34, 3) := by decide +kernel
theorem dX4_mostTo_32 : decode cX4_mostTo 32 = .ok (.ifCond .ne 6, 3) := by decide +kernel
theorem dX4_mostTo_35 : decode cX4_mostTo 35 = .ok (.goto 17, 3) := by decide +kernel
theorem dX4_mostTo_38 : decode cX4_mostTo 38 = .ok (.aload_n 0, 1) := by decide +kernel
theorem dX4_mostTo_39 : decode cX4_mostTo 39 = .ok (.iload_n 1, 1) := by decide +kernel
theorem dX4_mostTo_40 : decode cX4_mostTo 40 = .ok (.invokevirtual 38, 3) := by decide +kernel
theorem dX4_mostTo_43 : decode cX4_mostTo 43 = .ok (.iinc 2 1, 3) := by decide +kernel
theorem dX4_mostTo_46 : decode cX4_mostTo 46 = .ok (.iinc 3 1, 3) := by decide +kernel
theorem dX4_mostTo_49 : decode cX4_mostTo 49 = .ok (.goto (-40), 3) := by decide +kernel
theorem dX4_mostTo_52 : decode cX4_mostTo 52 = .ok (.iload_n 2, 1) := by decide +kernel
theorem dX4_mostTo_53 : decode cX4_mostTo 53 = .ok (.ireturn, 1) := by decide +kernel
set_option maxRecDepth 20000 in
theorem ggX4_cutLine_X5_flag : GoodIn wsX4_cutLine wsX5_flag := goodIn_r _ [9] (by decide +kernel) (by decide +kernel)
set_option maxRecDepth 20000 in
theorem gX4_cutLine_X5_flag_n34 : GoodIn wsX4_cutLine (wsX5_flag) := ggX4_cutLine_X5_flag
theorem dX4_cutLine_0 : decode cX4_cutLine 0 = .ok (.iconst 0, 1) := by decide +kernel
theorem dX4_cutLine_1 : decode cX4_cutLine 1 = .ok (.istore_n 2, 1) := by decide +kernel
theorem dX4_cutLine_2 : decode cX4_cutLine 2 = .ok (.iconst 0, 1) := by decide +kernel
theorem dX4_cutLine_3 : decode cX4_cutLine 3 = .ok (.istore_n 3, 1) := by decide +kernel
theorem dX4_cutLine_4 : decode cX4_cutLine 4 = .ok (.iload_n 3, 1) := by decide +kernel
theorem dX4_cutLine_5 : decode cX4_cutLine 5 = .ok (.aload_n 0, 1) := by decide +kernel
theorem dX4_cutLine_6 : decode cX4_cutLine 6 = .ok (.getfield 22, 3) := by decide +kernel
theorem dX4_cutLine_9 : decode cX4_cutLine 9 = .ok (.getfield 26, 3) := by decide +kernel
theorem dX4_cutLine_12 : decode cX4_cutLine 12 = .ok (.if_icmp .ge 72, 3) := by decide +kernel
theorem dX4_cutLine_15 : decode cX4_cutLine 15 = .ok (.aload_n 0, 1) := by decide +kernel
theorem dX4_cutLine_16 : decode cX4_cutLine 16 = .ok (.getfield 22, 3) := by decide +kernel
theorem dX4_cutLine_19 : decode cX4_cutLine 19 = .ok (.getfield 42, 3) := by decide +kernel
theorem dX4_cutLine_22 : decode cX4_cutLine 22 = .ok (.iload_n 3, 1) := by decide +kernel
theorem dX4_cutLine_23 : decode cX4_cutLine 23 = .ok (.invokestatic 34, 3) := by decide +kernel
theorem dX4_cutLine_26 : decode cX4_cutLine 26 = .ok (.ifCond .ne 52, 3) := by decide +kernel
theorem dX4_cutLine_29 : decode cX4_cutLine 29 = .ok (.aload_n 0, 1) := by decide +kernel
theorem dX4_cutLine_30 : decode cX4_cutLine 30 = .ok (.getfield 19, 3) := by decide +kernel
theorem dX4_cutLine_33 : decode cX4_cutLine 33 = .ok (.aload_n 0, 1) := by decide +kernel
theorem dX4_cutLine_34 : decode cX4_cutLine 34 = .ok (.getfield 22, 3) := by decide +kernel
theorem dX4_cutLine_37 : decode cX4_cutLine 37 = .ok (.getfield 45, 3) := by decide +kernel
theorem dX4_cutLine_40 : decode cX4_cutLine 40 = .ok (.iload_n 3, 1) := by decide +kernel
theorem dX4_cutLine_41 : decode cX4_cutLine 41 = .ok (.iaload, 1) := by decide +kernel
theorem dX4_cutLine_42 : decode cX4_cutLine 42 = .ok (.invokestatic 34, 3) := by decide +kernel
theorem dX4_cutLine_45 : decode cX4_cutLine 45 = .ok (.iconst 1, 1) := by decide +kernel
theorem dX4_cutLine_46 : decode cX4_cutLine 46 = .ok (.if_icmp .ne 32, 3) := by decide +kernel
theorem dX4_cutLine_49 : decode cX4_cutLine 49 = .ok (.aload_n 0, 1) := by decide +kernel
theorem dX4_cutLine_50 : decode cX4_cutLine 50 = .ok (.getfield 19, 3) := by decide +kernel
theorem dX4_cutLine_53 : decode cX4_cutLine 53 = .ok (.aload_n 0, 1) := by decide +kernel
theorem dX4_cutLine_54 : decode cX4_cutLine 54 = .ok (.getfield 22, 3) := by decide +kernel
theorem dX4_cutLine_57 : decode cX4_cutLine 57 = .ok (.getfield 48, 3) := by decide +kernel
theorem dX4_cutLine_60 : decode cX4_cutLine 60 = .ok (.iload_n 3, 1) := by decide +kernel
theorem dX4_cutLine_61 : decode cX4_cutLine 61 = .ok (.iaload, 1) := by decide +kernel
theorem dX4_cutLine_62 : decode cX4_cutLine 62 = .ok (.invokestatic 34, 3) := by decide +kernel
theorem dX4_cutLine_65 : decode cX4_cutLine 65 = .ok (.ifCond .ne 13, 3) := by decide +kernel
theorem dX4_cutLine_68 : decode cX4_cutLine 68 = .ok (.iload_n 2, 1) := by decide +kernel
theorem dX4_cutLine_69 : decode cX4_cutLine 69 = .ok (.iload_n 1, 1) := by decide +kernel
theorem dX4_cutLine_70 : decode cX4_cutLine 70 = .ok (.if_icmp .ne 5, 3) := by decide +kernel
theorem dX4_cutLine_73 : decode cX4_cutLine 73 = .ok (.iload_n 3, 1) := by decide +kernel
theorem dX4_cutLine_74 : decode cX4_cutLine 74 = .ok (.ireturn, 1) := by decide +kernel
theorem dX4_cutLine_75 : decode cX4_cutLine 75 = .ok (.iinc 2 1, 3) := by decide +kernel
theorem dX4_cutLine_78 : decode cX4_cutLine 78 = .ok (.iinc 3 1, 3) := by decide +kernel
theorem dX4_cutLine_81 : decode cX4_cutLine 81 = .ok (.goto (-77), 3) := by decide +kernel
theorem dX4_cutLine_84 : decode cX4_cutLine 84 = .ok (.iconst (-1), 1) := by decide +kernel
theorem dX4_cutLine_85 : decode cX4_cutLine 85 = .ok (.ireturn, 1) := by decide +kernel
set_option maxRecDepth 20000 in
theorem ggX4_reach_X5_flag : GoodIn wsX4_reach wsX5_flag := goodIn_r _ [8] (by decide +kernel) (by decide +kernel)
set_option maxRecDepth 20000 in
theorem gX4_reach_X5_flag_n34 : GoodIn wsX4_reach (wsX5_flag) := ggX4_reach_X5_flag
set_option maxRecDepth 20000 in
theorem ggX4_reach_X4_reachBy : GoodIn wsX4_reach wsX4_reachBy := goodIn_r _ [13, 14, 2, 15, 16, 1, 17, 6, 7, 8, 18, 19, 20, 21, 22, 23, 24, 25, 26, 27, 28, 29, 30, 31, 32, 33, 34, 35, 36, 37] (by decide +kernel) (by decide +kernel)
set_option maxRecDepth 20000 in
theorem gX4_reach_X4_reachBy : GoodIn wsX4_reach (wsV RX4 54 RX4 yX4_reachBy wsX4_reachBy) := goodIn_app (goodIn_of _ (by decide +kernel)) ggX4_reach_X4_reachBy
theorem dX4_reach_0 : decode cX4_reach 0 = .ok (.aload_n 0, 1) := by decide +kernel
theorem dX4_reach_1 : decode cX4_reach 1 = .ok (.iconst 1, 1) := by decide +kernel
theorem dX4_reach_2 : decode cX4_reach 2 = .ok (.putfield 19, 3) := by decide +kernel
theorem dX4_reach_5 : decode cX4_reach 5 = .ok (.iconst 0, 1) := by decide +kernel
theorem dX4_reach_6 : decode cX4_reach 6 = .ok (.istore_n 1, 1) := by decide +kernel
theorem dX4_reach_7 : decode cX4_reach 7 = .ok (.iload_n 1, 1) := by decide +kernel
theorem dX4_reach_8 : decode cX4_reach 8 = .ok (.aload_n 0, 1) := by decide +kernel
theorem dX4_reach_9 : decode cX4_reach 9 = .ok (.getfield 22, 3) := by decide +kernel
theorem dX4_reach_12 : decode cX4_reach 12 = .ok (.getfield 51, 3) := by decide +kernel
theorem dX4_reach_15 : decode cX4_reach 15 = .ok (.if_icmp .ge 63, 3) := by decide +kernel
theorem dX4_reach_18 : decode cX4_reach 18 = .ok (.aload_n 0, 1) := by decide +kernel
theorem dX4_reach_19 : decode cX4_reach 19 = .ok (.getfield 19, 3) := by decide +kernel
theorem dX4_reach_22 : decode cX4_reach 22 = .ok (.istore_n 2, 1) := by decide +kernel
theorem dX4_reach_23 : decode cX4_reach 23 = .ok (.iconst 0, 1) := by decide +kernel
theorem dX4_reach_24 : decode cX4_reach 24 = .ok (.istore_n 3, 1) := by decide +kernel
theorem dX4_reach_25 : decode cX4_reach 25 = .ok (.iload_n 3, 1) := by decide +kernel
theorem dX4_reach_26 : decode cX4_reach 26 = .ok (.aload_n 0, 1) := by decide +kernel
theorem dX4_reach_27 : decode cX4_reach 27 = .ok (.getfield 22, 3) := by decide +kernel
theorem dX4_reach_30 : decode cX4_reach 30 = .ok (.getfield 26, 3) := by decide +kernel
theorem dX4_reach_33 : decode cX4_reach 33 = .ok (.if_icmp .ge 28, 3) := by decide +kernel
theorem dX4_reach_36 : decode cX4_reach 36 = .ok (.aload_n 0, 1) := by decide +kernel
theorem dX4_reach_37 : decode cX4_reach 37 = .ok (.getfield 22, 3) := by decide +kernel
theorem dX4_reach_40 : decode cX4_reach 40 = .ok (.getfield 42, 3) := by decide +kernel
theorem dX4_reach_43 : decode cX4_reach 43 = .ok (.iload_n 3, 1) := by decide +kernel
theorem dX4_reach_44 : decode cX4_reach 44 = .ok (.invokestatic 34, 3) := by decide +kernel
theorem dX4_reach_47 : decode cX4_reach 47 = .ok (.ifCond .ne 8, 3) := by decide +kernel
theorem dX4_reach_50 : decode cX4_reach 50 = .ok (.aload_n 0, 1) := by decide +kernel
theorem dX4_reach_51 : decode cX4_reach 51 = .ok (.iload_n 3, 1) := by decide +kernel
theorem dX4_reach_52 : decode cX4_reach 52 = .ok (.invokevirtual 54, 3) := by decide +kernel
theorem dX4_reach_55 : decode cX4_reach 55 = .ok (.iinc 3 1, 3) := by decide +kernel
theorem dX4_reach_58 : decode cX4_reach 58 = .ok (.goto (-33), 3) := by decide +kernel
theorem dX4_reach_61 : decode cX4_reach 61 = .ok (.aload_n 0, 1) := by decide +kernel
theorem dX4_reach_62 : decode cX4_reach 62 = .ok (.getfield 19, 3) := by decide +kernel
theorem dX4_reach_65 : decode cX4_reach 65 = .ok (.iload_n 2, 1) := by decide +kernel
theorem dX4_reach_66 : decode cX4_reach 66 = .ok (.if_icmp .ne 6, 3) := by decide +kernel
theorem dX4_reach_69 : decode cX4_reach 69 = .ok (.goto 9, 3) := by decide +kernel
theorem dX4_reach_72 : decode cX4_reach 72 = .ok (.iinc 1 1, 3) := by decide +kernel
theorem dX4_reach_75 : decode cX4_reach 75 = .ok (.goto (-68), 3) := by decide +kernel
theorem dX4_reach_78 : decode cX4_reach 78 = .ok (.return_, 1) := by decide +kernel
set_option maxRecDepth 20000 in
theorem ggX4_reachBy_X5_flag : GoodIn wsX4_reachBy wsX5_flag := goodIn_r _ [9] (by decide +kernel) (by decide +kernel)
set_option maxRecDepth 20000 in
theorem gX4_reachBy_X5_flag_n34 : GoodIn wsX4_reachBy (wsX5_flag) := ggX4_reachBy_X5_flag
theorem dX4_reachBy_0 : decode cX4_reachBy 0 = .ok (.aload_n 0, 1) := by decide +kernel
theorem dX4_reachBy_1 : decode cX4_reachBy 1 = .ok (.getfield 15, 3) := by decide +kernel
theorem dX4_reachBy_4 : decode cX4_reachBy 4 = .ok (.iload_n 1, 1) := by decide +kernel
theorem dX4_reachBy_5 : decode cX4_reachBy 5 = .ok (.invokestatic 34, 3) := by decide +kernel
theorem dX4_reachBy_8 : decode cX4_reachBy 8 = .ok (.iconst 1, 1) := by decide +kernel
theorem dX4_reachBy_9 : decode cX4_reachBy 9 = .ok (.if_icmp .ne 7, 3) := by decide +kernel
theorem dX4_reachBy_12 : decode cX4_reachBy 12 = .ok (.iconst 1, 1) := by decide +kernel
theorem dX4_reachBy_13 : decode cX4_reachBy 13 = .ok (.goto 4, 3) := by decide +kernel
theorem dX4_reachBy_16 : decode cX4_reachBy 16 = .ok (.iconst 0, 1) := by decide +kernel
theorem dX4_reachBy_17 : decode cX4_reachBy 17 = .ok (.istore_n 2, 1) := by decide +kernel
theorem dX4_reachBy_18 : decode cX4_reachBy 18 = .ok (.iload_n 2, 1) := by decide +kernel
theorem dX4_reachBy_19 : decode cX4_reachBy 19 = .ok (.ifCond .eq 15, 3) := by decide +kernel
theorem dX4_reachBy_22 : decode cX4_reachBy 22 = .ok (.aload_n 0, 1) := by decide +kernel
theorem dX4_reachBy_23 : decode cX4_reachBy 23 = .ok (.getfield 22, 3) := by decide +kernel
theorem dX4_reachBy_26 : decode cX4_reachBy 26 = .ok (.getfield 48, 3) := by decide +kernel
theorem dX4_reachBy_29 : decode cX4_reachBy 29 = .ok (.iload_n 1, 1) := by decide +kernel
theorem dX4_reachBy_30 : decode cX4_reachBy 30 = .ok (.iaload, 1) := by decide +kernel
theorem dX4_reachBy_31 : decode cX4_reachBy 31 = .ok (.goto 12, 3) := by decide +kernel
theorem dX4_reachBy_34 : decode cX4_reachBy 34 = .ok (.aload_n 0, 1) := by decide +kernel
theorem dX4_reachBy_35 : decode cX4_reachBy 35 = .ok (.getfield 22, 3) := by decide +kernel
theorem dX4_reachBy_38 : decode cX4_reachBy 38 = .ok (.getfield 45, 3) := by decide +kernel
theorem dX4_reachBy_41 : decode cX4_reachBy 41 = .ok (.iload_n 1, 1) := by decide +kernel
theorem dX4_reachBy_42 : decode cX4_reachBy 42 = .ok (.iaload, 1) := by decide +kernel
theorem dX4_reachBy_43 : decode cX4_reachBy 43 = .ok (.istore_n 3, 1) := by decide +kernel
theorem dX4_reachBy_44 : decode cX4_reachBy 44 = .ok (.iload_n 2, 1) := by decide +kernel
theorem dX4_reachBy_45 : decode cX4_reachBy 45 = .ok (.ifCond .eq 15, 3) := by decide +kernel
theorem dX4_reachBy_48 : decode cX4_reachBy 48 = .ok (.aload_n 0, 1) := by decide +kernel
theorem dX4_reachBy_49 : decode cX4_reachBy 49 = .ok (.getfield 22, 3) := by decide +kernel
theorem dX4_reachBy_52 : decode cX4_reachBy 52 = .ok (.getfield 45, 3) := by decide +kernel
theorem dX4_reachBy_55 : decode cX4_reachBy 55 = .ok (.iload_n 1, 1) := by decide +kernel
theorem dX4_reachBy_56 : decode cX4_reachBy 56 = .ok (.iaload, 1) := by decide +kernel
theorem dX4_reachBy_57 : decode cX4_reachBy 57 = .ok (.goto 12, 3) := by decide +kernel
theorem dX4_reachBy_60 : decode cX4_reachBy 60 = .ok (.aload_n 0, 1) := by decide +kernel
theorem dX4_reachBy_61 : decode cX4_reachBy 61 = .ok (.getfield 22, 3) := by decide +kernel
theorem dX4_reachBy_64 : decode cX4_reachBy 64 = .ok (.getfield 48, 3) := by decide +kernel
theorem dX4_reachBy_67 : decode cX4_reachBy 67 = .ok (.iload_n 1, 1) := by decide +kernel
theorem dX4_reachBy_68 : decode cX4_reachBy 68 = .ok (.iaload, 1) := by decide +kernel
theorem dX4_reachBy_69 : decode cX4_reachBy 69 = .ok (.istore 4, 2) := by decide +kernel
theorem dX4_reachBy_71 : decode cX4_reachBy 71 = .ok (.aload_n 0, 1) := by decide +kernel
theorem dX4_reachBy_72 : decode cX4_reachBy 72 = .ok (.getfield 19, 3) := by decide +kernel
theorem dX4_reachBy_75 : decode cX4_reachBy 75 = .ok (.iload_n 3, 1) := by decide +kernel
theorem dX4_reachBy_76 : decode cX4_reachBy 76 = .ok (.invokestatic 34, 3) := by decide +kernel
theorem dX4_reachBy_79 : decode cX4_reachBy 79 = .ok (.iconst 1, 1) := by decide +kernel
theorem dX4_reachBy_80 : decode cX4_reachBy 80 = .ok (.if_icmp .ne 36, 3) := by decide +kernel
theorem dX4_reachBy_83 : decode cX4_reachBy 83 = .ok (.aload_n 0, 1) := by decide +kernel
theorem dX4_reachBy_84 : decode cX4_reachBy 84 = .ok (.getfield 19, 3) := by decide +kernel
theorem dX4_reachBy_87 : decode cX4_reachBy 87 = .ok (.iload 4, 2) := by decide +kernel
theorem dX4_reachBy_89 : decode cX4_reachBy 89 = .ok (.invokestatic 34, 3) := by decide +kernel
theorem dX4_reachBy_92 : decode cX4_reachBy 92 = .ok (.ifCond .ne 24, 3) := by decide +kernel
theorem dX4_reachBy_95 : decode cX4_reachBy 95 = .ok (.aload_n 0, 1) := by decide +kernel
theorem dX4_reachBy_96 : decode cX4_reachBy 96 = .ok (.dup, 1) := by decide +kernel
theorem dX4_reachBy_97 : decode cX4_reachBy 97 = .ok (.getfield 19, 3) := by decide +kernel
theorem dX4_reachBy_100 : decode cX4_reachBy 100 = .ok (.iconst 1, 1) := by decide +kernel
theorem dX4_reachBy_101 : decode cX4_reachBy 101 = .ok (.iload 4, 2) := by decide +kernel
theorem dX4_reachBy_103 : decode cX4_reachBy 103 = .ok (.ishl, 1) := by decide +kernel
theorem dX4_reachBy_104 : decode cX4_reachBy 104 = .ok (.ior, 1) := by decide +kernel
theorem dX4_reachBy_105 : decode cX4_reachBy 105 = .ok (.putfield 19, 3) := by decide +kernel
theorem dX4_reachBy_108 : decode cX4_reachBy 108 = .ok (.aload_n 0, 1) := by decide +kernel
theorem dX4_reachBy_109 : decode cX4_reachBy 109 = .ok (.getfield 9, 3) := by decide +kernel
theorem dX4_reachBy_112 : decode cX4_reachBy 112 = .ok (.iload 4, 2) := by decide +kernel
theorem dX4_reachBy_114 : decode cX4_reachBy 114 = .ok (.iload_n 1, 1) := by decide +kernel
theorem dX4_reachBy_115 : decode cX4_reachBy 115 = .ok (.iastore, 1) := by decide +kernel
theorem dX4_reachBy_116 : decode cX4_reachBy 116 = .ok (.return_, 1) := by decide +kernel
theorem dX4_turnWayTo_0 : decode cX4_turnWayTo 0 = .ok (.iload_n 1, 1) := by decide +kernel
theorem dX4_turnWayTo_1 : decode cX4_turnWayTo 1 = .ok (.istore_n 2, 1) := by decide +kernel
theorem dX4_turnWayTo_2 : decode cX4_turnWayTo 2 = .ok (.iconst 0, 1) := by decide +kernel
theorem dX4_turnWayTo_3 : decode cX4_turnWayTo 3 = .ok (.istore_n 3, 1) := by decide +kernel
theorem dX4_turnWayTo_4 : decode cX4_turnWayTo 4 = .ok (.iload_n 3, 1) := by decide +kernel
theorem dX4_turnWayTo_5 : decode cX4_turnWayTo 5 = .ok (.aload_n 0, 1) := by decide +kernel
theorem dX4_turnWayTo_6 : decode cX4_turnWayTo 6 = .ok (.getfield 22, 3) := by decide +kernel
theorem dX4_turnWayTo_9 : decode cX4_turnWayTo 9 = .ok (.getfield 51, 3) := by decide +kernel
theorem dX4_turnWayTo_12 : decode cX4_turnWayTo 12 = .ok (.if_icmp .ge 72, 3) := by decide +kernel
theorem dX4_turnWayTo_15 : decode cX4_turnWayTo 15 = .ok (.iload_n 2, 1) := by decide +kernel
theorem dX4_turnWayTo_16 : decode cX4_turnWayTo 16 = .ok (.ifCond .eq 68, 3) := by decide +kernel
theorem dX4_turnWayTo_19 : decode cX4_turnWayTo 19 = .ok (.aload_n 0, 1) := by decide +kernel
theorem dX4_turnWayTo_20 : decode cX4_turnWayTo 20 = .ok (.getfield 9, 3) := by decide +kernel
theorem dX4_turnWayTo_23 : decode cX4_turnWayTo 23 = .ok (.iload_n 2, 1) := by decide +kernel
theorem dX4_turnWayTo_24 : decode cX4_turnWayTo 24 = .ok (.iaload, 1) := by decide +kernel
theorem dX4_turnWayTo_25 : decode cX4_turnWayTo 25 = .ok (.istore 4, 2) := by decide +kernel
theorem dX4_turnWayTo_27 : decode cX4_turnWayTo 27 = .ok (.aload_n 0, 1) := by decide +kernel
theorem dX4_turnWayTo_28 : decode cX4_turnWayTo 28 = .ok (.dup, 1) := by decide +kernel
theorem dX4_turnWayTo_29 : decode cX4_turnWayTo 29 = .ok (.getfield 15, 3) := by decide +kernel
theorem dX4_turnWayTo_32 : decode cX4_turnWayTo 32 = .ok (.iconst 1, 1) := by decide +kernel
theorem dX4_turnWayTo_33 : decode cX4_turnWayTo 33 = .ok (.iload 4, 2) := by decide +kernel
theorem dX4_turnWayTo_35 : decode cX4_turnWayTo 35 = .ok (.ishl, 1) := by decide +kernel
theorem dX4_turnWayTo_36 : decode cX4_turnWayTo 36 = .ok (.ixor, 1) := by decide +kernel
theorem dX4_turnWayTo_37 : decode cX4_turnWayTo 37 = .ok (.putfield 15, 3) := by decide +kernel
theorem dX4_turnWayTo_40 : decode cX4_turnWayTo 40 = .ok (.aload_n 0, 1) := by decide +kernel
theorem dX4_turnWayTo_41 : decode cX4_turnWayTo 41 = .ok (.getfield 22, 3) := by decide +kernel
theorem dX4_turnWayTo_44 : decode cX4_turnWayTo 44 = .ok (.getfield 48, 3) := by decide +kernel
theorem dX4_turnWayTo_47 : decode cX4_turnWayTo 47 = .ok (.iload 4, 2) := by decide +kernel
theorem dX4_turnWayTo_49 : decode cX4_turnWayTo 49 = .ok (.iaload, 1) := by decide +kernel
theorem dX4_turnWayTo_50 : decode cX4_turnWayTo 50 = .ok (.iload_n 2, 1) := by decide +kernel
theorem dX4_turnWayTo_51 : decode cX4_turnWayTo 51 = .ok (.if_icmp .ne 16, 3) := by decide +kernel
theorem dX4_turnWayTo_54 : decode cX4_turnWayTo 54 = .ok (.aload_n 0, 1) := by decide +kernel
theorem dX4_turnWayTo_55 : decode cX4_turnWayTo 55 = .ok (.getfield 22, 3) := by decide +kernel
theorem dX4_turnWayTo_58 : decode cX4_turnWayTo 58 = .ok (.getfield 45, 3) := by decide +kernel
theorem dX4_turnWayTo_61 : decode cX4_turnWayTo 61 = .ok (.iload 4, 2) := by decide +kernel
theorem dX4_turnWayTo_63 : decode cX4_turnWayTo 63 = .ok (.iaload, 1) := by decide +kernel
theorem dX4_turnWayTo_64 : decode cX4_turnWayTo 64 = .ok (.goto 13, 3) := by decide +kernel
theorem dX4_turnWayTo_67 : decode cX4_turnWayTo 67 = .ok (.aload_n 0, 1) := by decide +kernel
theorem dX4_turnWayTo_68 : decode cX4_turnWayTo 68 = .ok (.getfield 22, 3) := by decide +kernel
theorem dX4_turnWayTo_71 : decode cX4_turnWayTo 71 = .ok (.getfield 48, 3) := by decide +kernel
theorem dX4_turnWayTo_74 : decode cX4_turnWayTo 74 = .ok (.iload 4, 2) := by decide +kernel
theorem dX4_turnWayTo_76 : decode cX4_turnWayTo 76 = .ok (.iaload, 1) := by decide +kernel
theorem dX4_turnWayTo_77 : decode cX4_turnWayTo 77 = .ok (.istore_n 2, 1) := by decide +kernel
theorem dX4_turnWayTo_78 : decode cX4_turnWayTo 78 = .ok (.iinc 3 1, 3) := by decide +kernel
theorem dX4_turnWayTo_81 : decode cX4_turnWayTo 81 = .ok (.goto (-77), 3) := by decide +kernel
theorem dX4_turnWayTo_84 : decode cX4_turnWayTo 84 = .ok (.return_, 1) := by decide +kernel
set_option maxRecDepth 20000 in
theorem ggX5_init_X2_init : GoodIn wsX5_init wsX2_init := goodIn_r _ [25, 26, 2, 3, 27, 28, 29, 30, 31, 32, 33, 34, 35, 36, 37, 38, 39, 40, 41, 42, 43, 44, 78, 79, 80, 81, 82, 83, 84, 85, 86, 87, 88, 89, 90, 91, 92, 93] (by decide +kernel) (by decide +kernel)
set_option maxRecDepth 20000 in
theorem gX5_init_X2_init_n9 : GoodIn wsX5_init (wsX2_init) := ggX5_init_X2_init
set_option maxRecDepth 20000 in
theorem ggX5_init_X4_init : GoodIn wsX5_init wsX4_init := goodIn_r _ [47, 48, 2, 3, 33, 49, 50, 51, 52, 99, 100, 101, 102] (by decide +kernel) (by decide +kernel)
set_option maxRecDepth 20000 in
theorem gX5_init_X4_init : GoodIn wsX5_init (wsX4_init) := ggX5_init_X4_init
set_option maxRecDepth 20000 in
theorem ggX5_init_X3_init : GoodIn wsX5_init wsX3_init := goodIn_r _ [55, 56, 2, 3, 36, 57, 33, 58, 59, 60, 103, 104, 105, 106] (by decide +kernel) (by decide +kernel)
set_option maxRecDepth 20000 in
theorem gX5_init_X3_init : GoodIn wsX5_init (wsX3_init) := ggX5_init_X3_init
set_option maxRecDepth 20000 in
theorem ggX5_init_X1_init : GoodIn wsX5_init wsX1_init := goodIn_r _ [63, 64, 2, 3, 33, 65, 66, 67, 68, 107, 108, 109, 110] (by decide +kernel) (by decide +kernel)
set_option maxRecDepth 20000 in
theorem gX5_init_X1_init : GoodIn wsX5_init (wsX1_init) := ggX5_init_X1_init
set_option maxRecDepth 20000 in
theorem ggX5_init_X0_init : GoodIn wsX5_init wsX0_init := goodIn_r _ [71, 72, 2, 3, 73, 74, 75, 76, 77, 111, 112, 113, 114, 115] (by decide +kernel) (by decide +kernel)
set_option maxRecDepth 20000 in
theorem gX5_init_X0_init : GoodIn wsX5_init (wsX0_init) := ggX5_init_X0_init
theorem dX5_init_0 : decode cX5_init 0 = .ok (.aload_n 0, 1) := by decide +kernel
theorem dX5_init_1 : decode cX5_init 1 = .ok (.invokespecial 1, 3) := by decide +kernel
theorem dX5_init_4 : decode cX5_init 4 = .ok (.aload_n 0, 1) := by decide +kernel
theorem dX5_init_5 : decode cX5_init 5 = .ok (.new 7, 3) := by decide +kernel
theorem dX5_init_8 : decode cX5_init 8 = .ok (.dup, 1) := by decide +kernel
theorem dX5_init_9 : decode cX5_init 9 = .ok (.invokespecial 9, 3) := by decide +kernel
theorem dX5_init_12 : decode cX5_init 12 = .ok (.putfield 10, 3) := by decide +kernel
theorem dX5_init_15 : decode cX5_init 15 = .ok (.aload_n 0, 1) := by decide +kernel
theorem dX5_init_16 : decode cX5_init 16 = .ok (.new 16, 3) := by decide +kernel
theorem dX5_init_19 : decode cX5_init 19 = .ok (.dup, 1) := by decide +kernel
theorem dX5_init_20 : decode cX5_init 20 = .ok (.aload_n 0, 1) := by decide +kernel
theorem dX5_init_21 : decode cX5_init 21 = .ok (.getfield 10, 3) := by decide +kernel
theorem dX5_init_24 : decode cX5_init 24 = .ok (.invokespecial 18, 3) := by decide +kernel
theorem dX5_init_27 : decode cX5_init 27 = .ok (.putfield 21, 3) := by decide +kernel
theorem dX5_init_30 : decode cX5_init 30 = .ok (.aload_n 0, 1) := by decide +kernel
theorem dX5_init_31 : decode cX5_init 31 = .ok (.new 25, 3) := by decide +kernel
theorem dX5_init_34 : decode cX5_init 34 = .ok (.dup, 1) := by decide +kernel
theorem dX5_init_35 : decode cX5_init 35 = .ok (.aload_n 0, 1) := by decide +kernel
theorem dX5_init_36 : decode cX5_init 36 = .ok (.getfield 10, 3) := by decide +kernel
theorem dX5_init_39 : decode cX5_init 39 = .ok (.invokespecial 27, 3) := by decide +kernel
theorem dX5_init_42 : decode cX5_init 42 = .ok (.putfield 28, 3) := by decide +kernel
theorem dX5_init_45 : decode cX5_init 45 = .ok (.aload_n 0, 1) := by decide +kernel
theorem dX5_init_46 : decode cX5_init 46 = .ok (.new 32, 3) := by decide +kernel
theorem dX5_init_49 : decode cX5_init 49 = .ok (.dup, 1) := by decide +kernel
theorem dX5_init_50 : decode cX5_init 50 = .ok (.aload_n 0, 1) := by decide +kernel
theorem dX5_init_51 : decode cX5_init 51 = .ok (.getfield 10, 3) := by decide +kernel
theorem dX5_init_54 : decode cX5_init 54 = .ok (.aload_n 0, 1) := by decide +kernel
theorem dX5_init_55 : decode cX5_init 55 = .ok (.getfield 28, 3) := by decide +kernel
theorem dX5_init_58 : decode cX5_init 58 = .ok (.invokespecial 34, 3) := by decide +kernel
theorem dX5_init_61 : decode cX5_init 61 = .ok (.putfield 37, 3) := by decide +kernel
theorem dX5_init_64 : decode cX5_init 64 = .ok (.aload_n 0, 1) := by decide +kernel
theorem dX5_init_65 : decode cX5_init 65 = .ok (.new 41, 3) := by decide +kernel
theorem dX5_init_68 : decode cX5_init 68 = .ok (.dup, 1) := by decide +kernel
theorem dX5_init_69 : decode cX5_init 69 = .ok (.aload_n 0, 1) := by decide +kernel
theorem dX5_init_70 : decode cX5_init 70 = .ok (.getfield 10, 3) := by decide +kernel
theorem dX5_init_73 : decode cX5_init 73 = .ok (.aload_n 0, 1) := by decide +kernel
theorem dX5_init_74 : decode cX5_init 74 = .ok (.getfield 28, 3) := by decide +kernel
theorem dX5_init_77 : decode cX5_init 77 = .ok (.invokespecial 43, 3) := by decide +kernel
theorem dX5_init_80 : decode cX5_init 80 = .ok (.putfield 44, 3) := by decide +kernel
theorem dX5_init_83 : decode cX5_init 83 = .ok (.return_, 1) := by decide +kernel
theorem dX5_relay_0 : decode cX5_relay 0 = .ok (.aload_n 0, 1) := by decide +kernel
theorem dX5_relay_1 : decode cX5_relay 1 = .ok (.getfield 10, 3) := by decide +kernel
theorem dX5_relay_4 : decode cX5_relay 4 = .ok (.getfield 48, 3) := by decide +kernel
theorem dX5_relay_7 : decode cX5_relay 7 = .ok (.bipush 12, 2) := by decide +kernel
theorem dX5_relay_9 : decode cX5_relay 9 = .ok (.if_icmp .lt 6, 3) := by decide +kernel
theorem dX5_relay_12 : decode cX5_relay 12 = .ok (.bipush (-4), 2) := by decide +kernel
theorem dX5_relay_14 : decode cX5_relay 14 = .ok (.ireturn, 1) := by decide +kernel
theorem dX5_relay_15 : decode cX5_relay 15 = .ok (.aload_n 0, 1) := by decide +kernel
theorem dX5_relay_16 : decode cX5_relay 16 = .ok (.getfield 10, 3) := by decide +kernel
theorem dX5_relay_19 : decode cX5_relay 19 = .ok (.dup, 1) := by decide +kernel
theorem dX5_relay_20 : decode cX5_relay 20 = .ok (.getfield 48, 3) := by decide +kernel
theorem dX5_relay_23 : decode cX5_relay 23 = .ok (.iconst 1, 1) := by decide +kernel
theorem dX5_relay_24 : decode cX5_relay 24 = .ok (.iadd, 1) := by decide +kernel
theorem dX5_relay_25 : decode cX5_relay 25 = .ok (.putfield 48, 3) := by decide +kernel
theorem dX5_relay_28 : decode cX5_relay 28 = .ok (.aload_n 0, 1) := by decide +kernel
theorem dX5_relay_29 : decode cX5_relay 29 = .ok (.getfield 10, 3) := by decide +kernel
theorem dX5_relay_32 : decode cX5_relay 32 = .ok (.getfield 48, 3) := by decide +kernel
theorem dX5_relay_35 : decode cX5_relay 35 = .ok (.iconst 1, 1) := by decide +kernel
theorem dX5_relay_36 : decode cX5_relay 36 = .ok (.isub, 1) := by decide +kernel
theorem dX5_relay_37 : decode cX5_relay 37 = .ok (.ireturn, 1) := by decide +kernel
set_option maxRecDepth 20000 in
theorem ggX5_line_X2_isRelay : GoodIn wsX5_line wsX2_isRelay := goodIn_r _ [7, 8, 27, 28, 29, 30, 31, 32, 33, 34, 35, 36, 37, 38, 39, 40, 41, 42] (by decide +kernel) (by decide +kernel)
set_option maxRecDepth 20000 in
theorem gX5_line_X2_isRelay : GoodIn wsX5_line (wsV RX5 52 RX2 yX2_isRelay wsX2_isRelay) := goodIn_app (goodIn_of _ (by decide +kernel)) ggX5_line_X2_isRelay
set_option maxRecDepth 20000 in
theorem ggX5_line_X2_addLine : GoodIn wsX5_line wsX2_addLine := goodIn_r _ [12, 13, 14, 15, 16, 17, 18, 19, 20, 21, 27, 28, 29, 30, 31, 32, 33, 34, 35, 36, 37, 38, 39, 40, 41, 42] (by decide +kernel) (by decide +kernel)
set_option maxRecDepth 20000 in
theorem gX5_line_X2_addLine : GoodIn wsX5_line (wsV RX5 59 RX2 yX2_addLine wsX2_addLine) := goodIn_app (goodIn_of _ (by decide +kernel)) ggX5_line_X2_addLine
theorem dX5_line_0 : decode cX5_line 0 = .ok (.aload_n 0, 1) := by decide +kernel
theorem dX5_line_1 : decode cX5_line 1 = .ok (.getfield 10, 3) := by decide +kernel
theorem dX5_line_4 : decode cX5_line 4 = .ok (.iload_n 1, 1) := by decide +kernel
theorem dX5_line_5 : decode cX5_line 5 = .ok (.invokevirtual 52, 3) := by decide +kernel
theorem dX5_line_8 : decode cX5_line 8 = .ok (.ifCond .eq 14, 3) := by decide +kernel
theorem dX5_line_11 : decode cX5_line 11 = .ok (.aload_n 0, 1) := by decide +kernel
theorem dX5_line_12 : decode cX5_line 12 = .ok (.getfield 10, 3) := by decide +kernel
theorem dX5_line_15 : decode cX5_line 15 = .ok (.iload_n 2, 1) := by decide +kernel
theorem dX5_line_16 : decode cX5_line 16 = .ok (.invokevirtual 52, 3) := by decide +kernel
theorem dX5_line_19 : decode cX5_line 19 = .ok (.ifCond .ne 5, 3) := by decide +kernel
theorem dX5_line_22 : decode cX5_line 22 = .ok (.iconst (-1), 1) := by decide +kernel
theorem dX5_line_23 : decode cX5_line 23 = .ok (.ireturn, 1) := by decide +kernel
theorem dX5_line_24 : decode cX5_line 24 = .ok (.iload_n 2, 1) := by decide +kernel
theorem dX5_line_25 : decode cX5_line 25 = .ok (.iload_n 1, 1) := by decide +kernel
theorem dX5_line_26 : decode cX5_line 26 = .ok (.if_icmp .gt 6, 3) := by decide +kernel
theorem dX5_line_29 : decode cX5_line 29 = .ok (.bipush (-2), 2) := by decide +kernel
theorem dX5_line_31 : decode cX5_line 31 = .ok (.ireturn, 1) := by decide +kernel
theorem dX5_line_32 : decode cX5_line 32 = .ok (.aload_n 0, 1) := by decide +kernel
theorem dX5_line_33 : decode cX5_line 33 = .ok (.getfield 10, 3) := by decide +kernel
theorem dX5_line_36 : decode cX5_line 36 = .ok (.getfield 56, 3) := by decide +kernel
theorem dX5_line_39 : decode cX5_line 39 = .ok (.bipush 30, 2) := by decide +kernel
theorem dX5_line_41 : decode cX5_line 41 = .ok (.if_icmp .lt 6, 3) := by decide +kernel
theorem dX5_line_44 : decode cX5_line 44 = .ok (.bipush (-4), 2) := by decide +kernel
theorem dX5_line_46 : decode cX5_line 46 = .ok (.ireturn, 1) := by decide +kernel
theorem dX5_line_47 : decode cX5_line 47 = .ok (.aload_n 0, 1) := by decide +kernel
theorem dX5_line_48 : decode cX5_line 48 = .ok (.getfield 10, 3) := by decide +kernel
theorem dX5_line_51 : decode cX5_line 51 = .ok (.iload_n 1, 1) := by decide +kernel
theorem dX5_line_52 : decode cX5_line 52 = .ok (.iload_n 2, 1) := by decide +kernel
theorem dX5_line_53 : decode cX5_line 53 = .ok (.invokevirtual 59, 3) := by decide +kernel
theorem dX5_line_56 : decode cX5_line 56 = .ok (.ireturn, 1) := by decide +kernel
set_option maxRecDepth 20000 in
theorem ggX5_pieces_J7_fill_d0a16 : GoodIn wsX5_pieces wsJ7_fill_d0a16 := goodIn_r _ [8] (by decide +kernel) (by decide +kernel)
set_option maxRecDepth 20000 in
theorem gX5_pieces_J7_fill_d0a16 : GoodIn wsX5_pieces (va_wsS RX5 70 yJ7_fill_d0a16 wsJ7_fill_d0a16) := goodIn_app (goodIn_of _ (by decide +kernel)) ggX5_pieces_J7_fill_d0a16
theorem dX5_pieces_0 : decode cX5_pieces 0 = .ok (.iload_n 1, 1) := by decide +kernel
theorem dX5_pieces_1 : decode cX5_pieces 1 = .ok (.iconst 1, 1) := by decide +kernel
theorem dX5_pieces_2 : decode cX5_pieces 2 = .ok (.if_icmp .lt 8, 3) := by decide +kernel
theorem dX5_pieces_5 : decode cX5_pieces 5 = .ok (.iload_n 1, 1) := by decide +kernel
theorem dX5_pieces_6 : decode cX5_pieces 6 = .ok (.iconst 4, 1) := by decide +kernel
theorem dX5_pieces_7 : decode cX5_pieces 7 = .ok (.if_icmp .le 6, 3) := by decide +kernel
theorem dX5_pieces_10 : decode cX5_pieces 10 = .ok (.bipush (-2), 2) := by decide +kernel
theorem dX5_pieces_12 : decode cX5_pieces 12 = .ok (.ireturn, 1) := by decide +kernel
theorem dX5_pieces_13 : decode cX5_pieces 13 = .ok (.aload_n 0, 1) := by decide +kernel
theorem dX5_pieces_14 : decode cX5_pieces 14 = .ok (.getfield 10, 3) := by decide +kernel
theorem dX5_pieces_17 : decode cX5_pieces 17 = .ok (.getfield 56, 3) := by decide +kernel
theorem dX5_pieces_20 : decode cX5_pieces 20 = .ok (.ifCond .le 6, 3) := by decide +kernel
theorem dX5_pieces_23 : decode cX5_pieces 23 = .ok (.bipush (-3), 2) := by decide +kernel
theorem dX5_pieces_25 : decode cX5_pieces 25 = .ok (.ireturn, 1) := by decide +kernel
theorem dX5_pieces_26 : decode cX5_pieces 26 = .ok (.aload_n 0, 1) := by decide +kernel
theorem dX5_pieces_27 : decode cX5_pieces 27 = .ok (.getfield 10, 3) := by decide +kernel
theorem dX5_pieces_30 : decode cX5_pieces 30 = .ok (.getfield 63, 3) := by decide +kernel
theorem dX5_pieces_33 : decode cX5_pieces 33 = .ok (.istore_n 2, 1) := by decide +kernel
theorem dX5_pieces_34 : decode cX5_pieces 34 = .ok (.aload_n 0, 1) := by decide +kernel
theorem dX5_pieces_35 : decode cX5_pieces 35 = .ok (.getfield 10, 3) := by decide +kernel
theorem dX5_pieces_38 : decode cX5_pieces 38 = .ok (.iload_n 1, 1) := by decide +kernel
theorem dX5_pieces_39 : decode cX5_pieces 39 = .ok (.putfield 63, 3) := by decide +kernel
theorem dX5_pieces_42 : decode cX5_pieces 42 = .ok (.aload_n 0, 1) := by decide +kernel
theorem dX5_pieces_43 : decode cX5_pieces 43 = .ok (.getfield 10, 3) := by decide +kernel
theorem dX5_pieces_46 : decode cX5_pieces 46 = .ok (.getfield 66, 3) := by decide +kernel
theorem dX5_pieces_49 : decode cX5_pieces 49 = .ok (.lconst 0, 1) := by decide +kernel
theorem dX5_pieces_50 : decode cX5_pieces 50 = .ok (.invokestatic 70, 3) := by decide +kernel
theorem dX5_pieces_53 : decode cX5_pieces 53 = .ok (.iload_n 2, 1) := by decide +kernel
theorem dX5_pieces_54 : decode cX5_pieces 54 = .ok (.ireturn, 1) := by decide +kernel
set_option maxRecDepth 20000 in
theorem ggX5_piece_X2_isPiece : GoodIn wsX5_piece wsX2_isPiece := goodIn_r _ [7, 8, 14, 15, 16, 17, 18, 19, 20, 21, 22, 23, 24, 25, 26, 27, 28, 29] (by decide +kernel) (by decide +kernel)
set_option maxRecDepth 20000 in
theorem gX5_piece_X2_isPiece : GoodIn wsX5_piece (wsV RX5 76 RX2 yX2_isPiece wsX2_isPiece) := goodIn_app (goodIn_of _ (by decide +kernel)) ggX5_piece_X2_isPiece
theorem dX5_piece_0 : decode cX5_piece 0 = .ok (.aload_n 0, 1) := by decide +kernel
theorem dX5_piece_1 : decode cX5_piece 1 = .ok (.getfield 10, 3) := by decide +kernel
theorem dX5_piece_4 : decode cX5_piece 4 = .ok (.iload_n 1, 1) := by decide +kernel
theorem dX5_piece_5 : decode cX5_piece 5 = .ok (.invokevirtual 76, 3) := by decide +kernel
theorem dX5_piece_8 : decode cX5_piece 8 = .ok (.ifCond .ne 5, 3) := by decide +kernel
theorem dX5_piece_11 : decode cX5_piece 11 = .ok (.iconst (-1), 1) := by decide +kernel
theorem dX5_piece_12 : decode cX5_piece 12 = .ok (.ireturn, 1) := by decide +kernel
theorem dX5_piece_13 : decode cX5_piece 13 = .ok (.aload_n 0, 1) := by decide +kernel
theorem dX5_piece_14 : decode cX5_piece 14 = .ok (.getfield 10, 3) := by decide +kernel
theorem dX5_piece_17 : decode cX5_piece 17 = .ok (.getfield 66, 3) := by decide +kernel
theorem dX5_piece_20 : decode cX5_piece 20 = .ok (.iload_n 1, 1) := by decide +kernel
theorem dX5_piece_21 : decode cX5_piece 21 = .ok (.lload_n 2, 1) := by decide +kernel
theorem dX5_piece_22 : decode cX5_piece 22 = .ok (.lastore, 1) := by decide +kernel
theorem dX5_piece_23 : decode cX5_piece 23 = .ok (.iconst 0, 1) := by decide +kernel
theorem dX5_piece_24 : decode cX5_piece 24 = .ok (.ireturn, 1) := by decide +kernel
set_option maxRecDepth 20000 in
theorem ggX5_end_X2_isRelay : GoodIn wsX5_end wsX2_isRelay := goodIn_r _ [7, 8, 24, 25, 26, 27, 28, 29, 30, 31, 32, 33, 34, 35, 36, 37, 38, 39] (by decide +kernel) (by decide +kernel)
set_option maxRecDepth 20000 in
theorem gX5_end_X2_isRelay : GoodIn wsX5_end (wsV RX5 52 RX2 yX2_isRelay wsX2_isRelay) := goodIn_app (goodIn_of _ (by decide +kernel)) ggX5_end_X2_isRelay
set_option maxRecDepth 20000 in
theorem ggX5_end_X5_isFlag : GoodIn wsX5_end wsX5_isFlag := goodIn_r _ [12] (by decide +kernel) (by decide +kernel)
set_option maxRecDepth 20000 in
theorem gX5_end_X5_isFlag : GoodIn wsX5_end (va_wsS RX5 79 yX5_isFlag wsX5_isFlag) := goodIn_app (goodIn_of _ (by decide +kernel)) ggX5_end_X5_isFlag
set_option maxRecDepth 20000 in
theorem ggX5_end_X5_flag : GoodIn wsX5_end wsX5_flag := goodIn_r _ [15] (by decide +kernel) (by decide +kernel)
set_option maxRecDepth 20000 in
theorem gX5_end_X5_flag : GoodIn wsX5_end (va_wsS RX5 85 yX5_flag wsX5_flag) := goodIn_app (goodIn_of _ (by decide +kernel)) ggX5_end_X5_flag
set_option maxRecDepth 20000 in
theorem ggX5_end_X5_withFlag : GoodIn wsX5_end wsX5_withFlag := goodIn_r _ [18] (by decide +kernel) (by decide +kernel)
set_option maxRecDepth 20000 in
theorem gX5_end_X5_withFlag : GoodIn wsX5_end (va_wsS RX5 88 yX5_withFlag wsX5_withFlag) := goodIn_app (goodIn_of _ (by decide +kernel)) ggX5_end_X5_withFlag
theorem dX5_end_0 : decode cX5_end 0 = .ok (.aload_n 0, 1) := by decide +kernel
theorem dX5_end_1 : decode cX5_end 1 = .ok (.getfield 10, 3) := by decide +kernel
theorem dX5_end_4 : decode cX5_end 4 = .ok (.iload_n 1, 1) := by decide +kernel
theorem dX5_end_5 : decode cX5_end 5 = .ok (.invokevirtual 52, 3) := by decide +kernel
theorem dX5_end_8 : decode cX5_end 8 = .ok (.ifCond .ne 5, 3) := by decide +kernel
theorem dX5_end_11 : decode cX5_end 11 = .ok (.iconst (-1), 1) := by decide +kernel
theorem dX5_end_12 : decode cX5_end 12 = .ok (.ireturn, 1) := by decide +kernel
theorem dX5_end_13 : decode cX5_end 13 = .ok (.iload_n 2, 1) := by decide +kernel
theorem dX5_end_14 : decode cX5_end 14 = .ok (.invokestatic 79, 3) := by decide +kernel
theorem dX5_end_17 : decode cX5_end 17 = .ok (.ifCond .eq 7, 3) := by decide +kernel
theorem dX5_end_20 : decode cX5_end 20 = .ok (.iload_n 1, 1) := by decide +kernel
theorem dX5_end_21 : decode cX5_end 21 = .ok (.ifCond .ne 6, 3) := by decide +kernel
theorem dX5_end_24 : decode cX5_end 24 = .ok (.bipush (-2), 2) := by decide +kernel
theorem dX5_end_26 : decode cX5_end 26 = .ok (.ireturn, 1) := by decide +kernel
theorem dX5_end_27 : decode cX5_end 27 = .ok (.aload_n 0, 1) := by decide +kernel
theorem dX5_end_28 : decode cX5_end 28 = .ok (.getfield 10, 3) := by decide +kernel
theorem dX5_end_31 : decode cX5_end 31 = .ok (.getfield 82, 3) := by decide +kernel
theorem dX5_end_34 : decode cX5_end 34 = .ok (.iload_n 1, 1) := by decide +kernel
theorem dX5_end_35 : decode cX5_end 35 = .ok (.invokestatic 85, 3) := by decide +kernel
theorem dX5_end_38 : decode cX5_end 38 = .ok (.istore_n 3, 1) := by decide +kernel
theorem dX5_end_39 : decode cX5_end 39 = .ok (.aload_n 0, 1) := by decide +kernel
theorem dX5_end_40 : decode cX5_end 40 = .ok (.getfield 10, 3) := by decide +kernel
theorem dX5_end_43 : decode cX5_end 43 = .ok (.aload_n 0, 1) := by decide +kernel
theorem dX5_end_44 : decode cX5_end 44 = .ok (.getfield 10, 3) := by decide +kernel
theorem dX5_end_47 : decode cX5_end 47 = .ok (.getfield 82, 3) := by decide +kernel
theorem dX5_end_50 : decode cX5_end 50 = .ok (.iload_n 1, 1) := by decide +kernel
theorem dX5_end_51 : decode cX5_end 51 = .ok (.iload_n 2, 1) := by decide +kernel
theorem dX5_end_52 : decode cX5_end 52 = .ok (.invokestatic 88, 3) := by decide +kernel
theorem dX5_end_55 : decode cX5_end 55 = .ok (.putfield 82, 3) := by decide +kernel
theorem dX5_end_58 : decode cX5_end 58 = .ok (.iload_n 3, 1) := by decide +kernel
theorem dX5_end_59 : decode cX5_end 59 = .ok (.ireturn, 1) := by decide +kernel
set_option maxRecDepth 20000 in
theorem ggX5_factor_X2_isLine : GoodIn wsX5_factor wsX2_isLine := goodIn_r _ [7, 8, 28, 29, 30, 31, 32, 33, 34, 35, 36, 37, 38, 39, 40, 41, 42, 43] (by decide +kernel) (by decide +kernel)
set_option maxRecDepth 20000 in
theorem gX5_factor_X2_isLine : GoodIn wsX5_factor (wsV RX5 92 RX2 yX2_isLine wsX2_isLine) := goodIn_app (goodIn_of _ (by decide +kernel)) ggX5_factor_X2_isLine
set_option maxRecDepth 20000 in
theorem ggX5_factor_X2_insOf : GoodIn wsX5_factor wsX2_insOf := goodIn_r _ [12, 13, 14, 15, 28, 29, 30, 31, 32, 33, 34, 35, 36, 37, 38, 39, 40, 41, 42, 43] (by decide +kernel) (by decide +kernel)
set_option maxRecDepth 20000 in
theorem gX5_factor_X2_insOf : GoodIn wsX5_factor (wsV RX5 95 RX2 yX2_insOf wsX2_insOf) := goodIn_app (goodIn_of _ (by decide +kernel)) ggX5_factor_X2_insOf
set_option maxRecDepth 20000 in
theorem ggX5_factor_X5_isNumber : GoodIn wsX5_factor wsX5_isNumber := goodIn_r _ [19] (by decide +kernel) (by decide +kernel)
set_option maxRecDepth 20000 in
theorem gX5_factor_X5_isNumber : GoodIn wsX5_factor (va_wsS RX5 99 yX5_isNumber wsX5_isNumber) := goodIn_app (goodIn_of _ (by decide +kernel)) ggX5_factor_X5_isNumber
set_option maxRecDepth 20000 in
theorem ggX5_factor_X5_slot : GoodIn wsX5_factor wsX5_slot := goodIn_r _ [22] (by decide +kernel) (by decide +kernel)
set_option maxRecDepth 20000 in
theorem gX5_factor_X5_slot : GoodIn wsX5_factor (va_wsS RX5 102 yX5_slot wsX5_slot) := goodIn_app (goodIn_of _ (by decide +kernel)) ggX5_factor_X5_slot
theorem dX5_factor_0 : decode cX5_factor 0 = .ok (.aload_n 0, 1) := by decide +kernel
theorem dX5_factor_1 : decode cX5_factor 1 = .ok (.getfield 10, 3) := by decide +kernel
theorem dX5_factor_4 : decode cX5_factor 4 = .ok (.iload_n 1, 1) := by decide +kernel
theorem dX5_factor_5 : decode cX5_factor 5 = .ok (.invokevirtual 92, 3) := by decide +kernel
theorem dX5_factor_8 : decode cX5_factor 8 = .ok (.ifCond .eq 19, 3) := by decide +kernel
theorem dX5_factor_11 : decode cX5_factor 11 = .ok (.iload_n 2, 1) := by decide +kernel
theorem dX5_factor_12 : decode cX5_factor 12 = .ok (.ifCond .lt 15, 3) := by decide +kernel
theorem dX5_factor_15 : decode cX5_factor 15 = .ok (.iload_n 2, 1) := by decide +kernel
theorem dX5_factor_16 : decode cX5_factor 16 = .ok (.aload_n 0, 1) := by decide +kernel
theorem dX5_factor_17 : decode cX5_factor 17 = .ok (.getfield 10, 3) := by decide +kernel
theorem dX5_factor_20 : decode cX5_factor 20 = .ok (.iload_n 1, 1) := by decide +kernel
theorem dX5_factor_21 : decode cX5_factor 21 = .ok (.invokevirtual 95, 3) := by decide +kernel
theorem dX5_factor_24 : decode cX5_factor 24 = .ok (.if_icmp .lt 5, 3) := by decide +kernel
theorem dX5_factor_27 : decode cX5_factor 27 = .ok (.iconst (-1), 1) := by decide +kernel
theorem dX5_factor_28 : decode cX5_factor 28 = .ok (.ireturn, 1) := by decide +kernel
theorem dX5_factor_29 : decode cX5_factor 29 = .ok (.iload_n 3, 1) := by decide +kernel
theorem dX5_factor_30 : decode cX5_factor 30 = .ok (.invokestatic 99, 3) := by decide +kernel
theorem dX5_factor_33 : decode cX5_factor 33 = .ok (.ifCond .ne 6, 3) := by decide +kernel
theorem dX5_factor_36 : decode cX5_factor 36 = .ok (.bipush (-2), 2) := by decide +kernel
theorem dX5_factor_38 : decode cX5_factor 38 = .ok (.ireturn, 1) := by decide +kernel
theorem dX5_factor_39 : decode cX5_factor 39 = .ok (.iload_n 1, 1) := by decide +kernel
theorem dX5_factor_40 : decode cX5_factor 40 = .ok (.iload_n 2, 1) := by decide +kernel
theorem dX5_factor_41 : decode cX5_factor 41 = .ok (.invokestatic 102, 3) := by decide +kernel
theorem dX5_factor_44 : decode cX5_factor 44 = .ok (.istore 4, 2) := by decide +kernel
theorem dX5_factor_46 : decode cX5_factor 46 = .ok (.aload_n 0, 1) := by decide +kernel
theorem dX5_factor_47 : decode cX5_factor 47 = .ok (.getfield 10, 3) := by decide +kernel
theorem dX5_factor_50 : decode cX5_factor 50 = .ok (.getfield 105, 3) := by decide +kernel
theorem dX5_factor_53 : decode cX5_factor 53 = .ok (.iload 4, 2) := by decide +kernel
theorem dX5_factor_55 : decode cX5_factor 55 = .ok (.iaload, 1) := by decide +kernel
theorem dX5_factor_56 : decode cX5_factor 56 = .ok (.istore 5, 2) := by decide +kernel
theorem dX5_factor_58 : decode cX5_factor 58 = .ok (.aload_n 0, 1) := by decide +kernel
theorem dX5_factor_59 : decode cX5_factor 59 = .ok (.getfield 10, 3) := by decide +kernel
end
section
theorem dX5_factor_62 : decode cX5_factor 62 = .ok (.getfield 105, 3) := by decide +kernel
theorem dX5_factor_65 : decode cX5_factor 65 = .ok (.iload 4, 2) := by decide +kernel
theorem dX5_factor_67 : decode cX5_factor 67 = .ok (.iload_n 3, 1) := by decide +kernel
theorem dX5_factor_68 : decode cX5_factor 68 = .ok (.iastore, 1) := by decide +kernel
theorem dX5_factor_69 : decode cX5_factor 69 = .ok (.iload 5, 2) := by decide +kernel
theorem dX5_factor_71 : decode cX5_factor 71 = .ok (.ireturn, 1) := by decide +kernel
set_option maxRecDepth 20000 in
theorem ggX5_keep_X2_isLine : GoodIn wsX5_keep wsX2_isLine := goodIn_r _ [7, 8, 24, 25, 26, 27, 28, 29, 30, 31, 32, 33, 34, 35, 36, 37, 38, 39] (by decide +kernel) (by decide +kernel)
set_option maxRecDepth 20000 in
theorem gX5_keep_X2_isLine : GoodIn wsX5_keep (wsV RX5 92 RX2 yX2_isLine wsX2_isLine) := goodIn_app (goodIn_of _ (by decide +kernel)) ggX5_keep_X2_isLine
set_option maxRecDepth 20000 in
theorem ggX5_keep_X5_isFlag : GoodIn wsX5_keep wsX5_isFlag := goodIn_r _ [12] (by decide +kernel) (by decide +kernel)
set_option maxRecDepth 20000 in
theorem gX5_keep_X5_isFlag : GoodIn wsX5_keep (va_wsS RX5 79 yX5_isFlag wsX5_isFlag) := goodIn_app (goodIn_of _ (by decide +kernel)) ggX5_keep_X5_isFlag
set_option maxRecDepth 20000 in
theorem ggX5_keep_X5_flag : GoodIn wsX5_keep wsX5_flag := goodIn_r _ [15] (by decide +kernel) (by decide +kernel)
set_option maxRecDepth 20000 in
theorem gX5_keep_X5_flag : GoodIn wsX5_keep (va_wsS RX5 85 yX5_flag wsX5_flag) := goodIn_app (goodIn_of _ (by decide +kernel)) ggX5_keep_X5_flag
set_option maxRecDepth 20000 in
theorem ggX5_keep_X5_withFlag : GoodIn wsX5_keep wsX5_withFlag := goodIn_r _ [18] (by decide +kernel) (by decide +kernel)
set_option maxRecDepth 20000 in
theorem gX5_keep_X5_withFlag : GoodIn wsX5_keep (va_wsS RX5 88 yX5_withFlag wsX5_withFlag) := goodIn_app (goodIn_of _ (by decide +kernel)) ggX5_keep_X5_withFlag
theorem dX5_keep_0 : decode cX5_keep 0 = .ok (.aload_n 0, 1) := by decide +kernel
theorem dX5_keep_1 : decode cX5_keep 1 = .ok (.getfield 10, 3) := by decide +kernel
theorem dX5_keep_4 : decode cX5_keep 4 = .ok (.iload_n 1, 1) := by decide +kernel
theorem dX5_keep_5 : decode cX5_keep 5 = .ok (.invokevirtual 92, 3) := by decide +kernel
theorem dX5_keep_8 : decode cX5_keep 8 = .ok (.ifCond .ne 5, 3) := by decide +kernel
theorem dX5_keep_11 : decode cX5_keep 11 = .ok (.iconst (-1), 1) := by decide +kernel
theorem dX5_keep_12 : decode cX5_keep 12 = .ok (.ireturn, 1) := by decide +kernel
theorem dX5_keep_13 : decode cX5_keep 13 = .ok (.iload_n 2, 1) := by decide +kernel
theorem dX5_keep_14 : decode cX5_keep 14 = .ok (.invokestatic 79, 3) := by decide +kernel
theorem dX5_keep_17 : decode cX5_keep 17 = .ok (.ifCond .ne 6, 3) := by decide +kernel
theorem dX5_keep_20 : decode cX5_keep 20 = .ok (.bipush (-2), 2) := by decide +kernel
theorem dX5_keep_22 : decode cX5_keep 22 = .ok (.ireturn, 1) := by decide +kernel
theorem dX5_keep_23 : decode cX5_keep 23 = .ok (.aload_n 0, 1) := by decide +kernel
theorem dX5_keep_24 : decode cX5_keep 24 = .ok (.getfield 10, 3) := by decide +kernel
theorem dX5_keep_27 : decode cX5_keep 27 = .ok (.getfield 109, 3) := by decide +kernel
theorem dX5_keep_30 : decode cX5_keep 30 = .ok (.iload_n 1, 1) := by decide +kernel
theorem dX5_keep_31 : decode cX5_keep 31 = .ok (.invokestatic 85, 3) := by decide +kernel
theorem dX5_keep_34 : decode cX5_keep 34 = .ok (.istore_n 3, 1) := by decide +kernel
theorem dX5_keep_35 : decode cX5_keep 35 = .ok (.aload_n 0, 1) := by decide +kernel
theorem dX5_keep_36 : decode cX5_keep 36 = .ok (.getfield 10, 3) := by decide +kernel
theorem dX5_keep_39 : decode cX5_keep 39 = .ok (.aload_n 0, 1) := by decide +kernel
theorem dX5_keep_40 : decode cX5_keep 40 = .ok (.getfield 10, 3) := by decide +kernel
theorem dX5_keep_43 : decode cX5_keep 43 = .ok (.getfield 109, 3) := by decide +kernel
theorem dX5_keep_46 : decode cX5_keep 46 = .ok (.iload_n 1, 1) := by decide +kernel
theorem dX5_keep_47 : decode cX5_keep 47 = .ok (.iload_n 2, 1) := by decide +kernel
theorem dX5_keep_48 : decode cX5_keep 48 = .ok (.invokestatic 88, 3) := by decide +kernel
theorem dX5_keep_51 : decode cX5_keep 51 = .ok (.putfield 109, 3) := by decide +kernel
theorem dX5_keep_54 : decode cX5_keep 54 = .ok (.iload_n 3, 1) := by decide +kernel
theorem dX5_keep_55 : decode cX5_keep 55 = .ok (.ireturn, 1) := by decide +kernel
set_option maxRecDepth 20000 in
theorem ggX5_broken_X2_isLine : GoodIn wsX5_broken wsX2_isLine := goodIn_r _ [7, 8, 24, 25, 26, 27, 28, 29, 30, 31, 32, 33, 34, 35, 36, 37, 38, 39] (by decide +kernel) (by decide +kernel)
set_option maxRecDepth 20000 in
theorem gX5_broken_X2_isLine : GoodIn wsX5_broken (wsV RX5 92 RX2 yX2_isLine wsX2_isLine) := goodIn_app (goodIn_of _ (by decide +kernel)) ggX5_broken_X2_isLine
set_option maxRecDepth 20000 in
theorem ggX5_broken_X5_isFlag : GoodIn wsX5_broken wsX5_isFlag := goodIn_r _ [12] (by decide +kernel) (by decide +kernel)
set_option maxRecDepth 20000 in
theorem gX5_broken_X5_isFlag : GoodIn wsX5_broken (va_wsS RX5 79 yX5_isFlag wsX5_isFlag) := goodIn_app (goodIn_of _ (by decide +kernel)) ggX5_broken_X5_isFlag
set_option maxRecDepth 20000 in
theorem ggX5_broken_X5_flag : GoodIn wsX5_broken wsX5_flag := goodIn_r _ [15] (by decide +kernel) (by decide +kernel)
set_option maxRecDepth 20000 in
theorem gX5_broken_X5_flag : GoodIn wsX5_broken (va_wsS RX5 85 yX5_flag wsX5_flag) := goodIn_app (goodIn_of _ (by decide +kernel)) ggX5_broken_X5_flag
set_option maxRecDepth 20000 in
theorem ggX5_broken_X5_withFlag : GoodIn wsX5_broken wsX5_withFlag := goodIn_r _ [18] (by decide +kernel) (by decide +kernel)
set_option maxRecDepth 20000 in
theorem gX5_broken_X5_withFlag : GoodIn wsX5_broken (va_wsS RX5 88 yX5_withFlag wsX5_withFlag) := goodIn_app (goodIn_of _ (by decide +kernel)) ggX5_broken_X5_withFlag
theorem dX5_broken_0 : decode cX5_broken 0 = .ok (.aload_n 0, 1) := by decide +kernel
theorem dX5_broken_1 : decode cX5_broken 1 = .ok (.getfield 10, 3) := by decide +kernel
theorem dX5_broken_4 : decode cX5_broken 4 = .ok (.iload_n 1, 1) := by decide +kernel
theorem dX5_broken_5 : decode cX5_broken 5 = .ok (.invokevirtual 92, 3) := by decide +kernel
theorem dX5_broken_8 : decode cX5_broken 8 = .ok (.ifCond .ne 5, 3) := by decide +kernel
theorem dX5_broken_11 : decode cX5_broken 11 = .ok (.iconst (-1), 1) := by decide +kernel
theorem dX5_broken_12 : decode cX5_broken 12 = .ok (.ireturn, 1) := by decide +kernel
theorem dX5_broken_13 : decode cX5_broken 13 = .ok (.iload_n 2, 1) := by decide +kernel
theorem dX5_broken_14 : decode cX5_broken 14 = .ok (.invokestatic 79, 3) := by decide +kernel
theorem dX5_broken_17 : decode cX5_broken 17 = .ok (.ifCond .ne 6, 3) := by decide +kernel
theorem dX5_broken_20 : decode cX5_broken 20 = .ok (.bipush (-2), 2) := by decide +kernel
theorem dX5_broken_22 : decode cX5_broken 22 = .ok (.ireturn, 1) := by decide +kernel
theorem dX5_broken_23 : decode cX5_broken 23 = .ok (.aload_n 0, 1) := by decide +kernel
theorem dX5_broken_24 : decode cX5_broken 24 = .ok (.getfield 10, 3) := by decide +kernel
theorem dX5_broken_27 : decode cX5_broken 27 = .ok (.getfield 112, 3) := by decide +kernel
theorem dX5_broken_30 : decode cX5_broken 30 = .ok (.iload_n 1, 1) := by decide +kernel
theorem dX5_broken_31 : decode cX5_broken 31 = .ok (.invokestatic 85, 3) := by decide +kernel
theorem dX5_broken_34 : decode cX5_broken 34 = .ok (.istore_n 3, 1) := by decide +kernel
theorem dX5_broken_35 : decode cX5_broken 35 = .ok (.aload_n 0, 1) := by decide +kernel
theorem dX5_broken_36 : decode cX5_broken 36 = .ok (.getfield 10, 3) := by decide +kernel
theorem dX5_broken_39 : decode cX5_broken 39 = .ok (.aload_n 0, 1) := by decide +kernel
theorem dX5_broken_40 : decode cX5_broken 40 = .ok (.getfield 10, 3) := by decide +kernel
theorem dX5_broken_43 : decode cX5_broken 43 = .ok (.getfield 112, 3) := by decide +kernel
theorem dX5_broken_46 : decode cX5_broken 46 = .ok (.iload_n 1, 1) := by decide +kernel
theorem dX5_broken_47 : decode cX5_broken 47 = .ok (.iload_n 2, 1) := by decide +kernel
theorem dX5_broken_48 : decode cX5_broken 48 = .ok (.invokestatic 88, 3) := by decide +kernel
theorem dX5_broken_51 : decode cX5_broken 51 = .ok (.putfield 112, 3) := by decide +kernel
theorem dX5_broken_54 : decode cX5_broken 54 = .ok (.iload_n 3, 1) := by decide +kernel
theorem dX5_broken_55 : decode cX5_broken 55 = .ok (.ireturn, 1) := by decide +kernel
set_option maxRecDepth 20000 in
theorem ggX5_bend_X2_isLine : GoodIn wsX5_bend wsX2_isLine := goodIn_r _ [7, 8, 18, 19, 20, 21, 22, 23, 24, 25, 26, 27, 28, 29, 30, 31, 32, 33] (by decide +kernel) (by decide +kernel)
set_option maxRecDepth 20000 in
theorem gX5_bend_X2_isLine : GoodIn wsX5_bend (wsV RX5 92 RX2 yX2_isLine wsX2_isLine) := goodIn_app (goodIn_of _ (by decide +kernel)) ggX5_bend_X2_isLine
set_option maxRecDepth 20000 in
theorem ggX5_bend_X5_asFlag : GoodIn wsX5_bend wsX5_asFlag := goodIn_r _ [12] (by decide +kernel) (by decide +kernel)
set_option maxRecDepth 20000 in
theorem gX5_bend_X5_asFlag : GoodIn wsX5_bend (va_wsS RX5 118 yX5_asFlag wsX5_asFlag) := goodIn_app (goodIn_of _ (by decide +kernel)) ggX5_bend_X5_asFlag
theorem dX5_bend_0 : decode cX5_bend 0 = .ok (.aload_n 0, 1) := by decide +kernel
theorem dX5_bend_1 : decode cX5_bend 1 = .ok (.getfield 10, 3) := by decide +kernel
theorem dX5_bend_4 : decode cX5_bend 4 = .ok (.iload_n 1, 1) := by decide +kernel
theorem dX5_bend_5 : decode cX5_bend 5 = .ok (.invokevirtual 92, 3) := by decide +kernel
theorem dX5_bend_8 : decode cX5_bend 8 = .ok (.ifCond .ne 5, 3) := by decide +kernel
theorem dX5_bend_11 : decode cX5_bend 11 = .ok (.iconst (-1), 1) := by decide +kernel
theorem dX5_bend_12 : decode cX5_bend 12 = .ok (.ireturn, 1) := by decide +kernel
theorem dX5_bend_13 : decode cX5_bend 13 = .ok (.aload_n 0, 1) := by decide +kernel
theorem dX5_bend_14 : decode cX5_bend 14 = .ok (.getfield 10, 3) := by decide +kernel
theorem dX5_bend_17 : decode cX5_bend 17 = .ok (.getfield 115, 3) := by decide +kernel
theorem dX5_bend_20 : decode cX5_bend 20 = .ok (.iload_n 1, 1) := by decide +kernel
theorem dX5_bend_21 : decode cX5_bend 21 = .ok (.laload, 1) := by decide +kernel
theorem dX5_bend_22 : decode cX5_bend 22 = .ok (.lconst 0, 1) := by decide +kernel
theorem dX5_bend_23 : decode cX5_bend 23 = .ok (.lcmp, 1) := by decide +kernel
theorem dX5_bend_24 : decode cX5_bend 24 = .ok (.ifCond .eq 7, 3) := by decide +kernel
theorem dX5_bend_27 : decode cX5_bend 27 = .ok (.iconst 1, 1) := by decide +kernel
theorem dX5_bend_28 : decode cX5_bend 28 = .ok (.goto 4, 3) := by decide +kernel
theorem dX5_bend_31 : decode cX5_bend 31 = .ok (.iconst 0, 1) := by decide +kernel
theorem dX5_bend_32 : decode cX5_bend 32 = .ok (.invokestatic 118, 3) := by decide +kernel
theorem dX5_bend_35 : decode cX5_bend 35 = .ok (.istore 4, 2) := by decide +kernel
theorem dX5_bend_37 : decode cX5_bend 37 = .ok (.aload_n 0, 1) := by decide +kernel
theorem dX5_bend_38 : decode cX5_bend 38 = .ok (.getfield 10, 3) := by decide +kernel
theorem dX5_bend_41 : decode cX5_bend 41 = .ok (.getfield 115, 3) := by decide +kernel
theorem dX5_bend_44 : decode cX5_bend 44 = .ok (.iload_n 1, 1) := by decide +kernel
theorem dX5_bend_45 : decode cX5_bend 45 = .ok (.lload_n 2, 1) := by decide +kernel
theorem dX5_bend_46 : decode cX5_bend 46 = .ok (.lastore, 1) := by decide +kernel
theorem dX5_bend_47 : decode cX5_bend 47 = .ok (.iload 4, 2) := by decide +kernel
theorem dX5_bend_49 : decode cX5_bend 49 = .ok (.ireturn, 1) := by decide +kernel
set_option maxRecDepth 20000 in
theorem ggX5_about_X2_isLine : GoodIn wsX5_about wsX2_isLine := goodIn_r _ [11, 12, 40, 41, 42, 43, 44, 45, 46, 47, 48, 49, 50, 51, 52, 53, 54, 55] (by decide +kernel) (by decide +kernel)
set_option maxRecDepth 20000 in
theorem gX5_about_X2_isLine : GoodIn wsX5_about (wsV RX5 92 RX2 yX2_isLine wsX2_isLine) := goodIn_app (goodIn_of _ (by decide +kernel)) ggX5_about_X2_isLine
set_option maxRecDepth 20000 in
theorem ggX5_about_X2_insOf : GoodIn wsX5_about wsX2_insOf := goodIn_r _ [16, 17, 18, 19, 40, 41, 42, 43, 44, 45, 46, 47, 48, 49, 50, 51, 52, 53, 54, 55] (by decide +kernel) (by decide +kernel)
set_option maxRecDepth 20000 in
theorem gX5_about_X2_insOf : GoodIn wsX5_about (wsV RX5 95 RX2 yX2_insOf wsX2_insOf) := goodIn_app (goodIn_of _ (by decide +kernel)) ggX5_about_X2_insOf
set_option maxRecDepth 20000 in
theorem ggX5_about_X5_flag : GoodIn wsX5_about wsX5_flag := goodIn_r _ [23] (by decide +kernel) (by decide +kernel)
set_option maxRecDepth 20000 in
theorem gX5_about_X5_flag : GoodIn wsX5_about (va_wsS RX5 85 yX5_flag wsX5_flag) := goodIn_app (goodIn_of _ (by decide +kernel)) ggX5_about_X5_flag
set_option maxRecDepth 20000 in
theorem ggX5_about_X5_asFlag : GoodIn wsX5_about wsX5_asFlag := goodIn_r _ [26] (by decide +kernel) (by decide +kernel)
set_option maxRecDepth 20000 in
theorem gX5_about_X5_asFlag : GoodIn wsX5_about (va_wsS RX5 118 yX5_asFlag wsX5_asFlag) := goodIn_app (goodIn_of _ (by decide +kernel)) ggX5_about_X5_asFlag
set_option maxRecDepth 20000 in
theorem ggX5_about_X2_isPassing : GoodIn wsX5_about wsX2_isPassing := goodIn_r _ [30, 17, 31, 32, 14, 15, 10, 16, 18, 19, 33, 22, 34, 25, 26, 40, 41, 42, 43, 44, 45, 46, 47, 48, 49, 50, 51, 52, 53, 54, 55] (by decide +kernel) (by decide +kernel)
set_option maxRecDepth 20000 in
theorem gX5_about_X2_isPassing : GoodIn wsX5_about (wsV RX5 128 RX2 yX2_isPassing wsX2_isPassing) := goodIn_app (goodIn_of _ (by decide +kernel)) ggX5_about_X2_isPassing
theorem dX5_about_0 : decode cX5_about 0 = .ok (.aload_n 0, 1) := by decide +kernel
theorem dX5_about_1 : decode cX5_about 1 = .ok (.getfield 10, 3) := by decide +kernel
theorem dX5_about_4 : decode cX5_about 4 = .ok (.iload_n 1, 1) := by decide +kernel
theorem dX5_about_5 : decode cX5_about 5 = .ok (.invokevirtual 92, 3) := by decide +kernel
theorem dX5_about_8 : decode cX5_about 8 = .ok (.ifCond .ne 5, 3) := by decide +kernel
theorem dX5_about_11 : decode cX5_about 11 = .ok (.iconst (-1), 1) := by decide +kernel
theorem dX5_about_12 : decode cX5_about 12 = .ok (.ireturn, 1) := by decide +kernel
theorem dX5_about_13 : decode cX5_about 13 = .ok (.iload_n 2, 1) := by decide +kernel
theorem dX5_about_14 : decode cX5_about 14 = .ok (.tableswitch 130 0 6 #[42, 52, 62, 71, 83, 95, 118], 42) := by decide +kernel
theorem dX5_about_56 : decode cX5_about 56 = .ok (.aload_n 0, 1) := by decide +kernel
theorem dX5_about_57 : decode cX5_about 57 = .ok (.getfield 10, 3) := by decide +kernel
theorem dX5_about_60 : decode cX5_about 60 = .ok (.getfield 122, 3) := by decide +kernel
theorem dX5_about_63 : decode cX5_about 63 = .ok (.iload_n 1, 1) := by decide +kernel
theorem dX5_about_64 : decode cX5_about 64 = .ok (.iaload, 1) := by decide +kernel
theorem dX5_about_65 : decode cX5_about 65 = .ok (.ireturn, 1) := by decide +kernel
theorem dX5_about_66 : decode cX5_about 66 = .ok (.aload_n 0, 1) := by decide +kernel
theorem dX5_about_67 : decode cX5_about 67 = .ok (.getfield 10, 3) := by decide +kernel
theorem dX5_about_70 : decode cX5_about 70 = .ok (.getfield 125, 3) := by decide +kernel
theorem dX5_about_73 : decode cX5_about 73 = .ok (.iload_n 1, 1) := by decide +kernel
theorem dX5_about_74 : decode cX5_about 74 = .ok (.iaload, 1) := by decide +kernel
theorem dX5_about_75 : decode cX5_about 75 = .ok (.ireturn, 1) := by decide +kernel
theorem dX5_about_76 : decode cX5_about 76 = .ok (.aload_n 0, 1) := by decide +kernel
theorem dX5_about_77 : decode cX5_about 77 = .ok (.getfield 10, 3) := by decide +kernel
theorem dX5_about_80 : decode cX5_about 80 = .ok (.iload_n 1, 1) := by decide +kernel
theorem dX5_about_81 : decode cX5_about 81 = .ok (.invokevirtual 95, 3) := by decide +kernel
theorem dX5_about_84 : decode cX5_about 84 = .ok (.ireturn, 1) := by decide +kernel
theorem dX5_about_85 : decode cX5_about 85 = .ok (.aload_n 0, 1) := by decide +kernel
theorem dX5_about_86 : decode cX5_about 86 = .ok (.getfield 10, 3) := by decide +kernel
theorem dX5_about_89 : decode cX5_about 89 = .ok (.getfield 109, 3) := by decide +kernel
theorem dX5_about_92 : decode cX5_about 92 = .ok (.iload_n 1, 1) := by decide +kernel
theorem dX5_about_93 : decode cX5_about 93 = .ok (.invokestatic 85, 3) := by decide +kernel
theorem dX5_about_96 : decode cX5_about 96 = .ok (.ireturn, 1) := by decide +kernel
theorem dX5_about_97 : decode cX5_about 97 = .ok (.aload_n 0, 1) := by decide +kernel
theorem dX5_about_98 : decode cX5_about 98 = .ok (.getfield 10, 3) := by decide +kernel
theorem dX5_about_101 : decode cX5_about 101 = .ok (.getfield 112, 3) := by decide +kernel
theorem dX5_about_104 : decode cX5_about 104 = .ok (.iload_n 1, 1) := by decide +kernel
theorem dX5_about_105 : decode cX5_about 105 = .ok (.invokestatic 85, 3) := by decide +kernel
theorem dX5_about_108 : decode cX5_about 108 = .ok (.ireturn, 1) := by decide +kernel
theorem dX5_about_109 : decode cX5_about 109 = .ok (.aload_n 0, 1) := by decide +kernel
theorem dX5_about_110 : decode cX5_about 110 = .ok (.getfield 10, 3) := by decide +kernel
theorem dX5_about_113 : decode cX5_about 113 = .ok (.getfield 115, 3) := by decide +kernel
theorem dX5_about_116 : decode cX5_about 116 = .ok (.iload_n 1, 1) := by decide +kernel
theorem dX5_about_117 : decode cX5_about 117 = .ok (.laload, 1) := by decide +kernel
theorem dX5_about_118 : decode cX5_about 118 = .ok (.lconst 0, 1) := by decide +kernel
theorem dX5_about_119 : decode cX5_about 119 = .ok (.lcmp, 1) := by decide +kernel
theorem dX5_about_120 : decode cX5_about 120 = .ok (.ifCond .eq 7, 3) := by decide +kernel
theorem dX5_about_123 : decode cX5_about 123 = .ok (.iconst 1, 1) := by decide +kernel
theorem dX5_about_124 : decode cX5_about 124 = .ok (.goto 4, 3) := by decide +kernel
theorem dX5_about_127 : decode cX5_about 127 = .ok (.iconst 0, 1) := by decide +kernel
theorem dX5_about_128 : decode cX5_about 128 = .ok (.invokestatic 118, 3) := by decide +kernel
theorem dX5_about_131 : decode cX5_about 131 = .ok (.ireturn, 1) := by decide +kernel
theorem dX5_about_132 : decode cX5_about 132 = .ok (.aload_n 0, 1) := by decide +kernel
theorem dX5_about_133 : decode cX5_about 133 = .ok (.getfield 10, 3) := by decide +kernel
theorem dX5_about_136 : decode cX5_about 136 = .ok (.iload_n 1, 1) := by decide +kernel
theorem dX5_about_137 : decode cX5_about 137 = .ok (.invokevirtual 128, 3) := by decide +kernel
theorem dX5_about_140 : decode cX5_about 140 = .ok (.invokestatic 118, 3) := by decide +kernel
theorem dX5_about_143 : decode cX5_about 143 = .ok (.ireturn, 1) := by decide +kernel
theorem dX5_about_144 : decode cX5_about 144 = .ok (.iconst (-1), 1) := by decide +kernel
theorem dX5_about_145 : decode cX5_about 145 = .ok (.ireturn, 1) := by decide +kernel
set_option maxRecDepth 20000 in
theorem ggX5_times_X5_isNumber : GoodIn wsX5_times wsX5_isNumber := goodIn_r _ [4] (by decide +kernel) (by decide +kernel)
set_option maxRecDepth 20000 in
theorem gX5_times_X5_isNumber : GoodIn wsX5_times (va_wsS RX5 99 yX5_isNumber wsX5_isNumber) := goodIn_app (goodIn_of _ (by decide +kernel)) ggX5_times_X5_isNumber
set_option maxRecDepth 20000 in
theorem ggX5_times_X5_product : GoodIn wsX5_times wsX5_product := goodIn_r _ [7, 8, 9, 3, 10, 11, 12, 13] (by decide +kernel) (by decide +kernel)
set_option maxRecDepth 20000 in
theorem gX5_times_X5_product : GoodIn wsX5_times (va_wsS RX5 131 yX5_product wsX5_product) := goodIn_app (goodIn_of _ (by decide +kernel)) ggX5_times_X5_product
theorem dX5_times_0 : decode cX5_times 0 = .ok (.iload_n 1, 1) := by decide +kernel
theorem dX5_times_1 : decode cX5_times 1 = .ok (.invokestatic 99, 3) := by decide +kernel
theorem dX5_times_4 : decode cX5_times 4 = .ok (.ifCond .eq 18, 3) := by decide +kernel
theorem dX5_times_7 : decode cX5_times 7 = .ok (.iload_n 2, 1) := by decide +kernel
theorem dX5_times_8 : decode cX5_times 8 = .ok (.invokestatic 99, 3) := by decide +kernel
theorem dX5_times_11 : decode cX5_times 11 = .ok (.ifCond .eq 11, 3) := by decide +kernel
theorem dX5_times_14 : decode cX5_times 14 = .ok (.iload_n 1, 1) := by decide +kernel
theorem dX5_times_15 : decode cX5_times 15 = .ok (.iload_n 2, 1) := by decide +kernel
theorem dX5_times_16 : decode cX5_times 16 = .ok (.invokestatic 131, 3) := by decide +kernel
theorem dX5_times_19 : decode cX5_times 19 = .ok (.goto 5, 3) := by decide +kernel
theorem dX5_times_22 : decode cX5_times 22 = .ok (.bipush (-2), 2) := by decide +kernel
theorem dX5_times_24 : decode cX5_times 24 = .ok (.ireturn, 1) := by decide +kernel
set_option maxRecDepth 20000 in
theorem ggX5_inverse_X5_isNumber : GoodIn wsX5_inverse wsX5_isNumber := goodIn_r _ [4] (by decide +kernel) (by decide +kernel)
set_option maxRecDepth 20000 in
theorem gX5_inverse_X5_isNumber : GoodIn wsX5_inverse (va_wsS RX5 99 yX5_isNumber wsX5_isNumber) := goodIn_app (goodIn_of _ (by decide +kernel)) ggX5_inverse_X5_isNumber
set_option maxRecDepth 20000 in
theorem ggX5_inverse_X5_inverseOf : GoodIn wsX5_inverse wsX5_inverseOf := goodIn_r _ [7, 8, 9, 3, 10, 11, 12, 13, 14, 15, 16] (by decide +kernel) (by decide +kernel)
set_option maxRecDepth 20000 in
theorem gX5_inverse_X5_inverseOf : GoodIn wsX5_inverse (va_wsS RX5 134 yX5_inverseOf wsX5_inverseOf) := goodIn_app (goodIn_of _ (by decide +kernel)) ggX5_inverse_X5_inverseOf
theorem dX5_inverse_0 : decode cX5_inverse 0 = .ok (.iload_n 1, 1) := by decide +kernel
theorem dX5_inverse_1 : decode cX5_inverse 1 = .ok (.invokestatic 99, 3) := by decide +kernel
theorem dX5_inverse_4 : decode cX5_inverse 4 = .ok (.ifCond .eq 14, 3) := by decide +kernel
theorem dX5_inverse_7 : decode cX5_inverse 7 = .ok (.iload_n 1, 1) := by decide +kernel
theorem dX5_inverse_8 : decode cX5_inverse 8 = .ok (.ifCond .eq 10, 3) := by decide +kernel
theorem dX5_inverse_11 : decode cX5_inverse 11 = .ok (.iload_n 1, 1) := by decide +kernel
theorem dX5_inverse_12 : decode cX5_inverse 12 = .ok (.invokestatic 134, 3) := by decide +kernel
theorem dX5_inverse_15 : decode cX5_inverse 15 = .ok (.goto 5, 3) := by decide +kernel
theorem dX5_inverse_18 : decode cX5_inverse 18 = .ok (.bipush (-2), 2) := by decide +kernel
theorem dX5_inverse_20 : decode cX5_inverse 20 = .ok (.ireturn, 1) := by decide +kernel
set_option maxRecDepth 20000 in
theorem ggX5_flow_X5_refusalOf : GoodIn wsX5_flow wsX5_refusalOf := goodIn_r _ [6, 7, 8, 9, 10, 11, 12, 13, 42, 43, 44, 45, 46, 47, 48, 49, 50, 51, 52, 53, 54, 55, 56, 57, 58, 59, 60, 61, 62] (by decide +kernel) (by decide +kernel)
set_option maxRecDepth 20000 in
theorem gX5_flow_X5_refusalOf : GoodIn wsX5_flow (wsV RX5 137 RX5 yX5_refusalOf wsX5_refusalOf) := goodIn_app (goodIn_of _ (by decide +kernel)) ggX5_flow_X5_refusalOf
set_option maxRecDepth 20000 in
theorem ggX5_flow_X4_mostTo : GoodIn wsX5_flow wsX4_mostTo := goodIn_r _ [18, 19, 20, 21, 22, 23, 24, 25, 17, 26, 27, 28, 29, 5, 30, 31, 32, 33, 34, 35, 36, 37, 38, 39, 40, 41, 63, 64, 65, 66, 47, 48, 49, 50, 51, 52, 53, 54, 55, 56, 57, 58, 59, 60, 61, 62] (by decide +kernel) (by decide +kernel)
set_option maxRecDepth 20000 in
theorem gX5_flow_X4_mostTo : GoodIn wsX5_flow (wsV RX5 140 RX4 yX4_mostTo wsX4_mostTo) := goodIn_app (goodIn_of _ (by decide +kernel)) ggX5_flow_X4_mostTo
theorem dX5_flow_0 : decode cX5_flow 0 = .ok (.aload_n 0, 1) := by decide +kernel
theorem dX5_flow_1 : decode cX5_flow 1 = .ok (.iload_n 1, 1) := by decide +kernel
theorem dX5_flow_2 : decode cX5_flow 2 = .ok (.invokevirtual 137, 3) := by decide +kernel
theorem dX5_flow_5 : decode cX5_flow 5 = .ok (.istore_n 2, 1) := by decide +kernel
theorem dX5_flow_6 : decode cX5_flow 6 = .ok (.iload_n 2, 1) := by decide +kernel
theorem dX5_flow_7 : decode cX5_flow 7 = .ok (.ifCond .eq 7, 3) := by decide +kernel
theorem dX5_flow_10 : decode cX5_flow 10 = .ok (.iload_n 2, 1) := by decide +kernel
theorem dX5_flow_11 : decode cX5_flow 11 = .ok (.goto 11, 3) := by decide +kernel
theorem dX5_flow_14 : decode cX5_flow 14 = .ok (.aload_n 0, 1) := by decide +kernel
theorem dX5_flow_15 : decode cX5_flow 15 = .ok (.getfield 21, 3) := by decide +kernel
theorem dX5_flow_18 : decode cX5_flow 18 = .ok (.iload_n 1, 1) := by decide +kernel
theorem dX5_flow_19 : decode cX5_flow 19 = .ok (.invokevirtual 140, 3) := by decide +kernel
theorem dX5_flow_22 : decode cX5_flow 22 = .ok (.ireturn, 1) := by decide +kernel
set_option maxRecDepth 20000 in
theorem ggX5_cut_X5_refusalOf : GoodIn wsX5_cut wsX5_refusalOf := goodIn_r _ [6, 7, 8, 9, 10, 11, 12, 13, 46, 47, 48, 49, 50, 51, 52, 53, 54, 55, 56, 57, 58, 59, 60, 61, 62, 63, 64, 65, 66] (by decide +kernel) (by decide +kernel)
set_option maxRecDepth 20000 in
theorem gX5_cut_X5_refusalOf : GoodIn wsX5_cut (wsV RX5 137 RX5 yX5_refusalOf wsX5_refusalOf) := goodIn_app (goodIn_of _ (by decide +kernel)) ggX5_cut_X5_refusalOf
set_option maxRecDepth 20000 in
theorem ggX5_cut_X4_mostTo : GoodIn wsX5_cut wsX4_mostTo := goodIn_r _ [18, 19, 20, 21, 22, 23, 24, 25, 17, 26, 27, 28, 29, 5, 30, 31, 32, 33, 34, 35, 36, 37, 38, 39, 40, 41, 67, 68, 69, 70, 51, 52, 53, 54, 55, 56, 57, 58, 59, 60, 61, 62, 63, 64, 65, 66] (by decide +kernel) (by decide +kernel)
set_option maxRecDepth 20000 in
theorem gX5_cut_X4_mostTo : GoodIn wsX5_cut (wsV RX5 140 RX4 yX4_mostTo wsX4_mostTo) := goodIn_app (goodIn_of _ (by decide +kernel)) ggX5_cut_X4_mostTo
set_option maxRecDepth 20000 in
theorem ggX5_cut_X4_cutLine : GoodIn wsX5_cut wsX4_cutLine := goodIn_r _ [45, 20, 21, 28, 22, 36, 35, 29, 5, 30, 67, 68, 69, 70, 51, 52, 53, 54, 55, 56, 57, 58, 59, 60, 61, 62, 63, 64, 65, 66] (by decide +kernel) (by decide +kernel)
set_option maxRecDepth 20000 in
theorem gX5_cut_X4_cutLine : GoodIn wsX5_cut (wsV RX5 143 RX4 yX4_cutLine wsX4_cutLine) := goodIn_app (goodIn_of _ (by decide +kernel)) ggX5_cut_X4_cutLine
theorem dX5_cut_0 : decode cX5_cut 0 = .ok (.iload_n 2, 1) := by decide +kernel
theorem dX5_cut_1 : decode cX5_cut 1 = .ok (.ifCond .ge 7, 3) := by decide +kernel
theorem dX5_cut_4 : decode cX5_cut 4 = .ok (.iconst (-1), 1) := by decide +kernel
theorem dX5_cut_5 : decode cX5_cut 5 = .ok (.goto 8, 3) := by decide +kernel
theorem dX5_cut_8 : decode cX5_cut 8 = .ok (.aload_n 0, 1) := by decide +kernel
theorem dX5_cut_9 : decode cX5_cut 9 = .ok (.iload_n 1, 1) := by decide +kernel
theorem dX5_cut_10 : decode cX5_cut 10 = .ok (.invokevirtual 137, 3) := by decide +kernel
theorem dX5_cut_13 : decode cX5_cut 13 = .ok (.istore_n 3, 1) := by decide +kernel
theorem dX5_cut_14 : decode cX5_cut 14 = .ok (.iload_n 3, 1) := by decide +kernel
theorem dX5_cut_15 : decode cX5_cut 15 = .ok (.ifCond .eq 5, 3) := by decide +kernel
theorem dX5_cut_18 : decode cX5_cut 18 = .ok (.iload_n 3, 1) := by decide +kernel
theorem dX5_cut_19 : decode cX5_cut 19 = .ok (.ireturn, 1) := by decide +kernel
theorem dX5_cut_20 : decode cX5_cut 20 = .ok (.aload_n 0, 1) := by decide +kernel
theorem dX5_cut_21 : decode cX5_cut 21 = .ok (.getfield 21, 3) := by decide +kernel
theorem dX5_cut_24 : decode cX5_cut 24 = .ok (.iload_n 1, 1) := by decide +kernel
theorem dX5_cut_25 : decode cX5_cut 25 = .ok (.invokevirtual 140, 3) := by decide +kernel
theorem dX5_cut_28 : decode cX5_cut 28 = .ok (.pop, 1) := by decide +kernel
theorem dX5_cut_29 : decode cX5_cut 29 = .ok (.aload_n 0, 1) := by decide +kernel
theorem dX5_cut_30 : decode cX5_cut 30 = .ok (.getfield 21, 3) := by decide +kernel
theorem dX5_cut_33 : decode cX5_cut 33 = .ok (.iload_n 2, 1) := by decide +kernel
theorem dX5_cut_34 : decode cX5_cut 34 = .ok (.invokevirtual 143, 3) := by decide +kernel
theorem dX5_cut_37 : decode cX5_cut 37 = .ok (.ireturn, 1) := by decide +kernel
set_option maxRecDepth 20000 in
theorem ggX5_rate_X5_flag : GoodIn wsX5_rate wsX5_flag := goodIn_r _ [12] (by decide +kernel) (by decide +kernel)
set_option maxRecDepth 20000 in
theorem gX5_rate_X5_flag : GoodIn wsX5_rate (va_wsS RX5 85 yX5_flag wsX5_flag) := goodIn_app (goodIn_of _ (by decide +kernel)) ggX5_rate_X5_flag
set_option maxRecDepth 20000 in
theorem ggX5_rate_X4_mostTo : GoodIn wsX5_rate wsX4_mostTo := goodIn_r _ [17, 18, 19, 20, 21, 22, 23, 24, 16, 25, 26, 27, 10, 11, 12, 28, 29, 30, 31, 32, 33, 34, 35, 36, 37, 38, 60, 61, 62, 63, 44, 45, 46, 47, 48, 49, 50, 51, 52, 53, 54, 55, 56, 57, 58, 59] (by decide +kernel) (by decide +kernel)
set_option maxRecDepth 20000 in
theorem gX5_rate_X4_mostTo : GoodIn wsX5_rate (wsV RX5 140 RX4 yX4_mostTo wsX4_mostTo) := goodIn_app (goodIn_of _ (by decide +kernel)) ggX5_rate_X4_mostTo
theorem dX5_rate_0 : decode cX5_rate 0 = .ok (.iconst (-1), 1) := by decide +kernel
theorem dX5_rate_1 : decode cX5_rate 1 = .ok (.istore_n 1, 1) := by decide +kernel
theorem dX5_rate_2 : decode cX5_rate 2 = .ok (.iconst 1, 1) := by decide +kernel
theorem dX5_rate_3 : decode cX5_rate 3 = .ok (.istore_n 2, 1) := by decide +kernel
theorem dX5_rate_4 : decode cX5_rate 4 = .ok (.iload_n 2, 1) := by decide +kernel
theorem dX5_rate_5 : decode cX5_rate 5 = .ok (.aload_n 0, 1) := by decide +kernel
theorem dX5_rate_6 : decode cX5_rate 6 = .ok (.getfield 10, 3) := by decide +kernel
theorem dX5_rate_9 : decode cX5_rate 9 = .ok (.getfield 48, 3) := by decide +kernel
theorem dX5_rate_12 : decode cX5_rate 12 = .ok (.if_icmp .ge 48, 3) := by decide +kernel
theorem dX5_rate_15 : decode cX5_rate 15 = .ok (.aload_n 0, 1) := by decide +kernel
theorem dX5_rate_16 : decode cX5_rate 16 = .ok (.getfield 10, 3) := by decide +kernel
theorem dX5_rate_19 : decode cX5_rate 19 = .ok (.getfield 82, 3) := by decide +kernel
theorem dX5_rate_22 : decode cX5_rate 22 = .ok (.iload_n 2, 1) := by decide +kernel
theorem dX5_rate_23 : decode cX5_rate 23 = .ok (.invokestatic 85, 3) := by decide +kernel
theorem dX5_rate_26 : decode cX5_rate 26 = .ok (.iconst 1, 1) := by decide +kernel
theorem dX5_rate_27 : decode cX5_rate 27 = .ok (.if_icmp .ne 27, 3) := by decide +kernel
theorem dX5_rate_30 : decode cX5_rate 30 = .ok (.aload_n 0, 1) := by decide +kernel
theorem dX5_rate_31 : decode cX5_rate 31 = .ok (.getfield 21, 3) := by decide +kernel
theorem dX5_rate_34 : decode cX5_rate 34 = .ok (.iload_n 2, 1) := by decide +kernel
theorem dX5_rate_35 : decode cX5_rate 35 = .ok (.invokevirtual 140, 3) := by decide +kernel
theorem dX5_rate_38 : decode cX5_rate 38 = .ok (.istore_n 3, 1) := by decide +kernel
theorem dX5_rate_39 : decode cX5_rate 39 = .ok (.iload_n 1, 1) := by decide +kernel
theorem dX5_rate_40 : decode cX5_rate 40 = .ok (.iconst (-1), 1) := by decide +kernel
theorem dX5_rate_41 : decode cX5_rate 41 = .ok (.if_icmp .ne 7, 3) := by decide +kernel
theorem dX5_rate_44 : decode cX5_rate 44 = .ok (.iload_n 3, 1) := by decide +kernel
theorem dX5_rate_45 : decode cX5_rate 45 = .ok (.goto 8, 3) := by decide +kernel
theorem dX5_rate_48 : decode cX5_rate 48 = .ok (.iload_n 1, 1) := by decide +kernel
theorem dX5_rate_49 : decode cX5_rate 49 = .ok (.iload_n 3, 1) := by decide +kernel
theorem dX5_rate_50 : decode cX5_rate 50 = .ok (.invokestatic 146, 3) := by decide +kernel
theorem dX5_rate_53 : decode cX5_rate 53 = .ok (.istore_n 1, 1) := by decide +kernel
theorem dX5_rate_54 : decode cX5_rate 54 = .ok (.iinc 2 1, 3) := by decide +kernel
theorem dX5_rate_57 : decode cX5_rate 57 = .ok (.goto (-53), 3) := by decide +kernel
theorem dX5_rate_60 : decode cX5_rate 60 = .ok (.iload_n 1, 1) := by decide +kernel
theorem dX5_rate_61 : decode cX5_rate 61 = .ok (.iconst (-1), 1) := by decide +kernel
theorem dX5_rate_62 : decode cX5_rate 62 = .ok (.if_icmp .ne 7, 3) := by decide +kernel
theorem dX5_rate_65 : decode cX5_rate 65 = .ok (.iconst 0, 1) := by decide +kernel
theorem dX5_rate_66 : decode cX5_rate 66 = .ok (.goto 4, 3) := by decide +kernel
theorem dX5_rate_69 : decode cX5_rate 69 = .ok (.iload_n 1, 1) := by decide +kernel
theorem dX5_rate_70 : decode cX5_rate 70 = .ok (.ireturn, 1) := by decide +kernel
set_option maxRecDepth 20000 in
theorem ggX5_vector_X2_isLine : GoodIn wsX5_vector wsX2_isLine := goodIn_r _ [8, 9, 51, 52, 53, 54, 55, 56, 57, 58, 59, 60, 61, 62, 63, 64, 65, 66] (by decide +kernel) (by decide +kernel)
set_option maxRecDepth 20000 in
theorem gX5_vector_X2_isLine : GoodIn wsX5_vector (wsV RX5 92 RX2 yX2_isLine wsX2_isLine) := goodIn_app (goodIn_of _ (by decide +kernel)) ggX5_vector_X2_isLine
set_option maxRecDepth 20000 in
theorem ggX5_vector_X2_isPiece : GoodIn wsX5_vector wsX2_isPiece := goodIn_r _ [13, 14, 51, 52, 53, 54, 55, 56, 57, 58, 59, 60, 61, 62, 63, 64, 65, 66] (by decide +kernel) (by decide +kernel)
set_option maxRecDepth 20000 in
theorem gX5_vector_X2_isPiece : GoodIn wsX5_vector (wsV RX5 76 RX2 yX2_isPiece wsX2_isPiece) := goodIn_app (goodIn_of _ (by decide +kernel)) ggX5_vector_X2_isPiece
set_option maxRecDepth 20000 in
theorem ggX5_vector_X2_spreadVectors : GoodIn wsX5_vector wsX2_spreadVectors := goodIn_r _ [18, 9, 19, 20, 21, 22, 23, 24, 25, 26, 7, 27, 28, 29, 30, 31, 32, 33, 34, 14, 35, 36, 37, 38, 39, 40, 41, 42, 51, 52, 53, 54, 55, 56, 57, 58, 59, 60, 61, 62, 63, 64, 65, 66] (by decide +kernel) (by decide +kernel)
set_option maxRecDepth 20000 in
theorem gX5_vector_X2_spreadVectors : GoodIn wsX5_vector (wsV RX5 151 RX2 yX2_spreadVectors wsX2_spreadVectors) := goodIn_app (goodIn_of _ (by decide +kernel)) ggX5_vector_X2_spreadVectors
set_option maxRecDepth 20000 in
theorem ggX5_vector_X5_byteOf : GoodIn wsX5_vector wsX5_byteOf := goodIn_r _ [45] (by decide +kernel) (by decide +kernel)
set_option maxRecDepth 20000 in
theorem gX5_vector_X5_byteOf : GoodIn wsX5_vector (va_wsS RX5 158 yX5_byteOf wsX5_byteOf) := goodIn_app (goodIn_of _ (by decide +kernel)) ggX5_vector_X5_byteOf
theorem dX5_vector_0 : decode cX5_vector 0 = .ok (.aload_n 0, 1) := by decide +kernel
theorem dX5_vector_1 : decode cX5_vector 1 = .ok (.getfield 10, 3) := by decide +kernel
theorem dX5_vector_4 : decode cX5_vector 4 = .ok (.iload_n 1, 1) := by decide +kernel
theorem dX5_vector_5 : decode cX5_vector 5 = .ok (.invokevirtual 92, 3) := by decide +kernel
theorem dX5_vector_8 : decode cX5_vector 8 = .ok (.ifCond .eq 14, 3) := by decide +kernel
theorem dX5_vector_11 : decode cX5_vector 11 = .ok (.aload_n 0, 1) := by decide +kernel
theorem dX5_vector_12 : decode cX5_vector 12 = .ok (.getfield 10, 3) := by decide +kernel
theorem dX5_vector_15 : decode cX5_vector 15 = .ok (.iload_n 2, 1) := by decide +kernel
theorem dX5_vector_16 : decode cX5_vector 16 = .ok (.invokevirtual 76, 3) := by decide +kernel
theorem dX5_vector_19 : decode cX5_vector 19 = .ok (.ifCond .ne 5, 3) := by decide +kernel
theorem dX5_vector_22 : decode cX5_vector 22 = .ok (.iconst (-1), 1) := by decide +kernel
theorem dX5_vector_23 : decode cX5_vector 23 = .ok (.ireturn, 1) := by decide +kernel
theorem dX5_vector_24 : decode cX5_vector 24 = .ok (.aload_n 0, 1) := by decide +kernel
theorem dX5_vector_25 : decode cX5_vector 25 = .ok (.getfield 10, 3) := by decide +kernel
theorem dX5_vector_28 : decode cX5_vector 28 = .ok (.aload_n 0, 1) := by decide +kernel
theorem dX5_vector_29 : decode cX5_vector 29 = .ok (.getfield 10, 3) := by decide +kernel
theorem dX5_vector_32 : decode cX5_vector 32 = .ok (.getfield 112, 3) := by decide +kernel
theorem dX5_vector_35 : decode cX5_vector 35 = .ok (.invokevirtual 151, 3) := by decide +kernel
theorem dX5_vector_38 : decode cX5_vector 38 = .ok (.aload_n 0, 1) := by decide +kernel
theorem dX5_vector_39 : decode cX5_vector 39 = .ok (.getfield 10, 3) := by decide +kernel
theorem dX5_vector_42 : decode cX5_vector 42 = .ok (.getfield 155, 3) := by decide +kernel
theorem dX5_vector_45 : decode cX5_vector 45 = .ok (.iload_n 1, 1) := by decide +kernel
theorem dX5_vector_46 : decode cX5_vector 46 = .ok (.laload, 1) := by decide +kernel
theorem dX5_vector_47 : decode cX5_vector 47 = .ok (.iload_n 2, 1) := by decide +kernel
theorem dX5_vector_48 : decode cX5_vector 48 = .ok (.invokestatic 158, 3) := by decide +kernel
theorem dX5_vector_51 : decode cX5_vector 51 = .ok (.ireturn, 1) := by decide +kernel
set_option maxRecDepth 20000 in
theorem ggX5_carries_X2_isLine : GoodIn wsX5_carries wsX2_isLine := goodIn_r _ [7, 8, 46, 47, 48, 49, 50, 51, 52, 53, 54, 55, 56, 57, 58, 59, 60, 61] (by decide +kernel) (by decide +kernel)
set_option maxRecDepth 20000 in
theorem gX5_carries_X2_isLine : GoodIn wsX5_carries (wsV RX5 92 RX2 yX2_isLine wsX2_isLine) := goodIn_app (goodIn_of _ (by decide +kernel)) ggX5_carries_X2_isLine
set_option maxRecDepth 20000 in
theorem ggX5_carries_X2_spreadBytes : GoodIn wsX5_carries wsX2_spreadBytes := goodIn_r _ [12, 8, 13, 14, 15, 16, 17, 18, 19, 20, 21, 22, 23, 6, 24, 25, 26, 27, 28, 29, 30, 31, 32, 33, 34, 35, 36, 37, 38, 39, 40, 46, 47, 48, 49, 50, 51, 52, 53, 54, 55, 56, 57, 58, 59, 60, 61] (by decide +kernel) (by decide +kernel)
set_option maxRecDepth 20000 in
theorem gX5_carries_X2_spreadBytes : GoodIn wsX5_carries (wsV RX5 162 RX2 yX2_spreadBytes wsX2_spreadBytes) := goodIn_app (goodIn_of _ (by decide +kernel)) ggX5_carries_X2_spreadBytes
theorem dX5_carries_0 : decode cX5_carries 0 = .ok (.aload_n 0, 1) := by decide +kernel
theorem dX5_carries_1 : decode cX5_carries 1 = .ok (.getfield 10, 3) := by decide +kernel
theorem dX5_carries_4 : decode cX5_carries 4 = .ok (.iload_n 1, 1) := by decide +kernel
theorem dX5_carries_5 : decode cX5_carries 5 = .ok (.invokevirtual 92, 3) := by decide +kernel
theorem dX5_carries_8 : decode cX5_carries 8 = .ok (.ifCond .ne 5, 3) := by decide +kernel
theorem dX5_carries_11 : decode cX5_carries 11 = .ok (.lconst 0, 1) := by decide +kernel
theorem dX5_carries_12 : decode cX5_carries 12 = .ok (.lreturn, 1) := by decide +kernel
theorem dX5_carries_13 : decode cX5_carries 13 = .ok (.aload_n 0, 1) := by decide +kernel
theorem dX5_carries_14 : decode cX5_carries 14 = .ok (.getfield 10, 3) := by decide +kernel
theorem dX5_carries_17 : decode cX5_carries 17 = .ok (.invokevirtual 162, 3) := by decide +kernel
theorem dX5_carries_20 : decode cX5_carries 20 = .ok (.aload_n 0, 1) := by decide +kernel
theorem dX5_carries_21 : decode cX5_carries 21 = .ok (.getfield 10, 3) := by decide +kernel
theorem dX5_carries_24 : decode cX5_carries 24 = .ok (.getfield 165, 3) := by decide +kernel
theorem dX5_carries_27 : decode cX5_carries 27 = .ok (.iload_n 1, 1) := by decide +kernel
theorem dX5_carries_28 : decode cX5_carries 28 = .ok (.laload, 1) := by decide +kernel
theorem dX5_carries_29 : decode cX5_carries 29 = .ok (.lreturn, 1) := by decide +kernel
set_option maxRecDepth 20000 in
theorem ggX5_rank_X5_refusalOf : GoodIn wsX5_rank wsX5_refusalOf := goodIn_r _ [6, 7, 8, 9, 10, 11, 12, 13, 80, 81, 82, 83, 84, 85, 86, 87, 88, 89, 90, 91, 92, 93, 94, 95, 96, 97, 98, 99, 100] (by decide +kernel) (by decide +kernel)
set_option maxRecDepth 20000 in
theorem gX5_rank_X5_refusalOf : GoodIn wsX5_rank (wsV RX5 137 RX5 yX5_refusalOf wsX5_refusalOf) := goodIn_app (goodIn_of _ (by decide +kernel)) ggX5_rank_X5_refusalOf
set_option maxRecDepth 20000 in
theorem ggX5_rank_X3_rankNow : GoodIn wsX5_rank wsX3_rankNow := goodIn_r _ [18, 19, 20, 21, 22, 23, 11, 24, 25, 26, 27, 28, 5, 29, 30, 31, 32, 33, 34, 35, 36, 37, 38, 39, 40, 41, 42, 43, 44, 45, 46, 47, 48, 49, 50, 51, 52, 17, 53, 54, 55, 56, 57, 58, 59, 60, 61, 62, 63, 64, 65, 66, 67, 68, 69, 70, 71, 72, 73, 74, 75, 76, 77, 78, 79, 101, 102, 103, 104, 85, 86, 87, 88, 89, 90, 91, 92, 93, 94, 95, 96, 97, 98, 99, 100] (by decide +kernel) (by decide +kernel)
set_option maxRecDepth 20000 in
theorem gX5_rank_X3_rankNow : GoodIn wsX5_rank (wsV RX5 168 RX3 yX3_rankNow wsX3_rankNow) := goodIn_app (goodIn_of _ (by decide +kernel)) ggX5_rank_X3_rankNow
theorem dX5_rank_0 : decode cX5_rank 0 = .ok (.aload_n 0, 1) := by decide +kernel
theorem dX5_rank_1 : decode cX5_rank 1 = .ok (.iload_n 1, 1) := by decide +kernel
theorem dX5_rank_2 : decode cX5_rank 2 = .ok (.invokevirtual 137, 3) := by decide +kernel
theorem dX5_rank_5 : decode cX5_rank 5 = .ok (.istore_n 2, 1) := by decide +kernel
theorem dX5_rank_6 : decode cX5_rank 6 = .ok (.iload_n 2, 1) := by decide +kernel
theorem dX5_rank_7 : decode cX5_rank 7 = .ok (.ifCond .eq 7, 3) := by decide +kernel
theorem dX5_rank_10 : decode cX5_rank 10 = .ok (.iload_n 2, 1) := by decide +kernel
theorem dX5_rank_11 : decode cX5_rank 11 = .ok (.goto 11, 3) := by decide +kernel
theorem dX5_rank_14 : decode cX5_rank 14 = .ok (.aload_n 0, 1) := by decide +kernel
theorem dX5_rank_15 : decode cX5_rank 15 = .ok (.getfield 28, 3) := by decide +kernel
theorem dX5_rank_18 : decode cX5_rank 18 = .ok (.iload_n 1, 1) := by decide +kernel
theorem dX5_rank_19 : decode cX5_rank 19 = .ok (.invokevirtual 168, 3) := by decide +kernel
theorem dX5_rank_22 : decode cX5_rank 22 = .ok (.ireturn, 1) := by decide +kernel
set_option maxRecDepth 20000 in
theorem ggX5_fresh_X5_refusalOf : GoodIn wsX5_fresh wsX5_refusalOf := goodIn_r _ [7, 8, 9, 10, 11, 12, 13, 14, 81, 82, 83, 84, 85, 90, 91, 92, 93, 94, 95, 96, 97, 98, 99, 100, 101, 102, 103, 104, 105] (by decide +kernel) (by decide +kernel)
set_option maxRecDepth 20000 in
theorem gX5_fresh_X5_refusalOf : GoodIn wsX5_fresh (wsV RX5 137 RX5 yX5_refusalOf wsX5_refusalOf) := goodIn_app (goodIn_of _ (by decide +kernel)) ggX5_fresh_X5_refusalOf
set_option maxRecDepth 20000 in
theorem ggX5_fresh_X3_rankNow : GoodIn wsX5_fresh wsX3_rankNow := goodIn_r _ [19, 20, 21, 22, 23, 24, 12, 25, 26, 27, 28, 29, 6, 30, 31, 32, 33, 34, 35, 36, 37, 38, 39, 40, 41, 42, 43, 44, 45, 46, 47, 48, 49, 50, 51, 52, 53, 18, 54, 55, 56, 57, 58, 59, 60, 61, 62, 63, 64, 65, 66, 67, 68, 69, 70, 71, 72, 73, 74, 75, 76, 77, 78, 79, 80, 86, 87, 88, 89, 90, 91, 92, 93, 94, 95, 96, 97, 98, 99, 100, 101, 102, 103, 104, 105] (by decide +kernel) (by decide +kernel)
set_option maxRecDepth 20000 in
theorem gX5_fresh_X3_rankNow : GoodIn wsX5_fresh (wsV RX5 168 RX3 yX3_rankNow wsX3_rankNow) := goodIn_app (goodIn_of _ (by decide +kernel)) ggX5_fresh_X3_rankNow
theorem dX5_fresh_0 : decode cX5_fresh 0 = .ok (.iload_n 2, 1) := by decide +kernel
theorem dX5_fresh_1 : decode cX5_fresh 1 = .ok (.ifCond .ge 7, 3) := by decide +kernel
theorem dX5_fresh_4 : decode cX5_fresh 4 = .ok (.iconst (-1), 1) := by decide +kernel
theorem dX5_fresh_5 : decode cX5_fresh 5 = .ok (.goto 8, 3) := by decide +kernel
theorem dX5_fresh_8 : decode cX5_fresh 8 = .ok (.aload_n 0, 1) := by decide +kernel
theorem dX5_fresh_9 : decode cX5_fresh 9 = .ok (.iload_n 1, 1) := by decide +kernel
theorem dX5_fresh_10 : decode cX5_fresh 10 = .ok (.invokevirtual 137, 3) := by decide +kernel
theorem dX5_fresh_13 : decode cX5_fresh 13 = .ok (.istore_n 3, 1) := by decide +kernel
theorem dX5_fresh_14 : decode cX5_fresh 14 = .ok (.iload_n 3, 1) := by decide +kernel
theorem dX5_fresh_15 : decode cX5_fresh 15 = .ok (.ifCond .eq 5, 3) := by decide +kernel
theorem dX5_fresh_18 : decode cX5_fresh 18 = .ok (.iload_n 3, 1) := by decide +kernel
theorem dX5_fresh_19 : decode cX5_fresh 19 = .ok (.ireturn, 1) := by decide +kernel
theorem dX5_fresh_20 : decode cX5_fresh 20 = .ok (.aload_n 0, 1) := by decide +kernel
theorem dX5_fresh_21 : decode cX5_fresh 21 = .ok (.getfield 28, 3) := by decide +kernel
theorem dX5_fresh_24 : decode cX5_fresh 24 = .ok (.iload_n 1, 1) := by decide +kernel
theorem dX5_fresh_25 : decode cX5_fresh 25 = .ok (.invokevirtual 168, 3) := by decide +kernel
theorem dX5_fresh_28 : decode cX5_fresh 28 = .ok (.istore 4, 2) := by decide +kernel
theorem dX5_fresh_30 : decode cX5_fresh 30 = .ok (.iload_n 2, 1) := by decide +kernel
theorem dX5_fresh_31 : decode cX5_fresh 31 = .ok (.iload 4, 2) := by decide +kernel
theorem dX5_fresh_33 : decode cX5_fresh 33 = .ok (.if_icmp .lt 7, 3) := by decide +kernel
theorem dX5_fresh_36 : decode cX5_fresh 36 = .ok (.iconst (-1), 1) := by decide +kernel
theorem dX5_fresh_37 : decode cX5_fresh 37 = .ok (.goto 12, 3) := by decide +kernel
theorem dX5_fresh_40 : decode cX5_fresh 40 = .ok (.aload_n 0, 1) := by decide +kernel
theorem dX5_fresh_41 : decode cX5_fresh 41 = .ok (.getfield 28, 3) := by decide +kernel
theorem dX5_fresh_44 : decode cX5_fresh 44 = .ok (.getfield 171, 3) := by decide +kernel
theorem dX5_fresh_47 : decode cX5_fresh 47 = .ok (.iload_n 2, 1) := by decide +kernel
theorem dX5_fresh_48 : decode cX5_fresh 48 = .ok (.iaload, 1) := by decide +kernel
theorem dX5_fresh_49 : decode cX5_fresh 49 = .ok (.ireturn, 1) := by decide +kernel
set_option maxRecDepth 20000 in
theorem ggX5_solves_X5_refusalOf_ : GoodIn wsX5_solves wsX5_refusalOf_ := goodIn_r _ [6, 7, 8, 9, 10, 11, 12, 13, 14, 15, 16, 5, 17, 18, 19, 20, 21, 22, 96, 97, 98, 99, 100, 101, 102, 103, 104, 105, 106, 107, 108, 109, 110, 111, 112, 113, 114, 115, 116] (by decide +kernel) (by decide +kernel)
set_option maxRecDepth 20000 in
theorem gX5_solves_X5_refusalOf_ : GoodIn wsX5_solves (wsV RX5 174 RX5 yX5_refusalOf_ wsX5_refusalOf_) := goodIn_app (goodIn_of _ (by decide +kernel)) ggX5_solves_X5_refusalOf_
set_option maxRecDepth 20000 in
theorem ggX5_solves_X3_rankNow : GoodIn wsX5_solves wsX3_rankNow := goodIn_r _ [27, 28, 29, 30, 31, 32, 11, 33, 34, 35, 36, 37, 5, 38, 39, 40, 41, 42, 43, 44, 45, 46, 47, 48, 49, 13, 50, 51, 52, 53, 54, 55, 56, 57, 58, 59, 60, 26, 61, 62, 63, 64, 65, 66, 67, 68, 69, 70, 71, 72, 73, 74, 75, 76, 77, 78, 79, 80, 81, 82, 83, 84, 85, 86, 87, 117, 118, 119, 120, 101, 102, 103, 104, 105, 106, 107, 108, 109, 110, 111, 112, 113, 114, 115, 116] (by decide +kernel) (by decide +kernel)
set_option maxRecDepth 20000 in
theorem gX5_solves_X3_rankNow : GoodIn wsX5_solves (wsV RX5 168 RX3 yX3_rankNow wsX3_rankNow) := goodIn_app (goodIn_of _ (by decide +kernel)) ggX5_solves_X3_rankNow
set_option maxRecDepth 20000 in
theorem ggX5_solves_X3_worksOut : GoodIn wsX5_solves wsX3_worksOut := goodIn_r _ [91, 63, 92, 117, 118, 119, 120] (by decide +kernel) (by decide +kernel)
set_option maxRecDepth 20000 in
theorem gX5_solves_X3_worksOut : GoodIn wsX5_solves (wsV RX5 176 RX3 yX3_worksOut wsX3_worksOut) := goodIn_app (goodIn_of _ (by decide +kernel)) ggX5_solves_X3_worksOut
set_option maxRecDepth 20000 in
theorem ggX5_solves_X5_asFlag : GoodIn wsX5_solves wsX5_asFlag := goodIn_r _ [95] (by decide +kernel) (by decide +kernel)
set_option maxRecDepth 20000 in
theorem gX5_solves_X5_asFlag : GoodIn wsX5_solves (va_wsS RX5 118 yX5_asFlag wsX5_asFlag) := goodIn_app (goodIn_of _ (by decide +kernel)) ggX5_solves_X5_asFlag
theorem dX5_solves_0 : decode cX5_solves 0 = .ok (.aload_n 0, 1) := by decide +kernel
theorem dX5_solves_1 : decode cX5_solves 1 = .ok (.iload_n 1, 1) := by decide +kernel
theorem dX5_solves_2 : decode cX5_solves 2 = .ok (.iload_n 2, 1) := by decide +kernel
theorem dX5_solves_3 : decode cX5_solves 3 = .ok (.invokevirtual 174, 3) := by decide +kernel
theorem dX5_solves_6 : decode cX5_solves 6 = .ok (.istore_n 3, 1) := by decide +kernel
theorem dX5_solves_7 : decode cX5_solves 7 = .ok (.iload_n 3, 1) := by decide +kernel
theorem dX5_solves_8 : decode cX5_solves 8 = .ok (.ifCond .eq 5, 3) := by decide +kernel
theorem dX5_solves_11 : decode cX5_solves 11 = .ok (.iload_n 3, 1) := by decide +kernel
theorem dX5_solves_12 : decode cX5_solves 12 = .ok (.ireturn, 1) := by decide +kernel
theorem dX5_solves_13 : decode cX5_solves 13 = .ok (.aload_n 0, 1) := by decide +kernel
theorem dX5_solves_14 : decode cX5_solves 14 = .ok (.getfield 28, 3) := by decide +kernel
theorem dX5_solves_17 : decode cX5_solves 17 = .ok (.iload_n 1, 1) := by decide +kernel
theorem dX5_solves_18 : decode cX5_solves 18 = .ok (.invokevirtual 168, 3) := by decide +kernel
theorem dX5_solves_21 : decode cX5_solves 21 = .ok (.pop, 1) := by decide +kernel
theorem dX5_solves_22 : decode cX5_solves 22 = .ok (.aload_n 0, 1) := by decide +kernel
theorem dX5_solves_23 : decode cX5_solves 23 = .ok (.getfield 28, 3) := by decide +kernel
theorem dX5_solves_26 : decode cX5_solves 26 = .ok (.iload_n 2, 1) := by decide +kernel
theorem dX5_solves_27 : decode cX5_solves 27 = .ok (.invokevirtual 176, 3) := by decide +kernel
theorem dX5_solves_30 : decode cX5_solves 30 = .ok (.invokestatic 118, 3) := by decide +kernel
theorem dX5_solves_33 : decode cX5_solves 33 = .ok (.ireturn, 1) := by decide +kernel
set_option maxRecDepth 20000 in
theorem ggX5_key_X5_refusalOf_ : GoodIn wsX5_key wsX5_refusalOf_ := goodIn_r _ [6, 7, 8, 9, 10, 11, 12, 13, 14, 15, 16, 5, 17, 18, 19, 20, 21, 22, 97, 98, 99, 100, 101, 102, 103, 104, 105, 106, 107, 108, 109, 110, 111, 112, 113, 114, 115, 116, 117] (by decide +kernel) (by decide +kernel)
set_option maxRecDepth 20000 in
theorem gX5_key_X5_refusalOf_ : GoodIn wsX5_key (wsV RX5 174 RX5 yX5_refusalOf_ wsX5_refusalOf_) := goodIn_app (goodIn_of _ (by decide +kernel)) ggX5_key_X5_refusalOf_
set_option maxRecDepth 20000 in
theorem ggX5_key_X3_rankNow : GoodIn wsX5_key wsX3_rankNow := goodIn_r _ [27, 28, 29, 30, 31, 32, 11, 33, 34, 35, 36, 37, 5, 38, 39, 40, 41, 42, 43, 44, 45, 46, 47, 48, 49, 13, 50, 51, 52, 53, 54, 55, 56, 57, 58, 59, 60, 26, 61, 62, 63, 64, 65, 66, 67, 68, 69, 70, 71, 72, 73, 74, 75, 76, 77, 78, 79, 80, 81, 82, 83, 84, 85, 86, 87, 118, 119, 120, 121, 102, 103, 104, 105, 106, 107, 108, 109, 110, 111, 112, 113, 114, 115, 116, 117] (by decide +kernel) (by decide +kernel)
set_option maxRecDepth 20000 in
theorem gX5_key_X3_rankNow : GoodIn wsX5_key (wsV RX5 168 RX3 yX3_rankNow wsX3_rankNow) := goodIn_app (goodIn_of _ (by decide +kernel)) ggX5_key_X3_rankNow
set_option maxRecDepth 20000 in
theorem ggX5_key_X3_worksOut : GoodIn wsX5_key wsX3_worksOut := goodIn_r _ [91, 63, 92, 118, 119, 120, 121] (by decide +kernel) (by decide +kernel)
set_option maxRecDepth 20000 in
theorem gX5_key_X3_worksOut : GoodIn wsX5_key (wsV RX5 176 RX3 yX3_worksOut wsX3_worksOut) := goodIn_app (goodIn_of _ (by decide +kernel)) ggX5_key_X3_worksOut
set_option maxRecDepth 20000 in
theorem ggX5_key_X3_keyNumber : GoodIn wsX5_key wsX3_keyNumber := goodIn_r _ [96, 63, 77, 5, 78, 118, 119, 120, 121] (by decide +kernel) (by decide +kernel)
set_option maxRecDepth 20000 in
theorem gX5_key_X3_keyNumber : GoodIn wsX5_key (wsV RX5 179 RX3 yX3_keyNumber wsX3_keyNumber) := goodIn_app (goodIn_of _ (by decide +kernel)) ggX5_key_X3_keyNumber
theorem dX5_key_0 : decode cX5_key 0 = .ok (.iload_n 3, 1) := by decide +kernel
theorem dX5_key_1 : decode cX5_key 1 = .ok (.ifCond .ge 7, 3) := by decide +kernel
theorem dX5_key_4 : decode cX5_key 4 = .ok (.iconst (-1), 1) := by decide +kernel
theorem dX5_key_5 : decode cX5_key 5 = .ok (.goto 9, 3) := by decide +kernel
theorem dX5_key_8 : decode cX5_key 8 = .ok (.aload_n 0, 1) := by decide +kernel
theorem dX5_key_9 : decode cX5_key 9 = .ok (.iload_n 1, 1) := by decide +kernel
theorem dX5_key_10 : decode cX5_key 10 = .ok (.iload_n 2, 1) := by decide +kernel
theorem dX5_key_11 : decode cX5_key 11 = .ok (.invokevirtual 174, 3) := by decide +kernel
theorem dX5_key_14 : decode cX5_key 14 = .ok (.istore 4, 2) := by decide +kernel
theorem dX5_key_16 : decode cX5_key 16 = .ok (.iload 4, 2) := by decide +kernel
theorem dX5_key_18 : decode cX5_key 18 = .ok (.ifCond .eq 6, 3) := by decide +kernel
theorem dX5_key_21 : decode cX5_key 21 = .ok (.iload 4, 2) := by decide +kernel
theorem dX5_key_23 : decode cX5_key 23 = .ok (.ireturn, 1) := by decide +kernel
theorem dX5_key_24 : decode cX5_key 24 = .ok (.aload_n 0, 1) := by decide +kernel
theorem dX5_key_25 : decode cX5_key 25 = .ok (.getfield 28, 3) := by decide +kernel
theorem dX5_key_28 : decode cX5_key 28 = .ok (.iload_n 1, 1) := by decide +kernel
theorem dX5_key_29 : decode cX5_key 29 = .ok (.invokevirtual 168, 3) := by decide +kernel
theorem dX5_key_32 : decode cX5_key 32 = .ok (.istore 5, 2) := by decide +kernel
theorem dX5_key_34 : decode cX5_key 34 = .ok (.aload_n 0, 1) := by decide +kernel
theorem dX5_key_35 : decode cX5_key 35 = .ok (.getfield 28, 3) := by decide +kernel
theorem dX5_key_38 : decode cX5_key 38 = .ok (.iload_n 2, 1) := by decide +kernel
theorem dX5_key_39 : decode cX5_key 39 = .ok (.invokevirtual 176, 3) := by decide +kernel
theorem dX5_key_42 : decode cX5_key 42 = .ok (.ifCond .eq 9, 3) := by decide +kernel
theorem dX5_key_45 : decode cX5_key 45 = .ok (.iload_n 3, 1) := by decide +kernel
theorem dX5_key_46 : decode cX5_key 46 = .ok (.iload 5, 2) := by decide +kernel
theorem dX5_key_48 : decode cX5_key 48 = .ok (.if_icmp .lt 5, 3) := by decide +kernel
theorem dX5_key_51 : decode cX5_key 51 = .ok (.iconst (-1), 1) := by decide +kernel
theorem dX5_key_52 : decode cX5_key 52 = .ok (.ireturn, 1) := by decide +kernel
theorem dX5_key_53 : decode cX5_key 53 = .ok (.aload_n 0, 1) := by decide +kernel
theorem dX5_key_54 : decode cX5_key 54 = .ok (.getfield 28, 3) := by decide +kernel
theorem dX5_key_57 : decode cX5_key 57 = .ok (.iload_n 2, 1) := by decide +kernel
theorem dX5_key_58 : decode cX5_key 58 = .ok (.iload_n 3, 1) := by decide +kernel
theorem dX5_key_59 : decode cX5_key 59 = .ok (.invokevirtual 179, 3) := by decide +kernel
theorem dX5_key_62 : decode cX5_key 62 = .ok (.ireturn, 1) := by decide +kernel
set_option maxRecDepth 20000 in
theorem ggX5_gets_X5_refusalOf_ : GoodIn wsX5_gets wsX5_refusalOf_ := goodIn_r _ [7, 2, 8, 9, 10, 11, 12, 13, 14, 15, 16, 6, 17, 18, 19, 20, 21, 22, 110, 111, 112, 113, 114, 115, 116, 117, 118, 119, 120, 121, 122, 123, 124, 125, 126, 127, 128, 129, 130] (by decide +kernel) (by decide +kernel)
set_option maxRecDepth 20000 in
theorem gX5_gets_X5_refusalOf_ : GoodIn wsX5_gets (wsV RX5 174 RX5 yX5_refusalOf_ wsX5_refusalOf_) := goodIn_app (goodIn_of _ (by decide +kernel)) ggX5_gets_X5_refusalOf_
set_option maxRecDepth 20000 in
theorem ggX5_gets_X3_rankNow : GoodIn wsX5_gets wsX3_rankNow := goodIn_r _ [27, 28, 29, 30, 31, 32, 11, 33, 34, 35, 36, 37, 6, 38, 39, 40, 41, 42, 43, 44, 45, 46, 47, 48, 49, 13, 50, 51, 52, 53, 54, 55, 56, 57, 58, 59, 60, 26, 61, 62, 63, 64, 65, 66, 67, 68, 69, 70, 71, 72, 73, 74, 75, 76, 77, 78, 79, 80, 81, 82, 83, 84, 85, 86, 87, 131, 132, 133, 134, 115, 116, 117, 118, 119, 120, 121, 122, 123, 124, 125, 126, 127, 128, 129, 130] (by decide +kernel) (by decide +kernel)
set_option maxRecDepth 20000 in
theorem gX5_gets_X3_rankNow : GoodIn wsX5_gets (wsV RX5 168 RX3 yX3_rankNow wsX3_rankNow) := goodIn_app (goodIn_of _ (by decide +kernel)) ggX5_gets_X3_rankNow
set_option maxRecDepth 20000 in
theorem ggX5_gets_X3_worksOut : GoodIn wsX5_gets wsX3_worksOut := goodIn_r _ [91, 63, 92, 131, 132, 133, 134] (by decide +kernel) (by decide +kernel)
set_option maxRecDepth 20000 in
theorem gX5_gets_X3_worksOut : GoodIn wsX5_gets (wsV RX5 176 RX3 yX3_worksOut wsX3_worksOut) := goodIn_app (goodIn_of _ (by decide +kernel)) ggX5_gets_X3_worksOut
set_option maxRecDepth 20000 in
theorem ggX5_gets_X2_spreadBytes : GoodIn wsX5_gets wsX2_spreadBytes := goodIn_r _ [96, 34, 35, 97, 98, 99, 100, 37, 6, 38, 39, 40, 41, 11, 42, 43, 44, 45, 46, 47, 48, 49, 13, 50, 51, 52, 53, 54, 55, 56, 57, 115, 116, 117, 118, 119, 120, 121, 122, 123, 124, 125, 126, 127, 128, 129, 130] (by decide +kernel) (by decide +kernel)
set_option maxRecDepth 20000 in
theorem gX5_gets_X2_spreadBytes : GoodIn wsX5_gets (wsV RX5 162 RX2 yX2_spreadBytes wsX2_spreadBytes) := goodIn_app (goodIn_of _ (by decide +kernel)) ggX5_gets_X2_spreadBytes
set_option maxRecDepth 20000 in
theorem ggX5_gets_X3_bytesFor : GoodIn wsX5_gets wsX3_bytesFor := goodIn_r _ [104, 62, 28, 105, 76, 106, 107, 108, 26, 109, 63, 77, 6, 78, 53, 54, 55, 56, 57, 131, 132, 133, 134, 115, 116, 117, 118, 119, 120, 121, 122, 123, 124, 125, 126, 127, 128, 129, 130] (by decide +kernel) (by decide +kernel)
set_option maxRecDepth 20000 in
theorem gX5_gets_X3_bytesFor : GoodIn wsX5_gets (wsV RX5 182 RX3 yX3_bytesFor wsX3_bytesFor) := goodIn_app (goodIn_of _ (by decide +kernel)) ggX5_gets_X3_bytesFor
theorem dX5_gets_0 : decode cX5_gets 0 = .ok (.aload_n 0, 1) := by decide +kernel
theorem dX5_gets_1 : decode cX5_gets 1 = .ok (.iload_n 1, 1) := by decide +kernel
theorem dX5_gets_2 : decode cX5_gets 2 = .ok (.iload_n 2, 1) := by decide +kernel
theorem dX5_gets_3 : decode cX5_gets 3 = .ok (.invokevirtual 174, 3) := by decide +kernel
theorem dX5_gets_6 : decode cX5_gets 6 = .ok (.ifCond .eq 5, 3) := by decide +kernel
theorem dX5_gets_9 : decode cX5_gets 9 = .ok (.lconst 0, 1) := by decide +kernel
theorem dX5_gets_10 : decode cX5_gets 10 = .ok (.lreturn, 1) := by decide +kernel
theorem dX5_gets_11 : decode cX5_gets 11 = .ok (.aload_n 0, 1) := by decide +kernel
theorem dX5_gets_12 : decode cX5_gets 12 = .ok (.getfield 28, 3) := by decide +kernel
theorem dX5_gets_15 : decode cX5_gets 15 = .ok (.iload_n 1, 1) := by decide +kernel
theorem dX5_gets_16 : decode cX5_gets 16 = .ok (.invokevirtual 168, 3) := by decide +kernel
theorem dX5_gets_19 : decode cX5_gets 19 = .ok (.pop, 1) := by decide +kernel
theorem dX5_gets_20 : decode cX5_gets 20 = .ok (.aload_n 0, 1) := by decide +kernel
theorem dX5_gets_21 : decode cX5_gets 21 = .ok (.getfield 28, 3) := by decide +kernel
theorem dX5_gets_24 : decode cX5_gets 24 = .ok (.iload_n 2, 1) := by decide +kernel
theorem dX5_gets_25 : decode cX5_gets 25 = .ok (.invokevirtual 176, 3) := by decide +kernel
theorem dX5_gets_28 : decode cX5_gets 28 = .ok (.ifCond .ne 5, 3) := by decide +kernel
theorem dX5_gets_31 : decode cX5_gets 31 = .ok (.lconst 0, 1) := by decide +kernel
theorem dX5_gets_32 : decode cX5_gets 32 = .ok (.lreturn, 1) := by decide +kernel
theorem dX5_gets_33 : decode cX5_gets 33 = .ok (.aload_n 0, 1) := by decide +kernel
theorem dX5_gets_34 : decode cX5_gets 34 = .ok (.getfield 10, 3) := by decide +kernel
theorem dX5_gets_37 : decode cX5_gets 37 = .ok (.invokevirtual 162, 3) := by decide +kernel
theorem dX5_gets_40 : decode cX5_gets 40 = .ok (.aload_n 0, 1) := by decide +kernel
theorem dX5_gets_41 : decode cX5_gets 41 = .ok (.getfield 28, 3) := by decide +kernel
theorem dX5_gets_44 : decode cX5_gets 44 = .ok (.iload_n 2, 1) := by decide +kernel
theorem dX5_gets_45 : decode cX5_gets 45 = .ok (.invokevirtual 182, 3) := by decide +kernel
theorem dX5_gets_48 : decode cX5_gets 48 = .ok (.lreturn, 1) := by decide +kernel
set_option maxRecDepth 20000 in
theorem ggX5_lack_X2_isPiece : GoodIn wsX5_lack wsX2_isPiece := goodIn_r _ [7, 8, 102, 103, 104, 105, 106, 107, 108, 109, 110, 111, 112, 113, 114, 115, 116, 117] (by decide +kernel) (by decide +kernel)
set_option maxRecDepth 20000 in
theorem gX5_lack_X2_isPiece : GoodIn wsX5_lack (wsV RX5 76 RX2 yX2_isPiece wsX2_isPiece) := goodIn_app (goodIn_of _ (by decide +kernel)) ggX5_lack_X2_isPiece
set_option maxRecDepth 20000 in
theorem ggX5_lack_X5_refusalOf_ : GoodIn wsX5_lack wsX5_refusalOf_ := goodIn_r _ [13, 1, 3, 4, 5, 6, 7, 8, 14, 15, 16, 12, 17, 18, 19, 20, 21, 22, 97, 98, 99, 100, 101, 102, 103, 104, 105, 106, 107, 108, 109, 110, 111, 112, 113, 114, 115, 116, 117] (by decide +kernel) (by decide +kernel)
set_option maxRecDepth 20000 in
theorem gX5_lack_X5_refusalOf_ : GoodIn wsX5_lack (wsV RX5 174 RX5 yX5_refusalOf_ wsX5_refusalOf_) := goodIn_app (goodIn_of _ (by decide +kernel)) ggX5_lack_X5_refusalOf_
set_option maxRecDepth 20000 in
theorem ggX5_lack_X3_rankNow : GoodIn wsX5_lack wsX3_rankNow := goodIn_r _ [27, 28, 29, 30, 31, 32, 6, 33, 34, 35, 36, 37, 12, 38, 39, 40, 41, 42, 43, 44, 45, 46, 47, 48, 49, 8, 50, 51, 52, 53, 54, 55, 56, 57, 58, 59, 60, 26, 61, 62, 63, 64, 65, 66, 67, 68, 69, 70, 71, 72, 73, 74, 75, 76, 77, 78, 79, 80, 81, 82, 83, 84, 85, 86, 87, 118, 119, 120, 121, 102, 103, 104, 105, 106, 107, 108, 109, 110, 111, 112, 113, 114, 115, 116, 117] (by decide +kernel) (by decide +kernel)
set_option maxRecDepth 20000 in
theorem gX5_lack_X3_rankNow : GoodIn wsX5_lack (wsV RX5 168 RX3 yX3_rankNow wsX3_rankNow) := goodIn_app (goodIn_of _ (by decide +kernel)) ggX5_lack_X3_rankNow
set_option maxRecDepth 20000 in
theorem ggX5_lack_X3_worksOut : GoodIn wsX5_lack wsX3_worksOut := goodIn_r _ [91, 63, 92, 118, 119, 120, 121] (by decide +kernel) (by decide +kernel)
set_option maxRecDepth 20000 in
theorem gX5_lack_X3_worksOut : GoodIn wsX5_lack (wsV RX5 176 RX3 yX3_worksOut wsX3_worksOut) := goodIn_app (goodIn_of _ (by decide +kernel)) ggX5_lack_X3_worksOut
set_option maxRecDepth 20000 in
theorem ggX5_lack_X3_lackNumber : GoodIn wsX5_lack wsX3_lackNumber := goodIn_r _ [96, 63, 79, 80, 26, 81, 77, 12, 78, 82, 83, 84, 85, 86, 87, 53, 54, 55, 56, 57, 118, 119, 120, 121] (by decide +kernel) (by decide +kernel)
set_option maxRecDepth 20000 in
theorem gX5_lack_X3_lackNumber : GoodIn wsX5_lack (wsV RX5 186 RX3 yX3_lackNumber wsX3_lackNumber) := goodIn_app (goodIn_of _ (by decide +kernel)) ggX5_lack_X3_lackNumber
theorem dX5_lack_0 : decode cX5_lack 0 = .ok (.aload_n 0, 1) := by decide +kernel
theorem dX5_lack_1 : decode cX5_lack 1 = .ok (.getfield 10, 3) := by decide +kernel
theorem dX5_lack_4 : decode cX5_lack 4 = .ok (.iload_n 3, 1) := by decide +kernel
theorem dX5_lack_5 : decode cX5_lack 5 = .ok (.invokevirtual 76, 3) := by decide +kernel
theorem dX5_lack_8 : decode cX5_lack 8 = .ok (.ifCond .eq 12, 3) := by decide +kernel
theorem dX5_lack_11 : decode cX5_lack 11 = .ok (.aload_n 0, 1) := by decide +kernel
theorem dX5_lack_12 : decode cX5_lack 12 = .ok (.iload_n 1, 1) := by decide +kernel
theorem dX5_lack_13 : decode cX5_lack 13 = .ok (.iload_n 2, 1) := by decide +kernel
theorem dX5_lack_14 : decode cX5_lack 14 = .ok (.invokevirtual 174, 3) := by decide +kernel
theorem dX5_lack_17 : decode cX5_lack 17 = .ok (.goto 4, 3) := by decide +kernel
theorem dX5_lack_20 : decode cX5_lack 20 = .ok (.iconst (-1), 1) := by decide +kernel
theorem dX5_lack_21 : decode cX5_lack 21 = .ok (.istore 4, 2) := by decide +kernel
theorem dX5_lack_23 : decode cX5_lack 23 = .ok (.iload 4, 2) := by decide +kernel
theorem dX5_lack_25 : decode cX5_lack 25 = .ok (.ifCond .eq 6, 3) := by decide +kernel
theorem dX5_lack_28 : decode cX5_lack 28 = .ok (.iload 4, 2) := by decide +kernel
theorem dX5_lack_30 : decode cX5_lack 30 = .ok (.ireturn, 1) := by decide +kernel
theorem dX5_lack_31 : decode cX5_lack 31 = .ok (.aload_n 0, 1) := by decide +kernel
theorem dX5_lack_32 : decode cX5_lack 32 = .ok (.getfield 28, 3) := by decide +kernel
theorem dX5_lack_35 : decode cX5_lack 35 = .ok (.iload_n 1, 1) := by decide +kernel
theorem dX5_lack_36 : decode cX5_lack 36 = .ok (.invokevirtual 168, 3) := by decide +kernel
theorem dX5_lack_39 : decode cX5_lack 39 = .ok (.pop, 1) := by decide +kernel
theorem dX5_lack_40 : decode cX5_lack 40 = .ok (.aload_n 0, 1) := by decide +kernel
theorem dX5_lack_41 : decode cX5_lack 41 = .ok (.getfield 28, 3) := by decide +kernel
theorem dX5_lack_44 : decode cX5_lack 44 = .ok (.iload_n 2, 1) := by decide +kernel
theorem dX5_lack_45 : decode cX5_lack 45 = .ok (.invokevirtual 176, 3) := by decide +kernel
theorem dX5_lack_48 : decode cX5_lack 48 = .ok (.ifCond .eq 7, 3) := by decide +kernel
theorem dX5_lack_51 : decode cX5_lack 51 = .ok (.iconst (-1), 1) := by decide +kernel
theorem dX5_lack_52 : decode cX5_lack 52 = .ok (.goto 12, 3) := by decide +kernel
theorem dX5_lack_55 : decode cX5_lack 55 = .ok (.aload_n 0, 1) := by decide +kernel
theorem dX5_lack_56 : decode cX5_lack 56 = .ok (.getfield 28, 3) := by decide +kernel
theorem dX5_lack_59 : decode cX5_lack 59 = .ok (.iload_n 2, 1) := by decide +kernel
theorem dX5_lack_60 : decode cX5_lack 60 = .ok (.iload_n 3, 1) := by decide +kernel
theorem dX5_lack_61 : decode cX5_lack 61 = .ok (.invokevirtual 186, 3) := by decide +kernel
theorem dX5_lack_64 : decode cX5_lack 64 = .ok (.ireturn, 1) := by decide +kernel
set_option maxRecDepth 20000 in
theorem ggX5_wrong_X2_spreadVectors : GoodIn wsX5_wrong wsX2_spreadVectors := goodIn_r _ [10, 11, 12, 13, 14, 15, 16, 17, 18, 19, 9, 20, 21, 22, 23, 24, 25, 26, 27, 28, 29, 30, 31, 32, 33, 34, 35, 36, 105, 106, 107, 108, 109, 110, 111, 112, 113, 114, 115, 116, 117, 118, 119, 120] (by decide +kernel) (by decide +kernel)
set_option maxRecDepth 20000 in
theorem gX5_wrong_X2_spreadVectors : GoodIn wsX5_wrong (wsV RX5 151 RX2 yX2_spreadVectors wsX2_spreadVectors) := goodIn_app (goodIn_of _ (by decide +kernel)) ggX5_wrong_X2_spreadVectors
set_option maxRecDepth 20000 in
theorem ggX5_wrong_X2_spreadBytes : GoodIn wsX5_wrong wsX2_spreadBytes := goodIn_r _ [40, 11, 12, 41, 42, 43, 44, 14, 15, 16, 17, 18, 19, 9, 20, 21, 22, 23, 24, 25, 26, 27, 28, 29, 30, 31, 32, 33, 34, 35, 36, 105, 106, 107, 108, 109, 110, 111, 112, 113, 114, 115, 116, 117, 118, 119, 120] (by decide +kernel) (by decide +kernel)
set_option maxRecDepth 20000 in
theorem gX5_wrong_X2_spreadBytes : GoodIn wsX5_wrong (wsV RX5 162 RX2 yX2_spreadBytes wsX2_spreadBytes) := goodIn_app (goodIn_of _ (by decide +kernel)) ggX5_wrong_X2_spreadBytes
set_option maxRecDepth 20000 in
theorem ggX5_wrong_X5_flag : GoodIn wsX5_wrong wsX5_flag := goodIn_r _ [16] (by decide +kernel) (by decide +kernel)
set_option maxRecDepth 20000 in
theorem gX5_wrong_X5_flag : GoodIn wsX5_wrong (va_wsS RX5 85 yX5_flag wsX5_flag) := goodIn_app (goodIn_of _ (by decide +kernel)) ggX5_wrong_X5_flag
set_option maxRecDepth 20000 in
theorem ggX5_wrong_X3_gather : GoodIn wsX5_wrong wsX3_gather := goodIn_r _ [50, 51, 52, 53, 54, 55, 56, 57, 58, 59, 60, 30, 15, 31, 61, 62, 63, 49, 64, 65, 66, 67, 68, 32, 33, 34, 35, 36, 69, 70, 71, 72, 73, 74, 75, 76, 77, 121, 122, 123, 124, 105, 106, 107, 108, 109, 110, 111, 112, 113, 114, 115, 116, 117, 118, 119, 120] (by decide +kernel) (by decide +kernel)
set_option maxRecDepth 20000 in
theorem gX5_wrong_X3_gather : GoodIn wsX5_wrong (wsV RX5 189 RX3 yX3_gather wsX3_gather) := goodIn_app (goodIn_of _ (by decide +kernel)) ggX5_wrong_X3_gather
set_option maxRecDepth 20000 in
theorem ggX5_wrong_X3_isMisled : GoodIn wsX5_wrong wsX3_isMisled := goodIn_r _ [81, 53, 55, 82, 83, 84, 85, 49, 86, 52, 87, 88, 89, 90, 91, 51, 92, 66, 93, 94, 95, 96, 67, 15, 68, 32, 33, 34, 35, 36, 121, 122, 123, 124, 105, 106, 107, 108, 109, 110, 111, 112, 113, 114, 115, 116, 117, 118, 119, 120] (by decide +kernel) (by decide +kernel)
set_option maxRecDepth 20000 in
theorem gX5_wrong_X3_isMisled : GoodIn wsX5_wrong (wsV RX5 192 RX3 yX3_isMisled wsX3_isMisled) := goodIn_app (goodIn_of _ (by decide +kernel)) ggX5_wrong_X3_isMisled
set_option maxRecDepth 20000 in
theorem ggX5_wrong_X5_asFlag : GoodIn wsX5_wrong wsX5_asFlag := goodIn_r _ [99] (by decide +kernel) (by decide +kernel)
set_option maxRecDepth 20000 in
theorem gX5_wrong_X5_asFlag : GoodIn wsX5_wrong (va_wsS RX5 118 yX5_asFlag wsX5_asFlag) := goodIn_app (goodIn_of _ (by decide +kernel)) ggX5_wrong_X5_asFlag
theorem dX5_wrong_0 : decode cX5_wrong 0 = .ok (.aload_n 0, 1) := by decide +kernel
theorem dX5_wrong_1 : decode cX5_wrong 1 = .ok (.getfield 10, 3) := by decide +kernel
theorem dX5_wrong_4 : decode cX5_wrong 4 = .ok (.aload_n 0, 1) := by decide +kernel
theorem dX5_wrong_5 : decode cX5_wrong 5 = .ok (.getfield 10, 3) := by decide +kernel
theorem dX5_wrong_8 : decode cX5_wrong 8 = .ok (.getfield 112, 3) := by decide +kernel
theorem dX5_wrong_11 : decode cX5_wrong 11 = .ok (.invokevirtual 151, 3) := by decide +kernel
theorem dX5_wrong_14 : decode cX5_wrong 14 = .ok (.aload_n 0, 1) := by decide +kernel
theorem dX5_wrong_15 : decode cX5_wrong 15 = .ok (.getfield 10, 3) := by decide +kernel
theorem dX5_wrong_18 : decode cX5_wrong 18 = .ok (.invokevirtual 162, 3) := by decide +kernel
theorem dX5_wrong_21 : decode cX5_wrong 21 = .ok (.iconst 0, 1) := by decide +kernel
theorem dX5_wrong_22 : decode cX5_wrong 22 = .ok (.istore_n 1, 1) := by decide +kernel
theorem dX5_wrong_23 : decode cX5_wrong 23 = .ok (.iconst 1, 1) := by decide +kernel
theorem dX5_wrong_24 : decode cX5_wrong 24 = .ok (.istore_n 2, 1) := by decide +kernel
theorem dX5_wrong_25 : decode cX5_wrong 25 = .ok (.iload_n 2, 1) := by decide +kernel
theorem dX5_wrong_26 : decode cX5_wrong 26 = .ok (.aload_n 0, 1) := by decide +kernel
end
section
theorem dX5_wrong_27 : decode cX5_wrong 27 = .ok (.getfield 10, 3) := by decide +kernel
theorem dX5_wrong_30 : decode cX5_wrong 30 = .ok (.getfield 48, 3) := by decide +kernel
theorem dX5_wrong_33 : decode cX5_wrong 33 = .ok (.if_icmp .ge 46, 3) := by decide +kernel
theorem dX5_wrong_36 : decode cX5_wrong 36 = .ok (.aload_n 0, 1) := by decide +kernel
theorem dX5_wrong_37 : decode cX5_wrong 37 = .ok (.getfield 10, 3) := by decide +kernel
theorem dX5_wrong_40 : decode cX5_wrong 40 = .ok (.getfield 82, 3) := by decide +kernel
theorem dX5_wrong_43 : decode cX5_wrong 43 = .ok (.iload_n 2, 1) := by decide +kernel
theorem dX5_wrong_44 : decode cX5_wrong 44 = .ok (.invokestatic 85, 3) := by decide +kernel
theorem dX5_wrong_47 : decode cX5_wrong 47 = .ok (.iconst 1, 1) := by decide +kernel
theorem dX5_wrong_48 : decode cX5_wrong 48 = .ok (.if_icmp .ne 25, 3) := by decide +kernel
theorem dX5_wrong_51 : decode cX5_wrong 51 = .ok (.aload_n 0, 1) := by decide +kernel
theorem dX5_wrong_52 : decode cX5_wrong 52 = .ok (.getfield 28, 3) := by decide +kernel
theorem dX5_wrong_55 : decode cX5_wrong 55 = .ok (.iload_n 2, 1) := by decide +kernel
theorem dX5_wrong_56 : decode cX5_wrong 56 = .ok (.invokevirtual 189, 3) := by decide +kernel
theorem dX5_wrong_59 : decode cX5_wrong 59 = .ok (.pop, 1) := by decide +kernel
theorem dX5_wrong_60 : decode cX5_wrong 60 = .ok (.iload_n 1, 1) := by decide +kernel
theorem dX5_wrong_61 : decode cX5_wrong 61 = .ok (.aload_n 0, 1) := by decide +kernel
theorem dX5_wrong_62 : decode cX5_wrong 62 = .ok (.getfield 28, 3) := by decide +kernel
theorem dX5_wrong_65 : decode cX5_wrong 65 = .ok (.invokevirtual 192, 3) := by decide +kernel
theorem dX5_wrong_68 : decode cX5_wrong 68 = .ok (.invokestatic 118, 3) := by decide +kernel
theorem dX5_wrong_71 : decode cX5_wrong 71 = .ok (.iadd, 1) := by decide +kernel
theorem dX5_wrong_72 : decode cX5_wrong 72 = .ok (.istore_n 1, 1) := by decide +kernel
theorem dX5_wrong_73 : decode cX5_wrong 73 = .ok (.iinc 2 1, 3) := by decide +kernel
theorem dX5_wrong_76 : decode cX5_wrong 76 = .ok (.goto (-51), 3) := by decide +kernel
theorem dX5_wrong_79 : decode cX5_wrong 79 = .ok (.iload_n 1, 1) := by decide +kernel
theorem dX5_wrong_80 : decode cX5_wrong 80 = .ok (.ireturn, 1) := by decide +kernel
set_option maxRecDepth 20000 in
theorem ggX5_left_X3_unfinishedEnds : GoodIn wsX5_left wsX3_unfinishedEnds := goodIn_r _ [6, 7, 8, 9, 10, 11, 12, 13, 14, 15, 16, 17, 18, 19, 20, 21, 22, 23, 24, 25, 26, 27, 28, 29, 30, 31, 32, 33, 34, 35, 36, 37, 38, 39, 40, 41, 42, 43, 44, 45, 5, 46, 47, 48, 49, 50, 51, 52, 53, 54, 55, 56, 57, 58, 59, 60, 61, 62, 63, 64, 65, 66, 67, 68, 69, 70, 71, 77, 78, 79, 80, 81, 82, 83, 84, 85, 86, 87, 88, 89, 90, 91, 92, 93, 94, 95, 96] (by decide +kernel) (by decide +kernel)
set_option maxRecDepth 20000 in
theorem gX5_left_X3_unfinishedEnds : GoodIn wsX5_left (wsV RX5 196 RX3 yX3_unfinishedEnds wsX3_unfinishedEnds) := goodIn_app (goodIn_of _ (by decide +kernel)) ggX5_left_X3_unfinishedEnds
theorem dX5_left_0 : decode cX5_left 0 = .ok (.aload_n 0, 1) := by decide +kernel
theorem dX5_left_1 : decode cX5_left 1 = .ok (.getfield 28, 3) := by decide +kernel
theorem dX5_left_4 : decode cX5_left 4 = .ok (.invokevirtual 196, 3) := by decide +kernel
theorem dX5_left_7 : decode cX5_left 7 = .ok (.ireturn, 1) := by decide +kernel
set_option maxRecDepth 20000 in
theorem ggX5_draw_X1_drawWith : GoodIn wsX5_draw wsX1_drawWith := goodIn_r _ [6, 7, 8, 9, 10, 11, 12, 13, 14, 15, 16, 17, 18, 19, 20, 21, 22, 23, 24, 30, 31, 32, 33, 34, 35, 36, 37, 38, 39, 40, 41, 42, 43, 44, 45, 46, 47, 48, 49] (by decide +kernel) (by decide +kernel)
set_option maxRecDepth 20000 in
theorem gX5_draw_X1_drawWith : GoodIn wsX5_draw (wsV RX5 200 RX1 yX1_drawWith wsX1_drawWith) := goodIn_app (goodIn_of _ (by decide +kernel)) ggX5_draw_X1_drawWith
theorem dX5_draw_0 : decode cX5_draw 0 = .ok (.aload_n 0, 1) := by decide +kernel
theorem dX5_draw_1 : decode cX5_draw 1 = .ok (.getfield 37, 3) := by decide +kernel
theorem dX5_draw_4 : decode cX5_draw 4 = .ok (.iload_n 1, 1) := by decide +kernel
theorem dX5_draw_5 : decode cX5_draw 5 = .ok (.invokevirtual 200, 3) := by decide +kernel
theorem dX5_draw_8 : decode cX5_draw 8 = .ok (.ireturn, 1) := by decide +kernel
set_option maxRecDepth 20000 in
theorem ggX5_find_X1_firstSeed : GoodIn wsX5_find wsX1_firstSeed := goodIn_r _ [8, 9, 10, 11, 12, 13, 14, 15, 16, 17, 18, 19, 7, 20, 21, 22, 23, 24, 25, 26, 27, 28, 29, 30, 31, 32, 33, 34, 35, 36, 37, 38, 39, 40, 41, 42, 43, 44, 45, 46, 47, 48, 49, 50, 51, 52, 53, 54, 55, 56, 57, 58, 59, 60, 61, 62, 63, 64, 65, 66, 67, 68, 69, 70, 71, 72, 73, 74, 75, 76, 77, 78, 79, 80, 81, 82, 83, 84, 85, 86, 87, 88, 89, 90, 91, 92, 93, 94, 116, 117, 118, 119, 100, 101, 102, 103, 104, 105, 106, 107, 108, 109, 110, 111, 112, 113, 114, 115, 120, 121, 122, 123] (by decide +kernel) (by decide +kernel)
set_option maxRecDepth 20000 in
theorem gX5_find_X1_firstSeed : GoodIn wsX5_find (wsV RX5 203 RX1 yX1_firstSeed wsX1_firstSeed) := goodIn_app (goodIn_of _ (by decide +kernel)) ggX5_find_X1_firstSeed
theorem dX5_find_0 : decode cX5_find 0 = .ok (.aload_n 0, 1) := by decide +kernel
theorem dX5_find_1 : decode cX5_find 1 = .ok (.getfield 10, 3) := by decide +kernel
theorem dX5_find_4 : decode cX5_find 4 = .ok (.getfield 82, 3) := by decide +kernel
theorem dX5_find_7 : decode cX5_find 7 = .ok (.ifCond .ne 7, 3) := by decide +kernel
theorem dX5_find_10 : decode cX5_find 10 = .ok (.iconst (-1), 1) := by decide +kernel
theorem dX5_find_11 : decode cX5_find 11 = .ok (.goto 10, 3) := by decide +kernel
theorem dX5_find_14 : decode cX5_find 14 = .ok (.aload_n 0, 1) := by decide +kernel
theorem dX5_find_15 : decode cX5_find 15 = .ok (.getfield 37, 3) := by decide +kernel
theorem dX5_find_18 : decode cX5_find 18 = .ok (.invokevirtual 203, 3) := by decide +kernel
theorem dX5_find_21 : decode cX5_find 21 = .ok (.ireturn, 1) := by decide +kernel
set_option maxRecDepth 20000 in
theorem ggX5_leave_X1_unmixAll : GoodIn wsX5_leave wsX1_unmixAll := goodIn_r _ [6, 7, 8, 9, 10, 11, 12, 13, 5, 14, 15, 16, 17, 18, 19, 20, 21, 22, 23, 24, 25, 26, 27, 28, 29, 30, 31, 32, 33, 34, 35, 36, 37, 38, 39, 40, 41, 42, 43, 44, 45, 46, 47, 48, 49, 50, 51, 52, 53, 54, 55, 56, 57, 58, 59, 60, 61, 62, 63, 64, 65, 66, 67, 68, 69, 70, 71, 72, 73, 74, 75, 76, 77, 78, 79, 80, 81, 82, 83, 84, 85, 86, 87, 88, 89, 90, 91, 92, 93, 94, 95, 96, 97, 98, 99, 100, 101, 102, 103, 104, 105, 106, 107, 108, 109, 115, 116, 117, 118, 119, 120, 121, 122, 123, 124, 125, 126, 127, 128, 129, 130, 131, 132, 133, 134, 135, 136, 137, 138] (by decide +kernel) (by decide +kernel)
set_option maxRecDepth 20000 in
theorem gX5_leave_X1_unmixAll : GoodIn wsX5_leave (wsV RX5 206 RX1 yX1_unmixAll wsX1_unmixAll) := goodIn_app (goodIn_of _ (by decide +kernel)) ggX5_leave_X1_unmixAll
theorem dX5_leave_0 : decode cX5_leave 0 = .ok (.aload_n 0, 1) := by decide +kernel
theorem dX5_leave_1 : decode cX5_leave 1 = .ok (.getfield 37, 3) := by decide +kernel
theorem dX5_leave_4 : decode cX5_leave 4 = .ok (.invokevirtual 206, 3) := by decide +kernel
theorem dX5_leave_7 : decode cX5_leave 7 = .ok (.ireturn, 1) := by decide +kernel
set_option maxRecDepth 20000 in
theorem ggX5_safe_X5_isBreakCount : GoodIn wsX5_safe wsX5_isBreakCount := goodIn_r _ [7] (by decide +kernel) (by decide +kernel)
set_option maxRecDepth 20000 in
theorem gX5_safe_X5_isBreakCount : GoodIn wsX5_safe (va_wsS RX5 209 yX5_isBreakCount wsX5_isBreakCount) := goodIn_app (goodIn_of _ (by decide +kernel)) ggX5_safe_X5_isBreakCount
set_option maxRecDepth 20000 in
theorem ggX5_safe_X0_search : GoodIn wsX5_safe wsX0_search := goodIn_r _ [12, 13, 14, 15, 16, 17, 11, 18, 19, 20, 21, 22, 23, 24, 25, 26, 27, 28, 29, 30, 31, 32, 33, 6, 34, 35, 36, 37, 38, 39, 40, 41, 42, 43, 44, 45, 46, 47, 48, 49, 50, 51, 52, 53, 54, 55, 56, 57, 58, 59, 60, 61, 62, 63, 64, 65, 66, 67, 68, 69, 70, 71, 72, 73, 74, 75, 76, 77, 78, 79, 80, 81, 82, 83, 84, 85, 86, 87, 88, 89, 90, 91, 92, 93, 94, 95, 120, 121, 122, 123, 124, 104, 105, 106, 107, 108, 109, 110, 111, 112, 113, 114, 115, 116, 117, 118, 119, 125, 126, 127, 128] (by decide +kernel) (by decide +kernel)
set_option maxRecDepth 20000 in
theorem gX5_safe_X0_search : GoodIn wsX5_safe (wsV RX5 212 RX0 yX0_search wsX0_search) := goodIn_app (goodIn_of _ (by decide +kernel)) ggX5_safe_X0_search
set_option maxRecDepth 20000 in
theorem ggX5_safe_X5_asFlag : GoodIn wsX5_safe wsX5_asFlag := goodIn_r _ [98] (by decide +kernel) (by decide +kernel)
set_option maxRecDepth 20000 in
theorem gX5_safe_X5_asFlag : GoodIn wsX5_safe (va_wsS RX5 118 yX5_asFlag wsX5_asFlag) := goodIn_app (goodIn_of _ (by decide +kernel)) ggX5_safe_X5_asFlag
theorem dX5_safe_0 : decode cX5_safe 0 = .ok (.iload_n 1, 1) := by decide +kernel
theorem dX5_safe_1 : decode cX5_safe 1 = .ok (.invokestatic 209, 3) := by decide +kernel
theorem dX5_safe_4 : decode cX5_safe 4 = .ok (.ifCond .eq 18, 3) := by decide +kernel
theorem dX5_safe_7 : decode cX5_safe 7 = .ok (.iload_n 2, 1) := by decide +kernel
theorem dX5_safe_8 : decode cX5_safe 8 = .ok (.ifCond .lt 14, 3) := by decide +kernel
theorem dX5_safe_11 : decode cX5_safe 11 = .ok (.iload_n 2, 1) := by decide +kernel
theorem dX5_safe_12 : decode cX5_safe 12 = .ok (.aload_n 0, 1) := by decide +kernel
theorem dX5_safe_13 : decode cX5_safe 13 = .ok (.getfield 10, 3) := by decide +kernel
theorem dX5_safe_16 : decode cX5_safe 16 = .ok (.getfield 63, 3) := by decide +kernel
theorem dX5_safe_19 : decode cX5_safe 19 = .ok (.if_icmp .le 6, 3) := by decide +kernel
theorem dX5_safe_22 : decode cX5_safe 22 = .ok (.bipush (-2), 2) := by decide +kernel
theorem dX5_safe_24 : decode cX5_safe 24 = .ok (.ireturn, 1) := by decide +kernel
theorem dX5_safe_25 : decode cX5_safe 25 = .ok (.aload_n 0, 1) := by decide +kernel
theorem dX5_safe_26 : decode cX5_safe 26 = .ok (.getfield 44, 3) := by decide +kernel
theorem dX5_safe_29 : decode cX5_safe 29 = .ok (.iload_n 1, 1) := by decide +kernel
theorem dX5_safe_30 : decode cX5_safe 30 = .ok (.iload_n 2, 1) := by decide +kernel
theorem dX5_safe_31 : decode cX5_safe 31 = .ok (.invokevirtual 212, 3) := by decide +kernel
theorem dX5_safe_34 : decode cX5_safe 34 = .ok (.ifCond .ne 7, 3) := by decide +kernel
theorem dX5_safe_37 : decode cX5_safe 37 = .ok (.iconst 1, 1) := by decide +kernel
theorem dX5_safe_38 : decode cX5_safe 38 = .ok (.goto 4, 3) := by decide +kernel
theorem dX5_safe_41 : decode cX5_safe 41 = .ok (.iconst 0, 1) := by decide +kernel
theorem dX5_safe_42 : decode cX5_safe 42 = .ok (.invokestatic 118, 3) := by decide +kernel
theorem dX5_safe_45 : decode cX5_safe 45 = .ok (.ireturn, 1) := by decide +kernel
set_option maxRecDepth 20000 in
theorem ggX5_breaks_X5_isBreakCount : GoodIn wsX5_breaks wsX5_isBreakCount := goodIn_r _ [10] (by decide +kernel) (by decide +kernel)
set_option maxRecDepth 20000 in
theorem gX5_breaks_X5_isBreakCount : GoodIn wsX5_breaks (va_wsS RX5 209 yX5_isBreakCount wsX5_isBreakCount) := goodIn_app (goodIn_of _ (by decide +kernel)) ggX5_breaks_X5_isBreakCount
set_option maxRecDepth 20000 in
theorem ggX5_breaks_X0_search : GoodIn wsX5_breaks wsX0_search := goodIn_r _ [15, 16, 17, 18, 19, 20, 14, 21, 22, 23, 24, 25, 26, 27, 28, 29, 30, 31, 32, 33, 34, 35, 36, 9, 37, 38, 39, 40, 41, 42, 43, 44, 45, 46, 47, 48, 49, 50, 51, 52, 53, 54, 55, 56, 57, 58, 59, 60, 61, 62, 63, 64, 65, 66, 67, 68, 69, 70, 71, 72, 73, 74, 75, 76, 77, 78, 79, 80, 81, 82, 83, 84, 85, 86, 87, 88, 89, 90, 91, 92, 93, 94, 95, 96, 97, 98, 120, 121, 122, 123, 124, 104, 105, 106, 107, 108, 109, 110, 111, 112, 113, 114, 115, 116, 117, 118, 119, 125, 126, 127, 128] (by decide +kernel) (by decide +kernel)
set_option maxRecDepth 20000 in
theorem gX5_breaks_X0_search : GoodIn wsX5_breaks (wsV RX5 212 RX0 yX0_search wsX0_search) := goodIn_app (goodIn_of _ (by decide +kernel)) ggX5_breaks_X0_search
theorem dX5_breaks_0 : decode cX5_breaks 0 = .ok (.iload_n 3, 1) := by decide +kernel
theorem dX5_breaks_1 : decode cX5_breaks 1 = .ok (.ifCond .lt 8, 3) := by decide +kernel
theorem dX5_breaks_4 : decode cX5_breaks 4 = .ok (.iload_n 3, 1) := by decide +kernel
theorem dX5_breaks_5 : decode cX5_breaks 5 = .ok (.iconst 2, 1) := by decide +kernel
theorem dX5_breaks_6 : decode cX5_breaks 6 = .ok (.if_icmp .le 5, 3) := by decide +kernel
theorem dX5_breaks_9 : decode cX5_breaks 9 = .ok (.iconst (-1), 1) := by decide +kernel
theorem dX5_breaks_10 : decode cX5_breaks 10 = .ok (.ireturn, 1) := by decide +kernel
theorem dX5_breaks_11 : decode cX5_breaks 11 = .ok (.iload_n 1, 1) := by decide +kernel
theorem dX5_breaks_12 : decode cX5_breaks 12 = .ok (.invokestatic 209, 3) := by decide +kernel
theorem dX5_breaks_15 : decode cX5_breaks 15 = .ok (.ifCond .eq 18, 3) := by decide +kernel
theorem dX5_breaks_18 : decode cX5_breaks 18 = .ok (.iload_n 2, 1) := by decide +kernel
theorem dX5_breaks_19 : decode cX5_breaks 19 = .ok (.ifCond .lt 14, 3) := by decide +kernel
theorem dX5_breaks_22 : decode cX5_breaks 22 = .ok (.iload_n 2, 1) := by decide +kernel
theorem dX5_breaks_23 : decode cX5_breaks 23 = .ok (.aload_n 0, 1) := by decide +kernel
theorem dX5_breaks_24 : decode cX5_breaks 24 = .ok (.getfield 10, 3) := by decide +kernel
theorem dX5_breaks_27 : decode cX5_breaks 27 = .ok (.getfield 63, 3) := by decide +kernel
theorem dX5_breaks_30 : decode cX5_breaks 30 = .ok (.if_icmp .le 6, 3) := by decide +kernel
theorem dX5_breaks_33 : decode cX5_breaks 33 = .ok (.bipush (-2), 2) := by decide +kernel
theorem dX5_breaks_35 : decode cX5_breaks 35 = .ok (.ireturn, 1) := by decide +kernel
theorem dX5_breaks_36 : decode cX5_breaks 36 = .ok (.aload_n 0, 1) := by decide +kernel
theorem dX5_breaks_37 : decode cX5_breaks 37 = .ok (.getfield 44, 3) := by decide +kernel
theorem dX5_breaks_40 : decode cX5_breaks 40 = .ok (.iload_n 1, 1) := by decide +kernel
theorem dX5_breaks_41 : decode cX5_breaks 41 = .ok (.iload_n 2, 1) := by decide +kernel
theorem dX5_breaks_42 : decode cX5_breaks 42 = .ok (.invokevirtual 212, 3) := by decide +kernel
theorem dX5_breaks_45 : decode cX5_breaks 45 = .ok (.ifCond .ne 5, 3) := by decide +kernel
theorem dX5_breaks_48 : decode cX5_breaks 48 = .ok (.iconst (-1), 1) := by decide +kernel
theorem dX5_breaks_49 : decode cX5_breaks 49 = .ok (.ireturn, 1) := by decide +kernel
theorem dX5_breaks_50 : decode cX5_breaks 50 = .ok (.iload_n 3, 1) := by decide +kernel
theorem dX5_breaks_51 : decode cX5_breaks 51 = .ok (.ifCond .ne 11, 3) := by decide +kernel
theorem dX5_breaks_54 : decode cX5_breaks 54 = .ok (.aload_n 0, 1) := by decide +kernel
theorem dX5_breaks_55 : decode cX5_breaks 55 = .ok (.getfield 44, 3) := by decide +kernel
theorem dX5_breaks_58 : decode cX5_breaks 58 = .ok (.getfield 216, 3) := by decide +kernel
theorem dX5_breaks_61 : decode cX5_breaks 61 = .ok (.ireturn, 1) := by decide +kernel
theorem dX5_breaks_62 : decode cX5_breaks 62 = .ok (.iload_n 3, 1) := by decide +kernel
theorem dX5_breaks_63 : decode cX5_breaks 63 = .ok (.iconst 1, 1) := by decide +kernel
theorem dX5_breaks_64 : decode cX5_breaks 64 = .ok (.if_icmp .ne 13, 3) := by decide +kernel
theorem dX5_breaks_67 : decode cX5_breaks 67 = .ok (.aload_n 0, 1) := by decide +kernel
theorem dX5_breaks_68 : decode cX5_breaks 68 = .ok (.getfield 44, 3) := by decide +kernel
theorem dX5_breaks_71 : decode cX5_breaks 71 = .ok (.getfield 219, 3) := by decide +kernel
theorem dX5_breaks_74 : decode cX5_breaks 74 = .ok (.goto 10, 3) := by decide +kernel
theorem dX5_breaks_77 : decode cX5_breaks 77 = .ok (.aload_n 0, 1) := by decide +kernel
theorem dX5_breaks_78 : decode cX5_breaks 78 = .ok (.getfield 44, 3) := by decide +kernel
theorem dX5_breaks_81 : decode cX5_breaks 81 = .ok (.getfield 222, 3) := by decide +kernel
theorem dX5_breaks_84 : decode cX5_breaks 84 = .ok (.ireturn, 1) := by decide +kernel
set_option maxRecDepth 20000 in
theorem ggX5_count_J6_bitCount_0f7a4 : GoodIn wsX5_count wsJ6_bitCount_0f7a4 := goodIn_r _ [10, 11, 12, 13] (by decide +kernel) (by decide +kernel)
set_option maxRecDepth 20000 in
theorem gX5_count_J6_bitCount_0f7a4 : GoodIn wsX5_count (va_wsS RX5 225 yJ6_bitCount_0f7a4 wsJ6_bitCount_0f7a4) := goodIn_app (goodIn_of _ (by decide +kernel)) ggX5_count_J6_bitCount_0f7a4
set_option maxRecDepth 20000 in
theorem ggX5_count_X2_passingLines : GoodIn wsX5_count wsX2_passingLines := goodIn_r _ [18, 19, 20, 21, 22, 17, 23, 24, 25, 26, 27, 28, 29, 30, 31, 32, 33, 34, 35, 36, 46, 47, 48, 49, 50, 51, 52, 53, 54, 55, 56, 57, 58, 59, 60, 61] (by decide +kernel) (by decide +kernel)
set_option maxRecDepth 20000 in
theorem gX5_count_X2_passingLines : GoodIn wsX5_count (wsV RX5 230 RX2 yX2_passingLines wsX2_passingLines) := goodIn_app (goodIn_of _ (by decide +kernel)) ggX5_count_X2_passingLines
set_option maxRecDepth 20000 in
theorem ggX5_count_X2_allFactors : GoodIn wsX5_count wsX2_allFactors := goodIn_r _ [40, 19, 26, 27, 28, 17, 29, 24, 30, 31, 46, 47, 48, 49, 50, 51, 52, 53, 54, 55, 56, 57, 58, 59, 60, 61] (by decide +kernel) (by decide +kernel)
set_option maxRecDepth 20000 in
theorem gX5_count_X2_allFactors : GoodIn wsX5_count (wsV RX5 233 RX2 yX2_allFactors wsX2_allFactors) := goodIn_app (goodIn_of _ (by decide +kernel)) ggX5_count_X2_allFactors
theorem dX5_count_0 : decode cX5_count 0 = .ok (.iload_n 1, 1) := by decide +kernel
theorem dX5_count_1 : decode cX5_count 1 = .ok (.tableswitch 105 0 6 #[43, 51, 59, 67, 78, 89, 97], 43) := by decide +kernel
theorem dX5_count_44 : decode cX5_count 44 = .ok (.aload_n 0, 1) := by decide +kernel
theorem dX5_count_45 : decode cX5_count 45 = .ok (.getfield 10, 3) := by decide +kernel
theorem dX5_count_48 : decode cX5_count 48 = .ok (.getfield 48, 3) := by decide +kernel
theorem dX5_count_51 : decode cX5_count 51 = .ok (.ireturn, 1) := by decide +kernel
theorem dX5_count_52 : decode cX5_count 52 = .ok (.aload_n 0, 1) := by decide +kernel
theorem dX5_count_53 : decode cX5_count 53 = .ok (.getfield 10, 3) := by decide +kernel
theorem dX5_count_56 : decode cX5_count 56 = .ok (.getfield 56, 3) := by decide +kernel
theorem dX5_count_59 : decode cX5_count 59 = .ok (.ireturn, 1) := by decide +kernel
theorem dX5_count_60 : decode cX5_count 60 = .ok (.aload_n 0, 1) := by decide +kernel
theorem dX5_count_61 : decode cX5_count 61 = .ok (.getfield 10, 3) := by decide +kernel
theorem dX5_count_64 : decode cX5_count 64 = .ok (.getfield 63, 3) := by decide +kernel
theorem dX5_count_67 : decode cX5_count 67 = .ok (.ireturn, 1) := by decide +kernel
theorem dX5_count_68 : decode cX5_count 68 = .ok (.aload_n 0, 1) := by decide +kernel
theorem dX5_count_69 : decode cX5_count 69 = .ok (.getfield 10, 3) := by decide +kernel
theorem dX5_count_72 : decode cX5_count 72 = .ok (.getfield 82, 3) := by decide +kernel
theorem dX5_count_75 : decode cX5_count 75 = .ok (.invokestatic 225, 3) := by decide +kernel
theorem dX5_count_78 : decode cX5_count 78 = .ok (.ireturn, 1) := by decide +kernel
theorem dX5_count_79 : decode cX5_count 79 = .ok (.aload_n 0, 1) := by decide +kernel
theorem dX5_count_80 : decode cX5_count 80 = .ok (.getfield 10, 3) := by decide +kernel
theorem dX5_count_83 : decode cX5_count 83 = .ok (.getfield 112, 3) := by decide +kernel
theorem dX5_count_86 : decode cX5_count 86 = .ok (.invokestatic 225, 3) := by decide +kernel
theorem dX5_count_89 : decode cX5_count 89 = .ok (.ireturn, 1) := by decide +kernel
theorem dX5_count_90 : decode cX5_count 90 = .ok (.aload_n 0, 1) := by decide +kernel
theorem dX5_count_91 : decode cX5_count 91 = .ok (.getfield 10, 3) := by decide +kernel
theorem dX5_count_94 : decode cX5_count 94 = .ok (.invokevirtual 230, 3) := by decide +kernel
theorem dX5_count_97 : decode cX5_count 97 = .ok (.ireturn, 1) := by decide +kernel
theorem dX5_count_98 : decode cX5_count 98 = .ok (.aload_n 0, 1) := by decide +kernel
theorem dX5_count_99 : decode cX5_count 99 = .ok (.getfield 10, 3) := by decide +kernel
theorem dX5_count_102 : decode cX5_count 102 = .ok (.invokevirtual 233, 3) := by decide +kernel
theorem dX5_count_105 : decode cX5_count 105 = .ok (.ireturn, 1) := by decide +kernel
theorem dX5_count_106 : decode cX5_count 106 = .ok (.iconst (-1), 1) := by decide +kernel
theorem dX5_count_107 : decode cX5_count 107 = .ok (.ireturn, 1) := by decide +kernel
set_option maxRecDepth 20000 in
theorem ggX5_refusalOf_X2_isRelay : GoodIn wsX5_refusalOf wsX2_isRelay := goodIn_r _ [6, 7, 13, 14, 15, 16, 17, 18, 19, 20, 21, 22, 23, 24, 25, 26, 27, 28] (by decide +kernel) (by decide +kernel)
set_option maxRecDepth 20000 in
theorem gX5_refusalOf_X2_isRelay : GoodIn wsX5_refusalOf (wsV RX5 52 RX2 yX2_isRelay wsX2_isRelay) := goodIn_app (goodIn_of _ (by decide +kernel)) ggX5_refusalOf_X2_isRelay
theorem dX5_refusalOf_0 : decode cX5_refusalOf 0 = .ok (.aload_n 0, 1) := by decide +kernel
theorem dX5_refusalOf_1 : decode cX5_refusalOf 1 = .ok (.getfield 10, 3) := by decide +kernel
theorem dX5_refusalOf_4 : decode cX5_refusalOf 4 = .ok (.iload_n 1, 1) := by decide +kernel
theorem dX5_refusalOf_5 : decode cX5_refusalOf 5 = .ok (.invokevirtual 52, 3) := by decide +kernel
theorem dX5_refusalOf_8 : decode cX5_refusalOf 8 = .ok (.ifCond .ne 5, 3) := by decide +kernel
theorem dX5_refusalOf_11 : decode cX5_refusalOf 11 = .ok (.iconst (-1), 1) := by decide +kernel
theorem dX5_refusalOf_12 : decode cX5_refusalOf 12 = .ok (.ireturn, 1) := by decide +kernel
theorem dX5_refusalOf_13 : decode cX5_refusalOf 13 = .ok (.iload_n 1, 1) := by decide +kernel
theorem dX5_refusalOf_14 : decode cX5_refusalOf 14 = .ok (.ifCond .ne 8, 3) := by decide +kernel
theorem dX5_refusalOf_17 : decode cX5_refusalOf 17 = .ok (.bipush (-2), 2) := by decide +kernel
theorem dX5_refusalOf_19 : decode cX5_refusalOf 19 = .ok (.goto 4, 3) := by decide +kernel
theorem dX5_refusalOf_22 : decode cX5_refusalOf 22 = .ok (.iconst 0, 1) := by decide +kernel
theorem dX5_refusalOf_23 : decode cX5_refusalOf 23 = .ok (.ireturn, 1) := by decide +kernel
set_option maxRecDepth 20000 in
theorem ggX5_refusalOf__X2_isPiece : GoodIn wsX5_refusalOf_ wsX2_isPiece := goodIn_r _ [6, 7, 23, 24, 25, 26, 27, 28, 29, 30, 31, 32, 33, 34, 35, 36, 37, 38] (by decide +kernel) (by decide +kernel)
set_option maxRecDepth 20000 in
theorem gX5_refusalOf__X2_isPiece : GoodIn wsX5_refusalOf_ (wsV RX5 76 RX2 yX2_isPiece wsX2_isPiece) := goodIn_app (goodIn_of _ (by decide +kernel)) ggX5_refusalOf__X2_isPiece
set_option maxRecDepth 20000 in
theorem ggX5_refusalOf__X5_refusalOf : GoodIn wsX5_refusalOf_ wsX5_refusalOf := goodIn_r _ [12, 1, 13, 14, 15, 5, 16, 17, 18, 19, 20, 21, 22, 23, 24, 25, 26, 27, 28, 29, 30, 31, 32, 33, 34, 35, 36, 37, 38] (by decide +kernel) (by decide +kernel)
set_option maxRecDepth 20000 in
theorem gX5_refusalOf__X5_refusalOf : GoodIn wsX5_refusalOf_ (wsV RX5 137 RX5 yX5_refusalOf wsX5_refusalOf) := goodIn_app (goodIn_of _ (by decide +kernel)) ggX5_refusalOf__X5_refusalOf
theorem dX5_refusalOf__0 : decode cX5_refusalOf_ 0 = .ok (.aload_n 0, 1) := by decide +kernel
theorem dX5_refusalOf__1 : decode cX5_refusalOf_ 1 = .ok (.getfield 10, 3) := by decide +kernel
theorem dX5_refusalOf__4 : decode cX5_refusalOf_ 4 = .ok (.iload_n 2, 1) := by decide +kernel
theorem dX5_refusalOf__5 : decode cX5_refusalOf_ 5 = .ok (.invokevirtual 76, 3) := by decide +kernel
theorem dX5_refusalOf__8 : decode cX5_refusalOf_ 8 = .ok (.ifCond .eq 11, 3) := by decide +kernel
theorem dX5_refusalOf__11 : decode cX5_refusalOf_ 11 = .ok (.aload_n 0, 1) := by decide +kernel
theorem dX5_refusalOf__12 : decode cX5_refusalOf_ 12 = .ok (.iload_n 1, 1) := by decide +kernel
theorem dX5_refusalOf__13 : decode cX5_refusalOf_ 13 = .ok (.invokevirtual 137, 3) := by decide +kernel
theorem dX5_refusalOf__16 : decode cX5_refusalOf_ 16 = .ok (.goto 4, 3) := by decide +kernel
theorem dX5_refusalOf__19 : decode cX5_refusalOf_ 19 = .ok (.iconst (-1), 1) := by decide +kernel
theorem dX5_refusalOf__20 : decode cX5_refusalOf_ 20 = .ok (.ireturn, 1) := by decide +kernel
theorem dX5_isFlag_0 : decode cX5_isFlag 0 = .ok (.iload_n 0, 1) := by decide +kernel
theorem dX5_isFlag_1 : decode cX5_isFlag 1 = .ok (.ifCond .eq 8, 3) := by decide +kernel
theorem dX5_isFlag_4 : decode cX5_isFlag 4 = .ok (.iload_n 0, 1) := by decide +kernel
theorem dX5_isFlag_5 : decode cX5_isFlag 5 = .ok (.iconst 1, 1) := by decide +kernel
theorem dX5_isFlag_6 : decode cX5_isFlag 6 = .ok (.if_icmp .ne 7, 3) := by decide +kernel
theorem dX5_isFlag_9 : decode cX5_isFlag 9 = .ok (.iconst 1, 1) := by decide +kernel
theorem dX5_isFlag_10 : decode cX5_isFlag 10 = .ok (.goto 4, 3) := by decide +kernel
theorem dX5_isFlag_13 : decode cX5_isFlag 13 = .ok (.iconst 0, 1) := by decide +kernel
theorem dX5_isFlag_14 : decode cX5_isFlag 14 = .ok (.ireturn, 1) := by decide +kernel
theorem dX5_isNumber_0 : decode cX5_isNumber 0 = .ok (.iload_n 0, 1) := by decide +kernel
theorem dX5_isNumber_1 : decode cX5_isNumber 1 = .ok (.ifCond .lt 14, 3) := by decide +kernel
theorem dX5_isNumber_4 : decode cX5_isNumber 4 = .ok (.iload_n 0, 1) := by decide +kernel
theorem dX5_isNumber_5 : decode cX5_isNumber 5 = .ok (.sipush 255, 3) := by decide +kernel
theorem dX5_isNumber_8 : decode cX5_isNumber 8 = .ok (.if_icmp .gt 7, 3) := by decide +kernel
theorem dX5_isNumber_11 : decode cX5_isNumber 11 = .ok (.iconst 1, 1) := by decide +kernel
theorem dX5_isNumber_12 : decode cX5_isNumber 12 = .ok (.goto 4, 3) := by decide +kernel
theorem dX5_isNumber_15 : decode cX5_isNumber 15 = .ok (.iconst 0, 1) := by decide +kernel
theorem dX5_isNumber_16 : decode cX5_isNumber 16 = .ok (.ireturn, 1) := by decide +kernel
theorem dX5_isBreakCount_0 : decode cX5_isBreakCount 0 = .ok (.iload_n 0, 1) := by decide +kernel
theorem dX5_isBreakCount_1 : decode cX5_isBreakCount 1 = .ok (.ifCond .lt 12, 3) := by decide +kernel
theorem dX5_isBreakCount_4 : decode cX5_isBreakCount 4 = .ok (.iload_n 0, 1) := by decide +kernel
theorem dX5_isBreakCount_5 : decode cX5_isBreakCount 5 = .ok (.iconst 2, 1) := by decide +kernel
theorem dX5_isBreakCount_6 : decode cX5_isBreakCount 6 = .ok (.if_icmp .gt 7, 3) := by decide +kernel
theorem dX5_isBreakCount_9 : decode cX5_isBreakCount 9 = .ok (.iconst 1, 1) := by decide +kernel
theorem dX5_isBreakCount_10 : decode cX5_isBreakCount 10 = .ok (.goto 4, 3) := by decide +kernel
theorem dX5_isBreakCount_13 : decode cX5_isBreakCount 13 = .ok (.iconst 0, 1) := by decide +kernel
theorem dX5_isBreakCount_14 : decode cX5_isBreakCount 14 = .ok (.ireturn, 1) := by decide +kernel
theorem dX5_asFlag_0 : decode cX5_asFlag 0 = .ok (.iload_n 0, 1) := by decide +kernel
theorem dX5_asFlag_1 : decode cX5_asFlag 1 = .ok (.ifCond .eq 7, 3) := by decide +kernel
theorem dX5_asFlag_4 : decode cX5_asFlag 4 = .ok (.iconst 1, 1) := by decide +kernel
theorem dX5_asFlag_5 : decode cX5_asFlag 5 = .ok (.goto 4, 3) := by decide +kernel
theorem dX5_asFlag_8 : decode cX5_asFlag 8 = .ok (.iconst 0, 1) := by decide +kernel
theorem dX5_asFlag_9 : decode cX5_asFlag 9 = .ok (.ireturn, 1) := by decide +kernel
theorem dX5_flag_0 : decode cX5_flag 0 = .ok (.iload_n 0, 1) := by decide +kernel
theorem dX5_flag_1 : decode cX5_flag 1 = .ok (.iload_n 1, 1) := by decide +kernel
theorem dX5_flag_2 : decode cX5_flag 2 = .ok (.iushr, 1) := by decide +kernel
theorem dX5_flag_3 : decode cX5_flag 3 = .ok (.iconst 1, 1) := by decide +kernel
theorem dX5_flag_4 : decode cX5_flag 4 = .ok (.iand, 1) := by decide +kernel
theorem dX5_flag_5 : decode cX5_flag 5 = .ok (.ireturn, 1) := by decide +kernel
theorem dX5_withFlag_0 : decode cX5_withFlag 0 = .ok (.iload_n 0, 1) := by decide +kernel
theorem dX5_withFlag_1 : decode cX5_withFlag 1 = .ok (.iconst 1, 1) := by decide +kernel
theorem dX5_withFlag_2 : decode cX5_withFlag 2 = .ok (.iload_n 1, 1) := by decide +kernel
theorem dX5_withFlag_3 : decode cX5_withFlag 3 = .ok (.ishl, 1) := by decide +kernel
theorem dX5_withFlag_4 : decode cX5_withFlag 4 = .ok (.iconst (-1), 1) := by decide +kernel
theorem dX5_withFlag_5 : decode cX5_withFlag 5 = .ok (.ixor, 1) := by decide +kernel
theorem dX5_withFlag_6 : decode cX5_withFlag 6 = .ok (.iand, 1) := by decide +kernel
theorem dX5_withFlag_7 : decode cX5_withFlag 7 = .ok (.iload_n 2, 1) := by decide +kernel
theorem dX5_withFlag_8 : decode cX5_withFlag 8 = .ok (.iload_n 1, 1) := by decide +kernel
theorem dX5_withFlag_9 : decode cX5_withFlag 9 = .ok (.ishl, 1) := by decide +kernel
theorem dX5_withFlag_10 : decode cX5_withFlag 10 = .ok (.ior, 1) := by decide +kernel
theorem dX5_withFlag_11 : decode cX5_withFlag 11 = .ok (.ireturn, 1) := by decide +kernel
theorem dX5_slot_0 : decode cX5_slot 0 = .ok (.iload_n 0, 1) := by decide +kernel
theorem dX5_slot_1 : decode cX5_slot 1 = .ok (.bipush 30, 2) := by decide +kernel
theorem dX5_slot_3 : decode cX5_slot 3 = .ok (.imul, 1) := by decide +kernel
theorem dX5_slot_4 : decode cX5_slot 4 = .ok (.iload_n 1, 1) := by decide +kernel
theorem dX5_slot_5 : decode cX5_slot 5 = .ok (.iadd, 1) := by decide +kernel
theorem dX5_slot_6 : decode cX5_slot 6 = .ok (.ireturn, 1) := by decide +kernel
theorem dX5_byteOf_0 : decode cX5_byteOf 0 = .ok (.lload_n 0, 1) := by decide +kernel
theorem dX5_byteOf_1 : decode cX5_byteOf 1 = .ok (.bipush 8, 2) := by decide +kernel
theorem dX5_byteOf_3 : decode cX5_byteOf 3 = .ok (.iload_n 2, 1) := by decide +kernel
theorem dX5_byteOf_4 : decode cX5_byteOf 4 = .ok (.imul, 1) := by decide +kernel
theorem dX5_byteOf_5 : decode cX5_byteOf 5 = .ok (.lushr, 1) := by decide +kernel
theorem dX5_byteOf_6 : decode cX5_byteOf 6 = .ok (.l2i, 1) := by decide +kernel
theorem dX5_byteOf_7 : decode cX5_byteOf 7 = .ok (.sipush 255, 3) := by decide +kernel
theorem dX5_byteOf_10 : decode cX5_byteOf 10 = .ok (.iand, 1) := by decide +kernel
theorem dX5_byteOf_11 : decode cX5_byteOf 11 = .ok (.ireturn, 1) := by decide +kernel
theorem dX5_scaled_0 : decode cX5_scaled 0 = .ok (.lconst 0, 1) := by decide +kernel
theorem dX5_scaled_1 : decode cX5_scaled 1 = .ok (.lstore_n 3, 1) := by decide +kernel
theorem dX5_scaled_2 : decode cX5_scaled 2 = .ok (.lload_n 0, 1) := by decide +kernel
theorem dX5_scaled_3 : decode cX5_scaled 3 = .ok (.lstore 5, 2) := by decide +kernel
theorem dX5_scaled_5 : decode cX5_scaled 5 = .ok (.iload_n 2, 1) := by decide +kernel
theorem dX5_scaled_6 : decode cX5_scaled 6 = .ok (.istore 7, 2) := by decide +kernel
theorem dX5_scaled_8 : decode cX5_scaled 8 = .ok (.iconst 0, 1) := by decide +kernel
theorem dX5_scaled_9 : decode cX5_scaled 9 = .ok (.istore 8, 2) := by decide +kernel
theorem dX5_scaled_11 : decode cX5_scaled 11 = .ok (.iload 8, 2) := by decide +kernel
theorem dX5_scaled_13 : decode cX5_scaled 13 = .ok (.bipush 8, 2) := by decide +kernel
theorem dX5_scaled_15 : decode cX5_scaled 15 = .ok (.if_icmp .ge 61, 3) := by decide +kernel
theorem dX5_scaled_18 : decode cX5_scaled 18 = .ok (.iload 7, 2) := by decide +kernel
theorem dX5_scaled_20 : decode cX5_scaled 20 = .ok (.ifCond .eq 56, 3) := by decide +kernel
theorem dX5_scaled_23 : decode cX5_scaled 23 = .ok (.iload 7, 2) := by decide +kernel
theorem dX5_scaled_25 : decode cX5_scaled 25 = .ok (.iconst 1, 1) := by decide +kernel
theorem dX5_scaled_26 : decode cX5_scaled 26 = .ok (.iand, 1) := by decide +kernel
theorem dX5_scaled_27 : decode cX5_scaled 27 = .ok (.iconst 1, 1) := by decide +kernel
theorem dX5_scaled_28 : decode cX5_scaled 28 = .ok (.if_icmp .ne 8, 3) := by decide +kernel
theorem dX5_scaled_31 : decode cX5_scaled 31 = .ok (.lload_n 3, 1) := by decide +kernel
theorem dX5_scaled_32 : decode cX5_scaled 32 = .ok (.lload 5, 2) := by decide +kernel
theorem dX5_scaled_34 : decode cX5_scaled 34 = .ok (.lxor, 1) := by decide +kernel
theorem dX5_scaled_35 : decode cX5_scaled 35 = .ok (.lstore_n 3, 1) := by decide +kernel
theorem dX5_scaled_36 : decode cX5_scaled 36 = .ok (.lload 5, 2) := by decide +kernel
theorem dX5_scaled_38 : decode cX5_scaled 38 = .ok (.bipush 7, 2) := by decide +kernel
theorem dX5_scaled_40 : decode cX5_scaled 40 = .ok (.lushr, 1) := by decide +kernel
theorem dX5_scaled_41 : decode cX5_scaled 41 = .ok (.ldc2_w 236, 3) := by decide +kernel
theorem dX5_scaled_44 : decode cX5_scaled 44 = .ok (.land, 1) := by decide +kernel
theorem dX5_scaled_45 : decode cX5_scaled 45 = .ok (.lstore 9, 2) := by decide +kernel
theorem dX5_scaled_47 : decode cX5_scaled 47 = .ok (.lload 5, 2) := by decide +kernel
theorem dX5_scaled_49 : decode cX5_scaled 49 = .ok (.ldc2_w 238, 3) := by decide +kernel
theorem dX5_scaled_52 : decode cX5_scaled 52 = .ok (.land, 1) := by decide +kernel
theorem dX5_scaled_53 : decode cX5_scaled 53 = .ok (.iconst 1, 1) := by decide +kernel
theorem dX5_scaled_54 : decode cX5_scaled 54 = .ok (.lshl, 1) := by decide +kernel
theorem dX5_scaled_55 : decode cX5_scaled 55 = .ok (.lload 9, 2) := by decide +kernel
theorem dX5_scaled_57 : decode cX5_scaled 57 = .ok (.ldc2_w 240, 3) := by decide +kernel
theorem dX5_scaled_60 : decode cX5_scaled 60 = .ok (.lmul, 1) := by decide +kernel
theorem dX5_scaled_61 : decode cX5_scaled 61 = .ok (.lxor, 1) := by decide +kernel
theorem dX5_scaled_62 : decode cX5_scaled 62 = .ok (.lstore 5, 2) := by decide +kernel
theorem dX5_scaled_64 : decode cX5_scaled 64 = .ok (.iload 7, 2) := by decide +kernel
theorem dX5_scaled_66 : decode cX5_scaled 66 = .ok (.iconst 1, 1) := by decide +kernel
theorem dX5_scaled_67 : decode cX5_scaled 67 = .ok (.iushr, 1) := by decide +kernel
theorem dX5_scaled_68 : decode cX5_scaled 68 = .ok (.istore 7, 2) := by decide +kernel
theorem dX5_scaled_70 : decode cX5_scaled 70 = .ok (.iinc 8 1, 3) := by decide +kernel
theorem dX5_scaled_73 : decode cX5_scaled 73 = .ok (.goto (-62), 3) := by decide +kernel
theorem dX5_scaled_76 : decode cX5_scaled 76 = .ok (.lload_n 3, 1) := by decide +kernel
theorem dX5_scaled_77 : decode cX5_scaled 77 = .ok (.lreturn, 1) := by decide +kernel
set_option maxRecDepth 20000 in
theorem ggX5_product_X5_scaled : GoodIn wsX5_product wsX5_scaled := goodIn_r _ [4, 5, 6, 7] (by decide +kernel) (by decide +kernel)
set_option maxRecDepth 20000 in
theorem gX5_product_X5_scaled : GoodIn wsX5_product (va_wsS RX5 242 yX5_scaled wsX5_scaled) := goodIn_app (goodIn_of _ (by decide +kernel)) ggX5_product_X5_scaled
theorem dX5_product_0 : decode cX5_product 0 = .ok (.iload_n 0, 1) := by decide +kernel
theorem dX5_product_1 : decode cX5_product 1 = .ok (.i2l, 1) := by decide +kernel
theorem dX5_product_2 : decode cX5_product 2 = .ok (.iload_n 1, 1) := by decide +kernel
theorem dX5_product_3 : decode cX5_product 3 = .ok (.invokestatic 242, 3) := by decide +kernel
theorem dX5_product_6 : decode cX5_product 6 = .ok (.l2i, 1) := by decide +kernel
theorem dX5_product_7 : decode cX5_product 7 = .ok (.ireturn, 1) := by decide +kernel
set_option maxRecDepth 20000 in
theorem ggX5_inverseOf_X5_product : GoodIn wsX5_inverseOf wsX5_product := goodIn_r _ [4, 5, 6, 3, 7, 8, 9, 10] (by decide +kernel) (by decide +kernel)
set_option maxRecDepth 20000 in
theorem gX5_inverseOf_X5_product : GoodIn wsX5_inverseOf (va_wsS RX5 131 yX5_product wsX5_product) := goodIn_app (goodIn_of _ (by decide +kernel)) ggX5_inverseOf_X5_product
theorem dX5_inverseOf_0 : decode cX5_inverseOf 0 = .ok (.iload_n 0, 1) := by decide +kernel
theorem dX5_inverseOf_1 : decode cX5_inverseOf 1 = .ok (.istore_n 1, 1) := by decide +kernel
theorem dX5_inverseOf_2 : decode cX5_inverseOf 2 = .ok (.iconst 1, 1) := by decide +kernel
theorem dX5_inverseOf_3 : decode cX5_inverseOf 3 = .ok (.istore_n 2, 1) := by decide +kernel
theorem dX5_inverseOf_4 : decode cX5_inverseOf 4 = .ok (.iconst 1, 1) := by decide +kernel
theorem dX5_inverseOf_5 : decode cX5_inverseOf 5 = .ok (.istore_n 3, 1) := by decide +kernel
theorem dX5_inverseOf_6 : decode cX5_inverseOf 6 = .ok (.iload_n 3, 1) := by decide +kernel
theorem dX5_inverseOf_7 : decode cX5_inverseOf 7 = .ok (.bipush 8, 2) := by decide +kernel
theorem dX5_inverseOf_9 : decode cX5_inverseOf 9 = .ok (.if_icmp .ge 21, 3) := by decide +kernel
theorem dX5_inverseOf_12 : decode cX5_inverseOf 12 = .ok (.iload_n 1, 1) := by decide +kernel
theorem dX5_inverseOf_13 : decode cX5_inverseOf 13 = .ok (.iload_n 1, 1) := by decide +kernel
theorem dX5_inverseOf_14 : decode cX5_inverseOf 14 = .ok (.invokestatic 131, 3) := by decide +kernel
theorem dX5_inverseOf_17 : decode cX5_inverseOf 17 = .ok (.istore_n 1, 1) := by decide +kernel
theorem dX5_inverseOf_18 : decode cX5_inverseOf 18 = .ok (.iload_n 2, 1) := by decide +kernel
theorem dX5_inverseOf_19 : decode cX5_inverseOf 19 = .ok (.iload_n 1, 1) := by decide +kernel
theorem dX5_inverseOf_20 : decode cX5_inverseOf 20 = .ok (.invokestatic 131, 3) := by decide +kernel
theorem dX5_inverseOf_23 : decode cX5_inverseOf 23 = .ok (.istore_n 2, 1) := by decide +kernel
theorem dX5_inverseOf_24 : decode cX5_inverseOf 24 = .ok (.iinc 3 1, 3) := by decide +kernel
theorem dX5_inverseOf_27 : decode cX5_inverseOf 27 = .ok (.goto (-21), 3) := by decide +kernel
theorem dX5_inverseOf_30 : decode cX5_inverseOf 30 = .ok (.iload_n 2, 1) := by decide +kernel
theorem dX5_inverseOf_31 : decode cX5_inverseOf 31 = .ok (.ireturn, 1) := by decide +kernel
theorem dX6_init_0 : decode cX6_init 0 = .ok (.aload_n 0, 1) := by decide +kernel
theorem dX6_init_1 : decode cX6_init 1 = .ok (.invokespecial 1, 3) := by decide +kernel
theorem dX6_init_4 : decode cX6_init 4 = .ok (.aload_n 0, 1) := by decide +kernel
theorem dX6_init_5 : decode cX6_init 5 = .ok (.iconst 1, 1) := by decide +kernel
theorem dX6_init_6 : decode cX6_init 6 = .ok (.putfield 7, 3) := by decide +kernel
theorem dX6_init_9 : decode cX6_init 9 = .ok (.aload_n 0, 1) := by decide +kernel
theorem dX6_init_10 : decode cX6_init 10 = .ok (.iconst 1, 1) := by decide +kernel
theorem dX6_init_11 : decode cX6_init 11 = .ok (.putfield 13, 3) := by decide +kernel
theorem dX6_init_14 : decode cX6_init 14 = .ok (.aload_n 0, 1) := by decide +kernel
theorem dX6_init_15 : decode cX6_init 15 = .ok (.iconst 4, 1) := by decide +kernel
theorem dX6_init_16 : decode cX6_init 16 = .ok (.newarray .long, 2) := by decide +kernel
theorem dX6_init_18 : decode cX6_init 18 = .ok (.putfield 16, 3) := by decide +kernel
theorem dX6_init_21 : decode cX6_init 21 = .ok (.aload_n 0, 1) := by decide +kernel
theorem dX6_init_22 : decode cX6_init 22 = .ok (.bipush 12, 2) := by decide +kernel
theorem dX6_init_24 : decode cX6_init 24 = .ok (.newarray .boolean, 2) := by decide +kernel
theorem dX6_init_26 : decode cX6_init 26 = .ok (.putfield 20, 3) := by decide +kernel
theorem dX6_init_29 : decode cX6_init 29 = .ok (.aload_n 0, 1) := by decide +kernel
theorem dX6_init_30 : decode cX6_init 30 = .ok (.bipush 30, 2) := by decide +kernel
theorem dX6_init_32 : decode cX6_init 32 = .ok (.newarray .int, 2) := by decide +kernel
theorem dX6_init_34 : decode cX6_init 34 = .ok (.putfield 24, 3) := by decide +kernel
theorem dX6_init_37 : decode cX6_init 37 = .ok (.aload_n 0, 1) := by decide +kernel
theorem dX6_init_38 : decode cX6_init 38 = .ok (.bipush 30, 2) := by decide +kernel
theorem dX6_init_40 : decode cX6_init 40 = .ok (.newarray .int, 2) := by decide +kernel
theorem dX6_init_42 : decode cX6_init 42 = .ok (.putfield 28, 3) := by decide +kernel
theorem dX6_init_45 : decode cX6_init 45 = .ok (.aload_n 0, 1) := by decide +kernel
theorem dX6_init_46 : decode cX6_init 46 = .ok (.bipush 30, 2) := by decide +kernel
theorem dX6_init_48 : decode cX6_init 48 = .ok (.newarray .boolean, 2) := by decide +kernel
theorem dX6_init_50 : decode cX6_init 50 = .ok (.putfield 31, 3) := by decide +kernel
theorem dX6_init_53 : decode cX6_init 53 = .ok (.aload_n 0, 1) := by decide +kernel
theorem dX6_init_54 : decode cX6_init 54 = .ok (.bipush 30, 2) := by decide +kernel
theorem dX6_init_56 : decode cX6_init 56 = .ok (.newarray .boolean, 2) := by decide +kernel
theorem dX6_init_58 : decode cX6_init 58 = .ok (.putfield 34, 3) := by decide +kernel
theorem dX6_init_61 : decode cX6_init 61 = .ok (.aload_n 0, 1) := by decide +kernel
theorem dX6_init_62 : decode cX6_init 62 = .ok (.bipush 30, 2) := by decide +kernel
theorem dX6_init_64 : decode cX6_init 64 = .ok (.newarray .long, 2) := by decide +kernel
theorem dX6_init_66 : decode cX6_init 66 = .ok (.putfield 37, 3) := by decide +kernel
theorem dX6_init_69 : decode cX6_init 69 = .ok (.aload_n 0, 1) := by decide +kernel
theorem dX6_init_70 : decode cX6_init 70 = .ok (.sipush 900, 3) := by decide +kernel
theorem dX6_init_73 : decode cX6_init 73 = .ok (.newarray .int, 2) := by decide +kernel
theorem dX6_init_75 : decode cX6_init 75 = .ok (.putfield 40, 3) := by decide +kernel
theorem dX6_init_78 : decode cX6_init 78 = .ok (.aload_n 0, 1) := by decide +kernel
theorem dX6_init_79 : decode cX6_init 79 = .ok (.bipush 30, 2) := by decide +kernel
theorem dX6_init_81 : decode cX6_init 81 = .ok (.newarray .boolean, 2) := by decide +kernel
theorem dX6_init_83 : decode cX6_init 83 = .ok (.putfield 43, 3) := by decide +kernel
theorem dX6_init_86 : decode cX6_init 86 = .ok (.aload_n 0, 1) := by decide +kernel
theorem dX6_init_87 : decode cX6_init 87 = .ok (.bipush 12, 2) := by decide +kernel
theorem dX6_init_89 : decode cX6_init 89 = .ok (.newarray .boolean, 2) := by decide +kernel
theorem dX6_init_91 : decode cX6_init 91 = .ok (.putfield 46, 3) := by decide +kernel
theorem dX6_init_94 : decode cX6_init 94 = .ok (.aload_n 0, 1) := by decide +kernel
theorem dX6_init_95 : decode cX6_init 95 = .ok (.bipush 12, 2) := by decide +kernel
theorem dX6_init_97 : decode cX6_init 97 = .ok (.newarray .int, 2) := by decide +kernel
theorem dX6_init_99 : decode cX6_init 99 = .ok (.putfield 49, 3) := by decide +kernel
theorem dX6_init_102 : decode cX6_init 102 = .ok (.aload_n 0, 1) := by decide +kernel
theorem dX6_init_103 : decode cX6_init 103 = .ok (.bipush 120, 2) := by decide +kernel
theorem dX6_init_105 : decode cX6_init 105 = .ok (.newarray .int, 2) := by decide +kernel
theorem dX6_init_107 : decode cX6_init 107 = .ok (.putfield 52, 3) := by decide +kernel
theorem dX6_init_110 : decode cX6_init 110 = .ok (.aload_n 0, 1) := by decide +kernel
theorem dX6_init_111 : decode cX6_init 111 = .ok (.bipush 30, 2) := by decide +kernel
theorem dX6_init_113 : decode cX6_init 113 = .ok (.newarray .long, 2) := by decide +kernel
theorem dX6_init_115 : decode cX6_init 115 = .ok (.putfield 55, 3) := by decide +kernel
theorem dX6_init_118 : decode cX6_init 118 = .ok (.aload_n 0, 1) := by decide +kernel
theorem dX6_init_119 : decode cX6_init 119 = .ok (.iconst (-1), 1) := by decide +kernel
theorem dX6_init_120 : decode cX6_init 120 = .ok (.putfield 58, 3) := by decide +kernel
theorem dX6_init_123 : decode cX6_init 123 = .ok (.aload_n 0, 1) := by decide +kernel
theorem dX6_init_124 : decode cX6_init 124 = .ok (.iconst (-1), 1) := by decide +kernel
theorem dX6_init_125 : decode cX6_init 125 = .ok (.putfield 61, 3) := by decide +kernel
theorem dX6_init_128 : decode cX6_init 128 = .ok (.aload_n 0, 1) := by decide +kernel
theorem dX6_init_129 : decode cX6_init 129 = .ok (.bipush 36, 2) := by decide +kernel
theorem dX6_init_131 : decode cX6_init 131 = .ok (.newarray .int, 2) := by decide +kernel
theorem dX6_init_133 : decode cX6_init 133 = .ok (.putfield 64, 3) := by decide +kernel
theorem dX6_init_136 : decode cX6_init 136 = .ok (.aload_n 0, 1) := by decide +kernel
theorem dX6_init_137 : decode cX6_init 137 = .ok (.iconst 4, 1) := by decide +kernel
theorem dX6_init_138 : decode cX6_init 138 = .ok (.newarray .int, 2) := by decide +kernel
theorem dX6_init_140 : decode cX6_init 140 = .ok (.putfield 67, 3) := by decide +kernel
theorem dX6_init_143 : decode cX6_init 143 = .ok (.aload_n 0, 1) := by decide +kernel
theorem dX6_init_144 : decode cX6_init 144 = .ok (.iconst 4, 1) := by decide +kernel
theorem dX6_init_145 : decode cX6_init 145 = .ok (.newarray .int, 2) := by decide +kernel
theorem dX6_init_147 : decode cX6_init 147 = .ok (.putfield 70, 3) := by decide +kernel
theorem dX6_init_150 : decode cX6_init 150 = .ok (.aload_n 0, 1) := by decide +kernel
theorem dX6_init_151 : decode cX6_init 151 = .ok (.bipush 9, 2) := by decide +kernel
theorem dX6_init_153 : decode cX6_init 153 = .ok (.newarray .int, 2) := by decide +kernel
theorem dX6_init_155 : decode cX6_init 155 = .ok (.putfield 73, 3) := by decide +kernel
theorem dX6_init_158 : decode cX6_init 158 = .ok (.aload_n 0, 1) := by decide +kernel
theorem dX6_init_159 : decode cX6_init 159 = .ok (.iconst 4, 1) := by decide +kernel
theorem dX6_init_160 : decode cX6_init 160 = .ok (.newarray .int, 2) := by decide +kernel
theorem dX6_init_162 : decode cX6_init 162 = .ok (.putfield 76, 3) := by decide +kernel
theorem dX6_init_165 : decode cX6_init 165 = .ok (.aload_n 0, 1) := by decide +kernel
theorem dX6_init_166 : decode cX6_init 166 = .ok (.bipush 25, 2) := by decide +kernel
theorem dX6_init_168 : decode cX6_init 168 = .ok (.newarray .int, 2) := by decide +kernel
theorem dX6_init_170 : decode cX6_init 170 = .ok (.putfield 79, 3) := by decide +kernel
theorem dX6_init_173 : decode cX6_init 173 = .ok (.aload_n 0, 1) := by decide +kernel
theorem dX6_init_174 : decode cX6_init 174 = .ok (.sipush 900, 3) := by decide +kernel
theorem dX6_init_177 : decode cX6_init 177 = .ok (.newarray .int, 2) := by decide +kernel
theorem dX6_init_179 : decode cX6_init 179 = .ok (.putfield 82, 3) := by decide +kernel
theorem dX6_init_182 : decode cX6_init 182 = .ok (.aload_n 0, 1) := by decide +kernel
theorem dX6_init_183 : decode cX6_init 183 = .ok (.bipush 12, 2) := by decide +kernel
theorem dX6_init_185 : decode cX6_init 185 = .ok (.newarray .int, 2) := by decide +kernel
theorem dX6_init_187 : decode cX6_init 187 = .ok (.putfield 85, 3) := by decide +kernel
theorem dX6_init_190 : decode cX6_init 190 = .ok (.return_, 1) := by decide +kernel
theorem dX6_in_0 : decode cX6_in 0 = .ok (.iload_n 0, 1) := by decide +kernel
theorem dX6_in_1 : decode cX6_in 1 = .ok (.iload_n 1, 1) := by decide +kernel
theorem dX6_in_2 : decode cX6_in 2 = .ok (.if_icmp .lt 12, 3) := by decide +kernel
theorem dX6_in_5 : decode cX6_in 5 = .ok (.iload_n 0, 1) := by decide +kernel
theorem dX6_in_6 : decode cX6_in 6 = .ok (.iload_n 2, 1) := by decide +kernel
theorem dX6_in_7 : decode cX6_in 7 = .ok (.if_icmp .gt 7, 3) := by decide +kernel
theorem dX6_in_10 : decode cX6_in 10 = .ok (.iconst 1, 1) := by decide +kernel
theorem dX6_in_11 : decode cX6_in 11 = .ok (.goto 4, 3) := by decide +kernel
theorem dX6_in_14 : decode cX6_in 14 = .ok (.iconst 0, 1) := by decide +kernel
theorem dX6_in_15 : decode cX6_in 15 = .ok (.ireturn, 1) := by decide +kernel
theorem dX6_product_0 : decode cX6_product 0 = .ok (.iconst 0, 1) := by decide +kernel
theorem dX6_product_1 : decode cX6_product 1 = .ok (.istore_n 2, 1) := by decide +kernel
theorem dX6_product_2 : decode cX6_product 2 = .ok (.iload_n 0, 1) := by decide +kernel
theorem dX6_product_3 : decode cX6_product 3 = .ok (.istore_n 3, 1) := by decide +kernel
theorem dX6_product_4 : decode cX6_product 4 = .ok (.iload_n 1, 1) := by decide +kernel
theorem dX6_product_5 : decode cX6_product 5 = .ok (.istore 4, 2) := by decide +kernel
theorem dX6_product_7 : decode cX6_product 7 = .ok (.iload 4, 2) := by decide +kernel
theorem dX6_product_9 : decode cX6_product 9 = .ok (.ifCond .le 41, 3) := by decide +kernel
theorem dX6_product_12 : decode cX6_product 12 = .ok (.iload 4, 2) := by decide +kernel
theorem dX6_product_14 : decode cX6_product 14 = .ok (.iconst 2, 1) := by decide +kernel
theorem dX6_product_15 : decode cX6_product 15 = .ok (.irem, 1) := by decide +kernel
theorem dX6_product_16 : decode cX6_product 16 = .ok (.iconst 1, 1) := by decide +kernel
theorem dX6_product_17 : decode cX6_product 17 = .ok (.if_icmp .ne 7, 3) := by decide +kernel
theorem dX6_product_20 : decode cX6_product 20 = .ok (.iload_n 2, 1) := by decide +kernel
theorem dX6_product_21 : decode cX6_product 21 = .ok (.iload_n 3, 1) := by decide +kernel
theorem dX6_product_22 : decode cX6_product 22 = .ok (.ixor, 1) := by decide +kernel
theorem dX6_product_23 : decode cX6_product 23 = .ok (.istore_n 2, 1) := by decide +kernel
theorem dX6_product_24 : decode cX6_product 24 = .ok (.iload_n 3, 1) := by decide +kernel
theorem dX6_product_25 : decode cX6_product 25 = .ok (.iconst 2, 1) := by decide +kernel
theorem dX6_product_26 : decode cX6_product 26 = .ok (.imul, 1) := by decide +kernel
theorem dX6_product_27 : decode cX6_product 27 = .ok (.istore_n 3, 1) := by decide +kernel
theorem dX6_product_28 : decode cX6_product 28 = .ok (.iload_n 3, 1) := by decide +kernel
theorem dX6_product_29 : decode cX6_product 29 = .ok (.sipush 255, 3) := by decide +kernel
theorem dX6_product_32 : decode cX6_product 32 = .ok (.if_icmp .le 9, 3) := by decide +kernel
theorem dX6_product_35 : decode cX6_product 35 = .ok (.iload_n 3, 1) := by decide +kernel
theorem dX6_product_36 : decode cX6_product 36 = .ok (.sipush 283, 3) := by decide +kernel
theorem dX6_product_39 : decode cX6_product 39 = .ok (.ixor, 1) := by decide +kernel
theorem dX6_product_40 : decode cX6_product 40 = .ok (.istore_n 3, 1) := by decide +kernel
theorem dX6_product_41 : decode cX6_product 41 = .ok (.iload 4, 2) := by decide +kernel
theorem dX6_product_43 : decode cX6_product 43 = .ok (.iconst 2, 1) := by decide +kernel
theorem dX6_product_44 : decode cX6_product 44 = .ok (.idiv, 1) := by decide +kernel
theorem dX6_product_45 : decode cX6_product 45 = .ok (.istore 4, 2) := by decide +kernel
theorem dX6_product_47 : decode cX6_product 47 = .ok (.goto (-40), 3) := by decide +kernel
theorem dX6_product_50 : decode cX6_product 50 = .ok (.iload_n 2, 1) := by decide +kernel
theorem dX6_product_51 : decode cX6_product 51 = .ok (.ireturn, 1) := by decide +kernel
set_option maxRecDepth 20000 in
theorem ggX6_inverseOf_X6_product : GoodIn wsX6_inverseOf wsX6_product := goodIn_r _ [4] (by decide +kernel) (by decide +kernel)
set_option maxRecDepth 20000 in
theorem gX6_inverseOf_X6_product : GoodIn wsX6_inverseOf (va_wsS RX6 91 yX6_product wsX6_product) := goodIn_app (goodIn_of _ (by decide +kernel)) ggX6_inverseOf_X6_product
theorem dX6_inverseOf_0 : decode cX6_inverseOf 0 = .ok (.iconst 1, 1) := by decide +kernel
theorem dX6_inverseOf_1 : decode cX6_inverseOf 1 = .ok (.istore_n 1, 1) := by decide +kernel
theorem dX6_inverseOf_2 : decode cX6_inverseOf 2 = .ok (.iload_n 0, 1) := by decide +kernel
theorem dX6_inverseOf_3 : decode cX6_inverseOf 3 = .ok (.iload_n 1, 1) := by decide +kernel
theorem dX6_inverseOf_4 : decode cX6_inverseOf 4 = .ok (.invokestatic 91, 3) := by decide +kernel
theorem dX6_inverseOf_7 : decode cX6_inverseOf 7 = .ok (.iconst 1, 1) := by decide +kernel
theorem dX6_inverseOf_8 : decode cX6_inverseOf 8 = .ok (.if_icmp .eq 9, 3) := by decide +kernel
theorem dX6_inverseOf_11 : decode cX6_inverseOf 11 = .ok (.iinc 1 1, 3) := by decide +kernel
theorem dX6_inverseOf_14 : decode cX6_inverseOf 14 = .ok (.goto (-12), 3) := by decide +kernel
theorem dX6_inverseOf_17 : decode cX6_inverseOf 17 = .ok (.iload_n 1, 1) := by decide +kernel
theorem dX6_inverseOf_18 : decode cX6_inverseOf 18 = .ok (.ireturn, 1) := by decide +kernel
set_option maxRecDepth 20000 in
theorem ggX6_product__X6_product : GoodIn wsX6_product_ wsX6_product := goodIn_r _ [5] (by decide +kernel) (by decide +kernel)
set_option maxRecDepth 20000 in
theorem gX6_product__X6_product : GoodIn wsX6_product_ (va_wsS RX6 91 yX6_product wsX6_product) := goodIn_app (goodIn_of _ (by decide +kernel)) ggX6_product__X6_product
theorem dX6_product__0 : decode cX6_product_ 0 = .ok (.lconst 0, 1) := by decide +kernel
theorem dX6_product__1 : decode cX6_product_ 1 = .ok (.lstore_n 3, 1) := by decide +kernel
theorem dX6_product__2 : decode cX6_product_ 2 = .ok (.iconst 0, 1) := by decide +kernel
theorem dX6_product__3 : decode cX6_product_ 3 = .ok (.istore 5, 2) := by decide +kernel
theorem dX6_product__5 : decode cX6_product_ 5 = .ok (.iload 5, 2) := by decide +kernel
theorem dX6_product__7 : decode cX6_product_ 7 = .ok (.bipush 64, 2) := by decide +kernel
theorem dX6_product__9 : decode cX6_product_ 9 = .ok (.if_icmp .ge 29, 3) := by decide +kernel
theorem dX6_product__12 : decode cX6_product_ 12 = .ok (.lload_n 3, 1) := by decide +kernel
theorem dX6_product__13 : decode cX6_product_ 13 = .ok (.iload_n 0, 1) := by decide +kernel
theorem dX6_product__14 : decode cX6_product_ 14 = .ok (.lload_n 1, 1) := by decide +kernel
theorem dX6_product__15 : decode cX6_product_ 15 = .ok (.iload 5, 2) := by decide +kernel
theorem dX6_product__17 : decode cX6_product_ 17 = .ok (.lshr, 1) := by decide +kernel
theorem dX6_product__18 : decode cX6_product_ 18 = .ok (.ldc2_w 95, 3) := by decide +kernel
theorem dX6_product__21 : decode cX6_product_ 21 = .ok (.land, 1) := by decide +kernel
theorem dX6_product__22 : decode cX6_product_ 22 = .ok (.l2i, 1) := by decide +kernel
theorem dX6_product__23 : decode cX6_product_ 23 = .ok (.invokestatic 91, 3) := by decide +kernel
theorem dX6_product__26 : decode cX6_product_ 26 = .ok (.i2l, 1) := by decide +kernel
theorem dX6_product__27 : decode cX6_product_ 27 = .ok (.iload 5, 2) := by decide +kernel
theorem dX6_product__29 : decode cX6_product_ 29 = .ok (.lshl, 1) := by decide +kernel
theorem dX6_product__30 : decode cX6_product_ 30 = .ok (.lor, 1) := by decide +kernel
theorem dX6_product__31 : decode cX6_product_ 31 = .ok (.lstore_n 3, 1) := by decide +kernel
theorem dX6_product__32 : decode cX6_product_ 32 = .ok (.iinc 5 8, 3) := by decide +kernel
theorem dX6_product__35 : decode cX6_product_ 35 = .ok (.goto (-30), 3) := by decide +kernel
theorem dX6_product__38 : decode cX6_product_ 38 = .ok (.lload_n 3, 1) := by decide +kernel
theorem dX6_product__39 : decode cX6_product_ 39 = .ok (.lreturn, 1) := by decide +kernel
set_option maxRecDepth 20000 in
theorem ggX6_times_X6_in : GoodIn wsX6_times wsX6_in := goodIn_r _ [4] (by decide +kernel) (by decide +kernel)
set_option maxRecDepth 20000 in
theorem gX6_times_X6_in : GoodIn wsX6_times (va_wsS RX6 97 yX6_in wsX6_in) := goodIn_app (goodIn_of _ (by decide +kernel)) ggX6_times_X6_in
set_option maxRecDepth 20000 in
theorem ggX6_times_X6_product : GoodIn wsX6_times wsX6_product := goodIn_r _ [7] (by decide +kernel) (by decide +kernel)
set_option maxRecDepth 20000 in
theorem gX6_times_X6_product : GoodIn wsX6_times (va_wsS RX6 91 yX6_product wsX6_product) := goodIn_app (goodIn_of _ (by decide +kernel)) ggX6_times_X6_product
theorem dX6_times_0 : decode cX6_times 0 = .ok (.iload_n 1, 1) := by decide +kernel
theorem dX6_times_1 : decode cX6_times 1 = .ok (.iconst 0, 1) := by decide +kernel
theorem dX6_times_2 : decode cX6_times 2 = .ok (.sipush 255, 3) := by decide +kernel
theorem dX6_times_5 : decode cX6_times 5 = .ok (.invokestatic 97, 3) := by decide +kernel
theorem dX6_times_8 : decode cX6_times 8 = .ok (.ifCond .eq 22, 3) := by decide +kernel
theorem dX6_times_11 : decode cX6_times 11 = .ok (.iload_n 2, 1) := by decide +kernel
theorem dX6_times_12 : decode cX6_times 12 = .ok (.iconst 0, 1) := by decide +kernel
theorem dX6_times_13 : decode cX6_times 13 = .ok (.sipush 255, 3) := by decide +kernel
theorem dX6_times_16 : decode cX6_times 16 = .ok (.invokestatic 97, 3) := by decide +kernel
theorem dX6_times_19 : decode cX6_times 19 = .ok (.ifCond .eq 11, 3) := by decide +kernel
theorem dX6_times_22 : decode cX6_times 22 = .ok (.iload_n 1, 1) := by decide +kernel
theorem dX6_times_23 : decode cX6_times 23 = .ok (.iload_n 2, 1) := by decide +kernel
theorem dX6_times_24 : decode cX6_times 24 = .ok (.invokestatic 91, 3) := by decide +kernel
theorem dX6_times_27 : decode cX6_times 27 = .ok (.goto 5, 3) := by decide +kernel
theorem dX6_times_30 : decode cX6_times 30 = .ok (.bipush (-2), 2) := by decide +kernel
theorem dX6_times_32 : decode cX6_times 32 = .ok (.ireturn, 1) := by decide +kernel
set_option maxRecDepth 20000 in
theorem ggX6_inverse_X6_in : GoodIn wsX6_inverse wsX6_in := goodIn_r _ [4] (by decide +kernel) (by decide +kernel)
set_option maxRecDepth 20000 in
theorem gX6_inverse_X6_in : GoodIn wsX6_inverse (va_wsS RX6 97 yX6_in wsX6_in) := goodIn_app (goodIn_of _ (by decide +kernel)) ggX6_inverse_X6_in
set_option maxRecDepth 20000 in
theorem ggX6_inverse_X6_inverseOf : GoodIn wsX6_inverse wsX6_inverseOf := goodIn_r _ [7, 8, 9, 3, 10] (by decide +kernel) (by decide +kernel)
set_option maxRecDepth 20000 in
theorem gX6_inverse_X6_inverseOf : GoodIn wsX6_inverse (va_wsS RX6 101 yX6_inverseOf wsX6_inverseOf) := goodIn_app (goodIn_of _ (by decide +kernel)) ggX6_inverse_X6_inverseOf
theorem dX6_inverse_0 : decode cX6_inverse 0 = .ok (.iload_n 1, 1) := by decide +kernel
theorem dX6_inverse_1 : decode cX6_inverse 1 = .ok (.iconst 1, 1) := by decide +kernel
theorem dX6_inverse_2 : decode cX6_inverse 2 = .ok (.sipush 255, 3) := by decide +kernel
theorem dX6_inverse_5 : decode cX6_inverse 5 = .ok (.invokestatic 97, 3) := by decide +kernel
theorem dX6_inverse_8 : decode cX6_inverse 8 = .ok (.ifCond .eq 10, 3) := by decide +kernel
theorem dX6_inverse_11 : decode cX6_inverse 11 = .ok (.iload_n 1, 1) := by decide +kernel
theorem dX6_inverse_12 : decode cX6_inverse 12 = .ok (.invokestatic 101, 3) := by decide +kernel
theorem dX6_inverse_15 : decode cX6_inverse 15 = .ok (.goto 5, 3) := by decide +kernel
theorem dX6_inverse_18 : decode cX6_inverse 18 = .ok (.bipush (-2), 2) := by decide +kernel
theorem dX6_inverse_20 : decode cX6_inverse 20 = .ok (.ireturn, 1) := by decide +kernel
set_option maxRecDepth 20000 in
theorem ggX6_isRelay_X6_in : GoodIn wsX6_isRelay wsX6_in := goodIn_r _ [5] (by decide +kernel) (by decide +kernel)
set_option maxRecDepth 20000 in
theorem gX6_isRelay_X6_in : GoodIn wsX6_isRelay (va_wsS RX6 97 yX6_in wsX6_in) := goodIn_app (goodIn_of _ (by decide +kernel)) ggX6_isRelay_X6_in
theorem dX6_isRelay_0 : decode cX6_isRelay 0 = .ok (.iload_n 1, 1) := by decide +kernel
theorem dX6_isRelay_1 : decode cX6_isRelay 1 = .ok (.iconst 0, 1) := by decide +kernel
theorem dX6_isRelay_2 : decode cX6_isRelay 2 = .ok (.aload_n 0, 1) := by decide +kernel
theorem dX6_isRelay_3 : decode cX6_isRelay 3 = .ok (.getfield 7, 3) := by decide +kernel
theorem dX6_isRelay_6 : decode cX6_isRelay 6 = .ok (.iconst 1, 1) := by decide +kernel
theorem dX6_isRelay_7 : decode cX6_isRelay 7 = .ok (.isub, 1) := by decide +kernel
theorem dX6_isRelay_8 : decode cX6_isRelay 8 = .ok (.invokestatic 97, 3) := by decide +kernel
theorem dX6_isRelay_11 : decode cX6_isRelay 11 = .ok (.ireturn, 1) := by decide +kernel
set_option maxRecDepth 20000 in
theorem ggX6_isLine_X6_in : GoodIn wsX6_isLine wsX6_in := goodIn_r _ [5] (by decide +kernel) (by decide +kernel)
set_option maxRecDepth 20000 in
theorem gX6_isLine_X6_in : GoodIn wsX6_isLine (va_wsS RX6 97 yX6_in wsX6_in) := goodIn_app (goodIn_of _ (by decide +kernel)) ggX6_isLine_X6_in
theorem dX6_isLine_0 : decode cX6_isLine 0 = .ok (.iload_n 1, 1) := by decide +kernel
theorem dX6_isLine_1 : decode cX6_isLine 1 = .ok (.iconst 0, 1) := by decide +kernel
theorem dX6_isLine_2 : decode cX6_isLine 2 = .ok (.aload_n 0, 1) := by decide +kernel
theorem dX6_isLine_3 : decode cX6_isLine 3 = .ok (.getfield 105, 3) := by decide +kernel
theorem dX6_isLine_6 : decode cX6_isLine 6 = .ok (.iconst 1, 1) := by decide +kernel
theorem dX6_isLine_7 : decode cX6_isLine 7 = .ok (.isub, 1) := by decide +kernel
theorem dX6_isLine_8 : decode cX6_isLine 8 = .ok (.invokestatic 97, 3) := by decide +kernel
theorem dX6_isLine_11 : decode cX6_isLine 11 = .ok (.ireturn, 1) := by decide +kernel
theorem dX6_waysIn_0 : decode cX6_waysIn 0 = .ok (.iconst 0, 1) := by decide +kernel
theorem dX6_waysIn_1 : decode cX6_waysIn 1 = .ok (.istore_n 2, 1) := by decide +kernel
theorem dX6_waysIn_2 : decode cX6_waysIn 2 = .ok (.iconst 0, 1) := by decide +kernel
theorem dX6_waysIn_3 : decode cX6_waysIn 3 = .ok (.istore_n 3, 1) := by decide +kernel
theorem dX6_waysIn_4 : decode cX6_waysIn 4 = .ok (.iload_n 3, 1) := by decide +kernel
theorem dX6_waysIn_5 : decode cX6_waysIn 5 = .ok (.aload_n 0, 1) := by decide +kernel
theorem dX6_waysIn_6 : decode cX6_waysIn 6 = .ok (.getfield 105, 3) := by decide +kernel
theorem dX6_waysIn_9 : decode cX6_waysIn 9 = .ok (.if_icmp .ge 27, 3) := by decide +kernel
theorem dX6_waysIn_12 : decode cX6_waysIn 12 = .ok (.iload_n 2, 1) := by decide +kernel
theorem dX6_waysIn_13 : decode cX6_waysIn 13 = .ok (.aload_n 0, 1) := by decide +kernel
theorem dX6_waysIn_14 : decode cX6_waysIn 14 = .ok (.getfield 28, 3) := by decide +kernel
theorem dX6_waysIn_17 : decode cX6_waysIn 17 = .ok (.iload_n 3, 1) := by decide +kernel
theorem dX6_waysIn_18 : decode cX6_waysIn 18 = .ok (.iaload, 1) := by decide +kernel
theorem dX6_waysIn_19 : decode cX6_waysIn 19 = .ok (.iload_n 1, 1) := by decide +kernel
theorem dX6_waysIn_20 : decode cX6_waysIn 20 = .ok (.if_icmp .ne 7, 3) := by decide +kernel
theorem dX6_waysIn_23 : decode cX6_waysIn 23 = .ok (.iconst 1, 1) := by decide +kernel
theorem dX6_waysIn_24 : decode cX6_waysIn 24 = .ok (.goto 4, 3) := by decide +kernel
theorem dX6_waysIn_27 : decode cX6_waysIn 27 = .ok (.iconst 0, 1) := by decide +kernel
theorem dX6_waysIn_28 : decode cX6_waysIn 28 = .ok (.iadd, 1) := by decide +kernel
theorem dX6_waysIn_29 : decode cX6_waysIn 29 = .ok (.istore_n 2, 1) := by decide +kernel
theorem dX6_waysIn_30 : decode cX6_waysIn 30 = .ok (.iinc 3 1, 3) := by decide +kernel
theorem dX6_waysIn_33 : decode cX6_waysIn 33 = .ok (.goto (-29), 3) := by decide +kernel
theorem dX6_waysIn_36 : decode cX6_waysIn 36 = .ok (.iload_n 2, 1) := by decide +kernel
theorem dX6_waysIn_37 : decode cX6_waysIn 37 = .ok (.ireturn, 1) := by decide +kernel
set_option maxRecDepth 20000 in
theorem ggX6_ins_X6_waysIn : GoodIn wsX6_ins wsX6_waysIn := goodIn_r _ [7, 8, 9, 10, 11, 12, 13, 14, 15, 16, 17, 18, 19, 20, 21, 22, 23, 24, 25, 26, 27, 28, 29, 30, 31, 32, 33, 34, 35, 36, 37, 38, 39, 40] (by decide +kernel) (by decide +kernel)
set_option maxRecDepth 20000 in
theorem gX6_ins_X6_waysIn : GoodIn wsX6_ins (wsV RX6 108 RX6 yX6_waysIn wsX6_waysIn) := goodIn_app (goodIn_of _ (by decide +kernel)) ggX6_ins_X6_waysIn
theorem dX6_ins_0 : decode cX6_ins 0 = .ok (.aload_n 0, 1) := by decide +kernel
theorem dX6_ins_1 : decode cX6_ins 1 = .ok (.getfield 24, 3) := by decide +kernel
theorem dX6_ins_4 : decode cX6_ins 4 = .ok (.iload_n 1, 1) := by decide +kernel
theorem dX6_ins_5 : decode cX6_ins 5 = .ok (.iaload, 1) := by decide +kernel
theorem dX6_ins_6 : decode cX6_ins 6 = .ok (.ifCond .ne 10, 3) := by decide +kernel
theorem dX6_ins_9 : decode cX6_ins 9 = .ok (.aload_n 0, 1) := by decide +kernel
theorem dX6_ins_10 : decode cX6_ins 10 = .ok (.getfield 13, 3) := by decide +kernel
theorem dX6_ins_13 : decode cX6_ins 13 = .ok (.goto 13, 3) := by decide +kernel
theorem dX6_ins_16 : decode cX6_ins 16 = .ok (.aload_n 0, 1) := by decide +kernel
theorem dX6_ins_17 : decode cX6_ins 17 = .ok (.aload_n 0, 1) := by decide +kernel
theorem dX6_ins_18 : decode cX6_ins 18 = .ok (.getfield 24, 3) := by decide +kernel
theorem dX6_ins_21 : decode cX6_ins 21 = .ok (.iload_n 1, 1) := by decide +kernel
theorem dX6_ins_22 : decode cX6_ins 22 = .ok (.iaload, 1) := by decide +kernel
theorem dX6_ins_23 : decode cX6_ins 23 = .ok (.invokevirtual 108, 3) := by decide +kernel
theorem dX6_ins_26 : decode cX6_ins 26 = .ok (.ireturn, 1) := by decide +kernel
theorem dX6_lineIn_0 : decode cX6_lineIn 0 = .ok (.iload_n 2, 1) := by decide +kernel
theorem dX6_lineIn_1 : decode cX6_lineIn 1 = .ok (.istore_n 3, 1) := by decide +kernel
theorem dX6_lineIn_2 : decode cX6_lineIn 2 = .ok (.iconst 0, 1) := by decide +kernel
theorem dX6_lineIn_3 : decode cX6_lineIn 3 = .ok (.istore 4, 2) := by decide +kernel
theorem dX6_lineIn_5 : decode cX6_lineIn 5 = .ok (.iload 4, 2) := by decide +kernel
theorem dX6_lineIn_7 : decode cX6_lineIn 7 = .ok (.aload_n 0, 1) := by decide +kernel
theorem dX6_lineIn_8 : decode cX6_lineIn 8 = .ok (.getfield 105, 3) := by decide +kernel
theorem dX6_lineIn_11 : decode cX6_lineIn 11 = .ok (.if_icmp .ge 33, 3) := by decide +kernel
theorem dX6_lineIn_14 : decode cX6_lineIn 14 = .ok (.aload_n 0, 1) := by decide +kernel
theorem dX6_lineIn_15 : decode cX6_lineIn 15 = .ok (.getfield 28, 3) := by decide +kernel
theorem dX6_lineIn_18 : decode cX6_lineIn 18 = .ok (.iload 4, 2) := by decide +kernel
theorem dX6_lineIn_20 : decode cX6_lineIn 20 = .ok (.iaload, 1) := by decide +kernel
theorem dX6_lineIn_21 : decode cX6_lineIn 21 = .ok (.iload_n 1, 1) := by decide +kernel
theorem dX6_lineIn_22 : decode cX6_lineIn 22 = .ok (.if_icmp .eq 6, 3) := by decide +kernel
theorem dX6_lineIn_25 : decode cX6_lineIn 25 = .ok (.goto 13, 3) := by decide +kernel
theorem dX6_lineIn_28 : decode cX6_lineIn 28 = .ok (.iload_n 3, 1) := by decide +kernel
theorem dX6_lineIn_29 : decode cX6_lineIn 29 = .ok (.ifCond .ne 6, 3) := by decide +kernel
theorem dX6_lineIn_32 : decode cX6_lineIn 32 = .ok (.iload 4, 2) := by decide +kernel
theorem dX6_lineIn_34 : decode cX6_lineIn 34 = .ok (.ireturn, 1) := by decide +kernel
theorem dX6_lineIn_35 : decode cX6_lineIn 35 = .ok (.iinc 3 (-1), 3) := by decide +kernel
theorem dX6_lineIn_38 : decode cX6_lineIn 38 = .ok (.iinc 4 1, 3) := by decide +kernel
theorem dX6_lineIn_41 : decode cX6_lineIn 41 = .ok (.goto (-36), 3) := by decide +kernel
end
section
theorem dX6_lineIn_44 : decode cX6_lineIn 44 = .ok (.iconst (-1), 1) := by decide +kernel
theorem dX6_lineIn_45 : decode cX6_lineIn 45 = .ok (.ireturn, 1) := by decide +kernel
theorem dX6_relay_0 : decode cX6_relay 0 = .ok (.aload_n 0, 1) := by decide +kernel
theorem dX6_relay_1 : decode cX6_relay 1 = .ok (.getfield 7, 3) := by decide +kernel
theorem dX6_relay_4 : decode cX6_relay 4 = .ok (.bipush 12, 2) := by decide +kernel
theorem dX6_relay_6 : decode cX6_relay 6 = .ok (.if_icmp .ne 6, 3) := by decide +kernel
theorem dX6_relay_9 : decode cX6_relay 9 = .ok (.bipush (-4), 2) := by decide +kernel
theorem dX6_relay_11 : decode cX6_relay 11 = .ok (.ireturn, 1) := by decide +kernel
theorem dX6_relay_12 : decode cX6_relay 12 = .ok (.aload_n 0, 1) := by decide +kernel
theorem dX6_relay_13 : decode cX6_relay 13 = .ok (.dup, 1) := by decide +kernel
theorem dX6_relay_14 : decode cX6_relay 14 = .ok (.getfield 7, 3) := by decide +kernel
theorem dX6_relay_17 : decode cX6_relay 17 = .ok (.iconst 1, 1) := by decide +kernel
theorem dX6_relay_18 : decode cX6_relay 18 = .ok (.iadd, 1) := by decide +kernel
theorem dX6_relay_19 : decode cX6_relay 19 = .ok (.putfield 7, 3) := by decide +kernel
theorem dX6_relay_22 : decode cX6_relay 22 = .ok (.aload_n 0, 1) := by decide +kernel
theorem dX6_relay_23 : decode cX6_relay 23 = .ok (.getfield 7, 3) := by decide +kernel
theorem dX6_relay_26 : decode cX6_relay 26 = .ok (.iconst 1, 1) := by decide +kernel
theorem dX6_relay_27 : decode cX6_relay 27 = .ok (.isub, 1) := by decide +kernel
theorem dX6_relay_28 : decode cX6_relay 28 = .ok (.ireturn, 1) := by decide +kernel
set_option maxRecDepth 20000 in
theorem ggX6_line_X6_isRelay : GoodIn wsX6_line wsX6_isRelay := goodIn_r _ [8, 9, 10, 11, 7, 12, 13, 14, 15, 16, 17, 18, 19, 20, 21, 22, 23, 24, 25, 26, 27, 28, 29, 30, 31, 32, 33, 34, 35, 36, 37, 38, 39, 40, 41, 42, 43] (by decide +kernel) (by decide +kernel)
set_option maxRecDepth 20000 in
theorem gX6_line_X6_isRelay : GoodIn wsX6_line (wsV RX6 111 RX6 yX6_isRelay wsX6_isRelay) := goodIn_app (goodIn_of _ (by decide +kernel)) ggX6_line_X6_isRelay
theorem dX6_line_0 : decode cX6_line 0 = .ok (.aload_n 0, 1) := by decide +kernel
theorem dX6_line_1 : decode cX6_line 1 = .ok (.iload_n 1, 1) := by decide +kernel
theorem dX6_line_2 : decode cX6_line 2 = .ok (.invokevirtual 111, 3) := by decide +kernel
theorem dX6_line_5 : decode cX6_line 5 = .ok (.ifCond .eq 11, 3) := by decide +kernel
theorem dX6_line_8 : decode cX6_line 8 = .ok (.aload_n 0, 1) := by decide +kernel
theorem dX6_line_9 : decode cX6_line 9 = .ok (.iload_n 2, 1) := by decide +kernel
theorem dX6_line_10 : decode cX6_line 10 = .ok (.invokevirtual 111, 3) := by decide +kernel
theorem dX6_line_13 : decode cX6_line 13 = .ok (.ifCond .ne 5, 3) := by decide +kernel
theorem dX6_line_16 : decode cX6_line 16 = .ok (.iconst (-1), 1) := by decide +kernel
theorem dX6_line_17 : decode cX6_line 17 = .ok (.ireturn, 1) := by decide +kernel
theorem dX6_line_18 : decode cX6_line 18 = .ok (.iload_n 2, 1) := by decide +kernel
theorem dX6_line_19 : decode cX6_line 19 = .ok (.iload_n 1, 1) := by decide +kernel
theorem dX6_line_20 : decode cX6_line 20 = .ok (.if_icmp .gt 6, 3) := by decide +kernel
theorem dX6_line_23 : decode cX6_line 23 = .ok (.bipush (-2), 2) := by decide +kernel
theorem dX6_line_25 : decode cX6_line 25 = .ok (.ireturn, 1) := by decide +kernel
theorem dX6_line_26 : decode cX6_line 26 = .ok (.aload_n 0, 1) := by decide +kernel
theorem dX6_line_27 : decode cX6_line 27 = .ok (.getfield 105, 3) := by decide +kernel
theorem dX6_line_30 : decode cX6_line 30 = .ok (.bipush 30, 2) := by decide +kernel
theorem dX6_line_32 : decode cX6_line 32 = .ok (.if_icmp .ne 6, 3) := by decide +kernel
theorem dX6_line_35 : decode cX6_line 35 = .ok (.bipush (-4), 2) := by decide +kernel
theorem dX6_line_37 : decode cX6_line 37 = .ok (.ireturn, 1) := by decide +kernel
theorem dX6_line_38 : decode cX6_line 38 = .ok (.aload_n 0, 1) := by decide +kernel
theorem dX6_line_39 : decode cX6_line 39 = .ok (.getfield 24, 3) := by decide +kernel
theorem dX6_line_42 : decode cX6_line 42 = .ok (.aload_n 0, 1) := by decide +kernel
theorem dX6_line_43 : decode cX6_line 43 = .ok (.getfield 105, 3) := by decide +kernel
theorem dX6_line_46 : decode cX6_line 46 = .ok (.iload_n 1, 1) := by decide +kernel
theorem dX6_line_47 : decode cX6_line 47 = .ok (.iastore, 1) := by decide +kernel
theorem dX6_line_48 : decode cX6_line 48 = .ok (.aload_n 0, 1) := by decide +kernel
theorem dX6_line_49 : decode cX6_line 49 = .ok (.getfield 28, 3) := by decide +kernel
theorem dX6_line_52 : decode cX6_line 52 = .ok (.aload_n 0, 1) := by decide +kernel
theorem dX6_line_53 : decode cX6_line 53 = .ok (.getfield 105, 3) := by decide +kernel
theorem dX6_line_56 : decode cX6_line 56 = .ok (.iload_n 2, 1) := by decide +kernel
theorem dX6_line_57 : decode cX6_line 57 = .ok (.iastore, 1) := by decide +kernel
theorem dX6_line_58 : decode cX6_line 58 = .ok (.aload_n 0, 1) := by decide +kernel
theorem dX6_line_59 : decode cX6_line 59 = .ok (.dup, 1) := by decide +kernel
theorem dX6_line_60 : decode cX6_line 60 = .ok (.getfield 105, 3) := by decide +kernel
theorem dX6_line_63 : decode cX6_line 63 = .ok (.iconst 1, 1) := by decide +kernel
theorem dX6_line_64 : decode cX6_line 64 = .ok (.iadd, 1) := by decide +kernel
theorem dX6_line_65 : decode cX6_line 65 = .ok (.putfield 105, 3) := by decide +kernel
theorem dX6_line_68 : decode cX6_line 68 = .ok (.aload_n 0, 1) := by decide +kernel
theorem dX6_line_69 : decode cX6_line 69 = .ok (.getfield 105, 3) := by decide +kernel
theorem dX6_line_72 : decode cX6_line 72 = .ok (.iconst 1, 1) := by decide +kernel
theorem dX6_line_73 : decode cX6_line 73 = .ok (.isub, 1) := by decide +kernel
theorem dX6_line_74 : decode cX6_line 74 = .ok (.ireturn, 1) := by decide +kernel
set_option maxRecDepth 20000 in
theorem ggX6_pieces_X6_in : GoodIn wsX6_pieces wsX6_in := goodIn_r _ [7] (by decide +kernel) (by decide +kernel)
set_option maxRecDepth 20000 in
theorem gX6_pieces_X6_in : GoodIn wsX6_pieces (va_wsS RX6 97 yX6_in wsX6_in) := goodIn_app (goodIn_of _ (by decide +kernel)) ggX6_pieces_X6_in
theorem dX6_pieces_0 : decode cX6_pieces 0 = .ok (.iload_n 1, 1) := by decide +kernel
theorem dX6_pieces_1 : decode cX6_pieces 1 = .ok (.iconst 1, 1) := by decide +kernel
theorem dX6_pieces_2 : decode cX6_pieces 2 = .ok (.iconst 4, 1) := by decide +kernel
theorem dX6_pieces_3 : decode cX6_pieces 3 = .ok (.invokestatic 97, 3) := by decide +kernel
theorem dX6_pieces_6 : decode cX6_pieces 6 = .ok (.ifCond .ne 6, 3) := by decide +kernel
theorem dX6_pieces_9 : decode cX6_pieces 9 = .ok (.bipush (-2), 2) := by decide +kernel
theorem dX6_pieces_11 : decode cX6_pieces 11 = .ok (.ireturn, 1) := by decide +kernel
theorem dX6_pieces_12 : decode cX6_pieces 12 = .ok (.aload_n 0, 1) := by decide +kernel
theorem dX6_pieces_13 : decode cX6_pieces 13 = .ok (.getfield 105, 3) := by decide +kernel
theorem dX6_pieces_16 : decode cX6_pieces 16 = .ok (.ifCond .le 6, 3) := by decide +kernel
theorem dX6_pieces_19 : decode cX6_pieces 19 = .ok (.bipush (-3), 2) := by decide +kernel
theorem dX6_pieces_21 : decode cX6_pieces 21 = .ok (.ireturn, 1) := by decide +kernel
theorem dX6_pieces_22 : decode cX6_pieces 22 = .ok (.aload_n 0, 1) := by decide +kernel
theorem dX6_pieces_23 : decode cX6_pieces 23 = .ok (.getfield 13, 3) := by decide +kernel
theorem dX6_pieces_26 : decode cX6_pieces 26 = .ok (.istore_n 2, 1) := by decide +kernel
theorem dX6_pieces_27 : decode cX6_pieces 27 = .ok (.aload_n 0, 1) := by decide +kernel
theorem dX6_pieces_28 : decode cX6_pieces 28 = .ok (.iload_n 1, 1) := by decide +kernel
theorem dX6_pieces_29 : decode cX6_pieces 29 = .ok (.putfield 13, 3) := by decide +kernel
theorem dX6_pieces_32 : decode cX6_pieces 32 = .ok (.iconst 0, 1) := by decide +kernel
theorem dX6_pieces_33 : decode cX6_pieces 33 = .ok (.istore_n 3, 1) := by decide +kernel
theorem dX6_pieces_34 : decode cX6_pieces 34 = .ok (.iload_n 3, 1) := by decide +kernel
theorem dX6_pieces_35 : decode cX6_pieces 35 = .ok (.iconst 4, 1) := by decide +kernel
theorem dX6_pieces_36 : decode cX6_pieces 36 = .ok (.if_icmp .ge 16, 3) := by decide +kernel
theorem dX6_pieces_39 : decode cX6_pieces 39 = .ok (.aload_n 0, 1) := by decide +kernel
theorem dX6_pieces_40 : decode cX6_pieces 40 = .ok (.getfield 16, 3) := by decide +kernel
theorem dX6_pieces_43 : decode cX6_pieces 43 = .ok (.iload_n 3, 1) := by decide +kernel
theorem dX6_pieces_44 : decode cX6_pieces 44 = .ok (.lconst 0, 1) := by decide +kernel
theorem dX6_pieces_45 : decode cX6_pieces 45 = .ok (.lastore, 1) := by decide +kernel
theorem dX6_pieces_46 : decode cX6_pieces 46 = .ok (.iinc 3 1, 3) := by decide +kernel
theorem dX6_pieces_49 : decode cX6_pieces 49 = .ok (.goto (-15), 3) := by decide +kernel
theorem dX6_pieces_52 : decode cX6_pieces 52 = .ok (.iload_n 2, 1) := by decide +kernel
theorem dX6_pieces_53 : decode cX6_pieces 53 = .ok (.ireturn, 1) := by decide +kernel
set_option maxRecDepth 20000 in
theorem ggX6_piece_X6_in : GoodIn wsX6_piece wsX6_in := goodIn_r _ [6] (by decide +kernel) (by decide +kernel)
set_option maxRecDepth 20000 in
theorem gX6_piece_X6_in : GoodIn wsX6_piece (va_wsS RX6 97 yX6_in wsX6_in) := goodIn_app (goodIn_of _ (by decide +kernel)) ggX6_piece_X6_in
theorem dX6_piece_0 : decode cX6_piece 0 = .ok (.iload_n 1, 1) := by decide +kernel
theorem dX6_piece_1 : decode cX6_piece 1 = .ok (.iconst 0, 1) := by decide +kernel
theorem dX6_piece_2 : decode cX6_piece 2 = .ok (.aload_n 0, 1) := by decide +kernel
theorem dX6_piece_3 : decode cX6_piece 3 = .ok (.getfield 13, 3) := by decide +kernel
theorem dX6_piece_6 : decode cX6_piece 6 = .ok (.iconst 1, 1) := by decide +kernel
theorem dX6_piece_7 : decode cX6_piece 7 = .ok (.isub, 1) := by decide +kernel
theorem dX6_piece_8 : decode cX6_piece 8 = .ok (.invokestatic 97, 3) := by decide +kernel
theorem dX6_piece_11 : decode cX6_piece 11 = .ok (.ifCond .ne 5, 3) := by decide +kernel
theorem dX6_piece_14 : decode cX6_piece 14 = .ok (.iconst (-1), 1) := by decide +kernel
theorem dX6_piece_15 : decode cX6_piece 15 = .ok (.ireturn, 1) := by decide +kernel
theorem dX6_piece_16 : decode cX6_piece 16 = .ok (.aload_n 0, 1) := by decide +kernel
theorem dX6_piece_17 : decode cX6_piece 17 = .ok (.getfield 16, 3) := by decide +kernel
theorem dX6_piece_20 : decode cX6_piece 20 = .ok (.iload_n 1, 1) := by decide +kernel
theorem dX6_piece_21 : decode cX6_piece 21 = .ok (.lload_n 2, 1) := by decide +kernel
theorem dX6_piece_22 : decode cX6_piece 22 = .ok (.lastore, 1) := by decide +kernel
theorem dX6_piece_23 : decode cX6_piece 23 = .ok (.iconst 0, 1) := by decide +kernel
theorem dX6_piece_24 : decode cX6_piece 24 = .ok (.ireturn, 1) := by decide +kernel
set_option maxRecDepth 20000 in
theorem ggX6_end_X6_isRelay : GoodIn wsX6_end wsX6_isRelay := goodIn_r _ [6, 7, 8, 9, 5, 10, 11, 12, 13, 14, 15, 16, 17, 18, 19, 20, 21, 22, 23, 24, 25, 26, 27, 28, 29, 30, 31, 32, 33, 34, 35, 36, 37, 38, 39, 40, 41] (by decide +kernel) (by decide +kernel)
set_option maxRecDepth 20000 in
theorem gX6_end_X6_isRelay : GoodIn wsX6_end (wsV RX6 111 RX6 yX6_isRelay wsX6_isRelay) := goodIn_app (goodIn_of _ (by decide +kernel)) ggX6_end_X6_isRelay
set_option maxRecDepth 20000 in
theorem ggX6_end_X6_in : GoodIn wsX6_end wsX6_in := goodIn_r _ [10] (by decide +kernel) (by decide +kernel)
set_option maxRecDepth 20000 in
theorem gX6_end_X6_in : GoodIn wsX6_end (va_wsS RX6 97 yX6_in wsX6_in) := goodIn_app (goodIn_of _ (by decide +kernel)) ggX6_end_X6_in
theorem dX6_end_0 : decode cX6_end 0 = .ok (.aload_n 0, 1) := by decide +kernel
theorem dX6_end_1 : decode cX6_end 1 = .ok (.iload_n 1, 1) := by decide +kernel
theorem dX6_end_2 : decode cX6_end 2 = .ok (.invokevirtual 111, 3) := by decide +kernel
theorem dX6_end_5 : decode cX6_end 5 = .ok (.ifCond .ne 5, 3) := by decide +kernel
theorem dX6_end_8 : decode cX6_end 8 = .ok (.iconst (-1), 1) := by decide +kernel
theorem dX6_end_9 : decode cX6_end 9 = .ok (.ireturn, 1) := by decide +kernel
theorem dX6_end_10 : decode cX6_end 10 = .ok (.iload_n 2, 1) := by decide +kernel
theorem dX6_end_11 : decode cX6_end 11 = .ok (.iconst 0, 1) := by decide +kernel
theorem dX6_end_12 : decode cX6_end 12 = .ok (.iconst 1, 1) := by decide +kernel
theorem dX6_end_13 : decode cX6_end 13 = .ok (.invokestatic 97, 3) := by decide +kernel
theorem dX6_end_16 : decode cX6_end 16 = .ok (.ifCond .eq 7, 3) := by decide +kernel
theorem dX6_end_19 : decode cX6_end 19 = .ok (.iload_n 1, 1) := by decide +kernel
theorem dX6_end_20 : decode cX6_end 20 = .ok (.ifCond .ne 6, 3) := by decide +kernel
theorem dX6_end_23 : decode cX6_end 23 = .ok (.bipush (-2), 2) := by decide +kernel
theorem dX6_end_25 : decode cX6_end 25 = .ok (.ireturn, 1) := by decide +kernel
theorem dX6_end_26 : decode cX6_end 26 = .ok (.aload_n 0, 1) := by decide +kernel
theorem dX6_end_27 : decode cX6_end 27 = .ok (.getfield 20, 3) := by decide +kernel
theorem dX6_end_30 : decode cX6_end 30 = .ok (.iload_n 1, 1) := by decide +kernel
theorem dX6_end_31 : decode cX6_end 31 = .ok (.baload, 1) := by decide +kernel
theorem dX6_end_32 : decode cX6_end 32 = .ok (.ifCond .eq 7, 3) := by decide +kernel
theorem dX6_end_35 : decode cX6_end 35 = .ok (.iconst 1, 1) := by decide +kernel
theorem dX6_end_36 : decode cX6_end 36 = .ok (.goto 4, 3) := by decide +kernel
theorem dX6_end_39 : decode cX6_end 39 = .ok (.iconst 0, 1) := by decide +kernel
theorem dX6_end_40 : decode cX6_end 40 = .ok (.istore_n 3, 1) := by decide +kernel
theorem dX6_end_41 : decode cX6_end 41 = .ok (.aload_n 0, 1) := by decide +kernel
theorem dX6_end_42 : decode cX6_end 42 = .ok (.getfield 20, 3) := by decide +kernel
theorem dX6_end_45 : decode cX6_end 45 = .ok (.iload_n 1, 1) := by decide +kernel
theorem dX6_end_46 : decode cX6_end 46 = .ok (.iload_n 2, 1) := by decide +kernel
theorem dX6_end_47 : decode cX6_end 47 = .ok (.iconst 1, 1) := by decide +kernel
theorem dX6_end_48 : decode cX6_end 48 = .ok (.if_icmp .ne 7, 3) := by decide +kernel
theorem dX6_end_51 : decode cX6_end 51 = .ok (.iconst 1, 1) := by decide +kernel
theorem dX6_end_52 : decode cX6_end 52 = .ok (.goto 4, 3) := by decide +kernel
theorem dX6_end_55 : decode cX6_end 55 = .ok (.iconst 0, 1) := by decide +kernel
theorem dX6_end_56 : decode cX6_end 56 = .ok (.bastore, 1) := by decide +kernel
theorem dX6_end_57 : decode cX6_end 57 = .ok (.iload_n 3, 1) := by decide +kernel
theorem dX6_end_58 : decode cX6_end 58 = .ok (.ireturn, 1) := by decide +kernel
set_option maxRecDepth 20000 in
theorem ggX6_factor_X6_isLine : GoodIn wsX6_factor wsX6_isLine := goodIn_r _ [6, 7, 8, 9, 5, 10, 22, 23, 24, 25, 26, 27, 28, 29, 30, 31, 32, 33, 34, 35, 36, 37, 38, 39, 40, 41, 42, 43, 44, 45, 46, 47, 48, 49, 50, 51, 52] (by decide +kernel) (by decide +kernel)
set_option maxRecDepth 20000 in
theorem gX6_factor_X6_isLine : GoodIn wsX6_factor (wsV RX6 115 RX6 yX6_isLine wsX6_isLine) := goodIn_app (goodIn_of _ (by decide +kernel)) ggX6_factor_X6_isLine
set_option maxRecDepth 20000 in
theorem ggX6_factor_X6_ins : GoodIn wsX6_factor wsX6_ins := goodIn_r _ [14, 15, 16, 17, 18, 19, 5, 20, 7, 21, 22, 23, 24, 25, 26, 27, 28, 29, 30, 31, 32, 33, 34, 35, 36, 37, 38, 39, 40, 41, 42, 43, 44, 45, 46, 47, 48, 49, 50, 51, 52] (by decide +kernel) (by decide +kernel)
set_option maxRecDepth 20000 in
theorem gX6_factor_X6_ins : GoodIn wsX6_factor (wsV RX6 118 RX6 yX6_ins wsX6_ins) := goodIn_app (goodIn_of _ (by decide +kernel)) ggX6_factor_X6_ins
set_option maxRecDepth 20000 in
theorem ggX6_factor_X6_in : GoodIn wsX6_factor wsX6_in := goodIn_r _ [10] (by decide +kernel) (by decide +kernel)
set_option maxRecDepth 20000 in
theorem gX6_factor_X6_in : GoodIn wsX6_factor (va_wsS RX6 97 yX6_in wsX6_in) := goodIn_app (goodIn_of _ (by decide +kernel)) ggX6_factor_X6_in
theorem dX6_factor_0 : decode cX6_factor 0 = .ok (.aload_n 0, 1) := by decide +kernel
theorem dX6_factor_1 : decode cX6_factor 1 = .ok (.iload_n 1, 1) := by decide +kernel
theorem dX6_factor_2 : decode cX6_factor 2 = .ok (.invokevirtual 115, 3) := by decide +kernel
theorem dX6_factor_5 : decode cX6_factor 5 = .ok (.ifCond .eq 18, 3) := by decide +kernel
theorem dX6_factor_8 : decode cX6_factor 8 = .ok (.iload_n 2, 1) := by decide +kernel
theorem dX6_factor_9 : decode cX6_factor 9 = .ok (.iconst 0, 1) := by decide +kernel
theorem dX6_factor_10 : decode cX6_factor 10 = .ok (.aload_n 0, 1) := by decide +kernel
theorem dX6_factor_11 : decode cX6_factor 11 = .ok (.iload_n 1, 1) := by decide +kernel
theorem dX6_factor_12 : decode cX6_factor 12 = .ok (.invokevirtual 118, 3) := by decide +kernel
theorem dX6_factor_15 : decode cX6_factor 15 = .ok (.iconst 1, 1) := by decide +kernel
theorem dX6_factor_16 : decode cX6_factor 16 = .ok (.isub, 1) := by decide +kernel
theorem dX6_factor_17 : decode cX6_factor 17 = .ok (.invokestatic 97, 3) := by decide +kernel
theorem dX6_factor_20 : decode cX6_factor 20 = .ok (.ifCond .ne 5, 3) := by decide +kernel
theorem dX6_factor_23 : decode cX6_factor 23 = .ok (.iconst (-1), 1) := by decide +kernel
theorem dX6_factor_24 : decode cX6_factor 24 = .ok (.ireturn, 1) := by decide +kernel
theorem dX6_factor_25 : decode cX6_factor 25 = .ok (.iload_n 3, 1) := by decide +kernel
theorem dX6_factor_26 : decode cX6_factor 26 = .ok (.iconst 0, 1) := by decide +kernel
theorem dX6_factor_27 : decode cX6_factor 27 = .ok (.sipush 255, 3) := by decide +kernel
theorem dX6_factor_30 : decode cX6_factor 30 = .ok (.invokestatic 97, 3) := by decide +kernel
theorem dX6_factor_33 : decode cX6_factor 33 = .ok (.ifCond .ne 6, 3) := by decide +kernel
theorem dX6_factor_36 : decode cX6_factor 36 = .ok (.bipush (-2), 2) := by decide +kernel
theorem dX6_factor_38 : decode cX6_factor 38 = .ok (.ireturn, 1) := by decide +kernel
theorem dX6_factor_39 : decode cX6_factor 39 = .ok (.aload_n 0, 1) := by decide +kernel
theorem dX6_factor_40 : decode cX6_factor 40 = .ok (.getfield 40, 3) := by decide +kernel
theorem dX6_factor_43 : decode cX6_factor 43 = .ok (.bipush 30, 2) := by decide +kernel
theorem dX6_factor_45 : decode cX6_factor 45 = .ok (.iload_n 1, 1) := by decide +kernel
theorem dX6_factor_46 : decode cX6_factor 46 = .ok (.imul, 1) := by decide +kernel
theorem dX6_factor_47 : decode cX6_factor 47 = .ok (.iload_n 2, 1) := by decide +kernel
theorem dX6_factor_48 : decode cX6_factor 48 = .ok (.iadd, 1) := by decide +kernel
theorem dX6_factor_49 : decode cX6_factor 49 = .ok (.iaload, 1) := by decide +kernel
theorem dX6_factor_50 : decode cX6_factor 50 = .ok (.istore 4, 2) := by decide +kernel
theorem dX6_factor_52 : decode cX6_factor 52 = .ok (.aload_n 0, 1) := by decide +kernel
theorem dX6_factor_53 : decode cX6_factor 53 = .ok (.getfield 40, 3) := by decide +kernel
theorem dX6_factor_56 : decode cX6_factor 56 = .ok (.bipush 30, 2) := by decide +kernel
theorem dX6_factor_58 : decode cX6_factor 58 = .ok (.iload_n 1, 1) := by decide +kernel
theorem dX6_factor_59 : decode cX6_factor 59 = .ok (.imul, 1) := by decide +kernel
theorem dX6_factor_60 : decode cX6_factor 60 = .ok (.iload_n 2, 1) := by decide +kernel
theorem dX6_factor_61 : decode cX6_factor 61 = .ok (.iadd, 1) := by decide +kernel
theorem dX6_factor_62 : decode cX6_factor 62 = .ok (.iload_n 3, 1) := by decide +kernel
theorem dX6_factor_63 : decode cX6_factor 63 = .ok (.iastore, 1) := by decide +kernel
theorem dX6_factor_64 : decode cX6_factor 64 = .ok (.iload 4, 2) := by decide +kernel
theorem dX6_factor_66 : decode cX6_factor 66 = .ok (.ireturn, 1) := by decide +kernel
set_option maxRecDepth 20000 in
theorem ggX6_keep_X6_isLine : GoodIn wsX6_keep wsX6_isLine := goodIn_r _ [6, 7, 8, 9, 5, 10, 11, 12, 13, 14, 15, 16, 17, 18, 19, 20, 21, 22, 23, 24, 25, 26, 27, 28, 29, 30, 31, 32, 33, 34, 35, 36, 37, 38, 39, 40, 41] (by decide +kernel) (by decide +kernel)
set_option maxRecDepth 20000 in
theorem gX6_keep_X6_isLine : GoodIn wsX6_keep (wsV RX6 115 RX6 yX6_isLine wsX6_isLine) := goodIn_app (goodIn_of _ (by decide +kernel)) ggX6_keep_X6_isLine
set_option maxRecDepth 20000 in
theorem ggX6_keep_X6_in : GoodIn wsX6_keep wsX6_in := goodIn_r _ [10] (by decide +kernel) (by decide +kernel)
set_option maxRecDepth 20000 in
theorem gX6_keep_X6_in : GoodIn wsX6_keep (va_wsS RX6 97 yX6_in wsX6_in) := goodIn_app (goodIn_of _ (by decide +kernel)) ggX6_keep_X6_in
theorem dX6_keep_0 : decode cX6_keep 0 = .ok (.aload_n 0, 1) := by decide +kernel
theorem dX6_keep_1 : decode cX6_keep 1 = .ok (.iload_n 1, 1) := by decide +kernel
theorem dX6_keep_2 : decode cX6_keep 2 = .ok (.invokevirtual 115, 3) := by decide +kernel
theorem dX6_keep_5 : decode cX6_keep 5 = .ok (.ifCond .ne 5, 3) := by decide +kernel
theorem dX6_keep_8 : decode cX6_keep 8 = .ok (.iconst (-1), 1) := by decide +kernel
theorem dX6_keep_9 : decode cX6_keep 9 = .ok (.ireturn, 1) := by decide +kernel
theorem dX6_keep_10 : decode cX6_keep 10 = .ok (.iload_n 2, 1) := by decide +kernel
theorem dX6_keep_11 : decode cX6_keep 11 = .ok (.iconst 0, 1) := by decide +kernel
theorem dX6_keep_12 : decode cX6_keep 12 = .ok (.iconst 1, 1) := by decide +kernel
theorem dX6_keep_13 : decode cX6_keep 13 = .ok (.invokestatic 97, 3) := by decide +kernel
theorem dX6_keep_16 : decode cX6_keep 16 = .ok (.ifCond .ne 6, 3) := by decide +kernel
theorem dX6_keep_19 : decode cX6_keep 19 = .ok (.bipush (-2), 2) := by decide +kernel
theorem dX6_keep_21 : decode cX6_keep 21 = .ok (.ireturn, 1) := by decide +kernel
theorem dX6_keep_22 : decode cX6_keep 22 = .ok (.aload_n 0, 1) := by decide +kernel
theorem dX6_keep_23 : decode cX6_keep 23 = .ok (.getfield 31, 3) := by decide +kernel
theorem dX6_keep_26 : decode cX6_keep 26 = .ok (.iload_n 1, 1) := by decide +kernel
theorem dX6_keep_27 : decode cX6_keep 27 = .ok (.baload, 1) := by decide +kernel
theorem dX6_keep_28 : decode cX6_keep 28 = .ok (.ifCond .eq 7, 3) := by decide +kernel
theorem dX6_keep_31 : decode cX6_keep 31 = .ok (.iconst 1, 1) := by decide +kernel
theorem dX6_keep_32 : decode cX6_keep 32 = .ok (.goto 4, 3) := by decide +kernel
theorem dX6_keep_35 : decode cX6_keep 35 = .ok (.iconst 0, 1) := by decide +kernel
theorem dX6_keep_36 : decode cX6_keep 36 = .ok (.istore_n 3, 1) := by decide +kernel
theorem dX6_keep_37 : decode cX6_keep 37 = .ok (.aload_n 0, 1) := by decide +kernel
theorem dX6_keep_38 : decode cX6_keep 38 = .ok (.getfield 31, 3) := by decide +kernel
theorem dX6_keep_41 : decode cX6_keep 41 = .ok (.iload_n 1, 1) := by decide +kernel
theorem dX6_keep_42 : decode cX6_keep 42 = .ok (.iload_n 2, 1) := by decide +kernel
theorem dX6_keep_43 : decode cX6_keep 43 = .ok (.iconst 1, 1) := by decide +kernel
theorem dX6_keep_44 : decode cX6_keep 44 = .ok (.if_icmp .ne 7, 3) := by decide +kernel
theorem dX6_keep_47 : decode cX6_keep 47 = .ok (.iconst 1, 1) := by decide +kernel
theorem dX6_keep_48 : decode cX6_keep 48 = .ok (.goto 4, 3) := by decide +kernel
theorem dX6_keep_51 : decode cX6_keep 51 = .ok (.iconst 0, 1) := by decide +kernel
theorem dX6_keep_52 : decode cX6_keep 52 = .ok (.bastore, 1) := by decide +kernel
theorem dX6_keep_53 : decode cX6_keep 53 = .ok (.iload_n 3, 1) := by decide +kernel
theorem dX6_keep_54 : decode cX6_keep 54 = .ok (.ireturn, 1) := by decide +kernel
set_option maxRecDepth 20000 in
theorem ggX6_broken_X6_isLine : GoodIn wsX6_broken wsX6_isLine := goodIn_r _ [6, 7, 8, 9, 5, 10, 11, 12, 13, 14, 15, 16, 17, 18, 19, 20, 21, 22, 23, 24, 25, 26, 27, 28, 29, 30, 31, 32, 33, 34, 35, 36, 37, 38, 39, 40, 41] (by decide +kernel) (by decide +kernel)
set_option maxRecDepth 20000 in
theorem gX6_broken_X6_isLine : GoodIn wsX6_broken (wsV RX6 115 RX6 yX6_isLine wsX6_isLine) := goodIn_app (goodIn_of _ (by decide +kernel)) ggX6_broken_X6_isLine
set_option maxRecDepth 20000 in
theorem ggX6_broken_X6_in : GoodIn wsX6_broken wsX6_in := goodIn_r _ [10] (by decide +kernel) (by decide +kernel)
set_option maxRecDepth 20000 in
theorem gX6_broken_X6_in : GoodIn wsX6_broken (va_wsS RX6 97 yX6_in wsX6_in) := goodIn_app (goodIn_of _ (by decide +kernel)) ggX6_broken_X6_in
theorem dX6_broken_0 : decode cX6_broken 0 = .ok (.aload_n 0, 1) := by decide +kernel
theorem dX6_broken_1 : decode cX6_broken 1 = .ok (.iload_n 1, 1) := by decide +kernel
theorem dX6_broken_2 : decode cX6_broken 2 = .ok (.invokevirtual 115, 3) := by decide +kernel
theorem dX6_broken_5 : decode cX6_broken 5 = .ok (.ifCond .ne 5, 3) := by decide +kernel
theorem dX6_broken_8 : decode cX6_broken 8 = .ok (.iconst (-1), 1) := by decide +kernel
theorem dX6_broken_9 : decode cX6_broken 9 = .ok (.ireturn, 1) := by decide +kernel
theorem dX6_broken_10 : decode cX6_broken 10 = .ok (.iload_n 2, 1) := by decide +kernel
theorem dX6_broken_11 : decode cX6_broken 11 = .ok (.iconst 0, 1) := by decide +kernel
theorem dX6_broken_12 : decode cX6_broken 12 = .ok (.iconst 1, 1) := by decide +kernel
theorem dX6_broken_13 : decode cX6_broken 13 = .ok (.invokestatic 97, 3) := by decide +kernel
theorem dX6_broken_16 : decode cX6_broken 16 = .ok (.ifCond .ne 6, 3) := by decide +kernel
theorem dX6_broken_19 : decode cX6_broken 19 = .ok (.bipush (-2), 2) := by decide +kernel
theorem dX6_broken_21 : decode cX6_broken 21 = .ok (.ireturn, 1) := by decide +kernel
theorem dX6_broken_22 : decode cX6_broken 22 = .ok (.aload_n 0, 1) := by decide +kernel
theorem dX6_broken_23 : decode cX6_broken 23 = .ok (.getfield 34, 3) := by decide +kernel
theorem dX6_broken_26 : decode cX6_broken 26 = .ok (.iload_n 1, 1) := by decide +kernel
theorem dX6_broken_27 : decode cX6_broken 27 = .ok (.baload, 1) := by decide +kernel
theorem dX6_broken_28 : decode cX6_broken 28 = .ok (.ifCond .eq 7, 3) := by decide +kernel
theorem dX6_broken_31 : decode cX6_broken 31 = .ok (.iconst 1, 1) := by decide +kernel
theorem dX6_broken_32 : decode cX6_broken 32 = .ok (.goto 4, 3) := by decide +kernel
theorem dX6_broken_35 : decode cX6_broken 35 = .ok (.iconst 0, 1) := by decide +kernel
theorem dX6_broken_36 : decode cX6_broken 36 = .ok (.istore_n 3, 1) := by decide +kernel
theorem dX6_broken_37 : decode cX6_broken 37 = .ok (.aload_n 0, 1) := by decide +kernel
theorem dX6_broken_38 : decode cX6_broken 38 = .ok (.getfield 34, 3) := by decide +kernel
theorem dX6_broken_41 : decode cX6_broken 41 = .ok (.iload_n 1, 1) := by decide +kernel
theorem dX6_broken_42 : decode cX6_broken 42 = .ok (.iload_n 2, 1) := by decide +kernel
theorem dX6_broken_43 : decode cX6_broken 43 = .ok (.iconst 1, 1) := by decide +kernel
theorem dX6_broken_44 : decode cX6_broken 44 = .ok (.if_icmp .ne 7, 3) := by decide +kernel
theorem dX6_broken_47 : decode cX6_broken 47 = .ok (.iconst 1, 1) := by decide +kernel
theorem dX6_broken_48 : decode cX6_broken 48 = .ok (.goto 4, 3) := by decide +kernel
theorem dX6_broken_51 : decode cX6_broken 51 = .ok (.iconst 0, 1) := by decide +kernel
theorem dX6_broken_52 : decode cX6_broken 52 = .ok (.bastore, 1) := by decide +kernel
theorem dX6_broken_53 : decode cX6_broken 53 = .ok (.iload_n 3, 1) := by decide +kernel
theorem dX6_broken_54 : decode cX6_broken 54 = .ok (.ireturn, 1) := by decide +kernel
set_option maxRecDepth 20000 in
theorem ggX6_bend_X6_isLine : GoodIn wsX6_bend wsX6_isLine := goodIn_r _ [6, 7, 8, 9, 5, 10, 11, 12, 13, 14, 15, 16, 17, 18, 19, 20, 21, 22, 23, 24, 25, 26, 27, 28, 29, 30, 31, 32, 33, 34, 35, 36, 37, 38, 39, 40, 41] (by decide +kernel) (by decide +kernel)
set_option maxRecDepth 20000 in
theorem gX6_bend_X6_isLine : GoodIn wsX6_bend (wsV RX6 115 RX6 yX6_isLine wsX6_isLine) := goodIn_app (goodIn_of _ (by decide +kernel)) ggX6_bend_X6_isLine
theorem dX6_bend_0 : decode cX6_bend 0 = .ok (.aload_n 0, 1) := by decide +kernel
theorem dX6_bend_1 : decode cX6_bend 1 = .ok (.iload_n 1, 1) := by decide +kernel
theorem dX6_bend_2 : decode cX6_bend 2 = .ok (.invokevirtual 115, 3) := by decide +kernel
theorem dX6_bend_5 : decode cX6_bend 5 = .ok (.ifCond .ne 5, 3) := by decide +kernel
theorem dX6_bend_8 : decode cX6_bend 8 = .ok (.iconst (-1), 1) := by decide +kernel
theorem dX6_bend_9 : decode cX6_bend 9 = .ok (.ireturn, 1) := by decide +kernel
theorem dX6_bend_10 : decode cX6_bend 10 = .ok (.aload_n 0, 1) := by decide +kernel
theorem dX6_bend_11 : decode cX6_bend 11 = .ok (.getfield 37, 3) := by decide +kernel
theorem dX6_bend_14 : decode cX6_bend 14 = .ok (.iload_n 1, 1) := by decide +kernel
theorem dX6_bend_15 : decode cX6_bend 15 = .ok (.laload, 1) := by decide +kernel
theorem dX6_bend_16 : decode cX6_bend 16 = .ok (.lconst 0, 1) := by decide +kernel
theorem dX6_bend_17 : decode cX6_bend 17 = .ok (.lcmp, 1) := by decide +kernel
theorem dX6_bend_18 : decode cX6_bend 18 = .ok (.ifCond .eq 7, 3) := by decide +kernel
theorem dX6_bend_21 : decode cX6_bend 21 = .ok (.iconst 1, 1) := by decide +kernel
theorem dX6_bend_22 : decode cX6_bend 22 = .ok (.goto 4, 3) := by decide +kernel
theorem dX6_bend_25 : decode cX6_bend 25 = .ok (.iconst 0, 1) := by decide +kernel
theorem dX6_bend_26 : decode cX6_bend 26 = .ok (.istore 4, 2) := by decide +kernel
theorem dX6_bend_28 : decode cX6_bend 28 = .ok (.aload_n 0, 1) := by decide +kernel
theorem dX6_bend_29 : decode cX6_bend 29 = .ok (.getfield 37, 3) := by decide +kernel
theorem dX6_bend_32 : decode cX6_bend 32 = .ok (.iload_n 1, 1) := by decide +kernel
theorem dX6_bend_33 : decode cX6_bend 33 = .ok (.lload_n 2, 1) := by decide +kernel
theorem dX6_bend_34 : decode cX6_bend 34 = .ok (.lastore, 1) := by decide +kernel
theorem dX6_bend_35 : decode cX6_bend 35 = .ok (.iload 4, 2) := by decide +kernel
theorem dX6_bend_37 : decode cX6_bend 37 = .ok (.ireturn, 1) := by decide +kernel
set_option maxRecDepth 20000 in
theorem ggX6_isPassing_X6_ins : GoodIn wsX6_isPassing wsX6_ins := goodIn_r _ [7, 2, 8, 9, 10, 11, 6, 12, 13, 14, 15, 16, 17, 18, 19, 20, 21, 22, 23, 24, 25, 26, 27, 28, 29, 30, 31, 32, 33, 34, 35, 36, 37, 38, 39, 40, 41, 42, 43, 44, 45] (by decide +kernel) (by decide +kernel)
set_option maxRecDepth 20000 in
theorem gX6_isPassing_X6_ins : GoodIn wsX6_isPassing (wsV RX6 118 RX6 yX6_ins wsX6_ins) := goodIn_app (goodIn_of _ (by decide +kernel)) ggX6_isPassing_X6_ins
theorem dX6_isPassing_0 : decode cX6_isPassing 0 = .ok (.iconst 0, 1) := by decide +kernel
theorem dX6_isPassing_1 : decode cX6_isPassing 1 = .ok (.istore_n 2, 1) := by decide +kernel
theorem dX6_isPassing_2 : decode cX6_isPassing 2 = .ok (.iconst 0, 1) := by decide +kernel
theorem dX6_isPassing_3 : decode cX6_isPassing 3 = .ok (.istore_n 3, 1) := by decide +kernel
theorem dX6_isPassing_4 : decode cX6_isPassing 4 = .ok (.iload_n 3, 1) := by decide +kernel
theorem dX6_isPassing_5 : decode cX6_isPassing 5 = .ok (.aload_n 0, 1) := by decide +kernel
theorem dX6_isPassing_6 : decode cX6_isPassing 6 = .ok (.iload_n 1, 1) := by decide +kernel
theorem dX6_isPassing_7 : decode cX6_isPassing 7 = .ok (.invokevirtual 118, 3) := by decide +kernel
theorem dX6_isPassing_10 : decode cX6_isPassing 10 = .ok (.if_icmp .ge 31, 3) := by decide +kernel
theorem dX6_isPassing_13 : decode cX6_isPassing 13 = .ok (.iload_n 2, 1) := by decide +kernel
theorem dX6_isPassing_14 : decode cX6_isPassing 14 = .ok (.aload_n 0, 1) := by decide +kernel
theorem dX6_isPassing_15 : decode cX6_isPassing 15 = .ok (.getfield 40, 3) := by decide +kernel
theorem dX6_isPassing_18 : decode cX6_isPassing 18 = .ok (.bipush 30, 2) := by decide +kernel
theorem dX6_isPassing_20 : decode cX6_isPassing 20 = .ok (.iload_n 1, 1) := by decide +kernel
theorem dX6_isPassing_21 : decode cX6_isPassing 21 = .ok (.imul, 1) := by decide +kernel
theorem dX6_isPassing_22 : decode cX6_isPassing 22 = .ok (.iload_n 3, 1) := by decide +kernel
theorem dX6_isPassing_23 : decode cX6_isPassing 23 = .ok (.iadd, 1) := by decide +kernel
theorem dX6_isPassing_24 : decode cX6_isPassing 24 = .ok (.iaload, 1) := by decide +kernel
theorem dX6_isPassing_25 : decode cX6_isPassing 25 = .ok (.ifCond .eq 7, 3) := by decide +kernel
theorem dX6_isPassing_28 : decode cX6_isPassing 28 = .ok (.iconst 1, 1) := by decide +kernel
theorem dX6_isPassing_29 : decode cX6_isPassing 29 = .ok (.goto 4, 3) := by decide +kernel
theorem dX6_isPassing_32 : decode cX6_isPassing 32 = .ok (.iconst 0, 1) := by decide +kernel
theorem dX6_isPassing_33 : decode cX6_isPassing 33 = .ok (.iadd, 1) := by decide +kernel
theorem dX6_isPassing_34 : decode cX6_isPassing 34 = .ok (.istore_n 2, 1) := by decide +kernel
theorem dX6_isPassing_35 : decode cX6_isPassing 35 = .ok (.iinc 3 1, 3) := by decide +kernel
theorem dX6_isPassing_38 : decode cX6_isPassing 38 = .ok (.goto (-34), 3) := by decide +kernel
theorem dX6_isPassing_41 : decode cX6_isPassing 41 = .ok (.aload_n 0, 1) := by decide +kernel
theorem dX6_isPassing_42 : decode cX6_isPassing 42 = .ok (.getfield 24, 3) := by decide +kernel
theorem dX6_isPassing_45 : decode cX6_isPassing 45 = .ok (.iload_n 1, 1) := by decide +kernel
theorem dX6_isPassing_46 : decode cX6_isPassing 46 = .ok (.iaload, 1) := by decide +kernel
theorem dX6_isPassing_47 : decode cX6_isPassing 47 = .ok (.ifCond .eq 12, 3) := by decide +kernel
theorem dX6_isPassing_50 : decode cX6_isPassing 50 = .ok (.iload_n 2, 1) := by decide +kernel
theorem dX6_isPassing_51 : decode cX6_isPassing 51 = .ok (.iconst 1, 1) := by decide +kernel
theorem dX6_isPassing_52 : decode cX6_isPassing 52 = .ok (.if_icmp .gt 7, 3) := by decide +kernel
theorem dX6_isPassing_55 : decode cX6_isPassing 55 = .ok (.iconst 1, 1) := by decide +kernel
theorem dX6_isPassing_56 : decode cX6_isPassing 56 = .ok (.goto 4, 3) := by decide +kernel
theorem dX6_isPassing_59 : decode cX6_isPassing 59 = .ok (.iconst 0, 1) := by decide +kernel
theorem dX6_isPassing_60 : decode cX6_isPassing 60 = .ok (.ireturn, 1) := by decide +kernel
set_option maxRecDepth 20000 in
theorem ggX6_about_X6_isLine : GoodIn wsX6_about wsX6_isLine := goodIn_r _ [10, 11, 12, 13, 9, 14, 29, 30, 31, 32, 33, 34, 35, 36, 37, 38, 39, 40, 41, 42, 43, 44, 45, 46, 47, 48, 49, 50, 51, 52, 53, 54, 55, 56, 57, 58, 59] (by decide +kernel) (by decide +kernel)
set_option maxRecDepth 20000 in
theorem gX6_about_X6_isLine : GoodIn wsX6_about (wsV RX6 115 RX6 yX6_isLine wsX6_isLine) := goodIn_app (goodIn_of _ (by decide +kernel)) ggX6_about_X6_isLine
set_option maxRecDepth 20000 in
theorem ggX6_about_X6_ins : GoodIn wsX6_about wsX6_ins := goodIn_r _ [18, 1, 19, 20, 21, 22, 9, 23, 11, 2, 29, 30, 31, 32, 33, 34, 35, 36, 37, 38, 39, 40, 41, 42, 43, 44, 45, 46, 47, 48, 49, 50, 51, 52, 53, 54, 55, 56, 57, 58, 59] (by decide +kernel) (by decide +kernel)
set_option maxRecDepth 20000 in
theorem gX6_about_X6_ins : GoodIn wsX6_about (wsV RX6 118 RX6 yX6_ins wsX6_ins) := goodIn_app (goodIn_of _ (by decide +kernel)) ggX6_about_X6_ins
set_option maxRecDepth 20000 in
theorem ggX6_about_X6_isPassing : GoodIn wsX6_about wsX6_isPassing := goodIn_r _ [27, 28, 1, 15, 16, 17, 9, 18, 19, 20, 21, 22, 23, 11, 2, 29, 30, 31, 32, 33, 34, 35, 36, 37, 38, 39, 40, 41, 42, 43, 44, 45, 46, 47, 48, 49, 50, 51, 52, 53, 54, 55, 56, 57, 58, 59] (by decide +kernel) (by decide +kernel)
set_option maxRecDepth 20000 in
theorem gX6_about_X6_isPassing : GoodIn wsX6_about (wsV RX6 121 RX6 yX6_isPassing wsX6_isPassing) := goodIn_app (goodIn_of _ (by decide +kernel)) ggX6_about_X6_isPassing
theorem dX6_about_0 : decode cX6_about 0 = .ok (.aload_n 0, 1) := by decide +kernel
theorem dX6_about_1 : decode cX6_about 1 = .ok (.iload_n 1, 1) := by decide +kernel
theorem dX6_about_2 : decode cX6_about 2 = .ok (.invokevirtual 115, 3) := by decide +kernel
theorem dX6_about_5 : decode cX6_about 5 = .ok (.ifCond .ne 5, 3) := by decide +kernel
theorem dX6_about_8 : decode cX6_about 8 = .ok (.iconst (-1), 1) := by decide +kernel
theorem dX6_about_9 : decode cX6_about 9 = .ok (.ireturn, 1) := by decide +kernel
theorem dX6_about_10 : decode cX6_about 10 = .ok (.iload_n 2, 1) := by decide +kernel
theorem dX6_about_11 : decode cX6_about 11 = .ok (.tableswitch 122 0 6 #[41, 48, 55, 61, 76, 91, 108], 41) := by decide +kernel
theorem dX6_about_52 : decode cX6_about 52 = .ok (.aload_n 0, 1) := by decide +kernel
theorem dX6_about_53 : decode cX6_about 53 = .ok (.getfield 24, 3) := by decide +kernel
theorem dX6_about_56 : decode cX6_about 56 = .ok (.iload_n 1, 1) := by decide +kernel
theorem dX6_about_57 : decode cX6_about 57 = .ok (.iaload, 1) := by decide +kernel
theorem dX6_about_58 : decode cX6_about 58 = .ok (.ireturn, 1) := by decide +kernel
theorem dX6_about_59 : decode cX6_about 59 = .ok (.aload_n 0, 1) := by decide +kernel
theorem dX6_about_60 : decode cX6_about 60 = .ok (.getfield 28, 3) := by decide +kernel
theorem dX6_about_63 : decode cX6_about 63 = .ok (.iload_n 1, 1) := by decide +kernel
theorem dX6_about_64 : decode cX6_about 64 = .ok (.iaload, 1) := by decide +kernel
theorem dX6_about_65 : decode cX6_about 65 = .ok (.ireturn, 1) := by decide +kernel
theorem dX6_about_66 : decode cX6_about 66 = .ok (.aload_n 0, 1) := by decide +kernel
theorem dX6_about_67 : decode cX6_about 67 = .ok (.iload_n 1, 1) := by decide +kernel
theorem dX6_about_68 : decode cX6_about 68 = .ok (.invokevirtual 118, 3) := by decide +kernel
theorem dX6_about_71 : decode cX6_about 71 = .ok (.ireturn, 1) := by decide +kernel
theorem dX6_about_72 : decode cX6_about 72 = .ok (.aload_n 0, 1) := by decide +kernel
theorem dX6_about_73 : decode cX6_about 73 = .ok (.getfield 31, 3) := by decide +kernel
theorem dX6_about_76 : decode cX6_about 76 = .ok (.iload_n 1, 1) := by decide +kernel
theorem dX6_about_77 : decode cX6_about 77 = .ok (.baload, 1) := by decide +kernel
theorem dX6_about_78 : decode cX6_about 78 = .ok (.ifCond .eq 7, 3) := by decide +kernel
theorem dX6_about_81 : decode cX6_about 81 = .ok (.iconst 1, 1) := by decide +kernel
theorem dX6_about_82 : decode cX6_about 82 = .ok (.goto 4, 3) := by decide +kernel
theorem dX6_about_85 : decode cX6_about 85 = .ok (.iconst 0, 1) := by decide +kernel
theorem dX6_about_86 : decode cX6_about 86 = .ok (.ireturn, 1) := by decide +kernel
theorem dX6_about_87 : decode cX6_about 87 = .ok (.aload_n 0, 1) := by decide +kernel
theorem dX6_about_88 : decode cX6_about 88 = .ok (.getfield 34, 3) := by decide +kernel
theorem dX6_about_91 : decode cX6_about 91 = .ok (.iload_n 1, 1) := by decide +kernel
theorem dX6_about_92 : decode cX6_about 92 = .ok (.baload, 1) := by decide +kernel
theorem dX6_about_93 : decode cX6_about 93 = .ok (.ifCond .eq 7, 3) := by decide +kernel
theorem dX6_about_96 : decode cX6_about 96 = .ok (.iconst 1, 1) := by decide +kernel
theorem dX6_about_97 : decode cX6_about 97 = .ok (.goto 4, 3) := by decide +kernel
theorem dX6_about_100 : decode cX6_about 100 = .ok (.iconst 0, 1) := by decide +kernel
theorem dX6_about_101 : decode cX6_about 101 = .ok (.ireturn, 1) := by decide +kernel
theorem dX6_about_102 : decode cX6_about 102 = .ok (.aload_n 0, 1) := by decide +kernel
theorem dX6_about_103 : decode cX6_about 103 = .ok (.getfield 37, 3) := by decide +kernel
theorem dX6_about_106 : decode cX6_about 106 = .ok (.iload_n 1, 1) := by decide +kernel
theorem dX6_about_107 : decode cX6_about 107 = .ok (.laload, 1) := by decide +kernel
theorem dX6_about_108 : decode cX6_about 108 = .ok (.lconst 0, 1) := by decide +kernel
theorem dX6_about_109 : decode cX6_about 109 = .ok (.lcmp, 1) := by decide +kernel
theorem dX6_about_110 : decode cX6_about 110 = .ok (.ifCond .eq 7, 3) := by decide +kernel
theorem dX6_about_113 : decode cX6_about 113 = .ok (.iconst 1, 1) := by decide +kernel
theorem dX6_about_114 : decode cX6_about 114 = .ok (.goto 4, 3) := by decide +kernel
theorem dX6_about_117 : decode cX6_about 117 = .ok (.iconst 0, 1) := by decide +kernel
theorem dX6_about_118 : decode cX6_about 118 = .ok (.ireturn, 1) := by decide +kernel
theorem dX6_about_119 : decode cX6_about 119 = .ok (.aload_n 0, 1) := by decide +kernel
theorem dX6_about_120 : decode cX6_about 120 = .ok (.iload_n 1, 1) := by decide +kernel
theorem dX6_about_121 : decode cX6_about 121 = .ok (.invokevirtual 121, 3) := by decide +kernel
theorem dX6_about_124 : decode cX6_about 124 = .ok (.ifCond .eq 7, 3) := by decide +kernel
theorem dX6_about_127 : decode cX6_about 127 = .ok (.iconst 1, 1) := by decide +kernel
theorem dX6_about_128 : decode cX6_about 128 = .ok (.goto 4, 3) := by decide +kernel
theorem dX6_about_131 : decode cX6_about 131 = .ok (.iconst 0, 1) := by decide +kernel
theorem dX6_about_132 : decode cX6_about 132 = .ok (.ireturn, 1) := by decide +kernel
theorem dX6_about_133 : decode cX6_about 133 = .ok (.iconst (-1), 1) := by decide +kernel
theorem dX6_about_134 : decode cX6_about 134 = .ok (.ireturn, 1) := by decide +kernel
theorem dX6_seek_0 : decode cX6_seek 0 = .ok (.iconst 0, 1) := by decide +kernel
theorem dX6_seek_1 : decode cX6_seek 1 = .ok (.istore_n 1, 1) := by decide +kernel
theorem dX6_seek_2 : decode cX6_seek 2 = .ok (.iload_n 1, 1) := by decide +kernel
theorem dX6_seek_3 : decode cX6_seek 3 = .ok (.bipush 12, 2) := by decide +kernel
theorem dX6_seek_5 : decode cX6_seek 5 = .ok (.if_icmp .ge 31, 3) := by decide +kernel
theorem dX6_seek_8 : decode cX6_seek 8 = .ok (.aload_n 0, 1) := by decide +kernel
theorem dX6_seek_9 : decode cX6_seek 9 = .ok (.getfield 46, 3) := by decide +kernel
theorem dX6_seek_12 : decode cX6_seek 12 = .ok (.iload_n 1, 1) := by decide +kernel
theorem dX6_seek_13 : decode cX6_seek 13 = .ok (.iload_n 1, 1) := by decide +kernel
theorem dX6_seek_14 : decode cX6_seek 14 = .ok (.ifCond .ne 7, 3) := by decide +kernel
theorem dX6_seek_17 : decode cX6_seek 17 = .ok (.iconst 1, 1) := by decide +kernel
theorem dX6_seek_18 : decode cX6_seek 18 = .ok (.goto 4, 3) := by decide +kernel
theorem dX6_seek_21 : decode cX6_seek 21 = .ok (.iconst 0, 1) := by decide +kernel
theorem dX6_seek_22 : decode cX6_seek 22 = .ok (.bastore, 1) := by decide +kernel
theorem dX6_seek_23 : decode cX6_seek 23 = .ok (.aload_n 0, 1) := by decide +kernel
theorem dX6_seek_24 : decode cX6_seek 24 = .ok (.getfield 49, 3) := by decide +kernel
theorem dX6_seek_27 : decode cX6_seek 27 = .ok (.iload_n 1, 1) := by decide +kernel
theorem dX6_seek_28 : decode cX6_seek 28 = .ok (.iconst (-1), 1) := by decide +kernel
theorem dX6_seek_29 : decode cX6_seek 29 = .ok (.iastore, 1) := by decide +kernel
theorem dX6_seek_30 : decode cX6_seek 30 = .ok (.iinc 1 1, 3) := by decide +kernel
theorem dX6_seek_33 : decode cX6_seek 33 = .ok (.goto (-31), 3) := by decide +kernel
theorem dX6_seek_36 : decode cX6_seek 36 = .ok (.iconst 1, 1) := by decide +kernel
theorem dX6_seek_37 : decode cX6_seek 37 = .ok (.istore_n 1, 1) := by decide +kernel
theorem dX6_seek_38 : decode cX6_seek 38 = .ok (.iload_n 1, 1) := by decide +kernel
theorem dX6_seek_39 : decode cX6_seek 39 = .ok (.ifCond .eq 127, 3) := by decide +kernel
theorem dX6_seek_42 : decode cX6_seek 42 = .ok (.iconst 0, 1) := by decide +kernel
theorem dX6_seek_43 : decode cX6_seek 43 = .ok (.istore_n 1, 1) := by decide +kernel
theorem dX6_seek_44 : decode cX6_seek 44 = .ok (.iconst 0, 1) := by decide +kernel
theorem dX6_seek_45 : decode cX6_seek 45 = .ok (.istore_n 2, 1) := by decide +kernel
theorem dX6_seek_46 : decode cX6_seek 46 = .ok (.iload_n 2, 1) := by decide +kernel
theorem dX6_seek_47 : decode cX6_seek 47 = .ok (.aload_n 0, 1) := by decide +kernel
theorem dX6_seek_48 : decode cX6_seek 48 = .ok (.getfield 105, 3) := by decide +kernel
theorem dX6_seek_51 : decode cX6_seek 51 = .ok (.if_icmp .ge 112, 3) := by decide +kernel
theorem dX6_seek_54 : decode cX6_seek 54 = .ok (.aload_n 0, 1) := by decide +kernel
theorem dX6_seek_55 : decode cX6_seek 55 = .ok (.getfield 34, 3) := by decide +kernel
theorem dX6_seek_58 : decode cX6_seek 58 = .ok (.iload_n 2, 1) := by decide +kernel
theorem dX6_seek_59 : decode cX6_seek 59 = .ok (.baload, 1) := by decide +kernel
theorem dX6_seek_60 : decode cX6_seek 60 = .ok (.ifCond .eq 6, 3) := by decide +kernel
theorem dX6_seek_63 : decode cX6_seek 63 = .ok (.goto 94, 3) := by decide +kernel
theorem dX6_seek_66 : decode cX6_seek 66 = .ok (.aload_n 0, 1) := by decide +kernel
theorem dX6_seek_67 : decode cX6_seek 67 = .ok (.getfield 43, 3) := by decide +kernel
theorem dX6_seek_70 : decode cX6_seek 70 = .ok (.iload_n 2, 1) := by decide +kernel
theorem dX6_seek_71 : decode cX6_seek 71 = .ok (.baload, 1) := by decide +kernel
theorem dX6_seek_72 : decode cX6_seek 72 = .ok (.ifCond .eq 12, 3) := by decide +kernel
theorem dX6_seek_75 : decode cX6_seek 75 = .ok (.aload_n 0, 1) := by decide +kernel
theorem dX6_seek_76 : decode cX6_seek 76 = .ok (.getfield 28, 3) := by decide +kernel
theorem dX6_seek_79 : decode cX6_seek 79 = .ok (.iload_n 2, 1) := by decide +kernel
theorem dX6_seek_80 : decode cX6_seek 80 = .ok (.iaload, 1) := by decide +kernel
theorem dX6_seek_81 : decode cX6_seek 81 = .ok (.goto 9, 3) := by decide +kernel
theorem dX6_seek_84 : decode cX6_seek 84 = .ok (.aload_n 0, 1) := by decide +kernel
theorem dX6_seek_85 : decode cX6_seek 85 = .ok (.getfield 24, 3) := by decide +kernel
theorem dX6_seek_88 : decode cX6_seek 88 = .ok (.iload_n 2, 1) := by decide +kernel
theorem dX6_seek_89 : decode cX6_seek 89 = .ok (.iaload, 1) := by decide +kernel
theorem dX6_seek_90 : decode cX6_seek 90 = .ok (.istore_n 3, 1) := by decide +kernel
theorem dX6_seek_91 : decode cX6_seek 91 = .ok (.aload_n 0, 1) := by decide +kernel
theorem dX6_seek_92 : decode cX6_seek 92 = .ok (.getfield 43, 3) := by decide +kernel
theorem dX6_seek_95 : decode cX6_seek 95 = .ok (.iload_n 2, 1) := by decide +kernel
theorem dX6_seek_96 : decode cX6_seek 96 = .ok (.baload, 1) := by decide +kernel
theorem dX6_seek_97 : decode cX6_seek 97 = .ok (.ifCond .eq 12, 3) := by decide +kernel
theorem dX6_seek_100 : decode cX6_seek 100 = .ok (.aload_n 0, 1) := by decide +kernel
theorem dX6_seek_101 : decode cX6_seek 101 = .ok (.getfield 24, 3) := by decide +kernel
theorem dX6_seek_104 : decode cX6_seek 104 = .ok (.iload_n 2, 1) := by decide +kernel
theorem dX6_seek_105 : decode cX6_seek 105 = .ok (.iaload, 1) := by decide +kernel
theorem dX6_seek_106 : decode cX6_seek 106 = .ok (.goto 9, 3) := by decide +kernel
theorem dX6_seek_109 : decode cX6_seek 109 = .ok (.aload_n 0, 1) := by decide +kernel
theorem dX6_seek_110 : decode cX6_seek 110 = .ok (.getfield 28, 3) := by decide +kernel
theorem dX6_seek_113 : decode cX6_seek 113 = .ok (.iload_n 2, 1) := by decide +kernel
theorem dX6_seek_114 : decode cX6_seek 114 = .ok (.iaload, 1) := by decide +kernel
theorem dX6_seek_115 : decode cX6_seek 115 = .ok (.istore 4, 2) := by decide +kernel
theorem dX6_seek_117 : decode cX6_seek 117 = .ok (.aload_n 0, 1) := by decide +kernel
theorem dX6_seek_118 : decode cX6_seek 118 = .ok (.getfield 46, 3) := by decide +kernel
theorem dX6_seek_121 : decode cX6_seek 121 = .ok (.iload_n 3, 1) := by decide +kernel
theorem dX6_seek_122 : decode cX6_seek 122 = .ok (.baload, 1) := by decide +kernel
theorem dX6_seek_123 : decode cX6_seek 123 = .ok (.ifCond .eq 34, 3) := by decide +kernel
theorem dX6_seek_126 : decode cX6_seek 126 = .ok (.aload_n 0, 1) := by decide +kernel
theorem dX6_seek_127 : decode cX6_seek 127 = .ok (.getfield 46, 3) := by decide +kernel
theorem dX6_seek_130 : decode cX6_seek 130 = .ok (.iload 4, 2) := by decide +kernel
theorem dX6_seek_132 : decode cX6_seek 132 = .ok (.baload, 1) := by decide +kernel
theorem dX6_seek_133 : decode cX6_seek 133 = .ok (.ifCond .eq 6, 3) := by decide +kernel
theorem dX6_seek_136 : decode cX6_seek 136 = .ok (.goto 21, 3) := by decide +kernel
theorem dX6_seek_139 : decode cX6_seek 139 = .ok (.aload_n 0, 1) := by decide +kernel
theorem dX6_seek_140 : decode cX6_seek 140 = .ok (.getfield 46, 3) := by decide +kernel
theorem dX6_seek_143 : decode cX6_seek 143 = .ok (.iload 4, 2) := by decide +kernel
theorem dX6_seek_145 : decode cX6_seek 145 = .ok (.iconst 1, 1) := by decide +kernel
theorem dX6_seek_146 : decode cX6_seek 146 = .ok (.bastore, 1) := by decide +kernel
theorem dX6_seek_147 : decode cX6_seek 147 = .ok (.aload_n 0, 1) := by decide +kernel
theorem dX6_seek_148 : decode cX6_seek 148 = .ok (.getfield 49, 3) := by decide +kernel
theorem dX6_seek_151 : decode cX6_seek 151 = .ok (.iload 4, 2) := by decide +kernel
theorem dX6_seek_153 : decode cX6_seek 153 = .ok (.iload_n 2, 1) := by decide +kernel
theorem dX6_seek_154 : decode cX6_seek 154 = .ok (.iastore, 1) := by decide +kernel
theorem dX6_seek_155 : decode cX6_seek 155 = .ok (.iconst 1, 1) := by decide +kernel
theorem dX6_seek_156 : decode cX6_seek 156 = .ok (.istore_n 1, 1) := by decide +kernel
theorem dX6_seek_157 : decode cX6_seek 157 = .ok (.iinc 2 1, 3) := by decide +kernel
theorem dX6_seek_160 : decode cX6_seek 160 = .ok (.goto (-114), 3) := by decide +kernel
theorem dX6_seek_163 : decode cX6_seek 163 = .ok (.goto (-125), 3) := by decide +kernel
theorem dX6_seek_166 : decode cX6_seek 166 = .ok (.return_, 1) := by decide +kernel
set_option maxRecDepth 20000 in
theorem ggX6_flowOf_X6_seek : GoodIn wsX6_flowOf wsX6_seek := goodIn_r _ [10, 2, 3, 11, 12, 1, 4, 5, 13, 14, 15, 16, 17, 18, 19, 20, 21, 22, 23, 24, 25, 26, 27, 28, 29, 30, 31, 32, 33, 34, 35, 36, 37, 38, 39, 40, 41, 42, 43] (by decide +kernel) (by decide +kernel)
set_option maxRecDepth 20000 in
theorem gX6_flowOf_X6_seek : GoodIn wsX6_flowOf (wsV RX6 124 RX6 yX6_seek wsX6_seek) := goodIn_app (goodIn_of _ (by decide +kernel)) ggX6_flowOf_X6_seek
theorem dX6_flowOf_0 : decode cX6_flowOf 0 = .ok (.iconst 0, 1) := by decide +kernel
theorem dX6_flowOf_1 : decode cX6_flowOf 1 = .ok (.istore_n 2, 1) := by decide +kernel
theorem dX6_flowOf_2 : decode cX6_flowOf 2 = .ok (.iload_n 2, 1) := by decide +kernel
theorem dX6_flowOf_3 : decode cX6_flowOf 3 = .ok (.bipush 30, 2) := by decide +kernel
theorem dX6_flowOf_5 : decode cX6_flowOf 5 = .ok (.if_icmp .ge 16, 3) := by decide +kernel
theorem dX6_flowOf_8 : decode cX6_flowOf 8 = .ok (.aload_n 0, 1) := by decide +kernel
theorem dX6_flowOf_9 : decode cX6_flowOf 9 = .ok (.getfield 43, 3) := by decide +kernel
theorem dX6_flowOf_12 : decode cX6_flowOf 12 = .ok (.iload_n 2, 1) := by decide +kernel
theorem dX6_flowOf_13 : decode cX6_flowOf 13 = .ok (.iconst 0, 1) := by decide +kernel
theorem dX6_flowOf_14 : decode cX6_flowOf 14 = .ok (.bastore, 1) := by decide +kernel
theorem dX6_flowOf_15 : decode cX6_flowOf 15 = .ok (.iinc 2 1, 3) := by decide +kernel
theorem dX6_flowOf_18 : decode cX6_flowOf 18 = .ok (.goto (-16), 3) := by decide +kernel
theorem dX6_flowOf_21 : decode cX6_flowOf 21 = .ok (.iconst 0, 1) := by decide +kernel
theorem dX6_flowOf_22 : decode cX6_flowOf 22 = .ok (.istore_n 2, 1) := by decide +kernel
theorem dX6_flowOf_23 : decode cX6_flowOf 23 = .ok (.aload_n 0, 1) := by decide +kernel
theorem dX6_flowOf_24 : decode cX6_flowOf 24 = .ok (.invokevirtual 124, 3) := by decide +kernel
theorem dX6_flowOf_27 : decode cX6_flowOf 27 = .ok (.aload_n 0, 1) := by decide +kernel
theorem dX6_flowOf_28 : decode cX6_flowOf 28 = .ok (.getfield 46, 3) := by decide +kernel
theorem dX6_flowOf_31 : decode cX6_flowOf 31 = .ok (.iload_n 1, 1) := by decide +kernel
theorem dX6_flowOf_32 : decode cX6_flowOf 32 = .ok (.baload, 1) := by decide +kernel
theorem dX6_flowOf_33 : decode cX6_flowOf 33 = .ok (.ifCond .eq 80, 3) := by decide +kernel
theorem dX6_flowOf_36 : decode cX6_flowOf 36 = .ok (.iload_n 1, 1) := by decide +kernel
theorem dX6_flowOf_37 : decode cX6_flowOf 37 = .ok (.istore_n 3, 1) := by decide +kernel
theorem dX6_flowOf_38 : decode cX6_flowOf 38 = .ok (.iload_n 3, 1) := by decide +kernel
theorem dX6_flowOf_39 : decode cX6_flowOf 39 = .ok (.ifCond .eq 64, 3) := by decide +kernel
theorem dX6_flowOf_42 : decode cX6_flowOf 42 = .ok (.aload_n 0, 1) := by decide +kernel
theorem dX6_flowOf_43 : decode cX6_flowOf 43 = .ok (.getfield 49, 3) := by decide +kernel
theorem dX6_flowOf_46 : decode cX6_flowOf 46 = .ok (.iload_n 3, 1) := by decide +kernel
theorem dX6_flowOf_47 : decode cX6_flowOf 47 = .ok (.iaload, 1) := by decide +kernel
theorem dX6_flowOf_48 : decode cX6_flowOf 48 = .ok (.istore 4, 2) := by decide +kernel
theorem dX6_flowOf_50 : decode cX6_flowOf 50 = .ok (.aload_n 0, 1) := by decide +kernel
theorem dX6_flowOf_51 : decode cX6_flowOf 51 = .ok (.getfield 43, 3) := by decide +kernel
theorem dX6_flowOf_54 : decode cX6_flowOf 54 = .ok (.iload 4, 2) := by decide +kernel
theorem dX6_flowOf_56 : decode cX6_flowOf 56 = .ok (.baload, 1) := by decide +kernel
theorem dX6_flowOf_57 : decode cX6_flowOf 57 = .ok (.ifCond .eq 13, 3) := by decide +kernel
theorem dX6_flowOf_60 : decode cX6_flowOf 60 = .ok (.aload_n 0, 1) := by decide +kernel
theorem dX6_flowOf_61 : decode cX6_flowOf 61 = .ok (.getfield 28, 3) := by decide +kernel
theorem dX6_flowOf_64 : decode cX6_flowOf 64 = .ok (.iload 4, 2) := by decide +kernel
theorem dX6_flowOf_66 : decode cX6_flowOf 66 = .ok (.iaload, 1) := by decide +kernel
theorem dX6_flowOf_67 : decode cX6_flowOf 67 = .ok (.goto 10, 3) := by decide +kernel
theorem dX6_flowOf_70 : decode cX6_flowOf 70 = .ok (.aload_n 0, 1) := by decide +kernel
theorem dX6_flowOf_71 : decode cX6_flowOf 71 = .ok (.getfield 24, 3) := by decide +kernel
theorem dX6_flowOf_74 : decode cX6_flowOf 74 = .ok (.iload 4, 2) := by decide +kernel
theorem dX6_flowOf_76 : decode cX6_flowOf 76 = .ok (.iaload, 1) := by decide +kernel
theorem dX6_flowOf_77 : decode cX6_flowOf 77 = .ok (.istore_n 3, 1) := by decide +kernel
theorem dX6_flowOf_78 : decode cX6_flowOf 78 = .ok (.aload_n 0, 1) := by decide +kernel
theorem dX6_flowOf_79 : decode cX6_flowOf 79 = .ok (.getfield 43, 3) := by decide +kernel
theorem dX6_flowOf_82 : decode cX6_flowOf 82 = .ok (.iload 4, 2) := by decide +kernel
theorem dX6_flowOf_84 : decode cX6_flowOf 84 = .ok (.aload_n 0, 1) := by decide +kernel
theorem dX6_flowOf_85 : decode cX6_flowOf 85 = .ok (.getfield 43, 3) := by decide +kernel
theorem dX6_flowOf_88 : decode cX6_flowOf 88 = .ok (.iload 4, 2) := by decide +kernel
theorem dX6_flowOf_90 : decode cX6_flowOf 90 = .ok (.baload, 1) := by decide +kernel
theorem dX6_flowOf_91 : decode cX6_flowOf 91 = .ok (.ifCond .ne 7, 3) := by decide +kernel
theorem dX6_flowOf_94 : decode cX6_flowOf 94 = .ok (.iconst 1, 1) := by decide +kernel
theorem dX6_flowOf_95 : decode cX6_flowOf 95 = .ok (.goto 4, 3) := by decide +kernel
theorem dX6_flowOf_98 : decode cX6_flowOf 98 = .ok (.iconst 0, 1) := by decide +kernel
theorem dX6_flowOf_99 : decode cX6_flowOf 99 = .ok (.bastore, 1) := by decide +kernel
theorem dX6_flowOf_100 : decode cX6_flowOf 100 = .ok (.goto (-62), 3) := by decide +kernel
theorem dX6_flowOf_103 : decode cX6_flowOf 103 = .ok (.iinc 2 1, 3) := by decide +kernel
theorem dX6_flowOf_106 : decode cX6_flowOf 106 = .ok (.aload_n 0, 1) := by decide +kernel
theorem dX6_flowOf_107 : decode cX6_flowOf 107 = .ok (.invokevirtual 124, 3) := by decide +kernel
theorem dX6_flowOf_110 : decode cX6_flowOf 110 = .ok (.goto (-83), 3) := by decide +kernel
theorem dX6_flowOf_113 : decode cX6_flowOf 113 = .ok (.iload_n 2, 1) := by decide +kernel
theorem dX6_flowOf_114 : decode cX6_flowOf 114 = .ok (.ireturn, 1) := by decide +kernel
set_option maxRecDepth 20000 in
theorem ggX6_flow_X6_isRelay : GoodIn wsX6_flow wsX6_isRelay := goodIn_r _ [5, 6, 7, 8, 4, 9, 25, 26, 27, 28, 29, 30, 31, 32, 33, 34, 35, 36, 37, 38, 39, 40, 41, 42, 43, 44, 45, 46, 47, 48, 49, 50, 51, 52, 53, 54, 55] (by decide +kernel) (by decide +kernel)
set_option maxRecDepth 20000 in
theorem gX6_flow_X6_isRelay : GoodIn wsX6_flow (wsV RX6 111 RX6 yX6_isRelay wsX6_isRelay) := goodIn_app (goodIn_of _ (by decide +kernel)) ggX6_flow_X6_isRelay
set_option maxRecDepth 20000 in
theorem ggX6_flow_X6_flowOf : GoodIn wsX6_flow wsX6_flowOf := goodIn_r _ [13, 14, 15, 16, 17, 18, 19, 20, 21, 4, 22, 23, 24, 25, 26, 27, 28, 29, 30, 31, 32, 33, 34, 35, 36, 37, 38, 39, 40, 41, 42, 43, 44, 45, 46, 47, 48, 49, 50, 51, 52, 53, 54, 55] (by decide +kernel) (by decide +kernel)
set_option maxRecDepth 20000 in
theorem gX6_flow_X6_flowOf : GoodIn wsX6_flow (wsV RX6 127 RX6 yX6_flowOf wsX6_flowOf) := goodIn_app (goodIn_of _ (by decide +kernel)) ggX6_flow_X6_flowOf
theorem dX6_flow_0 : decode cX6_flow 0 = .ok (.aload_n 0, 1) := by decide +kernel
theorem dX6_flow_1 : decode cX6_flow 1 = .ok (.iload_n 1, 1) := by decide +kernel
theorem dX6_flow_2 : decode cX6_flow 2 = .ok (.invokevirtual 111, 3) := by decide +kernel
theorem dX6_flow_5 : decode cX6_flow 5 = .ok (.ifCond .ne 5, 3) := by decide +kernel
theorem dX6_flow_8 : decode cX6_flow 8 = .ok (.iconst (-1), 1) := by decide +kernel
theorem dX6_flow_9 : decode cX6_flow 9 = .ok (.ireturn, 1) := by decide +kernel
theorem dX6_flow_10 : decode cX6_flow 10 = .ok (.iload_n 1, 1) := by decide +kernel
theorem dX6_flow_11 : decode cX6_flow 11 = .ok (.ifCond .ne 8, 3) := by decide +kernel
theorem dX6_flow_14 : decode cX6_flow 14 = .ok (.bipush (-2), 2) := by decide +kernel
theorem dX6_flow_16 : decode cX6_flow 16 = .ok (.goto 8, 3) := by decide +kernel
theorem dX6_flow_19 : decode cX6_flow 19 = .ok (.aload_n 0, 1) := by decide +kernel
theorem dX6_flow_20 : decode cX6_flow 20 = .ok (.iload_n 1, 1) := by decide +kernel
theorem dX6_flow_21 : decode cX6_flow 21 = .ok (.invokevirtual 127, 3) := by decide +kernel
theorem dX6_flow_24 : decode cX6_flow 24 = .ok (.ireturn, 1) := by decide +kernel
set_option maxRecDepth 20000 in
theorem ggX6_cut_X6_isRelay : GoodIn wsX6_cut wsX6_isRelay := goodIn_r _ [10, 11, 12, 13, 9, 14, 25, 26, 27, 28, 29, 30, 31, 32, 33, 34, 35, 36, 37, 38, 39, 40, 41, 42, 43, 44, 45, 46, 47, 48, 49, 50, 51, 52, 53, 54, 55] (by decide +kernel) (by decide +kernel)
set_option maxRecDepth 20000 in
theorem gX6_cut_X6_isRelay : GoodIn wsX6_cut (wsV RX6 111 RX6 yX6_isRelay wsX6_isRelay) := goodIn_app (goodIn_of _ (by decide +kernel)) ggX6_cut_X6_isRelay
set_option maxRecDepth 20000 in
theorem ggX6_cut_X6_flowOf : GoodIn wsX6_cut wsX6_flowOf := goodIn_r _ [18, 19, 3, 20, 5, 4, 21, 22, 23, 9, 24, 1, 2, 25, 26, 27, 28, 29, 30, 31, 32, 33, 34, 35, 36, 37, 38, 39, 40, 41, 42, 43, 44, 45, 46, 47, 48, 49, 50, 51, 52, 53, 54, 55] (by decide +kernel) (by decide +kernel)
set_option maxRecDepth 20000 in
theorem gX6_cut_X6_flowOf : GoodIn wsX6_cut (wsV RX6 127 RX6 yX6_flowOf wsX6_flowOf) := goodIn_app (goodIn_of _ (by decide +kernel)) ggX6_cut_X6_flowOf
theorem dX6_cut_0 : decode cX6_cut 0 = .ok (.aload_n 0, 1) := by decide +kernel
theorem dX6_cut_1 : decode cX6_cut 1 = .ok (.iload_n 1, 1) := by decide +kernel
theorem dX6_cut_2 : decode cX6_cut 2 = .ok (.invokevirtual 111, 3) := by decide +kernel
theorem dX6_cut_5 : decode cX6_cut 5 = .ok (.ifCond .eq 7, 3) := by decide +kernel
theorem dX6_cut_8 : decode cX6_cut 8 = .ok (.iload_n 2, 1) := by decide +kernel
theorem dX6_cut_9 : decode cX6_cut 9 = .ok (.ifCond .ge 5, 3) := by decide +kernel
theorem dX6_cut_12 : decode cX6_cut 12 = .ok (.iconst (-1), 1) := by decide +kernel
theorem dX6_cut_13 : decode cX6_cut 13 = .ok (.ireturn, 1) := by decide +kernel
theorem dX6_cut_14 : decode cX6_cut 14 = .ok (.iload_n 1, 1) := by decide +kernel
theorem dX6_cut_15 : decode cX6_cut 15 = .ok (.ifCond .ne 6, 3) := by decide +kernel
theorem dX6_cut_18 : decode cX6_cut 18 = .ok (.bipush (-2), 2) := by decide +kernel
theorem dX6_cut_20 : decode cX6_cut 20 = .ok (.ireturn, 1) := by decide +kernel
theorem dX6_cut_21 : decode cX6_cut 21 = .ok (.aload_n 0, 1) := by decide +kernel
theorem dX6_cut_22 : decode cX6_cut 22 = .ok (.iload_n 1, 1) := by decide +kernel
theorem dX6_cut_23 : decode cX6_cut 23 = .ok (.invokevirtual 127, 3) := by decide +kernel
theorem dX6_cut_26 : decode cX6_cut 26 = .ok (.istore_n 3, 1) := by decide +kernel
theorem dX6_cut_27 : decode cX6_cut 27 = .ok (.iload_n 2, 1) := by decide +kernel
theorem dX6_cut_28 : decode cX6_cut 28 = .ok (.istore 4, 2) := by decide +kernel
theorem dX6_cut_30 : decode cX6_cut 30 = .ok (.iconst 0, 1) := by decide +kernel
theorem dX6_cut_31 : decode cX6_cut 31 = .ok (.istore 5, 2) := by decide +kernel
theorem dX6_cut_33 : decode cX6_cut 33 = .ok (.iload 5, 2) := by decide +kernel
theorem dX6_cut_35 : decode cX6_cut 35 = .ok (.aload_n 0, 1) := by decide +kernel
theorem dX6_cut_36 : decode cX6_cut 36 = .ok (.getfield 105, 3) := by decide +kernel
theorem dX6_cut_39 : decode cX6_cut 39 = .ok (.if_icmp .ge 63, 3) := by decide +kernel
theorem dX6_cut_42 : decode cX6_cut 42 = .ok (.aload_n 0, 1) := by decide +kernel
theorem dX6_cut_43 : decode cX6_cut 43 = .ok (.getfield 34, 3) := by decide +kernel
theorem dX6_cut_46 : decode cX6_cut 46 = .ok (.iload 5, 2) := by decide +kernel
theorem dX6_cut_48 : decode cX6_cut 48 = .ok (.baload, 1) := by decide +kernel
theorem dX6_cut_49 : decode cX6_cut 49 = .ok (.ifCond .ne 47, 3) := by decide +kernel
theorem dX6_cut_52 : decode cX6_cut 52 = .ok (.aload_n 0, 1) := by decide +kernel
theorem dX6_cut_53 : decode cX6_cut 53 = .ok (.getfield 46, 3) := by decide +kernel
theorem dX6_cut_56 : decode cX6_cut 56 = .ok (.aload_n 0, 1) := by decide +kernel
theorem dX6_cut_57 : decode cX6_cut 57 = .ok (.getfield 24, 3) := by decide +kernel
theorem dX6_cut_60 : decode cX6_cut 60 = .ok (.iload 5, 2) := by decide +kernel
theorem dX6_cut_62 : decode cX6_cut 62 = .ok (.iaload, 1) := by decide +kernel
theorem dX6_cut_63 : decode cX6_cut 63 = .ok (.baload, 1) := by decide +kernel
theorem dX6_cut_64 : decode cX6_cut 64 = .ok (.ifCond .eq 32, 3) := by decide +kernel
theorem dX6_cut_67 : decode cX6_cut 67 = .ok (.aload_n 0, 1) := by decide +kernel
theorem dX6_cut_68 : decode cX6_cut 68 = .ok (.getfield 46, 3) := by decide +kernel
theorem dX6_cut_71 : decode cX6_cut 71 = .ok (.aload_n 0, 1) := by decide +kernel
theorem dX6_cut_72 : decode cX6_cut 72 = .ok (.getfield 28, 3) := by decide +kernel
theorem dX6_cut_75 : decode cX6_cut 75 = .ok (.iload 5, 2) := by decide +kernel
theorem dX6_cut_77 : decode cX6_cut 77 = .ok (.iaload, 1) := by decide +kernel
theorem dX6_cut_78 : decode cX6_cut 78 = .ok (.baload, 1) := by decide +kernel
theorem dX6_cut_79 : decode cX6_cut 79 = .ok (.ifCond .eq 6, 3) := by decide +kernel
theorem dX6_cut_82 : decode cX6_cut 82 = .ok (.goto 14, 3) := by decide +kernel
theorem dX6_cut_85 : decode cX6_cut 85 = .ok (.iload 4, 2) := by decide +kernel
theorem dX6_cut_87 : decode cX6_cut 87 = .ok (.ifCond .ne 6, 3) := by decide +kernel
theorem dX6_cut_90 : decode cX6_cut 90 = .ok (.iload 5, 2) := by decide +kernel
theorem dX6_cut_92 : decode cX6_cut 92 = .ok (.ireturn, 1) := by decide +kernel
theorem dX6_cut_93 : decode cX6_cut 93 = .ok (.iinc 4 (-1), 3) := by decide +kernel
theorem dX6_cut_96 : decode cX6_cut 96 = .ok (.iinc 5 1, 3) := by decide +kernel
theorem dX6_cut_99 : decode cX6_cut 99 = .ok (.goto (-66), 3) := by decide +kernel
theorem dX6_cut_102 : decode cX6_cut 102 = .ok (.iconst (-1), 1) := by decide +kernel
theorem dX6_cut_103 : decode cX6_cut 103 = .ok (.ireturn, 1) := by decide +kernel
set_option maxRecDepth 20000 in
theorem ggX6_rate_X6_flowOf : GoodIn wsX6_rate wsX6_flowOf := goodIn_r _ [7, 8, 9, 10, 11, 12, 13, 14, 15, 6, 16, 17, 18, 19, 20, 21, 22, 23, 24, 25, 26, 27, 28, 29, 30, 31, 32, 33, 34, 35, 36, 37, 38, 39, 40, 41, 42, 43, 44, 45, 46, 47, 48, 49] (by decide +kernel) (by decide +kernel)
end
section
set_option maxRecDepth 20000 in
theorem gX6_rate_X6_flowOf : GoodIn wsX6_rate (wsV RX6 127 RX6 yX6_flowOf wsX6_flowOf) := goodIn_app (goodIn_of _ (by decide +kernel)) ggX6_rate_X6_flowOf
theorem dX6_rate_0 : decode cX6_rate 0 = .ok (.iconst (-1), 1) := by decide +kernel
theorem dX6_rate_1 : decode cX6_rate 1 = .ok (.istore_n 1, 1) := by decide +kernel
theorem dX6_rate_2 : decode cX6_rate 2 = .ok (.iconst 1, 1) := by decide +kernel
theorem dX6_rate_3 : decode cX6_rate 3 = .ok (.istore_n 2, 1) := by decide +kernel
theorem dX6_rate_4 : decode cX6_rate 4 = .ok (.iload_n 2, 1) := by decide +kernel
theorem dX6_rate_5 : decode cX6_rate 5 = .ok (.aload_n 0, 1) := by decide +kernel
theorem dX6_rate_6 : decode cX6_rate 6 = .ok (.getfield 7, 3) := by decide +kernel
theorem dX6_rate_9 : decode cX6_rate 9 = .ok (.if_icmp .ge 43, 3) := by decide +kernel
theorem dX6_rate_12 : decode cX6_rate 12 = .ok (.aload_n 0, 1) := by decide +kernel
theorem dX6_rate_13 : decode cX6_rate 13 = .ok (.getfield 20, 3) := by decide +kernel
theorem dX6_rate_16 : decode cX6_rate 16 = .ok (.iload_n 2, 1) := by decide +kernel
theorem dX6_rate_17 : decode cX6_rate 17 = .ok (.baload, 1) := by decide +kernel
theorem dX6_rate_18 : decode cX6_rate 18 = .ok (.ifCond .ne 6, 3) := by decide +kernel
theorem dX6_rate_21 : decode cX6_rate 21 = .ok (.goto 25, 3) := by decide +kernel
theorem dX6_rate_24 : decode cX6_rate 24 = .ok (.aload_n 0, 1) := by decide +kernel
theorem dX6_rate_25 : decode cX6_rate 25 = .ok (.iload_n 2, 1) := by decide +kernel
theorem dX6_rate_26 : decode cX6_rate 26 = .ok (.invokevirtual 127, 3) := by decide +kernel
theorem dX6_rate_29 : decode cX6_rate 29 = .ok (.istore_n 3, 1) := by decide +kernel
theorem dX6_rate_30 : decode cX6_rate 30 = .ok (.iload_n 1, 1) := by decide +kernel
theorem dX6_rate_31 : decode cX6_rate 31 = .ok (.iconst (-1), 1) := by decide +kernel
theorem dX6_rate_32 : decode cX6_rate 32 = .ok (.if_icmp .eq 8, 3) := by decide +kernel
theorem dX6_rate_35 : decode cX6_rate 35 = .ok (.iload_n 3, 1) := by decide +kernel
theorem dX6_rate_36 : decode cX6_rate 36 = .ok (.iload_n 1, 1) := by decide +kernel
theorem dX6_rate_37 : decode cX6_rate 37 = .ok (.if_icmp .ge 7, 3) := by decide +kernel
theorem dX6_rate_40 : decode cX6_rate 40 = .ok (.iload_n 3, 1) := by decide +kernel
theorem dX6_rate_41 : decode cX6_rate 41 = .ok (.goto 4, 3) := by decide +kernel
theorem dX6_rate_44 : decode cX6_rate 44 = .ok (.iload_n 1, 1) := by decide +kernel
theorem dX6_rate_45 : decode cX6_rate 45 = .ok (.istore_n 1, 1) := by decide +kernel
theorem dX6_rate_46 : decode cX6_rate 46 = .ok (.iinc 2 1, 3) := by decide +kernel
theorem dX6_rate_49 : decode cX6_rate 49 = .ok (.goto (-45), 3) := by decide +kernel
theorem dX6_rate_52 : decode cX6_rate 52 = .ok (.iload_n 1, 1) := by decide +kernel
theorem dX6_rate_53 : decode cX6_rate 53 = .ok (.iconst (-1), 1) := by decide +kernel
theorem dX6_rate_54 : decode cX6_rate 54 = .ok (.if_icmp .ne 7, 3) := by decide +kernel
theorem dX6_rate_57 : decode cX6_rate 57 = .ok (.iconst 0, 1) := by decide +kernel
theorem dX6_rate_58 : decode cX6_rate 58 = .ok (.goto 4, 3) := by decide +kernel
theorem dX6_rate_61 : decode cX6_rate 61 = .ok (.iload_n 1, 1) := by decide +kernel
theorem dX6_rate_62 : decode cX6_rate 62 = .ok (.ireturn, 1) := by decide +kernel
set_option maxRecDepth 20000 in
theorem ggX6_work_X6_workLine : GoodIn wsX6_work wsX6_workLine := goodIn_r _ [8, 9, 10, 11, 12, 13, 14, 3, 15, 16, 17, 18, 19, 20, 7, 21, 22, 23, 24, 25, 2, 26, 27, 28, 29, 30, 31, 32, 33, 34, 35, 36, 37, 38, 39, 40, 41, 42, 43, 44, 45, 46, 47, 48, 49, 50, 51, 52, 53, 54, 55, 56, 57, 58, 59, 60, 61, 62, 63, 64, 65, 66, 67, 68] (by decide +kernel) (by decide +kernel)
set_option maxRecDepth 20000 in
theorem gX6_work_X6_workLine : GoodIn wsX6_work (wsV RX6 130 RX6 yX6_workLine wsX6_workLine) := goodIn_app (goodIn_of _ (by decide +kernel)) ggX6_work_X6_workLine
theorem dX6_work_0 : decode cX6_work 0 = .ok (.iconst 0, 1) := by decide +kernel
theorem dX6_work_1 : decode cX6_work 1 = .ok (.istore_n 1, 1) := by decide +kernel
theorem dX6_work_2 : decode cX6_work 2 = .ok (.iload_n 1, 1) := by decide +kernel
theorem dX6_work_3 : decode cX6_work 3 = .ok (.aload_n 0, 1) := by decide +kernel
theorem dX6_work_4 : decode cX6_work 4 = .ok (.getfield 7, 3) := by decide +kernel
theorem dX6_work_7 : decode cX6_work 7 = .ok (.if_icmp .ge 40, 3) := by decide +kernel
theorem dX6_work_10 : decode cX6_work 10 = .ok (.iconst 0, 1) := by decide +kernel
theorem dX6_work_11 : decode cX6_work 11 = .ok (.istore_n 2, 1) := by decide +kernel
theorem dX6_work_12 : decode cX6_work 12 = .ok (.iload_n 2, 1) := by decide +kernel
theorem dX6_work_13 : decode cX6_work 13 = .ok (.aload_n 0, 1) := by decide +kernel
theorem dX6_work_14 : decode cX6_work 14 = .ok (.getfield 105, 3) := by decide +kernel
theorem dX6_work_17 : decode cX6_work 17 = .ok (.if_icmp .ge 24, 3) := by decide +kernel
theorem dX6_work_20 : decode cX6_work 20 = .ok (.aload_n 0, 1) := by decide +kernel
theorem dX6_work_21 : decode cX6_work 21 = .ok (.getfield 24, 3) := by decide +kernel
theorem dX6_work_24 : decode cX6_work 24 = .ok (.iload_n 2, 1) := by decide +kernel
theorem dX6_work_25 : decode cX6_work 25 = .ok (.iaload, 1) := by decide +kernel
theorem dX6_work_26 : decode cX6_work 26 = .ok (.iload_n 1, 1) := by decide +kernel
theorem dX6_work_27 : decode cX6_work 27 = .ok (.if_icmp .ne 8, 3) := by decide +kernel
theorem dX6_work_30 : decode cX6_work 30 = .ok (.aload_n 0, 1) := by decide +kernel
theorem dX6_work_31 : decode cX6_work 31 = .ok (.iload_n 2, 1) := by decide +kernel
theorem dX6_work_32 : decode cX6_work 32 = .ok (.invokevirtual 130, 3) := by decide +kernel
theorem dX6_work_35 : decode cX6_work 35 = .ok (.iinc 2 1, 3) := by decide +kernel
theorem dX6_work_38 : decode cX6_work 38 = .ok (.goto (-26), 3) := by decide +kernel
theorem dX6_work_41 : decode cX6_work 41 = .ok (.iinc 1 1, 3) := by decide +kernel
theorem dX6_work_44 : decode cX6_work 44 = .ok (.goto (-42), 3) := by decide +kernel
theorem dX6_work_47 : decode cX6_work 47 = .ok (.return_, 1) := by decide +kernel
set_option maxRecDepth 20000 in
theorem ggX6_workLine_X6_ins : GoodIn wsX6_workLine wsX6_ins := goodIn_r _ [15, 7, 9, 16, 17, 18, 14, 19, 20, 21, 33, 34, 35, 36, 37, 38, 39, 40, 41, 42, 43, 44, 45, 46, 47, 48, 49, 50, 51, 52, 53, 54, 55, 56, 57, 58, 59, 60, 61, 62, 63] (by decide +kernel) (by decide +kernel)
set_option maxRecDepth 20000 in
theorem gX6_workLine_X6_ins : GoodIn wsX6_workLine (wsV RX6 118 RX6 yX6_ins wsX6_ins) := goodIn_app (goodIn_of _ (by decide +kernel)) ggX6_workLine_X6_ins
set_option maxRecDepth 20000 in
theorem ggX6_workLine_X6_lineIn : GoodIn wsX6_workLine wsX6_lineIn := goodIn_r _ [25, 20, 21, 33, 34, 35, 36, 37, 38, 39, 40, 41, 42, 43, 44, 45, 46, 47, 48, 49, 50, 51, 52, 53, 54, 55, 56, 57, 58, 59, 60, 61, 62, 63] (by decide +kernel) (by decide +kernel)
set_option maxRecDepth 20000 in
theorem gX6_workLine_X6_lineIn : GoodIn wsX6_workLine (wsV RX6 134 RX6 yX6_lineIn wsX6_lineIn) := goodIn_app (goodIn_of _ (by decide +kernel)) ggX6_workLine_X6_lineIn
set_option maxRecDepth 20000 in
theorem ggX6_workLine_X6_product_ : GoodIn wsX6_workLine wsX6_product_ := goodIn_r _ [28, 29, 30, 31, 14, 32] (by decide +kernel) (by decide +kernel)
set_option maxRecDepth 20000 in
theorem gX6_workLine_X6_product_ : GoodIn wsX6_workLine (va_wsS RX6 137 yX6_product_ wsX6_product_) := goodIn_app (goodIn_of _ (by decide +kernel)) ggX6_workLine_X6_product_
set_option maxRecDepth 20000 in
theorem ggX6_workLine_X6_product : GoodIn wsX6_workLine wsX6_product := goodIn_r _ [32] (by decide +kernel) (by decide +kernel)
set_option maxRecDepth 20000 in
theorem gX6_workLine_X6_product : GoodIn wsX6_workLine (va_wsS RX6 91 yX6_product wsX6_product) := goodIn_app (goodIn_of _ (by decide +kernel)) ggX6_workLine_X6_product
theorem dX6_workLine_0 : decode cX6_workLine 0 = .ok (.aload_n 0, 1) := by decide +kernel
theorem dX6_workLine_1 : decode cX6_workLine 1 = .ok (.getfield 55, 3) := by decide +kernel
theorem dX6_workLine_4 : decode cX6_workLine 4 = .ok (.iload_n 1, 1) := by decide +kernel
theorem dX6_workLine_5 : decode cX6_workLine 5 = .ok (.lconst 0, 1) := by decide +kernel
theorem dX6_workLine_6 : decode cX6_workLine 6 = .ok (.lastore, 1) := by decide +kernel
theorem dX6_workLine_7 : decode cX6_workLine 7 = .ok (.iconst 0, 1) := by decide +kernel
theorem dX6_workLine_8 : decode cX6_workLine 8 = .ok (.istore_n 2, 1) := by decide +kernel
theorem dX6_workLine_9 : decode cX6_workLine 9 = .ok (.iload_n 2, 1) := by decide +kernel
theorem dX6_workLine_10 : decode cX6_workLine 10 = .ok (.iconst 4, 1) := by decide +kernel
theorem dX6_workLine_11 : decode cX6_workLine 11 = .ok (.if_icmp .ge 20, 3) := by decide +kernel
theorem dX6_workLine_14 : decode cX6_workLine 14 = .ok (.aload_n 0, 1) := by decide +kernel
theorem dX6_workLine_15 : decode cX6_workLine 15 = .ok (.getfield 52, 3) := by decide +kernel
theorem dX6_workLine_18 : decode cX6_workLine 18 = .ok (.iconst 4, 1) := by decide +kernel
theorem dX6_workLine_19 : decode cX6_workLine 19 = .ok (.iload_n 1, 1) := by decide +kernel
theorem dX6_workLine_20 : decode cX6_workLine 20 = .ok (.imul, 1) := by decide +kernel
theorem dX6_workLine_21 : decode cX6_workLine 21 = .ok (.iload_n 2, 1) := by decide +kernel
theorem dX6_workLine_22 : decode cX6_workLine 22 = .ok (.iadd, 1) := by decide +kernel
theorem dX6_workLine_23 : decode cX6_workLine 23 = .ok (.iconst 0, 1) := by decide +kernel
theorem dX6_workLine_24 : decode cX6_workLine 24 = .ok (.iastore, 1) := by decide +kernel
theorem dX6_workLine_25 : decode cX6_workLine 25 = .ok (.iinc 2 1, 3) := by decide +kernel
theorem dX6_workLine_28 : decode cX6_workLine 28 = .ok (.goto (-19), 3) := by decide +kernel
theorem dX6_workLine_31 : decode cX6_workLine 31 = .ok (.aload_n 0, 1) := by decide +kernel
theorem dX6_workLine_32 : decode cX6_workLine 32 = .ok (.getfield 34, 3) := by decide +kernel
theorem dX6_workLine_35 : decode cX6_workLine 35 = .ok (.iload_n 1, 1) := by decide +kernel
theorem dX6_workLine_36 : decode cX6_workLine 36 = .ok (.baload, 1) := by decide +kernel
theorem dX6_workLine_37 : decode cX6_workLine 37 = .ok (.ifCond .ne 19, 3) := by decide +kernel
theorem dX6_workLine_40 : decode cX6_workLine 40 = .ok (.iload_n 1, 1) := by decide +kernel
theorem dX6_workLine_41 : decode cX6_workLine 41 = .ok (.aload_n 0, 1) := by decide +kernel
theorem dX6_workLine_42 : decode cX6_workLine 42 = .ok (.getfield 58, 3) := by decide +kernel
theorem dX6_workLine_45 : decode cX6_workLine 45 = .ok (.if_icmp .eq 11, 3) := by decide +kernel
theorem dX6_workLine_48 : decode cX6_workLine 48 = .ok (.iload_n 1, 1) := by decide +kernel
theorem dX6_workLine_49 : decode cX6_workLine 49 = .ok (.aload_n 0, 1) := by decide +kernel
theorem dX6_workLine_50 : decode cX6_workLine 50 = .ok (.getfield 61, 3) := by decide +kernel
theorem dX6_workLine_53 : decode cX6_workLine 53 = .ok (.if_icmp .ne 4, 3) := by decide +kernel
theorem dX6_workLine_56 : decode cX6_workLine 56 = .ok (.return_, 1) := by decide +kernel
theorem dX6_workLine_57 : decode cX6_workLine 57 = .ok (.aload_n 0, 1) := by decide +kernel
theorem dX6_workLine_58 : decode cX6_workLine 58 = .ok (.iload_n 1, 1) := by decide +kernel
theorem dX6_workLine_59 : decode cX6_workLine 59 = .ok (.invokevirtual 118, 3) := by decide +kernel
theorem dX6_workLine_62 : decode cX6_workLine 62 = .ok (.istore_n 2, 1) := by decide +kernel
theorem dX6_workLine_63 : decode cX6_workLine 63 = .ok (.iconst 0, 1) := by decide +kernel
theorem dX6_workLine_64 : decode cX6_workLine 64 = .ok (.istore_n 3, 1) := by decide +kernel
theorem dX6_workLine_65 : decode cX6_workLine 65 = .ok (.iload_n 3, 1) := by decide +kernel
theorem dX6_workLine_66 : decode cX6_workLine 66 = .ok (.iload_n 2, 1) := by decide +kernel
theorem dX6_workLine_67 : decode cX6_workLine 67 = .ok (.if_icmp .ge 154, 3) := by decide +kernel
theorem dX6_workLine_70 : decode cX6_workLine 70 = .ok (.aload_n 0, 1) := by decide +kernel
theorem dX6_workLine_71 : decode cX6_workLine 71 = .ok (.getfield 40, 3) := by decide +kernel
theorem dX6_workLine_74 : decode cX6_workLine 74 = .ok (.bipush 30, 2) := by decide +kernel
theorem dX6_workLine_76 : decode cX6_workLine 76 = .ok (.iload_n 1, 1) := by decide +kernel
theorem dX6_workLine_77 : decode cX6_workLine 77 = .ok (.imul, 1) := by decide +kernel
theorem dX6_workLine_78 : decode cX6_workLine 78 = .ok (.iload_n 3, 1) := by decide +kernel
theorem dX6_workLine_79 : decode cX6_workLine 79 = .ok (.iadd, 1) := by decide +kernel
theorem dX6_workLine_80 : decode cX6_workLine 80 = .ok (.iaload, 1) := by decide +kernel
theorem dX6_workLine_81 : decode cX6_workLine 81 = .ok (.istore 4, 2) := by decide +kernel
theorem dX6_workLine_83 : decode cX6_workLine 83 = .ok (.aload_n 0, 1) := by decide +kernel
theorem dX6_workLine_84 : decode cX6_workLine 84 = .ok (.getfield 24, 3) := by decide +kernel
theorem dX6_workLine_87 : decode cX6_workLine 87 = .ok (.iload_n 1, 1) := by decide +kernel
theorem dX6_workLine_88 : decode cX6_workLine 88 = .ok (.iaload, 1) := by decide +kernel
theorem dX6_workLine_89 : decode cX6_workLine 89 = .ok (.ifCond .ne 7, 3) := by decide +kernel
theorem dX6_workLine_92 : decode cX6_workLine 92 = .ok (.iconst (-1), 1) := by decide +kernel
theorem dX6_workLine_93 : decode cX6_workLine 93 = .ok (.goto 14, 3) := by decide +kernel
theorem dX6_workLine_96 : decode cX6_workLine 96 = .ok (.aload_n 0, 1) := by decide +kernel
theorem dX6_workLine_97 : decode cX6_workLine 97 = .ok (.aload_n 0, 1) := by decide +kernel
theorem dX6_workLine_98 : decode cX6_workLine 98 = .ok (.getfield 24, 3) := by decide +kernel
theorem dX6_workLine_101 : decode cX6_workLine 101 = .ok (.iload_n 1, 1) := by decide +kernel
theorem dX6_workLine_102 : decode cX6_workLine 102 = .ok (.iaload, 1) := by decide +kernel
theorem dX6_workLine_103 : decode cX6_workLine 103 = .ok (.iload_n 3, 1) := by decide +kernel
theorem dX6_workLine_104 : decode cX6_workLine 104 = .ok (.invokevirtual 134, 3) := by decide +kernel
theorem dX6_workLine_107 : decode cX6_workLine 107 = .ok (.istore 5, 2) := by decide +kernel
theorem dX6_workLine_109 : decode cX6_workLine 109 = .ok (.aload_n 0, 1) := by decide +kernel
theorem dX6_workLine_110 : decode cX6_workLine 110 = .ok (.getfield 55, 3) := by decide +kernel
theorem dX6_workLine_113 : decode cX6_workLine 113 = .ok (.iload_n 1, 1) := by decide +kernel
theorem dX6_workLine_114 : decode cX6_workLine 114 = .ok (.dup2, 1) := by decide +kernel
theorem dX6_workLine_115 : decode cX6_workLine 115 = .ok (.laload, 1) := by decide +kernel
theorem dX6_workLine_116 : decode cX6_workLine 116 = .ok (.iload 4, 2) := by decide +kernel
theorem dX6_workLine_118 : decode cX6_workLine 118 = .ok (.iload 5, 2) := by decide +kernel
theorem dX6_workLine_120 : decode cX6_workLine 120 = .ok (.iconst (-1), 1) := by decide +kernel
theorem dX6_workLine_121 : decode cX6_workLine 121 = .ok (.if_icmp .ne 12, 3) := by decide +kernel
theorem dX6_workLine_124 : decode cX6_workLine 124 = .ok (.aload_n 0, 1) := by decide +kernel
theorem dX6_workLine_125 : decode cX6_workLine 125 = .ok (.getfield 16, 3) := by decide +kernel
theorem dX6_workLine_128 : decode cX6_workLine 128 = .ok (.iload_n 3, 1) := by decide +kernel
theorem dX6_workLine_129 : decode cX6_workLine 129 = .ok (.laload, 1) := by decide +kernel
theorem dX6_workLine_130 : decode cX6_workLine 130 = .ok (.goto 10, 3) := by decide +kernel
theorem dX6_workLine_133 : decode cX6_workLine 133 = .ok (.aload_n 0, 1) := by decide +kernel
theorem dX6_workLine_134 : decode cX6_workLine 134 = .ok (.getfield 55, 3) := by decide +kernel
theorem dX6_workLine_137 : decode cX6_workLine 137 = .ok (.iload 5, 2) := by decide +kernel
theorem dX6_workLine_139 : decode cX6_workLine 139 = .ok (.laload, 1) := by decide +kernel
theorem dX6_workLine_140 : decode cX6_workLine 140 = .ok (.invokestatic 137, 3) := by decide +kernel
theorem dX6_workLine_143 : decode cX6_workLine 143 = .ok (.lxor, 1) := by decide +kernel
theorem dX6_workLine_144 : decode cX6_workLine 144 = .ok (.lastore, 1) := by decide +kernel
theorem dX6_workLine_145 : decode cX6_workLine 145 = .ok (.iconst 0, 1) := by decide +kernel
theorem dX6_workLine_146 : decode cX6_workLine 146 = .ok (.istore 6, 2) := by decide +kernel
theorem dX6_workLine_148 : decode cX6_workLine 148 = .ok (.iload 6, 2) := by decide +kernel
theorem dX6_workLine_150 : decode cX6_workLine 150 = .ok (.aload_n 0, 1) := by decide +kernel
theorem dX6_workLine_151 : decode cX6_workLine 151 = .ok (.getfield 13, 3) := by decide +kernel
theorem dX6_workLine_154 : decode cX6_workLine 154 = .ok (.if_icmp .ge 61, 3) := by decide +kernel
theorem dX6_workLine_157 : decode cX6_workLine 157 = .ok (.aload_n 0, 1) := by decide +kernel
theorem dX6_workLine_158 : decode cX6_workLine 158 = .ok (.getfield 52, 3) := by decide +kernel
theorem dX6_workLine_161 : decode cX6_workLine 161 = .ok (.iconst 4, 1) := by decide +kernel
theorem dX6_workLine_162 : decode cX6_workLine 162 = .ok (.iload_n 1, 1) := by decide +kernel
theorem dX6_workLine_163 : decode cX6_workLine 163 = .ok (.imul, 1) := by decide +kernel
theorem dX6_workLine_164 : decode cX6_workLine 164 = .ok (.iload 6, 2) := by decide +kernel
theorem dX6_workLine_166 : decode cX6_workLine 166 = .ok (.iadd, 1) := by decide +kernel
theorem dX6_workLine_167 : decode cX6_workLine 167 = .ok (.dup2, 1) := by decide +kernel
theorem dX6_workLine_168 : decode cX6_workLine 168 = .ok (.iaload, 1) := by decide +kernel
theorem dX6_workLine_169 : decode cX6_workLine 169 = .ok (.iload 5, 2) := by decide +kernel
theorem dX6_workLine_171 : decode cX6_workLine 171 = .ok (.iconst (-1), 1) := by decide +kernel
theorem dX6_workLine_172 : decode cX6_workLine 172 = .ok (.if_icmp .ne 18, 3) := by decide +kernel
theorem dX6_workLine_175 : decode cX6_workLine 175 = .ok (.iload 6, 2) := by decide +kernel
theorem dX6_workLine_177 : decode cX6_workLine 177 = .ok (.iload_n 3, 1) := by decide +kernel
theorem dX6_workLine_178 : decode cX6_workLine 178 = .ok (.if_icmp .ne 8, 3) := by decide +kernel
theorem dX6_workLine_181 : decode cX6_workLine 181 = .ok (.iload 4, 2) := by decide +kernel
theorem dX6_workLine_183 : decode cX6_workLine 183 = .ok (.goto 24, 3) := by decide +kernel
theorem dX6_workLine_186 : decode cX6_workLine 186 = .ok (.iconst 0, 1) := by decide +kernel
theorem dX6_workLine_187 : decode cX6_workLine 187 = .ok (.goto 20, 3) := by decide +kernel
theorem dX6_workLine_190 : decode cX6_workLine 190 = .ok (.iload 4, 2) := by decide +kernel
theorem dX6_workLine_192 : decode cX6_workLine 192 = .ok (.aload_n 0, 1) := by decide +kernel
theorem dX6_workLine_193 : decode cX6_workLine 193 = .ok (.getfield 52, 3) := by decide +kernel
theorem dX6_workLine_196 : decode cX6_workLine 196 = .ok (.iconst 4, 1) := by decide +kernel
theorem dX6_workLine_197 : decode cX6_workLine 197 = .ok (.iload 5, 2) := by decide +kernel
theorem dX6_workLine_199 : decode cX6_workLine 199 = .ok (.imul, 1) := by decide +kernel
theorem dX6_workLine_200 : decode cX6_workLine 200 = .ok (.iload 6, 2) := by decide +kernel
theorem dX6_workLine_202 : decode cX6_workLine 202 = .ok (.iadd, 1) := by decide +kernel
theorem dX6_workLine_203 : decode cX6_workLine 203 = .ok (.iaload, 1) := by decide +kernel
theorem dX6_workLine_204 : decode cX6_workLine 204 = .ok (.invokestatic 91, 3) := by decide +kernel
theorem dX6_workLine_207 : decode cX6_workLine 207 = .ok (.ixor, 1) := by decide +kernel
theorem dX6_workLine_208 : decode cX6_workLine 208 = .ok (.iastore, 1) := by decide +kernel
theorem dX6_workLine_209 : decode cX6_workLine 209 = .ok (.iinc 6 1, 3) := by decide +kernel
theorem dX6_workLine_212 : decode cX6_workLine 212 = .ok (.goto (-64), 3) := by decide +kernel
theorem dX6_workLine_215 : decode cX6_workLine 215 = .ok (.iinc 3 1, 3) := by decide +kernel
theorem dX6_workLine_218 : decode cX6_workLine 218 = .ok (.goto (-153), 3) := by decide +kernel
theorem dX6_workLine_221 : decode cX6_workLine 221 = .ok (.aload_n 0, 1) := by decide +kernel
theorem dX6_workLine_222 : decode cX6_workLine 222 = .ok (.getfield 55, 3) := by decide +kernel
theorem dX6_workLine_225 : decode cX6_workLine 225 = .ok (.iload_n 1, 1) := by decide +kernel
theorem dX6_workLine_226 : decode cX6_workLine 226 = .ok (.dup2, 1) := by decide +kernel
theorem dX6_workLine_227 : decode cX6_workLine 227 = .ok (.laload, 1) := by decide +kernel
theorem dX6_workLine_228 : decode cX6_workLine 228 = .ok (.aload_n 0, 1) := by decide +kernel
theorem dX6_workLine_229 : decode cX6_workLine 229 = .ok (.getfield 37, 3) := by decide +kernel
theorem dX6_workLine_232 : decode cX6_workLine 232 = .ok (.iload_n 1, 1) := by decide +kernel
theorem dX6_workLine_233 : decode cX6_workLine 233 = .ok (.laload, 1) := by decide +kernel
theorem dX6_workLine_234 : decode cX6_workLine 234 = .ok (.lxor, 1) := by decide +kernel
theorem dX6_workLine_235 : decode cX6_workLine 235 = .ok (.lastore, 1) := by decide +kernel
theorem dX6_workLine_236 : decode cX6_workLine 236 = .ok (.return_, 1) := by decide +kernel
set_option maxRecDepth 20000 in
theorem ggX6_vector_X6_isLine : GoodIn wsX6_vector wsX6_isLine := goodIn_r _ [7, 8, 9, 10, 6, 11, 49, 50, 51, 52, 53, 54, 55, 56, 57, 58, 59, 60, 61, 62, 63, 64, 65, 66, 67, 68, 69, 70, 71, 72, 73, 74, 75, 76, 77, 78, 79] (by decide +kernel) (by decide +kernel)
set_option maxRecDepth 20000 in
theorem gX6_vector_X6_isLine : GoodIn wsX6_vector (wsV RX6 115 RX6 yX6_isLine wsX6_isLine) := goodIn_app (goodIn_of _ (by decide +kernel)) ggX6_vector_X6_isLine
set_option maxRecDepth 20000 in
theorem ggX6_vector_X6_in : GoodIn wsX6_vector wsX6_in := goodIn_r _ [11] (by decide +kernel) (by decide +kernel)
set_option maxRecDepth 20000 in
theorem gX6_vector_X6_in : GoodIn wsX6_vector (va_wsS RX6 97 yX6_in wsX6_in) := goodIn_app (goodIn_of _ (by decide +kernel)) ggX6_vector_X6_in
set_option maxRecDepth 20000 in
theorem ggX6_vector_X6_work : GoodIn wsX6_vector wsX6_work := goodIn_r _ [15, 16, 8, 17, 18, 19, 20, 6, 21, 22, 2, 23, 24, 25, 26, 27, 1, 28, 29, 30, 31, 32, 33, 34, 35, 36, 37, 38, 39, 40, 41, 42, 43, 44, 45, 46, 47, 48, 49, 50, 51, 52, 53, 54, 55, 56, 57, 58, 59, 60, 61, 62, 63, 64, 65, 66, 67, 68, 69, 70, 71, 72, 73, 74, 75, 76, 77, 78, 79] (by decide +kernel) (by decide +kernel)
set_option maxRecDepth 20000 in
theorem gX6_vector_X6_work : GoodIn wsX6_vector (wsV RX6 140 RX6 yX6_work wsX6_work) := goodIn_app (goodIn_of _ (by decide +kernel)) ggX6_vector_X6_work
theorem dX6_vector_0 : decode cX6_vector 0 = .ok (.aload_n 0, 1) := by decide +kernel
theorem dX6_vector_1 : decode cX6_vector 1 = .ok (.iload_n 1, 1) := by decide +kernel
theorem dX6_vector_2 : decode cX6_vector 2 = .ok (.invokevirtual 115, 3) := by decide +kernel
theorem dX6_vector_5 : decode cX6_vector 5 = .ok (.ifCond .eq 17, 3) := by decide +kernel
theorem dX6_vector_8 : decode cX6_vector 8 = .ok (.iload_n 2, 1) := by decide +kernel
theorem dX6_vector_9 : decode cX6_vector 9 = .ok (.iconst 0, 1) := by decide +kernel
theorem dX6_vector_10 : decode cX6_vector 10 = .ok (.aload_n 0, 1) := by decide +kernel
theorem dX6_vector_11 : decode cX6_vector 11 = .ok (.getfield 13, 3) := by decide +kernel
theorem dX6_vector_14 : decode cX6_vector 14 = .ok (.iconst 1, 1) := by decide +kernel
theorem dX6_vector_15 : decode cX6_vector 15 = .ok (.isub, 1) := by decide +kernel
theorem dX6_vector_16 : decode cX6_vector 16 = .ok (.invokestatic 97, 3) := by decide +kernel
theorem dX6_vector_19 : decode cX6_vector 19 = .ok (.ifCond .ne 5, 3) := by decide +kernel
theorem dX6_vector_22 : decode cX6_vector 22 = .ok (.iconst (-1), 1) := by decide +kernel
theorem dX6_vector_23 : decode cX6_vector 23 = .ok (.ireturn, 1) := by decide +kernel
theorem dX6_vector_24 : decode cX6_vector 24 = .ok (.aload_n 0, 1) := by decide +kernel
theorem dX6_vector_25 : decode cX6_vector 25 = .ok (.invokevirtual 140, 3) := by decide +kernel
theorem dX6_vector_28 : decode cX6_vector 28 = .ok (.aload_n 0, 1) := by decide +kernel
theorem dX6_vector_29 : decode cX6_vector 29 = .ok (.getfield 52, 3) := by decide +kernel
theorem dX6_vector_32 : decode cX6_vector 32 = .ok (.iconst 4, 1) := by decide +kernel
theorem dX6_vector_33 : decode cX6_vector 33 = .ok (.iload_n 1, 1) := by decide +kernel
theorem dX6_vector_34 : decode cX6_vector 34 = .ok (.imul, 1) := by decide +kernel
theorem dX6_vector_35 : decode cX6_vector 35 = .ok (.iload_n 2, 1) := by decide +kernel
theorem dX6_vector_36 : decode cX6_vector 36 = .ok (.iadd, 1) := by decide +kernel
theorem dX6_vector_37 : decode cX6_vector 37 = .ok (.iaload, 1) := by decide +kernel
theorem dX6_vector_38 : decode cX6_vector 38 = .ok (.ireturn, 1) := by decide +kernel
set_option maxRecDepth 20000 in
theorem ggX6_carries_X6_isLine : GoodIn wsX6_carries wsX6_isLine := goodIn_r _ [6, 7, 8, 9, 5, 10, 49, 50, 51, 52, 53, 54, 55, 56, 57, 58, 59, 60, 61, 62, 63, 64, 65, 66, 67, 68, 69, 70, 71, 72, 73, 74, 75, 76, 77, 78, 79] (by decide +kernel) (by decide +kernel)
set_option maxRecDepth 20000 in
theorem gX6_carries_X6_isLine : GoodIn wsX6_carries (wsV RX6 115 RX6 yX6_isLine wsX6_isLine) := goodIn_app (goodIn_of _ (by decide +kernel)) ggX6_carries_X6_isLine
set_option maxRecDepth 20000 in
theorem ggX6_carries_X6_work : GoodIn wsX6_carries wsX6_work := goodIn_r _ [14, 15, 7, 16, 17, 18, 19, 5, 20, 1, 21, 22, 23, 24, 25, 26, 27, 28, 29, 30, 31, 32, 33, 34, 35, 36, 37, 38, 39, 40, 41, 42, 43, 44, 45, 46, 47, 48, 49, 50, 51, 52, 53, 54, 55, 56, 57, 58, 59, 60, 61, 62, 63, 64, 65, 66, 67, 68, 69, 70, 71, 72, 73, 74, 75, 76, 77, 78, 79] (by decide +kernel) (by decide +kernel)
set_option maxRecDepth 20000 in
theorem gX6_carries_X6_work : GoodIn wsX6_carries (wsV RX6 140 RX6 yX6_work wsX6_work) := goodIn_app (goodIn_of _ (by decide +kernel)) ggX6_carries_X6_work
theorem dX6_carries_0 : decode cX6_carries 0 = .ok (.aload_n 0, 1) := by decide +kernel
theorem dX6_carries_1 : decode cX6_carries 1 = .ok (.iload_n 1, 1) := by decide +kernel
theorem dX6_carries_2 : decode cX6_carries 2 = .ok (.invokevirtual 115, 3) := by decide +kernel
theorem dX6_carries_5 : decode cX6_carries 5 = .ok (.ifCond .ne 5, 3) := by decide +kernel
theorem dX6_carries_8 : decode cX6_carries 8 = .ok (.lconst 0, 1) := by decide +kernel
theorem dX6_carries_9 : decode cX6_carries 9 = .ok (.lreturn, 1) := by decide +kernel
theorem dX6_carries_10 : decode cX6_carries 10 = .ok (.aload_n 0, 1) := by decide +kernel
theorem dX6_carries_11 : decode cX6_carries 11 = .ok (.invokevirtual 140, 3) := by decide +kernel
theorem dX6_carries_14 : decode cX6_carries 14 = .ok (.aload_n 0, 1) := by decide +kernel
theorem dX6_carries_15 : decode cX6_carries 15 = .ok (.getfield 55, 3) := by decide +kernel
theorem dX6_carries_18 : decode cX6_carries 18 = .ok (.iload_n 1, 1) := by decide +kernel
theorem dX6_carries_19 : decode cX6_carries 19 = .ok (.laload, 1) := by decide +kernel
theorem dX6_carries_20 : decode cX6_carries 20 = .ok (.lreturn, 1) := by decide +kernel
set_option maxRecDepth 20000 in
theorem ggX6_reduce_X6_product : GoodIn wsX6_reduce wsX6_product := goodIn_r _ [8] (by decide +kernel) (by decide +kernel)
set_option maxRecDepth 20000 in
theorem gX6_reduce_X6_product : GoodIn wsX6_reduce (va_wsS RX6 91 yX6_product wsX6_product) := goodIn_app (goodIn_of _ (by decide +kernel)) ggX6_reduce_X6_product
theorem dX6_reduce_0 : decode cX6_reduce 0 = .ok (.iconst 0, 1) := by decide +kernel
theorem dX6_reduce_1 : decode cX6_reduce 1 = .ok (.istore_n 1, 1) := by decide +kernel
theorem dX6_reduce_2 : decode cX6_reduce 2 = .ok (.iload_n 1, 1) := by decide +kernel
theorem dX6_reduce_3 : decode cX6_reduce 3 = .ok (.aload_n 0, 1) := by decide +kernel
theorem dX6_reduce_4 : decode cX6_reduce 4 = .ok (.getfield 143, 3) := by decide +kernel
theorem dX6_reduce_7 : decode cX6_reduce 7 = .ok (.if_icmp .ge 63, 3) := by decide +kernel
theorem dX6_reduce_10 : decode cX6_reduce 10 = .ok (.aload_n 0, 1) := by decide +kernel
theorem dX6_reduce_11 : decode cX6_reduce 11 = .ok (.getfield 73, 3) := by decide +kernel
theorem dX6_reduce_14 : decode cX6_reduce 14 = .ok (.aload_n 0, 1) := by decide +kernel
theorem dX6_reduce_15 : decode cX6_reduce 15 = .ok (.getfield 67, 3) := by decide +kernel
theorem dX6_reduce_18 : decode cX6_reduce 18 = .ok (.iload_n 1, 1) := by decide +kernel
theorem dX6_reduce_19 : decode cX6_reduce 19 = .ok (.iaload, 1) := by decide +kernel
theorem dX6_reduce_20 : decode cX6_reduce 20 = .ok (.iaload, 1) := by decide +kernel
theorem dX6_reduce_21 : decode cX6_reduce 21 = .ok (.istore_n 2, 1) := by decide +kernel
theorem dX6_reduce_22 : decode cX6_reduce 22 = .ok (.iconst 0, 1) := by decide +kernel
theorem dX6_reduce_23 : decode cX6_reduce 23 = .ok (.istore_n 3, 1) := by decide +kernel
theorem dX6_reduce_24 : decode cX6_reduce 24 = .ok (.iload_n 3, 1) := by decide +kernel
theorem dX6_reduce_25 : decode cX6_reduce 25 = .ok (.bipush 9, 2) := by decide +kernel
theorem dX6_reduce_27 : decode cX6_reduce 27 = .ok (.if_icmp .ge 37, 3) := by decide +kernel
theorem dX6_reduce_30 : decode cX6_reduce 30 = .ok (.iload_n 2, 1) := by decide +kernel
theorem dX6_reduce_31 : decode cX6_reduce 31 = .ok (.ifCond .eq 33, 3) := by decide +kernel
theorem dX6_reduce_34 : decode cX6_reduce 34 = .ok (.aload_n 0, 1) := by decide +kernel
theorem dX6_reduce_35 : decode cX6_reduce 35 = .ok (.getfield 73, 3) := by decide +kernel
theorem dX6_reduce_38 : decode cX6_reduce 38 = .ok (.iload_n 3, 1) := by decide +kernel
theorem dX6_reduce_39 : decode cX6_reduce 39 = .ok (.dup2, 1) := by decide +kernel
theorem dX6_reduce_40 : decode cX6_reduce 40 = .ok (.iaload, 1) := by decide +kernel
theorem dX6_reduce_41 : decode cX6_reduce 41 = .ok (.iload_n 2, 1) := by decide +kernel
theorem dX6_reduce_42 : decode cX6_reduce 42 = .ok (.aload_n 0, 1) := by decide +kernel
theorem dX6_reduce_43 : decode cX6_reduce 43 = .ok (.getfield 64, 3) := by decide +kernel
theorem dX6_reduce_46 : decode cX6_reduce 46 = .ok (.bipush 9, 2) := by decide +kernel
theorem dX6_reduce_48 : decode cX6_reduce 48 = .ok (.iload_n 1, 1) := by decide +kernel
theorem dX6_reduce_49 : decode cX6_reduce 49 = .ok (.imul, 1) := by decide +kernel
theorem dX6_reduce_50 : decode cX6_reduce 50 = .ok (.iload_n 3, 1) := by decide +kernel
theorem dX6_reduce_51 : decode cX6_reduce 51 = .ok (.iadd, 1) := by decide +kernel
theorem dX6_reduce_52 : decode cX6_reduce 52 = .ok (.iaload, 1) := by decide +kernel
theorem dX6_reduce_53 : decode cX6_reduce 53 = .ok (.invokestatic 91, 3) := by decide +kernel
theorem dX6_reduce_56 : decode cX6_reduce 56 = .ok (.ixor, 1) := by decide +kernel
theorem dX6_reduce_57 : decode cX6_reduce 57 = .ok (.iastore, 1) := by decide +kernel
theorem dX6_reduce_58 : decode cX6_reduce 58 = .ok (.iinc 3 1, 3) := by decide +kernel
theorem dX6_reduce_61 : decode cX6_reduce 61 = .ok (.goto (-37), 3) := by decide +kernel
theorem dX6_reduce_64 : decode cX6_reduce 64 = .ok (.iinc 1 1, 3) := by decide +kernel
theorem dX6_reduce_67 : decode cX6_reduce 67 = .ok (.goto (-65), 3) := by decide +kernel
theorem dX6_reduce_70 : decode cX6_reduce 70 = .ok (.return_, 1) := by decide +kernel
set_option maxRecDepth 20000 in
theorem ggX6_steps_X6_reduce : GoodIn wsX6_steps wsX6_reduce := goodIn_r _ [10, 3, 2, 5, 4, 11, 12, 9, 13, 17, 18, 19, 20, 21, 22, 23, 24, 25, 26, 27, 28, 29, 30, 31, 32, 33, 34, 35, 36, 37, 38, 39, 40, 41, 42, 43, 44, 45, 46, 47] (by decide +kernel) (by decide +kernel)
set_option maxRecDepth 20000 in
theorem gX6_steps_X6_reduce : GoodIn wsX6_steps (wsV RX6 146 RX6 yX6_reduce wsX6_reduce) := goodIn_app (goodIn_of _ (by decide +kernel)) ggX6_steps_X6_reduce
set_option maxRecDepth 20000 in
theorem ggX6_steps_X6_inverseOf : GoodIn wsX6_steps wsX6_inverseOf := goodIn_r _ [16, 11, 12, 9, 13] (by decide +kernel) (by decide +kernel)
set_option maxRecDepth 20000 in
theorem gX6_steps_X6_inverseOf : GoodIn wsX6_steps (va_wsS RX6 101 yX6_inverseOf wsX6_inverseOf) := goodIn_app (goodIn_of _ (by decide +kernel)) ggX6_steps_X6_inverseOf
set_option maxRecDepth 20000 in
theorem ggX6_steps_X6_product : GoodIn wsX6_steps wsX6_product := goodIn_r _ [13] (by decide +kernel) (by decide +kernel)
set_option maxRecDepth 20000 in
theorem gX6_steps_X6_product : GoodIn wsX6_steps (va_wsS RX6 91 yX6_product wsX6_product) := goodIn_app (goodIn_of _ (by decide +kernel)) ggX6_steps_X6_product
theorem dX6_steps_0 : decode cX6_steps 0 = .ok (.aload_n 0, 1) := by decide +kernel
theorem dX6_steps_1 : decode cX6_steps 1 = .ok (.invokevirtual 146, 3) := by decide +kernel
theorem dX6_steps_4 : decode cX6_steps 4 = .ok (.iconst 0, 1) := by decide +kernel
theorem dX6_steps_5 : decode cX6_steps 5 = .ok (.istore_n 1, 1) := by decide +kernel
theorem dX6_steps_6 : decode cX6_steps 6 = .ok (.iload_n 1, 1) := by decide +kernel
theorem dX6_steps_7 : decode cX6_steps 7 = .ok (.aload_n 0, 1) := by decide +kernel
theorem dX6_steps_8 : decode cX6_steps 8 = .ok (.getfield 13, 3) := by decide +kernel
theorem dX6_steps_11 : decode cX6_steps 11 = .ok (.if_icmp .ge 18, 3) := by decide +kernel
theorem dX6_steps_14 : decode cX6_steps 14 = .ok (.aload_n 0, 1) := by decide +kernel
theorem dX6_steps_15 : decode cX6_steps 15 = .ok (.getfield 73, 3) := by decide +kernel
theorem dX6_steps_18 : decode cX6_steps 18 = .ok (.iload_n 1, 1) := by decide +kernel
theorem dX6_steps_19 : decode cX6_steps 19 = .ok (.iaload, 1) := by decide +kernel
theorem dX6_steps_20 : decode cX6_steps 20 = .ok (.ifCond .ne 9, 3) := by decide +kernel
theorem dX6_steps_23 : decode cX6_steps 23 = .ok (.iinc 1 1, 3) := by decide +kernel
theorem dX6_steps_26 : decode cX6_steps 26 = .ok (.goto (-20), 3) := by decide +kernel
theorem dX6_steps_29 : decode cX6_steps 29 = .ok (.iload_n 1, 1) := by decide +kernel
theorem dX6_steps_30 : decode cX6_steps 30 = .ok (.aload_n 0, 1) := by decide +kernel
theorem dX6_steps_31 : decode cX6_steps 31 = .ok (.getfield 13, 3) := by decide +kernel
theorem dX6_steps_34 : decode cX6_steps 34 = .ok (.if_icmp .ne 5, 3) := by decide +kernel
theorem dX6_steps_37 : decode cX6_steps 37 = .ok (.iconst 0, 1) := by decide +kernel
theorem dX6_steps_38 : decode cX6_steps 38 = .ok (.ireturn, 1) := by decide +kernel
theorem dX6_steps_39 : decode cX6_steps 39 = .ok (.aload_n 0, 1) := by decide +kernel
theorem dX6_steps_40 : decode cX6_steps 40 = .ok (.getfield 73, 3) := by decide +kernel
theorem dX6_steps_43 : decode cX6_steps 43 = .ok (.iload_n 1, 1) := by decide +kernel
theorem dX6_steps_44 : decode cX6_steps 44 = .ok (.iaload, 1) := by decide +kernel
theorem dX6_steps_45 : decode cX6_steps 45 = .ok (.invokestatic 101, 3) := by decide +kernel
theorem dX6_steps_48 : decode cX6_steps 48 = .ok (.istore_n 2, 1) := by decide +kernel
theorem dX6_steps_49 : decode cX6_steps 49 = .ok (.iconst 0, 1) := by decide +kernel
theorem dX6_steps_50 : decode cX6_steps 50 = .ok (.istore_n 3, 1) := by decide +kernel
theorem dX6_steps_51 : decode cX6_steps 51 = .ok (.iload_n 3, 1) := by decide +kernel
theorem dX6_steps_52 : decode cX6_steps 52 = .ok (.bipush 9, 2) := by decide +kernel
theorem dX6_steps_54 : decode cX6_steps 54 = .ok (.if_icmp .ge 25, 3) := by decide +kernel
theorem dX6_steps_57 : decode cX6_steps 57 = .ok (.aload_n 0, 1) := by decide +kernel
theorem dX6_steps_58 : decode cX6_steps 58 = .ok (.getfield 73, 3) := by decide +kernel
theorem dX6_steps_61 : decode cX6_steps 61 = .ok (.iload_n 3, 1) := by decide +kernel
theorem dX6_steps_62 : decode cX6_steps 62 = .ok (.iload_n 2, 1) := by decide +kernel
theorem dX6_steps_63 : decode cX6_steps 63 = .ok (.aload_n 0, 1) := by decide +kernel
theorem dX6_steps_64 : decode cX6_steps 64 = .ok (.getfield 73, 3) := by decide +kernel
theorem dX6_steps_67 : decode cX6_steps 67 = .ok (.iload_n 3, 1) := by decide +kernel
theorem dX6_steps_68 : decode cX6_steps 68 = .ok (.iaload, 1) := by decide +kernel
theorem dX6_steps_69 : decode cX6_steps 69 = .ok (.invokestatic 91, 3) := by decide +kernel
theorem dX6_steps_72 : decode cX6_steps 72 = .ok (.iastore, 1) := by decide +kernel
theorem dX6_steps_73 : decode cX6_steps 73 = .ok (.iinc 3 1, 3) := by decide +kernel
theorem dX6_steps_76 : decode cX6_steps 76 = .ok (.goto (-25), 3) := by decide +kernel
theorem dX6_steps_79 : decode cX6_steps 79 = .ok (.iconst 0, 1) := by decide +kernel
theorem dX6_steps_80 : decode cX6_steps 80 = .ok (.istore_n 3, 1) := by decide +kernel
theorem dX6_steps_81 : decode cX6_steps 81 = .ok (.iload_n 3, 1) := by decide +kernel
theorem dX6_steps_82 : decode cX6_steps 82 = .ok (.aload_n 0, 1) := by decide +kernel
theorem dX6_steps_83 : decode cX6_steps 83 = .ok (.getfield 143, 3) := by decide +kernel
theorem dX6_steps_86 : decode cX6_steps 86 = .ok (.if_icmp .ge 70, 3) := by decide +kernel
theorem dX6_steps_89 : decode cX6_steps 89 = .ok (.aload_n 0, 1) := by decide +kernel
theorem dX6_steps_90 : decode cX6_steps 90 = .ok (.getfield 64, 3) := by decide +kernel
theorem dX6_steps_93 : decode cX6_steps 93 = .ok (.bipush 9, 2) := by decide +kernel
theorem dX6_steps_95 : decode cX6_steps 95 = .ok (.iload_n 3, 1) := by decide +kernel
theorem dX6_steps_96 : decode cX6_steps 96 = .ok (.imul, 1) := by decide +kernel
theorem dX6_steps_97 : decode cX6_steps 97 = .ok (.iload_n 1, 1) := by decide +kernel
theorem dX6_steps_98 : decode cX6_steps 98 = .ok (.iadd, 1) := by decide +kernel
theorem dX6_steps_99 : decode cX6_steps 99 = .ok (.iaload, 1) := by decide +kernel
theorem dX6_steps_100 : decode cX6_steps 100 = .ok (.istore 4, 2) := by decide +kernel
theorem dX6_steps_102 : decode cX6_steps 102 = .ok (.iconst 0, 1) := by decide +kernel
theorem dX6_steps_103 : decode cX6_steps 103 = .ok (.istore 5, 2) := by decide +kernel
theorem dX6_steps_105 : decode cX6_steps 105 = .ok (.iload 5, 2) := by decide +kernel
theorem dX6_steps_107 : decode cX6_steps 107 = .ok (.bipush 9, 2) := by decide +kernel
theorem dX6_steps_109 : decode cX6_steps 109 = .ok (.if_icmp .ge 41, 3) := by decide +kernel
theorem dX6_steps_112 : decode cX6_steps 112 = .ok (.iload 4, 2) := by decide +kernel
theorem dX6_steps_114 : decode cX6_steps 114 = .ok (.ifCond .eq 36, 3) := by decide +kernel
theorem dX6_steps_117 : decode cX6_steps 117 = .ok (.aload_n 0, 1) := by decide +kernel
theorem dX6_steps_118 : decode cX6_steps 118 = .ok (.getfield 64, 3) := by decide +kernel
theorem dX6_steps_121 : decode cX6_steps 121 = .ok (.bipush 9, 2) := by decide +kernel
theorem dX6_steps_123 : decode cX6_steps 123 = .ok (.iload_n 3, 1) := by decide +kernel
theorem dX6_steps_124 : decode cX6_steps 124 = .ok (.imul, 1) := by decide +kernel
theorem dX6_steps_125 : decode cX6_steps 125 = .ok (.iload 5, 2) := by decide +kernel
theorem dX6_steps_127 : decode cX6_steps 127 = .ok (.iadd, 1) := by decide +kernel
theorem dX6_steps_128 : decode cX6_steps 128 = .ok (.dup2, 1) := by decide +kernel
theorem dX6_steps_129 : decode cX6_steps 129 = .ok (.iaload, 1) := by decide +kernel
theorem dX6_steps_130 : decode cX6_steps 130 = .ok (.iload 4, 2) := by decide +kernel
theorem dX6_steps_132 : decode cX6_steps 132 = .ok (.aload_n 0, 1) := by decide +kernel
theorem dX6_steps_133 : decode cX6_steps 133 = .ok (.getfield 73, 3) := by decide +kernel
theorem dX6_steps_136 : decode cX6_steps 136 = .ok (.iload 5, 2) := by decide +kernel
theorem dX6_steps_138 : decode cX6_steps 138 = .ok (.iaload, 1) := by decide +kernel
theorem dX6_steps_139 : decode cX6_steps 139 = .ok (.invokestatic 91, 3) := by decide +kernel
theorem dX6_steps_142 : decode cX6_steps 142 = .ok (.ixor, 1) := by decide +kernel
theorem dX6_steps_143 : decode cX6_steps 143 = .ok (.iastore, 1) := by decide +kernel
theorem dX6_steps_144 : decode cX6_steps 144 = .ok (.iinc 5 1, 3) := by decide +kernel
theorem dX6_steps_147 : decode cX6_steps 147 = .ok (.goto (-42), 3) := by decide +kernel
theorem dX6_steps_150 : decode cX6_steps 150 = .ok (.iinc 3 1, 3) := by decide +kernel
theorem dX6_steps_153 : decode cX6_steps 153 = .ok (.goto (-72), 3) := by decide +kernel
theorem dX6_steps_156 : decode cX6_steps 156 = .ok (.iconst 0, 1) := by decide +kernel
theorem dX6_steps_157 : decode cX6_steps 157 = .ok (.istore_n 3, 1) := by decide +kernel
theorem dX6_steps_158 : decode cX6_steps 158 = .ok (.iload_n 3, 1) := by decide +kernel
theorem dX6_steps_159 : decode cX6_steps 159 = .ok (.bipush 9, 2) := by decide +kernel
theorem dX6_steps_161 : decode cX6_steps 161 = .ok (.if_icmp .ge 29, 3) := by decide +kernel
theorem dX6_steps_164 : decode cX6_steps 164 = .ok (.aload_n 0, 1) := by decide +kernel
theorem dX6_steps_165 : decode cX6_steps 165 = .ok (.getfield 64, 3) := by decide +kernel
theorem dX6_steps_168 : decode cX6_steps 168 = .ok (.bipush 9, 2) := by decide +kernel
theorem dX6_steps_170 : decode cX6_steps 170 = .ok (.aload_n 0, 1) := by decide +kernel
theorem dX6_steps_171 : decode cX6_steps 171 = .ok (.getfield 143, 3) := by decide +kernel
theorem dX6_steps_174 : decode cX6_steps 174 = .ok (.imul, 1) := by decide +kernel
theorem dX6_steps_175 : decode cX6_steps 175 = .ok (.iload_n 3, 1) := by decide +kernel
theorem dX6_steps_176 : decode cX6_steps 176 = .ok (.iadd, 1) := by decide +kernel
theorem dX6_steps_177 : decode cX6_steps 177 = .ok (.aload_n 0, 1) := by decide +kernel
theorem dX6_steps_178 : decode cX6_steps 178 = .ok (.getfield 73, 3) := by decide +kernel
theorem dX6_steps_181 : decode cX6_steps 181 = .ok (.iload_n 3, 1) := by decide +kernel
theorem dX6_steps_182 : decode cX6_steps 182 = .ok (.iaload, 1) := by decide +kernel
theorem dX6_steps_183 : decode cX6_steps 183 = .ok (.iastore, 1) := by decide +kernel
theorem dX6_steps_184 : decode cX6_steps 184 = .ok (.iinc 3 1, 3) := by decide +kernel
theorem dX6_steps_187 : decode cX6_steps 187 = .ok (.goto (-29), 3) := by decide +kernel
theorem dX6_steps_190 : decode cX6_steps 190 = .ok (.aload_n 0, 1) := by decide +kernel
theorem dX6_steps_191 : decode cX6_steps 191 = .ok (.getfield 67, 3) := by decide +kernel
theorem dX6_steps_194 : decode cX6_steps 194 = .ok (.aload_n 0, 1) := by decide +kernel
theorem dX6_steps_195 : decode cX6_steps 195 = .ok (.getfield 143, 3) := by decide +kernel
theorem dX6_steps_198 : decode cX6_steps 198 = .ok (.iload_n 1, 1) := by decide +kernel
theorem dX6_steps_199 : decode cX6_steps 199 = .ok (.iastore, 1) := by decide +kernel
theorem dX6_steps_200 : decode cX6_steps 200 = .ok (.aload_n 0, 1) := by decide +kernel
theorem dX6_steps_201 : decode cX6_steps 201 = .ok (.dup, 1) := by decide +kernel
theorem dX6_steps_202 : decode cX6_steps 202 = .ok (.getfield 143, 3) := by decide +kernel
theorem dX6_steps_205 : decode cX6_steps 205 = .ok (.iconst 1, 1) := by decide +kernel
theorem dX6_steps_206 : decode cX6_steps 206 = .ok (.iadd, 1) := by decide +kernel
theorem dX6_steps_207 : decode cX6_steps 207 = .ok (.putfield 143, 3) := by decide +kernel
theorem dX6_steps_210 : decode cX6_steps 210 = .ok (.iconst 1, 1) := by decide +kernel
theorem dX6_steps_211 : decode cX6_steps 211 = .ok (.ireturn, 1) := by decide +kernel
set_option maxRecDepth 20000 in
theorem ggX6_study_X6_steps : GoodIn wsX6_study wsX6_steps := goodIn_r _ [12, 5, 4, 1, 13, 14, 15, 16, 17, 11, 18, 19, 20, 21, 22, 23, 24, 25, 26, 27, 28, 29, 30, 31, 32, 33, 34, 35, 36, 37, 38, 39, 40, 41, 42, 43, 44, 45, 46, 47, 48, 49, 50, 51, 52, 53, 54, 55] (by decide +kernel) (by decide +kernel)
set_option maxRecDepth 20000 in
theorem gX6_study_X6_steps : GoodIn wsX6_study (wsV RX6 149 RX6 yX6_steps wsX6_steps) := goodIn_app (goodIn_of _ (by decide +kernel)) ggX6_study_X6_steps
theorem dX6_study_0 : decode cX6_study 0 = .ok (.aload_n 0, 1) := by decide +kernel
theorem dX6_study_1 : decode cX6_study 1 = .ok (.iconst 0, 1) := by decide +kernel
theorem dX6_study_2 : decode cX6_study 2 = .ok (.putfield 143, 3) := by decide +kernel
theorem dX6_study_5 : decode cX6_study 5 = .ok (.iconst 0, 1) := by decide +kernel
theorem dX6_study_6 : decode cX6_study 6 = .ok (.istore_n 2, 1) := by decide +kernel
theorem dX6_study_7 : decode cX6_study 7 = .ok (.iload_n 2, 1) := by decide +kernel
theorem dX6_study_8 : decode cX6_study 8 = .ok (.aload_n 0, 1) := by decide +kernel
theorem dX6_study_9 : decode cX6_study 9 = .ok (.getfield 105, 3) := by decide +kernel
theorem dX6_study_12 : decode cX6_study 12 = .ok (.if_icmp .ge 95, 3) := by decide +kernel
theorem dX6_study_15 : decode cX6_study 15 = .ok (.aload_n 0, 1) := by decide +kernel
theorem dX6_study_16 : decode cX6_study 16 = .ok (.getfield 28, 3) := by decide +kernel
theorem dX6_study_19 : decode cX6_study 19 = .ok (.iload_n 2, 1) := by decide +kernel
theorem dX6_study_20 : decode cX6_study 20 = .ok (.iaload, 1) := by decide +kernel
theorem dX6_study_21 : decode cX6_study 21 = .ok (.iload_n 1, 1) := by decide +kernel
theorem dX6_study_22 : decode cX6_study 22 = .ok (.if_icmp .eq 6, 3) := by decide +kernel
theorem dX6_study_25 : decode cX6_study 25 = .ok (.goto 76, 3) := by decide +kernel
theorem dX6_study_28 : decode cX6_study 28 = .ok (.iconst 0, 1) := by decide +kernel
theorem dX6_study_29 : decode cX6_study 29 = .ok (.istore_n 3, 1) := by decide +kernel
theorem dX6_study_30 : decode cX6_study 30 = .ok (.iload_n 3, 1) := by decide +kernel
theorem dX6_study_31 : decode cX6_study 31 = .ok (.bipush 9, 2) := by decide +kernel
theorem dX6_study_33 : decode cX6_study 33 = .ok (.if_icmp .ge 37, 3) := by decide +kernel
theorem dX6_study_36 : decode cX6_study 36 = .ok (.aload_n 0, 1) := by decide +kernel
theorem dX6_study_37 : decode cX6_study 37 = .ok (.getfield 73, 3) := by decide +kernel
theorem dX6_study_40 : decode cX6_study 40 = .ok (.iload_n 3, 1) := by decide +kernel
theorem dX6_study_41 : decode cX6_study 41 = .ok (.iload_n 3, 1) := by decide +kernel
theorem dX6_study_42 : decode cX6_study 42 = .ok (.aload_n 0, 1) := by decide +kernel
theorem dX6_study_43 : decode cX6_study 43 = .ok (.getfield 13, 3) := by decide +kernel
theorem dX6_study_46 : decode cX6_study 46 = .ok (.if_icmp .ge 16, 3) := by decide +kernel
theorem dX6_study_49 : decode cX6_study 49 = .ok (.aload_n 0, 1) := by decide +kernel
theorem dX6_study_50 : decode cX6_study 50 = .ok (.getfield 52, 3) := by decide +kernel
theorem dX6_study_53 : decode cX6_study 53 = .ok (.iconst 4, 1) := by decide +kernel
theorem dX6_study_54 : decode cX6_study 54 = .ok (.iload_n 2, 1) := by decide +kernel
theorem dX6_study_55 : decode cX6_study 55 = .ok (.imul, 1) := by decide +kernel
theorem dX6_study_56 : decode cX6_study 56 = .ok (.iload_n 3, 1) := by decide +kernel
theorem dX6_study_57 : decode cX6_study 57 = .ok (.iadd, 1) := by decide +kernel
theorem dX6_study_58 : decode cX6_study 58 = .ok (.iaload, 1) := by decide +kernel
theorem dX6_study_59 : decode cX6_study 59 = .ok (.goto 4, 3) := by decide +kernel
theorem dX6_study_62 : decode cX6_study 62 = .ok (.iconst 0, 1) := by decide +kernel
theorem dX6_study_63 : decode cX6_study 63 = .ok (.iastore, 1) := by decide +kernel
theorem dX6_study_64 : decode cX6_study 64 = .ok (.iinc 3 1, 3) := by decide +kernel
theorem dX6_study_67 : decode cX6_study 67 = .ok (.goto (-37), 3) := by decide +kernel
theorem dX6_study_70 : decode cX6_study 70 = .ok (.aload_n 0, 1) := by decide +kernel
theorem dX6_study_71 : decode cX6_study 71 = .ok (.getfield 73, 3) := by decide +kernel
theorem dX6_study_74 : decode cX6_study 74 = .ok (.iconst 4, 1) := by decide +kernel
theorem dX6_study_75 : decode cX6_study 75 = .ok (.aload_n 0, 1) := by decide +kernel
theorem dX6_study_76 : decode cX6_study 76 = .ok (.getfield 143, 3) := by decide +kernel
theorem dX6_study_79 : decode cX6_study 79 = .ok (.iadd, 1) := by decide +kernel
theorem dX6_study_80 : decode cX6_study 80 = .ok (.iconst 1, 1) := by decide +kernel
theorem dX6_study_81 : decode cX6_study 81 = .ok (.iastore, 1) := by decide +kernel
theorem dX6_study_82 : decode cX6_study 82 = .ok (.aload_n 0, 1) := by decide +kernel
theorem dX6_study_83 : decode cX6_study 83 = .ok (.invokevirtual 149, 3) := by decide +kernel
theorem dX6_study_86 : decode cX6_study 86 = .ok (.ifCond .eq 15, 3) := by decide +kernel
theorem dX6_study_89 : decode cX6_study 89 = .ok (.aload_n 0, 1) := by decide +kernel
theorem dX6_study_90 : decode cX6_study 90 = .ok (.getfield 70, 3) := by decide +kernel
theorem dX6_study_93 : decode cX6_study 93 = .ok (.aload_n 0, 1) := by decide +kernel
theorem dX6_study_94 : decode cX6_study 94 = .ok (.getfield 143, 3) := by decide +kernel
theorem dX6_study_97 : decode cX6_study 97 = .ok (.iconst 1, 1) := by decide +kernel
theorem dX6_study_98 : decode cX6_study 98 = .ok (.isub, 1) := by decide +kernel
theorem dX6_study_99 : decode cX6_study 99 = .ok (.iload_n 2, 1) := by decide +kernel
theorem dX6_study_100 : decode cX6_study 100 = .ok (.iastore, 1) := by decide +kernel
theorem dX6_study_101 : decode cX6_study 101 = .ok (.iinc 2 1, 3) := by decide +kernel
theorem dX6_study_104 : decode cX6_study 104 = .ok (.goto (-97), 3) := by decide +kernel
theorem dX6_study_107 : decode cX6_study 107 = .ok (.return_, 1) := by decide +kernel
set_option maxRecDepth 20000 in
theorem ggX6_rankOf_X6_study : GoodIn wsX6_rankOf wsX6_study := goodIn_r _ [6, 1, 7, 8, 9, 10, 11, 12, 13, 14, 15, 5, 16, 17, 18, 19, 20, 21, 22, 23, 24, 25, 26, 27, 28, 29, 30, 31, 32, 33, 34, 35, 36, 37, 38, 39, 40, 41, 42, 43, 44, 45, 46, 47, 48, 49, 50, 51, 52, 53, 54, 55, 56, 57, 58, 59] (by decide +kernel) (by decide +kernel)
set_option maxRecDepth 20000 in
theorem gX6_rankOf_X6_study : GoodIn wsX6_rankOf (wsV RX6 153 RX6 yX6_study wsX6_study) := goodIn_app (goodIn_of _ (by decide +kernel)) ggX6_rankOf_X6_study
theorem dX6_rankOf_0 : decode cX6_rankOf 0 = .ok (.aload_n 0, 1) := by decide +kernel
theorem dX6_rankOf_1 : decode cX6_rankOf 1 = .ok (.iload_n 1, 1) := by decide +kernel
theorem dX6_rankOf_2 : decode cX6_rankOf 2 = .ok (.invokevirtual 153, 3) := by decide +kernel
theorem dX6_rankOf_5 : decode cX6_rankOf 5 = .ok (.aload_n 0, 1) := by decide +kernel
theorem dX6_rankOf_6 : decode cX6_rankOf 6 = .ok (.getfield 143, 3) := by decide +kernel
theorem dX6_rankOf_9 : decode cX6_rankOf 9 = .ok (.ireturn, 1) := by decide +kernel
set_option maxRecDepth 20000 in
theorem ggX6_solvesFor_X6_reduce : GoodIn wsX6_solvesFor wsX6_reduce := goodIn_r _ [7, 8, 1, 9, 10, 11, 12, 6, 13, 14, 15, 16, 17, 18, 19, 20, 21, 22, 23, 24, 25, 26, 27, 28, 29, 30, 31, 32, 33, 34, 35, 36, 37, 38, 39, 40, 41, 42, 43, 44] (by decide +kernel) (by decide +kernel)
set_option maxRecDepth 20000 in
theorem gX6_solvesFor_X6_reduce : GoodIn wsX6_solvesFor (wsV RX6 146 RX6 yX6_reduce wsX6_reduce) := goodIn_app (goodIn_of _ (by decide +kernel)) ggX6_solvesFor_X6_reduce
theorem dX6_solvesFor_0 : decode cX6_solvesFor 0 = .ok (.iconst 0, 1) := by decide +kernel
theorem dX6_solvesFor_1 : decode cX6_solvesFor 1 = .ok (.istore_n 2, 1) := by decide +kernel
theorem dX6_solvesFor_2 : decode cX6_solvesFor 2 = .ok (.iload_n 2, 1) := by decide +kernel
theorem dX6_solvesFor_3 : decode cX6_solvesFor 3 = .ok (.bipush 9, 2) := by decide +kernel
theorem dX6_solvesFor_5 : decode cX6_solvesFor 5 = .ok (.if_icmp .ge 25, 3) := by decide +kernel
theorem dX6_solvesFor_8 : decode cX6_solvesFor 8 = .ok (.aload_n 0, 1) := by decide +kernel
theorem dX6_solvesFor_9 : decode cX6_solvesFor 9 = .ok (.getfield 73, 3) := by decide +kernel
theorem dX6_solvesFor_12 : decode cX6_solvesFor 12 = .ok (.iload_n 2, 1) := by decide +kernel
theorem dX6_solvesFor_13 : decode cX6_solvesFor 13 = .ok (.iload_n 2, 1) := by decide +kernel
theorem dX6_solvesFor_14 : decode cX6_solvesFor 14 = .ok (.iload_n 1, 1) := by decide +kernel
theorem dX6_solvesFor_15 : decode cX6_solvesFor 15 = .ok (.if_icmp .ne 7, 3) := by decide +kernel
theorem dX6_solvesFor_18 : decode cX6_solvesFor 18 = .ok (.iconst 1, 1) := by decide +kernel
theorem dX6_solvesFor_19 : decode cX6_solvesFor 19 = .ok (.goto 4, 3) := by decide +kernel
theorem dX6_solvesFor_22 : decode cX6_solvesFor 22 = .ok (.iconst 0, 1) := by decide +kernel
theorem dX6_solvesFor_23 : decode cX6_solvesFor 23 = .ok (.iastore, 1) := by decide +kernel
theorem dX6_solvesFor_24 : decode cX6_solvesFor 24 = .ok (.iinc 2 1, 3) := by decide +kernel
theorem dX6_solvesFor_27 : decode cX6_solvesFor 27 = .ok (.goto (-25), 3) := by decide +kernel
theorem dX6_solvesFor_30 : decode cX6_solvesFor 30 = .ok (.aload_n 0, 1) := by decide +kernel
theorem dX6_solvesFor_31 : decode cX6_solvesFor 31 = .ok (.invokevirtual 146, 3) := by decide +kernel
theorem dX6_solvesFor_34 : decode cX6_solvesFor 34 = .ok (.iconst 0, 1) := by decide +kernel
theorem dX6_solvesFor_35 : decode cX6_solvesFor 35 = .ok (.istore_n 2, 1) := by decide +kernel
theorem dX6_solvesFor_36 : decode cX6_solvesFor 36 = .ok (.iload_n 2, 1) := by decide +kernel
theorem dX6_solvesFor_37 : decode cX6_solvesFor 37 = .ok (.aload_n 0, 1) := by decide +kernel
theorem dX6_solvesFor_38 : decode cX6_solvesFor 38 = .ok (.getfield 13, 3) := by decide +kernel
theorem dX6_solvesFor_41 : decode cX6_solvesFor 41 = .ok (.if_icmp .ge 20, 3) := by decide +kernel
theorem dX6_solvesFor_44 : decode cX6_solvesFor 44 = .ok (.aload_n 0, 1) := by decide +kernel
theorem dX6_solvesFor_45 : decode cX6_solvesFor 45 = .ok (.getfield 73, 3) := by decide +kernel
theorem dX6_solvesFor_48 : decode cX6_solvesFor 48 = .ok (.iload_n 2, 1) := by decide +kernel
theorem dX6_solvesFor_49 : decode cX6_solvesFor 49 = .ok (.iaload, 1) := by decide +kernel
theorem dX6_solvesFor_50 : decode cX6_solvesFor 50 = .ok (.ifCond .eq 5, 3) := by decide +kernel
theorem dX6_solvesFor_53 : decode cX6_solvesFor 53 = .ok (.iconst 0, 1) := by decide +kernel
theorem dX6_solvesFor_54 : decode cX6_solvesFor 54 = .ok (.ireturn, 1) := by decide +kernel
theorem dX6_solvesFor_55 : decode cX6_solvesFor 55 = .ok (.iinc 2 1, 3) := by decide +kernel
theorem dX6_solvesFor_58 : decode cX6_solvesFor 58 = .ok (.goto (-22), 3) := by decide +kernel
theorem dX6_solvesFor_61 : decode cX6_solvesFor 61 = .ok (.iconst 1, 1) := by decide +kernel
theorem dX6_solvesFor_62 : decode cX6_solvesFor 62 = .ok (.ireturn, 1) := by decide +kernel
set_option maxRecDepth 20000 in
theorem ggX6_rank_X6_isRelay : GoodIn wsX6_rank wsX6_isRelay := goodIn_r _ [5, 6, 7, 8, 4, 9, 73, 74, 75, 76, 77, 78, 79, 80, 81, 82, 83, 84, 85, 86, 87, 88, 89, 90, 91, 92, 93, 94, 95, 96, 97, 98, 99, 100, 101, 102, 103] (by decide +kernel) (by decide +kernel)
set_option maxRecDepth 20000 in
theorem gX6_rank_X6_isRelay : GoodIn wsX6_rank (wsV RX6 111 RX6 yX6_isRelay wsX6_isRelay) := goodIn_app (goodIn_of _ (by decide +kernel)) ggX6_rank_X6_isRelay
set_option maxRecDepth 20000 in
theorem ggX6_rank_X6_work : GoodIn wsX6_rank wsX6_work := goodIn_r _ [13, 6, 14, 15, 16, 17, 18, 4, 19, 20, 21, 22, 23, 24, 25, 26, 27, 28, 29, 30, 31, 32, 33, 34, 35, 36, 37, 38, 39, 40, 41, 42, 43, 44, 45, 46, 47, 48, 73, 74, 75, 76, 77, 78, 79, 80, 81, 82, 83, 84, 85, 86, 87, 88, 89, 90, 91, 92, 93, 94, 95, 96, 97, 98, 99, 100, 101, 102, 103] (by decide +kernel) (by decide +kernel)
set_option maxRecDepth 20000 in
theorem gX6_rank_X6_work : GoodIn wsX6_rank (wsV RX6 140 RX6 yX6_work wsX6_work) := goodIn_app (goodIn_of _ (by decide +kernel)) ggX6_rank_X6_work
set_option maxRecDepth 20000 in
theorem ggX6_rank_X6_rankOf : GoodIn wsX6_rank wsX6_rankOf := goodIn_r _ [52, 53, 54, 55, 56, 4, 57, 14, 37, 58, 27, 21, 59, 60, 61, 62, 63, 64, 65, 66, 67, 68, 69, 46, 47, 48, 70, 71, 72, 73, 74, 75, 76, 77, 78, 79, 80, 81, 82, 83, 84, 85, 86, 87, 88, 89, 90, 91, 92, 93, 94, 95, 96, 97, 98, 99, 100, 101, 102, 103] (by decide +kernel) (by decide +kernel)
set_option maxRecDepth 20000 in
theorem gX6_rank_X6_rankOf : GoodIn wsX6_rank (wsV RX6 156 RX6 yX6_rankOf wsX6_rankOf) := goodIn_app (goodIn_of _ (by decide +kernel)) ggX6_rank_X6_rankOf
theorem dX6_rank_0 : decode cX6_rank 0 = .ok (.aload_n 0, 1) := by decide +kernel
theorem dX6_rank_1 : decode cX6_rank 1 = .ok (.iload_n 1, 1) := by decide +kernel
theorem dX6_rank_2 : decode cX6_rank 2 = .ok (.invokevirtual 111, 3) := by decide +kernel
theorem dX6_rank_5 : decode cX6_rank 5 = .ok (.ifCond .ne 5, 3) := by decide +kernel
theorem dX6_rank_8 : decode cX6_rank 8 = .ok (.iconst (-1), 1) := by decide +kernel
theorem dX6_rank_9 : decode cX6_rank 9 = .ok (.ireturn, 1) := by decide +kernel
theorem dX6_rank_10 : decode cX6_rank 10 = .ok (.iload_n 1, 1) := by decide +kernel
theorem dX6_rank_11 : decode cX6_rank 11 = .ok (.ifCond .ne 6, 3) := by decide +kernel
theorem dX6_rank_14 : decode cX6_rank 14 = .ok (.bipush (-2), 2) := by decide +kernel
theorem dX6_rank_16 : decode cX6_rank 16 = .ok (.ireturn, 1) := by decide +kernel
theorem dX6_rank_17 : decode cX6_rank 17 = .ok (.aload_n 0, 1) := by decide +kernel
theorem dX6_rank_18 : decode cX6_rank 18 = .ok (.invokevirtual 140, 3) := by decide +kernel
theorem dX6_rank_21 : decode cX6_rank 21 = .ok (.aload_n 0, 1) := by decide +kernel
theorem dX6_rank_22 : decode cX6_rank 22 = .ok (.iload_n 1, 1) := by decide +kernel
theorem dX6_rank_23 : decode cX6_rank 23 = .ok (.invokevirtual 156, 3) := by decide +kernel
theorem dX6_rank_26 : decode cX6_rank 26 = .ok (.ireturn, 1) := by decide +kernel
set_option maxRecDepth 20000 in
theorem ggX6_fresh_X6_isRelay : GoodIn wsX6_fresh wsX6_isRelay := goodIn_r _ [6, 7, 8, 9, 5, 10, 73, 74, 75, 76, 77, 78, 79, 80, 81, 82, 83, 84, 85, 86, 87, 88, 89, 90, 91, 92, 93, 94, 95, 96, 97, 98, 99, 100, 101, 102, 103] (by decide +kernel) (by decide +kernel)
set_option maxRecDepth 20000 in
theorem gX6_fresh_X6_isRelay : GoodIn wsX6_fresh (wsV RX6 111 RX6 yX6_isRelay wsX6_isRelay) := goodIn_app (goodIn_of _ (by decide +kernel)) ggX6_fresh_X6_isRelay
set_option maxRecDepth 20000 in
theorem ggX6_fresh_X6_work : GoodIn wsX6_fresh wsX6_work := goodIn_r _ [14, 7, 15, 16, 17, 18, 19, 5, 20, 21, 22, 23, 24, 25, 26, 27, 28, 29, 30, 31, 32, 33, 34, 35, 36, 37, 38, 39, 40, 41, 42, 43, 44, 45, 46, 47, 48, 49, 73, 74, 75, 76, 77, 78, 79, 80, 81, 82, 83, 84, 85, 86, 87, 88, 89, 90, 91, 92, 93, 94, 95, 96, 97, 98, 99, 100, 101, 102, 103] (by decide +kernel) (by decide +kernel)
set_option maxRecDepth 20000 in
theorem gX6_fresh_X6_work : GoodIn wsX6_fresh (wsV RX6 140 RX6 yX6_work wsX6_work) := goodIn_app (goodIn_of _ (by decide +kernel)) ggX6_fresh_X6_work
set_option maxRecDepth 20000 in
theorem ggX6_fresh_X6_rankOf : GoodIn wsX6_fresh wsX6_rankOf := goodIn_r _ [53, 54, 55, 56, 57, 5, 58, 15, 38, 59, 28, 22, 1, 60, 61, 62, 63, 64, 65, 66, 67, 68, 69, 47, 48, 49, 70, 71, 72, 73, 74, 75, 76, 77, 78, 79, 80, 81, 82, 83, 84, 85, 86, 87, 88, 89, 90, 91, 92, 93, 94, 95, 96, 97, 98, 99, 100, 101, 102, 103] (by decide +kernel) (by decide +kernel)
set_option maxRecDepth 20000 in
theorem gX6_fresh_X6_rankOf : GoodIn wsX6_fresh (wsV RX6 156 RX6 yX6_rankOf wsX6_rankOf) := goodIn_app (goodIn_of _ (by decide +kernel)) ggX6_fresh_X6_rankOf
theorem dX6_fresh_0 : decode cX6_fresh 0 = .ok (.aload_n 0, 1) := by decide +kernel
theorem dX6_fresh_1 : decode cX6_fresh 1 = .ok (.iload_n 1, 1) := by decide +kernel
theorem dX6_fresh_2 : decode cX6_fresh 2 = .ok (.invokevirtual 111, 3) := by decide +kernel
theorem dX6_fresh_5 : decode cX6_fresh 5 = .ok (.ifCond .eq 7, 3) := by decide +kernel
theorem dX6_fresh_8 : decode cX6_fresh 8 = .ok (.iload_n 2, 1) := by decide +kernel
theorem dX6_fresh_9 : decode cX6_fresh 9 = .ok (.ifCond .ge 5, 3) := by decide +kernel
theorem dX6_fresh_12 : decode cX6_fresh 12 = .ok (.iconst (-1), 1) := by decide +kernel
theorem dX6_fresh_13 : decode cX6_fresh 13 = .ok (.ireturn, 1) := by decide +kernel
theorem dX6_fresh_14 : decode cX6_fresh 14 = .ok (.iload_n 1, 1) := by decide +kernel
theorem dX6_fresh_15 : decode cX6_fresh 15 = .ok (.ifCond .ne 6, 3) := by decide +kernel
theorem dX6_fresh_18 : decode cX6_fresh 18 = .ok (.bipush (-2), 2) := by decide +kernel
theorem dX6_fresh_20 : decode cX6_fresh 20 = .ok (.ireturn, 1) := by decide +kernel
theorem dX6_fresh_21 : decode cX6_fresh 21 = .ok (.aload_n 0, 1) := by decide +kernel
theorem dX6_fresh_22 : decode cX6_fresh 22 = .ok (.invokevirtual 140, 3) := by decide +kernel
theorem dX6_fresh_25 : decode cX6_fresh 25 = .ok (.iload_n 2, 1) := by decide +kernel
theorem dX6_fresh_26 : decode cX6_fresh 26 = .ok (.aload_n 0, 1) := by decide +kernel
theorem dX6_fresh_27 : decode cX6_fresh 27 = .ok (.iload_n 1, 1) := by decide +kernel
theorem dX6_fresh_28 : decode cX6_fresh 28 = .ok (.invokevirtual 156, 3) := by decide +kernel
theorem dX6_fresh_31 : decode cX6_fresh 31 = .ok (.if_icmp .ge 12, 3) := by decide +kernel
theorem dX6_fresh_34 : decode cX6_fresh 34 = .ok (.aload_n 0, 1) := by decide +kernel
theorem dX6_fresh_35 : decode cX6_fresh 35 = .ok (.getfield 70, 3) := by decide +kernel
theorem dX6_fresh_38 : decode cX6_fresh 38 = .ok (.iload_n 2, 1) := by decide +kernel
theorem dX6_fresh_39 : decode cX6_fresh 39 = .ok (.iaload, 1) := by decide +kernel
theorem dX6_fresh_40 : decode cX6_fresh 40 = .ok (.goto 4, 3) := by decide +kernel
theorem dX6_fresh_43 : decode cX6_fresh 43 = .ok (.iconst (-1), 1) := by decide +kernel
theorem dX6_fresh_44 : decode cX6_fresh 44 = .ok (.ireturn, 1) := by decide +kernel
set_option maxRecDepth 20000 in
theorem ggX6_solves_X6_isRelay : GoodIn wsX6_solves wsX6_isRelay := goodIn_r _ [6, 7, 8, 9, 5, 10, 73, 74, 75, 76, 77, 78, 79, 80, 81, 82, 83, 84, 85, 86, 87, 88, 89, 90, 91, 92, 93, 94, 95, 96, 97, 98, 99, 100, 101, 102, 103] (by decide +kernel) (by decide +kernel)
set_option maxRecDepth 20000 in
theorem gX6_solves_X6_isRelay : GoodIn wsX6_solves (wsV RX6 111 RX6 yX6_isRelay wsX6_isRelay) := goodIn_app (goodIn_of _ (by decide +kernel)) ggX6_solves_X6_isRelay
set_option maxRecDepth 20000 in
theorem ggX6_solves_X6_in : GoodIn wsX6_solves wsX6_in := goodIn_r _ [10] (by decide +kernel) (by decide +kernel)
set_option maxRecDepth 20000 in
theorem gX6_solves_X6_in : GoodIn wsX6_solves (va_wsS RX6 97 yX6_in wsX6_in) := goodIn_app (goodIn_of _ (by decide +kernel)) ggX6_solves_X6_in
set_option maxRecDepth 20000 in
theorem ggX6_solves_X6_work : GoodIn wsX6_solves wsX6_work := goodIn_r _ [14, 7, 15, 16, 17, 18, 19, 5, 20, 21, 22, 23, 24, 25, 26, 27, 1, 28, 29, 30, 31, 32, 33, 34, 35, 36, 37, 38, 39, 40, 41, 42, 43, 44, 45, 46, 47, 48, 73, 74, 75, 76, 77, 78, 79, 80, 81, 82, 83, 84, 85, 86, 87, 88, 89, 90, 91, 92, 93, 94, 95, 96, 97, 98, 99, 100, 101, 102, 103] (by decide +kernel) (by decide +kernel)
set_option maxRecDepth 20000 in
theorem gX6_solves_X6_work : GoodIn wsX6_solves (wsV RX6 140 RX6 yX6_work wsX6_work) := goodIn_app (goodIn_of _ (by decide +kernel)) ggX6_solves_X6_work
set_option maxRecDepth 20000 in
theorem ggX6_solves_X6_study : GoodIn wsX6_solves wsX6_study := goodIn_r _ [52, 53, 15, 37, 54, 1, 22, 55, 56, 57, 58, 5, 59, 60, 61, 62, 63, 64, 65, 46, 47, 48, 66, 67, 68, 73, 74, 75, 76, 77, 78, 79, 80, 81, 82, 83, 84, 85, 86, 87, 88, 89, 90, 91, 92, 93, 94, 95, 96, 97, 98, 99, 100, 101, 102, 103] (by decide +kernel) (by decide +kernel)
set_option maxRecDepth 20000 in
theorem gX6_solves_X6_study : GoodIn wsX6_solves (wsV RX6 153 RX6 yX6_study wsX6_study) := goodIn_app (goodIn_of _ (by decide +kernel)) ggX6_solves_X6_study
set_option maxRecDepth 20000 in
theorem ggX6_solves_X6_solvesFor : GoodIn wsX6_solves wsX6_solvesFor := goodIn_r _ [72, 54, 1, 62, 63, 64, 5, 65, 53, 61, 60, 46, 47, 48, 73, 74, 75, 76, 77, 78, 79, 80, 81, 82, 83, 84, 85, 86, 87, 88, 89, 90, 91, 92, 93, 94, 95, 96, 97, 98, 99, 100, 101, 102, 103] (by decide +kernel) (by decide +kernel)
set_option maxRecDepth 20000 in
theorem gX6_solves_X6_solvesFor : GoodIn wsX6_solves (wsV RX6 159 RX6 yX6_solvesFor wsX6_solvesFor) := goodIn_app (goodIn_of _ (by decide +kernel)) ggX6_solves_X6_solvesFor
theorem dX6_solves_0 : decode cX6_solves 0 = .ok (.aload_n 0, 1) := by decide +kernel
theorem dX6_solves_1 : decode cX6_solves 1 = .ok (.iload_n 1, 1) := by decide +kernel
theorem dX6_solves_2 : decode cX6_solves 2 = .ok (.invokevirtual 111, 3) := by decide +kernel
theorem dX6_solves_5 : decode cX6_solves 5 = .ok (.ifCond .eq 17, 3) := by decide +kernel
theorem dX6_solves_8 : decode cX6_solves 8 = .ok (.iload_n 2, 1) := by decide +kernel
theorem dX6_solves_9 : decode cX6_solves 9 = .ok (.iconst 0, 1) := by decide +kernel
theorem dX6_solves_10 : decode cX6_solves 10 = .ok (.aload_n 0, 1) := by decide +kernel
theorem dX6_solves_11 : decode cX6_solves 11 = .ok (.getfield 13, 3) := by decide +kernel
theorem dX6_solves_14 : decode cX6_solves 14 = .ok (.iconst 1, 1) := by decide +kernel
theorem dX6_solves_15 : decode cX6_solves 15 = .ok (.isub, 1) := by decide +kernel
theorem dX6_solves_16 : decode cX6_solves 16 = .ok (.invokestatic 97, 3) := by decide +kernel
theorem dX6_solves_19 : decode cX6_solves 19 = .ok (.ifCond .ne 5, 3) := by decide +kernel
theorem dX6_solves_22 : decode cX6_solves 22 = .ok (.iconst (-1), 1) := by decide +kernel
theorem dX6_solves_23 : decode cX6_solves 23 = .ok (.ireturn, 1) := by decide +kernel
theorem dX6_solves_24 : decode cX6_solves 24 = .ok (.iload_n 1, 1) := by decide +kernel
theorem dX6_solves_25 : decode cX6_solves 25 = .ok (.ifCond .ne 6, 3) := by decide +kernel
theorem dX6_solves_28 : decode cX6_solves 28 = .ok (.bipush (-2), 2) := by decide +kernel
theorem dX6_solves_30 : decode cX6_solves 30 = .ok (.ireturn, 1) := by decide +kernel
theorem dX6_solves_31 : decode cX6_solves 31 = .ok (.aload_n 0, 1) := by decide +kernel
theorem dX6_solves_32 : decode cX6_solves 32 = .ok (.invokevirtual 140, 3) := by decide +kernel
theorem dX6_solves_35 : decode cX6_solves 35 = .ok (.aload_n 0, 1) := by decide +kernel
theorem dX6_solves_36 : decode cX6_solves 36 = .ok (.iload_n 1, 1) := by decide +kernel
theorem dX6_solves_37 : decode cX6_solves 37 = .ok (.invokevirtual 153, 3) := by decide +kernel
theorem dX6_solves_40 : decode cX6_solves 40 = .ok (.aload_n 0, 1) := by decide +kernel
theorem dX6_solves_41 : decode cX6_solves 41 = .ok (.iload_n 2, 1) := by decide +kernel
theorem dX6_solves_42 : decode cX6_solves 42 = .ok (.invokevirtual 159, 3) := by decide +kernel
theorem dX6_solves_45 : decode cX6_solves 45 = .ok (.ifCond .eq 7, 3) := by decide +kernel
theorem dX6_solves_48 : decode cX6_solves 48 = .ok (.iconst 1, 1) := by decide +kernel
theorem dX6_solves_49 : decode cX6_solves 49 = .ok (.goto 4, 3) := by decide +kernel
theorem dX6_solves_52 : decode cX6_solves 52 = .ok (.iconst 0, 1) := by decide +kernel
theorem dX6_solves_53 : decode cX6_solves 53 = .ok (.ireturn, 1) := by decide +kernel
set_option maxRecDepth 20000 in
theorem ggX6_key_X6_isRelay : GoodIn wsX6_key wsX6_isRelay := goodIn_r _ [8, 9, 10, 11, 7, 12, 73, 74, 75, 76, 77, 78, 79, 80, 81, 82, 83, 84, 85, 86, 87, 88, 89, 90, 91, 92, 93, 94, 95, 96, 97, 98, 99, 100, 101, 102, 103] (by decide +kernel) (by decide +kernel)
end
section
set_option maxRecDepth 20000 in
theorem gX6_key_X6_isRelay : GoodIn wsX6_key (wsV RX6 111 RX6 yX6_isRelay wsX6_isRelay) := goodIn_app (goodIn_of _ (by decide +kernel)) ggX6_key_X6_isRelay
set_option maxRecDepth 20000 in
theorem ggX6_key_X6_in : GoodIn wsX6_key wsX6_in := goodIn_r _ [12] (by decide +kernel) (by decide +kernel)
set_option maxRecDepth 20000 in
theorem gX6_key_X6_in : GoodIn wsX6_key (va_wsS RX6 97 yX6_in wsX6_in) := goodIn_app (goodIn_of _ (by decide +kernel)) ggX6_key_X6_in
set_option maxRecDepth 20000 in
theorem ggX6_key_X6_work : GoodIn wsX6_key wsX6_work := goodIn_r _ [16, 9, 17, 18, 19, 20, 21, 7, 22, 23, 24, 25, 26, 27, 28, 29, 1, 30, 31, 32, 33, 34, 35, 36, 37, 38, 39, 40, 41, 42, 43, 44, 45, 46, 47, 48, 49, 50, 73, 74, 75, 76, 77, 78, 79, 80, 81, 82, 83, 84, 85, 86, 87, 88, 89, 90, 91, 92, 93, 94, 95, 96, 97, 98, 99, 100, 101, 102, 103] (by decide +kernel) (by decide +kernel)
set_option maxRecDepth 20000 in
theorem gX6_key_X6_work : GoodIn wsX6_key (wsV RX6 140 RX6 yX6_work wsX6_work) := goodIn_app (goodIn_of _ (by decide +kernel)) ggX6_key_X6_work
set_option maxRecDepth 20000 in
theorem ggX6_key_X6_study : GoodIn wsX6_key wsX6_study := goodIn_r _ [54, 2, 17, 39, 3, 1, 24, 55, 56, 57, 58, 7, 59, 60, 61, 62, 63, 64, 65, 48, 49, 50, 66, 67, 68, 73, 74, 75, 76, 77, 78, 79, 80, 81, 82, 83, 84, 85, 86, 87, 88, 89, 90, 91, 92, 93, 94, 95, 96, 97, 98, 99, 100, 101, 102, 103] (by decide +kernel) (by decide +kernel)
set_option maxRecDepth 20000 in
theorem gX6_key_X6_study : GoodIn wsX6_key (wsV RX6 153 RX6 yX6_study wsX6_study) := goodIn_app (goodIn_of _ (by decide +kernel)) ggX6_key_X6_study
set_option maxRecDepth 20000 in
theorem ggX6_key_X6_solvesFor : GoodIn wsX6_key wsX6_solvesFor := goodIn_r _ [72, 3, 1, 62, 63, 64, 7, 65, 2, 61, 60, 48, 49, 50, 73, 74, 75, 76, 77, 78, 79, 80, 81, 82, 83, 84, 85, 86, 87, 88, 89, 90, 91, 92, 93, 94, 95, 96, 97, 98, 99, 100, 101, 102, 103] (by decide +kernel) (by decide +kernel)
set_option maxRecDepth 20000 in
theorem gX6_key_X6_solvesFor : GoodIn wsX6_key (wsV RX6 159 RX6 yX6_solvesFor wsX6_solvesFor) := goodIn_app (goodIn_of _ (by decide +kernel)) ggX6_key_X6_solvesFor
theorem dX6_key_0 : decode cX6_key 0 = .ok (.aload_n 0, 1) := by decide +kernel
theorem dX6_key_1 : decode cX6_key 1 = .ok (.iload_n 1, 1) := by decide +kernel
theorem dX6_key_2 : decode cX6_key 2 = .ok (.invokevirtual 111, 3) := by decide +kernel
theorem dX6_key_5 : decode cX6_key 5 = .ok (.ifCond .eq 21, 3) := by decide +kernel
theorem dX6_key_8 : decode cX6_key 8 = .ok (.iload_n 2, 1) := by decide +kernel
theorem dX6_key_9 : decode cX6_key 9 = .ok (.iconst 0, 1) := by decide +kernel
theorem dX6_key_10 : decode cX6_key 10 = .ok (.aload_n 0, 1) := by decide +kernel
theorem dX6_key_11 : decode cX6_key 11 = .ok (.getfield 13, 3) := by decide +kernel
theorem dX6_key_14 : decode cX6_key 14 = .ok (.iconst 1, 1) := by decide +kernel
theorem dX6_key_15 : decode cX6_key 15 = .ok (.isub, 1) := by decide +kernel
theorem dX6_key_16 : decode cX6_key 16 = .ok (.invokestatic 97, 3) := by decide +kernel
theorem dX6_key_19 : decode cX6_key 19 = .ok (.ifCond .eq 7, 3) := by decide +kernel
theorem dX6_key_22 : decode cX6_key 22 = .ok (.iload_n 3, 1) := by decide +kernel
theorem dX6_key_23 : decode cX6_key 23 = .ok (.ifCond .ge 5, 3) := by decide +kernel
theorem dX6_key_26 : decode cX6_key 26 = .ok (.iconst (-1), 1) := by decide +kernel
theorem dX6_key_27 : decode cX6_key 27 = .ok (.ireturn, 1) := by decide +kernel
theorem dX6_key_28 : decode cX6_key 28 = .ok (.iload_n 1, 1) := by decide +kernel
theorem dX6_key_29 : decode cX6_key 29 = .ok (.ifCond .ne 6, 3) := by decide +kernel
theorem dX6_key_32 : decode cX6_key 32 = .ok (.bipush (-2), 2) := by decide +kernel
theorem dX6_key_34 : decode cX6_key 34 = .ok (.ireturn, 1) := by decide +kernel
theorem dX6_key_35 : decode cX6_key 35 = .ok (.aload_n 0, 1) := by decide +kernel
theorem dX6_key_36 : decode cX6_key 36 = .ok (.invokevirtual 140, 3) := by decide +kernel
theorem dX6_key_39 : decode cX6_key 39 = .ok (.aload_n 0, 1) := by decide +kernel
theorem dX6_key_40 : decode cX6_key 40 = .ok (.iload_n 1, 1) := by decide +kernel
theorem dX6_key_41 : decode cX6_key 41 = .ok (.invokevirtual 153, 3) := by decide +kernel
theorem dX6_key_44 : decode cX6_key 44 = .ok (.aload_n 0, 1) := by decide +kernel
theorem dX6_key_45 : decode cX6_key 45 = .ok (.iload_n 2, 1) := by decide +kernel
theorem dX6_key_46 : decode cX6_key 46 = .ok (.invokevirtual 159, 3) := by decide +kernel
theorem dX6_key_49 : decode cX6_key 49 = .ok (.ifCond .eq 22, 3) := by decide +kernel
theorem dX6_key_52 : decode cX6_key 52 = .ok (.iload_n 3, 1) := by decide +kernel
theorem dX6_key_53 : decode cX6_key 53 = .ok (.aload_n 0, 1) := by decide +kernel
theorem dX6_key_54 : decode cX6_key 54 = .ok (.getfield 143, 3) := by decide +kernel
theorem dX6_key_57 : decode cX6_key 57 = .ok (.if_icmp .ge 14, 3) := by decide +kernel
theorem dX6_key_60 : decode cX6_key 60 = .ok (.aload_n 0, 1) := by decide +kernel
theorem dX6_key_61 : decode cX6_key 61 = .ok (.getfield 73, 3) := by decide +kernel
theorem dX6_key_64 : decode cX6_key 64 = .ok (.iconst 4, 1) := by decide +kernel
theorem dX6_key_65 : decode cX6_key 65 = .ok (.iload_n 3, 1) := by decide +kernel
theorem dX6_key_66 : decode cX6_key 66 = .ok (.iadd, 1) := by decide +kernel
theorem dX6_key_67 : decode cX6_key 67 = .ok (.iaload, 1) := by decide +kernel
theorem dX6_key_68 : decode cX6_key 68 = .ok (.goto 4, 3) := by decide +kernel
theorem dX6_key_71 : decode cX6_key 71 = .ok (.iconst (-1), 1) := by decide +kernel
theorem dX6_key_72 : decode cX6_key 72 = .ok (.ireturn, 1) := by decide +kernel
set_option maxRecDepth 20000 in
theorem ggX6_getsOf_X6_solvesFor : GoodIn wsX6_getsOf wsX6_solvesFor := goodIn_r _ [9, 2, 10, 11, 12, 13, 8, 14, 1, 15, 16, 17, 18, 19, 24, 25, 26, 27, 28, 29, 30, 31, 32, 33, 34, 35, 36, 37, 38, 39, 40, 41, 42, 43, 44, 45, 46, 47, 48, 49, 50, 51, 52, 53, 54] (by decide +kernel) (by decide +kernel)
set_option maxRecDepth 20000 in
theorem gX6_getsOf_X6_solvesFor : GoodIn wsX6_getsOf (wsV RX6 159 RX6 yX6_solvesFor wsX6_solvesFor) := goodIn_app (goodIn_of _ (by decide +kernel)) ggX6_getsOf_X6_solvesFor
set_option maxRecDepth 20000 in
theorem ggX6_getsOf_X6_product_ : GoodIn wsX6_getsOf wsX6_product_ := goodIn_r _ [22, 23, 17, 18, 8, 19] (by decide +kernel) (by decide +kernel)
set_option maxRecDepth 20000 in
theorem gX6_getsOf_X6_product_ : GoodIn wsX6_getsOf (va_wsS RX6 137 yX6_product_ wsX6_product_) := goodIn_app (goodIn_of _ (by decide +kernel)) ggX6_getsOf_X6_product_
theorem dX6_getsOf_0 : decode cX6_getsOf 0 = .ok (.lconst 0, 1) := by decide +kernel
theorem dX6_getsOf_1 : decode cX6_getsOf 1 = .ok (.lstore_n 2, 1) := by decide +kernel
theorem dX6_getsOf_2 : decode cX6_getsOf 2 = .ok (.aload_n 0, 1) := by decide +kernel
theorem dX6_getsOf_3 : decode cX6_getsOf 3 = .ok (.iload_n 1, 1) := by decide +kernel
theorem dX6_getsOf_4 : decode cX6_getsOf 4 = .ok (.invokevirtual 159, 3) := by decide +kernel
theorem dX6_getsOf_7 : decode cX6_getsOf 7 = .ok (.ifCond .ne 5, 3) := by decide +kernel
theorem dX6_getsOf_10 : decode cX6_getsOf 10 = .ok (.lconst 0, 1) := by decide +kernel
theorem dX6_getsOf_11 : decode cX6_getsOf 11 = .ok (.lreturn, 1) := by decide +kernel
theorem dX6_getsOf_12 : decode cX6_getsOf 12 = .ok (.iconst 0, 1) := by decide +kernel
theorem dX6_getsOf_13 : decode cX6_getsOf 13 = .ok (.istore 4, 2) := by decide +kernel
theorem dX6_getsOf_15 : decode cX6_getsOf 15 = .ok (.iload 4, 2) := by decide +kernel
theorem dX6_getsOf_17 : decode cX6_getsOf 17 = .ok (.aload_n 0, 1) := by decide +kernel
theorem dX6_getsOf_18 : decode cX6_getsOf 18 = .ok (.getfield 143, 3) := by decide +kernel
theorem dX6_getsOf_21 : decode cX6_getsOf 21 = .ok (.if_icmp .ge 36, 3) := by decide +kernel
theorem dX6_getsOf_24 : decode cX6_getsOf 24 = .ok (.lload_n 2, 1) := by decide +kernel
theorem dX6_getsOf_25 : decode cX6_getsOf 25 = .ok (.aload_n 0, 1) := by decide +kernel
theorem dX6_getsOf_26 : decode cX6_getsOf 26 = .ok (.getfield 73, 3) := by decide +kernel
theorem dX6_getsOf_29 : decode cX6_getsOf 29 = .ok (.iconst 4, 1) := by decide +kernel
theorem dX6_getsOf_30 : decode cX6_getsOf 30 = .ok (.iload 4, 2) := by decide +kernel
theorem dX6_getsOf_32 : decode cX6_getsOf 32 = .ok (.iadd, 1) := by decide +kernel
theorem dX6_getsOf_33 : decode cX6_getsOf 33 = .ok (.iaload, 1) := by decide +kernel
theorem dX6_getsOf_34 : decode cX6_getsOf 34 = .ok (.aload_n 0, 1) := by decide +kernel
theorem dX6_getsOf_35 : decode cX6_getsOf 35 = .ok (.getfield 55, 3) := by decide +kernel
theorem dX6_getsOf_38 : decode cX6_getsOf 38 = .ok (.aload_n 0, 1) := by decide +kernel
theorem dX6_getsOf_39 : decode cX6_getsOf 39 = .ok (.getfield 70, 3) := by decide +kernel
theorem dX6_getsOf_42 : decode cX6_getsOf 42 = .ok (.iload 4, 2) := by decide +kernel
theorem dX6_getsOf_44 : decode cX6_getsOf 44 = .ok (.iaload, 1) := by decide +kernel
theorem dX6_getsOf_45 : decode cX6_getsOf 45 = .ok (.laload, 1) := by decide +kernel
theorem dX6_getsOf_46 : decode cX6_getsOf 46 = .ok (.invokestatic 137, 3) := by decide +kernel
theorem dX6_getsOf_49 : decode cX6_getsOf 49 = .ok (.lxor, 1) := by decide +kernel
theorem dX6_getsOf_50 : decode cX6_getsOf 50 = .ok (.lstore_n 2, 1) := by decide +kernel
theorem dX6_getsOf_51 : decode cX6_getsOf 51 = .ok (.iinc 4 1, 3) := by decide +kernel
theorem dX6_getsOf_54 : decode cX6_getsOf 54 = .ok (.goto (-39), 3) := by decide +kernel
theorem dX6_getsOf_57 : decode cX6_getsOf 57 = .ok (.lload_n 2, 1) := by decide +kernel
theorem dX6_getsOf_58 : decode cX6_getsOf 58 = .ok (.lreturn, 1) := by decide +kernel
set_option maxRecDepth 20000 in
theorem ggX6_gets_X6_isRelay : GoodIn wsX6_gets wsX6_isRelay := goodIn_r _ [6, 7, 8, 9, 5, 10, 77, 78, 79, 80, 81, 82, 83, 84, 85, 86, 87, 88, 89, 90, 91, 92, 93, 94, 95, 96, 97, 98, 99, 100, 101, 102, 103, 104, 105, 106, 107] (by decide +kernel) (by decide +kernel)
set_option maxRecDepth 20000 in
theorem gX6_gets_X6_isRelay : GoodIn wsX6_gets (wsV RX6 111 RX6 yX6_isRelay wsX6_isRelay) := goodIn_app (goodIn_of _ (by decide +kernel)) ggX6_gets_X6_isRelay
set_option maxRecDepth 20000 in
theorem ggX6_gets_X6_in : GoodIn wsX6_gets wsX6_in := goodIn_r _ [10] (by decide +kernel) (by decide +kernel)
set_option maxRecDepth 20000 in
theorem gX6_gets_X6_in : GoodIn wsX6_gets (va_wsS RX6 97 yX6_in wsX6_in) := goodIn_app (goodIn_of _ (by decide +kernel)) ggX6_gets_X6_in
set_option maxRecDepth 20000 in
theorem ggX6_gets_X6_work : GoodIn wsX6_gets wsX6_work := goodIn_r _ [14, 7, 15, 16, 17, 18, 19, 5, 20, 21, 22, 23, 24, 25, 26, 27, 1, 28, 29, 30, 31, 32, 33, 34, 35, 36, 37, 38, 39, 40, 41, 42, 43, 44, 45, 46, 47, 48, 77, 78, 79, 80, 81, 82, 83, 84, 85, 86, 87, 88, 89, 90, 91, 92, 93, 94, 95, 96, 97, 98, 99, 100, 101, 102, 103, 104, 105, 106, 107] (by decide +kernel) (by decide +kernel)
set_option maxRecDepth 20000 in
theorem gX6_gets_X6_work : GoodIn wsX6_gets (wsV RX6 140 RX6 yX6_work wsX6_work) := goodIn_app (goodIn_of _ (by decide +kernel)) ggX6_gets_X6_work
set_option maxRecDepth 20000 in
theorem ggX6_gets_X6_study : GoodIn wsX6_gets wsX6_study := goodIn_r _ [52, 53, 15, 37, 54, 1, 22, 55, 56, 57, 58, 5, 59, 60, 61, 62, 63, 64, 65, 46, 47, 48, 66, 67, 68, 77, 78, 79, 80, 81, 82, 83, 84, 85, 86, 87, 88, 89, 90, 91, 92, 93, 94, 95, 96, 97, 98, 99, 100, 101, 102, 103, 104, 105, 106, 107] (by decide +kernel) (by decide +kernel)
set_option maxRecDepth 20000 in
theorem gX6_gets_X6_study : GoodIn wsX6_gets (wsV RX6 153 RX6 yX6_study wsX6_study) := goodIn_app (goodIn_of _ (by decide +kernel)) ggX6_gets_X6_study
set_option maxRecDepth 20000 in
theorem ggX6_gets_X6_getsOf : GoodIn wsX6_gets wsX6_getsOf := goodIn_r _ [72, 53, 54, 21, 55, 73, 74, 75, 5, 76, 1, 62, 63, 64, 65, 61, 60, 46, 47, 48, 42, 43, 44, 45, 77, 78, 79, 80, 81, 82, 83, 84, 85, 86, 87, 88, 89, 90, 91, 92, 93, 94, 95, 96, 97, 98, 99, 100, 101, 102, 103, 104, 105, 106, 107] (by decide +kernel) (by decide +kernel)
set_option maxRecDepth 20000 in
theorem gX6_gets_X6_getsOf : GoodIn wsX6_gets (wsV RX6 162 RX6 yX6_getsOf wsX6_getsOf) := goodIn_app (goodIn_of _ (by decide +kernel)) ggX6_gets_X6_getsOf
theorem dX6_gets_0 : decode cX6_gets 0 = .ok (.aload_n 0, 1) := by decide +kernel
theorem dX6_gets_1 : decode cX6_gets 1 = .ok (.iload_n 1, 1) := by decide +kernel
theorem dX6_gets_2 : decode cX6_gets 2 = .ok (.invokevirtual 111, 3) := by decide +kernel
theorem dX6_gets_5 : decode cX6_gets 5 = .ok (.ifCond .eq 21, 3) := by decide +kernel
theorem dX6_gets_8 : decode cX6_gets 8 = .ok (.iload_n 1, 1) := by decide +kernel
theorem dX6_gets_9 : decode cX6_gets 9 = .ok (.ifCond .eq 17, 3) := by decide +kernel
theorem dX6_gets_12 : decode cX6_gets 12 = .ok (.iload_n 2, 1) := by decide +kernel
theorem dX6_gets_13 : decode cX6_gets 13 = .ok (.iconst 0, 1) := by decide +kernel
theorem dX6_gets_14 : decode cX6_gets 14 = .ok (.aload_n 0, 1) := by decide +kernel
theorem dX6_gets_15 : decode cX6_gets 15 = .ok (.getfield 13, 3) := by decide +kernel
theorem dX6_gets_18 : decode cX6_gets 18 = .ok (.iconst 1, 1) := by decide +kernel
theorem dX6_gets_19 : decode cX6_gets 19 = .ok (.isub, 1) := by decide +kernel
theorem dX6_gets_20 : decode cX6_gets 20 = .ok (.invokestatic 97, 3) := by decide +kernel
theorem dX6_gets_23 : decode cX6_gets 23 = .ok (.ifCond .ne 5, 3) := by decide +kernel
theorem dX6_gets_26 : decode cX6_gets 26 = .ok (.lconst 0, 1) := by decide +kernel
theorem dX6_gets_27 : decode cX6_gets 27 = .ok (.lreturn, 1) := by decide +kernel
theorem dX6_gets_28 : decode cX6_gets 28 = .ok (.aload_n 0, 1) := by decide +kernel
theorem dX6_gets_29 : decode cX6_gets 29 = .ok (.invokevirtual 140, 3) := by decide +kernel
theorem dX6_gets_32 : decode cX6_gets 32 = .ok (.aload_n 0, 1) := by decide +kernel
theorem dX6_gets_33 : decode cX6_gets 33 = .ok (.iload_n 1, 1) := by decide +kernel
theorem dX6_gets_34 : decode cX6_gets 34 = .ok (.invokevirtual 153, 3) := by decide +kernel
theorem dX6_gets_37 : decode cX6_gets 37 = .ok (.aload_n 0, 1) := by decide +kernel
theorem dX6_gets_38 : decode cX6_gets 38 = .ok (.iload_n 2, 1) := by decide +kernel
theorem dX6_gets_39 : decode cX6_gets 39 = .ok (.invokevirtual 162, 3) := by decide +kernel
theorem dX6_gets_42 : decode cX6_gets 42 = .ok (.lreturn, 1) := by decide +kernel
set_option maxRecDepth 20000 in
theorem ggX6_goes_X6_product : GoodIn wsX6_goes wsX6_product := goodIn_r _ [9] (by decide +kernel) (by decide +kernel)
set_option maxRecDepth 20000 in
theorem gX6_goes_X6_product : GoodIn wsX6_goes (va_wsS RX6 91 yX6_product wsX6_product) := goodIn_app (goodIn_of _ (by decide +kernel)) ggX6_goes_X6_product
set_option maxRecDepth 20000 in
theorem ggX6_goes_X6_isSolvable : GoodIn wsX6_goes wsX6_isSolvable := goodIn_r _ [13, 3, 2, 14, 15, 8, 16, 6, 7, 9, 17, 18, 19, 20, 21, 22, 23, 24, 25, 26, 27, 28, 29, 30, 31, 32, 33, 34, 35, 36, 37, 38, 39, 40, 41, 42, 43, 44, 45, 46, 47] (by decide +kernel) (by decide +kernel)
set_option maxRecDepth 20000 in
theorem gX6_goes_X6_isSolvable : GoodIn wsX6_goes (wsV RX6 166 RX6 yX6_isSolvable wsX6_isSolvable) := goodIn_app (goodIn_of _ (by decide +kernel)) ggX6_goes_X6_isSolvable
theorem dX6_goes_0 : decode cX6_goes 0 = .ok (.iconst 0, 1) := by decide +kernel
theorem dX6_goes_1 : decode cX6_goes 1 = .ok (.istore_n 3, 1) := by decide +kernel
theorem dX6_goes_2 : decode cX6_goes 2 = .ok (.iconst 0, 1) := by decide +kernel
theorem dX6_goes_3 : decode cX6_goes 3 = .ok (.istore 4, 2) := by decide +kernel
theorem dX6_goes_5 : decode cX6_goes 5 = .ok (.iload 4, 2) := by decide +kernel
theorem dX6_goes_7 : decode cX6_goes 7 = .ok (.aload_n 0, 1) := by decide +kernel
theorem dX6_goes_8 : decode cX6_goes 8 = .ok (.getfield 143, 3) := by decide +kernel
theorem dX6_goes_11 : decode cX6_goes 11 = .ok (.if_icmp .ge 142, 3) := by decide +kernel
theorem dX6_goes_14 : decode cX6_goes 14 = .ok (.iconst 0, 1) := by decide +kernel
theorem dX6_goes_15 : decode cX6_goes 15 = .ok (.istore 5, 2) := by decide +kernel
theorem dX6_goes_17 : decode cX6_goes 17 = .ok (.iload 5, 2) := by decide +kernel
theorem dX6_goes_19 : decode cX6_goes 19 = .ok (.iconst 5, 1) := by decide +kernel
theorem dX6_goes_20 : decode cX6_goes 20 = .ok (.if_icmp .ge 21, 3) := by decide +kernel
theorem dX6_goes_23 : decode cX6_goes 23 = .ok (.aload_n 0, 1) := by decide +kernel
theorem dX6_goes_24 : decode cX6_goes 24 = .ok (.getfield 79, 3) := by decide +kernel
theorem dX6_goes_27 : decode cX6_goes 27 = .ok (.iconst 5, 1) := by decide +kernel
theorem dX6_goes_28 : decode cX6_goes 28 = .ok (.iload_n 3, 1) := by decide +kernel
theorem dX6_goes_29 : decode cX6_goes 29 = .ok (.imul, 1) := by decide +kernel
theorem dX6_goes_30 : decode cX6_goes 30 = .ok (.iload 5, 2) := by decide +kernel
theorem dX6_goes_32 : decode cX6_goes 32 = .ok (.iadd, 1) := by decide +kernel
theorem dX6_goes_33 : decode cX6_goes 33 = .ok (.iconst 0, 1) := by decide +kernel
theorem dX6_goes_34 : decode cX6_goes 34 = .ok (.iastore, 1) := by decide +kernel
theorem dX6_goes_35 : decode cX6_goes 35 = .ok (.iinc 5 1, 3) := by decide +kernel
theorem dX6_goes_38 : decode cX6_goes 38 = .ok (.goto (-21), 3) := by decide +kernel
theorem dX6_goes_41 : decode cX6_goes 41 = .ok (.iconst 0, 1) := by decide +kernel
theorem dX6_goes_42 : decode cX6_goes 42 = .ok (.istore 5, 2) := by decide +kernel
theorem dX6_goes_44 : decode cX6_goes 44 = .ok (.iload 5, 2) := by decide +kernel
theorem dX6_goes_46 : decode cX6_goes 46 = .ok (.aload_n 0, 1) := by decide +kernel
theorem dX6_goes_47 : decode cX6_goes 47 = .ok (.getfield 13, 3) := by decide +kernel
theorem dX6_goes_50 : decode cX6_goes 50 = .ok (.if_icmp .ge 94, 3) := by decide +kernel
theorem dX6_goes_53 : decode cX6_goes 53 = .ok (.iload 5, 2) := by decide +kernel
theorem dX6_goes_55 : decode cX6_goes 55 = .ok (.iload_n 1, 1) := by decide +kernel
theorem dX6_goes_56 : decode cX6_goes 56 = .ok (.if_icmp .lt 9, 3) := by decide +kernel
theorem dX6_goes_59 : decode cX6_goes 59 = .ok (.iload 5, 2) := by decide +kernel
theorem dX6_goes_61 : decode cX6_goes 61 = .ok (.iload_n 2, 1) := by decide +kernel
theorem dX6_goes_62 : decode cX6_goes 62 = .ok (.if_icmp .ne 52, 3) := by decide +kernel
theorem dX6_goes_65 : decode cX6_goes 65 = .ok (.aload_n 0, 1) := by decide +kernel
theorem dX6_goes_66 : decode cX6_goes 66 = .ok (.getfield 79, 3) := by decide +kernel
theorem dX6_goes_69 : decode cX6_goes 69 = .ok (.iconst 5, 1) := by decide +kernel
theorem dX6_goes_70 : decode cX6_goes 70 = .ok (.iload_n 3, 1) := by decide +kernel
theorem dX6_goes_71 : decode cX6_goes 71 = .ok (.imul, 1) := by decide +kernel
theorem dX6_goes_72 : decode cX6_goes 72 = .ok (.iconst 4, 1) := by decide +kernel
theorem dX6_goes_73 : decode cX6_goes 73 = .ok (.iadd, 1) := by decide +kernel
theorem dX6_goes_74 : decode cX6_goes 74 = .ok (.dup2, 1) := by decide +kernel
theorem dX6_goes_75 : decode cX6_goes 75 = .ok (.iaload, 1) := by decide +kernel
theorem dX6_goes_76 : decode cX6_goes 76 = .ok (.aload_n 0, 1) := by decide +kernel
theorem dX6_goes_77 : decode cX6_goes 77 = .ok (.getfield 64, 3) := by decide +kernel
theorem dX6_goes_80 : decode cX6_goes 80 = .ok (.bipush 9, 2) := by decide +kernel
theorem dX6_goes_82 : decode cX6_goes 82 = .ok (.iload 4, 2) := by decide +kernel
theorem dX6_goes_84 : decode cX6_goes 84 = .ok (.imul, 1) := by decide +kernel
theorem dX6_goes_85 : decode cX6_goes 85 = .ok (.iload 5, 2) := by decide +kernel
theorem dX6_goes_87 : decode cX6_goes 87 = .ok (.iadd, 1) := by decide +kernel
theorem dX6_goes_88 : decode cX6_goes 88 = .ok (.iaload, 1) := by decide +kernel
theorem dX6_goes_89 : decode cX6_goes 89 = .ok (.iload 5, 2) := by decide +kernel
theorem dX6_goes_91 : decode cX6_goes 91 = .ok (.iload_n 2, 1) := by decide +kernel
theorem dX6_goes_92 : decode cX6_goes 92 = .ok (.if_icmp .ne 7, 3) := by decide +kernel
theorem dX6_goes_95 : decode cX6_goes 95 = .ok (.iconst 1, 1) := by decide +kernel
theorem dX6_goes_96 : decode cX6_goes 96 = .ok (.goto 10, 3) := by decide +kernel
theorem dX6_goes_99 : decode cX6_goes 99 = .ok (.aload_n 0, 1) := by decide +kernel
theorem dX6_goes_100 : decode cX6_goes 100 = .ok (.getfield 76, 3) := by decide +kernel
theorem dX6_goes_103 : decode cX6_goes 103 = .ok (.iload 5, 2) := by decide +kernel
theorem dX6_goes_105 : decode cX6_goes 105 = .ok (.iaload, 1) := by decide +kernel
theorem dX6_goes_106 : decode cX6_goes 106 = .ok (.invokestatic 91, 3) := by decide +kernel
theorem dX6_goes_109 : decode cX6_goes 109 = .ok (.ixor, 1) := by decide +kernel
theorem dX6_goes_110 : decode cX6_goes 110 = .ok (.iastore, 1) := by decide +kernel
theorem dX6_goes_111 : decode cX6_goes 111 = .ok (.goto 27, 3) := by decide +kernel
theorem dX6_goes_114 : decode cX6_goes 114 = .ok (.aload_n 0, 1) := by decide +kernel
theorem dX6_goes_115 : decode cX6_goes 115 = .ok (.getfield 79, 3) := by decide +kernel
theorem dX6_goes_118 : decode cX6_goes 118 = .ok (.iconst 5, 1) := by decide +kernel
theorem dX6_goes_119 : decode cX6_goes 119 = .ok (.iload_n 3, 1) := by decide +kernel
theorem dX6_goes_120 : decode cX6_goes 120 = .ok (.imul, 1) := by decide +kernel
theorem dX6_goes_121 : decode cX6_goes 121 = .ok (.iload 5, 2) := by decide +kernel
theorem dX6_goes_123 : decode cX6_goes 123 = .ok (.iadd, 1) := by decide +kernel
theorem dX6_goes_124 : decode cX6_goes 124 = .ok (.aload_n 0, 1) := by decide +kernel
theorem dX6_goes_125 : decode cX6_goes 125 = .ok (.getfield 64, 3) := by decide +kernel
theorem dX6_goes_128 : decode cX6_goes 128 = .ok (.bipush 9, 2) := by decide +kernel
theorem dX6_goes_130 : decode cX6_goes 130 = .ok (.iload 4, 2) := by decide +kernel
theorem dX6_goes_132 : decode cX6_goes 132 = .ok (.imul, 1) := by decide +kernel
theorem dX6_goes_133 : decode cX6_goes 133 = .ok (.iload 5, 2) := by decide +kernel
theorem dX6_goes_135 : decode cX6_goes 135 = .ok (.iadd, 1) := by decide +kernel
theorem dX6_goes_136 : decode cX6_goes 136 = .ok (.iaload, 1) := by decide +kernel
theorem dX6_goes_137 : decode cX6_goes 137 = .ok (.iastore, 1) := by decide +kernel
theorem dX6_goes_138 : decode cX6_goes 138 = .ok (.iinc 5 1, 3) := by decide +kernel
theorem dX6_goes_141 : decode cX6_goes 141 = .ok (.goto (-97), 3) := by decide +kernel
theorem dX6_goes_144 : decode cX6_goes 144 = .ok (.iinc 3 1, 3) := by decide +kernel
theorem dX6_goes_147 : decode cX6_goes 147 = .ok (.iinc 4 1, 3) := by decide +kernel
theorem dX6_goes_150 : decode cX6_goes 150 = .ok (.goto (-145), 3) := by decide +kernel
theorem dX6_goes_153 : decode cX6_goes 153 = .ok (.aload_n 0, 1) := by decide +kernel
theorem dX6_goes_154 : decode cX6_goes 154 = .ok (.iload_n 3, 1) := by decide +kernel
theorem dX6_goes_155 : decode cX6_goes 155 = .ok (.invokevirtual 166, 3) := by decide +kernel
theorem dX6_goes_158 : decode cX6_goes 158 = .ok (.ireturn, 1) := by decide +kernel
set_option maxRecDepth 20000 in
theorem ggX6_isSolvable_X6_inverseOf : GoodIn wsX6_isSolvable wsX6_inverseOf := goodIn_r _ [6, 7, 8, 5, 9] (by decide +kernel) (by decide +kernel)
set_option maxRecDepth 20000 in
theorem gX6_isSolvable_X6_inverseOf : GoodIn wsX6_isSolvable (va_wsS RX6 101 yX6_inverseOf wsX6_inverseOf) := goodIn_app (goodIn_of _ (by decide +kernel)) ggX6_isSolvable_X6_inverseOf
set_option maxRecDepth 20000 in
theorem ggX6_isSolvable_X6_product : GoodIn wsX6_isSolvable wsX6_product := goodIn_r _ [9] (by decide +kernel) (by decide +kernel)
set_option maxRecDepth 20000 in
theorem gX6_isSolvable_X6_product : GoodIn wsX6_isSolvable (va_wsS RX6 91 yX6_product wsX6_product) := goodIn_app (goodIn_of _ (by decide +kernel)) ggX6_isSolvable_X6_product
theorem dX6_isSolvable_0 : decode cX6_isSolvable 0 = .ok (.iconst 0, 1) := by decide +kernel
theorem dX6_isSolvable_1 : decode cX6_isSolvable 1 = .ok (.istore_n 2, 1) := by decide +kernel
theorem dX6_isSolvable_2 : decode cX6_isSolvable 2 = .ok (.iconst 0, 1) := by decide +kernel
theorem dX6_isSolvable_3 : decode cX6_isSolvable 3 = .ok (.istore_n 3, 1) := by decide +kernel
theorem dX6_isSolvable_4 : decode cX6_isSolvable 4 = .ok (.iload_n 3, 1) := by decide +kernel
theorem dX6_isSolvable_5 : decode cX6_isSolvable 5 = .ok (.aload_n 0, 1) := by decide +kernel
theorem dX6_isSolvable_6 : decode cX6_isSolvable 6 = .ok (.getfield 13, 3) := by decide +kernel
theorem dX6_isSolvable_9 : decode cX6_isSolvable 9 = .ok (.if_icmp .ge 216, 3) := by decide +kernel
theorem dX6_isSolvable_12 : decode cX6_isSolvable 12 = .ok (.iload_n 2, 1) := by decide +kernel
theorem dX6_isSolvable_13 : decode cX6_isSolvable 13 = .ok (.istore 4, 2) := by decide +kernel
theorem dX6_isSolvable_15 : decode cX6_isSolvable 15 = .ok (.iload 4, 2) := by decide +kernel
theorem dX6_isSolvable_17 : decode cX6_isSolvable 17 = .ok (.iload_n 1, 1) := by decide +kernel
theorem dX6_isSolvable_18 : decode cX6_isSolvable 18 = .ok (.if_icmp .ge 23, 3) := by decide +kernel
theorem dX6_isSolvable_21 : decode cX6_isSolvable 21 = .ok (.aload_n 0, 1) := by decide +kernel
theorem dX6_isSolvable_22 : decode cX6_isSolvable 22 = .ok (.getfield 79, 3) := by decide +kernel
theorem dX6_isSolvable_25 : decode cX6_isSolvable 25 = .ok (.iconst 5, 1) := by decide +kernel
theorem dX6_isSolvable_26 : decode cX6_isSolvable 26 = .ok (.iload 4, 2) := by decide +kernel
theorem dX6_isSolvable_28 : decode cX6_isSolvable 28 = .ok (.imul, 1) := by decide +kernel
theorem dX6_isSolvable_29 : decode cX6_isSolvable 29 = .ok (.iload_n 3, 1) := by decide +kernel
theorem dX6_isSolvable_30 : decode cX6_isSolvable 30 = .ok (.iadd, 1) := by decide +kernel
theorem dX6_isSolvable_31 : decode cX6_isSolvable 31 = .ok (.iaload, 1) := by decide +kernel
theorem dX6_isSolvable_32 : decode cX6_isSolvable 32 = .ok (.ifCond .ne 9, 3) := by decide +kernel
theorem dX6_isSolvable_35 : decode cX6_isSolvable 35 = .ok (.iinc 4 1, 3) := by decide +kernel
theorem dX6_isSolvable_38 : decode cX6_isSolvable 38 = .ok (.goto (-23), 3) := by decide +kernel
theorem dX6_isSolvable_41 : decode cX6_isSolvable 41 = .ok (.iload 4, 2) := by decide +kernel
theorem dX6_isSolvable_43 : decode cX6_isSolvable 43 = .ok (.iload_n 1, 1) := by decide +kernel
theorem dX6_isSolvable_44 : decode cX6_isSolvable 44 = .ok (.if_icmp .ne 6, 3) := by decide +kernel
theorem dX6_isSolvable_47 : decode cX6_isSolvable 47 = .ok (.goto 172, 3) := by decide +kernel
theorem dX6_isSolvable_50 : decode cX6_isSolvable 50 = .ok (.iconst 0, 1) := by decide +kernel
theorem dX6_isSolvable_51 : decode cX6_isSolvable 51 = .ok (.istore 5, 2) := by decide +kernel
theorem dX6_isSolvable_53 : decode cX6_isSolvable 53 = .ok (.iload 5, 2) := by decide +kernel
theorem dX6_isSolvable_55 : decode cX6_isSolvable 55 = .ok (.iconst 5, 1) := by decide +kernel
theorem dX6_isSolvable_56 : decode cX6_isSolvable 56 = .ok (.if_icmp .ge 59, 3) := by decide +kernel
theorem dX6_isSolvable_59 : decode cX6_isSolvable 59 = .ok (.aload_n 0, 1) := by decide +kernel
theorem dX6_isSolvable_60 : decode cX6_isSolvable 60 = .ok (.getfield 79, 3) := by decide +kernel
theorem dX6_isSolvable_63 : decode cX6_isSolvable 63 = .ok (.iconst 5, 1) := by decide +kernel
theorem dX6_isSolvable_64 : decode cX6_isSolvable 64 = .ok (.iload 4, 2) := by decide +kernel
theorem dX6_isSolvable_66 : decode cX6_isSolvable 66 = .ok (.imul, 1) := by decide +kernel
theorem dX6_isSolvable_67 : decode cX6_isSolvable 67 = .ok (.iload 5, 2) := by decide +kernel
theorem dX6_isSolvable_69 : decode cX6_isSolvable 69 = .ok (.iadd, 1) := by decide +kernel
theorem dX6_isSolvable_70 : decode cX6_isSolvable 70 = .ok (.iaload, 1) := by decide +kernel
theorem dX6_isSolvable_71 : decode cX6_isSolvable 71 = .ok (.istore 6, 2) := by decide +kernel
theorem dX6_isSolvable_73 : decode cX6_isSolvable 73 = .ok (.aload_n 0, 1) := by decide +kernel
theorem dX6_isSolvable_74 : decode cX6_isSolvable 74 = .ok (.getfield 79, 3) := by decide +kernel
theorem dX6_isSolvable_77 : decode cX6_isSolvable 77 = .ok (.iconst 5, 1) := by decide +kernel
theorem dX6_isSolvable_78 : decode cX6_isSolvable 78 = .ok (.iload 4, 2) := by decide +kernel
theorem dX6_isSolvable_80 : decode cX6_isSolvable 80 = .ok (.imul, 1) := by decide +kernel
theorem dX6_isSolvable_81 : decode cX6_isSolvable 81 = .ok (.iload 5, 2) := by decide +kernel
theorem dX6_isSolvable_83 : decode cX6_isSolvable 83 = .ok (.iadd, 1) := by decide +kernel
theorem dX6_isSolvable_84 : decode cX6_isSolvable 84 = .ok (.aload_n 0, 1) := by decide +kernel
theorem dX6_isSolvable_85 : decode cX6_isSolvable 85 = .ok (.getfield 79, 3) := by decide +kernel
theorem dX6_isSolvable_88 : decode cX6_isSolvable 88 = .ok (.iconst 5, 1) := by decide +kernel
theorem dX6_isSolvable_89 : decode cX6_isSolvable 89 = .ok (.iload_n 2, 1) := by decide +kernel
theorem dX6_isSolvable_90 : decode cX6_isSolvable 90 = .ok (.imul, 1) := by decide +kernel
theorem dX6_isSolvable_91 : decode cX6_isSolvable 91 = .ok (.iload 5, 2) := by decide +kernel
theorem dX6_isSolvable_93 : decode cX6_isSolvable 93 = .ok (.iadd, 1) := by decide +kernel
theorem dX6_isSolvable_94 : decode cX6_isSolvable 94 = .ok (.iaload, 1) := by decide +kernel
theorem dX6_isSolvable_95 : decode cX6_isSolvable 95 = .ok (.iastore, 1) := by decide +kernel
theorem dX6_isSolvable_96 : decode cX6_isSolvable 96 = .ok (.aload_n 0, 1) := by decide +kernel
theorem dX6_isSolvable_97 : decode cX6_isSolvable 97 = .ok (.getfield 79, 3) := by decide +kernel
theorem dX6_isSolvable_100 : decode cX6_isSolvable 100 = .ok (.iconst 5, 1) := by decide +kernel
theorem dX6_isSolvable_101 : decode cX6_isSolvable 101 = .ok (.iload_n 2, 1) := by decide +kernel
theorem dX6_isSolvable_102 : decode cX6_isSolvable 102 = .ok (.imul, 1) := by decide +kernel
theorem dX6_isSolvable_103 : decode cX6_isSolvable 103 = .ok (.iload 5, 2) := by decide +kernel
theorem dX6_isSolvable_105 : decode cX6_isSolvable 105 = .ok (.iadd, 1) := by decide +kernel
theorem dX6_isSolvable_106 : decode cX6_isSolvable 106 = .ok (.iload 6, 2) := by decide +kernel
theorem dX6_isSolvable_108 : decode cX6_isSolvable 108 = .ok (.iastore, 1) := by decide +kernel
theorem dX6_isSolvable_109 : decode cX6_isSolvable 109 = .ok (.iinc 5 1, 3) := by decide +kernel
theorem dX6_isSolvable_112 : decode cX6_isSolvable 112 = .ok (.goto (-59), 3) := by decide +kernel
theorem dX6_isSolvable_115 : decode cX6_isSolvable 115 = .ok (.aload_n 0, 1) := by decide +kernel
theorem dX6_isSolvable_116 : decode cX6_isSolvable 116 = .ok (.getfield 79, 3) := by decide +kernel
theorem dX6_isSolvable_119 : decode cX6_isSolvable 119 = .ok (.iconst 5, 1) := by decide +kernel
theorem dX6_isSolvable_120 : decode cX6_isSolvable 120 = .ok (.iload_n 2, 1) := by decide +kernel
theorem dX6_isSolvable_121 : decode cX6_isSolvable 121 = .ok (.imul, 1) := by decide +kernel
theorem dX6_isSolvable_122 : decode cX6_isSolvable 122 = .ok (.iload_n 3, 1) := by decide +kernel
theorem dX6_isSolvable_123 : decode cX6_isSolvable 123 = .ok (.iadd, 1) := by decide +kernel
theorem dX6_isSolvable_124 : decode cX6_isSolvable 124 = .ok (.iaload, 1) := by decide +kernel
theorem dX6_isSolvable_125 : decode cX6_isSolvable 125 = .ok (.invokestatic 101, 3) := by decide +kernel
theorem dX6_isSolvable_128 : decode cX6_isSolvable 128 = .ok (.istore 5, 2) := by decide +kernel
theorem dX6_isSolvable_130 : decode cX6_isSolvable 130 = .ok (.iload_n 2, 1) := by decide +kernel
theorem dX6_isSolvable_131 : decode cX6_isSolvable 131 = .ok (.iconst 1, 1) := by decide +kernel
theorem dX6_isSolvable_132 : decode cX6_isSolvable 132 = .ok (.iadd, 1) := by decide +kernel
theorem dX6_isSolvable_133 : decode cX6_isSolvable 133 = .ok (.istore 6, 2) := by decide +kernel
theorem dX6_isSolvable_135 : decode cX6_isSolvable 135 = .ok (.iload 6, 2) := by decide +kernel
theorem dX6_isSolvable_137 : decode cX6_isSolvable 137 = .ok (.iload_n 1, 1) := by decide +kernel
theorem dX6_isSolvable_138 : decode cX6_isSolvable 138 = .ok (.if_icmp .ge 78, 3) := by decide +kernel
theorem dX6_isSolvable_141 : decode cX6_isSolvable 141 = .ok (.iload 5, 2) := by decide +kernel
theorem dX6_isSolvable_143 : decode cX6_isSolvable 143 = .ok (.aload_n 0, 1) := by decide +kernel
theorem dX6_isSolvable_144 : decode cX6_isSolvable 144 = .ok (.getfield 79, 3) := by decide +kernel
theorem dX6_isSolvable_147 : decode cX6_isSolvable 147 = .ok (.iconst 5, 1) := by decide +kernel
theorem dX6_isSolvable_148 : decode cX6_isSolvable 148 = .ok (.iload 6, 2) := by decide +kernel
theorem dX6_isSolvable_150 : decode cX6_isSolvable 150 = .ok (.imul, 1) := by decide +kernel
theorem dX6_isSolvable_151 : decode cX6_isSolvable 151 = .ok (.iload_n 3, 1) := by decide +kernel
theorem dX6_isSolvable_152 : decode cX6_isSolvable 152 = .ok (.iadd, 1) := by decide +kernel
theorem dX6_isSolvable_153 : decode cX6_isSolvable 153 = .ok (.iaload, 1) := by decide +kernel
theorem dX6_isSolvable_154 : decode cX6_isSolvable 154 = .ok (.invokestatic 91, 3) := by decide +kernel
theorem dX6_isSolvable_157 : decode cX6_isSolvable 157 = .ok (.istore 7, 2) := by decide +kernel
theorem dX6_isSolvable_159 : decode cX6_isSolvable 159 = .ok (.iconst 0, 1) := by decide +kernel
theorem dX6_isSolvable_160 : decode cX6_isSolvable 160 = .ok (.istore 8, 2) := by decide +kernel
theorem dX6_isSolvable_162 : decode cX6_isSolvable 162 = .ok (.iload 8, 2) := by decide +kernel
theorem dX6_isSolvable_164 : decode cX6_isSolvable 164 = .ok (.iconst 5, 1) := by decide +kernel
theorem dX6_isSolvable_165 : decode cX6_isSolvable 165 = .ok (.if_icmp .ge 45, 3) := by decide +kernel
theorem dX6_isSolvable_168 : decode cX6_isSolvable 168 = .ok (.iload 7, 2) := by decide +kernel
theorem dX6_isSolvable_170 : decode cX6_isSolvable 170 = .ok (.ifCond .eq 40, 3) := by decide +kernel
theorem dX6_isSolvable_173 : decode cX6_isSolvable 173 = .ok (.aload_n 0, 1) := by decide +kernel
theorem dX6_isSolvable_174 : decode cX6_isSolvable 174 = .ok (.getfield 79, 3) := by decide +kernel
theorem dX6_isSolvable_177 : decode cX6_isSolvable 177 = .ok (.iconst 5, 1) := by decide +kernel
theorem dX6_isSolvable_178 : decode cX6_isSolvable 178 = .ok (.iload 6, 2) := by decide +kernel
theorem dX6_isSolvable_180 : decode cX6_isSolvable 180 = .ok (.imul, 1) := by decide +kernel
theorem dX6_isSolvable_181 : decode cX6_isSolvable 181 = .ok (.iload 8, 2) := by decide +kernel
theorem dX6_isSolvable_183 : decode cX6_isSolvable 183 = .ok (.iadd, 1) := by decide +kernel
theorem dX6_isSolvable_184 : decode cX6_isSolvable 184 = .ok (.dup2, 1) := by decide +kernel
theorem dX6_isSolvable_185 : decode cX6_isSolvable 185 = .ok (.iaload, 1) := by decide +kernel
theorem dX6_isSolvable_186 : decode cX6_isSolvable 186 = .ok (.iload 7, 2) := by decide +kernel
theorem dX6_isSolvable_188 : decode cX6_isSolvable 188 = .ok (.aload_n 0, 1) := by decide +kernel
theorem dX6_isSolvable_189 : decode cX6_isSolvable 189 = .ok (.getfield 79, 3) := by decide +kernel
theorem dX6_isSolvable_192 : decode cX6_isSolvable 192 = .ok (.iconst 5, 1) := by decide +kernel
theorem dX6_isSolvable_193 : decode cX6_isSolvable 193 = .ok (.iload_n 2, 1) := by decide +kernel
theorem dX6_isSolvable_194 : decode cX6_isSolvable 194 = .ok (.imul, 1) := by decide +kernel
theorem dX6_isSolvable_195 : decode cX6_isSolvable 195 = .ok (.iload 8, 2) := by decide +kernel
theorem dX6_isSolvable_197 : decode cX6_isSolvable 197 = .ok (.iadd, 1) := by decide +kernel
theorem dX6_isSolvable_198 : decode cX6_isSolvable 198 = .ok (.iaload, 1) := by decide +kernel
theorem dX6_isSolvable_199 : decode cX6_isSolvable 199 = .ok (.invokestatic 91, 3) := by decide +kernel
theorem dX6_isSolvable_202 : decode cX6_isSolvable 202 = .ok (.ixor, 1) := by decide +kernel
theorem dX6_isSolvable_203 : decode cX6_isSolvable 203 = .ok (.iastore, 1) := by decide +kernel
theorem dX6_isSolvable_204 : decode cX6_isSolvable 204 = .ok (.iinc 8 1, 3) := by decide +kernel
theorem dX6_isSolvable_207 : decode cX6_isSolvable 207 = .ok (.goto (-45), 3) := by decide +kernel
theorem dX6_isSolvable_210 : decode cX6_isSolvable 210 = .ok (.iinc 6 1, 3) := by decide +kernel
theorem dX6_isSolvable_213 : decode cX6_isSolvable 213 = .ok (.goto (-78), 3) := by decide +kernel
theorem dX6_isSolvable_216 : decode cX6_isSolvable 216 = .ok (.iinc 2 1, 3) := by decide +kernel
theorem dX6_isSolvable_219 : decode cX6_isSolvable 219 = .ok (.iinc 3 1, 3) := by decide +kernel
theorem dX6_isSolvable_222 : decode cX6_isSolvable 222 = .ok (.goto (-218), 3) := by decide +kernel
theorem dX6_isSolvable_225 : decode cX6_isSolvable 225 = .ok (.iload_n 2, 1) := by decide +kernel
theorem dX6_isSolvable_226 : decode cX6_isSolvable 226 = .ok (.istore_n 3, 1) := by decide +kernel
theorem dX6_isSolvable_227 : decode cX6_isSolvable 227 = .ok (.iload_n 3, 1) := by decide +kernel
theorem dX6_isSolvable_228 : decode cX6_isSolvable 228 = .ok (.iload_n 1, 1) := by decide +kernel
theorem dX6_isSolvable_229 : decode cX6_isSolvable 229 = .ok (.if_icmp .ge 24, 3) := by decide +kernel
theorem dX6_isSolvable_232 : decode cX6_isSolvable 232 = .ok (.aload_n 0, 1) := by decide +kernel
theorem dX6_isSolvable_233 : decode cX6_isSolvable 233 = .ok (.getfield 79, 3) := by decide +kernel
theorem dX6_isSolvable_236 : decode cX6_isSolvable 236 = .ok (.iconst 5, 1) := by decide +kernel
theorem dX6_isSolvable_237 : decode cX6_isSolvable 237 = .ok (.iload_n 3, 1) := by decide +kernel
theorem dX6_isSolvable_238 : decode cX6_isSolvable 238 = .ok (.imul, 1) := by decide +kernel
theorem dX6_isSolvable_239 : decode cX6_isSolvable 239 = .ok (.iconst 4, 1) := by decide +kernel
theorem dX6_isSolvable_240 : decode cX6_isSolvable 240 = .ok (.iadd, 1) := by decide +kernel
theorem dX6_isSolvable_241 : decode cX6_isSolvable 241 = .ok (.iaload, 1) := by decide +kernel
theorem dX6_isSolvable_242 : decode cX6_isSolvable 242 = .ok (.ifCond .eq 5, 3) := by decide +kernel
theorem dX6_isSolvable_245 : decode cX6_isSolvable 245 = .ok (.iconst 0, 1) := by decide +kernel
theorem dX6_isSolvable_246 : decode cX6_isSolvable 246 = .ok (.ireturn, 1) := by decide +kernel
theorem dX6_isSolvable_247 : decode cX6_isSolvable 247 = .ok (.iinc 3 1, 3) := by decide +kernel
theorem dX6_isSolvable_250 : decode cX6_isSolvable 250 = .ok (.goto (-23), 3) := by decide +kernel
theorem dX6_isSolvable_253 : decode cX6_isSolvable 253 = .ok (.iconst 1, 1) := by decide +kernel
theorem dX6_isSolvable_254 : decode cX6_isSolvable 254 = .ok (.ireturn, 1) := by decide +kernel
set_option maxRecDepth 20000 in
theorem ggX6_lack_X6_isRelay : GoodIn wsX6_lack wsX6_isRelay := goodIn_r _ [7, 8, 9, 10, 6, 11, 83, 84, 85, 86, 87, 88, 89, 90, 91, 92, 93, 94, 95, 96, 97, 98, 99, 100, 101, 102, 103, 104, 105, 106, 107, 108, 109, 110, 111, 112, 113] (by decide +kernel) (by decide +kernel)
set_option maxRecDepth 20000 in
theorem gX6_lack_X6_isRelay : GoodIn wsX6_lack (wsV RX6 111 RX6 yX6_isRelay wsX6_isRelay) := goodIn_app (goodIn_of _ (by decide +kernel)) ggX6_lack_X6_isRelay
set_option maxRecDepth 20000 in
theorem ggX6_lack_X6_in : GoodIn wsX6_lack wsX6_in := goodIn_r _ [11] (by decide +kernel) (by decide +kernel)
set_option maxRecDepth 20000 in
theorem gX6_lack_X6_in : GoodIn wsX6_lack (va_wsS RX6 97 yX6_in wsX6_in) := goodIn_app (goodIn_of _ (by decide +kernel)) ggX6_lack_X6_in
set_option maxRecDepth 20000 in
theorem ggX6_lack_X6_work : GoodIn wsX6_lack wsX6_work := goodIn_r _ [15, 8, 16, 17, 18, 19, 20, 6, 21, 22, 23, 24, 25, 26, 27, 28, 1, 29, 30, 31, 32, 33, 34, 35, 36, 37, 38, 39, 40, 41, 42, 43, 44, 45, 46, 47, 48, 49, 83, 84, 85, 86, 87, 88, 89, 90, 91, 92, 93, 94, 95, 96, 97, 98, 99, 100, 101, 102, 103, 104, 105, 106, 107, 108, 109, 110, 111, 112, 113] (by decide +kernel) (by decide +kernel)
set_option maxRecDepth 20000 in
theorem gX6_lack_X6_work : GoodIn wsX6_lack (wsV RX6 140 RX6 yX6_work wsX6_work) := goodIn_app (goodIn_of _ (by decide +kernel)) ggX6_lack_X6_work
set_option maxRecDepth 20000 in
theorem ggX6_lack_X6_study : GoodIn wsX6_lack wsX6_study := goodIn_r _ [53, 54, 16, 38, 55, 1, 23, 56, 57, 58, 59, 6, 60, 61, 62, 63, 64, 65, 66, 47, 48, 49, 67, 68, 69, 83, 84, 85, 86, 87, 88, 89, 90, 91, 92, 93, 94, 95, 96, 97, 98, 99, 100, 101, 102, 103, 104, 105, 106, 107, 108, 109, 110, 111, 112, 113] (by decide +kernel) (by decide +kernel)
set_option maxRecDepth 20000 in
theorem gX6_lack_X6_study : GoodIn wsX6_lack (wsV RX6 153 RX6 yX6_study wsX6_study) := goodIn_app (goodIn_of _ (by decide +kernel)) ggX6_lack_X6_study
set_option maxRecDepth 20000 in
theorem ggX6_lack_X6_solvesFor : GoodIn wsX6_lack wsX6_solvesFor := goodIn_r _ [73, 55, 1, 63, 64, 65, 6, 66, 54, 62, 61, 47, 48, 49, 83, 84, 85, 86, 87, 88, 89, 90, 91, 92, 93, 94, 95, 96, 97, 98, 99, 100, 101, 102, 103, 104, 105, 106, 107, 108, 109, 110, 111, 112, 113] (by decide +kernel) (by decide +kernel)
set_option maxRecDepth 20000 in
theorem gX6_lack_X6_solvesFor : GoodIn wsX6_lack (wsV RX6 159 RX6 yX6_solvesFor wsX6_solvesFor) := goodIn_app (goodIn_of _ (by decide +kernel)) ggX6_lack_X6_solvesFor
set_option maxRecDepth 20000 in
theorem ggX6_lack_X6_goes : GoodIn wsX6_lack wsX6_goes := goodIn_r _ [77, 54, 78, 1, 61, 2, 47, 48, 6, 49, 79, 80, 81, 82, 67, 68, 69, 83, 84, 85, 86, 87, 88, 89, 90, 91, 92, 93, 94, 95, 96, 97, 98, 99, 100, 101, 102, 103, 104, 105, 106, 107, 108, 109, 110, 111, 112, 113] (by decide +kernel) (by decide +kernel)
set_option maxRecDepth 20000 in
theorem gX6_lack_X6_goes : GoodIn wsX6_lack (wsV RX6 169 RX6 yX6_goes wsX6_goes) := goodIn_app (goodIn_of _ (by decide +kernel)) ggX6_lack_X6_goes
theorem dX6_lack_0 : decode cX6_lack 0 = .ok (.aload_n 0, 1) := by decide +kernel
theorem dX6_lack_1 : decode cX6_lack 1 = .ok (.iload_n 1, 1) := by decide +kernel
theorem dX6_lack_2 : decode cX6_lack 2 = .ok (.invokevirtual 111, 3) := by decide +kernel
theorem dX6_lack_5 : decode cX6_lack 5 = .ok (.ifCond .eq 31, 3) := by decide +kernel
theorem dX6_lack_8 : decode cX6_lack 8 = .ok (.iload_n 2, 1) := by decide +kernel
theorem dX6_lack_9 : decode cX6_lack 9 = .ok (.iconst 0, 1) := by decide +kernel
theorem dX6_lack_10 : decode cX6_lack 10 = .ok (.aload_n 0, 1) := by decide +kernel
theorem dX6_lack_11 : decode cX6_lack 11 = .ok (.getfield 13, 3) := by decide +kernel
theorem dX6_lack_14 : decode cX6_lack 14 = .ok (.iconst 1, 1) := by decide +kernel
theorem dX6_lack_15 : decode cX6_lack 15 = .ok (.isub, 1) := by decide +kernel
theorem dX6_lack_16 : decode cX6_lack 16 = .ok (.invokestatic 97, 3) := by decide +kernel
theorem dX6_lack_19 : decode cX6_lack 19 = .ok (.ifCond .eq 17, 3) := by decide +kernel
theorem dX6_lack_22 : decode cX6_lack 22 = .ok (.iload_n 3, 1) := by decide +kernel
theorem dX6_lack_23 : decode cX6_lack 23 = .ok (.iconst 0, 1) := by decide +kernel
theorem dX6_lack_24 : decode cX6_lack 24 = .ok (.aload_n 0, 1) := by decide +kernel
theorem dX6_lack_25 : decode cX6_lack 25 = .ok (.getfield 13, 3) := by decide +kernel
theorem dX6_lack_28 : decode cX6_lack 28 = .ok (.iconst 1, 1) := by decide +kernel
theorem dX6_lack_29 : decode cX6_lack 29 = .ok (.isub, 1) := by decide +kernel
theorem dX6_lack_30 : decode cX6_lack 30 = .ok (.invokestatic 97, 3) := by decide +kernel
theorem dX6_lack_33 : decode cX6_lack 33 = .ok (.ifCond .ne 5, 3) := by decide +kernel
theorem dX6_lack_36 : decode cX6_lack 36 = .ok (.iconst (-1), 1) := by decide +kernel
theorem dX6_lack_37 : decode cX6_lack 37 = .ok (.ireturn, 1) := by decide +kernel
theorem dX6_lack_38 : decode cX6_lack 38 = .ok (.iload_n 1, 1) := by decide +kernel
theorem dX6_lack_39 : decode cX6_lack 39 = .ok (.ifCond .ne 6, 3) := by decide +kernel
theorem dX6_lack_42 : decode cX6_lack 42 = .ok (.bipush (-2), 2) := by decide +kernel
theorem dX6_lack_44 : decode cX6_lack 44 = .ok (.ireturn, 1) := by decide +kernel
theorem dX6_lack_45 : decode cX6_lack 45 = .ok (.aload_n 0, 1) := by decide +kernel
theorem dX6_lack_46 : decode cX6_lack 46 = .ok (.invokevirtual 140, 3) := by decide +kernel
theorem dX6_lack_49 : decode cX6_lack 49 = .ok (.aload_n 0, 1) := by decide +kernel
theorem dX6_lack_50 : decode cX6_lack 50 = .ok (.iload_n 1, 1) := by decide +kernel
theorem dX6_lack_51 : decode cX6_lack 51 = .ok (.invokevirtual 153, 3) := by decide +kernel
theorem dX6_lack_54 : decode cX6_lack 54 = .ok (.aload_n 0, 1) := by decide +kernel
theorem dX6_lack_55 : decode cX6_lack 55 = .ok (.iload_n 2, 1) := by decide +kernel
theorem dX6_lack_56 : decode cX6_lack 56 = .ok (.invokevirtual 159, 3) := by decide +kernel
theorem dX6_lack_59 : decode cX6_lack 59 = .ok (.ifCond .eq 5, 3) := by decide +kernel
theorem dX6_lack_62 : decode cX6_lack 62 = .ok (.iconst (-1), 1) := by decide +kernel
theorem dX6_lack_63 : decode cX6_lack 63 = .ok (.ireturn, 1) := by decide +kernel
theorem dX6_lack_64 : decode cX6_lack 64 = .ok (.iconst 0, 1) := by decide +kernel
theorem dX6_lack_65 : decode cX6_lack 65 = .ok (.istore 4, 2) := by decide +kernel
theorem dX6_lack_67 : decode cX6_lack 67 = .ok (.iload 4, 2) := by decide +kernel
theorem dX6_lack_69 : decode cX6_lack 69 = .ok (.aload_n 0, 1) := by decide +kernel
theorem dX6_lack_70 : decode cX6_lack 70 = .ok (.getfield 13, 3) := by decide +kernel
theorem dX6_lack_73 : decode cX6_lack 73 = .ok (.if_icmp .ge 53, 3) := by decide +kernel
theorem dX6_lack_76 : decode cX6_lack 76 = .ok (.aload_n 0, 1) := by decide +kernel
theorem dX6_lack_77 : decode cX6_lack 77 = .ok (.getfield 76, 3) := by decide +kernel
theorem dX6_lack_80 : decode cX6_lack 80 = .ok (.iload 4, 2) := by decide +kernel
theorem dX6_lack_82 : decode cX6_lack 82 = .ok (.iload 4, 2) := by decide +kernel
theorem dX6_lack_84 : decode cX6_lack 84 = .ok (.iload_n 2, 1) := by decide +kernel
theorem dX6_lack_85 : decode cX6_lack 85 = .ok (.if_icmp .ne 7, 3) := by decide +kernel
theorem dX6_lack_88 : decode cX6_lack 88 = .ok (.iconst 1, 1) := by decide +kernel
theorem dX6_lack_89 : decode cX6_lack 89 = .ok (.goto 4, 3) := by decide +kernel
theorem dX6_lack_92 : decode cX6_lack 92 = .ok (.iconst 0, 1) := by decide +kernel
theorem dX6_lack_93 : decode cX6_lack 93 = .ok (.iastore, 1) := by decide +kernel
theorem dX6_lack_94 : decode cX6_lack 94 = .ok (.aload_n 0, 1) := by decide +kernel
theorem dX6_lack_95 : decode cX6_lack 95 = .ok (.iload 4, 2) := by decide +kernel
theorem dX6_lack_97 : decode cX6_lack 97 = .ok (.iconst 1, 1) := by decide +kernel
theorem dX6_lack_98 : decode cX6_lack 98 = .ok (.iadd, 1) := by decide +kernel
theorem dX6_lack_99 : decode cX6_lack 99 = .ok (.iload_n 2, 1) := by decide +kernel
theorem dX6_lack_100 : decode cX6_lack 100 = .ok (.invokevirtual 169, 3) := by decide +kernel
theorem dX6_lack_103 : decode cX6_lack 103 = .ok (.ifCond .ne 17, 3) := by decide +kernel
theorem dX6_lack_106 : decode cX6_lack 106 = .ok (.aload_n 0, 1) := by decide +kernel
theorem dX6_lack_107 : decode cX6_lack 107 = .ok (.getfield 76, 3) := by decide +kernel
theorem dX6_lack_110 : decode cX6_lack 110 = .ok (.iload 4, 2) := by decide +kernel
theorem dX6_lack_112 : decode cX6_lack 112 = .ok (.dup2, 1) := by decide +kernel
theorem dX6_lack_113 : decode cX6_lack 113 = .ok (.iaload, 1) := by decide +kernel
theorem dX6_lack_114 : decode cX6_lack 114 = .ok (.iconst 1, 1) := by decide +kernel
theorem dX6_lack_115 : decode cX6_lack 115 = .ok (.iadd, 1) := by decide +kernel
theorem dX6_lack_116 : decode cX6_lack 116 = .ok (.iastore, 1) := by decide +kernel
theorem dX6_lack_117 : decode cX6_lack 117 = .ok (.goto (-23), 3) := by decide +kernel
theorem dX6_lack_120 : decode cX6_lack 120 = .ok (.iinc 4 1, 3) := by decide +kernel
theorem dX6_lack_123 : decode cX6_lack 123 = .ok (.goto (-56), 3) := by decide +kernel
theorem dX6_lack_126 : decode cX6_lack 126 = .ok (.aload_n 0, 1) := by decide +kernel
theorem dX6_lack_127 : decode cX6_lack 127 = .ok (.getfield 76, 3) := by decide +kernel
theorem dX6_lack_130 : decode cX6_lack 130 = .ok (.iload_n 3, 1) := by decide +kernel
theorem dX6_lack_131 : decode cX6_lack 131 = .ok (.iaload, 1) := by decide +kernel
theorem dX6_lack_132 : decode cX6_lack 132 = .ok (.ireturn, 1) := by decide +kernel
set_option maxRecDepth 20000 in
theorem ggX6_hasAll_X6_study : GoodIn wsX6_hasAll wsX6_study := goodIn_r _ [6, 7, 8, 9, 10, 1, 11, 12, 13, 14, 15, 5, 16, 17, 18, 19, 20, 21, 22, 23, 24, 25, 26, 27, 28, 33, 34, 35, 36, 37, 38, 39, 40, 41, 42, 43, 44, 45, 46, 47, 48, 49, 50, 51, 52, 53, 54, 55, 56, 57, 58, 59, 60, 61, 62, 63] (by decide +kernel) (by decide +kernel)
set_option maxRecDepth 20000 in
theorem gX6_hasAll_X6_study : GoodIn wsX6_hasAll (wsV RX6 153 RX6 yX6_study wsX6_study) := goodIn_app (goodIn_of _ (by decide +kernel)) ggX6_hasAll_X6_study
set_option maxRecDepth 20000 in
theorem ggX6_hasAll_X6_solvesFor : GoodIn wsX6_hasAll wsX6_solvesFor := goodIn_r _ [32, 10, 1, 19, 20, 21, 5, 22, 7, 18, 17, 23, 24, 25, 33, 34, 35, 36, 37, 38, 39, 40, 41, 42, 43, 44, 45, 46, 47, 48, 49, 50, 51, 52, 53, 54, 55, 56, 57, 58, 59, 60, 61, 62, 63] (by decide +kernel) (by decide +kernel)
set_option maxRecDepth 20000 in
theorem gX6_hasAll_X6_solvesFor : GoodIn wsX6_hasAll (wsV RX6 159 RX6 yX6_solvesFor wsX6_solvesFor) := goodIn_app (goodIn_of _ (by decide +kernel)) ggX6_hasAll_X6_solvesFor
theorem dX6_hasAll_0 : decode cX6_hasAll 0 = .ok (.aload_n 0, 1) := by decide +kernel
theorem dX6_hasAll_1 : decode cX6_hasAll 1 = .ok (.iload_n 1, 1) := by decide +kernel
theorem dX6_hasAll_2 : decode cX6_hasAll 2 = .ok (.invokevirtual 153, 3) := by decide +kernel
theorem dX6_hasAll_5 : decode cX6_hasAll 5 = .ok (.iconst 0, 1) := by decide +kernel
theorem dX6_hasAll_6 : decode cX6_hasAll 6 = .ok (.istore_n 2, 1) := by decide +kernel
theorem dX6_hasAll_7 : decode cX6_hasAll 7 = .ok (.iload_n 2, 1) := by decide +kernel
theorem dX6_hasAll_8 : decode cX6_hasAll 8 = .ok (.aload_n 0, 1) := by decide +kernel
theorem dX6_hasAll_9 : decode cX6_hasAll 9 = .ok (.getfield 13, 3) := by decide +kernel
theorem dX6_hasAll_12 : decode cX6_hasAll 12 = .ok (.if_icmp .ge 19, 3) := by decide +kernel
theorem dX6_hasAll_15 : decode cX6_hasAll 15 = .ok (.aload_n 0, 1) := by decide +kernel
theorem dX6_hasAll_16 : decode cX6_hasAll 16 = .ok (.iload_n 2, 1) := by decide +kernel
theorem dX6_hasAll_17 : decode cX6_hasAll 17 = .ok (.invokevirtual 159, 3) := by decide +kernel
theorem dX6_hasAll_20 : decode cX6_hasAll 20 = .ok (.ifCond .ne 5, 3) := by decide +kernel
theorem dX6_hasAll_23 : decode cX6_hasAll 23 = .ok (.iconst 0, 1) := by decide +kernel
theorem dX6_hasAll_24 : decode cX6_hasAll 24 = .ok (.ireturn, 1) := by decide +kernel
theorem dX6_hasAll_25 : decode cX6_hasAll 25 = .ok (.iinc 2 1, 3) := by decide +kernel
theorem dX6_hasAll_28 : decode cX6_hasAll 28 = .ok (.goto (-21), 3) := by decide +kernel
theorem dX6_hasAll_31 : decode cX6_hasAll 31 = .ok (.iconst 1, 1) := by decide +kernel
theorem dX6_hasAll_32 : decode cX6_hasAll 32 = .ok (.ireturn, 1) := by decide +kernel
set_option maxRecDepth 20000 in
theorem ggX6_wrong_X6_work : GoodIn wsX6_wrong wsX6_work := goodIn_r _ [9, 1, 10, 11, 12, 13, 14, 8, 15, 16, 17, 18, 19, 20, 21, 4, 3, 22, 23, 24, 25, 26, 27, 28, 29, 30, 31, 32, 33, 34, 35, 36, 37, 38, 39, 40, 41, 42, 71, 72, 73, 74, 75, 76, 77, 78, 79, 80, 81, 82, 83, 84, 85, 86, 87, 88, 89, 90, 91, 92, 93, 94, 95, 96, 97, 98, 99, 100, 101] (by decide +kernel) (by decide +kernel)
set_option maxRecDepth 20000 in
theorem gX6_wrong_X6_work : GoodIn wsX6_wrong (wsV RX6 140 RX6 yX6_work wsX6_work) := goodIn_app (goodIn_of _ (by decide +kernel)) ggX6_wrong_X6_work
set_option maxRecDepth 20000 in
theorem ggX6_wrong_X6_study : GoodIn wsX6_wrong wsX6_study := goodIn_r _ [46, 47, 10, 31, 48, 3, 17, 49, 50, 51, 52, 8, 53, 54, 55, 56, 57, 58, 59, 40, 41, 42, 60, 61, 62, 71, 72, 73, 74, 75, 76, 77, 78, 79, 80, 81, 82, 83, 84, 85, 86, 87, 88, 89, 90, 91, 92, 93, 94, 95, 96, 97, 98, 99, 100, 101] (by decide +kernel) (by decide +kernel)
set_option maxRecDepth 20000 in
theorem gX6_wrong_X6_study : GoodIn wsX6_wrong (wsV RX6 153 RX6 yX6_study wsX6_study) := goodIn_app (goodIn_of _ (by decide +kernel)) ggX6_wrong_X6_study
set_option maxRecDepth 20000 in
theorem ggX6_wrong_X6_solvesFor : GoodIn wsX6_wrong wsX6_solvesFor := goodIn_r _ [66, 48, 3, 56, 57, 58, 8, 59, 47, 55, 54, 40, 41, 42, 71, 72, 73, 74, 75, 76, 77, 78, 79, 80, 81, 82, 83, 84, 85, 86, 87, 88, 89, 90, 91, 92, 93, 94, 95, 96, 97, 98, 99, 100, 101] (by decide +kernel) (by decide +kernel)
set_option maxRecDepth 20000 in
theorem gX6_wrong_X6_solvesFor : GoodIn wsX6_wrong (wsV RX6 159 RX6 yX6_solvesFor wsX6_solvesFor) := goodIn_app (goodIn_of _ (by decide +kernel)) ggX6_wrong_X6_solvesFor
set_option maxRecDepth 20000 in
theorem ggX6_wrong_X6_getsOf : GoodIn wsX6_wrong wsX6_getsOf := goodIn_r _ [70, 47, 48, 16, 49, 63, 64, 65, 8, 66, 3, 56, 57, 58, 59, 55, 54, 40, 41, 42, 36, 37, 38, 39, 71, 72, 73, 74, 75, 76, 77, 78, 79, 80, 81, 82, 83, 84, 85, 86, 87, 88, 89, 90, 91, 92, 93, 94, 95, 96, 97, 98, 99, 100, 101] (by decide +kernel) (by decide +kernel)
set_option maxRecDepth 20000 in
theorem gX6_wrong_X6_getsOf : GoodIn wsX6_wrong (wsV RX6 162 RX6 yX6_getsOf wsX6_getsOf) := goodIn_app (goodIn_of _ (by decide +kernel)) ggX6_wrong_X6_getsOf
theorem dX6_wrong_0 : decode cX6_wrong 0 = .ok (.aload_n 0, 1) := by decide +kernel
theorem dX6_wrong_1 : decode cX6_wrong 1 = .ok (.invokevirtual 140, 3) := by decide +kernel
theorem dX6_wrong_4 : decode cX6_wrong 4 = .ok (.iconst 0, 1) := by decide +kernel
theorem dX6_wrong_5 : decode cX6_wrong 5 = .ok (.istore_n 1, 1) := by decide +kernel
theorem dX6_wrong_6 : decode cX6_wrong 6 = .ok (.iconst 1, 1) := by decide +kernel
theorem dX6_wrong_7 : decode cX6_wrong 7 = .ok (.istore_n 2, 1) := by decide +kernel
theorem dX6_wrong_8 : decode cX6_wrong 8 = .ok (.iload_n 2, 1) := by decide +kernel
theorem dX6_wrong_9 : decode cX6_wrong 9 = .ok (.aload_n 0, 1) := by decide +kernel
theorem dX6_wrong_10 : decode cX6_wrong 10 = .ok (.getfield 7, 3) := by decide +kernel
theorem dX6_wrong_13 : decode cX6_wrong 13 = .ok (.if_icmp .ge 94, 3) := by decide +kernel
theorem dX6_wrong_16 : decode cX6_wrong 16 = .ok (.aload_n 0, 1) := by decide +kernel
theorem dX6_wrong_17 : decode cX6_wrong 17 = .ok (.getfield 20, 3) := by decide +kernel
theorem dX6_wrong_20 : decode cX6_wrong 20 = .ok (.iload_n 2, 1) := by decide +kernel
theorem dX6_wrong_21 : decode cX6_wrong 21 = .ok (.baload, 1) := by decide +kernel
theorem dX6_wrong_22 : decode cX6_wrong 22 = .ok (.ifCond .ne 6, 3) := by decide +kernel
theorem dX6_wrong_25 : decode cX6_wrong 25 = .ok (.goto 76, 3) := by decide +kernel
theorem dX6_wrong_28 : decode cX6_wrong 28 = .ok (.aload_n 0, 1) := by decide +kernel
theorem dX6_wrong_29 : decode cX6_wrong 29 = .ok (.iload_n 2, 1) := by decide +kernel
theorem dX6_wrong_30 : decode cX6_wrong 30 = .ok (.invokevirtual 153, 3) := by decide +kernel
theorem dX6_wrong_33 : decode cX6_wrong 33 = .ok (.iconst 0, 1) := by decide +kernel
theorem dX6_wrong_34 : decode cX6_wrong 34 = .ok (.istore_n 3, 1) := by decide +kernel
theorem dX6_wrong_35 : decode cX6_wrong 35 = .ok (.iconst 0, 1) := by decide +kernel
theorem dX6_wrong_36 : decode cX6_wrong 36 = .ok (.istore 4, 2) := by decide +kernel
theorem dX6_wrong_38 : decode cX6_wrong 38 = .ok (.iload 4, 2) := by decide +kernel
theorem dX6_wrong_40 : decode cX6_wrong 40 = .ok (.aload_n 0, 1) := by decide +kernel
theorem dX6_wrong_41 : decode cX6_wrong 41 = .ok (.getfield 13, 3) := by decide +kernel
theorem dX6_wrong_44 : decode cX6_wrong 44 = .ok (.if_icmp .ge 45, 3) := by decide +kernel
theorem dX6_wrong_47 : decode cX6_wrong 47 = .ok (.iload_n 3, 1) := by decide +kernel
theorem dX6_wrong_48 : decode cX6_wrong 48 = .ok (.ifCond .ne 29, 3) := by decide +kernel
theorem dX6_wrong_51 : decode cX6_wrong 51 = .ok (.aload_n 0, 1) := by decide +kernel
theorem dX6_wrong_52 : decode cX6_wrong 52 = .ok (.iload 4, 2) := by decide +kernel
theorem dX6_wrong_54 : decode cX6_wrong 54 = .ok (.invokevirtual 159, 3) := by decide +kernel
theorem dX6_wrong_57 : decode cX6_wrong 57 = .ok (.ifCond .eq 24, 3) := by decide +kernel
theorem dX6_wrong_60 : decode cX6_wrong 60 = .ok (.aload_n 0, 1) := by decide +kernel
theorem dX6_wrong_61 : decode cX6_wrong 61 = .ok (.iload 4, 2) := by decide +kernel
theorem dX6_wrong_63 : decode cX6_wrong 63 = .ok (.invokevirtual 162, 3) := by decide +kernel
theorem dX6_wrong_66 : decode cX6_wrong 66 = .ok (.aload_n 0, 1) := by decide +kernel
theorem dX6_wrong_67 : decode cX6_wrong 67 = .ok (.getfield 16, 3) := by decide +kernel
theorem dX6_wrong_70 : decode cX6_wrong 70 = .ok (.iload 4, 2) := by decide +kernel
theorem dX6_wrong_72 : decode cX6_wrong 72 = .ok (.laload, 1) := by decide +kernel
theorem dX6_wrong_73 : decode cX6_wrong 73 = .ok (.lcmp, 1) := by decide +kernel
theorem dX6_wrong_74 : decode cX6_wrong 74 = .ok (.ifCond .eq 7, 3) := by decide +kernel
theorem dX6_wrong_77 : decode cX6_wrong 77 = .ok (.iconst 1, 1) := by decide +kernel
theorem dX6_wrong_78 : decode cX6_wrong 78 = .ok (.goto 4, 3) := by decide +kernel
theorem dX6_wrong_81 : decode cX6_wrong 81 = .ok (.iconst 0, 1) := by decide +kernel
theorem dX6_wrong_82 : decode cX6_wrong 82 = .ok (.istore_n 3, 1) := by decide +kernel
theorem dX6_wrong_83 : decode cX6_wrong 83 = .ok (.iinc 4 1, 3) := by decide +kernel
theorem dX6_wrong_86 : decode cX6_wrong 86 = .ok (.goto (-48), 3) := by decide +kernel
theorem dX6_wrong_89 : decode cX6_wrong 89 = .ok (.iload_n 1, 1) := by decide +kernel
theorem dX6_wrong_90 : decode cX6_wrong 90 = .ok (.iload_n 3, 1) := by decide +kernel
theorem dX6_wrong_91 : decode cX6_wrong 91 = .ok (.ifCond .eq 7, 3) := by decide +kernel
theorem dX6_wrong_94 : decode cX6_wrong 94 = .ok (.iconst 1, 1) := by decide +kernel
theorem dX6_wrong_95 : decode cX6_wrong 95 = .ok (.goto 4, 3) := by decide +kernel
theorem dX6_wrong_98 : decode cX6_wrong 98 = .ok (.iconst 0, 1) := by decide +kernel
theorem dX6_wrong_99 : decode cX6_wrong 99 = .ok (.iadd, 1) := by decide +kernel
theorem dX6_wrong_100 : decode cX6_wrong 100 = .ok (.istore_n 1, 1) := by decide +kernel
theorem dX6_wrong_101 : decode cX6_wrong 101 = .ok (.iinc 2 1, 3) := by decide +kernel
theorem dX6_wrong_104 : decode cX6_wrong 104 = .ok (.goto (-96), 3) := by decide +kernel
theorem dX6_wrong_107 : decode cX6_wrong 107 = .ok (.iload_n 1, 1) := by decide +kernel
theorem dX6_wrong_108 : decode cX6_wrong 108 = .ok (.ireturn, 1) := by decide +kernel
set_option maxRecDepth 20000 in
theorem ggX6_left_X6_work : GoodIn wsX6_left wsX6_work := goodIn_r _ [7, 1, 8, 9, 10, 11, 12, 6, 13, 14, 15, 16, 17, 18, 19, 20, 21, 22, 23, 24, 25, 26, 27, 28, 29, 30, 31, 32, 33, 34, 35, 36, 37, 38, 39, 40, 41, 42, 71, 72, 73, 74, 75, 76, 77, 78, 79, 80, 81, 82, 83, 84, 85, 86, 87, 88, 89, 90, 91, 92, 93, 94, 95, 96, 97, 98, 99, 100, 101] (by decide +kernel) (by decide +kernel)
set_option maxRecDepth 20000 in
theorem gX6_left_X6_work : GoodIn wsX6_left (wsV RX6 140 RX6 yX6_work wsX6_work) := goodIn_app (goodIn_of _ (by decide +kernel)) ggX6_left_X6_work
set_option maxRecDepth 20000 in
theorem ggX6_left_X6_hasAll : GoodIn wsX6_left wsX6_hasAll := goodIn_r _ [46, 21, 47, 48, 49, 6, 50, 51, 8, 31, 52, 15, 53, 54, 55, 56, 57, 58, 59, 60, 61, 62, 63, 40, 41, 42, 64, 65, 66, 67, 68, 69, 70, 71, 72, 73, 74, 75, 76, 77, 78, 79, 80, 81, 82, 83, 84, 85, 86, 87, 88, 89, 90, 91, 92, 93, 94, 95, 96, 97, 98, 99, 100, 101] (by decide +kernel) (by decide +kernel)
set_option maxRecDepth 20000 in
theorem gX6_left_X6_hasAll : GoodIn wsX6_left (wsV RX6 173 RX6 yX6_hasAll wsX6_hasAll) := goodIn_app (goodIn_of _ (by decide +kernel)) ggX6_left_X6_hasAll
theorem dX6_left_0 : decode cX6_left 0 = .ok (.aload_n 0, 1) := by decide +kernel
theorem dX6_left_1 : decode cX6_left 1 = .ok (.invokevirtual 140, 3) := by decide +kernel
theorem dX6_left_4 : decode cX6_left 4 = .ok (.iconst 0, 1) := by decide +kernel
theorem dX6_left_5 : decode cX6_left 5 = .ok (.istore_n 1, 1) := by decide +kernel
theorem dX6_left_6 : decode cX6_left 6 = .ok (.iconst 1, 1) := by decide +kernel
theorem dX6_left_7 : decode cX6_left 7 = .ok (.istore_n 2, 1) := by decide +kernel
theorem dX6_left_8 : decode cX6_left 8 = .ok (.iload_n 2, 1) := by decide +kernel
theorem dX6_left_9 : decode cX6_left 9 = .ok (.aload_n 0, 1) := by decide +kernel
theorem dX6_left_10 : decode cX6_left 10 = .ok (.getfield 7, 3) := by decide +kernel
theorem dX6_left_13 : decode cX6_left 13 = .ok (.if_icmp .ge 34, 3) := by decide +kernel
theorem dX6_left_16 : decode cX6_left 16 = .ok (.iload_n 1, 1) := by decide +kernel
theorem dX6_left_17 : decode cX6_left 17 = .ok (.aload_n 0, 1) := by decide +kernel
theorem dX6_left_18 : decode cX6_left 18 = .ok (.getfield 20, 3) := by decide +kernel
theorem dX6_left_21 : decode cX6_left 21 = .ok (.iload_n 2, 1) := by decide +kernel
theorem dX6_left_22 : decode cX6_left 22 = .ok (.baload, 1) := by decide +kernel
theorem dX6_left_23 : decode cX6_left 23 = .ok (.ifCond .eq 15, 3) := by decide +kernel
theorem dX6_left_26 : decode cX6_left 26 = .ok (.aload_n 0, 1) := by decide +kernel
theorem dX6_left_27 : decode cX6_left 27 = .ok (.iload_n 2, 1) := by decide +kernel
theorem dX6_left_28 : decode cX6_left 28 = .ok (.invokevirtual 173, 3) := by decide +kernel
theorem dX6_left_31 : decode cX6_left 31 = .ok (.ifCond .ne 7, 3) := by decide +kernel
theorem dX6_left_34 : decode cX6_left 34 = .ok (.iconst 1, 1) := by decide +kernel
theorem dX6_left_35 : decode cX6_left 35 = .ok (.goto 4, 3) := by decide +kernel
theorem dX6_left_38 : decode cX6_left 38 = .ok (.iconst 0, 1) := by decide +kernel
theorem dX6_left_39 : decode cX6_left 39 = .ok (.iadd, 1) := by decide +kernel
theorem dX6_left_40 : decode cX6_left 40 = .ok (.istore_n 1, 1) := by decide +kernel
theorem dX6_left_41 : decode cX6_left 41 = .ok (.iinc 2 1, 3) := by decide +kernel
theorem dX6_left_44 : decode cX6_left 44 = .ok (.goto (-36), 3) := by decide +kernel
theorem dX6_left_47 : decode cX6_left 47 = .ok (.iload_n 1, 1) := by decide +kernel
theorem dX6_left_48 : decode cX6_left 48 = .ok (.ireturn, 1) := by decide +kernel
set_option maxRecDepth 20000 in
theorem ggX6_draw_X6_ins : GoodIn wsX6_draw wsX6_ins := goodIn_r _ [9, 10, 11, 12, 13, 14, 8, 15, 1, 16, 17, 18, 19, 20, 21, 22, 23, 24, 25, 26, 27, 28, 29, 30, 31, 32, 33, 34, 35, 36, 37, 38, 39, 40, 41, 42, 43, 44, 45, 46, 47] (by decide +kernel) (by decide +kernel)
set_option maxRecDepth 20000 in
theorem gX6_draw_X6_ins : GoodIn wsX6_draw (wsV RX6 118 RX6 yX6_ins wsX6_ins) := goodIn_app (goodIn_of _ (by decide +kernel)) ggX6_draw_X6_ins
theorem dX6_draw_0 : decode cX6_draw 0 = .ok (.iload_n 1, 1) := by decide +kernel
theorem dX6_draw_1 : decode cX6_draw 1 = .ok (.istore_n 2, 1) := by decide +kernel
theorem dX6_draw_2 : decode cX6_draw 2 = .ok (.iconst 0, 1) := by decide +kernel
theorem dX6_draw_3 : decode cX6_draw 3 = .ok (.istore_n 3, 1) := by decide +kernel
theorem dX6_draw_4 : decode cX6_draw 4 = .ok (.iconst 0, 1) := by decide +kernel
theorem dX6_draw_5 : decode cX6_draw 5 = .ok (.istore 4, 2) := by decide +kernel
theorem dX6_draw_7 : decode cX6_draw 7 = .ok (.iload 4, 2) := by decide +kernel
theorem dX6_draw_9 : decode cX6_draw 9 = .ok (.aload_n 0, 1) := by decide +kernel
theorem dX6_draw_10 : decode cX6_draw 10 = .ok (.getfield 105, 3) := by decide +kernel
theorem dX6_draw_13 : decode cX6_draw 13 = .ok (.if_icmp .ge 72, 3) := by decide +kernel
theorem dX6_draw_16 : decode cX6_draw 16 = .ok (.iconst 0, 1) := by decide +kernel
theorem dX6_draw_17 : decode cX6_draw 17 = .ok (.istore 5, 2) := by decide +kernel
theorem dX6_draw_19 : decode cX6_draw 19 = .ok (.iload 5, 2) := by decide +kernel
theorem dX6_draw_21 : decode cX6_draw 21 = .ok (.aload_n 0, 1) := by decide +kernel
theorem dX6_draw_22 : decode cX6_draw 22 = .ok (.iload 4, 2) := by decide +kernel
theorem dX6_draw_24 : decode cX6_draw 24 = .ok (.invokevirtual 118, 3) := by decide +kernel
theorem dX6_draw_27 : decode cX6_draw 27 = .ok (.if_icmp .ge 52, 3) := by decide +kernel
theorem dX6_draw_30 : decode cX6_draw 30 = .ok (.aload_n 0, 1) := by decide +kernel
theorem dX6_draw_31 : decode cX6_draw 31 = .ok (.getfield 31, 3) := by decide +kernel
theorem dX6_draw_34 : decode cX6_draw 34 = .ok (.iload 4, 2) := by decide +kernel
theorem dX6_draw_36 : decode cX6_draw 36 = .ok (.baload, 1) := by decide +kernel
theorem dX6_draw_37 : decode cX6_draw 37 = .ok (.ifCond .ne 42, 3) := by decide +kernel
theorem dX6_draw_40 : decode cX6_draw 40 = .ok (.ldc 176, 2) := by decide +kernel
theorem dX6_draw_42 : decode cX6_draw 42 = .ok (.iload_n 2, 1) := by decide +kernel
theorem dX6_draw_43 : decode cX6_draw 43 = .ok (.imul, 1) := by decide +kernel
theorem dX6_draw_44 : decode cX6_draw 44 = .ok (.sipush 12345, 3) := by decide +kernel
theorem dX6_draw_47 : decode cX6_draw 47 = .ok (.iadd, 1) := by decide +kernel
theorem dX6_draw_48 : decode cX6_draw 48 = .ok (.istore_n 2, 1) := by decide +kernel
theorem dX6_draw_49 : decode cX6_draw 49 = .ok (.aload_n 0, 1) := by decide +kernel
theorem dX6_draw_50 : decode cX6_draw 50 = .ok (.getfield 40, 3) := by decide +kernel
theorem dX6_draw_53 : decode cX6_draw 53 = .ok (.bipush 30, 2) := by decide +kernel
theorem dX6_draw_55 : decode cX6_draw 55 = .ok (.iload 4, 2) := by decide +kernel
theorem dX6_draw_57 : decode cX6_draw 57 = .ok (.imul, 1) := by decide +kernel
theorem dX6_draw_58 : decode cX6_draw 58 = .ok (.iload 5, 2) := by decide +kernel
theorem dX6_draw_60 : decode cX6_draw 60 = .ok (.iadd, 1) := by decide +kernel
theorem dX6_draw_61 : decode cX6_draw 61 = .ok (.iload_n 2, 1) := by decide +kernel
theorem dX6_draw_62 : decode cX6_draw 62 = .ok (.bipush 16, 2) := by decide +kernel
theorem dX6_draw_64 : decode cX6_draw 64 = .ok (.iushr, 1) := by decide +kernel
theorem dX6_draw_65 : decode cX6_draw 65 = .ok (.sipush 255, 3) := by decide +kernel
theorem dX6_draw_68 : decode cX6_draw 68 = .ok (.iand, 1) := by decide +kernel
theorem dX6_draw_69 : decode cX6_draw 69 = .ok (.iastore, 1) := by decide +kernel
theorem dX6_draw_70 : decode cX6_draw 70 = .ok (.iinc 3 1, 3) := by decide +kernel
theorem dX6_draw_73 : decode cX6_draw 73 = .ok (.iinc 5 1, 3) := by decide +kernel
theorem dX6_draw_76 : decode cX6_draw 76 = .ok (.goto (-57), 3) := by decide +kernel
theorem dX6_draw_79 : decode cX6_draw 79 = .ok (.iinc 4 1, 3) := by decide +kernel
theorem dX6_draw_82 : decode cX6_draw 82 = .ok (.goto (-75), 3) := by decide +kernel
theorem dX6_draw_85 : decode cX6_draw 85 = .ok (.iload_n 3, 1) := by decide +kernel
theorem dX6_draw_86 : decode cX6_draw 86 = .ok (.ireturn, 1) := by decide +kernel
theorem dX6_ends_0 : decode cX6_ends 0 = .ok (.iconst 0, 1) := by decide +kernel
end
section
theorem dX6_ends_1 : decode cX6_ends 1 = .ok (.istore_n 1, 1) := by decide +kernel
theorem dX6_ends_2 : decode cX6_ends 2 = .ok (.iconst 0, 1) := by decide +kernel
theorem dX6_ends_3 : decode cX6_ends 3 = .ok (.istore_n 2, 1) := by decide +kernel
theorem dX6_ends_4 : decode cX6_ends 4 = .ok (.iload_n 2, 1) := by decide +kernel
theorem dX6_ends_5 : decode cX6_ends 5 = .ok (.aload_n 0, 1) := by decide +kernel
theorem dX6_ends_6 : decode cX6_ends 6 = .ok (.getfield 7, 3) := by decide +kernel
theorem dX6_ends_9 : decode cX6_ends 9 = .ok (.if_icmp .ge 26, 3) := by decide +kernel
theorem dX6_ends_12 : decode cX6_ends 12 = .ok (.iload_n 1, 1) := by decide +kernel
theorem dX6_ends_13 : decode cX6_ends 13 = .ok (.aload_n 0, 1) := by decide +kernel
theorem dX6_ends_14 : decode cX6_ends 14 = .ok (.getfield 20, 3) := by decide +kernel
theorem dX6_ends_17 : decode cX6_ends 17 = .ok (.iload_n 2, 1) := by decide +kernel
theorem dX6_ends_18 : decode cX6_ends 18 = .ok (.baload, 1) := by decide +kernel
theorem dX6_ends_19 : decode cX6_ends 19 = .ok (.ifCond .eq 7, 3) := by decide +kernel
theorem dX6_ends_22 : decode cX6_ends 22 = .ok (.iconst 1, 1) := by decide +kernel
theorem dX6_ends_23 : decode cX6_ends 23 = .ok (.goto 4, 3) := by decide +kernel
theorem dX6_ends_26 : decode cX6_ends 26 = .ok (.iconst 0, 1) := by decide +kernel
theorem dX6_ends_27 : decode cX6_ends 27 = .ok (.iadd, 1) := by decide +kernel
theorem dX6_ends_28 : decode cX6_ends 28 = .ok (.istore_n 1, 1) := by decide +kernel
theorem dX6_ends_29 : decode cX6_ends 29 = .ok (.iinc 2 1, 3) := by decide +kernel
theorem dX6_ends_32 : decode cX6_ends 32 = .ok (.goto (-28), 3) := by decide +kernel
theorem dX6_ends_35 : decode cX6_ends 35 = .ok (.iload_n 1, 1) := by decide +kernel
theorem dX6_ends_36 : decode cX6_ends 36 = .ok (.ireturn, 1) := by decide +kernel
set_option maxRecDepth 20000 in
theorem ggX6_find_X6_ends : GoodIn wsX6_find wsX6_ends := goodIn_r _ [7, 8, 9, 86, 87, 88, 89, 90, 91, 92, 93, 94, 95, 96, 97, 98, 99, 100, 101, 102, 103, 104, 105, 106, 107, 108, 109, 110, 111, 112, 113, 114, 115, 116] (by decide +kernel) (by decide +kernel)
set_option maxRecDepth 20000 in
theorem gX6_find_X6_ends : GoodIn wsX6_find (wsV RX6 177 RX6 yX6_ends wsX6_ends) := goodIn_app (goodIn_of _ (by decide +kernel)) ggX6_find_X6_ends
set_option maxRecDepth 20000 in
theorem ggX6_find_X6_draw : GoodIn wsX6_find wsX6_draw := goodIn_r _ [13, 14, 15, 16, 2, 17, 18, 19, 6, 20, 21, 22, 23, 24, 25, 26, 27, 86, 87, 88, 89, 90, 91, 92, 93, 94, 95, 96, 97, 98, 99, 100, 101, 102, 103, 104, 105, 106, 107, 108, 109, 110, 111, 112, 113, 114, 115, 116] (by decide +kernel) (by decide +kernel)
set_option maxRecDepth 20000 in
theorem gX6_find_X6_draw : GoodIn wsX6_find (wsV RX6 181 RX6 yX6_draw wsX6_draw) := goodIn_app (goodIn_of _ (by decide +kernel)) ggX6_find_X6_draw
set_option maxRecDepth 20000 in
theorem ggX6_find_X6_left : GoodIn wsX6_find wsX6_left := goodIn_r _ [31, 8, 9, 32, 33, 34, 6, 35, 14, 21, 36, 37, 38, 39, 40, 41, 42, 43, 44, 2, 45, 22, 46, 17, 18, 19, 20, 23, 24, 25, 26, 27, 47, 48, 49, 50, 51, 52, 53, 54, 55, 56, 57, 58, 59, 60, 61, 62, 63, 64, 65, 66, 67, 68, 69, 70, 71, 72, 73, 74, 75, 76, 77, 78, 79, 80, 81, 82, 83, 84, 85, 86, 87, 88, 89, 90, 91, 92, 93, 94, 95, 96, 97, 98, 99, 100, 101, 102, 103, 104, 105, 106, 107, 108, 109, 110, 111, 112, 113, 114, 115, 116] (by decide +kernel) (by decide +kernel)
set_option maxRecDepth 20000 in
theorem gX6_find_X6_left : GoodIn wsX6_find (wsV RX6 184 RX6 yX6_left wsX6_left) := goodIn_app (goodIn_of _ (by decide +kernel)) ggX6_find_X6_left
theorem dX6_find_0 : decode cX6_find 0 = .ok (.aload_n 0, 1) := by decide +kernel
theorem dX6_find_1 : decode cX6_find 1 = .ok (.invokevirtual 177, 3) := by decide +kernel
theorem dX6_find_4 : decode cX6_find 4 = .ok (.ifCond .ne 5, 3) := by decide +kernel
theorem dX6_find_7 : decode cX6_find 7 = .ok (.iconst (-1), 1) := by decide +kernel
theorem dX6_find_8 : decode cX6_find 8 = .ok (.ireturn, 1) := by decide +kernel
theorem dX6_find_9 : decode cX6_find 9 = .ok (.iconst 0, 1) := by decide +kernel
theorem dX6_find_10 : decode cX6_find 10 = .ok (.istore_n 1, 1) := by decide +kernel
theorem dX6_find_11 : decode cX6_find 11 = .ok (.iload_n 1, 1) := by decide +kernel
theorem dX6_find_12 : decode cX6_find 12 = .ok (.sipush 900, 3) := by decide +kernel
theorem dX6_find_15 : decode cX6_find 15 = .ok (.if_icmp .ge 21, 3) := by decide +kernel
theorem dX6_find_18 : decode cX6_find 18 = .ok (.aload_n 0, 1) := by decide +kernel
theorem dX6_find_19 : decode cX6_find 19 = .ok (.getfield 82, 3) := by decide +kernel
theorem dX6_find_22 : decode cX6_find 22 = .ok (.iload_n 1, 1) := by decide +kernel
theorem dX6_find_23 : decode cX6_find 23 = .ok (.aload_n 0, 1) := by decide +kernel
theorem dX6_find_24 : decode cX6_find 24 = .ok (.getfield 40, 3) := by decide +kernel
theorem dX6_find_27 : decode cX6_find 27 = .ok (.iload_n 1, 1) := by decide +kernel
theorem dX6_find_28 : decode cX6_find 28 = .ok (.iaload, 1) := by decide +kernel
theorem dX6_find_29 : decode cX6_find 29 = .ok (.iastore, 1) := by decide +kernel
theorem dX6_find_30 : decode cX6_find 30 = .ok (.iinc 1 1, 3) := by decide +kernel
theorem dX6_find_33 : decode cX6_find 33 = .ok (.goto (-22), 3) := by decide +kernel
theorem dX6_find_36 : decode cX6_find 36 = .ok (.iconst 1, 1) := by decide +kernel
theorem dX6_find_37 : decode cX6_find 37 = .ok (.istore_n 1, 1) := by decide +kernel
theorem dX6_find_38 : decode cX6_find 38 = .ok (.iload_n 1, 1) := by decide +kernel
theorem dX6_find_39 : decode cX6_find 39 = .ok (.bipush 40, 2) := by decide +kernel
theorem dX6_find_41 : decode cX6_find 41 = .ok (.if_icmp .gt 24, 3) := by decide +kernel
theorem dX6_find_44 : decode cX6_find 44 = .ok (.aload_n 0, 1) := by decide +kernel
theorem dX6_find_45 : decode cX6_find 45 = .ok (.iload_n 1, 1) := by decide +kernel
theorem dX6_find_46 : decode cX6_find 46 = .ok (.invokevirtual 181, 3) := by decide +kernel
theorem dX6_find_49 : decode cX6_find 49 = .ok (.istore_n 2, 1) := by decide +kernel
theorem dX6_find_50 : decode cX6_find 50 = .ok (.aload_n 0, 1) := by decide +kernel
theorem dX6_find_51 : decode cX6_find 51 = .ok (.invokevirtual 184, 3) := by decide +kernel
theorem dX6_find_54 : decode cX6_find 54 = .ok (.ifCond .ne 5, 3) := by decide +kernel
theorem dX6_find_57 : decode cX6_find 57 = .ok (.iload_n 1, 1) := by decide +kernel
theorem dX6_find_58 : decode cX6_find 58 = .ok (.ireturn, 1) := by decide +kernel
theorem dX6_find_59 : decode cX6_find 59 = .ok (.iinc 1 1, 3) := by decide +kernel
theorem dX6_find_62 : decode cX6_find 62 = .ok (.goto (-24), 3) := by decide +kernel
theorem dX6_find_65 : decode cX6_find 65 = .ok (.iconst 0, 1) := by decide +kernel
theorem dX6_find_66 : decode cX6_find 66 = .ok (.istore_n 1, 1) := by decide +kernel
theorem dX6_find_67 : decode cX6_find 67 = .ok (.iload_n 1, 1) := by decide +kernel
theorem dX6_find_68 : decode cX6_find 68 = .ok (.sipush 900, 3) := by decide +kernel
theorem dX6_find_71 : decode cX6_find 71 = .ok (.if_icmp .ge 21, 3) := by decide +kernel
theorem dX6_find_74 : decode cX6_find 74 = .ok (.aload_n 0, 1) := by decide +kernel
theorem dX6_find_75 : decode cX6_find 75 = .ok (.getfield 40, 3) := by decide +kernel
theorem dX6_find_78 : decode cX6_find 78 = .ok (.iload_n 1, 1) := by decide +kernel
theorem dX6_find_79 : decode cX6_find 79 = .ok (.aload_n 0, 1) := by decide +kernel
theorem dX6_find_80 : decode cX6_find 80 = .ok (.getfield 82, 3) := by decide +kernel
theorem dX6_find_83 : decode cX6_find 83 = .ok (.iload_n 1, 1) := by decide +kernel
theorem dX6_find_84 : decode cX6_find 84 = .ok (.iaload, 1) := by decide +kernel
theorem dX6_find_85 : decode cX6_find 85 = .ok (.iastore, 1) := by decide +kernel
theorem dX6_find_86 : decode cX6_find 86 = .ok (.iinc 1 1, 3) := by decide +kernel
theorem dX6_find_89 : decode cX6_find 89 = .ok (.goto (-22), 3) := by decide +kernel
theorem dX6_find_92 : decode cX6_find 92 = .ok (.iconst (-1), 1) := by decide +kernel
theorem dX6_find_93 : decode cX6_find 93 = .ok (.ireturn, 1) := by decide +kernel
set_option maxRecDepth 20000 in
theorem ggX6_isAsBefore_X6_work : GoodIn wsX6_isAsBefore wsX6_work := goodIn_r _ [8, 1, 9, 10, 11, 12, 13, 7, 14, 15, 16, 17, 18, 19, 20, 21, 22, 23, 24, 25, 26, 27, 28, 29, 30, 31, 32, 33, 34, 35, 36, 37, 38, 39, 40, 41, 42, 43, 68, 69, 70, 71, 72, 73, 74, 75, 76, 77, 78, 79, 80, 81, 82, 83, 84, 85, 86, 87, 88, 89, 90, 91, 92, 93, 94, 95, 96, 97, 98] (by decide +kernel) (by decide +kernel)
set_option maxRecDepth 20000 in
theorem gX6_isAsBefore_X6_work : GoodIn wsX6_isAsBefore (wsV RX6 140 RX6 yX6_work wsX6_work) := goodIn_app (goodIn_of _ (by decide +kernel)) ggX6_isAsBefore_X6_work
set_option maxRecDepth 20000 in
theorem ggX6_isAsBefore_X6_rankOf : GoodIn wsX6_isAsBefore wsX6_rankOf := goodIn_r _ [47, 48, 49, 50, 51, 7, 52, 9, 32, 53, 22, 16, 54, 55, 56, 57, 58, 59, 60, 61, 62, 63, 64, 41, 42, 43, 65, 66, 67, 68, 69, 70, 71, 72, 73, 74, 75, 76, 77, 78, 79, 80, 81, 82, 83, 84, 85, 86, 87, 88, 89, 90, 91, 92, 93, 94, 95, 96, 97, 98] (by decide +kernel) (by decide +kernel)
set_option maxRecDepth 20000 in
theorem gX6_isAsBefore_X6_rankOf : GoodIn wsX6_isAsBefore (wsV RX6 156 RX6 yX6_rankOf wsX6_rankOf) := goodIn_app (goodIn_of _ (by decide +kernel)) ggX6_isAsBefore_X6_rankOf
theorem dX6_isAsBefore_0 : decode cX6_isAsBefore 0 = .ok (.aload_n 0, 1) := by decide +kernel
theorem dX6_isAsBefore_1 : decode cX6_isAsBefore 1 = .ok (.invokevirtual 140, 3) := by decide +kernel
theorem dX6_isAsBefore_4 : decode cX6_isAsBefore 4 = .ok (.iconst 1, 1) := by decide +kernel
theorem dX6_isAsBefore_5 : decode cX6_isAsBefore 5 = .ok (.istore_n 1, 1) := by decide +kernel
theorem dX6_isAsBefore_6 : decode cX6_isAsBefore 6 = .ok (.iload_n 1, 1) := by decide +kernel
theorem dX6_isAsBefore_7 : decode cX6_isAsBefore 7 = .ok (.aload_n 0, 1) := by decide +kernel
theorem dX6_isAsBefore_8 : decode cX6_isAsBefore 8 = .ok (.getfield 7, 3) := by decide +kernel
theorem dX6_isAsBefore_11 : decode cX6_isAsBefore 11 = .ok (.if_icmp .ge 34, 3) := by decide +kernel
theorem dX6_isAsBefore_14 : decode cX6_isAsBefore 14 = .ok (.aload_n 0, 1) := by decide +kernel
theorem dX6_isAsBefore_15 : decode cX6_isAsBefore 15 = .ok (.getfield 20, 3) := by decide +kernel
theorem dX6_isAsBefore_18 : decode cX6_isAsBefore 18 = .ok (.iload_n 1, 1) := by decide +kernel
theorem dX6_isAsBefore_19 : decode cX6_isAsBefore 19 = .ok (.baload, 1) := by decide +kernel
theorem dX6_isAsBefore_20 : decode cX6_isAsBefore 20 = .ok (.ifCond .eq 19, 3) := by decide +kernel
theorem dX6_isAsBefore_23 : decode cX6_isAsBefore 23 = .ok (.aload_n 0, 1) := by decide +kernel
theorem dX6_isAsBefore_24 : decode cX6_isAsBefore 24 = .ok (.iload_n 1, 1) := by decide +kernel
theorem dX6_isAsBefore_25 : decode cX6_isAsBefore 25 = .ok (.invokevirtual 156, 3) := by decide +kernel
theorem dX6_isAsBefore_28 : decode cX6_isAsBefore 28 = .ok (.aload_n 0, 1) := by decide +kernel
theorem dX6_isAsBefore_29 : decode cX6_isAsBefore 29 = .ok (.getfield 85, 3) := by decide +kernel
theorem dX6_isAsBefore_32 : decode cX6_isAsBefore 32 = .ok (.iload_n 1, 1) := by decide +kernel
theorem dX6_isAsBefore_33 : decode cX6_isAsBefore 33 = .ok (.iaload, 1) := by decide +kernel
theorem dX6_isAsBefore_34 : decode cX6_isAsBefore 34 = .ok (.if_icmp .eq 5, 3) := by decide +kernel
theorem dX6_isAsBefore_37 : decode cX6_isAsBefore 37 = .ok (.iconst 0, 1) := by decide +kernel
theorem dX6_isAsBefore_38 : decode cX6_isAsBefore 38 = .ok (.ireturn, 1) := by decide +kernel
theorem dX6_isAsBefore_39 : decode cX6_isAsBefore 39 = .ok (.iinc 1 1, 3) := by decide +kernel
theorem dX6_isAsBefore_42 : decode cX6_isAsBefore 42 = .ok (.goto (-36), 3) := by decide +kernel
theorem dX6_isAsBefore_45 : decode cX6_isAsBefore 45 = .ok (.iconst 1, 1) := by decide +kernel
theorem dX6_isAsBefore_46 : decode cX6_isAsBefore 46 = .ok (.ireturn, 1) := by decide +kernel
set_option maxRecDepth 20000 in
theorem ggX6_leaves_X6_ins : GoodIn wsX6_leaves wsX6_ins := goodIn_r _ [7, 8, 9, 10, 11, 12, 6, 13, 14, 15, 73, 74, 75, 76, 77, 78, 79, 80, 81, 82, 83, 84, 85, 86, 87, 88, 89, 90, 91, 92, 93, 94, 95, 96, 97, 98, 99, 100, 101, 102, 103] (by decide +kernel) (by decide +kernel)
set_option maxRecDepth 20000 in
theorem gX6_leaves_X6_ins : GoodIn wsX6_leaves (wsV RX6 118 RX6 yX6_ins wsX6_ins) := goodIn_app (goodIn_of _ (by decide +kernel)) ggX6_leaves_X6_ins
set_option maxRecDepth 20000 in
theorem ggX6_leaves_X6_isAsBefore : GoodIn wsX6_leaves wsX6_isAsBefore := goodIn_r _ [19, 20, 21, 22, 23, 24, 25, 6, 26, 14, 8, 27, 28, 29, 30, 31, 32, 33, 34, 35, 2, 36, 9, 37, 3, 4, 5, 7, 10, 11, 12, 13, 15, 38, 39, 40, 41, 42, 43, 44, 45, 46, 47, 48, 49, 50, 51, 52, 53, 54, 55, 56, 57, 58, 59, 60, 61, 62, 63, 64, 65, 66, 67, 68, 69, 70, 71, 72, 73, 74, 75, 76, 77, 78, 79, 80, 81, 82, 83, 84, 85, 86, 87, 88, 89, 90, 91, 92, 93, 94, 95, 96, 97, 98, 99, 100, 101, 102, 103] (by decide +kernel) (by decide +kernel)
set_option maxRecDepth 20000 in
theorem gX6_leaves_X6_isAsBefore : GoodIn wsX6_leaves (wsV RX6 187 RX6 yX6_isAsBefore wsX6_isAsBefore) := goodIn_app (goodIn_of _ (by decide +kernel)) ggX6_leaves_X6_isAsBefore
theorem dX6_leaves_0 : decode cX6_leaves 0 = .ok (.aload_n 0, 1) := by decide +kernel
theorem dX6_leaves_1 : decode cX6_leaves 1 = .ok (.iload_n 1, 1) := by decide +kernel
theorem dX6_leaves_2 : decode cX6_leaves 2 = .ok (.invokevirtual 118, 3) := by decide +kernel
theorem dX6_leaves_5 : decode cX6_leaves 5 = .ok (.istore_n 2, 1) := by decide +kernel
theorem dX6_leaves_6 : decode cX6_leaves 6 = .ok (.iconst 0, 1) := by decide +kernel
theorem dX6_leaves_7 : decode cX6_leaves 7 = .ok (.istore_n 3, 1) := by decide +kernel
theorem dX6_leaves_8 : decode cX6_leaves 8 = .ok (.iload_n 3, 1) := by decide +kernel
theorem dX6_leaves_9 : decode cX6_leaves 9 = .ok (.iload_n 2, 1) := by decide +kernel
theorem dX6_leaves_10 : decode cX6_leaves 10 = .ok (.if_icmp .ge 26, 3) := by decide +kernel
theorem dX6_leaves_13 : decode cX6_leaves 13 = .ok (.aload_n 0, 1) := by decide +kernel
theorem dX6_leaves_14 : decode cX6_leaves 14 = .ok (.getfield 82, 3) := by decide +kernel
theorem dX6_leaves_17 : decode cX6_leaves 17 = .ok (.iload_n 3, 1) := by decide +kernel
theorem dX6_leaves_18 : decode cX6_leaves 18 = .ok (.aload_n 0, 1) := by decide +kernel
theorem dX6_leaves_19 : decode cX6_leaves 19 = .ok (.getfield 40, 3) := by decide +kernel
theorem dX6_leaves_22 : decode cX6_leaves 22 = .ok (.bipush 30, 2) := by decide +kernel
theorem dX6_leaves_24 : decode cX6_leaves 24 = .ok (.iload_n 1, 1) := by decide +kernel
theorem dX6_leaves_25 : decode cX6_leaves 25 = .ok (.imul, 1) := by decide +kernel
theorem dX6_leaves_26 : decode cX6_leaves 26 = .ok (.iload_n 3, 1) := by decide +kernel
theorem dX6_leaves_27 : decode cX6_leaves 27 = .ok (.iadd, 1) := by decide +kernel
theorem dX6_leaves_28 : decode cX6_leaves 28 = .ok (.iaload, 1) := by decide +kernel
theorem dX6_leaves_29 : decode cX6_leaves 29 = .ok (.iastore, 1) := by decide +kernel
theorem dX6_leaves_30 : decode cX6_leaves 30 = .ok (.iinc 3 1, 3) := by decide +kernel
theorem dX6_leaves_33 : decode cX6_leaves 33 = .ok (.goto (-25), 3) := by decide +kernel
theorem dX6_leaves_36 : decode cX6_leaves 36 = .ok (.iconst 0, 1) := by decide +kernel
theorem dX6_leaves_37 : decode cX6_leaves 37 = .ok (.istore_n 3, 1) := by decide +kernel
theorem dX6_leaves_38 : decode cX6_leaves 38 = .ok (.iload_n 3, 1) := by decide +kernel
theorem dX6_leaves_39 : decode cX6_leaves 39 = .ok (.iload_n 2, 1) := by decide +kernel
theorem dX6_leaves_40 : decode cX6_leaves 40 = .ok (.if_icmp .ge 56, 3) := by decide +kernel
theorem dX6_leaves_43 : decode cX6_leaves 43 = .ok (.iconst 0, 1) := by decide +kernel
theorem dX6_leaves_44 : decode cX6_leaves 44 = .ok (.istore 4, 2) := by decide +kernel
theorem dX6_leaves_46 : decode cX6_leaves 46 = .ok (.iload 4, 2) := by decide +kernel
theorem dX6_leaves_48 : decode cX6_leaves 48 = .ok (.iload_n 2, 1) := by decide +kernel
theorem dX6_leaves_49 : decode cX6_leaves 49 = .ok (.if_icmp .ge 32, 3) := by decide +kernel
theorem dX6_leaves_52 : decode cX6_leaves 52 = .ok (.aload_n 0, 1) := by decide +kernel
theorem dX6_leaves_53 : decode cX6_leaves 53 = .ok (.getfield 40, 3) := by decide +kernel
theorem dX6_leaves_56 : decode cX6_leaves 56 = .ok (.bipush 30, 2) := by decide +kernel
theorem dX6_leaves_58 : decode cX6_leaves 58 = .ok (.iload_n 1, 1) := by decide +kernel
theorem dX6_leaves_59 : decode cX6_leaves 59 = .ok (.imul, 1) := by decide +kernel
theorem dX6_leaves_60 : decode cX6_leaves 60 = .ok (.iload 4, 2) := by decide +kernel
theorem dX6_leaves_62 : decode cX6_leaves 62 = .ok (.iadd, 1) := by decide +kernel
theorem dX6_leaves_63 : decode cX6_leaves 63 = .ok (.iload 4, 2) := by decide +kernel
theorem dX6_leaves_65 : decode cX6_leaves 65 = .ok (.iload_n 3, 1) := by decide +kernel
theorem dX6_leaves_66 : decode cX6_leaves 66 = .ok (.if_icmp .ne 7, 3) := by decide +kernel
theorem dX6_leaves_69 : decode cX6_leaves 69 = .ok (.iconst 1, 1) := by decide +kernel
theorem dX6_leaves_70 : decode cX6_leaves 70 = .ok (.goto 4, 3) := by decide +kernel
theorem dX6_leaves_73 : decode cX6_leaves 73 = .ok (.iconst 0, 1) := by decide +kernel
theorem dX6_leaves_74 : decode cX6_leaves 74 = .ok (.iastore, 1) := by decide +kernel
theorem dX6_leaves_75 : decode cX6_leaves 75 = .ok (.iinc 4 1, 3) := by decide +kernel
theorem dX6_leaves_78 : decode cX6_leaves 78 = .ok (.goto (-32), 3) := by decide +kernel
theorem dX6_leaves_81 : decode cX6_leaves 81 = .ok (.aload_n 0, 1) := by decide +kernel
theorem dX6_leaves_82 : decode cX6_leaves 82 = .ok (.invokevirtual 187, 3) := by decide +kernel
theorem dX6_leaves_85 : decode cX6_leaves 85 = .ok (.ifCond .eq 5, 3) := by decide +kernel
theorem dX6_leaves_88 : decode cX6_leaves 88 = .ok (.iconst 1, 1) := by decide +kernel
theorem dX6_leaves_89 : decode cX6_leaves 89 = .ok (.ireturn, 1) := by decide +kernel
theorem dX6_leaves_90 : decode cX6_leaves 90 = .ok (.iinc 3 1, 3) := by decide +kernel
theorem dX6_leaves_93 : decode cX6_leaves 93 = .ok (.goto (-55), 3) := by decide +kernel
theorem dX6_leaves_96 : decode cX6_leaves 96 = .ok (.iconst 0, 1) := by decide +kernel
theorem dX6_leaves_97 : decode cX6_leaves 97 = .ok (.istore_n 3, 1) := by decide +kernel
theorem dX6_leaves_98 : decode cX6_leaves 98 = .ok (.iload_n 3, 1) := by decide +kernel
theorem dX6_leaves_99 : decode cX6_leaves 99 = .ok (.iload_n 2, 1) := by decide +kernel
theorem dX6_leaves_100 : decode cX6_leaves 100 = .ok (.if_icmp .ge 26, 3) := by decide +kernel
theorem dX6_leaves_103 : decode cX6_leaves 103 = .ok (.aload_n 0, 1) := by decide +kernel
theorem dX6_leaves_104 : decode cX6_leaves 104 = .ok (.getfield 40, 3) := by decide +kernel
theorem dX6_leaves_107 : decode cX6_leaves 107 = .ok (.bipush 30, 2) := by decide +kernel
theorem dX6_leaves_109 : decode cX6_leaves 109 = .ok (.iload_n 1, 1) := by decide +kernel
theorem dX6_leaves_110 : decode cX6_leaves 110 = .ok (.imul, 1) := by decide +kernel
theorem dX6_leaves_111 : decode cX6_leaves 111 = .ok (.iload_n 3, 1) := by decide +kernel
theorem dX6_leaves_112 : decode cX6_leaves 112 = .ok (.iadd, 1) := by decide +kernel
theorem dX6_leaves_113 : decode cX6_leaves 113 = .ok (.aload_n 0, 1) := by decide +kernel
theorem dX6_leaves_114 : decode cX6_leaves 114 = .ok (.getfield 82, 3) := by decide +kernel
theorem dX6_leaves_117 : decode cX6_leaves 117 = .ok (.iload_n 3, 1) := by decide +kernel
theorem dX6_leaves_118 : decode cX6_leaves 118 = .ok (.iaload, 1) := by decide +kernel
theorem dX6_leaves_119 : decode cX6_leaves 119 = .ok (.iastore, 1) := by decide +kernel
theorem dX6_leaves_120 : decode cX6_leaves 120 = .ok (.iinc 3 1, 3) := by decide +kernel
theorem dX6_leaves_123 : decode cX6_leaves 123 = .ok (.goto (-25), 3) := by decide +kernel
theorem dX6_leaves_126 : decode cX6_leaves 126 = .ok (.iconst 0, 1) := by decide +kernel
theorem dX6_leaves_127 : decode cX6_leaves 127 = .ok (.ireturn, 1) := by decide +kernel
set_option maxRecDepth 20000 in
theorem ggX6_leave_X6_work : GoodIn wsX6_leave wsX6_work := goodIn_r _ [11, 1, 4, 5, 12, 13, 14, 10, 15, 16, 17, 18, 19, 20, 21, 22, 23, 24, 25, 26, 27, 28, 29, 30, 31, 32, 33, 34, 35, 36, 37, 38, 39, 40, 41, 42, 43, 44, 82, 83, 84, 85, 86, 87, 88, 89, 90, 91, 92, 93, 94, 95, 96, 97, 98, 99, 100, 101, 102, 103, 104, 105, 106, 107, 108, 109, 110, 111, 112] (by decide +kernel) (by decide +kernel)
set_option maxRecDepth 20000 in
theorem gX6_leave_X6_work : GoodIn wsX6_leave (wsV RX6 140 RX6 yX6_work wsX6_work) := goodIn_app (goodIn_of _ (by decide +kernel)) ggX6_leave_X6_work
set_option maxRecDepth 20000 in
theorem ggX6_leave_X6_rankOf : GoodIn wsX6_leave wsX6_rankOf := goodIn_r _ [48, 49, 50, 51, 52, 10, 53, 4, 33, 54, 23, 17, 55, 56, 57, 58, 59, 60, 61, 62, 63, 64, 65, 42, 43, 44, 66, 67, 68, 82, 83, 84, 85, 86, 87, 88, 89, 90, 91, 92, 93, 94, 95, 96, 97, 98, 99, 100, 101, 102, 103, 104, 105, 106, 107, 108, 109, 110, 111, 112] (by decide +kernel) (by decide +kernel)
set_option maxRecDepth 20000 in
theorem gX6_leave_X6_rankOf : GoodIn wsX6_leave (wsV RX6 156 RX6 yX6_rankOf wsX6_rankOf) := goodIn_app (goodIn_of _ (by decide +kernel)) ggX6_leave_X6_rankOf
set_option maxRecDepth 20000 in
theorem ggX6_leave_X6_isPassing : GoodIn wsX6_leave wsX6_isPassing := goodIn_r _ [72, 21, 5, 25, 26, 27, 10, 28, 23, 29, 30, 31, 32, 4, 33, 82, 83, 84, 85, 86, 87, 88, 89, 90, 91, 92, 93, 94, 95, 96, 97, 98, 99, 100, 101, 102, 103, 104, 105, 106, 107, 108, 109, 110, 111, 112] (by decide +kernel) (by decide +kernel)
set_option maxRecDepth 20000 in
theorem gX6_leave_X6_isPassing : GoodIn wsX6_leave (wsV RX6 121 RX6 yX6_isPassing wsX6_isPassing) := goodIn_app (goodIn_of _ (by decide +kernel)) ggX6_leave_X6_isPassing
set_option maxRecDepth 20000 in
theorem ggX6_leave_X6_leaves : GoodIn wsX6_leave wsX6_leaves := goodIn_r _ [76, 77, 21, 25, 26, 27, 10, 28, 5, 23, 29, 30, 31, 32, 4, 33, 78, 79, 80, 81, 1, 3, 2, 7, 8, 9, 11, 12, 13, 14, 15, 16, 17, 18, 19, 20, 22, 24, 34, 35, 36, 37, 38, 39, 40, 41, 42, 43, 44, 45, 46, 47, 48, 49, 50, 51, 52, 53, 54, 55, 56, 57, 58, 59, 60, 61, 62, 63, 64, 65, 66, 67, 68, 82, 83, 84, 85, 86, 87, 88, 89, 90, 91, 92, 93, 94, 95, 96, 97, 98, 99, 100, 101, 102, 103, 104, 105, 106, 107, 108, 109, 110, 111, 112] (by decide +kernel) (by decide +kernel)
set_option maxRecDepth 20000 in
theorem gX6_leave_X6_leaves : GoodIn wsX6_leave (wsV RX6 190 RX6 yX6_leaves wsX6_leaves) := goodIn_app (goodIn_of _ (by decide +kernel)) ggX6_leave_X6_leaves
theorem dX6_leave_0 : decode cX6_leave 0 = .ok (.aload_n 0, 1) := by decide +kernel
theorem dX6_leave_1 : decode cX6_leave 1 = .ok (.invokevirtual 140, 3) := by decide +kernel
theorem dX6_leave_4 : decode cX6_leave 4 = .ok (.iconst 1, 1) := by decide +kernel
theorem dX6_leave_5 : decode cX6_leave 5 = .ok (.istore_n 1, 1) := by decide +kernel
theorem dX6_leave_6 : decode cX6_leave 6 = .ok (.iload_n 1, 1) := by decide +kernel
theorem dX6_leave_7 : decode cX6_leave 7 = .ok (.aload_n 0, 1) := by decide +kernel
theorem dX6_leave_8 : decode cX6_leave 8 = .ok (.getfield 7, 3) := by decide +kernel
theorem dX6_leave_11 : decode cX6_leave 11 = .ok (.if_icmp .ge 33, 3) := by decide +kernel
theorem dX6_leave_14 : decode cX6_leave 14 = .ok (.aload_n 0, 1) := by decide +kernel
theorem dX6_leave_15 : decode cX6_leave 15 = .ok (.getfield 85, 3) := by decide +kernel
theorem dX6_leave_18 : decode cX6_leave 18 = .ok (.iload_n 1, 1) := by decide +kernel
theorem dX6_leave_19 : decode cX6_leave 19 = .ok (.aload_n 0, 1) := by decide +kernel
theorem dX6_leave_20 : decode cX6_leave 20 = .ok (.getfield 20, 3) := by decide +kernel
theorem dX6_leave_23 : decode cX6_leave 23 = .ok (.iload_n 1, 1) := by decide +kernel
theorem dX6_leave_24 : decode cX6_leave 24 = .ok (.baload, 1) := by decide +kernel
theorem dX6_leave_25 : decode cX6_leave 25 = .ok (.ifCond .eq 11, 3) := by decide +kernel
theorem dX6_leave_28 : decode cX6_leave 28 = .ok (.aload_n 0, 1) := by decide +kernel
theorem dX6_leave_29 : decode cX6_leave 29 = .ok (.iload_n 1, 1) := by decide +kernel
theorem dX6_leave_30 : decode cX6_leave 30 = .ok (.invokevirtual 156, 3) := by decide +kernel
theorem dX6_leave_33 : decode cX6_leave 33 = .ok (.goto 4, 3) := by decide +kernel
theorem dX6_leave_36 : decode cX6_leave 36 = .ok (.iconst 0, 1) := by decide +kernel
theorem dX6_leave_37 : decode cX6_leave 37 = .ok (.iastore, 1) := by decide +kernel
theorem dX6_leave_38 : decode cX6_leave 38 = .ok (.iinc 1 1, 3) := by decide +kernel
theorem dX6_leave_41 : decode cX6_leave 41 = .ok (.goto (-35), 3) := by decide +kernel
theorem dX6_leave_44 : decode cX6_leave 44 = .ok (.iconst 0, 1) := by decide +kernel
theorem dX6_leave_45 : decode cX6_leave 45 = .ok (.istore_n 1, 1) := by decide +kernel
theorem dX6_leave_46 : decode cX6_leave 46 = .ok (.aload_n 0, 1) := by decide +kernel
theorem dX6_leave_47 : decode cX6_leave 47 = .ok (.getfield 105, 3) := by decide +kernel
theorem dX6_leave_50 : decode cX6_leave 50 = .ok (.iconst 1, 1) := by decide +kernel
theorem dX6_leave_51 : decode cX6_leave 51 = .ok (.isub, 1) := by decide +kernel
theorem dX6_leave_52 : decode cX6_leave 52 = .ok (.istore_n 2, 1) := by decide +kernel
theorem dX6_leave_53 : decode cX6_leave 53 = .ok (.iload_n 2, 1) := by decide +kernel
theorem dX6_leave_54 : decode cX6_leave 54 = .ok (.ifCond .lt 46, 3) := by decide +kernel
theorem dX6_leave_57 : decode cX6_leave 57 = .ok (.aload_n 0, 1) := by decide +kernel
theorem dX6_leave_58 : decode cX6_leave 58 = .ok (.getfield 24, 3) := by decide +kernel
theorem dX6_leave_61 : decode cX6_leave 61 = .ok (.iload_n 2, 1) := by decide +kernel
theorem dX6_leave_62 : decode cX6_leave 62 = .ok (.iaload, 1) := by decide +kernel
theorem dX6_leave_63 : decode cX6_leave 63 = .ok (.ifCond .eq 31, 3) := by decide +kernel
theorem dX6_leave_66 : decode cX6_leave 66 = .ok (.aload_n 0, 1) := by decide +kernel
theorem dX6_leave_67 : decode cX6_leave 67 = .ok (.getfield 31, 3) := by decide +kernel
theorem dX6_leave_70 : decode cX6_leave 70 = .ok (.iload_n 2, 1) := by decide +kernel
theorem dX6_leave_71 : decode cX6_leave 71 = .ok (.baload, 1) := by decide +kernel
theorem dX6_leave_72 : decode cX6_leave 72 = .ok (.ifCond .ne 22, 3) := by decide +kernel
theorem dX6_leave_75 : decode cX6_leave 75 = .ok (.aload_n 0, 1) := by decide +kernel
theorem dX6_leave_76 : decode cX6_leave 76 = .ok (.iload_n 2, 1) := by decide +kernel
theorem dX6_leave_77 : decode cX6_leave 77 = .ok (.invokevirtual 121, 3) := by decide +kernel
theorem dX6_leave_80 : decode cX6_leave 80 = .ok (.ifCond .ne 14, 3) := by decide +kernel
theorem dX6_leave_83 : decode cX6_leave 83 = .ok (.aload_n 0, 1) := by decide +kernel
theorem dX6_leave_84 : decode cX6_leave 84 = .ok (.iload_n 2, 1) := by decide +kernel
theorem dX6_leave_85 : decode cX6_leave 85 = .ok (.invokevirtual 190, 3) := by decide +kernel
theorem dX6_leave_88 : decode cX6_leave 88 = .ok (.ifCond .eq 6, 3) := by decide +kernel
theorem dX6_leave_91 : decode cX6_leave 91 = .ok (.iinc 1 1, 3) := by decide +kernel
theorem dX6_leave_94 : decode cX6_leave 94 = .ok (.iinc 2 (-1), 3) := by decide +kernel
theorem dX6_leave_97 : decode cX6_leave 97 = .ok (.goto (-44), 3) := by decide +kernel
theorem dX6_leave_100 : decode cX6_leave 100 = .ok (.iload_n 1, 1) := by decide +kernel
theorem dX6_leave_101 : decode cX6_leave 101 = .ok (.ireturn, 1) := by decide +kernel
set_option maxRecDepth 20000 in
theorem ggX6_lowEnd_X6_work : GoodIn wsX6_lowEnd wsX6_work := goodIn_r _ [9, 3, 10, 11, 12, 13, 14, 8, 15, 16, 17, 18, 1, 2, 19, 20, 21, 22, 23, 24, 25, 26, 27, 28, 29, 30, 31, 32, 33, 34, 35, 36, 37, 38, 39, 40, 41, 42, 67, 68, 69, 70, 71, 72, 73, 74, 75, 76, 77, 78, 79, 80, 81, 82, 83, 84, 85, 86, 87, 88, 89, 90, 91, 92, 93, 94, 95, 96, 97] (by decide +kernel) (by decide +kernel)
set_option maxRecDepth 20000 in
theorem gX6_lowEnd_X6_work : GoodIn wsX6_lowEnd (wsV RX6 140 RX6 yX6_work wsX6_work) := goodIn_app (goodIn_of _ (by decide +kernel)) ggX6_lowEnd_X6_work
set_option maxRecDepth 20000 in
theorem ggX6_lowEnd_X6_rankOf : GoodIn wsX6_lowEnd wsX6_rankOf := goodIn_r _ [46, 47, 48, 49, 50, 8, 51, 10, 31, 52, 21, 17, 53, 54, 55, 56, 57, 58, 59, 60, 61, 62, 63, 40, 41, 42, 64, 65, 66, 67, 68, 69, 70, 71, 72, 73, 74, 75, 76, 77, 78, 79, 80, 81, 82, 83, 84, 85, 86, 87, 88, 89, 90, 91, 92, 93, 94, 95, 96, 97] (by decide +kernel) (by decide +kernel)
set_option maxRecDepth 20000 in
theorem gX6_lowEnd_X6_rankOf : GoodIn wsX6_lowEnd (wsV RX6 156 RX6 yX6_rankOf wsX6_rankOf) := goodIn_app (goodIn_of _ (by decide +kernel)) ggX6_lowEnd_X6_rankOf
theorem dX6_lowEnd_0 : decode cX6_lowEnd 0 = .ok (.aload_n 0, 1) := by decide +kernel
theorem dX6_lowEnd_1 : decode cX6_lowEnd 1 = .ok (.iload_n 1, 1) := by decide +kernel
theorem dX6_lowEnd_2 : decode cX6_lowEnd 2 = .ok (.putfield 58, 3) := by decide +kernel
theorem dX6_lowEnd_5 : decode cX6_lowEnd 5 = .ok (.aload_n 0, 1) := by decide +kernel
theorem dX6_lowEnd_6 : decode cX6_lowEnd 6 = .ok (.iload_n 2, 1) := by decide +kernel
theorem dX6_lowEnd_7 : decode cX6_lowEnd 7 = .ok (.putfield 61, 3) := by decide +kernel
theorem dX6_lowEnd_10 : decode cX6_lowEnd 10 = .ok (.aload_n 0, 1) := by decide +kernel
theorem dX6_lowEnd_11 : decode cX6_lowEnd 11 = .ok (.invokevirtual 140, 3) := by decide +kernel
theorem dX6_lowEnd_14 : decode cX6_lowEnd 14 = .ok (.iconst (-1), 1) := by decide +kernel
theorem dX6_lowEnd_15 : decode cX6_lowEnd 15 = .ok (.istore 4, 2) := by decide +kernel
theorem dX6_lowEnd_17 : decode cX6_lowEnd 17 = .ok (.aload_n 0, 1) := by decide +kernel
theorem dX6_lowEnd_18 : decode cX6_lowEnd 18 = .ok (.getfield 7, 3) := by decide +kernel
theorem dX6_lowEnd_21 : decode cX6_lowEnd 21 = .ok (.iconst 1, 1) := by decide +kernel
theorem dX6_lowEnd_22 : decode cX6_lowEnd 22 = .ok (.isub, 1) := by decide +kernel
theorem dX6_lowEnd_23 : decode cX6_lowEnd 23 = .ok (.istore 5, 2) := by decide +kernel
theorem dX6_lowEnd_25 : decode cX6_lowEnd 25 = .ok (.iload 5, 2) := by decide +kernel
theorem dX6_lowEnd_27 : decode cX6_lowEnd 27 = .ok (.ifCond .le 33, 3) := by decide +kernel
theorem dX6_lowEnd_30 : decode cX6_lowEnd 30 = .ok (.aload_n 0, 1) := by decide +kernel
theorem dX6_lowEnd_31 : decode cX6_lowEnd 31 = .ok (.getfield 20, 3) := by decide +kernel
theorem dX6_lowEnd_34 : decode cX6_lowEnd 34 = .ok (.iload 5, 2) := by decide +kernel
theorem dX6_lowEnd_36 : decode cX6_lowEnd 36 = .ok (.baload, 1) := by decide +kernel
theorem dX6_lowEnd_37 : decode cX6_lowEnd 37 = .ok (.ifCond .eq 17, 3) := by decide +kernel
theorem dX6_lowEnd_40 : decode cX6_lowEnd 40 = .ok (.aload_n 0, 1) := by decide +kernel
theorem dX6_lowEnd_41 : decode cX6_lowEnd 41 = .ok (.iload 5, 2) := by decide +kernel
theorem dX6_lowEnd_43 : decode cX6_lowEnd 43 = .ok (.invokevirtual 156, 3) := by decide +kernel
theorem dX6_lowEnd_46 : decode cX6_lowEnd 46 = .ok (.iload_n 3, 1) := by decide +kernel
theorem dX6_lowEnd_47 : decode cX6_lowEnd 47 = .ok (.if_icmp .ge 7, 3) := by decide +kernel
theorem dX6_lowEnd_50 : decode cX6_lowEnd 50 = .ok (.iload 5, 2) := by decide +kernel
theorem dX6_lowEnd_52 : decode cX6_lowEnd 52 = .ok (.istore 4, 2) := by decide +kernel
theorem dX6_lowEnd_54 : decode cX6_lowEnd 54 = .ok (.iinc 5 (-1), 3) := by decide +kernel
theorem dX6_lowEnd_57 : decode cX6_lowEnd 57 = .ok (.goto (-32), 3) := by decide +kernel
theorem dX6_lowEnd_60 : decode cX6_lowEnd 60 = .ok (.aload_n 0, 1) := by decide +kernel
theorem dX6_lowEnd_61 : decode cX6_lowEnd 61 = .ok (.iconst (-1), 1) := by decide +kernel
theorem dX6_lowEnd_62 : decode cX6_lowEnd 62 = .ok (.putfield 58, 3) := by decide +kernel
theorem dX6_lowEnd_65 : decode cX6_lowEnd 65 = .ok (.aload_n 0, 1) := by decide +kernel
theorem dX6_lowEnd_66 : decode cX6_lowEnd 66 = .ok (.iconst (-1), 1) := by decide +kernel
theorem dX6_lowEnd_67 : decode cX6_lowEnd 67 = .ok (.putfield 61, 3) := by decide +kernel
theorem dX6_lowEnd_70 : decode cX6_lowEnd 70 = .ok (.iload 4, 2) := by decide +kernel
theorem dX6_lowEnd_72 : decode cX6_lowEnd 72 = .ok (.ireturn, 1) := by decide +kernel
set_option maxRecDepth 20000 in
theorem ggX6_breaksAt_X6_lowEnd : GoodIn wsX6_breaksAt wsX6_lowEnd := goodIn_r _ [8, 9, 10, 11, 12, 13, 14, 15, 7, 16, 17, 18, 19, 20, 21, 22, 23, 24, 25, 26, 27, 28, 29, 30, 31, 32, 33, 34, 35, 36, 37, 38, 39, 40, 41, 42, 43, 44, 45, 46, 47, 48, 49, 50, 51, 52, 53, 54, 55, 56, 57, 58, 59, 60, 61, 62, 63, 64, 65, 66, 67, 68, 69, 70, 71, 72, 73, 74, 75, 76, 77, 78, 79, 80, 81, 82, 83, 84, 85, 86, 87, 88, 89, 90, 91, 92, 93, 94, 95, 96, 97, 98, 99, 100, 101, 102, 103, 104] (by decide +kernel) (by decide +kernel)
set_option maxRecDepth 20000 in
theorem gX6_breaksAt_X6_lowEnd : GoodIn wsX6_breaksAt (wsV RX6 199 RX6 yX6_lowEnd wsX6_lowEnd) := goodIn_app (goodIn_of _ (by decide +kernel)) ggX6_breaksAt_X6_lowEnd
theorem dX6_breaksAt_0 : decode cX6_breaksAt 0 = .ok (.aload_n 0, 1) := by decide +kernel
theorem dX6_breaksAt_1 : decode cX6_breaksAt 1 = .ok (.iload_n 1, 1) := by decide +kernel
theorem dX6_breaksAt_2 : decode cX6_breaksAt 2 = .ok (.putfield 193, 3) := by decide +kernel
theorem dX6_breaksAt_5 : decode cX6_breaksAt 5 = .ok (.aload_n 0, 1) := by decide +kernel
theorem dX6_breaksAt_6 : decode cX6_breaksAt 6 = .ok (.iload_n 2, 1) := by decide +kernel
theorem dX6_breaksAt_7 : decode cX6_breaksAt 7 = .ok (.putfield 196, 3) := by decide +kernel
theorem dX6_breaksAt_10 : decode cX6_breaksAt 10 = .ok (.aload_n 0, 1) := by decide +kernel
theorem dX6_breaksAt_11 : decode cX6_breaksAt 11 = .ok (.aload_n 0, 1) := by decide +kernel
theorem dX6_breaksAt_12 : decode cX6_breaksAt 12 = .ok (.iload_n 1, 1) := by decide +kernel
theorem dX6_breaksAt_13 : decode cX6_breaksAt 13 = .ok (.iload_n 2, 1) := by decide +kernel
theorem dX6_breaksAt_14 : decode cX6_breaksAt 14 = .ok (.iload_n 3, 1) := by decide +kernel
theorem dX6_breaksAt_15 : decode cX6_breaksAt 15 = .ok (.invokevirtual 199, 3) := by decide +kernel
theorem dX6_breaksAt_18 : decode cX6_breaksAt 18 = .ok (.putfield 203, 3) := by decide +kernel
theorem dX6_breaksAt_21 : decode cX6_breaksAt 21 = .ok (.aload_n 0, 1) := by decide +kernel
theorem dX6_breaksAt_22 : decode cX6_breaksAt 22 = .ok (.getfield 203, 3) := by decide +kernel
theorem dX6_breaksAt_25 : decode cX6_breaksAt 25 = .ok (.iconst (-1), 1) := by decide +kernel
theorem dX6_breaksAt_26 : decode cX6_breaksAt 26 = .ok (.if_icmp .eq 7, 3) := by decide +kernel
theorem dX6_breaksAt_29 : decode cX6_breaksAt 29 = .ok (.iconst 1, 1) := by decide +kernel
theorem dX6_breaksAt_30 : decode cX6_breaksAt 30 = .ok (.goto 4, 3) := by decide +kernel
theorem dX6_breaksAt_33 : decode cX6_breaksAt 33 = .ok (.iconst 0, 1) := by decide +kernel
theorem dX6_breaksAt_34 : decode cX6_breaksAt 34 = .ok (.ireturn, 1) := by decide +kernel
set_option maxRecDepth 20000 in
theorem ggX6_hasBreak_X6_breaksAt : GoodIn wsX6_hasBreak wsX6_breaksAt := goodIn_r _ [7, 8, 9, 10, 11, 12, 13, 6, 14, 15, 16, 17, 18, 19, 20, 21, 22, 1, 23, 24, 25, 26, 27, 28, 29, 2, 30, 31, 32, 33, 34, 35, 36, 37, 38, 39, 40, 41, 42, 43, 44, 45, 46, 47, 48, 49, 50, 51, 52, 53, 54, 55, 56, 57, 58, 59, 60, 61, 62, 63, 64, 65, 66, 67, 68, 69, 70, 71, 72, 73, 74, 75, 76, 77, 78, 79, 80, 81, 82, 83, 84, 85, 86, 87, 88, 89, 90, 91, 92, 93, 94, 95, 96, 97, 98, 99, 100, 101, 102, 103, 104, 105, 106, 107, 108] (by decide +kernel) (by decide +kernel)
set_option maxRecDepth 20000 in
theorem gX6_hasBreak_X6_breaksAt : GoodIn wsX6_hasBreak (wsV RX6 206 RX6 yX6_breaksAt wsX6_breaksAt) := goodIn_app (goodIn_of _ (by decide +kernel)) ggX6_hasBreak_X6_breaksAt
theorem dX6_hasBreak_0 : decode cX6_hasBreak 0 = .ok (.aload_n 0, 1) := by decide +kernel
theorem dX6_hasBreak_1 : decode cX6_hasBreak 1 = .ok (.iconst (-1), 1) := by decide +kernel
theorem dX6_hasBreak_2 : decode cX6_hasBreak 2 = .ok (.iconst (-1), 1) := by decide +kernel
theorem dX6_hasBreak_3 : decode cX6_hasBreak 3 = .ok (.iload_n 2, 1) := by decide +kernel
theorem dX6_hasBreak_4 : decode cX6_hasBreak 4 = .ok (.invokevirtual 206, 3) := by decide +kernel
theorem dX6_hasBreak_7 : decode cX6_hasBreak 7 = .ok (.ifCond .eq 5, 3) := by decide +kernel
theorem dX6_hasBreak_10 : decode cX6_hasBreak 10 = .ok (.iconst 1, 1) := by decide +kernel
theorem dX6_hasBreak_11 : decode cX6_hasBreak 11 = .ok (.ireturn, 1) := by decide +kernel
theorem dX6_hasBreak_12 : decode cX6_hasBreak 12 = .ok (.iconst 0, 1) := by decide +kernel
theorem dX6_hasBreak_13 : decode cX6_hasBreak 13 = .ok (.istore_n 3, 1) := by decide +kernel
theorem dX6_hasBreak_14 : decode cX6_hasBreak 14 = .ok (.iload_n 3, 1) := by decide +kernel
theorem dX6_hasBreak_15 : decode cX6_hasBreak 15 = .ok (.aload_n 0, 1) := by decide +kernel
theorem dX6_hasBreak_16 : decode cX6_hasBreak 16 = .ok (.getfield 105, 3) := by decide +kernel
theorem dX6_hasBreak_19 : decode cX6_hasBreak 19 = .ok (.if_icmp .ge 34, 3) := by decide +kernel
theorem dX6_hasBreak_22 : decode cX6_hasBreak 22 = .ok (.iload_n 1, 1) := by decide +kernel
theorem dX6_hasBreak_23 : decode cX6_hasBreak 23 = .ok (.ifCond .le 30, 3) := by decide +kernel
theorem dX6_hasBreak_26 : decode cX6_hasBreak 26 = .ok (.aload_n 0, 1) := by decide +kernel
theorem dX6_hasBreak_27 : decode cX6_hasBreak 27 = .ok (.getfield 34, 3) := by decide +kernel
theorem dX6_hasBreak_30 : decode cX6_hasBreak 30 = .ok (.iload_n 3, 1) := by decide +kernel
theorem dX6_hasBreak_31 : decode cX6_hasBreak 31 = .ok (.baload, 1) := by decide +kernel
theorem dX6_hasBreak_32 : decode cX6_hasBreak 32 = .ok (.ifCond .ne 15, 3) := by decide +kernel
theorem dX6_hasBreak_35 : decode cX6_hasBreak 35 = .ok (.aload_n 0, 1) := by decide +kernel
theorem dX6_hasBreak_36 : decode cX6_hasBreak 36 = .ok (.iload_n 3, 1) := by decide +kernel
theorem dX6_hasBreak_37 : decode cX6_hasBreak 37 = .ok (.iconst (-1), 1) := by decide +kernel
theorem dX6_hasBreak_38 : decode cX6_hasBreak 38 = .ok (.iload_n 2, 1) := by decide +kernel
theorem dX6_hasBreak_39 : decode cX6_hasBreak 39 = .ok (.invokevirtual 206, 3) := by decide +kernel
theorem dX6_hasBreak_42 : decode cX6_hasBreak 42 = .ok (.ifCond .eq 5, 3) := by decide +kernel
theorem dX6_hasBreak_45 : decode cX6_hasBreak 45 = .ok (.iconst 1, 1) := by decide +kernel
theorem dX6_hasBreak_46 : decode cX6_hasBreak 46 = .ok (.ireturn, 1) := by decide +kernel
theorem dX6_hasBreak_47 : decode cX6_hasBreak 47 = .ok (.iinc 3 1, 3) := by decide +kernel
theorem dX6_hasBreak_50 : decode cX6_hasBreak 50 = .ok (.goto (-36), 3) := by decide +kernel
theorem dX6_hasBreak_53 : decode cX6_hasBreak 53 = .ok (.iconst 0, 1) := by decide +kernel
theorem dX6_hasBreak_54 : decode cX6_hasBreak 54 = .ok (.istore_n 3, 1) := by decide +kernel
theorem dX6_hasBreak_55 : decode cX6_hasBreak 55 = .ok (.iload_n 3, 1) := by decide +kernel
theorem dX6_hasBreak_56 : decode cX6_hasBreak 56 = .ok (.aload_n 0, 1) := by decide +kernel
theorem dX6_hasBreak_57 : decode cX6_hasBreak 57 = .ok (.getfield 105, 3) := by decide +kernel
theorem dX6_hasBreak_60 : decode cX6_hasBreak 60 = .ok (.if_icmp .ge 66, 3) := by decide +kernel
theorem dX6_hasBreak_63 : decode cX6_hasBreak 63 = .ok (.iload_n 1, 1) := by decide +kernel
theorem dX6_hasBreak_64 : decode cX6_hasBreak 64 = .ok (.iconst 1, 1) := by decide +kernel
theorem dX6_hasBreak_65 : decode cX6_hasBreak 65 = .ok (.if_icmp .le 61, 3) := by decide +kernel
theorem dX6_hasBreak_68 : decode cX6_hasBreak 68 = .ok (.iload_n 3, 1) := by decide +kernel
theorem dX6_hasBreak_69 : decode cX6_hasBreak 69 = .ok (.iconst 1, 1) := by decide +kernel
theorem dX6_hasBreak_70 : decode cX6_hasBreak 70 = .ok (.iadd, 1) := by decide +kernel
theorem dX6_hasBreak_71 : decode cX6_hasBreak 71 = .ok (.istore 4, 2) := by decide +kernel
theorem dX6_hasBreak_73 : decode cX6_hasBreak 73 = .ok (.iload 4, 2) := by decide +kernel
theorem dX6_hasBreak_75 : decode cX6_hasBreak 75 = .ok (.aload_n 0, 1) := by decide +kernel
theorem dX6_hasBreak_76 : decode cX6_hasBreak 76 = .ok (.getfield 105, 3) := by decide +kernel
theorem dX6_hasBreak_79 : decode cX6_hasBreak 79 = .ok (.if_icmp .ge 41, 3) := by decide +kernel
theorem dX6_hasBreak_82 : decode cX6_hasBreak 82 = .ok (.aload_n 0, 1) := by decide +kernel
theorem dX6_hasBreak_83 : decode cX6_hasBreak 83 = .ok (.getfield 34, 3) := by decide +kernel
theorem dX6_hasBreak_86 : decode cX6_hasBreak 86 = .ok (.iload_n 3, 1) := by decide +kernel
theorem dX6_hasBreak_87 : decode cX6_hasBreak 87 = .ok (.baload, 1) := by decide +kernel
theorem dX6_hasBreak_88 : decode cX6_hasBreak 88 = .ok (.ifCond .ne 32, 3) := by decide +kernel
theorem dX6_hasBreak_91 : decode cX6_hasBreak 91 = .ok (.aload_n 0, 1) := by decide +kernel
theorem dX6_hasBreak_92 : decode cX6_hasBreak 92 = .ok (.getfield 34, 3) := by decide +kernel
theorem dX6_hasBreak_95 : decode cX6_hasBreak 95 = .ok (.iload 4, 2) := by decide +kernel
theorem dX6_hasBreak_97 : decode cX6_hasBreak 97 = .ok (.baload, 1) := by decide +kernel
theorem dX6_hasBreak_98 : decode cX6_hasBreak 98 = .ok (.ifCond .ne 16, 3) := by decide +kernel
theorem dX6_hasBreak_101 : decode cX6_hasBreak 101 = .ok (.aload_n 0, 1) := by decide +kernel
theorem dX6_hasBreak_102 : decode cX6_hasBreak 102 = .ok (.iload_n 3, 1) := by decide +kernel
theorem dX6_hasBreak_103 : decode cX6_hasBreak 103 = .ok (.iload 4, 2) := by decide +kernel
theorem dX6_hasBreak_105 : decode cX6_hasBreak 105 = .ok (.iload_n 2, 1) := by decide +kernel
theorem dX6_hasBreak_106 : decode cX6_hasBreak 106 = .ok (.invokevirtual 206, 3) := by decide +kernel
theorem dX6_hasBreak_109 : decode cX6_hasBreak 109 = .ok (.ifCond .eq 5, 3) := by decide +kernel
theorem dX6_hasBreak_112 : decode cX6_hasBreak 112 = .ok (.iconst 1, 1) := by decide +kernel
theorem dX6_hasBreak_113 : decode cX6_hasBreak 113 = .ok (.ireturn, 1) := by decide +kernel
theorem dX6_hasBreak_114 : decode cX6_hasBreak 114 = .ok (.iinc 4 1, 3) := by decide +kernel
theorem dX6_hasBreak_117 : decode cX6_hasBreak 117 = .ok (.goto (-44), 3) := by decide +kernel
theorem dX6_hasBreak_120 : decode cX6_hasBreak 120 = .ok (.iinc 3 1, 3) := by decide +kernel
theorem dX6_hasBreak_123 : decode cX6_hasBreak 123 = .ok (.goto (-68), 3) := by decide +kernel
theorem dX6_hasBreak_126 : decode cX6_hasBreak 126 = .ok (.iconst 0, 1) := by decide +kernel
theorem dX6_hasBreak_127 : decode cX6_hasBreak 127 = .ok (.ireturn, 1) := by decide +kernel
set_option maxRecDepth 20000 in
theorem ggX6_safe_X6_in : GoodIn wsX6_safe wsX6_in := goodIn_r _ [5] (by decide +kernel) (by decide +kernel)
set_option maxRecDepth 20000 in
theorem gX6_safe_X6_in : GoodIn wsX6_safe (va_wsS RX6 97 yX6_in wsX6_in) := goodIn_app (goodIn_of _ (by decide +kernel)) ggX6_safe_X6_in
set_option maxRecDepth 20000 in
theorem ggX6_safe_X6_hasBreak : GoodIn wsX6_safe wsX6_hasBreak := goodIn_r _ [9, 10, 11, 12, 13, 14, 4, 15, 16, 17, 18, 19, 20, 21, 22, 23, 24, 25, 26, 27, 28, 29, 30, 31, 32, 33, 34, 35, 36, 37, 38, 39, 1, 40, 41, 42, 43, 44, 45, 46, 47, 48, 49, 50, 51, 52, 53, 54, 55, 56, 57, 58, 59, 60, 61, 62, 63, 64, 65, 66, 67, 68, 69, 70, 71, 72, 73, 74, 75, 76, 77, 78, 79, 80, 81, 82, 83, 84, 85, 86, 87, 88, 89, 90, 91, 92, 93, 94, 95, 96, 97, 98, 99, 100, 101, 102, 103, 104, 105, 106, 107, 108, 109, 110, 111, 112, 113, 114, 115] (by decide +kernel) (by decide +kernel)
set_option maxRecDepth 20000 in
theorem gX6_safe_X6_hasBreak : GoodIn wsX6_safe (wsV RX6 209 RX6 yX6_hasBreak wsX6_hasBreak) := goodIn_app (goodIn_of _ (by decide +kernel)) ggX6_safe_X6_hasBreak
theorem dX6_safe_0 : decode cX6_safe 0 = .ok (.iload_n 1, 1) := by decide +kernel
theorem dX6_safe_1 : decode cX6_safe 1 = .ok (.iconst 0, 1) := by decide +kernel
theorem dX6_safe_2 : decode cX6_safe 2 = .ok (.iconst 2, 1) := by decide +kernel
theorem dX6_safe_3 : decode cX6_safe 3 = .ok (.invokestatic 97, 3) := by decide +kernel
theorem dX6_safe_6 : decode cX6_safe 6 = .ok (.ifCond .eq 15, 3) := by decide +kernel
theorem dX6_safe_9 : decode cX6_safe 9 = .ok (.iload_n 2, 1) := by decide +kernel
theorem dX6_safe_10 : decode cX6_safe 10 = .ok (.iconst 0, 1) := by decide +kernel
theorem dX6_safe_11 : decode cX6_safe 11 = .ok (.aload_n 0, 1) := by decide +kernel
theorem dX6_safe_12 : decode cX6_safe 12 = .ok (.getfield 13, 3) := by decide +kernel
theorem dX6_safe_15 : decode cX6_safe 15 = .ok (.invokestatic 97, 3) := by decide +kernel
theorem dX6_safe_18 : decode cX6_safe 18 = .ok (.ifCond .ne 6, 3) := by decide +kernel
theorem dX6_safe_21 : decode cX6_safe 21 = .ok (.bipush (-2), 2) := by decide +kernel
theorem dX6_safe_23 : decode cX6_safe 23 = .ok (.ireturn, 1) := by decide +kernel
theorem dX6_safe_24 : decode cX6_safe 24 = .ok (.aload_n 0, 1) := by decide +kernel
theorem dX6_safe_25 : decode cX6_safe 25 = .ok (.iload_n 1, 1) := by decide +kernel
theorem dX6_safe_26 : decode cX6_safe 26 = .ok (.iload_n 2, 1) := by decide +kernel
theorem dX6_safe_27 : decode cX6_safe 27 = .ok (.invokevirtual 209, 3) := by decide +kernel
theorem dX6_safe_30 : decode cX6_safe 30 = .ok (.ifCond .eq 7, 3) := by decide +kernel
theorem dX6_safe_33 : decode cX6_safe 33 = .ok (.iconst 0, 1) := by decide +kernel
theorem dX6_safe_34 : decode cX6_safe 34 = .ok (.goto 4, 3) := by decide +kernel
theorem dX6_safe_37 : decode cX6_safe 37 = .ok (.iconst 1, 1) := by decide +kernel
theorem dX6_safe_38 : decode cX6_safe 38 = .ok (.ireturn, 1) := by decide +kernel
set_option maxRecDepth 20000 in
theorem ggX6_breaks_X6_in : GoodIn wsX6_breaks wsX6_in := goodIn_r _ [8] (by decide +kernel) (by decide +kernel)
set_option maxRecDepth 20000 in
theorem gX6_breaks_X6_in : GoodIn wsX6_breaks (va_wsS RX6 97 yX6_in wsX6_in) := goodIn_app (goodIn_of _ (by decide +kernel)) ggX6_breaks_X6_in
set_option maxRecDepth 20000 in
theorem ggX6_breaks_X6_hasBreak : GoodIn wsX6_breaks wsX6_hasBreak := goodIn_r _ [12, 13, 14, 15, 16, 17, 7, 18, 2, 3, 4, 19, 20, 21, 22, 23, 24, 25, 26, 27, 28, 29, 30, 31, 32, 33, 34, 35, 36, 37, 38, 39, 1, 40, 41, 42, 43, 44, 45, 46, 47, 48, 49, 50, 51, 52, 53, 54, 55, 56, 57, 58, 59, 60, 61, 62, 63, 64, 65, 66, 67, 68, 69, 70, 71, 72, 73, 74, 75, 76, 77, 78, 79, 80, 81, 82, 83, 84, 85, 86, 87, 88, 89, 90, 91, 92, 93, 94, 95, 96, 97, 98, 99, 100, 101, 102, 103, 104, 105, 106, 107, 108, 109, 110, 111, 112, 113, 114, 115] (by decide +kernel) (by decide +kernel)
set_option maxRecDepth 20000 in
theorem gX6_breaks_X6_hasBreak : GoodIn wsX6_breaks (wsV RX6 209 RX6 yX6_hasBreak wsX6_hasBreak) := goodIn_app (goodIn_of _ (by decide +kernel)) ggX6_breaks_X6_hasBreak
theorem dX6_breaks_0 : decode cX6_breaks 0 = .ok (.iload_n 3, 1) := by decide +kernel
theorem dX6_breaks_1 : decode cX6_breaks 1 = .ok (.iconst 0, 1) := by decide +kernel
theorem dX6_breaks_2 : decode cX6_breaks 2 = .ok (.iconst 2, 1) := by decide +kernel
theorem dX6_breaks_3 : decode cX6_breaks 3 = .ok (.invokestatic 97, 3) := by decide +kernel
theorem dX6_breaks_6 : decode cX6_breaks 6 = .ok (.ifCond .ne 5, 3) := by decide +kernel
theorem dX6_breaks_9 : decode cX6_breaks 9 = .ok (.iconst (-1), 1) := by decide +kernel
theorem dX6_breaks_10 : decode cX6_breaks 10 = .ok (.ireturn, 1) := by decide +kernel
theorem dX6_breaks_11 : decode cX6_breaks 11 = .ok (.iload_n 1, 1) := by decide +kernel
theorem dX6_breaks_12 : decode cX6_breaks 12 = .ok (.iconst 0, 1) := by decide +kernel
theorem dX6_breaks_13 : decode cX6_breaks 13 = .ok (.iconst 2, 1) := by decide +kernel
theorem dX6_breaks_14 : decode cX6_breaks 14 = .ok (.invokestatic 97, 3) := by decide +kernel
theorem dX6_breaks_17 : decode cX6_breaks 17 = .ok (.ifCond .eq 15, 3) := by decide +kernel
theorem dX6_breaks_20 : decode cX6_breaks 20 = .ok (.iload_n 2, 1) := by decide +kernel
theorem dX6_breaks_21 : decode cX6_breaks 21 = .ok (.iconst 0, 1) := by decide +kernel
theorem dX6_breaks_22 : decode cX6_breaks 22 = .ok (.aload_n 0, 1) := by decide +kernel
theorem dX6_breaks_23 : decode cX6_breaks 23 = .ok (.getfield 13, 3) := by decide +kernel
theorem dX6_breaks_26 : decode cX6_breaks 26 = .ok (.invokestatic 97, 3) := by decide +kernel
theorem dX6_breaks_29 : decode cX6_breaks 29 = .ok (.ifCond .ne 6, 3) := by decide +kernel
theorem dX6_breaks_32 : decode cX6_breaks 32 = .ok (.bipush (-2), 2) := by decide +kernel
theorem dX6_breaks_34 : decode cX6_breaks 34 = .ok (.ireturn, 1) := by decide +kernel
theorem dX6_breaks_35 : decode cX6_breaks 35 = .ok (.aload_n 0, 1) := by decide +kernel
theorem dX6_breaks_36 : decode cX6_breaks 36 = .ok (.iload_n 1, 1) := by decide +kernel
theorem dX6_breaks_37 : decode cX6_breaks 37 = .ok (.iload_n 2, 1) := by decide +kernel
theorem dX6_breaks_38 : decode cX6_breaks 38 = .ok (.invokevirtual 209, 3) := by decide +kernel
theorem dX6_breaks_41 : decode cX6_breaks 41 = .ok (.ifCond .ne 5, 3) := by decide +kernel
theorem dX6_breaks_44 : decode cX6_breaks 44 = .ok (.iconst (-1), 1) := by decide +kernel
theorem dX6_breaks_45 : decode cX6_breaks 45 = .ok (.ireturn, 1) := by decide +kernel
theorem dX6_breaks_46 : decode cX6_breaks 46 = .ok (.iload_n 3, 1) := by decide +kernel
theorem dX6_breaks_47 : decode cX6_breaks 47 = .ok (.ifCond .ne 10, 3) := by decide +kernel
theorem dX6_breaks_50 : decode cX6_breaks 50 = .ok (.aload_n 0, 1) := by decide +kernel
theorem dX6_breaks_51 : decode cX6_breaks 51 = .ok (.getfield 193, 3) := by decide +kernel
theorem dX6_breaks_54 : decode cX6_breaks 54 = .ok (.goto 19, 3) := by decide +kernel
theorem dX6_breaks_57 : decode cX6_breaks 57 = .ok (.iload_n 3, 1) := by decide +kernel
theorem dX6_breaks_58 : decode cX6_breaks 58 = .ok (.iconst 1, 1) := by decide +kernel
theorem dX6_breaks_59 : decode cX6_breaks 59 = .ok (.if_icmp .ne 10, 3) := by decide +kernel
theorem dX6_breaks_62 : decode cX6_breaks 62 = .ok (.aload_n 0, 1) := by decide +kernel
theorem dX6_breaks_63 : decode cX6_breaks 63 = .ok (.getfield 196, 3) := by decide +kernel
theorem dX6_breaks_66 : decode cX6_breaks 66 = .ok (.goto 7, 3) := by decide +kernel
theorem dX6_breaks_69 : decode cX6_breaks 69 = .ok (.aload_n 0, 1) := by decide +kernel
theorem dX6_breaks_70 : decode cX6_breaks 70 = .ok (.getfield 203, 3) := by decide +kernel
theorem dX6_breaks_73 : decode cX6_breaks 73 = .ok (.ireturn, 1) := by decide +kernel
set_option maxRecDepth 20000 in
theorem ggX6_count_X6_ends : GoodIn wsX6_count wsX6_ends := goodIn_r _ [9, 1, 10, 26, 27, 28, 29, 30, 31, 32, 33, 34, 35, 36, 37, 38, 39, 40, 41, 42, 43, 44, 45, 46, 47, 48, 49, 50, 51, 52, 53, 54, 55, 56] (by decide +kernel) (by decide +kernel)
set_option maxRecDepth 20000 in
theorem gX6_count_X6_ends : GoodIn wsX6_count (wsV RX6 177 RX6 yX6_ends wsX6_ends) := goodIn_app (goodIn_of _ (by decide +kernel)) ggX6_count_X6_ends
set_option maxRecDepth 20000 in
theorem ggX6_count_X6_isPassing : GoodIn wsX6_count wsX6_isPassing := goodIn_r _ [14, 15, 16, 17, 18, 19, 8, 20, 3, 21, 22, 23, 24, 2, 25, 26, 27, 28, 29, 30, 31, 32, 33, 34, 35, 36, 37, 38, 39, 40, 41, 42, 43, 44, 45, 46, 47, 48, 49, 50, 51, 52, 53, 54, 55, 56] (by decide +kernel) (by decide +kernel)
set_option maxRecDepth 20000 in
theorem gX6_count_X6_isPassing : GoodIn wsX6_count (wsV RX6 121 RX6 yX6_isPassing wsX6_isPassing) := goodIn_app (goodIn_of _ (by decide +kernel)) ggX6_count_X6_isPassing
set_option maxRecDepth 20000 in
theorem ggX6_count_X6_ins : GoodIn wsX6_count wsX6_ins := goodIn_r _ [20, 16, 3, 21, 22, 23, 8, 24, 2, 25, 26, 27, 28, 29, 30, 31, 32, 33, 34, 35, 36, 37, 38, 39, 40, 41, 42, 43, 44, 45, 46, 47, 48, 49, 50, 51, 52, 53, 54, 55, 56] (by decide +kernel) (by decide +kernel)
set_option maxRecDepth 20000 in
theorem gX6_count_X6_ins : GoodIn wsX6_count (wsV RX6 118 RX6 yX6_ins wsX6_ins) := goodIn_app (goodIn_of _ (by decide +kernel)) ggX6_count_X6_ins
theorem dX6_count_0 : decode cX6_count 0 = .ok (.iconst 0, 1) := by decide +kernel
theorem dX6_count_1 : decode cX6_count 1 = .ok (.istore_n 2, 1) := by decide +kernel
theorem dX6_count_2 : decode cX6_count 2 = .ok (.iload_n 1, 1) := by decide +kernel
theorem dX6_count_3 : decode cX6_count 3 = .ok (.tableswitch 156 0 6 #[41, 46, 51, 56, 61, 96, 130], 41) := by decide +kernel
theorem dX6_count_44 : decode cX6_count 44 = .ok (.aload_n 0, 1) := by decide +kernel
theorem dX6_count_45 : decode cX6_count 45 = .ok (.getfield 7, 3) := by decide +kernel
theorem dX6_count_48 : decode cX6_count 48 = .ok (.ireturn, 1) := by decide +kernel
theorem dX6_count_49 : decode cX6_count 49 = .ok (.aload_n 0, 1) := by decide +kernel
theorem dX6_count_50 : decode cX6_count 50 = .ok (.getfield 105, 3) := by decide +kernel
theorem dX6_count_53 : decode cX6_count 53 = .ok (.ireturn, 1) := by decide +kernel
theorem dX6_count_54 : decode cX6_count 54 = .ok (.aload_n 0, 1) := by decide +kernel
theorem dX6_count_55 : decode cX6_count 55 = .ok (.getfield 13, 3) := by decide +kernel
theorem dX6_count_58 : decode cX6_count 58 = .ok (.ireturn, 1) := by decide +kernel
theorem dX6_count_59 : decode cX6_count 59 = .ok (.aload_n 0, 1) := by decide +kernel
theorem dX6_count_60 : decode cX6_count 60 = .ok (.invokevirtual 177, 3) := by decide +kernel
theorem dX6_count_63 : decode cX6_count 63 = .ok (.ireturn, 1) := by decide +kernel
theorem dX6_count_64 : decode cX6_count 64 = .ok (.iconst 0, 1) := by decide +kernel
theorem dX6_count_65 : decode cX6_count 65 = .ok (.istore_n 3, 1) := by decide +kernel
theorem dX6_count_66 : decode cX6_count 66 = .ok (.iload_n 3, 1) := by decide +kernel
theorem dX6_count_67 : decode cX6_count 67 = .ok (.aload_n 0, 1) := by decide +kernel
theorem dX6_count_68 : decode cX6_count 68 = .ok (.getfield 105, 3) := by decide +kernel
theorem dX6_count_71 : decode cX6_count 71 = .ok (.if_icmp .ge 26, 3) := by decide +kernel
theorem dX6_count_74 : decode cX6_count 74 = .ok (.iload_n 2, 1) := by decide +kernel
theorem dX6_count_75 : decode cX6_count 75 = .ok (.aload_n 0, 1) := by decide +kernel
theorem dX6_count_76 : decode cX6_count 76 = .ok (.getfield 34, 3) := by decide +kernel
theorem dX6_count_79 : decode cX6_count 79 = .ok (.iload_n 3, 1) := by decide +kernel
theorem dX6_count_80 : decode cX6_count 80 = .ok (.baload, 1) := by decide +kernel
theorem dX6_count_81 : decode cX6_count 81 = .ok (.ifCond .eq 7, 3) := by decide +kernel
theorem dX6_count_84 : decode cX6_count 84 = .ok (.iconst 1, 1) := by decide +kernel
theorem dX6_count_85 : decode cX6_count 85 = .ok (.goto 4, 3) := by decide +kernel
theorem dX6_count_88 : decode cX6_count 88 = .ok (.iconst 0, 1) := by decide +kernel
theorem dX6_count_89 : decode cX6_count 89 = .ok (.iadd, 1) := by decide +kernel
theorem dX6_count_90 : decode cX6_count 90 = .ok (.istore_n 2, 1) := by decide +kernel
theorem dX6_count_91 : decode cX6_count 91 = .ok (.iinc 3 1, 3) := by decide +kernel
theorem dX6_count_94 : decode cX6_count 94 = .ok (.goto (-28), 3) := by decide +kernel
theorem dX6_count_97 : decode cX6_count 97 = .ok (.iload_n 2, 1) := by decide +kernel
theorem dX6_count_98 : decode cX6_count 98 = .ok (.ireturn, 1) := by decide +kernel
theorem dX6_count_99 : decode cX6_count 99 = .ok (.iconst 0, 1) := by decide +kernel
theorem dX6_count_100 : decode cX6_count 100 = .ok (.istore_n 3, 1) := by decide +kernel
theorem dX6_count_101 : decode cX6_count 101 = .ok (.iload_n 3, 1) := by decide +kernel
theorem dX6_count_102 : decode cX6_count 102 = .ok (.aload_n 0, 1) := by decide +kernel
theorem dX6_count_103 : decode cX6_count 103 = .ok (.getfield 105, 3) := by decide +kernel
theorem dX6_count_106 : decode cX6_count 106 = .ok (.if_icmp .ge 25, 3) := by decide +kernel
theorem dX6_count_109 : decode cX6_count 109 = .ok (.iload_n 2, 1) := by decide +kernel
theorem dX6_count_110 : decode cX6_count 110 = .ok (.aload_n 0, 1) := by decide +kernel
theorem dX6_count_111 : decode cX6_count 111 = .ok (.iload_n 3, 1) := by decide +kernel
theorem dX6_count_112 : decode cX6_count 112 = .ok (.invokevirtual 121, 3) := by decide +kernel
theorem dX6_count_115 : decode cX6_count 115 = .ok (.ifCond .eq 7, 3) := by decide +kernel
theorem dX6_count_118 : decode cX6_count 118 = .ok (.iconst 1, 1) := by decide +kernel
theorem dX6_count_119 : decode cX6_count 119 = .ok (.goto 4, 3) := by decide +kernel
theorem dX6_count_122 : decode cX6_count 122 = .ok (.iconst 0, 1) := by decide +kernel
theorem dX6_count_123 : decode cX6_count 123 = .ok (.iadd, 1) := by decide +kernel
theorem dX6_count_124 : decode cX6_count 124 = .ok (.istore_n 2, 1) := by decide +kernel
theorem dX6_count_125 : decode cX6_count 125 = .ok (.iinc 3 1, 3) := by decide +kernel
theorem dX6_count_128 : decode cX6_count 128 = .ok (.goto (-27), 3) := by decide +kernel
theorem dX6_count_131 : decode cX6_count 131 = .ok (.iload_n 2, 1) := by decide +kernel
theorem dX6_count_132 : decode cX6_count 132 = .ok (.ireturn, 1) := by decide +kernel
theorem dX6_count_133 : decode cX6_count 133 = .ok (.iconst 0, 1) := by decide +kernel
theorem dX6_count_134 : decode cX6_count 134 = .ok (.istore_n 3, 1) := by decide +kernel
theorem dX6_count_135 : decode cX6_count 135 = .ok (.iload_n 3, 1) := by decide +kernel
theorem dX6_count_136 : decode cX6_count 136 = .ok (.aload_n 0, 1) := by decide +kernel
theorem dX6_count_137 : decode cX6_count 137 = .ok (.getfield 105, 3) := by decide +kernel
theorem dX6_count_140 : decode cX6_count 140 = .ok (.if_icmp .ge 17, 3) := by decide +kernel
theorem dX6_count_143 : decode cX6_count 143 = .ok (.iload_n 2, 1) := by decide +kernel
theorem dX6_count_144 : decode cX6_count 144 = .ok (.aload_n 0, 1) := by decide +kernel
theorem dX6_count_145 : decode cX6_count 145 = .ok (.iload_n 3, 1) := by decide +kernel
theorem dX6_count_146 : decode cX6_count 146 = .ok (.invokevirtual 118, 3) := by decide +kernel
theorem dX6_count_149 : decode cX6_count 149 = .ok (.iadd, 1) := by decide +kernel
theorem dX6_count_150 : decode cX6_count 150 = .ok (.istore_n 2, 1) := by decide +kernel
theorem dX6_count_151 : decode cX6_count 151 = .ok (.iinc 3 1, 3) := by decide +kernel
theorem dX6_count_154 : decode cX6_count 154 = .ok (.goto (-19), 3) := by decide +kernel
theorem dX6_count_157 : decode cX6_count 157 = .ok (.iload_n 2, 1) := by decide +kernel
theorem dX6_count_158 : decode cX6_count 158 = .ok (.ireturn, 1) := by decide +kernel
theorem dX6_count_159 : decode cX6_count 159 = .ok (.iconst (-1), 1) := by decide +kernel
theorem dX6_count_160 : decode cX6_count 160 = .ok (.ireturn, 1) := by decide +kernel
theorem dJ6_bitCount_0f7a4_0 : decode cJ6_bitCount_0f7a4 0 = .ok (.iload_n 0, 1) := by decide +kernel
theorem dJ6_bitCount_0f7a4_1 : decode cJ6_bitCount_0f7a4 1 = .ok (.iload_n 0, 1) := by decide +kernel
theorem dJ6_bitCount_0f7a4_2 : decode cJ6_bitCount_0f7a4 2 = .ok (.iconst 1, 1) := by decide +kernel
theorem dJ6_bitCount_0f7a4_3 : decode cJ6_bitCount_0f7a4 3 = .ok (.iushr, 1) := by decide +kernel
theorem dJ6_bitCount_0f7a4_4 : decode cJ6_bitCount_0f7a4 4 = .ok (.ldc_w 265, 3) := by decide +kernel
theorem dJ6_bitCount_0f7a4_7 : decode cJ6_bitCount_0f7a4 7 = .ok (.iand, 1) := by decide +kernel
theorem dJ6_bitCount_0f7a4_8 : decode cJ6_bitCount_0f7a4 8 = .ok (.isub, 1) := by decide +kernel
theorem dJ6_bitCount_0f7a4_9 : decode cJ6_bitCount_0f7a4 9 = .ok (.istore_n 0, 1) := by decide +kernel
theorem dJ6_bitCount_0f7a4_10 : decode cJ6_bitCount_0f7a4 10 = .ok (.iload_n 0, 1) := by decide +kernel
theorem dJ6_bitCount_0f7a4_11 : decode cJ6_bitCount_0f7a4 11 = .ok (.ldc_w 266, 3) := by decide +kernel
theorem dJ6_bitCount_0f7a4_14 : decode cJ6_bitCount_0f7a4 14 = .ok (.iand, 1) := by decide +kernel
theorem dJ6_bitCount_0f7a4_15 : decode cJ6_bitCount_0f7a4 15 = .ok (.iload_n 0, 1) := by decide +kernel
theorem dJ6_bitCount_0f7a4_16 : decode cJ6_bitCount_0f7a4 16 = .ok (.iconst 2, 1) := by decide +kernel
theorem dJ6_bitCount_0f7a4_17 : decode cJ6_bitCount_0f7a4 17 = .ok (.iushr, 1) := by decide +kernel
theorem dJ6_bitCount_0f7a4_18 : decode cJ6_bitCount_0f7a4 18 = .ok (.ldc_w 266, 3) := by decide +kernel
theorem dJ6_bitCount_0f7a4_21 : decode cJ6_bitCount_0f7a4 21 = .ok (.iand, 1) := by decide +kernel
theorem dJ6_bitCount_0f7a4_22 : decode cJ6_bitCount_0f7a4 22 = .ok (.iadd, 1) := by decide +kernel
theorem dJ6_bitCount_0f7a4_23 : decode cJ6_bitCount_0f7a4 23 = .ok (.istore_n 0, 1) := by decide +kernel
theorem dJ6_bitCount_0f7a4_24 : decode cJ6_bitCount_0f7a4 24 = .ok (.iload_n 0, 1) := by decide +kernel
theorem dJ6_bitCount_0f7a4_25 : decode cJ6_bitCount_0f7a4 25 = .ok (.iload_n 0, 1) := by decide +kernel
theorem dJ6_bitCount_0f7a4_26 : decode cJ6_bitCount_0f7a4 26 = .ok (.iconst 4, 1) := by decide +kernel
theorem dJ6_bitCount_0f7a4_27 : decode cJ6_bitCount_0f7a4 27 = .ok (.iushr, 1) := by decide +kernel
theorem dJ6_bitCount_0f7a4_28 : decode cJ6_bitCount_0f7a4 28 = .ok (.iadd, 1) := by decide +kernel
theorem dJ6_bitCount_0f7a4_29 : decode cJ6_bitCount_0f7a4 29 = .ok (.ldc_w 267, 3) := by decide +kernel
theorem dJ6_bitCount_0f7a4_32 : decode cJ6_bitCount_0f7a4 32 = .ok (.iand, 1) := by decide +kernel
theorem dJ6_bitCount_0f7a4_33 : decode cJ6_bitCount_0f7a4 33 = .ok (.istore_n 0, 1) := by decide +kernel
theorem dJ6_bitCount_0f7a4_34 : decode cJ6_bitCount_0f7a4 34 = .ok (.iload_n 0, 1) := by decide +kernel
theorem dJ6_bitCount_0f7a4_35 : decode cJ6_bitCount_0f7a4 35 = .ok (.iload_n 0, 1) := by decide +kernel
theorem dJ6_bitCount_0f7a4_36 : decode cJ6_bitCount_0f7a4 36 = .ok (.bipush 8, 2) := by decide +kernel
theorem dJ6_bitCount_0f7a4_38 : decode cJ6_bitCount_0f7a4 38 = .ok (.iushr, 1) := by decide +kernel
theorem dJ6_bitCount_0f7a4_39 : decode cJ6_bitCount_0f7a4 39 = .ok (.iadd, 1) := by decide +kernel
theorem dJ6_bitCount_0f7a4_40 : decode cJ6_bitCount_0f7a4 40 = .ok (.istore_n 0, 1) := by decide +kernel
theorem dJ6_bitCount_0f7a4_41 : decode cJ6_bitCount_0f7a4 41 = .ok (.iload_n 0, 1) := by decide +kernel
theorem dJ6_bitCount_0f7a4_42 : decode cJ6_bitCount_0f7a4 42 = .ok (.iload_n 0, 1) := by decide +kernel
theorem dJ6_bitCount_0f7a4_43 : decode cJ6_bitCount_0f7a4 43 = .ok (.bipush 16, 2) := by decide +kernel
theorem dJ6_bitCount_0f7a4_45 : decode cJ6_bitCount_0f7a4 45 = .ok (.iushr, 1) := by decide +kernel
theorem dJ6_bitCount_0f7a4_46 : decode cJ6_bitCount_0f7a4 46 = .ok (.iadd, 1) := by decide +kernel
theorem dJ6_bitCount_0f7a4_47 : decode cJ6_bitCount_0f7a4 47 = .ok (.istore_n 0, 1) := by decide +kernel
theorem dJ6_bitCount_0f7a4_48 : decode cJ6_bitCount_0f7a4 48 = .ok (.iload_n 0, 1) := by decide +kernel
theorem dJ6_bitCount_0f7a4_49 : decode cJ6_bitCount_0f7a4 49 = .ok (.bipush 63, 2) := by decide +kernel
theorem dJ6_bitCount_0f7a4_51 : decode cJ6_bitCount_0f7a4 51 = .ok (.iand, 1) := by decide +kernel
theorem dJ6_bitCount_0f7a4_52 : decode cJ6_bitCount_0f7a4 52 = .ok (.ireturn, 1) := by decide +kernel
theorem dJ9_min_7cf53_0 : decode cJ9_min_7cf53 0 = .ok (.iload_n 0, 1) := by decide +kernel
theorem dJ9_min_7cf53_1 : decode cJ9_min_7cf53 1 = .ok (.iload_n 1, 1) := by decide +kernel
theorem dJ9_min_7cf53_2 : decode cJ9_min_7cf53 2 = .ok (.if_icmp .gt 7, 3) := by decide +kernel
theorem dJ9_min_7cf53_5 : decode cJ9_min_7cf53 5 = .ok (.iload_n 0, 1) := by decide +kernel
theorem dJ9_min_7cf53_6 : decode cJ9_min_7cf53 6 = .ok (.goto 4, 3) := by decide +kernel
theorem dJ9_min_7cf53_9 : decode cJ9_min_7cf53 9 = .ok (.iload_n 1, 1) := by decide +kernel
theorem dJ9_min_7cf53_10 : decode cJ9_min_7cf53 10 = .ok (.ireturn, 1) := by decide +kernel
theorem dJ7_rangeCheck_23922_0 : decode cJ7_rangeCheck_23922 0 = .ok (.iload_n 1, 1) := by decide +kernel
theorem dJ7_rangeCheck_23922_1 : decode cJ7_rangeCheck_23922 1 = .ok (.iload_n 2, 1) := by decide +kernel
theorem dJ7_rangeCheck_23922_2 : decode cJ7_rangeCheck_23922 2 = .ok (.if_icmp .le 44, 3) := by decide +kernel
theorem dJ7_rangeCheck_23922_5 : decode cJ7_rangeCheck_23922 5 = .ok (.new 43, 3) := by decide +kernel
theorem dJ7_rangeCheck_23922_8 : decode cJ7_rangeCheck_23922 8 = .ok (.dup, 1) := by decide +kernel
theorem dJ7_rangeCheck_23922_9 : decode cJ7_rangeCheck_23922 9 = .ok (.new 45, 3) := by decide +kernel
theorem dJ7_rangeCheck_23922_12 : decode cJ7_rangeCheck_23922 12 = .ok (.dup, 1) := by decide +kernel
theorem dJ7_rangeCheck_23922_13 : decode cJ7_rangeCheck_23922 13 = .ok (.invokespecial 47, 3) := by decide +kernel
theorem dJ7_rangeCheck_23922_16 : decode cJ7_rangeCheck_23922 16 = .ok (.ldc 48, 2) := by decide +kernel
theorem dJ7_rangeCheck_23922_18 : decode cJ7_rangeCheck_23922 18 = .ok (.invokevirtual 50, 3) := by decide +kernel
theorem dJ7_rangeCheck_23922_21 : decode cJ7_rangeCheck_23922 21 = .ok (.iload_n 1, 1) := by decide +kernel
theorem dJ7_rangeCheck_23922_22 : decode cJ7_rangeCheck_23922 22 = .ok (.invokevirtual 54, 3) := by decide +kernel
theorem dJ7_rangeCheck_23922_25 : decode cJ7_rangeCheck_23922 25 = .ok (.ldc 57, 2) := by decide +kernel
theorem dJ7_rangeCheck_23922_27 : decode cJ7_rangeCheck_23922 27 = .ok (.invokevirtual 50, 3) := by decide +kernel
theorem dJ7_rangeCheck_23922_30 : decode cJ7_rangeCheck_23922 30 = .ok (.iload_n 2, 1) := by decide +kernel
theorem dJ7_rangeCheck_23922_31 : decode cJ7_rangeCheck_23922 31 = .ok (.invokevirtual 54, 3) := by decide +kernel
theorem dJ7_rangeCheck_23922_34 : decode cJ7_rangeCheck_23922 34 = .ok (.ldc 59, 2) := by decide +kernel
theorem dJ7_rangeCheck_23922_36 : decode cJ7_rangeCheck_23922 36 = .ok (.invokevirtual 50, 3) := by decide +kernel
theorem dJ7_rangeCheck_23922_39 : decode cJ7_rangeCheck_23922 39 = .ok (.invokevirtual 61, 3) := by decide +kernel
theorem dJ7_rangeCheck_23922_42 : decode cJ7_rangeCheck_23922 42 = .ok (.invokespecial 65, 3) := by decide +kernel
theorem dJ7_rangeCheck_23922_45 : decode cJ7_rangeCheck_23922 45 = .ok (.athrow, 1) := by decide +kernel
theorem dJ7_rangeCheck_23922_46 : decode cJ7_rangeCheck_23922 46 = .ok (.iload_n 1, 1) := by decide +kernel
theorem dJ7_rangeCheck_23922_47 : decode cJ7_rangeCheck_23922 47 = .ok (.ifCond .ge 12, 3) := by decide +kernel
theorem dJ7_rangeCheck_23922_50 : decode cJ7_rangeCheck_23922 50 = .ok (.new 68, 3) := by decide +kernel
theorem dJ7_rangeCheck_23922_53 : decode cJ7_rangeCheck_23922 53 = .ok (.dup, 1) := by decide +kernel
theorem dJ7_rangeCheck_23922_54 : decode cJ7_rangeCheck_23922 54 = .ok (.iload_n 1, 1) := by decide +kernel
theorem dJ7_rangeCheck_23922_55 : decode cJ7_rangeCheck_23922 55 = .ok (.invokespecial 70, 3) := by decide +kernel
theorem dJ7_rangeCheck_23922_58 : decode cJ7_rangeCheck_23922 58 = .ok (.athrow, 1) := by decide +kernel
theorem dJ7_rangeCheck_23922_59 : decode cJ7_rangeCheck_23922 59 = .ok (.iload_n 2, 1) := by decide +kernel
theorem dJ7_rangeCheck_23922_60 : decode cJ7_rangeCheck_23922 60 = .ok (.iload_n 0, 1) := by decide +kernel
theorem dJ7_rangeCheck_23922_61 : decode cJ7_rangeCheck_23922 61 = .ok (.if_icmp .le 12, 3) := by decide +kernel
theorem dJ7_rangeCheck_23922_64 : decode cJ7_rangeCheck_23922 64 = .ok (.new 68, 3) := by decide +kernel
theorem dJ7_rangeCheck_23922_67 : decode cJ7_rangeCheck_23922 67 = .ok (.dup, 1) := by decide +kernel
theorem dJ7_rangeCheck_23922_68 : decode cJ7_rangeCheck_23922 68 = .ok (.iload_n 2, 1) := by decide +kernel
theorem dJ7_rangeCheck_23922_69 : decode cJ7_rangeCheck_23922 69 = .ok (.invokespecial 70, 3) := by decide +kernel
theorem dJ7_rangeCheck_23922_72 : decode cJ7_rangeCheck_23922 72 = .ok (.athrow, 1) := by decide +kernel
theorem dJ7_rangeCheck_23922_73 : decode cJ7_rangeCheck_23922 73 = .ok (.return_, 1) := by decide +kernel
theorem dJ7_fill_d0a16_0 : decode cJ7_fill_d0a16 0 = .ok (.iconst 0, 1) := by decide +kernel
theorem dJ7_fill_d0a16_1 : decode cJ7_fill_d0a16 1 = .ok (.istore_n 3, 1) := by decide +kernel
theorem dJ7_fill_d0a16_2 : decode cJ7_fill_d0a16 2 = .ok (.aload_n 0, 1) := by decide +kernel
theorem dJ7_fill_d0a16_3 : decode cJ7_fill_d0a16 3 = .ok (.arraylength, 1) := by decide +kernel
theorem dJ7_fill_d0a16_4 : decode cJ7_fill_d0a16 4 = .ok (.istore 4, 2) := by decide +kernel
theorem dJ7_fill_d0a16_6 : decode cJ7_fill_d0a16 6 = .ok (.iload_n 3, 1) := by decide +kernel
theorem dJ7_fill_d0a16_7 : decode cJ7_fill_d0a16 7 = .ok (.iload 4, 2) := by decide +kernel
theorem dJ7_fill_d0a16_9 : decode cJ7_fill_d0a16 9 = .ok (.if_icmp .ge 13, 3) := by decide +kernel
theorem dJ7_fill_d0a16_12 : decode cJ7_fill_d0a16 12 = .ok (.aload_n 0, 1) := by decide +kernel
theorem dJ7_fill_d0a16_13 : decode cJ7_fill_d0a16 13 = .ok (.iload_n 3, 1) := by decide +kernel
theorem dJ7_fill_d0a16_14 : decode cJ7_fill_d0a16 14 = .ok (.lload_n 1, 1) := by decide +kernel
theorem dJ7_fill_d0a16_15 : decode cJ7_fill_d0a16 15 = .ok (.lastore, 1) := by decide +kernel
theorem dJ7_fill_d0a16_16 : decode cJ7_fill_d0a16 16 = .ok (.iinc 3 1, 3) := by decide +kernel
theorem dJ7_fill_d0a16_19 : decode cJ7_fill_d0a16 19 = .ok (.goto (-13), 3) := by decide +kernel
theorem dJ7_fill_d0a16_22 : decode cJ7_fill_d0a16 22 = .ok (.return_, 1) := by decide +kernel
set_option maxRecDepth 20000 in
theorem ggJ7_fill_fda19_J7_rangeCheck_23922 : GoodIn wsJ7_fill_fda19 wsJ7_rangeCheck_23922 := goodIn_r _ [4] (by decide +kernel) (by decide +kernel)
set_option maxRecDepth 20000 in
theorem gJ7_fill_fda19_J7_rangeCheck_23922 : GoodIn wsJ7_fill_fda19 (va_wsS RJ7 13 yJ7_rangeCheck_23922 wsJ7_rangeCheck_23922) := goodIn_app (goodIn_of _ (by decide +kernel)) ggJ7_fill_fda19_J7_rangeCheck_23922
theorem dJ7_fill_fda19_0 : decode cJ7_fill_fda19 0 = .ok (.aload_n 0, 1) := by decide +kernel
theorem dJ7_fill_fda19_1 : decode cJ7_fill_fda19 1 = .ok (.arraylength, 1) := by decide +kernel
end
section
theorem dJ7_fill_fda19_2 : decode cJ7_fill_fda19 2 = .ok (.iload_n 1, 1) := by decide +kernel
theorem dJ7_fill_fda19_3 : decode cJ7_fill_fda19 3 = .ok (.iload_n 2, 1) := by decide +kernel
theorem dJ7_fill_fda19_4 : decode cJ7_fill_fda19 4 = .ok (.invokestatic 13, 3) := by decide +kernel
theorem dJ7_fill_fda19_7 : decode cJ7_fill_fda19 7 = .ok (.iload_n 1, 1) := by decide +kernel
theorem dJ7_fill_fda19_8 : decode cJ7_fill_fda19 8 = .ok (.istore 4, 2) := by decide +kernel
theorem dJ7_fill_fda19_10 : decode cJ7_fill_fda19 10 = .ok (.iload 4, 2) := by decide +kernel
theorem dJ7_fill_fda19_12 : decode cJ7_fill_fda19 12 = .ok (.iload_n 2, 1) := by decide +kernel
theorem dJ7_fill_fda19_13 : decode cJ7_fill_fda19 13 = .ok (.if_icmp .ge 14, 3) := by decide +kernel
theorem dJ7_fill_fda19_16 : decode cJ7_fill_fda19 16 = .ok (.aload_n 0, 1) := by decide +kernel
theorem dJ7_fill_fda19_17 : decode cJ7_fill_fda19 17 = .ok (.iload 4, 2) := by decide +kernel
theorem dJ7_fill_fda19_19 : decode cJ7_fill_fda19 19 = .ok (.iload_n 3, 1) := by decide +kernel
theorem dJ7_fill_fda19_20 : decode cJ7_fill_fda19 20 = .ok (.iastore, 1) := by decide +kernel
theorem dJ7_fill_fda19_21 : decode cJ7_fill_fda19 21 = .ok (.iinc 4 1, 3) := by decide +kernel
theorem dJ7_fill_fda19_24 : decode cJ7_fill_fda19 24 = .ok (.goto (-14), 3) := by decide +kernel
theorem dJ7_fill_fda19_27 : decode cJ7_fill_fda19 27 = .ok (.return_, 1) := by decide +kernel
theorem dL_law_0 : decode cL_law 0 = .ok (.new 7, 3) := by decide +kernel
theorem dL_law_3 : decode cL_law 3 = .ok (.dup, 1) := by decide +kernel
theorem dL_law_4 : decode cL_law 4 = .ok (.invokespecial 9, 3) := by decide +kernel
theorem dL_law_7 : decode cL_law 7 = .ok (.astore_n 1, 1) := by decide +kernel
theorem dL_law_8 : decode cL_law 8 = .ok (.new 10, 3) := by decide +kernel
theorem dL_law_11 : decode cL_law 11 = .ok (.dup, 1) := by decide +kernel
theorem dL_law_12 : decode cL_law 12 = .ok (.invokespecial 12, 3) := by decide +kernel
theorem dL_law_15 : decode cL_law 15 = .ok (.astore_n 2, 1) := by decide +kernel
theorem dL_law_16 : decode cL_law 16 = .ok (.iconst 0, 1) := by decide +kernel
theorem dL_law_17 : decode cL_law 17 = .ok (.istore_n 3, 1) := by decide +kernel
theorem dL_law_18 : decode cL_law 18 = .ok (.iload_n 3, 1) := by decide +kernel
theorem dL_law_19 : decode cL_law 19 = .ok (.aload_n 0, 1) := by decide +kernel
theorem dL_law_20 : decode cL_law 20 = .ok (.arraylength, 1) := by decide +kernel
theorem dL_law_21 : decode cL_law 21 = .ok (.iconst 4, 1) := by decide +kernel
theorem dL_law_22 : decode cL_law 22 = .ok (.isub, 1) := by decide +kernel
theorem dL_law_23 : decode cL_law 23 = .ok (.if_icmp .gt 1090, 3) := by decide +kernel
theorem dL_law_26 : decode cL_law 26 = .ok (.aload_n 0, 1) := by decide +kernel
theorem dL_law_27 : decode cL_law 27 = .ok (.iload_n 3, 1) := by decide +kernel
theorem dL_law_28 : decode cL_law 28 = .ok (.iaload, 1) := by decide +kernel
theorem dL_law_29 : decode cL_law 29 = .ok (.bipush 31, 2) := by decide +kernel
theorem dL_law_31 : decode cL_law 31 = .ok (.iand, 1) := by decide +kernel
theorem dL_law_32 : decode cL_law 32 = .ok (.tableswitch 1075 0 30 #[140, 153, 186, 209, 272, 305, 348, 381, 414, 477, 510, 543, 566, 589, 622, 635, 668, 692, 715, 748, 781, 824, 858, 901, 914, 927, 950, 963, 976, 1009, 1052], 140) := by decide +kernel
theorem dL_law_172 : decode cL_law 172 = .ok (.aload_n 1, 1) := by decide +kernel
theorem dL_law_173 : decode cL_law 173 = .ok (.invokevirtual 13, 3) := by decide +kernel
theorem dL_law_176 : decode cL_law 176 = .ok (.aload_n 2, 1) := by decide +kernel
theorem dL_law_177 : decode cL_law 177 = .ok (.invokevirtual 17, 3) := by decide +kernel
theorem dL_law_180 : decode cL_law 180 = .ok (.if_icmp .eq 927, 3) := by decide +kernel
theorem dL_law_183 : decode cL_law 183 = .ok (.iconst 0, 1) := by decide +kernel
theorem dL_law_184 : decode cL_law 184 = .ok (.ireturn, 1) := by decide +kernel
theorem dL_law_185 : decode cL_law 185 = .ok (.aload_n 1, 1) := by decide +kernel
theorem dL_law_186 : decode cL_law 186 = .ok (.aload_n 0, 1) := by decide +kernel
theorem dL_law_187 : decode cL_law 187 = .ok (.iload_n 3, 1) := by decide +kernel
theorem dL_law_188 : decode cL_law 188 = .ok (.iconst 1, 1) := by decide +kernel
theorem dL_law_189 : decode cL_law 189 = .ok (.iadd, 1) := by decide +kernel
theorem dL_law_190 : decode cL_law 190 = .ok (.iaload, 1) := by decide +kernel
theorem dL_law_191 : decode cL_law 191 = .ok (.aload_n 0, 1) := by decide +kernel
theorem dL_law_192 : decode cL_law 192 = .ok (.iload_n 3, 1) := by decide +kernel
theorem dL_law_193 : decode cL_law 193 = .ok (.iconst 2, 1) := by decide +kernel
theorem dL_law_194 : decode cL_law 194 = .ok (.iadd, 1) := by decide +kernel
theorem dL_law_195 : decode cL_law 195 = .ok (.iaload, 1) := by decide +kernel
theorem dL_law_196 : decode cL_law 196 = .ok (.invokevirtual 18, 3) := by decide +kernel
theorem dL_law_199 : decode cL_law 199 = .ok (.aload_n 2, 1) := by decide +kernel
theorem dL_law_200 : decode cL_law 200 = .ok (.aload_n 0, 1) := by decide +kernel
theorem dL_law_201 : decode cL_law 201 = .ok (.iload_n 3, 1) := by decide +kernel
theorem dL_law_202 : decode cL_law 202 = .ok (.iconst 1, 1) := by decide +kernel
theorem dL_law_203 : decode cL_law 203 = .ok (.iadd, 1) := by decide +kernel
theorem dL_law_204 : decode cL_law 204 = .ok (.iaload, 1) := by decide +kernel
theorem dL_law_205 : decode cL_law 205 = .ok (.aload_n 0, 1) := by decide +kernel
theorem dL_law_206 : decode cL_law 206 = .ok (.iload_n 3, 1) := by decide +kernel
theorem dL_law_207 : decode cL_law 207 = .ok (.iconst 2, 1) := by decide +kernel
theorem dL_law_208 : decode cL_law 208 = .ok (.iadd, 1) := by decide +kernel
theorem dL_law_209 : decode cL_law 209 = .ok (.iaload, 1) := by decide +kernel
theorem dL_law_210 : decode cL_law 210 = .ok (.invokevirtual 22, 3) := by decide +kernel
theorem dL_law_213 : decode cL_law 213 = .ok (.if_icmp .eq 894, 3) := by decide +kernel
theorem dL_law_216 : decode cL_law 216 = .ok (.iconst 0, 1) := by decide +kernel
theorem dL_law_217 : decode cL_law 217 = .ok (.ireturn, 1) := by decide +kernel
theorem dL_law_218 : decode cL_law 218 = .ok (.aload_n 1, 1) := by decide +kernel
theorem dL_law_219 : decode cL_law 219 = .ok (.aload_n 0, 1) := by decide +kernel
theorem dL_law_220 : decode cL_law 220 = .ok (.iload_n 3, 1) := by decide +kernel
theorem dL_law_221 : decode cL_law 221 = .ok (.iconst 1, 1) := by decide +kernel
theorem dL_law_222 : decode cL_law 222 = .ok (.iadd, 1) := by decide +kernel
theorem dL_law_223 : decode cL_law 223 = .ok (.iaload, 1) := by decide +kernel
theorem dL_law_224 : decode cL_law 224 = .ok (.invokevirtual 23, 3) := by decide +kernel
theorem dL_law_227 : decode cL_law 227 = .ok (.aload_n 2, 1) := by decide +kernel
theorem dL_law_228 : decode cL_law 228 = .ok (.aload_n 0, 1) := by decide +kernel
theorem dL_law_229 : decode cL_law 229 = .ok (.iload_n 3, 1) := by decide +kernel
theorem dL_law_230 : decode cL_law 230 = .ok (.iconst 1, 1) := by decide +kernel
theorem dL_law_231 : decode cL_law 231 = .ok (.iadd, 1) := by decide +kernel
theorem dL_law_232 : decode cL_law 232 = .ok (.iaload, 1) := by decide +kernel
theorem dL_law_233 : decode cL_law 233 = .ok (.invokevirtual 27, 3) := by decide +kernel
theorem dL_law_236 : decode cL_law 236 = .ok (.if_icmp .eq 871, 3) := by decide +kernel
theorem dL_law_239 : decode cL_law 239 = .ok (.iconst 0, 1) := by decide +kernel
theorem dL_law_240 : decode cL_law 240 = .ok (.ireturn, 1) := by decide +kernel
theorem dL_law_241 : decode cL_law 241 = .ok (.aload_n 1, 1) := by decide +kernel
theorem dL_law_242 : decode cL_law 242 = .ok (.aload_n 0, 1) := by decide +kernel
theorem dL_law_243 : decode cL_law 243 = .ok (.iload_n 3, 1) := by decide +kernel
theorem dL_law_244 : decode cL_law 244 = .ok (.iconst 1, 1) := by decide +kernel
theorem dL_law_245 : decode cL_law 245 = .ok (.iadd, 1) := by decide +kernel
theorem dL_law_246 : decode cL_law 246 = .ok (.iaload, 1) := by decide +kernel
theorem dL_law_247 : decode cL_law 247 = .ok (.aload_n 0, 1) := by decide +kernel
theorem dL_law_248 : decode cL_law 248 = .ok (.iload_n 3, 1) := by decide +kernel
theorem dL_law_249 : decode cL_law 249 = .ok (.iconst 2, 1) := by decide +kernel
theorem dL_law_250 : decode cL_law 250 = .ok (.iadd, 1) := by decide +kernel
theorem dL_law_251 : decode cL_law 251 = .ok (.iaload, 1) := by decide +kernel
theorem dL_law_252 : decode cL_law 252 = .ok (.i2l, 1) := by decide +kernel
theorem dL_law_253 : decode cL_law 253 = .ok (.bipush 32, 2) := by decide +kernel
theorem dL_law_255 : decode cL_law 255 = .ok (.lshl, 1) := by decide +kernel
theorem dL_law_256 : decode cL_law 256 = .ok (.aload_n 0, 1) := by decide +kernel
theorem dL_law_257 : decode cL_law 257 = .ok (.iload_n 3, 1) := by decide +kernel
theorem dL_law_258 : decode cL_law 258 = .ok (.iconst 3, 1) := by decide +kernel
theorem dL_law_259 : decode cL_law 259 = .ok (.iadd, 1) := by decide +kernel
theorem dL_law_260 : decode cL_law 260 = .ok (.iaload, 1) := by decide +kernel
theorem dL_law_261 : decode cL_law 261 = .ok (.i2l, 1) := by decide +kernel
theorem dL_law_262 : decode cL_law 262 = .ok (.ldc2_w 28, 3) := by decide +kernel
theorem dL_law_265 : decode cL_law 265 = .ok (.land, 1) := by decide +kernel
theorem dL_law_266 : decode cL_law 266 = .ok (.lor, 1) := by decide +kernel
theorem dL_law_267 : decode cL_law 267 = .ok (.invokevirtual 30, 3) := by decide +kernel
theorem dL_law_270 : decode cL_law 270 = .ok (.aload_n 2, 1) := by decide +kernel
theorem dL_law_271 : decode cL_law 271 = .ok (.aload_n 0, 1) := by decide +kernel
theorem dL_law_272 : decode cL_law 272 = .ok (.iload_n 3, 1) := by decide +kernel
theorem dL_law_273 : decode cL_law 273 = .ok (.iconst 1, 1) := by decide +kernel
theorem dL_law_274 : decode cL_law 274 = .ok (.iadd, 1) := by decide +kernel
theorem dL_law_275 : decode cL_law 275 = .ok (.iaload, 1) := by decide +kernel
theorem dL_law_276 : decode cL_law 276 = .ok (.aload_n 0, 1) := by decide +kernel
theorem dL_law_277 : decode cL_law 277 = .ok (.iload_n 3, 1) := by decide +kernel
theorem dL_law_278 : decode cL_law 278 = .ok (.iconst 2, 1) := by decide +kernel
theorem dL_law_279 : decode cL_law 279 = .ok (.iadd, 1) := by decide +kernel
theorem dL_law_280 : decode cL_law 280 = .ok (.iaload, 1) := by decide +kernel
theorem dL_law_281 : decode cL_law 281 = .ok (.i2l, 1) := by decide +kernel
theorem dL_law_282 : decode cL_law 282 = .ok (.bipush 32, 2) := by decide +kernel
theorem dL_law_284 : decode cL_law 284 = .ok (.lshl, 1) := by decide +kernel
theorem dL_law_285 : decode cL_law 285 = .ok (.aload_n 0, 1) := by decide +kernel
theorem dL_law_286 : decode cL_law 286 = .ok (.iload_n 3, 1) := by decide +kernel
theorem dL_law_287 : decode cL_law 287 = .ok (.iconst 3, 1) := by decide +kernel
theorem dL_law_288 : decode cL_law 288 = .ok (.iadd, 1) := by decide +kernel
theorem dL_law_289 : decode cL_law 289 = .ok (.iaload, 1) := by decide +kernel
theorem dL_law_290 : decode cL_law 290 = .ok (.i2l, 1) := by decide +kernel
theorem dL_law_291 : decode cL_law 291 = .ok (.ldc2_w 28, 3) := by decide +kernel
theorem dL_law_294 : decode cL_law 294 = .ok (.land, 1) := by decide +kernel
theorem dL_law_295 : decode cL_law 295 = .ok (.lor, 1) := by decide +kernel
theorem dL_law_296 : decode cL_law 296 = .ok (.invokevirtual 34, 3) := by decide +kernel
theorem dL_law_299 : decode cL_law 299 = .ok (.if_icmp .eq 808, 3) := by decide +kernel
theorem dL_law_302 : decode cL_law 302 = .ok (.iconst 0, 1) := by decide +kernel
theorem dL_law_303 : decode cL_law 303 = .ok (.ireturn, 1) := by decide +kernel
theorem dL_law_304 : decode cL_law 304 = .ok (.aload_n 1, 1) := by decide +kernel
theorem dL_law_305 : decode cL_law 305 = .ok (.aload_n 0, 1) := by decide +kernel
theorem dL_law_306 : decode cL_law 306 = .ok (.iload_n 3, 1) := by decide +kernel
theorem dL_law_307 : decode cL_law 307 = .ok (.iconst 1, 1) := by decide +kernel
theorem dL_law_308 : decode cL_law 308 = .ok (.iadd, 1) := by decide +kernel
theorem dL_law_309 : decode cL_law 309 = .ok (.iaload, 1) := by decide +kernel
theorem dL_law_310 : decode cL_law 310 = .ok (.aload_n 0, 1) := by decide +kernel
theorem dL_law_311 : decode cL_law 311 = .ok (.iload_n 3, 1) := by decide +kernel
theorem dL_law_312 : decode cL_law 312 = .ok (.iconst 2, 1) := by decide +kernel
theorem dL_law_313 : decode cL_law 313 = .ok (.iadd, 1) := by decide +kernel
theorem dL_law_314 : decode cL_law 314 = .ok (.iaload, 1) := by decide +kernel
theorem dL_law_315 : decode cL_law 315 = .ok (.invokevirtual 35, 3) := by decide +kernel
theorem dL_law_318 : decode cL_law 318 = .ok (.aload_n 2, 1) := by decide +kernel
theorem dL_law_319 : decode cL_law 319 = .ok (.aload_n 0, 1) := by decide +kernel
theorem dL_law_320 : decode cL_law 320 = .ok (.iload_n 3, 1) := by decide +kernel
theorem dL_law_321 : decode cL_law 321 = .ok (.iconst 1, 1) := by decide +kernel
theorem dL_law_322 : decode cL_law 322 = .ok (.iadd, 1) := by decide +kernel
theorem dL_law_323 : decode cL_law 323 = .ok (.iaload, 1) := by decide +kernel
theorem dL_law_324 : decode cL_law 324 = .ok (.aload_n 0, 1) := by decide +kernel
theorem dL_law_325 : decode cL_law 325 = .ok (.iload_n 3, 1) := by decide +kernel
theorem dL_law_326 : decode cL_law 326 = .ok (.iconst 2, 1) := by decide +kernel
theorem dL_law_327 : decode cL_law 327 = .ok (.iadd, 1) := by decide +kernel
theorem dL_law_328 : decode cL_law 328 = .ok (.iaload, 1) := by decide +kernel
theorem dL_law_329 : decode cL_law 329 = .ok (.invokevirtual 38, 3) := by decide +kernel
theorem dL_law_332 : decode cL_law 332 = .ok (.if_icmp .eq 775, 3) := by decide +kernel
theorem dL_law_335 : decode cL_law 335 = .ok (.iconst 0, 1) := by decide +kernel
theorem dL_law_336 : decode cL_law 336 = .ok (.ireturn, 1) := by decide +kernel
theorem dL_law_337 : decode cL_law 337 = .ok (.aload_n 1, 1) := by decide +kernel
theorem dL_law_338 : decode cL_law 338 = .ok (.aload_n 0, 1) := by decide +kernel
theorem dL_law_339 : decode cL_law 339 = .ok (.iload_n 3, 1) := by decide +kernel
theorem dL_law_340 : decode cL_law 340 = .ok (.iconst 1, 1) := by decide +kernel
theorem dL_law_341 : decode cL_law 341 = .ok (.iadd, 1) := by decide +kernel
theorem dL_law_342 : decode cL_law 342 = .ok (.iaload, 1) := by decide +kernel
theorem dL_law_343 : decode cL_law 343 = .ok (.aload_n 0, 1) := by decide +kernel
theorem dL_law_344 : decode cL_law 344 = .ok (.iload_n 3, 1) := by decide +kernel
theorem dL_law_345 : decode cL_law 345 = .ok (.iconst 2, 1) := by decide +kernel
theorem dL_law_346 : decode cL_law 346 = .ok (.iadd, 1) := by decide +kernel
theorem dL_law_347 : decode cL_law 347 = .ok (.iaload, 1) := by decide +kernel
theorem dL_law_348 : decode cL_law 348 = .ok (.aload_n 0, 1) := by decide +kernel
theorem dL_law_349 : decode cL_law 349 = .ok (.iload_n 3, 1) := by decide +kernel
theorem dL_law_350 : decode cL_law 350 = .ok (.iconst 3, 1) := by decide +kernel
theorem dL_law_351 : decode cL_law 351 = .ok (.iadd, 1) := by decide +kernel
theorem dL_law_352 : decode cL_law 352 = .ok (.iaload, 1) := by decide +kernel
theorem dL_law_353 : decode cL_law 353 = .ok (.invokevirtual 39, 3) := by decide +kernel
theorem dL_law_356 : decode cL_law 356 = .ok (.aload_n 2, 1) := by decide +kernel
theorem dL_law_357 : decode cL_law 357 = .ok (.aload_n 0, 1) := by decide +kernel
theorem dL_law_358 : decode cL_law 358 = .ok (.iload_n 3, 1) := by decide +kernel
theorem dL_law_359 : decode cL_law 359 = .ok (.iconst 1, 1) := by decide +kernel
theorem dL_law_360 : decode cL_law 360 = .ok (.iadd, 1) := by decide +kernel
theorem dL_law_361 : decode cL_law 361 = .ok (.iaload, 1) := by decide +kernel
theorem dL_law_362 : decode cL_law 362 = .ok (.aload_n 0, 1) := by decide +kernel
theorem dL_law_363 : decode cL_law 363 = .ok (.iload_n 3, 1) := by decide +kernel
theorem dL_law_364 : decode cL_law 364 = .ok (.iconst 2, 1) := by decide +kernel
theorem dL_law_365 : decode cL_law 365 = .ok (.iadd, 1) := by decide +kernel
theorem dL_law_366 : decode cL_law 366 = .ok (.iaload, 1) := by decide +kernel
theorem dL_law_367 : decode cL_law 367 = .ok (.aload_n 0, 1) := by decide +kernel
theorem dL_law_368 : decode cL_law 368 = .ok (.iload_n 3, 1) := by decide +kernel
theorem dL_law_369 : decode cL_law 369 = .ok (.iconst 3, 1) := by decide +kernel
theorem dL_law_370 : decode cL_law 370 = .ok (.iadd, 1) := by decide +kernel
theorem dL_law_371 : decode cL_law 371 = .ok (.iaload, 1) := by decide +kernel
theorem dL_law_372 : decode cL_law 372 = .ok (.invokevirtual 43, 3) := by decide +kernel
theorem dL_law_375 : decode cL_law 375 = .ok (.if_icmp .eq 732, 3) := by decide +kernel
theorem dL_law_378 : decode cL_law 378 = .ok (.iconst 0, 1) := by decide +kernel
theorem dL_law_379 : decode cL_law 379 = .ok (.ireturn, 1) := by decide +kernel
theorem dL_law_380 : decode cL_law 380 = .ok (.aload_n 1, 1) := by decide +kernel
theorem dL_law_381 : decode cL_law 381 = .ok (.aload_n 0, 1) := by decide +kernel
theorem dL_law_382 : decode cL_law 382 = .ok (.iload_n 3, 1) := by decide +kernel
theorem dL_law_383 : decode cL_law 383 = .ok (.iconst 1, 1) := by decide +kernel
theorem dL_law_384 : decode cL_law 384 = .ok (.iadd, 1) := by decide +kernel
theorem dL_law_385 : decode cL_law 385 = .ok (.iaload, 1) := by decide +kernel
theorem dL_law_386 : decode cL_law 386 = .ok (.aload_n 0, 1) := by decide +kernel
theorem dL_law_387 : decode cL_law 387 = .ok (.iload_n 3, 1) := by decide +kernel
theorem dL_law_388 : decode cL_law 388 = .ok (.iconst 2, 1) := by decide +kernel
theorem dL_law_389 : decode cL_law 389 = .ok (.iadd, 1) := by decide +kernel
theorem dL_law_390 : decode cL_law 390 = .ok (.iaload, 1) := by decide +kernel
theorem dL_law_391 : decode cL_law 391 = .ok (.invokevirtual 44, 3) := by decide +kernel
theorem dL_law_394 : decode cL_law 394 = .ok (.aload_n 2, 1) := by decide +kernel
theorem dL_law_395 : decode cL_law 395 = .ok (.aload_n 0, 1) := by decide +kernel
theorem dL_law_396 : decode cL_law 396 = .ok (.iload_n 3, 1) := by decide +kernel
theorem dL_law_397 : decode cL_law 397 = .ok (.iconst 1, 1) := by decide +kernel
theorem dL_law_398 : decode cL_law 398 = .ok (.iadd, 1) := by decide +kernel
theorem dL_law_399 : decode cL_law 399 = .ok (.iaload, 1) := by decide +kernel
theorem dL_law_400 : decode cL_law 400 = .ok (.aload_n 0, 1) := by decide +kernel
theorem dL_law_401 : decode cL_law 401 = .ok (.iload_n 3, 1) := by decide +kernel
theorem dL_law_402 : decode cL_law 402 = .ok (.iconst 2, 1) := by decide +kernel
theorem dL_law_403 : decode cL_law 403 = .ok (.iadd, 1) := by decide +kernel
theorem dL_law_404 : decode cL_law 404 = .ok (.iaload, 1) := by decide +kernel
theorem dL_law_405 : decode cL_law 405 = .ok (.invokevirtual 47, 3) := by decide +kernel
theorem dL_law_408 : decode cL_law 408 = .ok (.if_icmp .eq 699, 3) := by decide +kernel
theorem dL_law_411 : decode cL_law 411 = .ok (.iconst 0, 1) := by decide +kernel
theorem dL_law_412 : decode cL_law 412 = .ok (.ireturn, 1) := by decide +kernel
theorem dL_law_413 : decode cL_law 413 = .ok (.aload_n 1, 1) := by decide +kernel
theorem dL_law_414 : decode cL_law 414 = .ok (.aload_n 0, 1) := by decide +kernel
theorem dL_law_415 : decode cL_law 415 = .ok (.iload_n 3, 1) := by decide +kernel
theorem dL_law_416 : decode cL_law 416 = .ok (.iconst 1, 1) := by decide +kernel
theorem dL_law_417 : decode cL_law 417 = .ok (.iadd, 1) := by decide +kernel
theorem dL_law_418 : decode cL_law 418 = .ok (.iaload, 1) := by decide +kernel
theorem dL_law_419 : decode cL_law 419 = .ok (.aload_n 0, 1) := by decide +kernel
theorem dL_law_420 : decode cL_law 420 = .ok (.iload_n 3, 1) := by decide +kernel
theorem dL_law_421 : decode cL_law 421 = .ok (.iconst 2, 1) := by decide +kernel
theorem dL_law_422 : decode cL_law 422 = .ok (.iadd, 1) := by decide +kernel
theorem dL_law_423 : decode cL_law 423 = .ok (.iaload, 1) := by decide +kernel
theorem dL_law_424 : decode cL_law 424 = .ok (.invokevirtual 48, 3) := by decide +kernel
theorem dL_law_427 : decode cL_law 427 = .ok (.aload_n 2, 1) := by decide +kernel
theorem dL_law_428 : decode cL_law 428 = .ok (.aload_n 0, 1) := by decide +kernel
theorem dL_law_429 : decode cL_law 429 = .ok (.iload_n 3, 1) := by decide +kernel
theorem dL_law_430 : decode cL_law 430 = .ok (.iconst 1, 1) := by decide +kernel
theorem dL_law_431 : decode cL_law 431 = .ok (.iadd, 1) := by decide +kernel
theorem dL_law_432 : decode cL_law 432 = .ok (.iaload, 1) := by decide +kernel
theorem dL_law_433 : decode cL_law 433 = .ok (.aload_n 0, 1) := by decide +kernel
theorem dL_law_434 : decode cL_law 434 = .ok (.iload_n 3, 1) := by decide +kernel
theorem dL_law_435 : decode cL_law 435 = .ok (.iconst 2, 1) := by decide +kernel
theorem dL_law_436 : decode cL_law 436 = .ok (.iadd, 1) := by decide +kernel
theorem dL_law_437 : decode cL_law 437 = .ok (.iaload, 1) := by decide +kernel
theorem dL_law_438 : decode cL_law 438 = .ok (.invokevirtual 51, 3) := by decide +kernel
theorem dL_law_441 : decode cL_law 441 = .ok (.if_icmp .eq 666, 3) := by decide +kernel
theorem dL_law_444 : decode cL_law 444 = .ok (.iconst 0, 1) := by decide +kernel
theorem dL_law_445 : decode cL_law 445 = .ok (.ireturn, 1) := by decide +kernel
theorem dL_law_446 : decode cL_law 446 = .ok (.aload_n 1, 1) := by decide +kernel
theorem dL_law_447 : decode cL_law 447 = .ok (.aload_n 0, 1) := by decide +kernel
theorem dL_law_448 : decode cL_law 448 = .ok (.iload_n 3, 1) := by decide +kernel
theorem dL_law_449 : decode cL_law 449 = .ok (.iconst 1, 1) := by decide +kernel
theorem dL_law_450 : decode cL_law 450 = .ok (.iadd, 1) := by decide +kernel
theorem dL_law_451 : decode cL_law 451 = .ok (.iaload, 1) := by decide +kernel
theorem dL_law_452 : decode cL_law 452 = .ok (.aload_n 0, 1) := by decide +kernel
theorem dL_law_453 : decode cL_law 453 = .ok (.iload_n 3, 1) := by decide +kernel
theorem dL_law_454 : decode cL_law 454 = .ok (.iconst 2, 1) := by decide +kernel
theorem dL_law_455 : decode cL_law 455 = .ok (.iadd, 1) := by decide +kernel
theorem dL_law_456 : decode cL_law 456 = .ok (.iaload, 1) := by decide +kernel
theorem dL_law_457 : decode cL_law 457 = .ok (.i2l, 1) := by decide +kernel
theorem dL_law_458 : decode cL_law 458 = .ok (.bipush 32, 2) := by decide +kernel
theorem dL_law_460 : decode cL_law 460 = .ok (.lshl, 1) := by decide +kernel
theorem dL_law_461 : decode cL_law 461 = .ok (.aload_n 0, 1) := by decide +kernel
theorem dL_law_462 : decode cL_law 462 = .ok (.iload_n 3, 1) := by decide +kernel
theorem dL_law_463 : decode cL_law 463 = .ok (.iconst 3, 1) := by decide +kernel
theorem dL_law_464 : decode cL_law 464 = .ok (.iadd, 1) := by decide +kernel
theorem dL_law_465 : decode cL_law 465 = .ok (.iaload, 1) := by decide +kernel
theorem dL_law_466 : decode cL_law 466 = .ok (.i2l, 1) := by decide +kernel
theorem dL_law_467 : decode cL_law 467 = .ok (.ldc2_w 28, 3) := by decide +kernel
theorem dL_law_470 : decode cL_law 470 = .ok (.land, 1) := by decide +kernel
theorem dL_law_471 : decode cL_law 471 = .ok (.lor, 1) := by decide +kernel
theorem dL_law_472 : decode cL_law 472 = .ok (.invokevirtual 52, 3) := by decide +kernel
theorem dL_law_475 : decode cL_law 475 = .ok (.aload_n 2, 1) := by decide +kernel
theorem dL_law_476 : decode cL_law 476 = .ok (.aload_n 0, 1) := by decide +kernel
theorem dL_law_477 : decode cL_law 477 = .ok (.iload_n 3, 1) := by decide +kernel
theorem dL_law_478 : decode cL_law 478 = .ok (.iconst 1, 1) := by decide +kernel
theorem dL_law_479 : decode cL_law 479 = .ok (.iadd, 1) := by decide +kernel
theorem dL_law_480 : decode cL_law 480 = .ok (.iaload, 1) := by decide +kernel
theorem dL_law_481 : decode cL_law 481 = .ok (.aload_n 0, 1) := by decide +kernel
theorem dL_law_482 : decode cL_law 482 = .ok (.iload_n 3, 1) := by decide +kernel
theorem dL_law_483 : decode cL_law 483 = .ok (.iconst 2, 1) := by decide +kernel
theorem dL_law_484 : decode cL_law 484 = .ok (.iadd, 1) := by decide +kernel
theorem dL_law_485 : decode cL_law 485 = .ok (.iaload, 1) := by decide +kernel
theorem dL_law_486 : decode cL_law 486 = .ok (.i2l, 1) := by decide +kernel
theorem dL_law_487 : decode cL_law 487 = .ok (.bipush 32, 2) := by decide +kernel
theorem dL_law_489 : decode cL_law 489 = .ok (.lshl, 1) := by decide +kernel
theorem dL_law_490 : decode cL_law 490 = .ok (.aload_n 0, 1) := by decide +kernel
theorem dL_law_491 : decode cL_law 491 = .ok (.iload_n 3, 1) := by decide +kernel
theorem dL_law_492 : decode cL_law 492 = .ok (.iconst 3, 1) := by decide +kernel
theorem dL_law_493 : decode cL_law 493 = .ok (.iadd, 1) := by decide +kernel
theorem dL_law_494 : decode cL_law 494 = .ok (.iaload, 1) := by decide +kernel
theorem dL_law_495 : decode cL_law 495 = .ok (.i2l, 1) := by decide +kernel
theorem dL_law_496 : decode cL_law 496 = .ok (.ldc2_w 28, 3) := by decide +kernel
theorem dL_law_499 : decode cL_law 499 = .ok (.land, 1) := by decide +kernel
theorem dL_law_500 : decode cL_law 500 = .ok (.lor, 1) := by decide +kernel
theorem dL_law_501 : decode cL_law 501 = .ok (.invokevirtual 55, 3) := by decide +kernel
theorem dL_law_504 : decode cL_law 504 = .ok (.if_icmp .eq 603, 3) := by decide +kernel
theorem dL_law_507 : decode cL_law 507 = .ok (.iconst 0, 1) := by decide +kernel
theorem dL_law_508 : decode cL_law 508 = .ok (.ireturn, 1) := by decide +kernel
theorem dL_law_509 : decode cL_law 509 = .ok (.aload_n 1, 1) := by decide +kernel
theorem dL_law_510 : decode cL_law 510 = .ok (.aload_n 0, 1) := by decide +kernel
theorem dL_law_511 : decode cL_law 511 = .ok (.iload_n 3, 1) := by decide +kernel
theorem dL_law_512 : decode cL_law 512 = .ok (.iconst 1, 1) := by decide +kernel
theorem dL_law_513 : decode cL_law 513 = .ok (.iadd, 1) := by decide +kernel
theorem dL_law_514 : decode cL_law 514 = .ok (.iaload, 1) := by decide +kernel
theorem dL_law_515 : decode cL_law 515 = .ok (.aload_n 0, 1) := by decide +kernel
theorem dL_law_516 : decode cL_law 516 = .ok (.iload_n 3, 1) := by decide +kernel
theorem dL_law_517 : decode cL_law 517 = .ok (.iconst 2, 1) := by decide +kernel
theorem dL_law_518 : decode cL_law 518 = .ok (.iadd, 1) := by decide +kernel
theorem dL_law_519 : decode cL_law 519 = .ok (.iaload, 1) := by decide +kernel
theorem dL_law_520 : decode cL_law 520 = .ok (.invokevirtual 56, 3) := by decide +kernel
theorem dL_law_523 : decode cL_law 523 = .ok (.aload_n 2, 1) := by decide +kernel
theorem dL_law_524 : decode cL_law 524 = .ok (.aload_n 0, 1) := by decide +kernel
theorem dL_law_525 : decode cL_law 525 = .ok (.iload_n 3, 1) := by decide +kernel
theorem dL_law_526 : decode cL_law 526 = .ok (.iconst 1, 1) := by decide +kernel
theorem dL_law_527 : decode cL_law 527 = .ok (.iadd, 1) := by decide +kernel
theorem dL_law_528 : decode cL_law 528 = .ok (.iaload, 1) := by decide +kernel
theorem dL_law_529 : decode cL_law 529 = .ok (.aload_n 0, 1) := by decide +kernel
theorem dL_law_530 : decode cL_law 530 = .ok (.iload_n 3, 1) := by decide +kernel
theorem dL_law_531 : decode cL_law 531 = .ok (.iconst 2, 1) := by decide +kernel
theorem dL_law_532 : decode cL_law 532 = .ok (.iadd, 1) := by decide +kernel
theorem dL_law_533 : decode cL_law 533 = .ok (.iaload, 1) := by decide +kernel
theorem dL_law_534 : decode cL_law 534 = .ok (.invokevirtual 59, 3) := by decide +kernel
theorem dL_law_537 : decode cL_law 537 = .ok (.if_icmp .eq 570, 3) := by decide +kernel
theorem dL_law_540 : decode cL_law 540 = .ok (.iconst 0, 1) := by decide +kernel
theorem dL_law_541 : decode cL_law 541 = .ok (.ireturn, 1) := by decide +kernel
theorem dL_law_542 : decode cL_law 542 = .ok (.aload_n 1, 1) := by decide +kernel
theorem dL_law_543 : decode cL_law 543 = .ok (.aload_n 0, 1) := by decide +kernel
theorem dL_law_544 : decode cL_law 544 = .ok (.iload_n 3, 1) := by decide +kernel
theorem dL_law_545 : decode cL_law 545 = .ok (.iconst 1, 1) := by decide +kernel
theorem dL_law_546 : decode cL_law 546 = .ok (.iadd, 1) := by decide +kernel
theorem dL_law_547 : decode cL_law 547 = .ok (.iaload, 1) := by decide +kernel
theorem dL_law_548 : decode cL_law 548 = .ok (.aload_n 0, 1) := by decide +kernel
theorem dL_law_549 : decode cL_law 549 = .ok (.iload_n 3, 1) := by decide +kernel
theorem dL_law_550 : decode cL_law 550 = .ok (.iconst 2, 1) := by decide +kernel
theorem dL_law_551 : decode cL_law 551 = .ok (.iadd, 1) := by decide +kernel
theorem dL_law_552 : decode cL_law 552 = .ok (.iaload, 1) := by decide +kernel
theorem dL_law_553 : decode cL_law 553 = .ok (.invokevirtual 60, 3) := by decide +kernel
theorem dL_law_556 : decode cL_law 556 = .ok (.aload_n 2, 1) := by decide +kernel
theorem dL_law_557 : decode cL_law 557 = .ok (.aload_n 0, 1) := by decide +kernel
theorem dL_law_558 : decode cL_law 558 = .ok (.iload_n 3, 1) := by decide +kernel
theorem dL_law_559 : decode cL_law 559 = .ok (.iconst 1, 1) := by decide +kernel
theorem dL_law_560 : decode cL_law 560 = .ok (.iadd, 1) := by decide +kernel
theorem dL_law_561 : decode cL_law 561 = .ok (.iaload, 1) := by decide +kernel
theorem dL_law_562 : decode cL_law 562 = .ok (.aload_n 0, 1) := by decide +kernel
theorem dL_law_563 : decode cL_law 563 = .ok (.iload_n 3, 1) := by decide +kernel
theorem dL_law_564 : decode cL_law 564 = .ok (.iconst 2, 1) := by decide +kernel
theorem dL_law_565 : decode cL_law 565 = .ok (.iadd, 1) := by decide +kernel
theorem dL_law_566 : decode cL_law 566 = .ok (.iaload, 1) := by decide +kernel
theorem dL_law_567 : decode cL_law 567 = .ok (.invokevirtual 63, 3) := by decide +kernel
theorem dL_law_570 : decode cL_law 570 = .ok (.if_icmp .eq 537, 3) := by decide +kernel
theorem dL_law_573 : decode cL_law 573 = .ok (.iconst 0, 1) := by decide +kernel
theorem dL_law_574 : decode cL_law 574 = .ok (.ireturn, 1) := by decide +kernel
theorem dL_law_575 : decode cL_law 575 = .ok (.aload_n 1, 1) := by decide +kernel
theorem dL_law_576 : decode cL_law 576 = .ok (.aload_n 0, 1) := by decide +kernel
theorem dL_law_577 : decode cL_law 577 = .ok (.iload_n 3, 1) := by decide +kernel
theorem dL_law_578 : decode cL_law 578 = .ok (.iconst 1, 1) := by decide +kernel
theorem dL_law_579 : decode cL_law 579 = .ok (.iadd, 1) := by decide +kernel
theorem dL_law_580 : decode cL_law 580 = .ok (.iaload, 1) := by decide +kernel
theorem dL_law_581 : decode cL_law 581 = .ok (.invokevirtual 64, 3) := by decide +kernel
theorem dL_law_584 : decode cL_law 584 = .ok (.aload_n 2, 1) := by decide +kernel
theorem dL_law_585 : decode cL_law 585 = .ok (.aload_n 0, 1) := by decide +kernel
theorem dL_law_586 : decode cL_law 586 = .ok (.iload_n 3, 1) := by decide +kernel
theorem dL_law_587 : decode cL_law 587 = .ok (.iconst 1, 1) := by decide +kernel
theorem dL_law_588 : decode cL_law 588 = .ok (.iadd, 1) := by decide +kernel
theorem dL_law_589 : decode cL_law 589 = .ok (.iaload, 1) := by decide +kernel
theorem dL_law_590 : decode cL_law 590 = .ok (.invokevirtual 67, 3) := by decide +kernel
theorem dL_law_593 : decode cL_law 593 = .ok (.if_icmp .eq 514, 3) := by decide +kernel
theorem dL_law_596 : decode cL_law 596 = .ok (.iconst 0, 1) := by decide +kernel
theorem dL_law_597 : decode cL_law 597 = .ok (.ireturn, 1) := by decide +kernel
theorem dL_law_598 : decode cL_law 598 = .ok (.aload_n 1, 1) := by decide +kernel
theorem dL_law_599 : decode cL_law 599 = .ok (.aload_n 0, 1) := by decide +kernel
theorem dL_law_600 : decode cL_law 600 = .ok (.iload_n 3, 1) := by decide +kernel
theorem dL_law_601 : decode cL_law 601 = .ok (.iconst 1, 1) := by decide +kernel
theorem dL_law_602 : decode cL_law 602 = .ok (.iadd, 1) := by decide +kernel
theorem dL_law_603 : decode cL_law 603 = .ok (.iaload, 1) := by decide +kernel
theorem dL_law_604 : decode cL_law 604 = .ok (.invokevirtual 68, 3) := by decide +kernel
theorem dL_law_607 : decode cL_law 607 = .ok (.aload_n 2, 1) := by decide +kernel
theorem dL_law_608 : decode cL_law 608 = .ok (.aload_n 0, 1) := by decide +kernel
theorem dL_law_609 : decode cL_law 609 = .ok (.iload_n 3, 1) := by decide +kernel
theorem dL_law_610 : decode cL_law 610 = .ok (.iconst 1, 1) := by decide +kernel
theorem dL_law_611 : decode cL_law 611 = .ok (.iadd, 1) := by decide +kernel
theorem dL_law_612 : decode cL_law 612 = .ok (.iaload, 1) := by decide +kernel
theorem dL_law_613 : decode cL_law 613 = .ok (.invokevirtual 71, 3) := by decide +kernel
theorem dL_law_616 : decode cL_law 616 = .ok (.if_icmp .eq 491, 3) := by decide +kernel
theorem dL_law_619 : decode cL_law 619 = .ok (.iconst 0, 1) := by decide +kernel
theorem dL_law_620 : decode cL_law 620 = .ok (.ireturn, 1) := by decide +kernel
theorem dL_law_621 : decode cL_law 621 = .ok (.aload_n 1, 1) := by decide +kernel
theorem dL_law_622 : decode cL_law 622 = .ok (.aload_n 0, 1) := by decide +kernel
theorem dL_law_623 : decode cL_law 623 = .ok (.iload_n 3, 1) := by decide +kernel
theorem dL_law_624 : decode cL_law 624 = .ok (.iconst 1, 1) := by decide +kernel
theorem dL_law_625 : decode cL_law 625 = .ok (.iadd, 1) := by decide +kernel
theorem dL_law_626 : decode cL_law 626 = .ok (.iaload, 1) := by decide +kernel
theorem dL_law_627 : decode cL_law 627 = .ok (.aload_n 0, 1) := by decide +kernel
theorem dL_law_628 : decode cL_law 628 = .ok (.iload_n 3, 1) := by decide +kernel
theorem dL_law_629 : decode cL_law 629 = .ok (.iconst 2, 1) := by decide +kernel
theorem dL_law_630 : decode cL_law 630 = .ok (.iadd, 1) := by decide +kernel
theorem dL_law_631 : decode cL_law 631 = .ok (.iaload, 1) := by decide +kernel
theorem dL_law_632 : decode cL_law 632 = .ok (.invokevirtual 72, 3) := by decide +kernel
theorem dL_law_635 : decode cL_law 635 = .ok (.aload_n 2, 1) := by decide +kernel
theorem dL_law_636 : decode cL_law 636 = .ok (.aload_n 0, 1) := by decide +kernel
theorem dL_law_637 : decode cL_law 637 = .ok (.iload_n 3, 1) := by decide +kernel
theorem dL_law_638 : decode cL_law 638 = .ok (.iconst 1, 1) := by decide +kernel
theorem dL_law_639 : decode cL_law 639 = .ok (.iadd, 1) := by decide +kernel
theorem dL_law_640 : decode cL_law 640 = .ok (.iaload, 1) := by decide +kernel
theorem dL_law_641 : decode cL_law 641 = .ok (.aload_n 0, 1) := by decide +kernel
theorem dL_law_642 : decode cL_law 642 = .ok (.iload_n 3, 1) := by decide +kernel
theorem dL_law_643 : decode cL_law 643 = .ok (.iconst 2, 1) := by decide +kernel
theorem dL_law_644 : decode cL_law 644 = .ok (.iadd, 1) := by decide +kernel
theorem dL_law_645 : decode cL_law 645 = .ok (.iaload, 1) := by decide +kernel
theorem dL_law_646 : decode cL_law 646 = .ok (.invokevirtual 75, 3) := by decide +kernel
theorem dL_law_649 : decode cL_law 649 = .ok (.if_icmp .eq 458, 3) := by decide +kernel
theorem dL_law_652 : decode cL_law 652 = .ok (.iconst 0, 1) := by decide +kernel
theorem dL_law_653 : decode cL_law 653 = .ok (.ireturn, 1) := by decide +kernel
theorem dL_law_654 : decode cL_law 654 = .ok (.aload_n 1, 1) := by decide +kernel
theorem dL_law_655 : decode cL_law 655 = .ok (.invokevirtual 76, 3) := by decide +kernel
theorem dL_law_658 : decode cL_law 658 = .ok (.aload_n 2, 1) := by decide +kernel
theorem dL_law_659 : decode cL_law 659 = .ok (.invokevirtual 79, 3) := by decide +kernel
theorem dL_law_662 : decode cL_law 662 = .ok (.if_icmp .eq 445, 3) := by decide +kernel
theorem dL_law_665 : decode cL_law 665 = .ok (.iconst 0, 1) := by decide +kernel
theorem dL_law_666 : decode cL_law 666 = .ok (.ireturn, 1) := by decide +kernel
theorem dL_law_667 : decode cL_law 667 = .ok (.aload_n 1, 1) := by decide +kernel
theorem dL_law_668 : decode cL_law 668 = .ok (.aload_n 0, 1) := by decide +kernel
theorem dL_law_669 : decode cL_law 669 = .ok (.iload_n 3, 1) := by decide +kernel
theorem dL_law_670 : decode cL_law 670 = .ok (.iconst 1, 1) := by decide +kernel
theorem dL_law_671 : decode cL_law 671 = .ok (.iadd, 1) := by decide +kernel
theorem dL_law_672 : decode cL_law 672 = .ok (.iaload, 1) := by decide +kernel
theorem dL_law_673 : decode cL_law 673 = .ok (.aload_n 0, 1) := by decide +kernel
theorem dL_law_674 : decode cL_law 674 = .ok (.iload_n 3, 1) := by decide +kernel
theorem dL_law_675 : decode cL_law 675 = .ok (.iconst 2, 1) := by decide +kernel
theorem dL_law_676 : decode cL_law 676 = .ok (.iadd, 1) := by decide +kernel
theorem dL_law_677 : decode cL_law 677 = .ok (.iaload, 1) := by decide +kernel
theorem dL_law_678 : decode cL_law 678 = .ok (.invokevirtual 80, 3) := by decide +kernel
theorem dL_law_681 : decode cL_law 681 = .ok (.aload_n 2, 1) := by decide +kernel
theorem dL_law_682 : decode cL_law 682 = .ok (.aload_n 0, 1) := by decide +kernel
theorem dL_law_683 : decode cL_law 683 = .ok (.iload_n 3, 1) := by decide +kernel
theorem dL_law_684 : decode cL_law 684 = .ok (.iconst 1, 1) := by decide +kernel
theorem dL_law_685 : decode cL_law 685 = .ok (.iadd, 1) := by decide +kernel
theorem dL_law_686 : decode cL_law 686 = .ok (.iaload, 1) := by decide +kernel
theorem dL_law_687 : decode cL_law 687 = .ok (.aload_n 0, 1) := by decide +kernel
theorem dL_law_688 : decode cL_law 688 = .ok (.iload_n 3, 1) := by decide +kernel
theorem dL_law_689 : decode cL_law 689 = .ok (.iconst 2, 1) := by decide +kernel
theorem dL_law_690 : decode cL_law 690 = .ok (.iadd, 1) := by decide +kernel
theorem dL_law_691 : decode cL_law 691 = .ok (.iaload, 1) := by decide +kernel
theorem dL_law_692 : decode cL_law 692 = .ok (.invokevirtual 83, 3) := by decide +kernel
theorem dL_law_695 : decode cL_law 695 = .ok (.if_icmp .eq 412, 3) := by decide +kernel
theorem dL_law_698 : decode cL_law 698 = .ok (.iconst 0, 1) := by decide +kernel
theorem dL_law_699 : decode cL_law 699 = .ok (.ireturn, 1) := by decide +kernel
theorem dL_law_700 : decode cL_law 700 = .ok (.aload_n 1, 1) := by decide +kernel
theorem dL_law_701 : decode cL_law 701 = .ok (.aload_n 0, 1) := by decide +kernel
theorem dL_law_702 : decode cL_law 702 = .ok (.iload_n 3, 1) := by decide +kernel
theorem dL_law_703 : decode cL_law 703 = .ok (.iconst 1, 1) := by decide +kernel
theorem dL_law_704 : decode cL_law 704 = .ok (.iadd, 1) := by decide +kernel
theorem dL_law_705 : decode cL_law 705 = .ok (.iaload, 1) := by decide +kernel
theorem dL_law_706 : decode cL_law 706 = .ok (.invokevirtual 84, 3) := by decide +kernel
theorem dL_law_709 : decode cL_law 709 = .ok (.aload_n 2, 1) := by decide +kernel
theorem dL_law_710 : decode cL_law 710 = .ok (.aload_n 0, 1) := by decide +kernel
theorem dL_law_711 : decode cL_law 711 = .ok (.iload_n 3, 1) := by decide +kernel
theorem dL_law_712 : decode cL_law 712 = .ok (.iconst 1, 1) := by decide +kernel
theorem dL_law_713 : decode cL_law 713 = .ok (.iadd, 1) := by decide +kernel
theorem dL_law_714 : decode cL_law 714 = .ok (.iaload, 1) := by decide +kernel
theorem dL_law_715 : decode cL_law 715 = .ok (.invokevirtual 88, 3) := by decide +kernel
theorem dL_law_718 : decode cL_law 718 = .ok (.lcmp, 1) := by decide +kernel
theorem dL_law_719 : decode cL_law 719 = .ok (.ifCond .eq 388, 3) := by decide +kernel
theorem dL_law_722 : decode cL_law 722 = .ok (.iconst 0, 1) := by decide +kernel
theorem dL_law_723 : decode cL_law 723 = .ok (.ireturn, 1) := by decide +kernel
theorem dL_law_724 : decode cL_law 724 = .ok (.aload_n 1, 1) := by decide +kernel
theorem dL_law_725 : decode cL_law 725 = .ok (.aload_n 0, 1) := by decide +kernel
theorem dL_law_726 : decode cL_law 726 = .ok (.iload_n 3, 1) := by decide +kernel
theorem dL_law_727 : decode cL_law 727 = .ok (.iconst 1, 1) := by decide +kernel
theorem dL_law_728 : decode cL_law 728 = .ok (.iadd, 1) := by decide +kernel
theorem dL_law_729 : decode cL_law 729 = .ok (.iaload, 1) := by decide +kernel
theorem dL_law_730 : decode cL_law 730 = .ok (.invokevirtual 89, 3) := by decide +kernel
theorem dL_law_733 : decode cL_law 733 = .ok (.aload_n 2, 1) := by decide +kernel
theorem dL_law_734 : decode cL_law 734 = .ok (.aload_n 0, 1) := by decide +kernel
theorem dL_law_735 : decode cL_law 735 = .ok (.iload_n 3, 1) := by decide +kernel
theorem dL_law_736 : decode cL_law 736 = .ok (.iconst 1, 1) := by decide +kernel
theorem dL_law_737 : decode cL_law 737 = .ok (.iadd, 1) := by decide +kernel
theorem dL_law_738 : decode cL_law 738 = .ok (.iaload, 1) := by decide +kernel
theorem dL_law_739 : decode cL_law 739 = .ok (.invokevirtual 92, 3) := by decide +kernel
theorem dL_law_742 : decode cL_law 742 = .ok (.if_icmp .eq 365, 3) := by decide +kernel
theorem dL_law_745 : decode cL_law 745 = .ok (.iconst 0, 1) := by decide +kernel
theorem dL_law_746 : decode cL_law 746 = .ok (.ireturn, 1) := by decide +kernel
theorem dL_law_747 : decode cL_law 747 = .ok (.aload_n 1, 1) := by decide +kernel
theorem dL_law_748 : decode cL_law 748 = .ok (.aload_n 0, 1) := by decide +kernel
theorem dL_law_749 : decode cL_law 749 = .ok (.iload_n 3, 1) := by decide +kernel
theorem dL_law_750 : decode cL_law 750 = .ok (.iconst 1, 1) := by decide +kernel
theorem dL_law_751 : decode cL_law 751 = .ok (.iadd, 1) := by decide +kernel
theorem dL_law_752 : decode cL_law 752 = .ok (.iaload, 1) := by decide +kernel
theorem dL_law_753 : decode cL_law 753 = .ok (.aload_n 0, 1) := by decide +kernel
theorem dL_law_754 : decode cL_law 754 = .ok (.iload_n 3, 1) := by decide +kernel
theorem dL_law_755 : decode cL_law 755 = .ok (.iconst 2, 1) := by decide +kernel
theorem dL_law_756 : decode cL_law 756 = .ok (.iadd, 1) := by decide +kernel
theorem dL_law_757 : decode cL_law 757 = .ok (.iaload, 1) := by decide +kernel
theorem dL_law_758 : decode cL_law 758 = .ok (.invokevirtual 93, 3) := by decide +kernel
theorem dL_law_761 : decode cL_law 761 = .ok (.aload_n 2, 1) := by decide +kernel
theorem dL_law_762 : decode cL_law 762 = .ok (.aload_n 0, 1) := by decide +kernel
theorem dL_law_763 : decode cL_law 763 = .ok (.iload_n 3, 1) := by decide +kernel
theorem dL_law_764 : decode cL_law 764 = .ok (.iconst 1, 1) := by decide +kernel
theorem dL_law_765 : decode cL_law 765 = .ok (.iadd, 1) := by decide +kernel
theorem dL_law_766 : decode cL_law 766 = .ok (.iaload, 1) := by decide +kernel
theorem dL_law_767 : decode cL_law 767 = .ok (.aload_n 0, 1) := by decide +kernel
theorem dL_law_768 : decode cL_law 768 = .ok (.iload_n 3, 1) := by decide +kernel
theorem dL_law_769 : decode cL_law 769 = .ok (.iconst 2, 1) := by decide +kernel
theorem dL_law_770 : decode cL_law 770 = .ok (.iadd, 1) := by decide +kernel
theorem dL_law_771 : decode cL_law 771 = .ok (.iaload, 1) := by decide +kernel
theorem dL_law_772 : decode cL_law 772 = .ok (.invokevirtual 96, 3) := by decide +kernel
theorem dL_law_775 : decode cL_law 775 = .ok (.if_icmp .eq 332, 3) := by decide +kernel
theorem dL_law_778 : decode cL_law 778 = .ok (.iconst 0, 1) := by decide +kernel
theorem dL_law_779 : decode cL_law 779 = .ok (.ireturn, 1) := by decide +kernel
theorem dL_law_780 : decode cL_law 780 = .ok (.aload_n 1, 1) := by decide +kernel
theorem dL_law_781 : decode cL_law 781 = .ok (.aload_n 0, 1) := by decide +kernel
theorem dL_law_782 : decode cL_law 782 = .ok (.iload_n 3, 1) := by decide +kernel
theorem dL_law_783 : decode cL_law 783 = .ok (.iconst 1, 1) := by decide +kernel
theorem dL_law_784 : decode cL_law 784 = .ok (.iadd, 1) := by decide +kernel
theorem dL_law_785 : decode cL_law 785 = .ok (.iaload, 1) := by decide +kernel
theorem dL_law_786 : decode cL_law 786 = .ok (.aload_n 0, 1) := by decide +kernel
theorem dL_law_787 : decode cL_law 787 = .ok (.iload_n 3, 1) := by decide +kernel
theorem dL_law_788 : decode cL_law 788 = .ok (.iconst 2, 1) := by decide +kernel
theorem dL_law_789 : decode cL_law 789 = .ok (.iadd, 1) := by decide +kernel
theorem dL_law_790 : decode cL_law 790 = .ok (.iaload, 1) := by decide +kernel
theorem dL_law_791 : decode cL_law 791 = .ok (.invokevirtual 97, 3) := by decide +kernel
theorem dL_law_794 : decode cL_law 794 = .ok (.aload_n 2, 1) := by decide +kernel
theorem dL_law_795 : decode cL_law 795 = .ok (.aload_n 0, 1) := by decide +kernel
theorem dL_law_796 : decode cL_law 796 = .ok (.iload_n 3, 1) := by decide +kernel
theorem dL_law_797 : decode cL_law 797 = .ok (.iconst 1, 1) := by decide +kernel
theorem dL_law_798 : decode cL_law 798 = .ok (.iadd, 1) := by decide +kernel
theorem dL_law_799 : decode cL_law 799 = .ok (.iaload, 1) := by decide +kernel
theorem dL_law_800 : decode cL_law 800 = .ok (.aload_n 0, 1) := by decide +kernel
theorem dL_law_801 : decode cL_law 801 = .ok (.iload_n 3, 1) := by decide +kernel
theorem dL_law_802 : decode cL_law 802 = .ok (.iconst 2, 1) := by decide +kernel
theorem dL_law_803 : decode cL_law 803 = .ok (.iadd, 1) := by decide +kernel
theorem dL_law_804 : decode cL_law 804 = .ok (.iaload, 1) := by decide +kernel
theorem dL_law_805 : decode cL_law 805 = .ok (.invokevirtual 100, 3) := by decide +kernel
theorem dL_law_808 : decode cL_law 808 = .ok (.if_icmp .eq 299, 3) := by decide +kernel
theorem dL_law_811 : decode cL_law 811 = .ok (.iconst 0, 1) := by decide +kernel
theorem dL_law_812 : decode cL_law 812 = .ok (.ireturn, 1) := by decide +kernel
theorem dL_law_813 : decode cL_law 813 = .ok (.aload_n 1, 1) := by decide +kernel
theorem dL_law_814 : decode cL_law 814 = .ok (.aload_n 0, 1) := by decide +kernel
theorem dL_law_815 : decode cL_law 815 = .ok (.iload_n 3, 1) := by decide +kernel
theorem dL_law_816 : decode cL_law 816 = .ok (.iconst 1, 1) := by decide +kernel
theorem dL_law_817 : decode cL_law 817 = .ok (.iadd, 1) := by decide +kernel
theorem dL_law_818 : decode cL_law 818 = .ok (.iaload, 1) := by decide +kernel
theorem dL_law_819 : decode cL_law 819 = .ok (.aload_n 0, 1) := by decide +kernel
theorem dL_law_820 : decode cL_law 820 = .ok (.iload_n 3, 1) := by decide +kernel
theorem dL_law_821 : decode cL_law 821 = .ok (.iconst 2, 1) := by decide +kernel
theorem dL_law_822 : decode cL_law 822 = .ok (.iadd, 1) := by decide +kernel
theorem dL_law_823 : decode cL_law 823 = .ok (.iaload, 1) := by decide +kernel
theorem dL_law_824 : decode cL_law 824 = .ok (.aload_n 0, 1) := by decide +kernel
theorem dL_law_825 : decode cL_law 825 = .ok (.iload_n 3, 1) := by decide +kernel
theorem dL_law_826 : decode cL_law 826 = .ok (.iconst 3, 1) := by decide +kernel
theorem dL_law_827 : decode cL_law 827 = .ok (.iadd, 1) := by decide +kernel
theorem dL_law_828 : decode cL_law 828 = .ok (.iaload, 1) := by decide +kernel
theorem dL_law_829 : decode cL_law 829 = .ok (.invokevirtual 101, 3) := by decide +kernel
theorem dL_law_832 : decode cL_law 832 = .ok (.aload_n 2, 1) := by decide +kernel
theorem dL_law_833 : decode cL_law 833 = .ok (.aload_n 0, 1) := by decide +kernel
theorem dL_law_834 : decode cL_law 834 = .ok (.iload_n 3, 1) := by decide +kernel
theorem dL_law_835 : decode cL_law 835 = .ok (.iconst 1, 1) := by decide +kernel
theorem dL_law_836 : decode cL_law 836 = .ok (.iadd, 1) := by decide +kernel
theorem dL_law_837 : decode cL_law 837 = .ok (.iaload, 1) := by decide +kernel
theorem dL_law_838 : decode cL_law 838 = .ok (.aload_n 0, 1) := by decide +kernel
theorem dL_law_839 : decode cL_law 839 = .ok (.iload_n 3, 1) := by decide +kernel
theorem dL_law_840 : decode cL_law 840 = .ok (.iconst 2, 1) := by decide +kernel
theorem dL_law_841 : decode cL_law 841 = .ok (.iadd, 1) := by decide +kernel
theorem dL_law_842 : decode cL_law 842 = .ok (.iaload, 1) := by decide +kernel
theorem dL_law_843 : decode cL_law 843 = .ok (.aload_n 0, 1) := by decide +kernel
theorem dL_law_844 : decode cL_law 844 = .ok (.iload_n 3, 1) := by decide +kernel
theorem dL_law_845 : decode cL_law 845 = .ok (.iconst 3, 1) := by decide +kernel
theorem dL_law_846 : decode cL_law 846 = .ok (.iadd, 1) := by decide +kernel
theorem dL_law_847 : decode cL_law 847 = .ok (.iaload, 1) := by decide +kernel
theorem dL_law_848 : decode cL_law 848 = .ok (.invokevirtual 104, 3) := by decide +kernel
theorem dL_law_851 : decode cL_law 851 = .ok (.if_icmp .eq 256, 3) := by decide +kernel
theorem dL_law_854 : decode cL_law 854 = .ok (.iconst 0, 1) := by decide +kernel
theorem dL_law_855 : decode cL_law 855 = .ok (.ireturn, 1) := by decide +kernel
theorem dL_law_856 : decode cL_law 856 = .ok (.aload_n 1, 1) := by decide +kernel
theorem dL_law_857 : decode cL_law 857 = .ok (.aload_n 0, 1) := by decide +kernel
theorem dL_law_858 : decode cL_law 858 = .ok (.iload_n 3, 1) := by decide +kernel
theorem dL_law_859 : decode cL_law 859 = .ok (.iconst 1, 1) := by decide +kernel
theorem dL_law_860 : decode cL_law 860 = .ok (.iadd, 1) := by decide +kernel
theorem dL_law_861 : decode cL_law 861 = .ok (.iaload, 1) := by decide +kernel
theorem dL_law_862 : decode cL_law 862 = .ok (.aload_n 0, 1) := by decide +kernel
theorem dL_law_863 : decode cL_law 863 = .ok (.iload_n 3, 1) := by decide +kernel
theorem dL_law_864 : decode cL_law 864 = .ok (.iconst 2, 1) := by decide +kernel
theorem dL_law_865 : decode cL_law 865 = .ok (.iadd, 1) := by decide +kernel
theorem dL_law_866 : decode cL_law 866 = .ok (.iaload, 1) := by decide +kernel
theorem dL_law_867 : decode cL_law 867 = .ok (.invokevirtual 105, 3) := by decide +kernel
theorem dL_law_870 : decode cL_law 870 = .ok (.aload_n 2, 1) := by decide +kernel
theorem dL_law_871 : decode cL_law 871 = .ok (.aload_n 0, 1) := by decide +kernel
theorem dL_law_872 : decode cL_law 872 = .ok (.iload_n 3, 1) := by decide +kernel
theorem dL_law_873 : decode cL_law 873 = .ok (.iconst 1, 1) := by decide +kernel
theorem dL_law_874 : decode cL_law 874 = .ok (.iadd, 1) := by decide +kernel
theorem dL_law_875 : decode cL_law 875 = .ok (.iaload, 1) := by decide +kernel
theorem dL_law_876 : decode cL_law 876 = .ok (.aload_n 0, 1) := by decide +kernel
theorem dL_law_877 : decode cL_law 877 = .ok (.iload_n 3, 1) := by decide +kernel
theorem dL_law_878 : decode cL_law 878 = .ok (.iconst 2, 1) := by decide +kernel
theorem dL_law_879 : decode cL_law 879 = .ok (.iadd, 1) := by decide +kernel
theorem dL_law_880 : decode cL_law 880 = .ok (.iaload, 1) := by decide +kernel
theorem dL_law_881 : decode cL_law 881 = .ok (.invokevirtual 109, 3) := by decide +kernel
theorem dL_law_884 : decode cL_law 884 = .ok (.lcmp, 1) := by decide +kernel
theorem dL_law_885 : decode cL_law 885 = .ok (.ifCond .eq 222, 3) := by decide +kernel
theorem dL_law_888 : decode cL_law 888 = .ok (.iconst 0, 1) := by decide +kernel
theorem dL_law_889 : decode cL_law 889 = .ok (.ireturn, 1) := by decide +kernel
theorem dL_law_890 : decode cL_law 890 = .ok (.aload_n 1, 1) := by decide +kernel
theorem dL_law_891 : decode cL_law 891 = .ok (.aload_n 0, 1) := by decide +kernel
theorem dL_law_892 : decode cL_law 892 = .ok (.iload_n 3, 1) := by decide +kernel
theorem dL_law_893 : decode cL_law 893 = .ok (.iconst 1, 1) := by decide +kernel
theorem dL_law_894 : decode cL_law 894 = .ok (.iadd, 1) := by decide +kernel
theorem dL_law_895 : decode cL_law 895 = .ok (.iaload, 1) := by decide +kernel
theorem dL_law_896 : decode cL_law 896 = .ok (.aload_n 0, 1) := by decide +kernel
theorem dL_law_897 : decode cL_law 897 = .ok (.iload_n 3, 1) := by decide +kernel
theorem dL_law_898 : decode cL_law 898 = .ok (.iconst 2, 1) := by decide +kernel
theorem dL_law_899 : decode cL_law 899 = .ok (.iadd, 1) := by decide +kernel
theorem dL_law_900 : decode cL_law 900 = .ok (.iaload, 1) := by decide +kernel
theorem dL_law_901 : decode cL_law 901 = .ok (.aload_n 0, 1) := by decide +kernel
theorem dL_law_902 : decode cL_law 902 = .ok (.iload_n 3, 1) := by decide +kernel
theorem dL_law_903 : decode cL_law 903 = .ok (.iconst 3, 1) := by decide +kernel
theorem dL_law_904 : decode cL_law 904 = .ok (.iadd, 1) := by decide +kernel
theorem dL_law_905 : decode cL_law 905 = .ok (.iaload, 1) := by decide +kernel
theorem dL_law_906 : decode cL_law 906 = .ok (.invokevirtual 110, 3) := by decide +kernel
theorem dL_law_909 : decode cL_law 909 = .ok (.aload_n 2, 1) := by decide +kernel
theorem dL_law_910 : decode cL_law 910 = .ok (.aload_n 0, 1) := by decide +kernel
theorem dL_law_911 : decode cL_law 911 = .ok (.iload_n 3, 1) := by decide +kernel
theorem dL_law_912 : decode cL_law 912 = .ok (.iconst 1, 1) := by decide +kernel
theorem dL_law_913 : decode cL_law 913 = .ok (.iadd, 1) := by decide +kernel
theorem dL_law_914 : decode cL_law 914 = .ok (.iaload, 1) := by decide +kernel
theorem dL_law_915 : decode cL_law 915 = .ok (.aload_n 0, 1) := by decide +kernel
theorem dL_law_916 : decode cL_law 916 = .ok (.iload_n 3, 1) := by decide +kernel
theorem dL_law_917 : decode cL_law 917 = .ok (.iconst 2, 1) := by decide +kernel
theorem dL_law_918 : decode cL_law 918 = .ok (.iadd, 1) := by decide +kernel
theorem dL_law_919 : decode cL_law 919 = .ok (.iaload, 1) := by decide +kernel
theorem dL_law_920 : decode cL_law 920 = .ok (.aload_n 0, 1) := by decide +kernel
theorem dL_law_921 : decode cL_law 921 = .ok (.iload_n 3, 1) := by decide +kernel
theorem dL_law_922 : decode cL_law 922 = .ok (.iconst 3, 1) := by decide +kernel
theorem dL_law_923 : decode cL_law 923 = .ok (.iadd, 1) := by decide +kernel
theorem dL_law_924 : decode cL_law 924 = .ok (.iaload, 1) := by decide +kernel
theorem dL_law_925 : decode cL_law 925 = .ok (.invokevirtual 113, 3) := by decide +kernel
theorem dL_law_928 : decode cL_law 928 = .ok (.if_icmp .eq 179, 3) := by decide +kernel
theorem dL_law_931 : decode cL_law 931 = .ok (.iconst 0, 1) := by decide +kernel
theorem dL_law_932 : decode cL_law 932 = .ok (.ireturn, 1) := by decide +kernel
theorem dL_law_933 : decode cL_law 933 = .ok (.aload_n 1, 1) := by decide +kernel
theorem dL_law_934 : decode cL_law 934 = .ok (.invokevirtual 114, 3) := by decide +kernel
theorem dL_law_937 : decode cL_law 937 = .ok (.aload_n 2, 1) := by decide +kernel
theorem dL_law_938 : decode cL_law 938 = .ok (.invokevirtual 117, 3) := by decide +kernel
theorem dL_law_941 : decode cL_law 941 = .ok (.if_icmp .eq 166, 3) := by decide +kernel
theorem dL_law_944 : decode cL_law 944 = .ok (.iconst 0, 1) := by decide +kernel
theorem dL_law_945 : decode cL_law 945 = .ok (.ireturn, 1) := by decide +kernel
theorem dL_law_946 : decode cL_law 946 = .ok (.aload_n 1, 1) := by decide +kernel
theorem dL_law_947 : decode cL_law 947 = .ok (.invokevirtual 118, 3) := by decide +kernel
theorem dL_law_950 : decode cL_law 950 = .ok (.aload_n 2, 1) := by decide +kernel
theorem dL_law_951 : decode cL_law 951 = .ok (.invokevirtual 121, 3) := by decide +kernel
theorem dL_law_954 : decode cL_law 954 = .ok (.if_icmp .eq 153, 3) := by decide +kernel
theorem dL_law_957 : decode cL_law 957 = .ok (.iconst 0, 1) := by decide +kernel
theorem dL_law_958 : decode cL_law 958 = .ok (.ireturn, 1) := by decide +kernel
theorem dL_law_959 : decode cL_law 959 = .ok (.aload_n 1, 1) := by decide +kernel
theorem dL_law_960 : decode cL_law 960 = .ok (.aload_n 0, 1) := by decide +kernel
theorem dL_law_961 : decode cL_law 961 = .ok (.iload_n 3, 1) := by decide +kernel
theorem dL_law_962 : decode cL_law 962 = .ok (.iconst 1, 1) := by decide +kernel
theorem dL_law_963 : decode cL_law 963 = .ok (.iadd, 1) := by decide +kernel
theorem dL_law_964 : decode cL_law 964 = .ok (.iaload, 1) := by decide +kernel
theorem dL_law_965 : decode cL_law 965 = .ok (.invokevirtual 122, 3) := by decide +kernel
theorem dL_law_968 : decode cL_law 968 = .ok (.aload_n 2, 1) := by decide +kernel
theorem dL_law_969 : decode cL_law 969 = .ok (.aload_n 0, 1) := by decide +kernel
theorem dL_law_970 : decode cL_law 970 = .ok (.iload_n 3, 1) := by decide +kernel
theorem dL_law_971 : decode cL_law 971 = .ok (.iconst 1, 1) := by decide +kernel
theorem dL_law_972 : decode cL_law 972 = .ok (.iadd, 1) := by decide +kernel
theorem dL_law_973 : decode cL_law 973 = .ok (.iaload, 1) := by decide +kernel
theorem dL_law_974 : decode cL_law 974 = .ok (.invokevirtual 125, 3) := by decide +kernel
theorem dL_law_977 : decode cL_law 977 = .ok (.if_icmp .eq 130, 3) := by decide +kernel
theorem dL_law_980 : decode cL_law 980 = .ok (.iconst 0, 1) := by decide +kernel
theorem dL_law_981 : decode cL_law 981 = .ok (.ireturn, 1) := by decide +kernel
theorem dL_law_982 : decode cL_law 982 = .ok (.aload_n 1, 1) := by decide +kernel
theorem dL_law_983 : decode cL_law 983 = .ok (.invokevirtual 126, 3) := by decide +kernel
theorem dL_law_986 : decode cL_law 986 = .ok (.aload_n 2, 1) := by decide +kernel
theorem dL_law_987 : decode cL_law 987 = .ok (.invokevirtual 129, 3) := by decide +kernel
theorem dL_law_990 : decode cL_law 990 = .ok (.if_icmp .eq 117, 3) := by decide +kernel
theorem dL_law_993 : decode cL_law 993 = .ok (.iconst 0, 1) := by decide +kernel
theorem dL_law_994 : decode cL_law 994 = .ok (.ireturn, 1) := by decide +kernel
theorem dL_law_995 : decode cL_law 995 = .ok (.aload_n 1, 1) := by decide +kernel
theorem dL_law_996 : decode cL_law 996 = .ok (.invokevirtual 130, 3) := by decide +kernel
theorem dL_law_999 : decode cL_law 999 = .ok (.aload_n 2, 1) := by decide +kernel
theorem dL_law_1000 : decode cL_law 1000 = .ok (.invokevirtual 133, 3) := by decide +kernel
theorem dL_law_1003 : decode cL_law 1003 = .ok (.if_icmp .eq 104, 3) := by decide +kernel
theorem dL_law_1006 : decode cL_law 1006 = .ok (.iconst 0, 1) := by decide +kernel
theorem dL_law_1007 : decode cL_law 1007 = .ok (.ireturn, 1) := by decide +kernel
theorem dL_law_1008 : decode cL_law 1008 = .ok (.aload_n 1, 1) := by decide +kernel
theorem dL_law_1009 : decode cL_law 1009 = .ok (.aload_n 0, 1) := by decide +kernel
theorem dL_law_1010 : decode cL_law 1010 = .ok (.iload_n 3, 1) := by decide +kernel
theorem dL_law_1011 : decode cL_law 1011 = .ok (.iconst 1, 1) := by decide +kernel
theorem dL_law_1012 : decode cL_law 1012 = .ok (.iadd, 1) := by decide +kernel
theorem dL_law_1013 : decode cL_law 1013 = .ok (.iaload, 1) := by decide +kernel
theorem dL_law_1014 : decode cL_law 1014 = .ok (.aload_n 0, 1) := by decide +kernel
end
section
theorem dL_law_1015 : decode cL_law 1015 = .ok (.iload_n 3, 1) := by decide +kernel
theorem dL_law_1016 : decode cL_law 1016 = .ok (.iconst 2, 1) := by decide +kernel
theorem dL_law_1017 : decode cL_law 1017 = .ok (.iadd, 1) := by decide +kernel
theorem dL_law_1018 : decode cL_law 1018 = .ok (.iaload, 1) := by decide +kernel
theorem dL_law_1019 : decode cL_law 1019 = .ok (.invokevirtual 134, 3) := by decide +kernel
theorem dL_law_1022 : decode cL_law 1022 = .ok (.aload_n 2, 1) := by decide +kernel
theorem dL_law_1023 : decode cL_law 1023 = .ok (.aload_n 0, 1) := by decide +kernel
theorem dL_law_1024 : decode cL_law 1024 = .ok (.iload_n 3, 1) := by decide +kernel
theorem dL_law_1025 : decode cL_law 1025 = .ok (.iconst 1, 1) := by decide +kernel
theorem dL_law_1026 : decode cL_law 1026 = .ok (.iadd, 1) := by decide +kernel
theorem dL_law_1027 : decode cL_law 1027 = .ok (.iaload, 1) := by decide +kernel
theorem dL_law_1028 : decode cL_law 1028 = .ok (.aload_n 0, 1) := by decide +kernel
theorem dL_law_1029 : decode cL_law 1029 = .ok (.iload_n 3, 1) := by decide +kernel
theorem dL_law_1030 : decode cL_law 1030 = .ok (.iconst 2, 1) := by decide +kernel
theorem dL_law_1031 : decode cL_law 1031 = .ok (.iadd, 1) := by decide +kernel
theorem dL_law_1032 : decode cL_law 1032 = .ok (.iaload, 1) := by decide +kernel
theorem dL_law_1033 : decode cL_law 1033 = .ok (.invokevirtual 137, 3) := by decide +kernel
theorem dL_law_1036 : decode cL_law 1036 = .ok (.if_icmp .eq 71, 3) := by decide +kernel
theorem dL_law_1039 : decode cL_law 1039 = .ok (.iconst 0, 1) := by decide +kernel
theorem dL_law_1040 : decode cL_law 1040 = .ok (.ireturn, 1) := by decide +kernel
theorem dL_law_1041 : decode cL_law 1041 = .ok (.aload_n 1, 1) := by decide +kernel
theorem dL_law_1042 : decode cL_law 1042 = .ok (.aload_n 0, 1) := by decide +kernel
theorem dL_law_1043 : decode cL_law 1043 = .ok (.iload_n 3, 1) := by decide +kernel
theorem dL_law_1044 : decode cL_law 1044 = .ok (.iconst 1, 1) := by decide +kernel
theorem dL_law_1045 : decode cL_law 1045 = .ok (.iadd, 1) := by decide +kernel
theorem dL_law_1046 : decode cL_law 1046 = .ok (.iaload, 1) := by decide +kernel
theorem dL_law_1047 : decode cL_law 1047 = .ok (.aload_n 0, 1) := by decide +kernel
theorem dL_law_1048 : decode cL_law 1048 = .ok (.iload_n 3, 1) := by decide +kernel
theorem dL_law_1049 : decode cL_law 1049 = .ok (.iconst 2, 1) := by decide +kernel
theorem dL_law_1050 : decode cL_law 1050 = .ok (.iadd, 1) := by decide +kernel
theorem dL_law_1051 : decode cL_law 1051 = .ok (.iaload, 1) := by decide +kernel
theorem dL_law_1052 : decode cL_law 1052 = .ok (.aload_n 0, 1) := by decide +kernel
theorem dL_law_1053 : decode cL_law 1053 = .ok (.iload_n 3, 1) := by decide +kernel
theorem dL_law_1054 : decode cL_law 1054 = .ok (.iconst 3, 1) := by decide +kernel
theorem dL_law_1055 : decode cL_law 1055 = .ok (.iadd, 1) := by decide +kernel
theorem dL_law_1056 : decode cL_law 1056 = .ok (.iaload, 1) := by decide +kernel
theorem dL_law_1057 : decode cL_law 1057 = .ok (.invokevirtual 138, 3) := by decide +kernel
theorem dL_law_1060 : decode cL_law 1060 = .ok (.aload_n 2, 1) := by decide +kernel
theorem dL_law_1061 : decode cL_law 1061 = .ok (.aload_n 0, 1) := by decide +kernel
theorem dL_law_1062 : decode cL_law 1062 = .ok (.iload_n 3, 1) := by decide +kernel
theorem dL_law_1063 : decode cL_law 1063 = .ok (.iconst 1, 1) := by decide +kernel
theorem dL_law_1064 : decode cL_law 1064 = .ok (.iadd, 1) := by decide +kernel
theorem dL_law_1065 : decode cL_law 1065 = .ok (.iaload, 1) := by decide +kernel
theorem dL_law_1066 : decode cL_law 1066 = .ok (.aload_n 0, 1) := by decide +kernel
theorem dL_law_1067 : decode cL_law 1067 = .ok (.iload_n 3, 1) := by decide +kernel
theorem dL_law_1068 : decode cL_law 1068 = .ok (.iconst 2, 1) := by decide +kernel
theorem dL_law_1069 : decode cL_law 1069 = .ok (.iadd, 1) := by decide +kernel
theorem dL_law_1070 : decode cL_law 1070 = .ok (.iaload, 1) := by decide +kernel
theorem dL_law_1071 : decode cL_law 1071 = .ok (.aload_n 0, 1) := by decide +kernel
theorem dL_law_1072 : decode cL_law 1072 = .ok (.iload_n 3, 1) := by decide +kernel
theorem dL_law_1073 : decode cL_law 1073 = .ok (.iconst 3, 1) := by decide +kernel
theorem dL_law_1074 : decode cL_law 1074 = .ok (.iadd, 1) := by decide +kernel
theorem dL_law_1075 : decode cL_law 1075 = .ok (.iaload, 1) := by decide +kernel
theorem dL_law_1076 : decode cL_law 1076 = .ok (.invokevirtual 141, 3) := by decide +kernel
theorem dL_law_1079 : decode cL_law 1079 = .ok (.if_icmp .eq 28, 3) := by decide +kernel
theorem dL_law_1082 : decode cL_law 1082 = .ok (.iconst 0, 1) := by decide +kernel
theorem dL_law_1083 : decode cL_law 1083 = .ok (.ireturn, 1) := by decide +kernel
theorem dL_law_1084 : decode cL_law 1084 = .ok (.aload_n 1, 1) := by decide +kernel
theorem dL_law_1085 : decode cL_law 1085 = .ok (.aload_n 0, 1) := by decide +kernel
theorem dL_law_1086 : decode cL_law 1086 = .ok (.iload_n 3, 1) := by decide +kernel
theorem dL_law_1087 : decode cL_law 1087 = .ok (.iconst 1, 1) := by decide +kernel
theorem dL_law_1088 : decode cL_law 1088 = .ok (.iadd, 1) := by decide +kernel
theorem dL_law_1089 : decode cL_law 1089 = .ok (.iaload, 1) := by decide +kernel
theorem dL_law_1090 : decode cL_law 1090 = .ok (.invokevirtual 142, 3) := by decide +kernel
theorem dL_law_1093 : decode cL_law 1093 = .ok (.aload_n 2, 1) := by decide +kernel
theorem dL_law_1094 : decode cL_law 1094 = .ok (.aload_n 0, 1) := by decide +kernel
theorem dL_law_1095 : decode cL_law 1095 = .ok (.iload_n 3, 1) := by decide +kernel
theorem dL_law_1096 : decode cL_law 1096 = .ok (.iconst 1, 1) := by decide +kernel
theorem dL_law_1097 : decode cL_law 1097 = .ok (.iadd, 1) := by decide +kernel
theorem dL_law_1098 : decode cL_law 1098 = .ok (.iaload, 1) := by decide +kernel
theorem dL_law_1099 : decode cL_law 1099 = .ok (.invokevirtual 145, 3) := by decide +kernel
theorem dL_law_1102 : decode cL_law 1102 = .ok (.if_icmp .eq 5, 3) := by decide +kernel
theorem dL_law_1105 : decode cL_law 1105 = .ok (.iconst 0, 1) := by decide +kernel
theorem dL_law_1106 : decode cL_law 1106 = .ok (.ireturn, 1) := by decide +kernel
theorem dL_law_1107 : decode cL_law 1107 = .ok (.iinc 3 4, 3) := by decide +kernel
theorem dL_law_1110 : decode cL_law 1110 = .ok (.goto (-1092), 3) := by decide +kernel
theorem dL_law_1113 : decode cL_law 1113 = .ok (.iconst 1, 1) := by decide +kernel
theorem dL_law_1114 : decode cL_law 1114 = .ok (.ireturn, 1) := by decide +kernel
abbrev vwCl : List vw_C := [(RX0, TX0, 5), (RX1, TX1, 4), (RX2, TX2, 16), (RX3, TX3, 4), (RX4, TX4, 4), (RX5, TX5, 5), (RX6, TX6, 31)]
end
