-- ===== PART A: goes FIRST, ahead of the names: the tables' words, and 'selects' of the private methods out of them =====
/-- a private method of a class that the tables say can be made, by its rows of tables_1 -/
def lw_okq (q : MethodName × Nat) : Prop := (q.1.cls ≠ "java/lang/invoke/MethodHandle" ∧ q.1.cls ≠ "java/lang/invoke/VarHandle") ∧ Cond.instantiable q.1.cls q.2 ∈ tables_1 ∧ Cond.privateMethod q.1 ∈ tables_1 ∧ Cond.instanceMethod q.1 ∈ tables_1
theorem lw_p0 : lw_okq (⟨"NoonSquare$Tokens", "skipBlanks", "()V"⟩, 7) := ⟨⟨by decide +kernel, by decide +kernel⟩, List.mem_of_getElem? (i := 230) (by decide +kernel), List.mem_of_getElem? (i := 613) (by decide +kernel), List.mem_of_getElem? (i := 614) (by decide +kernel)⟩
theorem lw_p1 : lw_okq (⟨"NoonSquare$Tokens", "readWord", "()V"⟩, 7) := ⟨⟨by decide +kernel, by decide +kernel⟩, List.mem_of_getElem? (i := 230) (by decide +kernel), List.mem_of_getElem? (i := 621) (by decide +kernel), List.mem_of_getElem? (i := 622) (by decide +kernel)⟩
theorem lw_p2 : lw_okq (⟨"NoonSquare$Tokens", "readNumber", "()V"⟩, 7) := ⟨⟨by decide +kernel, by decide +kernel⟩, List.mem_of_getElem? (i := 230) (by decide +kernel), List.mem_of_getElem? (i := 628) (by decide +kernel), List.mem_of_getElem? (i := 629) (by decide +kernel)⟩
theorem lw_p3 : lw_okq (⟨"NoonSquare$Reader", "line", "()Z"⟩, 9) := ⟨⟨by decide +kernel, by decide +kernel⟩, List.mem_of_getElem? (i := 224) (by decide +kernel), List.mem_of_getElem? (i := 635) (by decide +kernel), List.mem_of_getElem? (i := 636) (by decide +kernel)⟩
theorem lw_p4 : lw_okq (⟨"NoonSquare$Reader", "refuse", "(I)Z"⟩, 9) := ⟨⟨by decide +kernel, by decide +kernel⟩, List.mem_of_getElem? (i := 224) (by decide +kernel), List.mem_of_getElem? (i := 639) (by decide +kernel), List.mem_of_getElem? (i := 640) (by decide +kernel)⟩
theorem lw_p5 : lw_okq (⟨"NoonSquare$Reader", "placeLine", "()Z"⟩, 9) := ⟨⟨by decide +kernel, by decide +kernel⟩, List.mem_of_getElem? (i := 224) (by decide +kernel), List.mem_of_getElem? (i := 643) (by decide +kernel), List.mem_of_getElem? (i := 644) (by decide +kernel)⟩
theorem lw_p6 : lw_okq (⟨"NoonSquare$Reader", "newName", "([JI)Z"⟩, 9) := ⟨⟨by decide +kernel, by decide +kernel⟩, List.mem_of_getElem? (i := 224) (by decide +kernel), List.mem_of_getElem? (i := 648) (by decide +kernel), List.mem_of_getElem? (i := 649) (by decide +kernel)⟩
theorem lw_p7 : lw_okq (⟨"NoonSquare$Reader", "number", "([IIIII)Z"⟩, 9) := ⟨⟨by decide +kernel, by decide +kernel⟩, List.mem_of_getElem? (i := 224) (by decide +kernel), List.mem_of_getElem? (i := 652) (by decide +kernel), List.mem_of_getElem? (i := 653) (by decide +kernel)⟩
theorem lw_p8 : lw_okq (⟨"NoonSquare$Reader", "sign", "(I)Z"⟩, 9) := ⟨⟨by decide +kernel, by decide +kernel⟩, List.mem_of_getElem? (i := 224) (by decide +kernel), List.mem_of_getElem? (i := 660) (by decide +kernel), List.mem_of_getElem? (i := 661) (by decide +kernel)⟩
theorem lw_p9 : lw_okq (⟨"NoonSquare$Reader", "roadLine", "()Z"⟩, 9) := ⟨⟨by decide +kernel, by decide +kernel⟩, List.mem_of_getElem? (i := 224) (by decide +kernel), List.mem_of_getElem? (i := 668) (by decide +kernel), List.mem_of_getElem? (i := 669) (by decide +kernel)⟩
theorem lw_p10 : lw_okq (⟨"NoonSquare$Reader", "placeHere", "()I"⟩, 9) := ⟨⟨by decide +kernel, by decide +kernel⟩, List.mem_of_getElem? (i := 224) (by decide +kernel), List.mem_of_getElem? (i := 672) (by decide +kernel), List.mem_of_getElem? (i := 673) (by decide +kernel)⟩
theorem lw_p11 : lw_okq (⟨"NoonSquare$Reader", "thingLine", "()Z"⟩, 9) := ⟨⟨by decide +kernel, by decide +kernel⟩, List.mem_of_getElem? (i := 224) (by decide +kernel), List.mem_of_getElem? (i := 684) (by decide +kernel), List.mem_of_getElem? (i := 685) (by decide +kernel)⟩
theorem lw_p12 : lw_okq (⟨"NoonSquare$Reader", "atPlace", "([II)Z"⟩, 9) := ⟨⟨by decide +kernel, by decide +kernel⟩, List.mem_of_getElem? (i := 224) (by decide +kernel), List.mem_of_getElem? (i := 688) (by decide +kernel), List.mem_of_getElem? (i := 689) (by decide +kernel)⟩
theorem lw_p13 : lw_okq (⟨"NoonSquare$Reader", "personLine", "()Z"⟩, 9) := ⟨⟨by decide +kernel, by decide +kernel⟩, List.mem_of_getElem? (i := 224) (by decide +kernel), List.mem_of_getElem? (i := 692) (by decide +kernel), List.mem_of_getElem? (i := 693) (by decide +kernel)⟩
theorem lw_p14 : lw_okq (⟨"NoonSquare$Reader", "word", "(I)Z"⟩, 9) := ⟨⟨by decide +kernel, by decide +kernel⟩, List.mem_of_getElem? (i := 224) (by decide +kernel), List.mem_of_getElem? (i := 696) (by decide +kernel), List.mem_of_getElem? (i := 697) (by decide +kernel)⟩
theorem lw_p15 : lw_okq (⟨"NoonSquare$Reader", "either", "(I)Z"⟩, 9) := ⟨⟨by decide +kernel, by decide +kernel⟩, List.mem_of_getElem? (i := 224) (by decide +kernel), List.mem_of_getElem? (i := 700) (by decide +kernel), List.mem_of_getElem? (i := 701) (by decide +kernel)⟩
def lw_privs_1 : List (MethodName × Nat) := [(⟨"NoonSquare$Tokens", "skipBlanks", "()V"⟩, 7), (⟨"NoonSquare$Tokens", "readWord", "()V"⟩, 7), (⟨"NoonSquare$Tokens", "readNumber", "()V"⟩, 7), (⟨"NoonSquare$Reader", "line", "()Z"⟩, 9), (⟨"NoonSquare$Reader", "refuse", "(I)Z"⟩, 9), (⟨"NoonSquare$Reader", "placeLine", "()Z"⟩, 9), (⟨"NoonSquare$Reader", "newName", "([JI)Z"⟩, 9), (⟨"NoonSquare$Reader", "number", "([IIIII)Z"⟩, 9), (⟨"NoonSquare$Reader", "sign", "(I)Z"⟩, 9), (⟨"NoonSquare$Reader", "roadLine", "()Z"⟩, 9), (⟨"NoonSquare$Reader", "placeHere", "()I"⟩, 9), (⟨"NoonSquare$Reader", "thingLine", "()Z"⟩, 9), (⟨"NoonSquare$Reader", "atPlace", "([II)Z"⟩, 9), (⟨"NoonSquare$Reader", "personLine", "()Z"⟩, 9), (⟨"NoonSquare$Reader", "word", "(I)Z"⟩, 9), (⟨"NoonSquare$Reader", "either", "(I)Z"⟩, 9)]
theorem lw_r1 : ∀ q ∈ lw_privs_1, lw_okq q := List.forall_mem_cons.mpr ⟨lw_p0, List.forall_mem_cons.mpr ⟨lw_p1, List.forall_mem_cons.mpr ⟨lw_p2, List.forall_mem_cons.mpr ⟨lw_p3, List.forall_mem_cons.mpr ⟨lw_p4, List.forall_mem_cons.mpr ⟨lw_p5, List.forall_mem_cons.mpr ⟨lw_p6, List.forall_mem_cons.mpr ⟨lw_p7, List.forall_mem_cons.mpr ⟨lw_p8, List.forall_mem_cons.mpr ⟨lw_p9, List.forall_mem_cons.mpr ⟨lw_p10, List.forall_mem_cons.mpr ⟨lw_p11, List.forall_mem_cons.mpr ⟨lw_p12, List.forall_mem_cons.mpr ⟨lw_p13, List.forall_mem_cons.mpr ⟨lw_p14, List.forall_mem_cons.mpr ⟨lw_p15, fun _ h => absurd h List.not_mem_nil⟩⟩⟩⟩⟩⟩⟩⟩⟩⟩⟩⟩⟩⟩⟩⟩
theorem lw_p16 : lw_okq (⟨"NoonSquare$Reader", "both", "(I)Z"⟩, 9) := ⟨⟨by decide +kernel, by decide +kernel⟩, List.mem_of_getElem? (i := 224) (by decide +kernel), List.mem_of_getElem? (i := 704) (by decide +kernel), List.mem_of_getElem? (i := 705) (by decide +kernel)⟩
theorem lw_p17 : lw_okq (⟨"NoonSquare$Reader", "one", "(I)Z"⟩, 9) := ⟨⟨by decide +kernel, by decide +kernel⟩, List.mem_of_getElem? (i := 224) (by decide +kernel), List.mem_of_getElem? (i := 708) (by decide +kernel), List.mem_of_getElem? (i := 709) (by decide +kernel)⟩
theorem lw_p18 : lw_okq (⟨"NoonSquare$Reader", "negated", "(I)Z"⟩, 9) := ⟨⟨by decide +kernel, by decide +kernel⟩, List.mem_of_getElem? (i := 224) (by decide +kernel), List.mem_of_getElem? (i := 712) (by decide +kernel), List.mem_of_getElem? (i := 713) (by decide +kernel)⟩
theorem lw_p19 : lw_okq (⟨"NoonSquare$Reader", "sum", "(I)Z"⟩, 9) := ⟨⟨by decide +kernel, by decide +kernel⟩, List.mem_of_getElem? (i := 224) (by decide +kernel), List.mem_of_getElem? (i := 720) (by decide +kernel), List.mem_of_getElem? (i := 721) (by decide +kernel)⟩
theorem lw_p20 : lw_okq (⟨"NoonSquare$Reader", "term", "(I)Z"⟩, 9) := ⟨⟨by decide +kernel, by decide +kernel⟩, List.mem_of_getElem? (i := 224) (by decide +kernel), List.mem_of_getElem? (i := 724) (by decide +kernel), List.mem_of_getElem? (i := 725) (by decide +kernel)⟩
theorem lw_p21 : lw_okq (⟨"NoonSquare$Reader", "unit", "(I)Z"⟩, 9) := ⟨⟨by decide +kernel, by decide +kernel⟩, List.mem_of_getElem? (i := 224) (by decide +kernel), List.mem_of_getElem? (i := 728) (by decide +kernel), List.mem_of_getElem? (i := 729) (by decide +kernel)⟩
theorem lw_p22 : lw_okq (⟨"NoonSquare$Reader", "enclosed", "(I)Z"⟩, 9) := ⟨⟨by decide +kernel, by decide +kernel⟩, List.mem_of_getElem? (i := 224) (by decide +kernel), List.mem_of_getElem? (i := 732) (by decide +kernel), List.mem_of_getElem? (i := 733) (by decide +kernel)⟩
theorem lw_p23 : lw_okq (⟨"NoonSquare$Reader", "lawLine", "()Z"⟩, 9) := ⟨⟨by decide +kernel, by decide +kernel⟩, List.mem_of_getElem? (i := 224) (by decide +kernel), List.mem_of_getElem? (i := 736) (by decide +kernel), List.mem_of_getElem? (i := 737) (by decide +kernel)⟩
theorem lw_p24 : lw_okq (⟨"NoonSquare$Reader", "lateLine", "()Z"⟩, 9) := ⟨⟨by decide +kernel, by decide +kernel⟩, List.mem_of_getElem? (i := 224) (by decide +kernel), List.mem_of_getElem? (i := 740) (by decide +kernel), List.mem_of_getElem? (i := 741) (by decide +kernel)⟩
theorem lw_p25 : lw_okq (⟨"NoonSquare$Land", "turnOf", "(I)I"⟩, 7) := ⟨⟨by decide +kernel, by decide +kernel⟩, List.mem_of_getElem? (i := 52) (by decide +kernel), List.mem_of_getElem? (i := 752) (by decide +kernel), List.mem_of_getElem? (i := 753) (by decide +kernel)⟩
theorem lw_p26 : lw_okq (⟨"NoonSquare$Day", "wearDown", "(LNoonSquare$Now;II)V"⟩, 7) := ⟨⟨by decide +kernel, by decide +kernel⟩, List.mem_of_getElem? (i := 409) (by decide +kernel), List.mem_of_getElem? (i := 793) (by decide +kernel), List.mem_of_getElem? (i := 794) (by decide +kernel)⟩
theorem lw_p27 : lw_okq (⟨"NoonSquare$Day", "setOut", "(LNoonSquare$Now;II)V"⟩, 7) := ⟨⟨by decide +kernel, by decide +kernel⟩, List.mem_of_getElem? (i := 409) (by decide +kernel), List.mem_of_getElem? (i := 820) (by decide +kernel), List.mem_of_getElem? (i := 821) (by decide +kernel)⟩
theorem lw_p28 : lw_okq (⟨"NoonSquare$Day", "isInTime", "(LNoonSquare$Now;III)Z"⟩, 7) := ⟨⟨by decide +kernel, by decide +kernel⟩, List.mem_of_getElem? (i := 409) (by decide +kernel), List.mem_of_getElem? (i := 828) (by decide +kernel), List.mem_of_getElem? (i := 829) (by decide +kernel)⟩
theorem lw_p29 : lw_okq (⟨"NoonSquare$Day", "settle", "(LNoonSquare$Now;II)V"⟩, 7) := ⟨⟨by decide +kernel, by decide +kernel⟩, List.mem_of_getElem? (i := 409) (by decide +kernel), List.mem_of_getElem? (i := 841) (by decide +kernel), List.mem_of_getElem? (i := 842) (by decide +kernel)⟩
theorem lw_p30 : lw_okq (⟨"NoonSquare$Day", "winner", "(LNoonSquare$Now;II)I"⟩, 7) := ⟨⟨by decide +kernel, by decide +kernel⟩, List.mem_of_getElem? (i := 409) (by decide +kernel), List.mem_of_getElem? (i := 849) (by decide +kernel), List.mem_of_getElem? (i := 850) (by decide +kernel)⟩
theorem lw_p31 : lw_okq (⟨"NoonSquare$Day", "drawnOf", "(LNoonSquare$Now;I)I"⟩, 7) := ⟨⟨by decide +kernel, by decide +kernel⟩, List.mem_of_getElem? (i := 409) (by decide +kernel), List.mem_of_getElem? (i := 853) (by decide +kernel), List.mem_of_getElem? (i := 854) (by decide +kernel)⟩
def lw_privs_2 : List (MethodName × Nat) := [(⟨"NoonSquare$Reader", "both", "(I)Z"⟩, 9), (⟨"NoonSquare$Reader", "one", "(I)Z"⟩, 9), (⟨"NoonSquare$Reader", "negated", "(I)Z"⟩, 9), (⟨"NoonSquare$Reader", "sum", "(I)Z"⟩, 9), (⟨"NoonSquare$Reader", "term", "(I)Z"⟩, 9), (⟨"NoonSquare$Reader", "unit", "(I)Z"⟩, 9), (⟨"NoonSquare$Reader", "enclosed", "(I)Z"⟩, 9), (⟨"NoonSquare$Reader", "lawLine", "()Z"⟩, 9), (⟨"NoonSquare$Reader", "lateLine", "()Z"⟩, 9), (⟨"NoonSquare$Land", "turnOf", "(I)I"⟩, 7), (⟨"NoonSquare$Day", "wearDown", "(LNoonSquare$Now;II)V"⟩, 7), (⟨"NoonSquare$Day", "setOut", "(LNoonSquare$Now;II)V"⟩, 7), (⟨"NoonSquare$Day", "isInTime", "(LNoonSquare$Now;III)Z"⟩, 7), (⟨"NoonSquare$Day", "settle", "(LNoonSquare$Now;II)V"⟩, 7), (⟨"NoonSquare$Day", "winner", "(LNoonSquare$Now;II)I"⟩, 7), (⟨"NoonSquare$Day", "drawnOf", "(LNoonSquare$Now;I)I"⟩, 7)]
theorem lw_r2 : ∀ q ∈ lw_privs_2, lw_okq q := List.forall_mem_cons.mpr ⟨lw_p16, List.forall_mem_cons.mpr ⟨lw_p17, List.forall_mem_cons.mpr ⟨lw_p18, List.forall_mem_cons.mpr ⟨lw_p19, List.forall_mem_cons.mpr ⟨lw_p20, List.forall_mem_cons.mpr ⟨lw_p21, List.forall_mem_cons.mpr ⟨lw_p22, List.forall_mem_cons.mpr ⟨lw_p23, List.forall_mem_cons.mpr ⟨lw_p24, List.forall_mem_cons.mpr ⟨lw_p25, List.forall_mem_cons.mpr ⟨lw_p26, List.forall_mem_cons.mpr ⟨lw_p27, List.forall_mem_cons.mpr ⟨lw_p28, List.forall_mem_cons.mpr ⟨lw_p29, List.forall_mem_cons.mpr ⟨lw_p30, List.forall_mem_cons.mpr ⟨lw_p31, fun _ h => absurd h List.not_mem_nil⟩⟩⟩⟩⟩⟩⟩⟩⟩⟩⟩⟩⟩⟩⟩⟩
theorem lw_p32 : lw_okq (⟨"NoonSquare$Day", "isAhead", "(III)Z"⟩, 7) := ⟨⟨by decide +kernel, by decide +kernel⟩, List.mem_of_getElem? (i := 409) (by decide +kernel), List.mem_of_getElem? (i := 863) (by decide +kernel), List.mem_of_getElem? (i := 864) (by decide +kernel)⟩
theorem lw_p33 : lw_okq (⟨"NoonSquare$Day", "stoodAt", "(II)Z"⟩, 7) := ⟨⟨by decide +kernel, by decide +kernel⟩, List.mem_of_getElem? (i := 409) (by decide +kernel), List.mem_of_getElem? (i := 867) (by decide +kernel), List.mem_of_getElem? (i := 868) (by decide +kernel)⟩
theorem lw_p34 : lw_okq (⟨"NoonSquare", "isThing", "(I)Z"⟩, 12) := ⟨⟨by decide +kernel, by decide +kernel⟩, List.mem_of_getElem? (i := 22) (by decide +kernel), List.mem_of_getElem? (i := 880) (by decide +kernel), List.mem_of_getElem? (i := 881) (by decide +kernel)⟩
theorem lw_p35 : lw_okq (⟨"NoonSquare", "isPerson", "(I)Z"⟩, 12) := ⟨⟨by decide +kernel, by decide +kernel⟩, List.mem_of_getElem? (i := 22) (by decide +kernel), List.mem_of_getElem? (i := 888) (by decide +kernel), List.mem_of_getElem? (i := 889) (by decide +kernel)⟩
theorem lw_p36 : lw_okq (⟨"NoonSquare", "thingsOf", "(I)I"⟩, 12) := ⟨⟨by decide +kernel, by decide +kernel⟩, List.mem_of_getElem? (i := 22) (by decide +kernel), List.mem_of_getElem? (i := 892) (by decide +kernel), List.mem_of_getElem? (i := 893) (by decide +kernel)⟩
theorem lw_p37 : lw_okq (⟨"NoonSquare", "isPlace", "(I)Z"⟩, 12) := ⟨⟨by decide +kernel, by decide +kernel⟩, List.mem_of_getElem? (i := 22) (by decide +kernel), List.mem_of_getElem? (i := 902) (by decide +kernel), List.mem_of_getElem? (i := 903) (by decide +kernel)⟩
theorem lw_p38 : lw_okq (⟨"NoonSquare", "isPersonOrNobody", "(I)Z"⟩, 12) := ⟨⟨by decide +kernel, by decide +kernel⟩, List.mem_of_getElem? (i := 22) (by decide +kernel), List.mem_of_getElem? (i := 911) (by decide +kernel), List.mem_of_getElem? (i := 912) (by decide +kernel)⟩
theorem lw_p39 : lw_okq (⟨"NoonSquare$Trial", "beginDay", "(LNoonSquare$Now;II)V"⟩, 7) := ⟨⟨by decide +kernel, by decide +kernel⟩, List.mem_of_getElem? (i := 438) (by decide +kernel), List.mem_of_getElem? (i := 933) (by decide +kernel), List.mem_of_getElem? (i := 934) (by decide +kernel)⟩
theorem lw_p40 : lw_okq (⟨"NoonSquare$Trial", "isHis", "(II)Z"⟩, 7) := ⟨⟨by decide +kernel, by decide +kernel⟩, List.mem_of_getElem? (i := 438) (by decide +kernel), List.mem_of_getElem? (i := 944) (by decide +kernel), List.mem_of_getElem? (i := 945) (by decide +kernel)⟩
theorem lw_p41 : lw_okq (⟨"NoonSquare$Trial", "isDrawn", "(I)Z"⟩, 7) := ⟨⟨by decide +kernel, by decide +kernel⟩, List.mem_of_getElem? (i := 438) (by decide +kernel), List.mem_of_getElem? (i := 948) (by decide +kernel), List.mem_of_getElem? (i := 949) (by decide +kernel)⟩
theorem lw_p42 : lw_okq (⟨"NoonSquare$Trial", "lotsFor", "(I)I"⟩, 7) := ⟨⟨by decide +kernel, by decide +kernel⟩, List.mem_of_getElem? (i := 438) (by decide +kernel), List.mem_of_getElem? (i := 952) (by decide +kernel), List.mem_of_getElem? (i := 953) (by decide +kernel)⟩
theorem lw_p43 : lw_okq (⟨"NoonSquare$Standings", "listChoices", "()V"⟩, 9) := ⟨⟨by decide +kernel, by decide +kernel⟩, List.mem_of_getElem? (i := 471) (by decide +kernel), List.mem_of_getElem? (i := 972) (by decide +kernel), List.mem_of_getElem? (i := 973) (by decide +kernel)⟩
theorem lw_p44 : lw_okq (⟨"NoonSquare$Standings", "walk", "(II)I"⟩, 9) := ⟨⟨by decide +kernel, by decide +kernel⟩, List.mem_of_getElem? (i := 471) (by decide +kernel), List.mem_of_getElem? (i := 976) (by decide +kernel), List.mem_of_getElem? (i := 977) (by decide +kernel)⟩
theorem lw_p45 : lw_okq (⟨"NoonSquare$Standings", "addChoice", "(II)V"⟩, 9) := ⟨⟨by decide +kernel, by decide +kernel⟩, List.mem_of_getElem? (i := 471) (by decide +kernel), List.mem_of_getElem? (i := 981) (by decide +kernel), List.mem_of_getElem? (i := 982) (by decide +kernel)⟩
theorem lw_p46 : lw_okq (⟨"NoonSquare$Standings", "choose", "(II)V"⟩, 9) := ⟨⟨by decide +kernel, by decide +kernel⟩, List.mem_of_getElem? (i := 471) (by decide +kernel), List.mem_of_getElem? (i := 985) (by decide +kernel), List.mem_of_getElem? (i := 986) (by decide +kernel)⟩
theorem lw_p47 : lw_okq (⟨"NoonSquare$Standings", "choiceOf", "(II)I"⟩, 9) := ⟨⟨by decide +kernel, by decide +kernel⟩, List.mem_of_getElem? (i := 471) (by decide +kernel), List.mem_of_getElem? (i := 989) (by decide +kernel), List.mem_of_getElem? (i := 990) (by decide +kernel)⟩
def lw_privs_3 : List (MethodName × Nat) := [(⟨"NoonSquare$Day", "isAhead", "(III)Z"⟩, 7), (⟨"NoonSquare$Day", "stoodAt", "(II)Z"⟩, 7), (⟨"NoonSquare", "isThing", "(I)Z"⟩, 12), (⟨"NoonSquare", "isPerson", "(I)Z"⟩, 12), (⟨"NoonSquare", "thingsOf", "(I)I"⟩, 12), (⟨"NoonSquare", "isPlace", "(I)Z"⟩, 12), (⟨"NoonSquare", "isPersonOrNobody", "(I)Z"⟩, 12), (⟨"NoonSquare$Trial", "beginDay", "(LNoonSquare$Now;II)V"⟩, 7), (⟨"NoonSquare$Trial", "isHis", "(II)Z"⟩, 7), (⟨"NoonSquare$Trial", "isDrawn", "(I)Z"⟩, 7), (⟨"NoonSquare$Trial", "lotsFor", "(I)I"⟩, 7), (⟨"NoonSquare$Standings", "listChoices", "()V"⟩, 9), (⟨"NoonSquare$Standings", "walk", "(II)I"⟩, 9), (⟨"NoonSquare$Standings", "addChoice", "(II)V"⟩, 9), (⟨"NoonSquare$Standings", "choose", "(II)V"⟩, 9), (⟨"NoonSquare$Standings", "choiceOf", "(II)I"⟩, 9)]
theorem lw_r3 : ∀ q ∈ lw_privs_3, lw_okq q := List.forall_mem_cons.mpr ⟨lw_p32, List.forall_mem_cons.mpr ⟨lw_p33, List.forall_mem_cons.mpr ⟨lw_p34, List.forall_mem_cons.mpr ⟨lw_p35, List.forall_mem_cons.mpr ⟨lw_p36, List.forall_mem_cons.mpr ⟨lw_p37, List.forall_mem_cons.mpr ⟨lw_p38, List.forall_mem_cons.mpr ⟨lw_p39, List.forall_mem_cons.mpr ⟨lw_p40, List.forall_mem_cons.mpr ⟨lw_p41, List.forall_mem_cons.mpr ⟨lw_p42, List.forall_mem_cons.mpr ⟨lw_p43, List.forall_mem_cons.mpr ⟨lw_p44, List.forall_mem_cons.mpr ⟨lw_p45, List.forall_mem_cons.mpr ⟨lw_p46, List.forall_mem_cons.mpr ⟨lw_p47, fun _ h => absurd h List.not_mem_nil⟩⟩⟩⟩⟩⟩⟩⟩⟩⟩⟩⟩⟩⟩⟩⟩
theorem lw_p48 : lw_okq (⟨"NoonSquare$Standings", "isAtRest", "()Z"⟩, 9) := ⟨⟨by decide +kernel, by decide +kernel⟩, List.mem_of_getElem? (i := 471) (by decide +kernel), List.mem_of_getElem? (i := 993) (by decide +kernel), List.mem_of_getElem? (i := 994) (by decide +kernel)⟩
theorem lw_p49 : lw_okq (⟨"NoonSquare$Standings", "payFor", "(II)I"⟩, 9) := ⟨⟨by decide +kernel, by decide +kernel⟩, List.mem_of_getElem? (i := 471) (by decide +kernel), List.mem_of_getElem? (i := 997) (by decide +kernel), List.mem_of_getElem? (i := 998) (by decide +kernel)⟩
theorem lw_p50 : lw_okq (⟨"NoonSquare$Standings", "isAhead", "(III)Z"⟩, 9) := ⟨⟨by decide +kernel, by decide +kernel⟩, List.mem_of_getElem? (i := 471) (by decide +kernel), List.mem_of_getElem? (i := 1002) (by decide +kernel), List.mem_of_getElem? (i := 1003) (by decide +kernel)⟩
theorem lw_p51 : lw_okq (⟨"NoonSquare$Standings", "payOfAll", "()I"⟩, 9) := ⟨⟨by decide +kernel, by decide +kernel⟩, List.mem_of_getElem? (i := 471) (by decide +kernel), List.mem_of_getElem? (i := 1006) (by decide +kernel), List.mem_of_getElem? (i := 1007) (by decide +kernel)⟩
theorem lw_p52 : lw_okq (⟨"NoonSquare$Standings", "lost", "()I"⟩, 9) := ⟨⟨by decide +kernel, by decide +kernel⟩, List.mem_of_getElem? (i := 471) (by decide +kernel), List.mem_of_getElem? (i := 1011) (by decide +kernel), List.mem_of_getElem? (i := 1012) (by decide +kernel)⟩
theorem lw_p53 : lw_okq (⟨"NoonSquare$Standings", "goOn", "()Z"⟩, 9) := ⟨⟨by decide +kernel, by decide +kernel⟩, List.mem_of_getElem? (i := 471) (by decide +kernel), List.mem_of_getElem? (i := 1016) (by decide +kernel), List.mem_of_getElem? (i := 1017) (by decide +kernel)⟩
theorem lw_p54 : lw_okq (⟨"NoonSquare$Trial", "mostOfDay", "(LNoonSquare$Now;III)J"⟩, 7) := ⟨⟨by decide +kernel, by decide +kernel⟩, List.mem_of_getElem? (i := 438) (by decide +kernel), List.mem_of_getElem? (i := 1049) (by decide +kernel), List.mem_of_getElem? (i := 1050) (by decide +kernel)⟩
theorem lw_p55 : lw_okq (⟨"NoonSquare$Tales", "counts", "(II)Z"⟩, 6) := ⟨⟨by decide +kernel, by decide +kernel⟩, List.mem_of_getElem? (i := 509) (by decide +kernel), List.mem_of_getElem? (i := 1110) (by decide +kernel), List.mem_of_getElem? (i := 1111) (by decide +kernel)⟩
theorem lw_p56 : lw_okq (⟨"NoonSquare$Tales", "isFalse", "(ILNoonSquare$Now;)Z"⟩, 6) := ⟨⟨by decide +kernel, by decide +kernel⟩, List.mem_of_getElem? (i := 509) (by decide +kernel), List.mem_of_getElem? (i := 1114) (by decide +kernel), List.mem_of_getElem? (i := 1115) (by decide +kernel)⟩
theorem lw_p57 : lw_okq (⟨"NoonSquare$Tales", "contradictsEarlier", "(II)Z"⟩, 6) := ⟨⟨by decide +kernel, by decide +kernel⟩, List.mem_of_getElem? (i := 509) (by decide +kernel), List.mem_of_getElem? (i := 1131) (by decide +kernel), List.mem_of_getElem? (i := 1132) (by decide +kernel)⟩
theorem lw_p58 : lw_okq (⟨"NoonSquareModel", "layFar", "()V"⟩, 104) := ⟨⟨by decide +kernel, by decide +kernel⟩, List.mem_of_getElem? (i := 1152) (by decide +kernel), List.mem_of_getElem? (i := 1158) (by decide +kernel), List.mem_of_getElem? (i := 1159) (by decide +kernel)⟩
theorem lw_p59 : lw_okq (⟨"NoonSquareModel", "four", "(I)V"⟩, 104) := ⟨⟨by decide +kernel, by decide +kernel⟩, List.mem_of_getElem? (i := 1152) (by decide +kernel), List.mem_of_getElem? (i := 1479) (by decide +kernel), List.mem_of_getElem? (i := 1480) (by decide +kernel)⟩
theorem lw_p60 : lw_okq (⟨"NoonSquareModel", "token", "()V"⟩, 104) := ⟨⟨by decide +kernel, by decide +kernel⟩, List.mem_of_getElem? (i := 1152) (by decide +kernel), List.mem_of_getElem? (i := 1491) (by decide +kernel), List.mem_of_getElem? (i := 1492) (by decide +kernel)⟩
theorem lw_p61 : lw_okq (⟨"NoonSquareModel", "here", "(I)I"⟩, 104) := ⟨⟨by decide +kernel, by decide +kernel⟩, List.mem_of_getElem? (i := 1152) (by decide +kernel), List.mem_of_getElem? (i := 1495) (by decide +kernel), List.mem_of_getElem? (i := 1496) (by decide +kernel)⟩
theorem lw_p62 : lw_okq (⟨"NoonSquareModel", "readLine", "()V"⟩, 104) := ⟨⟨by decide +kernel, by decide +kernel⟩, List.mem_of_getElem? (i := 1152) (by decide +kernel), List.mem_of_getElem? (i := 1508) (by decide +kernel), List.mem_of_getElem? (i := 1509) (by decide +kernel)⟩
theorem lw_p63 : lw_okq (⟨"NoonSquareModel", "isWord", "(J)Z"⟩, 104) := ⟨⟨by decide +kernel, by decide +kernel⟩, List.mem_of_getElem? (i := 1152) (by decide +kernel), List.mem_of_getElem? (i := 1513) (by decide +kernel), List.mem_of_getElem? (i := 1514) (by decide +kernel)⟩
def lw_privs_4 : List (MethodName × Nat) := [(⟨"NoonSquare$Standings", "isAtRest", "()Z"⟩, 9), (⟨"NoonSquare$Standings", "payFor", "(II)I"⟩, 9), (⟨"NoonSquare$Standings", "isAhead", "(III)Z"⟩, 9), (⟨"NoonSquare$Standings", "payOfAll", "()I"⟩, 9), (⟨"NoonSquare$Standings", "lost", "()I"⟩, 9), (⟨"NoonSquare$Standings", "goOn", "()Z"⟩, 9), (⟨"NoonSquare$Trial", "mostOfDay", "(LNoonSquare$Now;III)J"⟩, 7), (⟨"NoonSquare$Tales", "counts", "(II)Z"⟩, 6), (⟨"NoonSquare$Tales", "isFalse", "(ILNoonSquare$Now;)Z"⟩, 6), (⟨"NoonSquare$Tales", "contradictsEarlier", "(II)Z"⟩, 6), (⟨"NoonSquareModel", "layFar", "()V"⟩, 104), (⟨"NoonSquareModel", "four", "(I)V"⟩, 104), (⟨"NoonSquareModel", "token", "()V"⟩, 104), (⟨"NoonSquareModel", "here", "(I)I"⟩, 104), (⟨"NoonSquareModel", "readLine", "()V"⟩, 104), (⟨"NoonSquareModel", "isWord", "(J)Z"⟩, 104)]
theorem lw_r4 : ∀ q ∈ lw_privs_4, lw_okq q := List.forall_mem_cons.mpr ⟨lw_p48, List.forall_mem_cons.mpr ⟨lw_p49, List.forall_mem_cons.mpr ⟨lw_p50, List.forall_mem_cons.mpr ⟨lw_p51, List.forall_mem_cons.mpr ⟨lw_p52, List.forall_mem_cons.mpr ⟨lw_p53, List.forall_mem_cons.mpr ⟨lw_p54, List.forall_mem_cons.mpr ⟨lw_p55, List.forall_mem_cons.mpr ⟨lw_p56, List.forall_mem_cons.mpr ⟨lw_p57, List.forall_mem_cons.mpr ⟨lw_p58, List.forall_mem_cons.mpr ⟨lw_p59, List.forall_mem_cons.mpr ⟨lw_p60, List.forall_mem_cons.mpr ⟨lw_p61, List.forall_mem_cons.mpr ⟨lw_p62, List.forall_mem_cons.mpr ⟨lw_p63, fun _ h => absurd h List.not_mem_nil⟩⟩⟩⟩⟩⟩⟩⟩⟩⟩⟩⟩⟩⟩⟩⟩
theorem lw_p64 : lw_okq (⟨"NoonSquareModel", "readPlace", "()V"⟩, 104) := ⟨⟨by decide +kernel, by decide +kernel⟩, List.mem_of_getElem? (i := 1152) (by decide +kernel), List.mem_of_getElem? (i := 1517) (by decide +kernel), List.mem_of_getElem? (i := 1518) (by decide +kernel)⟩
theorem lw_p65 : lw_okq (⟨"NoonSquareModel", "newName", "([JI)J"⟩, 104) := ⟨⟨by decide +kernel, by decide +kernel⟩, List.mem_of_getElem? (i := 1152) (by decide +kernel), List.mem_of_getElem? (i := 1521) (by decide +kernel), List.mem_of_getElem? (i := 1522) (by decide +kernel)⟩
theorem lw_p66 : lw_okq (⟨"NoonSquareModel", "isName", "()Z"⟩, 104) := ⟨⟨by decide +kernel, by decide +kernel⟩, List.mem_of_getElem? (i := 1152) (by decide +kernel), List.mem_of_getElem? (i := 1525) (by decide +kernel), List.mem_of_getElem? (i := 1526) (by decide +kernel)⟩
theorem lw_p67 : lw_okq (⟨"NoonSquareModel", "wrong", "(I)V"⟩, 104) := ⟨⟨by decide +kernel, by decide +kernel⟩, List.mem_of_getElem? (i := 1152) (by decide +kernel), List.mem_of_getElem? (i := 1556) (by decide +kernel), List.mem_of_getElem? (i := 1557) (by decide +kernel)⟩
theorem lw_p68 : lw_okq (⟨"NoonSquareModel", "told", "(JII)I"⟩, 104) := ⟨⟨by decide +kernel, by decide +kernel⟩, List.mem_of_getElem? (i := 1152) (by decide +kernel), List.mem_of_getElem? (i := 1563) (by decide +kernel), List.mem_of_getElem? (i := 1564) (by decide +kernel)⟩
theorem lw_p69 : lw_okq (⟨"NoonSquareModel", "want", "(J)V"⟩, 104) := ⟨⟨by decide +kernel, by decide +kernel⟩, List.mem_of_getElem? (i := 1152) (by decide +kernel), List.mem_of_getElem? (i := 1567) (by decide +kernel), List.mem_of_getElem? (i := 1568) (by decide +kernel)⟩
theorem lw_p70 : lw_okq (⟨"NoonSquareModel", "toldNumber", "(II)I"⟩, 104) := ⟨⟨by decide +kernel, by decide +kernel⟩, List.mem_of_getElem? (i := 1152) (by decide +kernel), List.mem_of_getElem? (i := 1571) (by decide +kernel), List.mem_of_getElem? (i := 1572) (by decide +kernel)⟩
theorem lw_p71 : lw_okq (⟨"NoonSquareModel", "readRoad", "()V"⟩, 104) := ⟨⟨by decide +kernel, by decide +kernel⟩, List.mem_of_getElem? (i := 1152) (by decide +kernel), List.mem_of_getElem? (i := 1575) (by decide +kernel), List.mem_of_getElem? (i := 1576) (by decide +kernel)⟩
theorem lw_p72 : lw_okq (⟨"NoonSquareModel", "oldPlace", "()I"⟩, 104) := ⟨⟨by decide +kernel, by decide +kernel⟩, List.mem_of_getElem? (i := 1152) (by decide +kernel), List.mem_of_getElem? (i := 1579) (by decide +kernel), List.mem_of_getElem? (i := 1580) (by decide +kernel)⟩
theorem lw_p73 : lw_okq (⟨"NoonSquareModel", "readThing", "()V"⟩, 104) := ⟨⟨by decide +kernel, by decide +kernel⟩, List.mem_of_getElem? (i := 1152) (by decide +kernel), List.mem_of_getElem? (i := 1583) (by decide +kernel), List.mem_of_getElem? (i := 1584) (by decide +kernel)⟩
theorem lw_p74 : lw_okq (⟨"NoonSquareModel", "atPlace", "()I"⟩, 104) := ⟨⟨by decide +kernel, by decide +kernel⟩, List.mem_of_getElem? (i := 1152) (by decide +kernel), List.mem_of_getElem? (i := 1587) (by decide +kernel), List.mem_of_getElem? (i := 1588) (by decide +kernel)⟩
theorem lw_p75 : lw_okq (⟨"NoonSquareModel", "readPerson", "()V"⟩, 104) := ⟨⟨by decide +kernel, by decide +kernel⟩, List.mem_of_getElem? (i := 1152) (by decide +kernel), List.mem_of_getElem? (i := 1591) (by decide +kernel), List.mem_of_getElem? (i := 1592) (by decide +kernel)⟩
theorem lw_p76 : lw_okq (⟨"NoonSquareModel", "readStands", "()V"⟩, 104) := ⟨⟨by decide +kernel, by decide +kernel⟩, List.mem_of_getElem? (i := 1152) (by decide +kernel), List.mem_of_getElem? (i := 1595) (by decide +kernel), List.mem_of_getElem? (i := 1596) (by decide +kernel)⟩
theorem lw_p77 : lw_okq (⟨"NoonSquareModel", "isOpen", "()Z"⟩, 104) := ⟨⟨by decide +kernel, by decide +kernel⟩, List.mem_of_getElem? (i := 1152) (by decide +kernel), List.mem_of_getElem? (i := 1599) (by decide +kernel), List.mem_of_getElem? (i := 1600) (by decide +kernel)⟩
theorem lw_p78 : lw_okq (⟨"NoonSquareModel", "sign", "()I"⟩, 104) := ⟨⟨by decide +kernel, by decide +kernel⟩, List.mem_of_getElem? (i := 1152) (by decide +kernel), List.mem_of_getElem? (i := 1603) (by decide +kernel), List.mem_of_getElem? (i := 1604) (by decide +kernel)⟩
theorem lw_p79 : lw_okq (⟨"NoonSquareModel", "signOf", "()I"⟩, 104) := ⟨⟨by decide +kernel, by decide +kernel⟩, List.mem_of_getElem? (i := 1152) (by decide +kernel), List.mem_of_getElem? (i := 1607) (by decide +kernel), List.mem_of_getElem? (i := 1608) (by decide +kernel)⟩
def lw_privs_5 : List (MethodName × Nat) := [(⟨"NoonSquareModel", "readPlace", "()V"⟩, 104), (⟨"NoonSquareModel", "newName", "([JI)J"⟩, 104), (⟨"NoonSquareModel", "isName", "()Z"⟩, 104), (⟨"NoonSquareModel", "wrong", "(I)V"⟩, 104), (⟨"NoonSquareModel", "told", "(JII)I"⟩, 104), (⟨"NoonSquareModel", "want", "(J)V"⟩, 104), (⟨"NoonSquareModel", "toldNumber", "(II)I"⟩, 104), (⟨"NoonSquareModel", "readRoad", "()V"⟩, 104), (⟨"NoonSquareModel", "oldPlace", "()I"⟩, 104), (⟨"NoonSquareModel", "readThing", "()V"⟩, 104), (⟨"NoonSquareModel", "atPlace", "()I"⟩, 104), (⟨"NoonSquareModel", "readPerson", "()V"⟩, 104), (⟨"NoonSquareModel", "readStands", "()V"⟩, 104), (⟨"NoonSquareModel", "isOpen", "()Z"⟩, 104), (⟨"NoonSquareModel", "sign", "()I"⟩, 104), (⟨"NoonSquareModel", "signOf", "()I"⟩, 104)]
theorem lw_r5 : ∀ q ∈ lw_privs_5, lw_okq q := List.forall_mem_cons.mpr ⟨lw_p64, List.forall_mem_cons.mpr ⟨lw_p65, List.forall_mem_cons.mpr ⟨lw_p66, List.forall_mem_cons.mpr ⟨lw_p67, List.forall_mem_cons.mpr ⟨lw_p68, List.forall_mem_cons.mpr ⟨lw_p69, List.forall_mem_cons.mpr ⟨lw_p70, List.forall_mem_cons.mpr ⟨lw_p71, List.forall_mem_cons.mpr ⟨lw_p72, List.forall_mem_cons.mpr ⟨lw_p73, List.forall_mem_cons.mpr ⟨lw_p74, List.forall_mem_cons.mpr ⟨lw_p75, List.forall_mem_cons.mpr ⟨lw_p76, List.forall_mem_cons.mpr ⟨lw_p77, List.forall_mem_cons.mpr ⟨lw_p78, List.forall_mem_cons.mpr ⟨lw_p79, fun _ h => absurd h List.not_mem_nil⟩⟩⟩⟩⟩⟩⟩⟩⟩⟩⟩⟩⟩⟩⟩⟩
theorem lw_p80 : lw_okq (⟨"NoonSquareModel", "settle", "(I)V"⟩, 104) := ⟨⟨by decide +kernel, by decide +kernel⟩, List.mem_of_getElem? (i := 1152) (by decide +kernel), List.mem_of_getElem? (i := 1611) (by decide +kernel), List.mem_of_getElem? (i := 1612) (by decide +kernel)⟩
theorem lw_p81 : lw_okq (⟨"NoonSquareModel", "upper", "()I"⟩, 104) := ⟨⟨by decide +kernel, by decide +kernel⟩, List.mem_of_getElem? (i := 1152) (by decide +kernel), List.mem_of_getElem? (i := 1615) (by decide +kernel), List.mem_of_getElem? (i := 1616) (by decide +kernel)⟩
theorem lw_p82 : lw_okq (⟨"NoonSquareModel", "pop", "()V"⟩, 104) := ⟨⟨by decide +kernel, by decide +kernel⟩, List.mem_of_getElem? (i := 1152) (by decide +kernel), List.mem_of_getElem? (i := 1622) (by decide +kernel), List.mem_of_getElem? (i := 1623) (by decide +kernel)⟩
theorem lw_p83 : lw_okq (⟨"NoonSquareModel", "note", "(II)V"⟩, 104) := ⟨⟨by decide +kernel, by decide +kernel⟩, List.mem_of_getElem? (i := 1152) (by decide +kernel), List.mem_of_getElem? (i := 1626) (by decide +kernel), List.mem_of_getElem? (i := 1627) (by decide +kernel)⟩
theorem lw_p84 : lw_okq (⟨"NoonSquareModel", "hold", "(I)V"⟩, 104) := ⟨⟨by decide +kernel, by decide +kernel⟩, List.mem_of_getElem? (i := 1152) (by decide +kernel), List.mem_of_getElem? (i := 1630) (by decide +kernel), List.mem_of_getElem? (i := 1631) (by decide +kernel)⟩
theorem lw_p85 : lw_okq (⟨"NoonSquareModel", "operand", "(I)I"⟩, 104) := ⟨⟨by decide +kernel, by decide +kernel⟩, List.mem_of_getElem? (i := 1152) (by decide +kernel), List.mem_of_getElem? (i := 1634) (by decide +kernel), List.mem_of_getElem? (i := 1635) (by decide +kernel)⟩
theorem lw_p86 : lw_okq (⟨"NoonSquareModel", "known", "()I"⟩, 104) := ⟨⟨by decide +kernel, by decide +kernel⟩, List.mem_of_getElem? (i := 1152) (by decide +kernel), List.mem_of_getElem? (i := 1638) (by decide +kernel), List.mem_of_getElem? (i := 1639) (by decide +kernel)⟩
theorem lw_p87 : lw_okq (⟨"NoonSquareModel", "readLaw", "()V"⟩, 104) := ⟨⟨by decide +kernel, by decide +kernel⟩, List.mem_of_getElem? (i := 1152) (by decide +kernel), List.mem_of_getElem? (i := 1642) (by decide +kernel), List.mem_of_getElem? (i := 1643) (by decide +kernel)⟩
theorem lw_p88 : lw_okq (⟨"NoonSquareModel", "readLate", "()V"⟩, 104) := ⟨⟨by decide +kernel, by decide +kernel⟩, List.mem_of_getElem? (i := 1152) (by decide +kernel), List.mem_of_getElem? (i := 1646) (by decide +kernel), List.mem_of_getElem? (i := 1647) (by decide +kernel)⟩
theorem lw_p89 : lw_okq (⟨"NoonSquareModel", "fresh", "()V"⟩, 104) := ⟨⟨by decide +kernel, by decide +kernel⟩, List.mem_of_getElem? (i := 1152) (by decide +kernel), List.mem_of_getElem? (i := 1650) (by decide +kernel), List.mem_of_getElem? (i := 1651) (by decide +kernel)⟩
theorem lw_p90 : lw_okq (⟨"NoonSquareModel", "isPlace", "(I)Z"⟩, 104) := ⟨⟨by decide +kernel, by decide +kernel⟩, List.mem_of_getElem? (i := 1152) (by decide +kernel), List.mem_of_getElem? (i := 1662) (by decide +kernel), List.mem_of_getElem? (i := 1663) (by decide +kernel)⟩
theorem lw_p91 : lw_okq (⟨"NoonSquareModel", "farOf", "(II)I"⟩, 104) := ⟨⟨by decide +kernel, by decide +kernel⟩, List.mem_of_getElem? (i := 1152) (by decide +kernel), List.mem_of_getElem? (i := 1666) (by decide +kernel), List.mem_of_getElem? (i := 1667) (by decide +kernel)⟩
theorem lw_p92 : lw_okq (⟨"NoonSquareModel", "allMade", "()I"⟩, 104) := ⟨⟨by decide +kernel, by decide +kernel⟩, List.mem_of_getElem? (i := 1152) (by decide +kernel), List.mem_of_getElem? (i := 1674) (by decide +kernel), List.mem_of_getElem? (i := 1675) (by decide +kernel)⟩
theorem lw_p93 : lw_okq (⟨"NoonSquareModel", "doDay", "(I)V"⟩, 104) := ⟨⟨by decide +kernel, by decide +kernel⟩, List.mem_of_getElem? (i := 1152) (by decide +kernel), List.mem_of_getElem? (i := 1678) (by decide +kernel), List.mem_of_getElem? (i := 1679) (by decide +kernel)⟩
theorem lw_p94 : lw_okq (⟨"NoonSquareModel", "useAndMend", "()V"⟩, 104) := ⟨⟨by decide +kernel, by decide +kernel⟩, List.mem_of_getElem? (i := 1152) (by decide +kernel), List.mem_of_getElem? (i := 1682) (by decide +kernel), List.mem_of_getElem? (i := 1683) (by decide +kernel)⟩
theorem lw_p95 : lw_okq (⟨"NoonSquareModel", "use", "(I)V"⟩, 104) := ⟨⟨by decide +kernel, by decide +kernel⟩, List.mem_of_getElem? (i := 1152) (by decide +kernel), List.mem_of_getElem? (i := 1686) (by decide +kernel), List.mem_of_getElem? (i := 1687) (by decide +kernel)⟩
def lw_privs_6 : List (MethodName × Nat) := [(⟨"NoonSquareModel", "settle", "(I)V"⟩, 104), (⟨"NoonSquareModel", "upper", "()I"⟩, 104), (⟨"NoonSquareModel", "pop", "()V"⟩, 104), (⟨"NoonSquareModel", "note", "(II)V"⟩, 104), (⟨"NoonSquareModel", "hold", "(I)V"⟩, 104), (⟨"NoonSquareModel", "operand", "(I)I"⟩, 104), (⟨"NoonSquareModel", "known", "()I"⟩, 104), (⟨"NoonSquareModel", "readLaw", "()V"⟩, 104), (⟨"NoonSquareModel", "readLate", "()V"⟩, 104), (⟨"NoonSquareModel", "fresh", "()V"⟩, 104), (⟨"NoonSquareModel", "isPlace", "(I)Z"⟩, 104), (⟨"NoonSquareModel", "farOf", "(II)I"⟩, 104), (⟨"NoonSquareModel", "allMade", "()I"⟩, 104), (⟨"NoonSquareModel", "doDay", "(I)V"⟩, 104), (⟨"NoonSquareModel", "useAndMend", "()V"⟩, 104), (⟨"NoonSquareModel", "use", "(I)V"⟩, 104)]
theorem lw_r6 : ∀ q ∈ lw_privs_6, lw_okq q := List.forall_mem_cons.mpr ⟨lw_p80, List.forall_mem_cons.mpr ⟨lw_p81, List.forall_mem_cons.mpr ⟨lw_p82, List.forall_mem_cons.mpr ⟨lw_p83, List.forall_mem_cons.mpr ⟨lw_p84, List.forall_mem_cons.mpr ⟨lw_p85, List.forall_mem_cons.mpr ⟨lw_p86, List.forall_mem_cons.mpr ⟨lw_p87, List.forall_mem_cons.mpr ⟨lw_p88, List.forall_mem_cons.mpr ⟨lw_p89, List.forall_mem_cons.mpr ⟨lw_p90, List.forall_mem_cons.mpr ⟨lw_p91, List.forall_mem_cons.mpr ⟨lw_p92, List.forall_mem_cons.mpr ⟨lw_p93, List.forall_mem_cons.mpr ⟨lw_p94, List.forall_mem_cons.mpr ⟨lw_p95, fun _ h => absurd h List.not_mem_nil⟩⟩⟩⟩⟩⟩⟩⟩⟩⟩⟩⟩⟩⟩⟩⟩
theorem lw_p96 : lw_okq (⟨"NoonSquareModel", "hardOf", "(I)I"⟩, 104) := ⟨⟨by decide +kernel, by decide +kernel⟩, List.mem_of_getElem? (i := 1152) (by decide +kernel), List.mem_of_getElem? (i := 1690) (by decide +kernel), List.mem_of_getElem? (i := 1691) (by decide +kernel)⟩
theorem lw_p97 : lw_okq (⟨"NoonSquareModel", "mend", "(I)V"⟩, 104) := ⟨⟨by decide +kernel, by decide +kernel⟩, List.mem_of_getElem? (i := 1152) (by decide +kernel), List.mem_of_getElem? (i := 1697) (by decide +kernel), List.mem_of_getElem? (i := 1698) (by decide +kernel)⟩
theorem lw_p98 : lw_okq (⟨"NoonSquareModel", "draw", "(I)I"⟩, 104) := ⟨⟨by decide +kernel, by decide +kernel⟩, List.mem_of_getElem? (i := 1152) (by decide +kernel), List.mem_of_getElem? (i := 1701) (by decide +kernel), List.mem_of_getElem? (i := 1702) (by decide +kernel)⟩
theorem lw_p99 : lw_okq (⟨"NoonSquareModel", "doNoons", "(IZ)V"⟩, 104) := ⟨⟨by decide +kernel, by decide +kernel⟩, List.mem_of_getElem? (i := 1152) (by decide +kernel), List.mem_of_getElem? (i := 1706) (by decide +kernel), List.mem_of_getElem? (i := 1707) (by decide +kernel)⟩
theorem lw_p100 : lw_okq (⟨"NoonSquareModel", "beginNoons", "(I)V"⟩, 104) := ⟨⟨by decide +kernel, by decide +kernel⟩, List.mem_of_getElem? (i := 1152) (by decide +kernel), List.mem_of_getElem? (i := 1710) (by decide +kernel), List.mem_of_getElem? (i := 1711) (by decide +kernel)⟩
theorem lw_p101 : lw_okq (⟨"NoonSquareModel", "goTo", "(III)V"⟩, 104) := ⟨⟨by decide +kernel, by decide +kernel⟩, List.mem_of_getElem? (i := 1152) (by decide +kernel), List.mem_of_getElem? (i := 1714) (by decide +kernel), List.mem_of_getElem? (i := 1715) (by decide +kernel)⟩
theorem lw_p102 : lw_okq (⟨"NoonSquareModel", "aimOf", "(IIII)I"⟩, 104) := ⟨⟨by decide +kernel, by decide +kernel⟩, List.mem_of_getElem? (i := 1152) (by decide +kernel), List.mem_of_getElem? (i := 1718) (by decide +kernel), List.mem_of_getElem? (i := 1719) (by decide +kernel)⟩
theorem lw_p103 : lw_okq (⟨"NoonSquareModel", "placeOf", "(I)I"⟩, 104) := ⟨⟨by decide +kernel, by decide +kernel⟩, List.mem_of_getElem? (i := 1152) (by decide +kernel), List.mem_of_getElem? (i := 1722) (by decide +kernel), List.mem_of_getElem? (i := 1723) (by decide +kernel)⟩
theorem lw_p104 : lw_okq (⟨"NoonSquareModel", "asksOf", "(III)I"⟩, 104) := ⟨⟨by decide +kernel, by decide +kernel⟩, List.mem_of_getElem? (i := 1152) (by decide +kernel), List.mem_of_getElem? (i := 1726) (by decide +kernel), List.mem_of_getElem? (i := 1727) (by decide +kernel)⟩
theorem lw_p105 : lw_okq (⟨"NoonSquareModel", "heavyOf", "(I)I"⟩, 104) := ⟨⟨by decide +kernel, by decide +kernel⟩, List.mem_of_getElem? (i := 1152) (by decide +kernel), List.mem_of_getElem? (i := 1730) (by decide +kernel), List.mem_of_getElem? (i := 1731) (by decide +kernel)⟩
theorem lw_p106 : lw_okq (⟨"NoonSquareModel", "forceOf", "(I)I"⟩, 104) := ⟨⟨by decide +kernel, by decide +kernel⟩, List.mem_of_getElem? (i := 1152) (by decide +kernel), List.mem_of_getElem? (i := 1734) (by decide +kernel), List.mem_of_getElem? (i := 1735) (by decide +kernel)⟩
theorem lw_p107 : lw_okq (⟨"NoonSquareModel", "noonOf", "(II)V"⟩, 104) := ⟨⟨by decide +kernel, by decide +kernel⟩, List.mem_of_getElem? (i := 1152) (by decide +kernel), List.mem_of_getElem? (i := 1741) (by decide +kernel), List.mem_of_getElem? (i := 1742) (by decide +kernel)⟩
theorem lw_p108 : lw_okq (⟨"NoonSquareModel", "takersOf", "(I)I"⟩, 104) := ⟨⟨by decide +kernel, by decide +kernel⟩, List.mem_of_getElem? (i := 1152) (by decide +kernel), List.mem_of_getElem? (i := 1745) (by decide +kernel), List.mem_of_getElem? (i := 1746) (by decide +kernel)⟩
theorem lw_p109 : lw_okq (⟨"NoonSquareModel", "giveBy", "(II)V"⟩, 104) := ⟨⟨by decide +kernel, by decide +kernel⟩, List.mem_of_getElem? (i := 1152) (by decide +kernel), List.mem_of_getElem? (i := 1749) (by decide +kernel), List.mem_of_getElem? (i := 1750) (by decide +kernel)⟩
theorem lw_p110 : lw_okq (⟨"NoonSquareModel", "standersOf", "(I)I"⟩, 104) := ⟨⟨by decide +kernel, by decide +kernel⟩, List.mem_of_getElem? (i := 1152) (by decide +kernel), List.mem_of_getElem? (i := 1753) (by decide +kernel), List.mem_of_getElem? (i := 1754) (by decide +kernel)⟩
theorem lw_p111 : lw_okq (⟨"NoonSquareModel", "firstBy", "(II)I"⟩, 104) := ⟨⟨by decide +kernel, by decide +kernel⟩, List.mem_of_getElem? (i := 1152) (by decide +kernel), List.mem_of_getElem? (i := 1760) (by decide +kernel), List.mem_of_getElem? (i := 1761) (by decide +kernel)⟩
def lw_privs_7 : List (MethodName × Nat) := [(⟨"NoonSquareModel", "hardOf", "(I)I"⟩, 104), (⟨"NoonSquareModel", "mend", "(I)V"⟩, 104), (⟨"NoonSquareModel", "draw", "(I)I"⟩, 104), (⟨"NoonSquareModel", "doNoons", "(IZ)V"⟩, 104), (⟨"NoonSquareModel", "beginNoons", "(I)V"⟩, 104), (⟨"NoonSquareModel", "goTo", "(III)V"⟩, 104), (⟨"NoonSquareModel", "aimOf", "(IIII)I"⟩, 104), (⟨"NoonSquareModel", "placeOf", "(I)I"⟩, 104), (⟨"NoonSquareModel", "asksOf", "(III)I"⟩, 104), (⟨"NoonSquareModel", "heavyOf", "(I)I"⟩, 104), (⟨"NoonSquareModel", "forceOf", "(I)I"⟩, 104), (⟨"NoonSquareModel", "noonOf", "(II)V"⟩, 104), (⟨"NoonSquareModel", "takersOf", "(I)I"⟩, 104), (⟨"NoonSquareModel", "giveBy", "(II)V"⟩, 104), (⟨"NoonSquareModel", "standersOf", "(I)I"⟩, 104), (⟨"NoonSquareModel", "firstBy", "(II)I"⟩, 104)]
theorem lw_r7 : ∀ q ∈ lw_privs_7, lw_okq q := List.forall_mem_cons.mpr ⟨lw_p96, List.forall_mem_cons.mpr ⟨lw_p97, List.forall_mem_cons.mpr ⟨lw_p98, List.forall_mem_cons.mpr ⟨lw_p99, List.forall_mem_cons.mpr ⟨lw_p100, List.forall_mem_cons.mpr ⟨lw_p101, List.forall_mem_cons.mpr ⟨lw_p102, List.forall_mem_cons.mpr ⟨lw_p103, List.forall_mem_cons.mpr ⟨lw_p104, List.forall_mem_cons.mpr ⟨lw_p105, List.forall_mem_cons.mpr ⟨lw_p106, List.forall_mem_cons.mpr ⟨lw_p107, List.forall_mem_cons.mpr ⟨lw_p108, List.forall_mem_cons.mpr ⟨lw_p109, List.forall_mem_cons.mpr ⟨lw_p110, List.forall_mem_cons.mpr ⟨lw_p111, fun _ h => absurd h List.not_mem_nil⟩⟩⟩⟩⟩⟩⟩⟩⟩⟩⟩⟩⟩⟩⟩⟩
theorem lw_p112 : lw_okq (⟨"NoonSquareModel", "isThing", "(I)Z"⟩, 104) := ⟨⟨by decide +kernel, by decide +kernel⟩, List.mem_of_getElem? (i := 1152) (by decide +kernel), List.mem_of_getElem? (i := 1771) (by decide +kernel), List.mem_of_getElem? (i := 1772) (by decide +kernel)⟩
theorem lw_p113 : lw_okq (⟨"NoonSquareModel", "isPerson", "(I)Z"⟩, 104) := ⟨⟨by decide +kernel, by decide +kernel⟩, List.mem_of_getElem? (i := 1152) (by decide +kernel), List.mem_of_getElem? (i := 1779) (by decide +kernel), List.mem_of_getElem? (i := 1780) (by decide +kernel)⟩
theorem lw_p114 : lw_okq (⟨"NoonSquareModel", "ownedBy", "(I)I"⟩, 104) := ⟨⟨by decide +kernel, by decide +kernel⟩, List.mem_of_getElem? (i := 1152) (by decide +kernel), List.mem_of_getElem? (i := 1783) (by decide +kernel), List.mem_of_getElem? (i := 1784) (by decide +kernel)⟩
theorem lw_p115 : lw_okq (⟨"NoonSquareModel", "chanceIn", "(II)I"⟩, 104) := ⟨⟨by decide +kernel, by decide +kernel⟩, List.mem_of_getElem? (i := 1152) (by decide +kernel), List.mem_of_getElem? (i := 1804) (by decide +kernel), List.mem_of_getElem? (i := 1805) (by decide +kernel)⟩
theorem lw_p116 : lw_okq (⟨"NoonSquareModel", "seekThen", "(IZ)V"⟩, 104) := ⟨⟨by decide +kernel, by decide +kernel⟩, List.mem_of_getElem? (i := 1152) (by decide +kernel), List.mem_of_getElem? (i := 1808) (by decide +kernel), List.mem_of_getElem? (i := 1809) (by decide +kernel)⟩
theorem lw_p117 : lw_okq (⟨"NoonSquareModel", "put", "()V"⟩, 104) := ⟨⟨by decide +kernel, by decide +kernel⟩, List.mem_of_getElem? (i := 1152) (by decide +kernel), List.mem_of_getElem? (i := 1812) (by decide +kernel), List.mem_of_getElem? (i := 1813) (by decide +kernel)⟩
theorem lw_p118 : lw_okq (⟨"NoonSquareModel", "bring", "()V"⟩, 104) := ⟨⟨by decide +kernel, by decide +kernel⟩, List.mem_of_getElem? (i := 1152) (by decide +kernel), List.mem_of_getElem? (i := 1816) (by decide +kernel), List.mem_of_getElem? (i := 1817) (by decide +kernel)⟩
theorem lw_p119 : lw_okq (⟨"NoonSquareModel", "sixtieths", "(I)I"⟩, 104) := ⟨⟨by decide +kernel, by decide +kernel⟩, List.mem_of_getElem? (i := 1152) (by decide +kernel), List.mem_of_getElem? (i := 1820) (by decide +kernel), List.mem_of_getElem? (i := 1821) (by decide +kernel)⟩
theorem lw_p120 : lw_okq (⟨"NoonSquareModel", "isTooMany", "()Z"⟩, 104) := ⟨⟨by decide +kernel, by decide +kernel⟩, List.mem_of_getElem? (i := 1152) (by decide +kernel), List.mem_of_getElem? (i := 1836) (by decide +kernel), List.mem_of_getElem? (i := 1837) (by decide +kernel)⟩
theorem lw_p121 : lw_okq (⟨"NoonSquareModel", "seekRest", "(I)I"⟩, 104) := ⟨⟨by decide +kernel, by decide +kernel⟩, List.mem_of_getElem? (i := 1152) (by decide +kernel), List.mem_of_getElem? (i := 1840) (by decide +kernel), List.mem_of_getElem? (i := 1841) (by decide +kernel)⟩
theorem lw_p122 : lw_okq (⟨"NoonSquareModel", "layRow", "(I)Z"⟩, 104) := ⟨⟨by decide +kernel, by decide +kernel⟩, List.mem_of_getElem? (i := 1152) (by decide +kernel), List.mem_of_getElem? (i := 1844) (by decide +kernel), List.mem_of_getElem? (i := 1845) (by decide +kernel)⟩
theorem lw_p123 : lw_okq (⟨"NoonSquareModel", "choose", "(II)V"⟩, 104) := ⟨⟨by decide +kernel, by decide +kernel⟩, List.mem_of_getElem? (i := 1152) (by decide +kernel), List.mem_of_getElem? (i := 1848) (by decide +kernel), List.mem_of_getElem? (i := 1849) (by decide +kernel)⟩
theorem lw_p124 : lw_okq (⟨"NoonSquareModel", "mayStand", "(II)Z"⟩, 104) := ⟨⟨by decide +kernel, by decide +kernel⟩, List.mem_of_getElem? (i := 1152) (by decide +kernel), List.mem_of_getElem? (i := 1852) (by decide +kernel), List.mem_of_getElem? (i := 1853) (by decide +kernel)⟩
theorem lw_p125 : lw_okq (⟨"NoonSquareModel", "isAtRest", "()Z"⟩, 104) := ⟨⟨by decide +kernel, by decide +kernel⟩, List.mem_of_getElem? (i := 1152) (by decide +kernel), List.mem_of_getElem? (i := 1856) (by decide +kernel), List.mem_of_getElem? (i := 1857) (by decide +kernel)⟩
theorem lw_p126 : lw_okq (⟨"NoonSquareModel", "payOf", "(I)I"⟩, 104) := ⟨⟨by decide +kernel, by decide +kernel⟩, List.mem_of_getElem? (i := 1152) (by decide +kernel), List.mem_of_getElem? (i := 1860) (by decide +kernel), List.mem_of_getElem? (i := 1861) (by decide +kernel)⟩
theorem lw_p127 : lw_okq (⟨"NoonSquareModel", "lostOf", "(I)I"⟩, 104) := ⟨⟨by decide +kernel, by decide +kernel⟩, List.mem_of_getElem? (i := 1152) (by decide +kernel), List.mem_of_getElem? (i := 1864) (by decide +kernel), List.mem_of_getElem? (i := 1865) (by decide +kernel)⟩
def lw_privs_8 : List (MethodName × Nat) := [(⟨"NoonSquareModel", "isThing", "(I)Z"⟩, 104), (⟨"NoonSquareModel", "isPerson", "(I)Z"⟩, 104), (⟨"NoonSquareModel", "ownedBy", "(I)I"⟩, 104), (⟨"NoonSquareModel", "chanceIn", "(II)I"⟩, 104), (⟨"NoonSquareModel", "seekThen", "(IZ)V"⟩, 104), (⟨"NoonSquareModel", "put", "()V"⟩, 104), (⟨"NoonSquareModel", "bring", "()V"⟩, 104), (⟨"NoonSquareModel", "sixtieths", "(I)I"⟩, 104), (⟨"NoonSquareModel", "isTooMany", "()Z"⟩, 104), (⟨"NoonSquareModel", "seekRest", "(I)I"⟩, 104), (⟨"NoonSquareModel", "layRow", "(I)Z"⟩, 104), (⟨"NoonSquareModel", "choose", "(II)V"⟩, 104), (⟨"NoonSquareModel", "mayStand", "(II)Z"⟩, 104), (⟨"NoonSquareModel", "isAtRest", "()Z"⟩, 104), (⟨"NoonSquareModel", "payOf", "(I)I"⟩, 104), (⟨"NoonSquareModel", "lostOf", "(I)I"⟩, 104)]
theorem lw_r8 : ∀ q ∈ lw_privs_8, lw_okq q := List.forall_mem_cons.mpr ⟨lw_p112, List.forall_mem_cons.mpr ⟨lw_p113, List.forall_mem_cons.mpr ⟨lw_p114, List.forall_mem_cons.mpr ⟨lw_p115, List.forall_mem_cons.mpr ⟨lw_p116, List.forall_mem_cons.mpr ⟨lw_p117, List.forall_mem_cons.mpr ⟨lw_p118, List.forall_mem_cons.mpr ⟨lw_p119, List.forall_mem_cons.mpr ⟨lw_p120, List.forall_mem_cons.mpr ⟨lw_p121, List.forall_mem_cons.mpr ⟨lw_p122, List.forall_mem_cons.mpr ⟨lw_p123, List.forall_mem_cons.mpr ⟨lw_p124, List.forall_mem_cons.mpr ⟨lw_p125, List.forall_mem_cons.mpr ⟨lw_p126, List.forall_mem_cons.mpr ⟨lw_p127, fun _ h => absurd h List.not_mem_nil⟩⟩⟩⟩⟩⟩⟩⟩⟩⟩⟩⟩⟩⟩⟩⟩
theorem lw_p128 : lw_okq (⟨"NoonSquareModel", "madeBy", "(II)I"⟩, 104) := ⟨⟨by decide +kernel, by decide +kernel⟩, List.mem_of_getElem? (i := 1152) (by decide +kernel), List.mem_of_getElem? (i := 1879) (by decide +kernel), List.mem_of_getElem? (i := 1880) (by decide +kernel)⟩
theorem lw_p129 : lw_okq (⟨"NoonSquareModel", "bestUse", "(III)J"⟩, 104) := ⟨⟨by decide +kernel, by decide +kernel⟩, List.mem_of_getElem? (i := 1152) (by decide +kernel), List.mem_of_getElem? (i := 1891) (by decide +kernel), List.mem_of_getElem? (i := 1892) (by decide +kernel)⟩
theorem lw_p130 : lw_okq (⟨"NoonSquareModel", "usedOf", "(IIII)J"⟩, 104) := ⟨⟨by decide +kernel, by decide +kernel⟩, List.mem_of_getElem? (i := 1152) (by decide +kernel), List.mem_of_getElem? (i := 1896) (by decide +kernel), List.mem_of_getElem? (i := 1897) (by decide +kernel)⟩
theorem lw_p131 : lw_okq (⟨"NoonSquareModel", "hasThing", "(I)Z"⟩, 104) := ⟨⟨by decide +kernel, by decide +kernel⟩, List.mem_of_getElem? (i := 1152) (by decide +kernel), List.mem_of_getElem? (i := 1910) (by decide +kernel), List.mem_of_getElem? (i := 1911) (by decide +kernel)⟩
theorem lw_p132 : lw_okq (⟨"NoonSquareModel", "counts", "(II)Z"⟩, 104) := ⟨⟨by decide +kernel, by decide +kernel⟩, List.mem_of_getElem? (i := 1152) (by decide +kernel), List.mem_of_getElem? (i := 1935) (by decide +kernel), List.mem_of_getElem? (i := 1936) (by decide +kernel)⟩
theorem lw_p133 : lw_okq (⟨"NoonSquareModel", "isDouble", "(II)Z"⟩, 104) := ⟨⟨by decide +kernel, by decide +kernel⟩, List.mem_of_getElem? (i := 1152) (by decide +kernel), List.mem_of_getElem? (i := 1939) (by decide +kernel), List.mem_of_getElem? (i := 1940) (by decide +kernel)⟩
theorem lw_p134 : lw_okq (⟨"NoonSquareModel", "isFalse", "(I)Z"⟩, 104) := ⟨⟨by decide +kernel, by decide +kernel⟩, List.mem_of_getElem? (i := 1152) (by decide +kernel), List.mem_of_getElem? (i := 1943) (by decide +kernel), List.mem_of_getElem? (i := 1944) (by decide +kernel)⟩
def lw_privs_9 : List (MethodName × Nat) := [(⟨"NoonSquareModel", "madeBy", "(II)I"⟩, 104), (⟨"NoonSquareModel", "bestUse", "(III)J"⟩, 104), (⟨"NoonSquareModel", "usedOf", "(IIII)J"⟩, 104), (⟨"NoonSquareModel", "hasThing", "(I)Z"⟩, 104), (⟨"NoonSquareModel", "counts", "(II)Z"⟩, 104), (⟨"NoonSquareModel", "isDouble", "(II)Z"⟩, 104), (⟨"NoonSquareModel", "isFalse", "(I)Z"⟩, 104)]
theorem lw_r9 : ∀ q ∈ lw_privs_9, lw_okq q := List.forall_mem_cons.mpr ⟨lw_p128, List.forall_mem_cons.mpr ⟨lw_p129, List.forall_mem_cons.mpr ⟨lw_p130, List.forall_mem_cons.mpr ⟨lw_p131, List.forall_mem_cons.mpr ⟨lw_p132, List.forall_mem_cons.mpr ⟨lw_p133, List.forall_mem_cons.mpr ⟨lw_p134, fun _ h => absurd h List.not_mem_nil⟩⟩⟩⟩⟩⟩⟩
def lw_privs : List (MethodName × Nat) := lw_privs_1 ++ (lw_privs_2 ++ (lw_privs_3 ++ (lw_privs_4 ++ (lw_privs_5 ++ (lw_privs_6 ++ (lw_privs_7 ++ (lw_privs_8 ++ (lw_privs_9))))))))
def lw_tbl : List Cond := k2_sels lw_privs ++ tables_1
theorem lw_privs_ok : ∀ q ∈ lw_privs, lw_okq q := by
  show ∀ q ∈ lw_privs_1 ++ (lw_privs_2 ++ (lw_privs_3 ++ (lw_privs_4 ++ (lw_privs_5 ++ (lw_privs_6 ++ (lw_privs_7 ++ (lw_privs_8 ++ (lw_privs_9)))))))), lw_okq q
  exact List.forall_mem_append.mpr ⟨lw_r1, List.forall_mem_append.mpr ⟨lw_r2, List.forall_mem_append.mpr ⟨lw_r3, List.forall_mem_append.mpr ⟨lw_r4, List.forall_mem_append.mpr ⟨lw_r5, List.forall_mem_append.mpr ⟨lw_r6, List.forall_mem_append.mpr ⟨lw_r7, List.forall_mem_append.mpr ⟨lw_r8, lw_r9⟩⟩⟩⟩⟩⟩⟩⟩
-- names, as the command printed them of the program
def RX0 : String := "NoonSquare$Day"
def TX0 : u_T := fun k => match k with
  | 0 => ("NoonSquare$Day", "valley", "LNoonSquare$Valley;", true)
  | 1 => ("NoonSquare$Day", "facts", "[I", true)
  | 2 => ("NoonSquare$Day", "ownerBefore", "[I", true)
  | 3 => ("NoonSquare$Day", "crowdBefore", "[I", true)
  | 4 => ("NoonSquare$Day", "standsBy", "[I", true)
  | 5 => ("NoonSquare$Day", "walked", "[I", true)
  | _ => ("NoonSquare$Day", "takers", "[I", true)
def tyX0 : Nat → FieldType := fun k => match k with
  | 0 => .object "NoonSquare$Valley"
  | 1 => .array .int
  | 2 => .array .int
  | 3 => .array .int
  | 4 => .array .int
  | 5 => .array .int
  | _ => .array .int
theorem nmX0 : ∀ a, a < 7 → ∀ b, b < 7 → a ≠ b → (TX0 a).2.1 ≠ (TX0 b).2.1 := by decide +kernel
theorem tyX0_ok : ∀ k, k < 7 → parseFieldDescriptor (TX0 k).2.2.1 = some (tyX0 k) := by decide +kernel
abbrev cX0_init : ByteArray := prog_2_method_1_code
def yX0_init : MethodName := ⟨RX0, "<init>", "(LNoonSquare$Valley;)V"⟩
abbrev cX0_live : ByteArray := prog_2_method_2_code
def yX0_live : MethodName := ⟨RX0, "live", "(LNoonSquare$Now;I)I"⟩
abbrev cX0_use : ByteArray := prog_2_method_3_code
def yX0_use : MethodName := ⟨RX0, "use", "(LNoonSquare$Now;)I"⟩
abbrev cX0_wearDown : ByteArray := prog_2_method_4_code
def yX0_wearDown : MethodName := ⟨RX0, "wearDown", "(LNoonSquare$Now;II)V"⟩
abbrev cX0_mend : ByteArray := prog_2_method_5_code
def yX0_mend : MethodName := ⟨RX0, "mend", "(LNoonSquare$Now;)V"⟩
abbrev cX0_noons : ByteArray := prog_2_method_6_code
def yX0_noons : MethodName := ⟨RX0, "noons", "(LNoonSquare$Now;IZ)V"⟩
abbrev cX0_stoodAt : ByteArray := prog_2_method_7_code
def yX0_stoodAt : MethodName := ⟨RX0, "stoodAt", "(II)Z"⟩
abbrev cX0_remember : ByteArray := prog_2_method_8_code
def yX0_remember : MethodName := ⟨RX0, "remember", "(LNoonSquare$Now;)V"⟩
abbrev cX0_ask : ByteArray := prog_2_method_9_code
def yX0_ask : MethodName := ⟨RX0, "ask", "(LNoonSquare$Now;II)I"⟩
abbrev cX0_aim : ByteArray := prog_2_method_10_code
def yX0_aim : MethodName := ⟨RX0, "aim", "(LNoonSquare$Now;II)I"⟩
abbrev cX0_isInTime : ByteArray := prog_2_method_11_code
def yX0_isInTime : MethodName := ⟨RX0, "isInTime", "(LNoonSquare$Now;III)Z"⟩
abbrev cX0_setOut : ByteArray := prog_2_method_12_code
def yX0_setOut : MethodName := ⟨RX0, "setOut", "(LNoonSquare$Now;II)V"⟩
abbrev cX0_settle : ByteArray := prog_2_method_13_code
def yX0_settle : MethodName := ⟨RX0, "settle", "(LNoonSquare$Now;II)V"⟩
abbrev cX0_winner : ByteArray := prog_2_method_14_code
def yX0_winner : MethodName := ⟨RX0, "winner", "(LNoonSquare$Now;II)I"⟩
abbrev cX0_isAhead : ByteArray := prog_2_method_15_code
def yX0_isAhead : MethodName := ⟨RX0, "isAhead", "(III)Z"⟩
abbrev cX0_drawnOf : ByteArray := prog_2_method_16_code
def yX0_drawnOf : MethodName := ⟨RX0, "drawnOf", "(LNoonSquare$Now;I)I"⟩
def RX1 : String := "NoonSquare$Land"
def TX1 : u_T := fun k => match k with
  | 0 => ("NoonSquare$Land", "places", "I", false)
  | 1 => ("NoonSquare$Land", "roads", "I", false)
  | 2 => ("NoonSquare$Land", "names", "[J", true)
  | 3 => ("NoonSquare$Land", "noon", "[I", true)
  | 4 => ("NoonSquare$Land", "order", "[I", true)
  | 5 => ("NoonSquare$Land", "table", "[I", true)
  | _ => ("NoonSquare$Land", "chain", "[I", true)
def tyX1 : Nat → FieldType := fun k => match k with
  | 0 => .int
  | 1 => .int
  | 2 => .array .long
  | 3 => .array .int
  | 4 => .array .int
  | 5 => .array .int
  | _ => .array .int
theorem nmX1 : ∀ a, a < 7 → ∀ b, b < 7 → a ≠ b → (TX1 a).2.1 ≠ (TX1 b).2.1 := by decide +kernel
theorem tyX1_ok : ∀ k, k < 7 → parseFieldDescriptor (TX1 k).2.2.1 = some (tyX1 k) := by decide +kernel
abbrev cX1_init : ByteArray := prog_3_method_1_code
def yX1_init : MethodName := ⟨RX1, "<init>", "()V"⟩
abbrev cX1_clear : ByteArray := prog_3_method_2_code
def yX1_clear : MethodName := ⟨RX1, "clear", "()V"⟩
abbrev cX1_copyFrom : ByteArray := prog_3_method_3_code
def yX1_copyFrom : MethodName := ⟨RX1, "copyFrom", "(LNoonSquare$Land;)V"⟩
abbrev cX1_isJoined : ByteArray := prog_3_method_4_code
def yX1_isJoined : MethodName := ⟨RX1, "isJoined", "(II)Z"⟩
abbrev cX1_join : ByteArray := prog_3_method_5_code
def yX1_join : MethodName := ⟨RX1, "join", "(III)V"⟩
abbrev cX1_minutes : ByteArray := prog_3_method_6_code
def yX1_minutes : MethodName := ⟨RX1, "minutes", "(II)I"⟩
abbrev cX1_measure : ByteArray := prog_3_method_7_code
def yX1_measure : MethodName := ⟨RX1, "measure", "()V"⟩
abbrev cX1_turnOf : ByteArray := prog_3_method_8_code
def yX1_turnOf : MethodName := ⟨RX1, "turnOf", "(I)I"⟩
abbrev cX1_mostNoons : ByteArray := prog_3_method_9_code
def yX1_mostNoons : MethodName := ⟨RX1, "mostNoons", "(II)I"⟩
def RX2 : String := "NoonSquare$Now"
def TX2 : u_T := fun k => match k with
  | 0 => ("NoonSquare$Now", "days", "I", false)
  | 1 => ("NoonSquare$Now", "lateDays", "I", false)
  | 2 => ("NoonSquare$Now", "w", "I", false)
  | 3 => ("NoonSquare$Now", "owner", "[I", true)
  | 4 => ("NoonSquare$Now", "left", "[I", true)
  | 5 => ("NoonSquare$Now", "crowd", "[I", true)
  | 6 => ("NoonSquare$Now", "worth", "[I", true)
  | 7 => ("NoonSquare$Now", "eaten", "[Z", true)
  | 8 => ("NoonSquare$Now", "at", "[I", true)
  | 9 => ("NoonSquare$Now", "made", "[I", true)
  | _ => ("NoonSquare$Now", "kept", "[I", true)
def tyX2 : Nat → FieldType := fun k => match k with
  | 0 => .int
  | 1 => .int
  | 2 => .int
  | 3 => .array .int
  | 4 => .array .int
  | 5 => .array .int
  | 6 => .array .int
  | 7 => .array .boolean
  | 8 => .array .int
  | 9 => .array .int
  | _ => .array .int
theorem nmX2 : ∀ a, a < 11 → ∀ b, b < 11 → a ≠ b → (TX2 a).2.1 ≠ (TX2 b).2.1 := by decide +kernel
theorem tyX2_ok : ∀ k, k < 11 → parseFieldDescriptor (TX2 k).2.2.1 = some (tyX2 k) := by decide +kernel
abbrev cX2_init : ByteArray := prog_4_method_1_code
def yX2_init : MethodName := ⟨RX2, "<init>", "()V"⟩
abbrev cX2_beginIn : ByteArray := prog_4_method_2_code
def yX2_beginIn : MethodName := ⟨RX2, "beginIn", "(LNoonSquare$Valley;)V"⟩
abbrev cX2_copyFrom : ByteArray := prog_4_method_3_code
def yX2_copyFrom : MethodName := ⟨RX2, "copyFrom", "(LNoonSquare$Now;)V"⟩
abbrev cX2_draw : ByteArray := prog_4_method_4_code
def yX2_draw : MethodName := ⟨RX2, "draw", "(I)I"⟩
abbrev cX2_endDay : ByteArray := prog_4_method_5_code
def yX2_endDay : MethodName := ⟨RX2, "endDay", "()V"⟩
abbrev cX2_ownerBehind : ByteArray := prog_4_method_6_code
def yX2_ownerBehind : MethodName := ⟨RX2, "ownerBehind", "(II)I"⟩
def RX3 : String := "NoonSquare$Reader"
def TX3 : u_T := fun k => match k with
  | 0 => ("NoonSquare$Reader", "tokens", "LNoonSquare$Tokens;", true)
  | 1 => ("NoonSquare$Reader", "valley", "LNoonSquare$Valley;", true)
  | 2 => ("NoonSquare$Reader", "land", "LNoonSquare$Land;", true)
  | 3 => ("NoonSquare$Reader", "rules", "LNoonSquare$Rules;", true)
  | 4 => ("NoonSquare$Reader", "lawIsTold", "Z", false)
  | 5 => ("NoonSquare$Reader", "lateIsTold", "Z", false)
  | 6 => ("NoonSquare$Reader", "single", "[I", true)
  | 7 => ("NoonSquare$Reader", "fault", "I", false)
  | _ => ("NoonSquare$Reader", "faultPlace", "I", false)
def tyX3 : Nat → FieldType := fun k => match k with
  | 0 => .object "NoonSquare$Tokens"
  | 1 => .object "NoonSquare$Valley"
  | 2 => .object "NoonSquare$Land"
  | 3 => .object "NoonSquare$Rules"
  | 4 => .boolean
  | 5 => .boolean
  | 6 => .array .int
  | 7 => .int
  | _ => .int
theorem nmX3 : ∀ a, a < 9 → ∀ b, b < 9 → a ≠ b → (TX3 a).2.1 ≠ (TX3 b).2.1 := by decide +kernel
theorem tyX3_ok : ∀ k, k < 9 → parseFieldDescriptor (TX3 k).2.2.1 = some (tyX3 k) := by decide +kernel
abbrev cX3_init : ByteArray := prog_5_method_1_code
def yX3_init : MethodName := ⟨RX3, "<init>", "(LNoonSquare$Tape;LNoonSquare$Valley;)V"⟩
abbrev cX3_readTape : ByteArray := prog_5_method_2_code
def yX3_readTape : MethodName := ⟨RX3, "readTape", "()Z"⟩
abbrev cX3_refuse : ByteArray := prog_5_method_3_code
def yX3_refuse : MethodName := ⟨RX3, "refuse", "(I)Z"⟩
abbrev cX3_line : ByteArray := prog_5_method_4_code
def yX3_line : MethodName := ⟨RX3, "line", "()Z"⟩
abbrev cX3_placeLine : ByteArray := prog_5_method_5_code
def yX3_placeLine : MethodName := ⟨RX3, "placeLine", "()Z"⟩
abbrev cX3_roadLine : ByteArray := prog_5_method_6_code
def yX3_roadLine : MethodName := ⟨RX3, "roadLine", "()Z"⟩
abbrev cX3_thingLine : ByteArray := prog_5_method_7_code
def yX3_thingLine : MethodName := ⟨RX3, "thingLine", "()Z"⟩
abbrev cX3_personLine : ByteArray := prog_5_method_8_code
def yX3_personLine : MethodName := ⟨RX3, "personLine", "()Z"⟩
abbrev cX3_lawLine : ByteArray := prog_5_method_9_code
def yX3_lawLine : MethodName := ⟨RX3, "lawLine", "()Z"⟩
abbrev cX3_lateLine : ByteArray := prog_5_method_10_code
def yX3_lateLine : MethodName := ⟨RX3, "lateLine", "()Z"⟩
abbrev cX3_word : ByteArray := prog_5_method_11_code
def yX3_word : MethodName := ⟨RX3, "word", "(I)Z"⟩
abbrev cX3_sign : ByteArray := prog_5_method_12_code
def yX3_sign : MethodName := ⟨RX3, "sign", "(I)Z"⟩
abbrev cX3_number : ByteArray := prog_5_method_13_code
def yX3_number : MethodName := ⟨RX3, "number", "([IIIII)Z"⟩
abbrev cX3_newName : ByteArray := prog_5_method_14_code
def yX3_newName : MethodName := ⟨RX3, "newName", "([JI)Z"⟩
abbrev cX3_atPlace : ByteArray := prog_5_method_15_code
def yX3_atPlace : MethodName := ⟨RX3, "atPlace", "([II)Z"⟩
abbrev cX3_placeHere : ByteArray := prog_5_method_16_code
def yX3_placeHere : MethodName := ⟨RX3, "placeHere", "()I"⟩
abbrev cX3_either : ByteArray := prog_5_method_17_code
def yX3_either : MethodName := ⟨RX3, "either", "(I)Z"⟩
abbrev cX3_both : ByteArray := prog_5_method_18_code
def yX3_both : MethodName := ⟨RX3, "both", "(I)Z"⟩
abbrev cX3_one : ByteArray := prog_5_method_19_code
def yX3_one : MethodName := ⟨RX3, "one", "(I)Z"⟩
abbrev cX3_negated : ByteArray := prog_5_method_20_code
def yX3_negated : MethodName := ⟨RX3, "negated", "(I)Z"⟩
abbrev cX3_sum : ByteArray := prog_5_method_21_code
def yX3_sum : MethodName := ⟨RX3, "sum", "(I)Z"⟩
abbrev cX3_term : ByteArray := prog_5_method_22_code
def yX3_term : MethodName := ⟨RX3, "term", "(I)Z"⟩
abbrev cX3_unit : ByteArray := prog_5_method_23_code
def yX3_unit : MethodName := ⟨RX3, "unit", "(I)Z"⟩
abbrev cX3_enclosed : ByteArray := prog_5_method_24_code
def yX3_enclosed : MethodName := ⟨RX3, "enclosed", "(I)Z"⟩
def RX4 : String := "NoonSquare$Rules"
def TX4 : u_T := fun k => match k with
  | 0 => ("NoonSquare$Rules", "units", "I", false)
  | 1 => ("NoonSquare$Rules", "length", "I", false)
  | 2 => ("NoonSquare$Rules", "start", "[I", true)
  | 3 => ("NoonSquare$Rules", "end", "[I", true)
  | 4 => ("NoonSquare$Rules", "steps", "[I", true)
  | _ => ("NoonSquare$Rules", "stack", "[I", true)
def tyX4 : Nat → FieldType := fun k => match k with
  | 0 => .int
  | 1 => .int
  | 2 => .array .int
  | 3 => .array .int
  | 4 => .array .int
  | _ => .array .int
theorem nmX4 : ∀ a, a < 6 → ∀ b, b < 6 → a ≠ b → (TX4 a).2.1 ≠ (TX4 b).2.1 := by decide +kernel
theorem tyX4_ok : ∀ k, k < 6 → parseFieldDescriptor (TX4 k).2.2.1 = some (tyX4 k) := by decide +kernel
abbrev cX4_init : ByteArray := prog_6_method_1_code
def yX4_init : MethodName := ⟨RX4, "<init>", "()V"⟩
abbrev cX4_clear : ByteArray := prog_6_method_2_code
def yX4_clear : MethodName := ⟨RX4, "clear", "()V"⟩
abbrev cX4_copyFrom : ByteArray := prog_6_method_3_code
def yX4_copyFrom : MethodName := ⟨RX4, "copyFrom", "(LNoonSquare$Rules;)V"⟩
abbrev cX4_add : ByteArray := prog_6_method_4_code
def yX4_add : MethodName := ⟨RX4, "add", "(I)V"⟩
abbrev cX4_value : ByteArray := prog_6_method_5_code
def yX4_value : MethodName := ⟨RX4, "value", "(I[I)I"⟩
def RX5 : String := "NoonSquare$Standings"
def TX5 : u_T := fun k => match k with
  | 0 => ("NoonSquare$Standings", "valley", "LNoonSquare$Valley;", true)
  | 1 => ("NoonSquare$Standings", "now", "LNoonSquare$Now;", true)
  | 2 => ("NoonSquare$Standings", "choices", "[I", true)
  | 3 => ("NoonSquare$Standings", "choiceCount", "[I", true)
  | 4 => ("NoonSquare$Standings", "turn", "[I", true)
  | 5 => ("NoonSquare$Standings", "choice", "[I", true)
  | 6 => ("NoonSquare$Standings", "count", "I", false)
  | 7 => ("NoonSquare$Standings", "mostPay", "I", false)
  | _ => ("NoonSquare$Standings", "leastLost", "I", false)
def tyX5 : Nat → FieldType := fun k => match k with
  | 0 => .object "NoonSquare$Valley"
  | 1 => .object "NoonSquare$Now"
  | 2 => .array .int
  | 3 => .array .int
  | 4 => .array .int
  | 5 => .array .int
  | 6 => .int
  | 7 => .int
  | _ => .int
theorem nmX5 : ∀ a, a < 9 → ∀ b, b < 9 → a ≠ b → (TX5 a).2.1 ≠ (TX5 b).2.1 := by decide +kernel
theorem tyX5_ok : ∀ k, k < 9 → parseFieldDescriptor (TX5 k).2.2.1 = some (tyX5 k) := by decide +kernel
abbrev cX5_init : ByteArray := prog_7_method_1_code
def yX5_init : MethodName := ⟨RX5, "<init>", "(LNoonSquare$Valley;LNoonSquare$Now;)V"⟩
abbrev cX5_isSpent : ByteArray := prog_7_method_2_code
def yX5_isSpent : MethodName := ⟨RX5, "isSpent", "()Z"⟩
abbrev cX5_seek : ByteArray := prog_7_method_3_code
def yX5_seek : MethodName := ⟨RX5, "seek", "(I)Z"⟩
abbrev cX5_listChoices : ByteArray := prog_7_method_4_code
def yX5_listChoices : MethodName := ⟨RX5, "listChoices", "()V"⟩
abbrev cX5_addChoice : ByteArray := prog_7_method_5_code
def yX5_addChoice : MethodName := ⟨RX5, "addChoice", "(II)V"⟩
abbrev cX5_choose : ByteArray := prog_7_method_6_code
def yX5_choose : MethodName := ⟨RX5, "choose", "(II)V"⟩
abbrev cX5_choiceOf : ByteArray := prog_7_method_7_code
def yX5_choiceOf : MethodName := ⟨RX5, "choiceOf", "(II)I"⟩
abbrev cX5_goOn : ByteArray := prog_7_method_8_code
def yX5_goOn : MethodName := ⟨RX5, "goOn", "()Z"⟩
abbrev cX5_isAtRest : ByteArray := prog_7_method_9_code
def yX5_isAtRest : MethodName := ⟨RX5, "isAtRest", "()Z"⟩
abbrev cX5_payFor : ByteArray := prog_7_method_10_code
def yX5_payFor : MethodName := ⟨RX5, "payFor", "(II)I"⟩
abbrev cX5_isAhead : ByteArray := prog_7_method_11_code
def yX5_isAhead : MethodName := ⟨RX5, "isAhead", "(III)Z"⟩
abbrev cX5_walk : ByteArray := prog_7_method_12_code
def yX5_walk : MethodName := ⟨RX5, "walk", "(II)I"⟩
abbrev cX5_payOfAll : ByteArray := prog_7_method_13_code
def yX5_payOfAll : MethodName := ⟨RX5, "payOfAll", "()I"⟩
abbrev cX5_lost : ByteArray := prog_7_method_14_code
def yX5_lost : MethodName := ⟨RX5, "lost", "()I"⟩
def RX6 : String := "NoonSquare$Tales"
def TX6 : u_T := fun k => match k with
  | 0 => ("NoonSquare$Tales", "count", "I", false)
  | 1 => ("NoonSquare$Tales", "day", "[I", true)
  | 2 => ("NoonSquare$Tales", "thing", "[I", true)
  | 3 => ("NoonSquare$Tales", "person", "[I", true)
  | 4 => ("NoonSquare$Tales", "toldAt", "[I", true)
  | _ => ("NoonSquare$Tales", "untoldAt", "[I", true)
def tyX6 : Nat → FieldType := fun k => match k with
  | 0 => .int
  | 1 => .array .int
  | 2 => .array .int
  | 3 => .array .int
  | 4 => .array .int
  | _ => .array .int
theorem nmX6 : ∀ a, a < 6 → ∀ b, b < 6 → a ≠ b → (TX6 a).2.1 ≠ (TX6 b).2.1 := by decide +kernel
theorem tyX6_ok : ∀ k, k < 6 → parseFieldDescriptor (TX6 k).2.2.1 = some (tyX6 k) := by decide +kernel
abbrev cX6_init : ByteArray := prog_8_method_1_code
def yX6_init : MethodName := ⟨RX6, "<init>", "()V"⟩
abbrev cX6_add : ByteArray := prog_8_method_2_code
def yX6_add : MethodName := ⟨RX6, "add", "(IIII)I"⟩
abbrev cX6_takeBack : ByteArray := prog_8_method_3_code
def yX6_takeBack : MethodName := ⟨RX6, "takeBack", "(II)Z"⟩
abbrev cX6_counts : ByteArray := prog_8_method_4_code
def yX6_counts : MethodName := ⟨RX6, "counts", "(II)Z"⟩
abbrev cX6_isFalse : ByteArray := prog_8_method_5_code
def yX6_isFalse : MethodName := ⟨RX6, "isFalse", "(ILNoonSquare$Now;)Z"⟩
abbrev cX6_countFalse : ByteArray := prog_8_method_6_code
def yX6_countFalse : MethodName := ⟨RX6, "countFalse", "(LNoonSquare$Now;I)I"⟩
abbrev cX6_countOpen : ByteArray := prog_8_method_7_code
def yX6_countOpen : MethodName := ⟨RX6, "countOpen", "(LNoonSquare$Now;I)I"⟩
abbrev cX6_firstFalse : ByteArray := prog_8_method_8_code
def yX6_firstFalse : MethodName := ⟨RX6, "firstFalse", "(LNoonSquare$Now;I)I"⟩
abbrev cX6_firstDouble : ByteArray := prog_8_method_9_code
def yX6_firstDouble : MethodName := ⟨RX6, "firstDouble", "(I)I"⟩
abbrev cX6_contradictsEarlier : ByteArray := prog_8_method_10_code
def yX6_contradictsEarlier : MethodName := ⟨RX6, "contradictsEarlier", "(II)Z"⟩
def RX7 : String := "NoonSquare$Tape"
def TX7 : u_T := fun k => match k with
  | 0 => ("NoonSquare$Tape", "bytes", "[B", true)
  | _ => ("NoonSquare$Tape", "length", "I", false)
def tyX7 : Nat → FieldType := fun k => match k with
  | 0 => .array .byte
  | _ => .int
theorem nmX7 : ∀ a, a < 2 → ∀ b, b < 2 → a ≠ b → (TX7 a).2.1 ≠ (TX7 b).2.1 := by decide +kernel
theorem tyX7_ok : ∀ k, k < 2 → parseFieldDescriptor (TX7 k).2.2.1 = some (tyX7 k) := by decide +kernel
abbrev cX7_init : ByteArray := prog_9_method_1_code
def yX7_init : MethodName := ⟨RX7, "<init>", "()V"⟩
abbrev cX7_add : ByteArray := prog_9_method_2_code
def yX7_add : MethodName := ⟨RX7, "add", "(I)V"⟩
abbrev cX7_byteAt : ByteArray := prog_9_method_3_code
def yX7_byteAt : MethodName := ⟨RX7, "byteAt", "(I)I"⟩
def RX8 : String := "NoonSquare$Tokens"
def TX8 : u_T := fun k => match k with
  | 0 => ("NoonSquare$Tokens", "tape", "LNoonSquare$Tape;", true)
  | 1 => ("NoonSquare$Tokens", "wordLetters", "[J", true)
  | 2 => ("NoonSquare$Tokens", "next", "I", false)
  | 3 => ("NoonSquare$Tokens", "kind", "I", false)
  | 4 => ("NoonSquare$Tokens", "place", "I", false)
  | 5 => ("NoonSquare$Tokens", "value", "I", false)
  | _ => ("NoonSquare$Tokens", "letters", "J", false)
def tyX8 : Nat → FieldType := fun k => match k with
  | 0 => .object "NoonSquare$Tape"
  | 1 => .array .long
  | 2 => .int
  | 3 => .int
  | 4 => .int
  | 5 => .int
  | _ => .long
theorem nmX8 : ∀ a, a < 7 → ∀ b, b < 7 → a ≠ b → (TX8 a).2.1 ≠ (TX8 b).2.1 := by decide +kernel
theorem tyX8_ok : ∀ k, k < 7 → parseFieldDescriptor (TX8 k).2.2.1 = some (tyX8 k) := by decide +kernel
abbrev cX8_init : ByteArray := prog_10_method_1_code
def yX8_init : MethodName := ⟨RX8, "<init>", "(LNoonSquare$Tape;)V"⟩
abbrev cX8_begin : ByteArray := prog_10_method_2_code
def yX8_begin : MethodName := ⟨RX8, "begin", "()V"⟩
abbrev cX8_step : ByteArray := prog_10_method_3_code
def yX8_step : MethodName := ⟨RX8, "step", "()V"⟩
abbrev cX8_isWord : ByteArray := prog_10_method_4_code
def yX8_isWord : MethodName := ⟨RX8, "isWord", "(I)Z"⟩
abbrev cX8_isSign : ByteArray := prog_10_method_5_code
def yX8_isSign : MethodName := ⟨RX8, "isSign", "(I)Z"⟩
abbrev cX8_skipBlanks : ByteArray := prog_10_method_6_code
def yX8_skipBlanks : MethodName := ⟨RX8, "skipBlanks", "()V"⟩
abbrev cX8_readWord : ByteArray := prog_10_method_7_code
def yX8_readWord : MethodName := ⟨RX8, "readWord", "()V"⟩
abbrev cX8_readNumber : ByteArray := prog_10_method_8_code
def yX8_readNumber : MethodName := ⟨RX8, "readNumber", "()V"⟩
abbrev cX8_withLetter : ByteArray := prog_10_method_9_code
def yX8_withLetter : MethodName := ⟨RX8, "withLetter", "(JI)J"⟩
abbrev cX8_isLetter : ByteArray := prog_10_method_10_code
def yX8_isLetter : MethodName := ⟨RX8, "isLetter", "(I)Z"⟩
abbrev cX8_isDigit : ByteArray := prog_10_method_11_code
def yX8_isDigit : MethodName := ⟨RX8, "isDigit", "(I)Z"⟩
abbrev cX8_isSignByte : ByteArray := prog_10_method_12_code
def yX8_isSignByte : MethodName := ⟨RX8, "isSignByte", "(I)Z"⟩
def RX9 : String := "NoonSquare$Trial"
def TX9 : u_T := fun k => match k with
  | 0 => ("NoonSquare$Trial", "valley", "LNoonSquare$Valley;", true)
  | 1 => ("NoonSquare$Trial", "day", "LNoonSquare$Day;", true)
  | 2 => ("NoonSquare$Trial", "copy", "LNoonSquare$Now;", true)
  | 3 => ("NoonSquare$Trial", "mostOfLeft", "[J", true)
  | 4 => ("NoonSquare$Trial", "upper", "I", false)
  | 5 => ("NoonSquare$Trial", "lower", "I", false)
  | _ => ("NoonSquare$Trial", "hard", "I", false)
def tyX9 : Nat → FieldType := fun k => match k with
  | 0 => .object "NoonSquare$Valley"
  | 1 => .object "NoonSquare$Day"
  | 2 => .object "NoonSquare$Now"
  | 3 => .array .long
  | 4 => .int
  | 5 => .int
  | _ => .int
theorem nmX9 : ∀ a, a < 7 → ∀ b, b < 7 → a ≠ b → (TX9 a).2.1 ≠ (TX9 b).2.1 := by decide +kernel
theorem tyX9_ok : ∀ k, k < 7 → parseFieldDescriptor (TX9 k).2.2.1 = some (tyX9 k) := by decide +kernel
abbrev cX9_init : ByteArray := prog_11_method_1_code
def yX9_init : MethodName := ⟨RX9, "<init>", "(LNoonSquare$Valley;LNoonSquare$Day;)V"⟩
abbrev cX9_madeBy : ByteArray := prog_11_method_2_code
def yX9_madeBy : MethodName := ⟨RX9, "madeBy", "(LNoonSquare$Now;II)I"⟩
abbrev cX9_madeKept : ByteArray := prog_11_method_3_code
def yX9_madeKept : MethodName := ⟨RX9, "madeKept", "(LNoonSquare$Now;I)I"⟩
abbrev cX9_weigh : ByteArray := prog_11_method_4_code
def yX9_weigh : MethodName := ⟨RX9, "weigh", "(LNoonSquare$Now;III)Z"⟩
abbrev cX9_beginDay : ByteArray := prog_11_method_5_code
def yX9_beginDay : MethodName := ⟨RX9, "beginDay", "(LNoonSquare$Now;II)V"⟩
abbrev cX9_isDrawn : ByteArray := prog_11_method_6_code
def yX9_isDrawn : MethodName := ⟨RX9, "isDrawn", "(I)Z"⟩
abbrev cX9_lotsFor : ByteArray := prog_11_method_7_code
def yX9_lotsFor : MethodName := ⟨RX9, "lotsFor", "(I)I"⟩
abbrev cX9_isHis : ByteArray := prog_11_method_8_code
def yX9_isHis : MethodName := ⟨RX9, "isHis", "(II)Z"⟩
abbrev cX9_commonDivisor : ByteArray := prog_11_method_9_code
def yX9_commonDivisor : MethodName := ⟨RX9, "commonDivisor", "(II)I"⟩
abbrev cX9_useWell : ByteArray := prog_11_method_10_code
def yX9_useWell : MethodName := ⟨RX9, "useWell", "(LNoonSquare$Now;III)I"⟩
abbrev cX9_mostOfDay : ByteArray := prog_11_method_11_code
def yX9_mostOfDay : MethodName := ⟨RX9, "mostOfDay", "(LNoonSquare$Now;III)J"⟩
def RX10 : String := "NoonSquare$Valley"
def TX10 : u_T := fun k => match k with
  | 0 => ("NoonSquare$Valley", "land", "LNoonSquare$Land;", true)
  | 1 => ("NoonSquare$Valley", "rules", "LNoonSquare$Rules;", true)
  | 2 => ("NoonSquare$Valley", "things", "I", false)
  | 3 => ("NoonSquare$Valley", "people", "I", false)
  | 4 => ("NoonSquare$Valley", "law", "I", false)
  | 5 => ("NoonSquare$Valley", "late", "I", false)
  | 6 => ("NoonSquare$Valley", "thingNames", "[J", true)
  | 7 => ("NoonSquare$Valley", "thingPlace", "[I", true)
  | 8 => ("NoonSquare$Valley", "worth", "[I", true)
  | 9 => ("NoonSquare$Valley", "wear", "[I", true)
  | 10 => ("NoonSquare$Valley", "heavy", "[I", true)
  | 11 => ("NoonSquare$Valley", "isFood", "[Z", true)
  | 12 => ("NoonSquare$Valley", "personNames", "[J", true)
  | 13 => ("NoonSquare$Valley", "personPlace", "[I", true)
  | 14 => ("NoonSquare$Valley", "craft", "[I", true)
  | 15 => ("NoonSquare$Valley", "force", "[I", true)
  | _ => ("NoonSquare$Valley", "hard", "[I", true)
def tyX10 : Nat → FieldType := fun k => match k with
  | 0 => .object "NoonSquare$Land"
  | 1 => .object "NoonSquare$Rules"
  | 2 => .int
  | 3 => .int
  | 4 => .int
  | 5 => .int
  | 6 => .array .long
  | 7 => .array .int
  | 8 => .array .int
  | 9 => .array .int
  | 10 => .array .int
  | 11 => .array .boolean
  | 12 => .array .long
  | 13 => .array .int
  | 14 => .array .int
  | 15 => .array .int
  | _ => .array .int
theorem nmX10 : ∀ a, a < 17 → ∀ b, b < 17 → a ≠ b → (TX10 a).2.1 ≠ (TX10 b).2.1 := by decide +kernel
theorem tyX10_ok : ∀ k, k < 17 → parseFieldDescriptor (TX10 k).2.2.1 = some (tyX10 k) := by decide +kernel
abbrev cX10_init : ByteArray := prog_12_method_1_code
def yX10_init : MethodName := ⟨RX10, "<init>", "()V"⟩
abbrev cX10_clear : ByteArray := prog_12_method_2_code
def yX10_clear : MethodName := ⟨RX10, "clear", "()V"⟩
abbrev cX10_copyFrom : ByteArray := prog_12_method_3_code
def yX10_copyFrom : MethodName := ⟨RX10, "copyFrom", "(LNoonSquare$Valley;)V"⟩
abbrev cX10_isTaker : ByteArray := prog_12_method_4_code
def yX10_isTaker : MethodName := ⟨RX10, "isTaker", "(II)Z"⟩
def RX11 : String := "NoonSquare"
def TX11 : u_T := fun k => match k with
  | 0 => ("NoonSquare", "tape", "LNoonSquare$Tape;", true)
  | 1 => ("NoonSquare", "told", "LNoonSquare$Valley;", true)
  | 2 => ("NoonSquare", "draft", "LNoonSquare$Valley;", true)
  | 3 => ("NoonSquare", "reader", "LNoonSquare$Reader;", true)
  | 4 => ("NoonSquare", "now", "LNoonSquare$Now;", true)
  | 5 => ("NoonSquare", "day", "LNoonSquare$Day;", true)
  | 6 => ("NoonSquare", "trial", "LNoonSquare$Trial;", true)
  | 7 => ("NoonSquare", "standings", "LNoonSquare$Standings;", true)
  | 8 => ("NoonSquare", "tales", "LNoonSquare$Tales;", true)
  | 9 => ("NoonSquare", "boxes", "[LNoonSquare$Now;", true)
  | 10 => ("NoonSquare", "boxIsFull", "[Z", true)
  | _ => ("NoonSquare", "time", "I", false)
def tyX11 : Nat → FieldType := fun k => match k with
  | 0 => .object "NoonSquare$Tape"
  | 1 => .object "NoonSquare$Valley"
  | 2 => .object "NoonSquare$Valley"
  | 3 => .object "NoonSquare$Reader"
  | 4 => .object "NoonSquare$Now"
  | 5 => .object "NoonSquare$Day"
  | 6 => .object "NoonSquare$Trial"
  | 7 => .object "NoonSquare$Standings"
  | 8 => .object "NoonSquare$Tales"
  | 9 => .array (.object "NoonSquare$Now")
  | 10 => .array .boolean
  | _ => .int
theorem nmX11 : ∀ a, a < 12 → ∀ b, b < 12 → a ≠ b → (TX11 a).2.1 ≠ (TX11 b).2.1 := by decide +kernel
theorem tyX11_ok : ∀ k, k < 12 → parseFieldDescriptor (TX11 k).2.2.1 = some (tyX11 k) := by decide +kernel
abbrev cX11_init : ByteArray := prog_1_method_1_code
def yX11_init : MethodName := ⟨RX11, "<init>", "()V"⟩
abbrev cX11_feed : ByteArray := prog_1_method_2_code
def yX11_feed : MethodName := ⟨RX11, "feed", "(IIIII)I"⟩
abbrev cX11_end : ByteArray := prog_1_method_3_code
def yX11_end : MethodName := ⟨RX11, "end", "(I)I"⟩
abbrev cX11_valley : ByteArray := prog_1_method_4_code
def yX11_valley : MethodName := ⟨RX11, "valley", "()I"⟩
abbrev cX11_fault : ByteArray := prog_1_method_5_code
def yX11_fault : MethodName := ⟨RX11, "fault", "(I)I"⟩
abbrev cX11_run : ByteArray := prog_1_method_6_code
def yX11_run : MethodName := ⟨RX11, "run", "(I)I"⟩
abbrev cX11_thing : ByteArray := prog_1_method_7_code
def yX11_thing : MethodName := ⟨RX11, "thing", "(II)I"⟩
abbrev cX11_person : ByteArray := prog_1_method_8_code
def yX11_person : MethodName := ⟨RX11, "person", "(II)I"⟩
abbrev cX11_far : ByteArray := prog_1_method_9_code
def yX11_far : MethodName := ⟨RX11, "far", "(II)I"⟩
abbrev cX11_give : ByteArray := prog_1_method_10_code
def yX11_give : MethodName := ⟨RX11, "give", "(II)Z"⟩
abbrev cX11_chip : ByteArray := prog_1_method_11_code
def yX11_chip : MethodName := ⟨RX11, "chip", "(II)I"⟩
abbrev cX11_asks : ByteArray := prog_1_method_12_code
def yX11_asks : MethodName := ⟨RX11, "asks", "(II)I"⟩
abbrev cX11_chance : ByteArray := prog_1_method_13_code
def yX11_chance : MethodName := ⟨RX11, "chance", "(III)I"⟩
abbrev cX11_rest : ByteArray := prog_1_method_14_code
def yX11_rest : MethodName := ⟨RX11, "rest", "(I)I"⟩
abbrev cX11_stands : ByteArray := prog_1_method_15_code
def yX11_stands : MethodName := ⟨RX11, "stands", "(II)I"⟩
abbrev cX11_made : ByteArray := prog_1_method_16_code
def yX11_made : MethodName := ⟨RX11, "made", "(II)I"⟩
abbrev cX11_law : ByteArray := prog_1_method_17_code
def yX11_law : MethodName := ⟨RX11, "law", "(I)I"⟩
abbrev cX11_used : ByteArray := prog_1_method_18_code
def yX11_used : MethodName := ⟨RX11, "used", "(IIII)I"⟩
abbrev cX11_keeps : ByteArray := prog_1_method_19_code
def yX11_keeps : MethodName := ⟨RX11, "keeps", "(I)I"⟩
abbrev cX11_lift : ByteArray := prog_1_method_20_code
def yX11_lift : MethodName := ⟨RX11, "lift", "(II)I"⟩
abbrev cX11_tour : ByteArray := prog_1_method_21_code
def yX11_tour : MethodName := ⟨RX11, "tour", "(I)I"⟩
abbrev cX11_since : ByteArray := prog_1_method_22_code
def yX11_since : MethodName := ⟨RX11, "since", "(I)I"⟩
abbrev cX11_tale : ByteArray := prog_1_method_23_code
def yX11_tale : MethodName := ⟨RX11, "tale", "(III)I"⟩
abbrev cX11_untell : ByteArray := prog_1_method_24_code
def yX11_untell : MethodName := ⟨RX11, "untell", "(I)Z"⟩
abbrev cX11_later : ByteArray := prog_1_method_25_code
def yX11_later : MethodName := ⟨RX11, "later", "(I)I"⟩
abbrev cX11_judge : ByteArray := prog_1_method_26_code
def yX11_judge : MethodName := ⟨RX11, "judge", "(II)I"⟩
abbrev cX11_seed : ByteArray := prog_1_method_27_code
def yX11_seed : MethodName := ⟨RX11, "seed", "(I)I"⟩
abbrev cX11_image : ByteArray := prog_1_method_28_code
def yX11_image : MethodName := ⟨RX11, "image", "(I)I"⟩
abbrev cX11_back : ByteArray := prog_1_method_29_code
def yX11_back : MethodName := ⟨RX11, "back", "(I)I"⟩
abbrev cX11_about : ByteArray := prog_1_method_30_code
def yX11_about : MethodName := ⟨RX11, "about", "(I)I"⟩
abbrev cX11_isPlace : ByteArray := prog_1_method_31_code
def yX11_isPlace : MethodName := ⟨RX11, "isPlace", "(I)Z"⟩
abbrev cX11_isThing : ByteArray := prog_1_method_32_code
def yX11_isThing : MethodName := ⟨RX11, "isThing", "(I)Z"⟩
abbrev cX11_isPerson : ByteArray := prog_1_method_33_code
def yX11_isPerson : MethodName := ⟨RX11, "isPerson", "(I)Z"⟩
abbrev cX11_isPersonOrNobody : ByteArray := prog_1_method_34_code
def yX11_isPersonOrNobody : MethodName := ⟨RX11, "isPersonOrNobody", "(I)Z"⟩
abbrev cX11_thingsOf : ByteArray := prog_1_method_35_code
def yX11_thingsOf : MethodName := ⟨RX11, "thingsOf", "(I)I"⟩
def RX12 : String := "NoonSquareModel"
def TX12 : u_T := fun k => match k with
  | 0 => ("NoonSquareModel", "tape", "[I", true)
  | 1 => ("NoonSquareModel", "taped", "I", false)
  | 2 => ("NoonSquareModel", "fault", "I", false)
  | 3 => ("NoonSquareModel", "faultPlace", "I", false)
  | 4 => ("NoonSquareModel", "at", "I", false)
  | 5 => ("NoonSquareModel", "size", "I", false)
  | 6 => ("NoonSquareModel", "sort", "I", false)
  | 7 => ("NoonSquareModel", "place", "I", false)
  | 8 => ("NoonSquareModel", "number", "I", false)
  | 9 => ("NoonSquareModel", "word", "J", false)
  | 10 => ("NoonSquareModel", "nWhat", "[I", true)
  | 11 => ("NoonSquareModel", "nNumber", "[I", true)
  | 12 => ("NoonSquareModel", "nBegin", "[I", true)
  | 13 => ("NoonSquareModel", "whats", "[I", true)
  | 14 => ("NoonSquareModel", "numbers", "[I", true)
  | 15 => ("NoonSquareModel", "begin", "[I", true)
  | 16 => ("NoonSquareModel", "waits", "[I", true)
  | 17 => ("NoonSquareModel", "pile", "[I", true)
  | 18 => ("NoonSquareModel", "asked", "[I", true)
  | 19 => ("NoonSquareModel", "nNotes", "I", false)
  | 20 => ("NoonSquareModel", "nUnits", "I", false)
  | 21 => ("NoonSquareModel", "units", "I", false)
  | 22 => ("NoonSquareModel", "waiting", "I", false)
  | 23 => ("NoonSquareModel", "deep", "I", false)
  | 24 => ("NoonSquareModel", "nPlaceName", "[J", true)
  | 25 => ("NoonSquareModel", "nThingName", "[J", true)
  | 26 => ("NoonSquareModel", "nPersonName", "[J", true)
  | 27 => ("NoonSquareModel", "nNoon", "[I", true)
  | 28 => ("NoonSquareModel", "nWay", "[I", true)
  | 29 => ("NoonSquareModel", "nThing", "[I", true)
  | 30 => ("NoonSquareModel", "nPerson", "[I", true)
  | 31 => ("NoonSquareModel", "noons", "[I", true)
  | 32 => ("NoonSquareModel", "ways", "[I", true)
  | 33 => ("NoonSquareModel", "far", "[I", true)
  | 34 => ("NoonSquareModel", "things", "[I", true)
  | 35 => ("NoonSquareModel", "persons", "[I", true)
  | 36 => ("NoonSquareModel", "nPlaces", "I", false)
  | 37 => ("NoonSquareModel", "nRoads", "I", false)
  | 38 => ("NoonSquareModel", "nThings", "I", false)
  | 39 => ("NoonSquareModel", "nPeople", "I", false)
  | 40 => ("NoonSquareModel", "nLaw", "I", false)
  | 41 => ("NoonSquareModel", "nLate", "I", false)
  | 42 => ("NoonSquareModel", "places", "I", false)
  | 43 => ("NoonSquareModel", "roads", "I", false)
  | 44 => ("NoonSquareModel", "thingMany", "I", false)
  | 45 => ("NoonSquareModel", "people", "I", false)
  | 46 => ("NoonSquareModel", "law", "I", false)
  | 47 => ("NoonSquareModel", "late", "I", false)
  | 48 => ("NoonSquareModel", "nHasLaw", "Z", false)
  | 49 => ("NoonSquareModel", "nHasLate", "Z", false)
  | 50 => ("NoonSquareModel", "owner", "[I", true)
  | 51 => ("NoonSquareModel", "left", "[I", true)
  | 52 => ("NoonSquareModel", "crowd", "[I", true)
  | 53 => ("NoonSquareModel", "worth", "[I", true)
  | 54 => ("NoonSquareModel", "where", "[I", true)
  | 55 => ("NoonSquareModel", "made", "[I", true)
  | 56 => ("NoonSquareModel", "eaten", "[Z", true)
  | 57 => ("NoonSquareModel", "days", "I", false)
  | 58 => ("NoonSquareModel", "w", "I", false)
  | 59 => ("NoonSquareModel", "lateDays", "I", false)
  | 60 => ("NoonSquareModel", "history", "[I", true)
  | 61 => ("NoonSquareModel", "keptOwner", "[I", true)
  | 62 => ("NoonSquareModel", "keptLeft", "[I", true)
  | 63 => ("NoonSquareModel", "keptCrowd", "[I", true)
  | 64 => ("NoonSquareModel", "keptWhere", "[I", true)
  | 65 => ("NoonSquareModel", "keptMade", "[I", true)
  | 66 => ("NoonSquareModel", "keptEaten", "[Z", true)
  | 67 => ("NoonSquareModel", "keptDays", "I", false)
  | 68 => ("NoonSquareModel", "keptW", "I", false)
  | 69 => ("NoonSquareModel", "keptLate", "I", false)
  | 70 => ("NoonSquareModel", "isTried", "Z", false)
  | 71 => ("NoonSquareModel", "ownerThen", "[I", true)
  | 72 => ("NoonSquareModel", "crowdThen", "[I", true)
  | 73 => ("NoonSquareModel", "aim", "[I", true)
  | 74 => ("NoonSquareModel", "walked", "[I", true)
  | 75 => ("NoonSquareModel", "dayThen", "I", false)
  | 76 => ("NoonSquareModel", "chanceOf", "I", false)
  | 77 => ("NoonSquareModel", "chanceSet", "I", false)
  | 78 => ("NoonSquareModel", "thenOwner", "I", false)
  | 79 => ("NoonSquareModel", "thenSet", "I", false)
  | 80 => ("NoonSquareModel", "thenEaten", "Z", false)
  | 81 => ("NoonSquareModel", "restMany", "I", false)
  | 82 => ("NoonSquareModel", "restMost", "I", false)
  | 83 => ("NoonSquareModel", "restLost", "I", false)
  | 84 => ("NoonSquareModel", "comes", "[J", true)
  | 85 => ("NoonSquareModel", "ahead", "[J", true)
  | 86 => ("NoonSquareModel", "usedHard", "I", false)
  | 87 => ("NoonSquareModel", "tours", "[I", true)
  | 88 => ("NoonSquareModel", "taleDay", "[I", true)
  | 89 => ("NoonSquareModel", "taleThing", "[I", true)
  | 90 => ("NoonSquareModel", "talePerson", "[I", true)
  | 91 => ("NoonSquareModel", "taleTold", "[I", true)
  | 92 => ("NoonSquareModel", "taleUntold", "[I", true)
  | 93 => ("NoonSquareModel", "tales", "I", false)
  | 94 => ("NoonSquareModel", "time", "I", false)
  | 95 => ("NoonSquareModel", "hasBox", "[Z", true)
  | 96 => ("NoonSquareModel", "boxEaten", "[Z", true)
  | 97 => ("NoonSquareModel", "boxThing", "[I", true)
  | 98 => ("NoonSquareModel", "boxWhere", "[I", true)
  | 99 => ("NoonSquareModel", "boxMade", "[I", true)
  | 100 => ("NoonSquareModel", "boxHistory", "[I", true)
  | 101 => ("NoonSquareModel", "boxDays", "[I", true)
  | 102 => ("NoonSquareModel", "boxW", "[I", true)
  | _ => ("NoonSquareModel", "boxLate", "[I", true)
def tyX12 : Nat → FieldType := fun k => match k with
  | 0 => .array .int
  | 1 => .int
  | 2 => .int
  | 3 => .int
  | 4 => .int
  | 5 => .int
  | 6 => .int
  | 7 => .int
  | 8 => .int
  | 9 => .long
  | 10 => .array .int
  | 11 => .array .int
  | 12 => .array .int
  | 13 => .array .int
  | 14 => .array .int
  | 15 => .array .int
  | 16 => .array .int
  | 17 => .array .int
  | 18 => .array .int
  | 19 => .int
  | 20 => .int
  | 21 => .int
  | 22 => .int
  | 23 => .int
  | 24 => .array .long
  | 25 => .array .long
  | 26 => .array .long
  | 27 => .array .int
  | 28 => .array .int
  | 29 => .array .int
  | 30 => .array .int
  | 31 => .array .int
  | 32 => .array .int
  | 33 => .array .int
  | 34 => .array .int
  | 35 => .array .int
  | 36 => .int
  | 37 => .int
  | 38 => .int
  | 39 => .int
  | 40 => .int
  | 41 => .int
  | 42 => .int
  | 43 => .int
  | 44 => .int
  | 45 => .int
  | 46 => .int
  | 47 => .int
  | 48 => .boolean
  | 49 => .boolean
  | 50 => .array .int
  | 51 => .array .int
  | 52 => .array .int
  | 53 => .array .int
  | 54 => .array .int
  | 55 => .array .int
  | 56 => .array .boolean
  | 57 => .int
  | 58 => .int
  | 59 => .int
  | 60 => .array .int
  | 61 => .array .int
  | 62 => .array .int
  | 63 => .array .int
  | 64 => .array .int
  | 65 => .array .int
  | 66 => .array .boolean
  | 67 => .int
  | 68 => .int
  | 69 => .int
  | 70 => .boolean
  | 71 => .array .int
  | 72 => .array .int
  | 73 => .array .int
  | 74 => .array .int
  | 75 => .int
  | 76 => .int
  | 77 => .int
  | 78 => .int
  | 79 => .int
  | 80 => .boolean
  | 81 => .int
  | 82 => .int
  | 83 => .int
  | 84 => .array .long
  | 85 => .array .long
  | 86 => .int
  | 87 => .array .int
  | 88 => .array .int
  | 89 => .array .int
  | 90 => .array .int
  | 91 => .array .int
  | 92 => .array .int
  | 93 => .int
  | 94 => .int
  | 95 => .array .boolean
  | 96 => .array .boolean
  | 97 => .array .int
  | 98 => .array .int
  | 99 => .array .int
  | 100 => .array .int
  | 101 => .array .int
  | 102 => .array .int
  | _ => .array .int
theorem nmX12 : ∀ a, a < 104 → ∀ b, b < 104 → a ≠ b → (TX12 a).2.1 ≠ (TX12 b).2.1 := by decide +kernel
theorem tyX12_ok : ∀ k, k < 104 → parseFieldDescriptor (TX12 k).2.2.1 = some (tyX12 k) := by decide +kernel
abbrev cX12_init : ByteArray := prog_14_method_1_code
def yX12_init : MethodName := ⟨RX12, "<init>", "()V"⟩
abbrev cX12_feed : ByteArray := prog_14_method_2_code
def yX12_feed : MethodName := ⟨RX12, "feed", "(IIIII)I"⟩
abbrev cX12_four : ByteArray := prog_14_method_3_code
def yX12_four : MethodName := ⟨RX12, "four", "(I)V"⟩
abbrev cX12_end : ByteArray := prog_14_method_4_code
def yX12_end : MethodName := ⟨RX12, "end", "(I)I"⟩
abbrev cX12_here : ByteArray := prog_14_method_5_code
def yX12_here : MethodName := ⟨RX12, "here", "(I)I"⟩
abbrev cX12_isLetter : ByteArray := prog_14_method_6_code
def yX12_isLetter : MethodName := ⟨RX12, "isLetter", "(I)Z"⟩
abbrev cX12_isDigit : ByteArray := prog_14_method_7_code
def yX12_isDigit : MethodName := ⟨RX12, "isDigit", "(I)Z"⟩
abbrev cX12_isSign : ByteArray := prog_14_method_8_code
def yX12_isSign : MethodName := ⟨RX12, "isSign", "(I)Z"⟩
abbrev cX12_token : ByteArray := prog_14_method_9_code
def yX12_token : MethodName := ⟨RX12, "token", "()V"⟩
abbrev cX12_wrong : ByteArray := prog_14_method_10_code
def yX12_wrong : MethodName := ⟨RX12, "wrong", "(I)V"⟩
abbrev cX12_isWord : ByteArray := prog_14_method_11_code
def yX12_isWord : MethodName := ⟨RX12, "isWord", "(J)Z"⟩
abbrev cX12_isName : ByteArray := prog_14_method_12_code
def yX12_isName : MethodName := ⟨RX12, "isName", "()Z"⟩
abbrev cX12_want : ByteArray := prog_14_method_13_code
def yX12_want : MethodName := ⟨RX12, "want", "(J)V"⟩
abbrev cX12_toldNumber : ByteArray := prog_14_method_14_code
def yX12_toldNumber : MethodName := ⟨RX12, "toldNumber", "(II)I"⟩
abbrev cX12_told : ByteArray := prog_14_method_15_code
def yX12_told : MethodName := ⟨RX12, "told", "(JII)I"⟩
abbrev cX12_note : ByteArray := prog_14_method_16_code
def yX12_note : MethodName := ⟨RX12, "note", "(II)V"⟩
abbrev cX12_upper : ByteArray := prog_14_method_17_code
def yX12_upper : MethodName := ⟨RX12, "upper", "()I"⟩
abbrev cX12_hold : ByteArray := prog_14_method_18_code
def yX12_hold : MethodName := ⟨RX12, "hold", "(I)V"⟩
abbrev cX12_pop : ByteArray := prog_14_method_19_code
def yX12_pop : MethodName := ⟨RX12, "pop", "()V"⟩
abbrev cX12_rank : ByteArray := prog_14_method_20_code
def yX12_rank : MethodName := ⟨RX12, "rank", "(I)I"⟩
abbrev cX12_settle : ByteArray := prog_14_method_21_code
def yX12_settle : MethodName := ⟨RX12, "settle", "(I)V"⟩
abbrev cX12_isOpen : ByteArray := prog_14_method_22_code
def yX12_isOpen : MethodName := ⟨RX12, "isOpen", "()Z"⟩
abbrev cX12_known : ByteArray := prog_14_method_23_code
def yX12_known : MethodName := ⟨RX12, "known", "()I"⟩
abbrev cX12_operand : ByteArray := prog_14_method_24_code
def yX12_operand : MethodName := ⟨RX12, "operand", "(I)I"⟩
abbrev cX12_signOf : ByteArray := prog_14_method_25_code
def yX12_signOf : MethodName := ⟨RX12, "signOf", "()I"⟩
abbrev cX12_sign : ByteArray := prog_14_method_26_code
def yX12_sign : MethodName := ⟨RX12, "sign", "()I"⟩
abbrev cX12_readStands : ByteArray := prog_14_method_27_code
def yX12_readStands : MethodName := ⟨RX12, "readStands", "()V"⟩
abbrev cX12_find : ByteArray := prog_14_method_28_code
def yX12_find : MethodName := ⟨RX12, "find", "([JIJ)I"⟩
abbrev cX12_newName : ByteArray := prog_14_method_29_code
def yX12_newName : MethodName := ⟨RX12, "newName", "([JI)J"⟩
abbrev cX12_oldPlace : ByteArray := prog_14_method_30_code
def yX12_oldPlace : MethodName := ⟨RX12, "oldPlace", "()I"⟩
abbrev cX12_atPlace : ByteArray := prog_14_method_31_code
def yX12_atPlace : MethodName := ⟨RX12, "atPlace", "()I"⟩
abbrev cX12_readPlace : ByteArray := prog_14_method_32_code
def yX12_readPlace : MethodName := ⟨RX12, "readPlace", "()V"⟩
abbrev cX12_readRoad : ByteArray := prog_14_method_33_code
def yX12_readRoad : MethodName := ⟨RX12, "readRoad", "()V"⟩
abbrev cX12_readThing : ByteArray := prog_14_method_34_code
def yX12_readThing : MethodName := ⟨RX12, "readThing", "()V"⟩
abbrev cX12_readPerson : ByteArray := prog_14_method_35_code
def yX12_readPerson : MethodName := ⟨RX12, "readPerson", "()V"⟩
abbrev cX12_readLaw : ByteArray := prog_14_method_36_code
def yX12_readLaw : MethodName := ⟨RX12, "readLaw", "()V"⟩
abbrev cX12_readLate : ByteArray := prog_14_method_37_code
def yX12_readLate : MethodName := ⟨RX12, "readLate", "()V"⟩
abbrev cX12_readLine : ByteArray := prog_14_method_38_code
def yX12_readLine : MethodName := ⟨RX12, "readLine", "()V"⟩
abbrev cX12_valley : ByteArray := prog_14_method_39_code
def yX12_valley : MethodName := ⟨RX12, "valley", "()I"⟩
abbrev cX12_fault : ByteArray := prog_14_method_40_code
def yX12_fault : MethodName := ⟨RX12, "fault", "(I)I"⟩
abbrev cX12_layFar : ByteArray := prog_14_method_41_code
def yX12_layFar : MethodName := ⟨RX12, "layFar", "()V"⟩
abbrev cX12_farOf : ByteArray := prog_14_method_42_code
def yX12_farOf : MethodName := ⟨RX12, "farOf", "(II)I"⟩
abbrev cX12_isPlace : ByteArray := prog_14_method_43_code
def yX12_isPlace : MethodName := ⟨RX12, "isPlace", "(I)Z"⟩
abbrev cX12_isThing : ByteArray := prog_14_method_44_code
def yX12_isThing : MethodName := ⟨RX12, "isThing", "(I)Z"⟩
abbrev cX12_isPerson : ByteArray := prog_14_method_45_code
def yX12_isPerson : MethodName := ⟨RX12, "isPerson", "(I)Z"⟩
abbrev cX12_far : ByteArray := prog_14_method_46_code
def yX12_far : MethodName := ⟨RX12, "far", "(II)I"⟩
abbrev cX12_placeOf : ByteArray := prog_14_method_47_code
def yX12_placeOf : MethodName := ⟨RX12, "placeOf", "(I)I"⟩
abbrev cX12_heavyOf : ByteArray := prog_14_method_48_code
def yX12_heavyOf : MethodName := ⟨RX12, "heavyOf", "(I)I"⟩
abbrev cX12_forceOf : ByteArray := prog_14_method_49_code
def yX12_forceOf : MethodName := ⟨RX12, "forceOf", "(I)I"⟩
abbrev cX12_hardOf : ByteArray := prog_14_method_50_code
def yX12_hardOf : MethodName := ⟨RX12, "hardOf", "(I)I"⟩
abbrev cX12_fresh : ByteArray := prog_14_method_51_code
def yX12_fresh : MethodName := ⟨RX12, "fresh", "()V"⟩
abbrev cX12_put : ByteArray := prog_14_method_52_code
def yX12_put : MethodName := ⟨RX12, "put", "()V"⟩
abbrev cX12_bring : ByteArray := prog_14_method_53_code
def yX12_bring : MethodName := ⟨RX12, "bring", "()V"⟩
abbrev cX12_draw : ByteArray := prog_14_method_54_code
def yX12_draw : MethodName := ⟨RX12, "draw", "(I)I"⟩
abbrev cX12_use : ByteArray := prog_14_method_55_code
def yX12_use : MethodName := ⟨RX12, "use", "(I)V"⟩
abbrev cX12_lower : ByteArray := prog_14_method_56_code
def yX12_lower : MethodName := ⟨RX12, "lower", "(III)I"⟩
abbrev cX12_mend : ByteArray := prog_14_method_57_code
def yX12_mend : MethodName := ⟨RX12, "mend", "(I)V"⟩
abbrev cX12_useAndMend : ByteArray := prog_14_method_58_code
def yX12_useAndMend : MethodName := ⟨RX12, "useAndMend", "()V"⟩
abbrev cX12_beginNoons : ByteArray := prog_14_method_59_code
def yX12_beginNoons : MethodName := ⟨RX12, "beginNoons", "(I)V"⟩
abbrev cX12_worked : ByteArray := prog_14_method_60_code
def yX12_worked : MethodName := ⟨RX12, "worked", "(III)I"⟩
abbrev cX12_asksOf : ByteArray := prog_14_method_61_code
def yX12_asksOf : MethodName := ⟨RX12, "asksOf", "(III)I"⟩
abbrev cX12_aimOf : ByteArray := prog_14_method_62_code
def yX12_aimOf : MethodName := ⟨RX12, "aimOf", "(IIII)I"⟩
abbrev cX12_goTo : ByteArray := prog_14_method_63_code
def yX12_goTo : MethodName := ⟨RX12, "goTo", "(III)V"⟩
abbrev cX12_takersOf : ByteArray := prog_14_method_64_code
def yX12_takersOf : MethodName := ⟨RX12, "takersOf", "(I)I"⟩
abbrev cX12_standersOf : ByteArray := prog_14_method_65_code
def yX12_standersOf : MethodName := ⟨RX12, "standersOf", "(I)I"⟩
abbrev cX12_ones : ByteArray := prog_14_method_66_code
def yX12_ones : MethodName := ⟨RX12, "ones", "(I)I"⟩
abbrev cX12_firstBy : ByteArray := prog_14_method_67_code
def yX12_firstBy : MethodName := ⟨RX12, "firstBy", "(II)I"⟩
abbrev cX12_nth : ByteArray := prog_14_method_68_code
def yX12_nth : MethodName := ⟨RX12, "nth", "(II)I"⟩
abbrev cX12_giveBy : ByteArray := prog_14_method_69_code
def yX12_giveBy : MethodName := ⟨RX12, "giveBy", "(II)V"⟩
abbrev cX12_noonOf : ByteArray := prog_14_method_70_code
def yX12_noonOf : MethodName := ⟨RX12, "noonOf", "(II)V"⟩
abbrev cX12_doNoons : ByteArray := prog_14_method_71_code
def yX12_doNoons : MethodName := ⟨RX12, "doNoons", "(IZ)V"⟩
abbrev cX12_doDay : ByteArray := prog_14_method_72_code
def yX12_doDay : MethodName := ⟨RX12, "doDay", "(I)V"⟩
abbrev cX12_allMade : ByteArray := prog_14_method_73_code
def yX12_allMade : MethodName := ⟨RX12, "allMade", "()I"⟩
abbrev cX12_run : ByteArray := prog_14_method_74_code
def yX12_run : MethodName := ⟨RX12, "run", "(I)I"⟩
abbrev cX12_thing : ByteArray := prog_14_method_75_code
def yX12_thing : MethodName := ⟨RX12, "thing", "(II)I"⟩
abbrev cX12_ownedBy : ByteArray := prog_14_method_76_code
def yX12_ownedBy : MethodName := ⟨RX12, "ownedBy", "(I)I"⟩
abbrev cX12_person : ByteArray := prog_14_method_77_code
def yX12_person : MethodName := ⟨RX12, "person", "(II)I"⟩
abbrev cX12_give : ByteArray := prog_14_method_78_code
def yX12_give : MethodName := ⟨RX12, "give", "(II)Z"⟩
abbrev cX12_chip : ByteArray := prog_14_method_79_code
def yX12_chip : MethodName := ⟨RX12, "chip", "(II)I"⟩
abbrev cX12_asks : ByteArray := prog_14_method_80_code
def yX12_asks : MethodName := ⟨RX12, "asks", "(II)I"⟩
abbrev cX12_common : ByteArray := prog_14_method_81_code
def yX12_common : MethodName := ⟨RX12, "common", "(JJ)J"⟩
abbrev cX12_seekThen : ByteArray := prog_14_method_82_code
def yX12_seekThen : MethodName := ⟨RX12, "seekThen", "(IZ)V"⟩
abbrev cX12_sixtieths : ByteArray := prog_14_method_83_code
def yX12_sixtieths : MethodName := ⟨RX12, "sixtieths", "(I)I"⟩
abbrev cX12_chanceIn : ByteArray := prog_14_method_84_code
def yX12_chanceIn : MethodName := ⟨RX12, "chanceIn", "(II)I"⟩
abbrev cX12_chance : ByteArray := prog_14_method_85_code
def yX12_chance : MethodName := ⟨RX12, "chance", "(III)I"⟩
abbrev cX12_keeps : ByteArray := prog_14_method_86_code
def yX12_keeps : MethodName := ⟨RX12, "keeps", "(I)I"⟩
abbrev cX12_mayStand : ByteArray := prog_14_method_87_code
def yX12_mayStand : MethodName := ⟨RX12, "mayStand", "(II)Z"⟩
abbrev cX12_choose : ByteArray := prog_14_method_88_code
def yX12_choose : MethodName := ⟨RX12, "choose", "(II)V"⟩
abbrev cX12_payOf : ByteArray := prog_14_method_89_code
def yX12_payOf : MethodName := ⟨RX12, "payOf", "(I)I"⟩
abbrev cX12_lostOf : ByteArray := prog_14_method_90_code
def yX12_lostOf : MethodName := ⟨RX12, "lostOf", "(I)I"⟩
abbrev cX12_isAtRest : ByteArray := prog_14_method_91_code
def yX12_isAtRest : MethodName := ⟨RX12, "isAtRest", "()Z"⟩
abbrev cX12_isTooMany : ByteArray := prog_14_method_92_code
def yX12_isTooMany : MethodName := ⟨RX12, "isTooMany", "()Z"⟩
abbrev cX12_layRow : ByteArray := prog_14_method_93_code
def yX12_layRow : MethodName := ⟨RX12, "layRow", "(I)Z"⟩
abbrev cX12_seekRest : ByteArray := prog_14_method_94_code
def yX12_seekRest : MethodName := ⟨RX12, "seekRest", "(I)I"⟩
abbrev cX12_rest : ByteArray := prog_14_method_95_code
def yX12_rest : MethodName := ⟨RX12, "rest", "(I)I"⟩
abbrev cX12_stands : ByteArray := prog_14_method_96_code
def yX12_stands : MethodName := ⟨RX12, "stands", "(II)I"⟩
abbrev cX12_madeBy : ByteArray := prog_14_method_97_code
def yX12_madeBy : MethodName := ⟨RX12, "madeBy", "(II)I"⟩
abbrev cX12_isTerm : ByteArray := prog_14_method_98_code
def yX12_isTerm : MethodName := ⟨RX12, "isTerm", "(I)Z"⟩
abbrev cX12_made : ByteArray := prog_14_method_99_code
def yX12_made : MethodName := ⟨RX12, "made", "(II)I"⟩
abbrev cX12_law : ByteArray := prog_14_method_100_code
def yX12_law : MethodName := ⟨RX12, "law", "(I)I"⟩
abbrev cX12_usedOf : ByteArray := prog_14_method_101_code
def yX12_usedOf : MethodName := ⟨RX12, "usedOf", "(IIII)J"⟩
abbrev cX12_bestUse : ByteArray := prog_14_method_102_code
def yX12_bestUse : MethodName := ⟨RX12, "bestUse", "(III)J"⟩
abbrev cX12_used : ByteArray := prog_14_method_103_code
def yX12_used : MethodName := ⟨RX12, "used", "(IIII)I"⟩
abbrev cX12_lift : ByteArray := prog_14_method_104_code
def yX12_lift : MethodName := ⟨RX12, "lift", "(II)I"⟩
abbrev cX12_hasThing : ByteArray := prog_14_method_105_code
def yX12_hasThing : MethodName := ⟨RX12, "hasThing", "(I)Z"⟩
abbrev cX12_tour : ByteArray := prog_14_method_106_code
def yX12_tour : MethodName := ⟨RX12, "tour", "(I)I"⟩
abbrev cX12_since : ByteArray := prog_14_method_107_code
def yX12_since : MethodName := ⟨RX12, "since", "(I)I"⟩
abbrev cX12_tale : ByteArray := prog_14_method_108_code
def yX12_tale : MethodName := ⟨RX12, "tale", "(III)I"⟩
abbrev cX12_untell : ByteArray := prog_14_method_109_code
def yX12_untell : MethodName := ⟨RX12, "untell", "(I)Z"⟩
abbrev cX12_later : ByteArray := prog_14_method_110_code
def yX12_later : MethodName := ⟨RX12, "later", "(I)I"⟩
abbrev cX12_counts : ByteArray := prog_14_method_111_code
def yX12_counts : MethodName := ⟨RX12, "counts", "(II)Z"⟩
abbrev cX12_isFalse : ByteArray := prog_14_method_112_code
def yX12_isFalse : MethodName := ⟨RX12, "isFalse", "(I)Z"⟩
abbrev cX12_isDouble : ByteArray := prog_14_method_113_code
def yX12_isDouble : MethodName := ⟨RX12, "isDouble", "(II)Z"⟩
abbrev cX12_judge : ByteArray := prog_14_method_114_code
def yX12_judge : MethodName := ⟨RX12, "judge", "(II)I"⟩
abbrev cX12_seed : ByteArray := prog_14_method_115_code
def yX12_seed : MethodName := ⟨RX12, "seed", "(I)I"⟩
abbrev cX12_isBox : ByteArray := prog_14_method_116_code
def yX12_isBox : MethodName := ⟨RX12, "isBox", "(I)Z"⟩
abbrev cX12_image : ByteArray := prog_14_method_117_code
def yX12_image : MethodName := ⟨RX12, "image", "(I)I"⟩
abbrev cX12_back : ByteArray := prog_14_method_118_code
def yX12_back : MethodName := ⟨RX12, "back", "(I)I"⟩
abbrev cX12_about : ByteArray := prog_14_method_119_code
def yX12_about : MethodName := ⟨RX12, "about", "(I)I"⟩
def RJ6 : String := "java/lang/Integer"
abbrev cJ6_bitCount_0f7a4 : ByteArray := prog_15_method_49_code
def yJ6_bitCount_0f7a4 : MethodName := ⟨RJ6, "bitCount", "(I)I"⟩
def RJ9 : String := "java/lang/Math"
abbrev cJ9_max_7cf53 : ByteArray := prog_16_method_65_code
def yJ9_max_7cf53 : MethodName := ⟨RJ9, "max", "(II)I"⟩
abbrev cJ9_min_7cf53 : ByteArray := prog_16_method_69_code
def yJ9_min_7cf53 : MethodName := ⟨RJ9, "min", "(II)I"⟩
def RJ0 : String := "java/lang/String"
abbrev cJ0_charAt_5068e : ByteArray := prog_17_method_56_code
def yJ0_charAt_5068e : MethodName := ⟨RJ0, "charAt", "(I)C"⟩
abbrev cJ0_isLatin1_aae02 : ByteArray := prog_17_method_154_code
def yJ0_isLatin1_aae02 : MethodName := ⟨RJ0, "isLatin1", "()Z"⟩
abbrev cJ0_checkIndex_df160 : ByteArray := prog_17_method_155_code
def yJ0_checkIndex_df160 : MethodName := ⟨RJ0, "checkIndex", "(II)V"⟩
def RJ1 : String := "java/lang/StringLatin1"
abbrev cJ1_charAt_3b067 : ByteArray := prog_18_method_2_code
def yJ1_charAt_3b067 : MethodName := ⟨RJ1, "charAt", "([BI)C"⟩
def RJ2 : String := "java/lang/StringUTF16"
abbrev cJ2_getChar_3b067 : ByteArray := prog_19_method_5_code
def yJ2_getChar_3b067 : MethodName := ⟨RJ2, "getChar", "([BI)C"⟩
abbrev cJ2_length_9d52b : ByteArray := prog_19_method_6_code
def yJ2_length_9d52b : MethodName := ⟨RJ2, "length", "([B)I"⟩
abbrev cJ2_charAt_3b067 : ByteArray := prog_19_method_83_code
def yJ2_charAt_3b067 : MethodName := ⟨RJ2, "charAt", "([BI)C"⟩
abbrev cJ2_checkIndex_2214a : ByteArray := prog_19_method_91_code
def yJ2_checkIndex_2214a : MethodName := ⟨RJ2, "checkIndex", "(I[B)V"⟩
def RJ10 : String := "java/lang/System"
def RJ3 : String := "jdk/internal/util/Preconditions"
abbrev cJ3_checkIndex_8e157 : ByteArray := prog_21_method_11_code
def yJ3_checkIndex_8e157 : MethodName := ⟨RJ3, "checkIndex", "(IILjava/util/function/BiFunction;)I"⟩
def RL : String := "NoonSquareLaw"
abbrev cL_law : ByteArray := code
def yL_law : MethodName := ⟨RL, "law", "([I)Z"⟩
abbrev vwCl : List vw_C := [(RX0, TX0, 7), (RX1, TX1, 7), (RX2, TX2, 11), (RX3, TX3, 9), (RX4, TX4, 6), (RX5, TX5, 9), (RX6, TX6, 6), (RX7, TX7, 2), (RX8, TX8, 7), (RX9, TX9, 7), (RX10, TX10, 17), (RX11, TX11, 12), (RX12, TX12, 104)]
